def f_X11_own_28 (x1 x2 : Int32) (S : Mm) : Option (Int32 × Mm) :=
  (f_X11_comesTo x1 x2 (0 : Int32) S).bind fun S_1 =>
  (f_X11_endsLoan x1 S_1).bind fun S_2 =>
  nm (uM S_2 239 3 (0 : Int32)) fun S_3 =>
  some ((1 : Int32), S_3)
set_option maxRecDepth 20000 in
theorem b_X11_own_28 {X : CX} {E : FE} (M0 : MF X E RX11 cX11_own 3 3 (some .boolean)) (x1 x2 : Int32) (S : Mm) : At X E false (mQi X Z1 E) 28 [some (.ref 239), some (.int x1), some (.int x2)] [] Z1 S 0 0 (f_X11_own_28 x1 x2 S) := by
  have F := M0.1
  unfold f_X11_own_28
  refine a_aload_n F dX11_own_28 rfl rfl ?_
  refine a_iload_n F dX11_own_29 rfl rfl ?_
  refine a_iload_n F dX11_own_30 rfl rfl ?_
  refine a_iconst F dX11_own_31 ki_0 ?_
  refine a_callVV F (As := [.int x1, .int x2, .int (0 : Int32)]) cfX11 rfl (c_X11_comesTo X x1 x2 (0 : Int32) S) mw_X11_comesTo ml_X11_166 im_X11_comesTo se_X11_comesTo M0.2.1 (Nat.le_of_ble_eq_true rfl) ⟨Nat.zero_le _, Nat.zero_le _⟩ rfl rfl (Nat.le_of_ble_eq_true rfl) zl_239 zk_239 dX11_own_32 rfl (fun S_1 => ?_)
  refine a_aload_n F dX11_own_35 rfl rfl ?_
  refine a_iload_n F dX11_own_36 rfl rfl ?_
  refine a_callVV F (As := [.int x1]) cfX11 rfl (c_X11_endsLoan X x1 S_1) mw_X11_endsLoan ml_X11_170 im_X11_endsLoan se_X11_endsLoan M0.2.1 (Nat.le_of_ble_eq_true rfl) ⟨Nat.zero_le _, Nat.zero_le _⟩ rfl rfl (Nat.le_of_ble_eq_true rfl) zl_239 zk_239 dX11_own_37 rfl (fun S_2 => ?_)
  refine a_aload_n F dX11_own_40 rfl rfl ?_
  refine a_iconst F dX11_own_41 ki_0 ?_
  refine a_putI (k := 3) F cfX11 dX11_own_42 fl_X11_110 (by decide) fi_11_3 rfl rfl zl_239 zk_239 ?_
  refine a_nmS (fun S_3 => ?_)
  refine a_iconst F dX11_own_45 ki_1 ?_
  exact a_zretK F M0.2.2.1 M0.2.2.2 dX11_own_46 (Or.inr rfl)
def f_X11_own (p1 p2 : Int32) (S : Mm) : Option (Int32 × Mm) :=
  nm (uM S 239 0 (0 : Int32)) fun S_1 =>
  (f_X11_isLetter28 p1 S_1).bind fun q_2 =>
  if q_2.1 = 0 then (
   some ((0 : Int32), q_2.2)
  ) else (
   if p2 = (-1 : Int32) then (
    f_X11_own_28 p1 p2 q_2.2
   ) else (
    (f_X11_isLiving p2 q_2.2).bind fun q_3 =>
    if q_3.1 = 0 then (
     some ((0 : Int32), q_3.2)
    ) else (
     f_X11_own_28 p1 p2 q_3.2
    )
   )
  )
set_option maxRecDepth 20000 in
theorem b_X11_own {X : CX} {E : FE} (M0 : MF X E RX11 cX11_own 3 3 (some .boolean)) (p1 p2 : Int32) (S : Mm) : At X E false (mQi X Z1 E) 0 [some (.ref 239), some (.int p1), some (.int p2)] [] Z1 S 0 0 (f_X11_own p1 p2 S) := by
  have F := M0.1
  unfold f_X11_own
  refine a_aload_n F dX11_own_0 rfl rfl ?_
  refine a_iconst F dX11_own_1 ki_0 ?_
  refine a_putI (k := 0) F cfX11 dX11_own_2 fl_X11_107 (by decide) fi_11_0 rfl rfl zl_239 zk_239 ?_
  refine a_nmS (fun S_1 => ?_)
  refine a_aload_n F dX11_own_5 rfl rfl ?_
  refine a_iload_n F dX11_own_6 rfl rfl ?_
  refine a_callVI F (As := [.int p1]) cfX11 rfl (c_X11_isLetter28 X p1 S_1) mw_X11_isLetter28 ml_X11_163 im_X11_isLetter28 se_X11_isLetter28 M0.2.1 (Nat.le_of_ble_eq_true rfl) ⟨Nat.zero_le _, Nat.zero_le _⟩ rfl rfl (Nat.le_of_ble_eq_true rfl) zl_239 zk_239 dX11_own_7 rfl (fun q_2 => ?_)
  refine a_if_eq F 26 dX11_own_10 (by decide) ?_ ?_
  · refine a_iconst F dX11_own_26 ki_0 ?_
    exact a_zretK F M0.2.2.1 M0.2.2.2 dX11_own_27 (Or.inl rfl)
  · refine a_iload_n F dX11_own_13 rfl rfl ?_
    refine a_iconst F dX11_own_14 ki_m1 ?_
    refine a_icmp_eq F 28 dX11_own_15 (by decide) ?_ ?_
    · exact b_X11_own_28 M0 p1 p2 q_2.2
    · refine a_aload_n F dX11_own_18 rfl rfl ?_
      refine a_iload_n F dX11_own_19 rfl rfl ?_
      refine a_callVI F (As := [.int p2]) cfX11 rfl (c_X11_isLiving X p2 q_2.2) mw_X11_isLiving ml_X11_151 im_X11_isLiving se_X11_isLiving M0.2.1 (Nat.le_of_ble_eq_true rfl) ⟨Nat.zero_le _, Nat.zero_le _⟩ rfl rfl (Nat.le_of_ble_eq_true rfl) zl_239 zk_239 dX11_own_20 rfl (fun q_3 => ?_)
      refine a_if_ne F 28 dX11_own_23 (by decide) ?_ ?_
      · refine a_iconst F dX11_own_26 ki_0 ?_
        exact a_zretK F M0.2.2.1 M0.2.2.2 dX11_own_27 (Or.inl rfl)
      · exact b_X11_own_28 M0 p1 p2 q_3.2
theorem c_X11_own (X : CX) (p1 p2 : Int32) (S : Mm) : CtI X Z1 yX11_own cX11_own 3 (some .boolean) 3 [.ref 239, .int p1, .int p2] S (f_X11_own p1 p2 S) :=
  ctI_of (by decide +kernel) rfl (Nat.le_of_ble_eq_true rfl) (by simp [Value.category]) z1len fun E F R hra hlk => b_X11_own ⟨F, R, hra, hlk⟩ p1 p2 S
def f_X11_part (p1 p2 : Int32) (S : Mm) : Option (Int32 × Mm) :=
  nm (uM S 239 0 (0 : Int32)) fun S_1 =>
  (f_X11_isPerson p1 S_1).bind fun q_2 =>
  if q_2.1 = 0 then (
   some ((0 : Int32), q_2.2)
  ) else (
   (f_X11_isPerson p2 q_2.2).bind fun q_3 =>
   if q_3.1 = 0 then (
    some ((0 : Int32), q_3.2)
   ) else (
    if p1 = p2 then (
     some ((0 : Int32), q_3.2)
    ) else (
     (f_X11_spouseOf p1 q_3.2).bind fun q_4 =>
     if q_4.1 = p2 then (
      (f_X11_spouseOf p2 q_4.2).bind fun q_5 =>
      if q_5.1 = p1 then (
       (f_X11_keepsAhead q_5.2).bind fun S_6 =>
       gd (inB ((112 : Int32) + p1) 148 = true) <|
       nm (uM S_6 240 (ix ((112 : Int32) + p1)) (0 : Int32)) fun S_7 =>
       gd (inB ((112 : Int32) + p2) 148 = true) <|
       nm (uM S_7 240 (ix ((112 : Int32) + p2)) (0 : Int32)) fun S_8 =>
       (f_X11_findsKin S_8).bind fun S_9 =>
       some ((1 : Int32), S_9)
      ) else (
       some ((0 : Int32), q_5.2)
      )
     ) else (
      some ((0 : Int32), q_4.2)
     )
    )
   )
  )
set_option maxRecDepth 20000 in
theorem b_X11_part {X : CX} {E : FE} (M0 : MF X E RX11 cX11_part 3 3 (some .boolean)) (p1 p2 : Int32) (S : Mm) : At X E false (mQi X Z1 E) 0 [some (.ref 239), some (.int p1), some (.int p2)] [] Z1 S 0 0 (f_X11_part p1 p2 S) := by
  have F := M0.1
  unfold f_X11_part
  refine a_aload_n F dX11_part_0 rfl rfl ?_
  refine a_iconst F dX11_part_1 ki_0 ?_
  refine a_putI (k := 0) F cfX11 dX11_part_2 fl_X11_107 (by decide) fi_11_0 rfl rfl zl_239 zk_239 ?_
  refine a_nmS (fun S_1 => ?_)
  refine a_aload_n F dX11_part_5 rfl rfl ?_
  refine a_iload_n F dX11_part_6 rfl rfl ?_
  refine a_callVI F (As := [.int p1]) cfX11 rfl (c_X11_isPerson X p1 S_1) mw_X11_isPerson ml_X11_128 im_X11_isPerson se_X11_isPerson M0.2.1 (Nat.le_of_ble_eq_true rfl) ⟨Nat.zero_le _, Nat.zero_le _⟩ rfl rfl (Nat.le_of_ble_eq_true rfl) zl_239 zk_239 dX11_part_7 rfl (fun q_2 => ?_)
  refine a_if_eq F 44 dX11_part_10 (by decide) ?_ ?_
  · refine a_iconst F dX11_part_44 ki_0 ?_
    exact a_zretK F M0.2.2.1 M0.2.2.2 dX11_part_45 (Or.inl rfl)
  · refine a_aload_n F dX11_part_13 rfl rfl ?_
    refine a_iload_n F dX11_part_14 rfl rfl ?_
    refine a_callVI F (As := [.int p2]) cfX11 rfl (c_X11_isPerson X p2 q_2.2) mw_X11_isPerson ml_X11_128 im_X11_isPerson se_X11_isPerson M0.2.1 (Nat.le_of_ble_eq_true rfl) ⟨Nat.zero_le _, Nat.zero_le _⟩ rfl rfl (Nat.le_of_ble_eq_true rfl) zl_239 zk_239 dX11_part_15 rfl (fun q_3 => ?_)
    refine a_if_eq F 44 dX11_part_18 (by decide) ?_ ?_
    · refine a_iconst F dX11_part_44 ki_0 ?_
      exact a_zretK F M0.2.2.1 M0.2.2.2 dX11_part_45 (Or.inl rfl)
    · refine a_iload_n F dX11_part_21 rfl rfl ?_
      refine a_iload_n F dX11_part_22 rfl rfl ?_
      refine a_icmp_eq F 44 dX11_part_23 (by decide) ?_ ?_
      · refine a_iconst F dX11_part_44 ki_0 ?_
        exact a_zretK F M0.2.2.1 M0.2.2.2 dX11_part_45 (Or.inl rfl)
      · refine a_aload_n F dX11_part_26 rfl rfl ?_
        refine a_iload_n F dX11_part_27 rfl rfl ?_
        refine a_callVI F (As := [.int p1]) cfX11 rfl (c_X11_spouseOf X p1 q_3.2) mw_X11_spouseOf ml_X11_139 im_X11_spouseOf se_X11_spouseOf M0.2.1 (Nat.le_of_ble_eq_true rfl) ⟨Nat.zero_le _, Nat.zero_le _⟩ rfl rfl (Nat.le_of_ble_eq_true rfl) zl_239 zk_239 dX11_part_28 rfl (fun q_4 => ?_)
        refine a_iload_n F dX11_part_31 rfl rfl ?_
        refine a_icmp_ne F 44 dX11_part_32 (by decide) ?_ ?_
        · refine a_aload_n F dX11_part_35 rfl rfl ?_
          refine a_iload_n F dX11_part_36 rfl rfl ?_
          refine a_callVI F (As := [.int p2]) cfX11 rfl (c_X11_spouseOf X p2 q_4.2) mw_X11_spouseOf ml_X11_139 im_X11_spouseOf se_X11_spouseOf M0.2.1 (Nat.le_of_ble_eq_true rfl) ⟨Nat.zero_le _, Nat.zero_le _⟩ rfl rfl (Nat.le_of_ble_eq_true rfl) zl_239 zk_239 dX11_part_37 rfl (fun q_5 => ?_)
          refine a_iload_n F dX11_part_40 rfl rfl ?_
          refine a_icmp_eq F 46 dX11_part_41 (by decide) ?_ ?_
          · refine a_aload_n F dX11_part_46 rfl rfl ?_
            refine a_callVV F (As := []) cfX11 rfl (c_X11_keepsAhead X q_5.2) mw_X11_keepsAhead ml_X11_357 im_X11_keepsAhead se_X11_keepsAhead M0.2.1 (Nat.le_of_ble_eq_true rfl) ⟨Nat.zero_le _, Nat.zero_le _⟩ rfl rfl (Nat.le_of_ble_eq_true rfl) zl_239 zk_239 dX11_part_47 rfl (fun S_6 => ?_)
            refine a_aload_n F dX11_part_50 rfl rfl ?_
            refine a_getR (k := 1) F cfX11 dX11_part_51 fl_X11_7 (by decide) fi_11_1 zl_239 zk_239 zr_239_1 ?_
            refine a_bipush F dX11_part_54 kb_112 ?_
            refine a_iload_n F dX11_part_56 rfl rfl ?_
            refine a_iadd F dX11_part_57 ?_
            refine a_iconst F dX11_part_58 ki_0 ?_
            refine a_gd (a_iast F dX11_part_59 zl_240 zk_240 ?_)
            refine a_nmS (fun S_7 => ?_)
            refine a_aload_n F dX11_part_60 rfl rfl ?_
            refine a_getR (k := 1) F cfX11 dX11_part_61 fl_X11_7 (by decide) fi_11_1 zl_239 zk_239 zr_239_1 ?_
            refine a_bipush F dX11_part_64 kb_112 ?_
            refine a_iload_n F dX11_part_66 rfl rfl ?_
            refine a_iadd F dX11_part_67 ?_
            refine a_iconst F dX11_part_68 ki_0 ?_
            refine a_gd (a_iast F dX11_part_69 zl_240 zk_240 ?_)
            refine a_nmS (fun S_8 => ?_)
            refine a_aload_n F dX11_part_70 rfl rfl ?_
            refine a_callVV F (As := []) cfX11 rfl (c_X11_findsKin X S_8) mw_X11_findsKin ml_X11_113 im_X11_findsKin se_X11_findsKin M0.2.1 (Nat.le_of_ble_eq_true rfl) ⟨Nat.zero_le _, Nat.zero_le _⟩ rfl rfl (Nat.le_of_ble_eq_true rfl) zl_239 zk_239 dX11_part_71 rfl (fun S_9 => ?_)
            refine a_iconst F dX11_part_74 ki_1 ?_
            exact a_zretK F M0.2.2.1 M0.2.2.2 dX11_part_75 (Or.inr rfl)
          · refine a_iconst F dX11_part_44 ki_0 ?_
            exact a_zretK F M0.2.2.1 M0.2.2.2 dX11_part_45 (Or.inl rfl)
        · refine a_iconst F dX11_part_44 ki_0 ?_
          exact a_zretK F M0.2.2.1 M0.2.2.2 dX11_part_45 (Or.inl rfl)
theorem c_X11_part (X : CX) (p1 p2 : Int32) (S : Mm) : CtI X Z1 yX11_part cX11_part 3 (some .boolean) 3 [.ref 239, .int p1, .int p2] S (f_X11_part p1 p2 S) :=
  ctI_of (by decide +kernel) rfl (Nat.le_of_ble_eq_true rfl) (by simp [Value.category]) z1len fun E F R hra hlk => b_X11_part ⟨F, R, hra, hlk⟩ p1 p2 S
def f_X11_canBeParent_13 (S : Mm) : Option (Int32 × Mm) :=
  some ((1 : Int32), S)
set_option maxRecDepth 20000 in
theorem b_X11_canBeParent_13 {X : CX} {E : FE} (M0 : MF X E RX11 cX11_canBeParent 2 2 (some .boolean)) (S : Mm) : At X E false (mQi X Z1 E) 13 [none, none] [] Z1 S 0 0 (f_X11_canBeParent_13 S) := by
  have F := M0.1
  unfold f_X11_canBeParent_13
  refine a_iconst F dX11_canBeParent_13 ki_1 ?_
  refine a_goto F 18 dX11_canBeParent_14 (by decide) ?_
  exact a_zretK F M0.2.2.1 M0.2.2.2 dX11_canBeParent_18 (Or.inr rfl)
def f_X11_canBeParent (p1 : Int32) (S : Mm) : Option (Int32 × Mm) :=
  if p1 = (-1 : Int32) then (
   f_X11_canBeParent_13 S
  ) else (
   (f_X11_isPerson p1 S).bind fun q_1 =>
   if q_1.1 = 0 then (
    some ((0 : Int32), q_1.2)
   ) else (
    f_X11_canBeParent_13 q_1.2
   )
  )
set_option maxRecDepth 20000 in
theorem b_X11_canBeParent {X : CX} {E : FE} (M0 : MF X E RX11 cX11_canBeParent 2 2 (some .boolean)) (p1 : Int32) (S : Mm) : At X E false (mQi X Z1 E) 0 [some (.ref 239), some (.int p1)] [] Z1 S 0 0 (f_X11_canBeParent p1 S) := by
  have F := M0.1
  unfold f_X11_canBeParent
  refine a_iload_n F dX11_canBeParent_0 rfl rfl ?_
  refine a_iconst F dX11_canBeParent_1 ki_m1 ?_
  refine a_icmp_eq F 13 dX11_canBeParent_2 (by decide) ?_ ?_
  · refine a_mask [false, false] (L' := [none, none]) rfl rfl ?_
    exact b_X11_canBeParent_13 M0 S
  · refine a_aload_n F dX11_canBeParent_5 rfl rfl ?_
    refine a_iload_n F dX11_canBeParent_6 rfl rfl ?_
    refine a_callVI F (As := [.int p1]) cfX11 rfl (c_X11_isPerson X p1 S) mw_X11_isPerson ml_X11_128 im_X11_isPerson se_X11_isPerson M0.2.1 (Nat.le_of_ble_eq_true rfl) ⟨Nat.zero_le _, Nat.zero_le _⟩ rfl rfl (Nat.le_of_ble_eq_true rfl) zl_239 zk_239 dX11_canBeParent_7 rfl (fun q_1 => ?_)
    refine a_if_eq F 17 dX11_canBeParent_10 (by decide) ?_ ?_
    · refine a_iconst F dX11_canBeParent_17 ki_0 ?_
      exact a_zretK F M0.2.2.1 M0.2.2.2 dX11_canBeParent_18 (Or.inl rfl)
    · refine a_mask [false, false] (L' := [none, none]) rfl rfl ?_
      exact b_X11_canBeParent_13 M0 q_1.2
theorem c_X11_canBeParent (X : CX) (p1 : Int32) (S : Mm) : CtI X Z1 yX11_canBeParent cX11_canBeParent 2 (some .boolean) 2 [.ref 239, .int p1] S (f_X11_canBeParent p1 S) :=
  ctI_of (by decide +kernel) rfl (Nat.le_of_ble_eq_true rfl) (by simp [Value.category]) z1len fun E F R hra hlk => b_X11_canBeParent ⟨F, R, hra, hlk⟩ p1 S
def f_X11_person_20 (x1 x2 x3 t0 : Int32) (S : Mm) : Option (Int32 × Mm) :=
  (f_X11_canBeParent x1 S).bind fun q_1 =>
  if q_1.1 = 0 then (
   some ((-1 : Int32), q_1.2)
  ) else (
   (f_X11_canBeParent x2 q_1.2).bind fun q_2 =>
   if q_2.1 = 0 then (
    some ((-1 : Int32), q_2.2)
   ) else (
    if t0 = 0 then (
     (f_X11_isIn x3 (0 : Int32) (99999 : Int32) q_2.2).bind fun q_3 =>
     if q_3.1 = 0 then (
      some ((-1 : Int32), q_3.2)
     ) else (
      if (q_3.2 239 6) = (12 : Int32) then (
       some ((-1 : Int32), q_3.2)
      ) else (
       nm ((q_3.2 239 6)) fun x5_4 =>
       gd (inB x5_4 12 = true) <|
       nm (uM q_3.2 243 (ix x5_4) (x1 + (1 : Int32))) fun S_5 =>
       gd (inB x5_4 12 = true) <|
       nm (uM S_5 244 (ix x5_4) (x2 + (1 : Int32))) fun S_6 =>
       gd (inB x5_4 12 = true) <|
       nm (uM S_6 245 (ix x5_4) (S_6 240 0)) fun S_7 =>
       gd (inB x5_4 12 = true) <|
       nm (uM S_7 246 (ix x5_4) (0 : Int32)) fun S_8 =>
       gd (inB x5_4 12 = true) <|
       nm (uM S_8 247 (ix x5_4) (0 : Int32)) fun S_9 =>
       nm (uM S_9 240 3 ((S_9 240 3) &&& ((shl (1 : Int32) x5_4) ^^^ (-1 : Int32)))) fun S_10 =>
       gd (inB ((88 : Int32) + x5_4) 148 = true) <|
       nm (uM S_10 240 (ix ((88 : Int32) + x5_4)) (0 : Int32)) fun S_11 =>
       gd (inB ((100 : Int32) + x5_4) 148 = true) <|
       nm (uM S_11 240 (ix ((100 : Int32) + x5_4)) x3) fun S_12 =>
       gd (inB ((112 : Int32) + x5_4) 148 = true) <|
       nm (uM S_12 240 (ix ((112 : Int32) + x5_4)) (0 : Int32)) fun S_13 =>
       gd (inB x5_4 12 = true) <|
       nm (uM S_13 258 (ix x5_4) (0 : Int32)) fun S_14 =>
       nm (uM S_14 239 6 ((S_14 239 6) + (1 : Int32))) fun S_15 =>
       (f_X11_findsKin S_15).bind fun S_16 =>
       nm (uM S_16 239 3 (0 : Int32)) fun S_17 =>
       some (x5_4, S_17)
      )
     )
    ) else (
     some ((-1 : Int32), q_2.2)
    )
   )
  )
set_option maxRecDepth 20000 in
theorem b_X11_person_20 {X : CX} {E : FE} (M0 : MF X E RX11 cX11_person 6 3 (some .int)) (x1 x2 x3 t0 : Int32) (S : Mm) : At X E false (mQi X Z1 E) 20 [some (.ref 239), some (.int x1), some (.int x2), some (.int x3), none, none] [.int t0] Z1 S 0 0 (f_X11_person_20 x1 x2 x3 t0 S) := by
  have F := M0.1
  unfold f_X11_person_20
  refine a_istore (L' := [some (.ref 239), some (.int x1), some (.int x2), some (.int x3), some (.int t0), none]) F dX11_person_20 (lt_b rfl) rfl ?_
  refine a_aload_n F dX11_person_22 rfl rfl ?_
  refine a_iload_n F dX11_person_23 rfl rfl ?_
  refine a_callVI F (As := [.int x1]) cfX11 rfl (c_X11_canBeParent X x1 S) mw_X11_canBeParent ml_X11_143 im_X11_canBeParent se_X11_canBeParent M0.2.1 (Nat.le_of_ble_eq_true rfl) ⟨Nat.zero_le _, Nat.zero_le _⟩ rfl rfl (Nat.le_of_ble_eq_true rfl) zl_239 zk_239 dX11_person_24 rfl (fun q_1 => ?_)
  refine a_if_eq F 63 dX11_person_27 (by decide) ?_ ?_
  · refine a_iconst F dX11_person_63 ki_m1 ?_
    exact a_iret F M0.2.2.1 M0.2.2.2 dX11_person_64
  · refine a_aload_n F dX11_person_30 rfl rfl ?_
    refine a_iload_n F dX11_person_31 rfl rfl ?_
    refine a_callVI F (As := [.int x2]) cfX11 rfl (c_X11_canBeParent X x2 q_1.2) mw_X11_canBeParent ml_X11_143 im_X11_canBeParent se_X11_canBeParent M0.2.1 (Nat.le_of_ble_eq_true rfl) ⟨Nat.zero_le _, Nat.zero_le _⟩ rfl rfl (Nat.le_of_ble_eq_true rfl) zl_239 zk_239 dX11_person_32 rfl (fun q_2 => ?_)
    refine a_if_eq F 63 dX11_person_35 (by decide) ?_ ?_
    · refine a_iconst F dX11_person_63 ki_m1 ?_
      exact a_iret F M0.2.2.1 M0.2.2.2 dX11_person_64
    · refine a_iload F dX11_person_38 rfl ?_
      refine a_if_ne F 63 dX11_person_40 (by decide) ?_ ?_
      · refine a_aload_n F dX11_person_43 rfl rfl ?_
        refine a_iload_n F dX11_person_44 rfl rfl ?_
        refine a_iconst F dX11_person_45 ki_0 ?_
        refine a_ldc F dX11_person_46 con_X11_146 ?_
        refine a_callVI F (As := [.int x3, .int (0 : Int32), .int (99999 : Int32)]) cfX11 rfl (c_X11_isIn X x3 (0 : Int32) (99999 : Int32) q_2.2) mw_X11_isIn ml_X11_147 im_X11_isIn se_X11_isIn M0.2.1 (Nat.le_of_ble_eq_true rfl) ⟨Nat.zero_le _, Nat.zero_le _⟩ rfl rfl (Nat.le_of_ble_eq_true rfl) zl_239 zk_239 dX11_person_48 rfl (fun q_3 => ?_)
        refine a_if_eq F 63 dX11_person_51 (by decide) ?_ ?_
        · refine a_iconst F dX11_person_63 ki_m1 ?_
          exact a_iret F M0.2.2.1 M0.2.2.2 dX11_person_64
        · refine a_aload_n F dX11_person_54 rfl rfl ?_
          refine a_getI (k := 6) F cfX11 dX11_person_55 fl_X11_122 (by decide) fi_11_6 zl_239 zk_239 ?_
          refine a_bipush F dX11_person_58 kb_12 ?_
          refine a_icmp_ne F 65 dX11_person_60 (by decide) ?_ ?_
          · refine a_iconst F dX11_person_63 ki_m1 ?_
            exact a_iret F M0.2.2.1 M0.2.2.2 dX11_person_64
          · refine a_aload_n F dX11_person_65 rfl rfl ?_
            refine a_getI (k := 6) F cfX11 dX11_person_66 fl_X11_122 (by decide) fi_11_6 zl_239 zk_239 ?_
            refine a_istoreN (L' := fun x5_4 => [some (.ref 239), some (.int x1), some (.int x2), some (.int x3), some (.int t0), some (.int x5_4)]) F dX11_person_69 (lt_b rfl) (fun _ => rfl) (fun x5_4 => ?_)
            refine a_aload_n F dX11_person_71 rfl rfl ?_
            refine a_getR (k := 7) F cfX11 dX11_person_72 fl_X11_19 (by decide) fi_11_7 zl_239 zk_239 zr_239_7 ?_
            refine a_iload F dX11_person_75 rfl ?_
            refine a_iload_n F dX11_person_77 rfl rfl ?_
            refine a_iconst F dX11_person_78 ki_1 ?_
            refine a_iadd F dX11_person_79 ?_
            refine a_gd (a_iast F dX11_person_80 zl_243 zk_243 ?_)
            refine a_nmS (fun S_5 => ?_)
            refine a_aload_n F dX11_person_81 rfl rfl ?_
            refine a_getR (k := 8) F cfX11 dX11_person_82 fl_X11_22 (by decide) fi_11_8 zl_239 zk_239 zr_239_8 ?_
            refine a_iload F dX11_person_85 rfl ?_
            refine a_iload_n F dX11_person_87 rfl rfl ?_
            refine a_iconst F dX11_person_88 ki_1 ?_
            refine a_iadd F dX11_person_89 ?_
            refine a_gd (a_iast F dX11_person_90 zl_244 zk_244 ?_)
            refine a_nmS (fun S_6 => ?_)
            refine a_aload_n F dX11_person_91 rfl rfl ?_
            refine a_getR (k := 9) F cfX11 dX11_person_92 fl_X11_25 (by decide) fi_11_9 zl_239 zk_239 zr_239_9 ?_
            refine a_iload F dX11_person_95 rfl ?_
            refine a_aload_n F dX11_person_97 rfl rfl ?_
            refine a_getR (k := 1) F cfX11 dX11_person_98 fl_X11_7 (by decide) fi_11_1 zl_239 zk_239 zr_239_1 ?_
            refine a_iconst F dX11_person_101 ki_0 ?_
            refine a_ialdK F 0 dX11_person_102 zl_240 zk_240 ib_0_148 ix_0 ?_
            refine a_gd (a_iast F dX11_person_103 zl_245 zk_245 ?_)
            refine a_nmS (fun S_7 => ?_)
            refine a_aload_n F dX11_person_104 rfl rfl ?_
            refine a_getR (k := 10) F cfX11 dX11_person_105 fl_X11_28 (by decide) fi_11_10 zl_239 zk_239 zr_239_10 ?_
            refine a_iload F dX11_person_108 rfl ?_
            refine a_iconst F dX11_person_110 ki_0 ?_
            refine a_gd (a_iast F dX11_person_111 zl_246 zk_246 ?_)
            refine a_nmS (fun S_8 => ?_)
            refine a_aload_n F dX11_person_112 rfl rfl ?_
            refine a_getR (k := 11) F cfX11 dX11_person_113 fl_X11_31 (by decide) fi_11_11 zl_239 zk_239 zr_239_11 ?_
            refine a_iload F dX11_person_116 rfl ?_
            refine a_iconst F dX11_person_118 ki_0 ?_
            refine a_gd (a_iast F dX11_person_119 zl_247 zk_247 ?_)
            refine a_nmS (fun S_9 => ?_)
            refine a_aload_n F dX11_person_120 rfl rfl ?_
            refine a_getR (k := 1) F cfX11 dX11_person_121 fl_X11_7 (by decide) fi_11_1 zl_239 zk_239 zr_239_1 ?_
            refine a_iconst F dX11_person_124 ki_3 ?_
            refine a_aload_n F dX11_person_125 rfl rfl ?_
            refine a_getR (k := 1) F cfX11 dX11_person_126 fl_X11_7 (by decide) fi_11_1 zl_239 zk_239 zr_239_1 ?_
            refine a_iconst F dX11_person_129 ki_3 ?_
            refine a_ialdK F 3 dX11_person_130 zl_240 zk_240 ib_3_148 ix_3 ?_
            refine a_iconst F dX11_person_131 ki_1 ?_
            refine a_iload F dX11_person_132 rfl ?_
            refine a_ishl F dX11_person_134 ?_
            refine a_iconst F dX11_person_135 ki_m1 ?_
            refine a_ixor F dX11_person_136 ?_
            refine a_iand F dX11_person_137 ?_
            refine a_iastK F 3 dX11_person_138 zl_240 zk_240 ib_3_148 ix_3 ?_
            refine a_nmS (fun S_10 => ?_)
            refine a_aload_n F dX11_person_139 rfl rfl ?_
            refine a_getR (k := 1) F cfX11 dX11_person_140 fl_X11_7 (by decide) fi_11_1 zl_239 zk_239 zr_239_1 ?_
            refine a_bipush F dX11_person_143 kb_88 ?_
            refine a_iload F dX11_person_145 rfl ?_
            refine a_iadd F dX11_person_147 ?_
            refine a_iconst F dX11_person_148 ki_0 ?_
            refine a_gd (a_iast F dX11_person_149 zl_240 zk_240 ?_)
            refine a_nmS (fun S_11 => ?_)
            refine a_aload_n F dX11_person_150 rfl rfl ?_
            refine a_getR (k := 1) F cfX11 dX11_person_151 fl_X11_7 (by decide) fi_11_1 zl_239 zk_239 zr_239_1 ?_
            refine a_bipush F dX11_person_154 kb_100 ?_
            refine a_iload F dX11_person_156 rfl ?_
            refine a_iadd F dX11_person_158 ?_
            refine a_iload_n F dX11_person_159 rfl rfl ?_
            refine a_gd (a_iast F dX11_person_160 zl_240 zk_240 ?_)
            refine a_nmS (fun S_12 => ?_)
            refine a_aload_n F dX11_person_161 rfl rfl ?_
            refine a_getR (k := 1) F cfX11 dX11_person_162 fl_X11_7 (by decide) fi_11_1 zl_239 zk_239 zr_239_1 ?_
            refine a_bipush F dX11_person_165 kb_112 ?_
            refine a_iload F dX11_person_167 rfl ?_
            refine a_iadd F dX11_person_169 ?_
            refine a_iconst F dX11_person_170 ki_0 ?_
            refine a_gd (a_iast F dX11_person_171 zl_240 zk_240 ?_)
            refine a_nmS (fun S_13 => ?_)
            refine a_aload_n F dX11_person_172 rfl rfl ?_
            refine a_getR (k := 36) F cfX11 dX11_person_173 fl_X11_68 (by decide) fi_11_36 zl_239 zk_239 zr_239_36 ?_
            refine a_iload F dX11_person_176 rfl ?_
            refine a_iconst F dX11_person_178 ki_0 ?_
            refine a_gd (a_iast F dX11_person_179 zl_258 zk_258 ?_)
            refine a_nmS (fun S_14 => ?_)
            refine a_aload_n F dX11_person_180 rfl rfl ?_
            refine a_aload_n F dX11_person_181 rfl rfl ?_
            refine a_getI (k := 6) F cfX11 dX11_person_182 fl_X11_122 (by decide) fi_11_6 zl_239 zk_239 ?_
            refine a_iconst F dX11_person_185 ki_1 ?_
            refine a_iadd F dX11_person_186 ?_
            refine a_putI (k := 6) F cfX11 dX11_person_187 fl_X11_122 (by decide) fi_11_6 rfl rfl zl_239 zk_239 ?_
            refine a_nmS (fun S_15 => ?_)
            refine a_aload_n F dX11_person_190 rfl rfl ?_
            refine a_callVV F (As := []) cfX11 rfl (c_X11_findsKin X S_15) mw_X11_findsKin ml_X11_113 im_X11_findsKin se_X11_findsKin M0.2.1 (Nat.le_of_ble_eq_true rfl) ⟨Nat.zero_le _, Nat.zero_le _⟩ rfl rfl (Nat.le_of_ble_eq_true rfl) zl_239 zk_239 dX11_person_191 rfl (fun S_16 => ?_)
            refine a_aload_n F dX11_person_194 rfl rfl ?_
            refine a_iconst F dX11_person_195 ki_0 ?_
            refine a_putI (k := 3) F cfX11 dX11_person_196 fl_X11_110 (by decide) fi_11_3 rfl rfl zl_239 zk_239 ?_
            refine a_nmS (fun S_17 => ?_)
            refine a_iload F dX11_person_199 rfl ?_
            exact a_iret F M0.2.2.1 M0.2.2.2 dX11_person_201
      · refine a_iconst F dX11_person_63 ki_m1 ?_
        exact a_iret F M0.2.2.1 M0.2.2.2 dX11_person_64
def f_X11_person_19 (x1 x2 x3 : Int32) (S : Mm) : Option (Int32 × Mm) :=
  f_X11_person_20 x1 x2 x3 (0 : Int32) S
set_option maxRecDepth 20000 in
theorem b_X11_person_19 {X : CX} {E : FE} (M0 : MF X E RX11 cX11_person 6 3 (some .int)) (x1 x2 x3 : Int32) (S : Mm) : At X E false (mQi X Z1 E) 19 [some (.ref 239), some (.int x1), some (.int x2), some (.int x3), none, none] [] Z1 S 0 0 (f_X11_person_19 x1 x2 x3 S) := by
  have F := M0.1
  unfold f_X11_person_19
  refine a_iconst F dX11_person_19 ki_0 ?_
  exact b_X11_person_20 M0 x1 x2 x3 (0 : Int32) S
def f_X11_person (p1 p2 p3 : Int32) (S : Mm) : Option (Int32 × Mm) :=
  nm (uM S 239 0 (0 : Int32)) fun S_1 =>
  if p1 = p2 then (
   if p1 = (-1 : Int32) then (
    f_X11_person_19 p1 p2 p3 S_1
   ) else (
    f_X11_person_20 p1 p2 p3 (1 : Int32) S_1
   )
  ) else (
   f_X11_person_19 p1 p2 p3 S_1
  )
set_option maxRecDepth 20000 in
theorem b_X11_person {X : CX} {E : FE} (M0 : MF X E RX11 cX11_person 6 3 (some .int)) (p1 p2 p3 : Int32) (S : Mm) : At X E false (mQi X Z1 E) 0 [some (.ref 239), some (.int p1), some (.int p2), some (.int p3), none, none] [] Z1 S 0 0 (f_X11_person p1 p2 p3 S) := by
  have F := M0.1
  unfold f_X11_person
  refine a_aload_n F dX11_person_0 rfl rfl ?_
  refine a_iconst F dX11_person_1 ki_0 ?_
  refine a_putI (k := 0) F cfX11 dX11_person_2 fl_X11_107 (by decide) fi_11_0 rfl rfl zl_239 zk_239 ?_
  refine a_nmS (fun S_1 => ?_)
  refine a_iload_n F dX11_person_5 rfl rfl ?_
  refine a_iload_n F dX11_person_6 rfl rfl ?_
  refine a_icmp_ne F 19 dX11_person_7 (by decide) ?_ ?_
  · refine a_iload_n F dX11_person_10 rfl rfl ?_
    refine a_iconst F dX11_person_11 ki_m1 ?_
    refine a_icmp_eq F 19 dX11_person_12 (by decide) ?_ ?_
    · exact b_X11_person_19 M0 p1 p2 p3 S_1
    · refine a_iconst F dX11_person_15 ki_1 ?_
      refine a_goto F 20 dX11_person_16 (by decide) ?_
      exact b_X11_person_20 M0 p1 p2 p3 (1 : Int32) S_1
  · exact b_X11_person_19 M0 p1 p2 p3 S_1
theorem c_X11_person (X : CX) (p1 p2 p3 : Int32) (S : Mm) : CtI X Z1 yX11_person cX11_person 6 (some .int) 3 [.ref 239, .int p1, .int p2, .int p3] S (f_X11_person p1 p2 p3 S) :=
  ctI_of (by decide +kernel) rfl (Nat.le_of_ble_eq_true rfl) (by simp [Value.category]) z1len fun E F R hra hlk => b_X11_person ⟨F, R, hra, hlk⟩ p1 p2 p3 S
def f_X11_canSet_108 (S : Mm) : Option (Int32 × Mm) :=
  some ((0 : Int32), S)
set_option maxRecDepth 20000 in
theorem b_X11_canSet_108 {X : CX} {E : FE} (M0 : MF X E RX11 cX11_canSet 4 3 (some .boolean)) (S : Mm) : At X E false (mQi X Z1 E) 108 [none, none, none, none] [] Z1 S 0 0 (f_X11_canSet_108 S) := by
  have F := M0.1
  unfold f_X11_canSet_108
  refine a_iconst F dX11_canSet_108 ki_0 ?_
  exact a_zretK F M0.2.2.1 M0.2.2.2 dX11_canSet_109 (Or.inl rfl)
def f_X11_canSet_51 (S : Mm) : Option (Int32 × Mm) :=
  some ((1 : Int32), S)
set_option maxRecDepth 20000 in
theorem b_X11_canSet_51 {X : CX} {E : FE} (M0 : MF X E RX11 cX11_canSet 4 3 (some .boolean)) (S : Mm) : At X E false (mQi X Z1 E) 51 [none, none, none, none] [] Z1 S 0 0 (f_X11_canSet_51 S) := by
  have F := M0.1
  unfold f_X11_canSet_51
  refine a_iconst F dX11_canSet_51 ki_1 ?_
  refine a_goto F 56 dX11_canSet_52 (by decide) ?_
  exact a_zretK F M0.2.2.1 M0.2.2.2 dX11_canSet_56 (Or.inr rfl)
def f_X11_canSet (p1 p2 p3 : Int32) (S : Mm) : Option (Int32 × Mm) :=
  if p1 = (4 : Int32) then (
   (f_X11_isIn p3 (0 : Int32) (3 : Int32) S).bind fun q_1 =>
   gd (q_1.1 = 0 ∨ q_1.1 = 1) <| some (q_1.1, q_1.2)
  ) else (
   (f_X11_isLiving p2 S).bind fun q_2 =>
   if q_2.1 = 0 then (
    some ((0 : Int32), q_2.2)
   ) else (
    if p1 = 0 then (
     if p3 = (-1 : Int32) then (
      f_X11_canSet_51 q_2.2
     ) else (
      (f_X11_isIn p3 ((q_2.2 240 0) + (1 : Int32)) (9999 : Int32) q_2.2).bind fun q_3 =>
      if q_3.1 = 0 then (
       some ((0 : Int32), q_3.2)
      ) else (
       f_X11_canSet_51 q_3.2
      )
     )
    ) else (
     if p1 = (1 : Int32) then (
      (f_X11_isIn p3 (0 : Int32) (9999 : Int32) q_2.2).bind fun q_4 =>
      gd (q_4.1 = 0 ∨ q_4.1 = 1) <| some (q_4.1, q_4.2)
     ) else (
      if p1 = (2 : Int32) then (
       (f_X11_isIn p3 (0 : Int32) (99 : Int32) q_2.2).bind fun q_5 =>
       gd (q_5.1 = 0 ∨ q_5.1 = 1) <| some (q_5.1, q_5.2)
      ) else (
       if p1 = (3 : Int32) then (
        (f_X11_isIn p3 (0 : Int32) (99999 : Int32) q_2.2).bind fun q_6 =>
        if q_6.1 = 0 then (
         f_X11_canSet_108 q_6.2
        ) else (
         some ((1 : Int32), q_6.2)
        )
       ) else (
        f_X11_canSet_108 q_2.2
       )
      )
     )
    )
   )
  )
set_option maxRecDepth 20000 in
theorem b_X11_canSet {X : CX} {E : FE} (M0 : MF X E RX11 cX11_canSet 4 3 (some .boolean)) (p1 p2 p3 : Int32) (S : Mm) : At X E false (mQi X Z1 E) 0 [some (.ref 239), some (.int p1), some (.int p2), some (.int p3)] [] Z1 S 0 0 (f_X11_canSet p1 p2 p3 S) := by
  have F := M0.1
  unfold f_X11_canSet
  refine a_iload_n F dX11_canSet_0 rfl rfl ?_
  refine a_iconst F dX11_canSet_1 ki_4 ?_
  refine a_icmp_ne F 13 dX11_canSet_2 (by decide) ?_ ?_
  · refine a_aload_n F dX11_canSet_5 rfl rfl ?_
    refine a_iload_n F dX11_canSet_6 rfl rfl ?_
    refine a_iconst F dX11_canSet_7 ki_0 ?_
    refine a_iconst F dX11_canSet_8 ki_3 ?_
    refine a_callVI F (As := [.int p3, .int (0 : Int32), .int (3 : Int32)]) cfX11 rfl (c_X11_isIn X p3 (0 : Int32) (3 : Int32) S) mw_X11_isIn ml_X11_147 im_X11_isIn se_X11_isIn M0.2.1 (Nat.le_of_ble_eq_true rfl) ⟨Nat.zero_le _, Nat.zero_le _⟩ rfl rfl (Nat.le_of_ble_eq_true rfl) zl_239 zk_239 dX11_canSet_9 rfl (fun q_1 => ?_)
    exact a_gd (a_zret F M0.2.2.1 M0.2.2.2 dX11_canSet_12)
  · refine a_aload_n F dX11_canSet_13 rfl rfl ?_
    refine a_iload_n F dX11_canSet_14 rfl rfl ?_
    refine a_callVI F (As := [.int p2]) cfX11 rfl (c_X11_isLiving X p2 S) mw_X11_isLiving ml_X11_151 im_X11_isLiving se_X11_isLiving M0.2.1 (Nat.le_of_ble_eq_true rfl) ⟨Nat.zero_le _, Nat.zero_le _⟩ rfl rfl (Nat.le_of_ble_eq_true rfl) zl_239 zk_239 dX11_canSet_15 rfl (fun q_2 => ?_)
    refine a_if_ne F 23 dX11_canSet_18 (by decide) ?_ ?_
    · refine a_iconst F dX11_canSet_21 ki_0 ?_
      exact a_zretK F M0.2.2.1 M0.2.2.2 dX11_canSet_22 (Or.inl rfl)
    · refine a_iload_n F dX11_canSet_23 rfl rfl ?_
      refine a_if_ne F 57 dX11_canSet_24 (by decide) ?_ ?_
      · refine a_iload_n F dX11_canSet_27 rfl rfl ?_
        refine a_iconst F dX11_canSet_28 ki_m1 ?_
        refine a_icmp_eq F 51 dX11_canSet_29 (by decide) ?_ ?_
        · refine a_mask [false, false, false, false] (L' := [none, none, none, none]) rfl rfl ?_
          exact b_X11_canSet_51 M0 q_2.2
        · refine a_aload_n F dX11_canSet_32 rfl rfl ?_
          refine a_iload_n F dX11_canSet_33 rfl rfl ?_
          refine a_aload_n F dX11_canSet_34 rfl rfl ?_
          refine a_getR (k := 1) F cfX11 dX11_canSet_35 fl_X11_7 (by decide) fi_11_1 zl_239 zk_239 zr_239_1 ?_
          refine a_iconst F dX11_canSet_38 ki_0 ?_
          refine a_ialdK F 0 dX11_canSet_39 zl_240 zk_240 ib_0_148 ix_0 ?_
          refine a_iconst F dX11_canSet_40 ki_1 ?_
          refine a_iadd F dX11_canSet_41 ?_
          refine a_sipush F dX11_canSet_42 ks_9999 ?_
          refine a_callVI F (As := [.int p3, .int ((q_2.2 240 0) + (1 : Int32)), .int (9999 : Int32)]) cfX11 rfl (c_X11_isIn X p3 ((q_2.2 240 0) + (1 : Int32)) (9999 : Int32) q_2.2) mw_X11_isIn ml_X11_147 im_X11_isIn se_X11_isIn M0.2.1 (Nat.le_of_ble_eq_true rfl) ⟨Nat.zero_le _, Nat.zero_le _⟩ rfl rfl (Nat.le_of_ble_eq_true rfl) zl_239 zk_239 dX11_canSet_45 rfl (fun q_3 => ?_)
          refine a_if_eq F 55 dX11_canSet_48 (by decide) ?_ ?_
          · refine a_iconst F dX11_canSet_55 ki_0 ?_
            exact a_zretK F M0.2.2.1 M0.2.2.2 dX11_canSet_56 (Or.inl rfl)
          · refine a_mask [false, false, false, false] (L' := [none, none, none, none]) rfl rfl ?_
            exact b_X11_canSet_51 M0 q_3.2
      · refine a_iload_n F dX11_canSet_57 rfl rfl ?_
        refine a_iconst F dX11_canSet_58 ki_1 ?_
        refine a_icmp_ne F 72 dX11_canSet_59 (by decide) ?_ ?_
        · refine a_aload_n F dX11_canSet_62 rfl rfl ?_
          refine a_iload_n F dX11_canSet_63 rfl rfl ?_
          refine a_iconst F dX11_canSet_64 ki_0 ?_
          refine a_sipush F dX11_canSet_65 ks_9999 ?_
          refine a_callVI F (As := [.int p3, .int (0 : Int32), .int (9999 : Int32)]) cfX11 rfl (c_X11_isIn X p3 (0 : Int32) (9999 : Int32) q_2.2) mw_X11_isIn ml_X11_147 im_X11_isIn se_X11_isIn M0.2.1 (Nat.le_of_ble_eq_true rfl) ⟨Nat.zero_le _, Nat.zero_le _⟩ rfl rfl (Nat.le_of_ble_eq_true rfl) zl_239 zk_239 dX11_canSet_68 rfl (fun q_4 => ?_)
          exact a_gd (a_zret F M0.2.2.1 M0.2.2.2 dX11_canSet_71)
        · refine a_iload_n F dX11_canSet_72 rfl rfl ?_
          refine a_iconst F dX11_canSet_73 ki_2 ?_
          refine a_icmp_ne F 88 dX11_canSet_74 (by decide) ?_ ?_
          · refine a_aload_n F dX11_canSet_77 rfl rfl ?_
            refine a_iload_n F dX11_canSet_78 rfl rfl ?_
            refine a_iconst F dX11_canSet_79 ki_0 ?_
            refine a_bipush F dX11_canSet_80 kb_99 ?_
            refine a_callVI F (As := [.int p3, .int (0 : Int32), .int (99 : Int32)]) cfX11 rfl (c_X11_isIn X p3 (0 : Int32) (99 : Int32) q_2.2) mw_X11_isIn ml_X11_147 im_X11_isIn se_X11_isIn M0.2.1 (Nat.le_of_ble_eq_true rfl) ⟨Nat.zero_le _, Nat.zero_le _⟩ rfl rfl (Nat.le_of_ble_eq_true rfl) zl_239 zk_239 dX11_canSet_82 rfl (fun q_5 => ?_)
            refine a_goto F 109 dX11_canSet_85 (by decide) ?_
            exact a_gd (a_zret F M0.2.2.1 M0.2.2.2 dX11_canSet_109)
          · refine a_iload_n F dX11_canSet_88 rfl rfl ?_
            refine a_iconst F dX11_canSet_89 ki_3 ?_
            refine a_icmp_ne F 108 dX11_canSet_90 (by decide) ?_ ?_
            · refine a_aload_n F dX11_canSet_93 rfl rfl ?_
              refine a_iload_n F dX11_canSet_94 rfl rfl ?_
              refine a_iconst F dX11_canSet_95 ki_0 ?_
              refine a_ldc F dX11_canSet_96 con_X11_146 ?_
              refine a_callVI F (As := [.int p3, .int (0 : Int32), .int (99999 : Int32)]) cfX11 rfl (c_X11_isIn X p3 (0 : Int32) (99999 : Int32) q_2.2) mw_X11_isIn ml_X11_147 im_X11_isIn se_X11_isIn M0.2.1 (Nat.le_of_ble_eq_true rfl) ⟨Nat.zero_le _, Nat.zero_le _⟩ rfl rfl (Nat.le_of_ble_eq_true rfl) zl_239 zk_239 dX11_canSet_98 rfl (fun q_6 => ?_)
              refine a_if_eq F 108 dX11_canSet_101 (by decide) ?_ ?_
              · refine a_mask [false, false, false, false] (L' := [none, none, none, none]) rfl rfl ?_
                exact b_X11_canSet_108 M0 q_6.2
              · refine a_iconst F dX11_canSet_104 ki_1 ?_
                refine a_goto F 109 dX11_canSet_105 (by decide) ?_
                exact a_zretK F M0.2.2.1 M0.2.2.2 dX11_canSet_109 (Or.inr rfl)
            · refine a_mask [false, false, false, false] (L' := [none, none, none, none]) rfl rfl ?_
              exact b_X11_canSet_108 M0 q_2.2
theorem c_X11_canSet (X : CX) (p1 p2 p3 : Int32) (S : Mm) : CtI X Z1 yX11_canSet cX11_canSet 4 (some .boolean) 3 [.ref 239, .int p1, .int p2, .int p3] S (f_X11_canSet p1 p2 p3 S) :=
  ctI_of (by decide +kernel) rfl (Nat.le_of_ble_eq_true rfl) (by simp [Value.category]) z1len fun E F R hra hlk => b_X11_canSet ⟨F, R, hra, hlk⟩ p1 p2 p3 S
def f_X11_set_84 (S : Mm) : Option (Int32 × Mm) :=
  nm (uM S 239 3 (0 : Int32)) fun S_1 =>
  some ((1 : Int32), S_1)
set_option maxRecDepth 20000 in
theorem b_X11_set_84 {X : CX} {E : FE} (M0 : MF X E RX11 cX11_set 4 4 (some .boolean)) (S : Mm) : At X E false (mQi X Z1 E) 84 [some (.ref 239), none, none, none] [] Z1 S 0 0 (f_X11_set_84 S) := by
  have F := M0.1
  unfold f_X11_set_84
  refine a_aload_n F dX11_set_84 rfl rfl ?_
  refine a_iconst F dX11_set_85 ki_0 ?_
  refine a_putI (k := 3) F cfX11 dX11_set_86 fl_X11_110 (by decide) fi_11_3 rfl rfl zl_239 zk_239 ?_
  refine a_nmS (fun S_1 => ?_)
  refine a_iconst F dX11_set_89 ki_1 ?_
  exact a_zretK F M0.2.2.1 M0.2.2.2 dX11_set_90 (Or.inr rfl)
def f_X11_set_72 (x1 x3 : Int32) (S : Mm) : Option (Int32 × Mm) :=
  if x1 = (4 : Int32) then (
   nm (uM S 239 12 (x3 - (1 : Int32))) fun S_1 =>
   f_X11_set_84 S_1
  ) else (
   f_X11_set_84 S
  )
set_option maxRecDepth 20000 in
theorem b_X11_set_72 {X : CX} {E : FE} (M0 : MF X E RX11 cX11_set 4 4 (some .boolean)) (x1 x3 : Int32) (S : Mm) : At X E false (mQi X Z1 E) 72 [some (.ref 239), some (.int x1), none, some (.int x3)] [] Z1 S 0 0 (f_X11_set_72 x1 x3 S) := by
  have F := M0.1
  unfold f_X11_set_72
  refine a_iload_n F dX11_set_72 rfl rfl ?_
  refine a_iconst F dX11_set_73 ki_4 ?_
  refine a_icmp_ne F 84 dX11_set_74 (by decide) ?_ ?_
  · refine a_aload_n F dX11_set_77 rfl rfl ?_
    refine a_iload_n F dX11_set_78 rfl rfl ?_
    refine a_iconst F dX11_set_79 ki_1 ?_
    refine a_isub F dX11_set_80 ?_
    refine a_putI (k := 12) F cfX11 dX11_set_81 fl_X11_157 (by decide) fi_11_12 rfl rfl zl_239 zk_239 ?_
    refine a_nmS (fun S_1 => ?_)
    refine a_mask [true, false, false, false] (L' := [some (.ref 239), none, none, none]) rfl rfl ?_
    exact b_X11_set_84 M0 S_1
  · refine a_mask [true, false, false, false] (L' := [some (.ref 239), none, none, none]) rfl rfl ?_
    exact b_X11_set_84 M0 S
def f_X11_set_57 (x1 x2 x3 : Int32) (S : Mm) : Option (Int32 × Mm) :=
  if x1 = (3 : Int32) then (
   gd (inB ((100 : Int32) + x2) 148 = true) <|
   nm (uM S 240 (ix ((100 : Int32) + x2)) x3) fun S_1 =>
   f_X11_set_72 x1 x3 S_1
  ) else (
   f_X11_set_72 x1 x3 S
  )
set_option maxRecDepth 20000 in
theorem b_X11_set_57 {X : CX} {E : FE} (M0 : MF X E RX11 cX11_set 4 4 (some .boolean)) (x1 x2 x3 : Int32) (S : Mm) : At X E false (mQi X Z1 E) 57 [some (.ref 239), some (.int x1), some (.int x2), some (.int x3)] [] Z1 S 0 0 (f_X11_set_57 x1 x2 x3 S) := by
  have F := M0.1
  unfold f_X11_set_57
  refine a_iload_n F dX11_set_57 rfl rfl ?_
  refine a_iconst F dX11_set_58 ki_3 ?_
  refine a_icmp_ne F 72 dX11_set_59 (by decide) ?_ ?_
  · refine a_aload_n F dX11_set_62 rfl rfl ?_
    refine a_getR (k := 1) F cfX11 dX11_set_63 fl_X11_7 (by decide) fi_11_1 zl_239 zk_239 zr_239_1 ?_
    refine a_bipush F dX11_set_66 kb_100 ?_
    refine a_iload_n F dX11_set_68 rfl rfl ?_
    refine a_iadd F dX11_set_69 ?_
    refine a_iload_n F dX11_set_70 rfl rfl ?_
    refine a_gd (a_iast F dX11_set_71 zl_240 zk_240 ?_)
    refine a_nmS (fun S_1 => ?_)
    refine a_mask [true, true, false, true] (L' := [some (.ref 239), some (.int x1), none, some (.int x3)]) rfl rfl ?_
    exact b_X11_set_72 M0 x1 x3 S_1
  · refine a_mask [true, true, false, true] (L' := [some (.ref 239), some (.int x1), none, some (.int x3)]) rfl rfl ?_
    exact b_X11_set_72 M0 x1 x3 S
def f_X11_set_45 (x1 x2 x3 : Int32) (S : Mm) : Option (Int32 × Mm) :=
  if x1 = (2 : Int32) then (
   gd (inB x2 12 = true) <|
   nm (uM S 247 (ix x2) x3) fun S_1 =>
   f_X11_set_57 x1 x2 x3 S_1
  ) else (
   f_X11_set_57 x1 x2 x3 S
  )
set_option maxRecDepth 20000 in
theorem b_X11_set_45 {X : CX} {E : FE} (M0 : MF X E RX11 cX11_set 4 4 (some .boolean)) (x1 x2 x3 : Int32) (S : Mm) : At X E false (mQi X Z1 E) 45 [some (.ref 239), some (.int x1), some (.int x2), some (.int x3)] [] Z1 S 0 0 (f_X11_set_45 x1 x2 x3 S) := by
  have F := M0.1
  unfold f_X11_set_45
  refine a_iload_n F dX11_set_45 rfl rfl ?_
  refine a_iconst F dX11_set_46 ki_2 ?_
  refine a_icmp_ne F 57 dX11_set_47 (by decide) ?_ ?_
  · refine a_aload_n F dX11_set_50 rfl rfl ?_
    refine a_getR (k := 11) F cfX11 dX11_set_51 fl_X11_31 (by decide) fi_11_11 zl_239 zk_239 zr_239_11 ?_
    refine a_iload_n F dX11_set_54 rfl rfl ?_
    refine a_iload_n F dX11_set_55 rfl rfl ?_
    refine a_gd (a_iast F dX11_set_56 zl_247 zk_247 ?_)
    refine a_nmS (fun S_1 => ?_)
    exact b_X11_set_57 M0 x1 x2 x3 S_1
  · exact b_X11_set_57 M0 x1 x2 x3 S
def f_X11_set_33 (x1 x2 x3 : Int32) (S : Mm) : Option (Int32 × Mm) :=
  if x1 = (1 : Int32) then (
   gd (inB x2 12 = true) <|
   nm (uM S 246 (ix x2) x3) fun S_1 =>
   f_X11_set_45 x1 x2 x3 S_1
  ) else (
   f_X11_set_45 x1 x2 x3 S
  )
set_option maxRecDepth 20000 in
theorem b_X11_set_33 {X : CX} {E : FE} (M0 : MF X E RX11 cX11_set 4 4 (some .boolean)) (x1 x2 x3 : Int32) (S : Mm) : At X E false (mQi X Z1 E) 33 [some (.ref 239), some (.int x1), some (.int x2), some (.int x3)] [] Z1 S 0 0 (f_X11_set_33 x1 x2 x3 S) := by
  have F := M0.1
  unfold f_X11_set_33
  refine a_iload_n F dX11_set_33 rfl rfl ?_
  refine a_iconst F dX11_set_34 ki_1 ?_
  refine a_icmp_ne F 45 dX11_set_35 (by decide) ?_ ?_
  · refine a_aload_n F dX11_set_38 rfl rfl ?_
    refine a_getR (k := 10) F cfX11 dX11_set_39 fl_X11_28 (by decide) fi_11_10 zl_239 zk_239 zr_239_10 ?_
    refine a_iload_n F dX11_set_42 rfl rfl ?_
    refine a_iload_n F dX11_set_43 rfl rfl ?_
    refine a_gd (a_iast F dX11_set_44 zl_246 zk_246 ?_)
    refine a_nmS (fun S_1 => ?_)
    exact b_X11_set_45 M0 x1 x2 x3 S_1
  · exact b_X11_set_45 M0 x1 x2 x3 S
def f_X11_set (p1 p2 p3 : Int32) (S : Mm) : Option (Int32 × Mm) :=
  nm (uM S 239 0 (0 : Int32)) fun S_1 =>
  (f_X11_canSet p1 p2 p3 S_1).bind fun q_2 =>
  if q_2.1 = 0 then (
   some ((0 : Int32), q_2.2)
  ) else (
   if p1 = 0 then (
    gd (inB ((88 : Int32) + p2) 148 = true) <|
    nm (uM q_2.2 240 (ix ((88 : Int32) + p2)) (p3 + (1 : Int32))) fun S_3 =>
    f_X11_set_33 p1 p2 p3 S_3
   ) else (
    f_X11_set_33 p1 p2 p3 q_2.2
   )
  )
set_option maxRecDepth 20000 in
theorem b_X11_set {X : CX} {E : FE} (M0 : MF X E RX11 cX11_set 4 4 (some .boolean)) (p1 p2 p3 : Int32) (S : Mm) : At X E false (mQi X Z1 E) 0 [some (.ref 239), some (.int p1), some (.int p2), some (.int p3)] [] Z1 S 0 0 (f_X11_set p1 p2 p3 S) := by
  have F := M0.1
  unfold f_X11_set
  refine a_aload_n F dX11_set_0 rfl rfl ?_
  refine a_iconst F dX11_set_1 ki_0 ?_
  refine a_putI (k := 0) F cfX11 dX11_set_2 fl_X11_107 (by decide) fi_11_0 rfl rfl zl_239 zk_239 ?_
  refine a_nmS (fun S_1 => ?_)
  refine a_aload_n F dX11_set_5 rfl rfl ?_
  refine a_iload_n F dX11_set_6 rfl rfl ?_
  refine a_iload_n F dX11_set_7 rfl rfl ?_
  refine a_iload_n F dX11_set_8 rfl rfl ?_
  refine a_callVI F (As := [.int p1, .int p2, .int p3]) cfX11 rfl (c_X11_canSet X p1 p2 p3 S_1) mw_X11_canSet ml_X11_154 im_X11_canSet se_X11_canSet M0.2.1 (Nat.le_of_ble_eq_true rfl) ⟨Nat.zero_le _, Nat.zero_le _⟩ rfl rfl (Nat.le_of_ble_eq_true rfl) zl_239 zk_239 dX11_set_9 rfl (fun q_2 => ?_)
  refine a_if_ne F 17 dX11_set_12 (by decide) ?_ ?_
  · refine a_iconst F dX11_set_15 ki_0 ?_
    exact a_zretK F M0.2.2.1 M0.2.2.2 dX11_set_16 (Or.inl rfl)
  · refine a_iload_n F dX11_set_17 rfl rfl ?_
    refine a_if_ne F 33 dX11_set_18 (by decide) ?_ ?_
    · refine a_aload_n F dX11_set_21 rfl rfl ?_
      refine a_getR (k := 1) F cfX11 dX11_set_22 fl_X11_7 (by decide) fi_11_1 zl_239 zk_239 zr_239_1 ?_
      refine a_bipush F dX11_set_25 kb_88 ?_
      refine a_iload_n F dX11_set_27 rfl rfl ?_
      refine a_iadd F dX11_set_28 ?_
      refine a_iload_n F dX11_set_29 rfl rfl ?_
      refine a_iconst F dX11_set_30 ki_1 ?_
      refine a_iadd F dX11_set_31 ?_
      refine a_gd (a_iast F dX11_set_32 zl_240 zk_240 ?_)
      refine a_nmS (fun S_3 => ?_)
      exact b_X11_set_33 M0 p1 p2 p3 S_3
    · exact b_X11_set_33 M0 p1 p2 p3 q_2.2
theorem c_X11_set (X : CX) (p1 p2 p3 : Int32) (S : Mm) : CtI X Z1 yX11_set cX11_set 4 (some .boolean) 4 [.ref 239, .int p1, .int p2, .int p3] S (f_X11_set p1 p2 p3 S) :=
  ctI_of (by decide +kernel) rfl (Nat.le_of_ble_eq_true rfl) (by simp [Value.category]) z1len fun E F R hra hlk => b_X11_set ⟨F, R, hra, hlk⟩ p1 p2 p3 S
def f_X11_areLiving_29 (S : Mm) : Option (Int32 × Mm) :=
  some ((0 : Int32), S)
set_option maxRecDepth 20000 in
theorem b_X11_areLiving_29 {X : CX} {E : FE} (M0 : MF X E RX11 cX11_areLiving 2 1 (some .boolean)) (S : Mm) : At X E false (mQi X Z1 E) 29 [none, none] [] Z1 S 0 0 (f_X11_areLiving_29 S) := by
  have F := M0.1
  unfold f_X11_areLiving_29
  refine a_iconst F dX11_areLiving_29 ki_0 ?_
  exact a_zretK F M0.2.2.1 M0.2.2.2 dX11_areLiving_30 (Or.inl rfl)
def f_X11_areLiving (p1 : Int32) (S : Mm) : Option (Int32 × Mm) :=
  if p1 ≤ 0 then (
   f_X11_areLiving_29 S
  ) else (
   if (shl (1 : Int32) (S 239 6)) ≤ p1 then (
    f_X11_areLiving_29 S
   ) else (
    if (p1 &&& (S 240 3)) = 0 then (
     some ((1 : Int32), S)
    ) else (
     f_X11_areLiving_29 S
    )
   )
  )
set_option maxRecDepth 20000 in
theorem b_X11_areLiving {X : CX} {E : FE} (M0 : MF X E RX11 cX11_areLiving 2 1 (some .boolean)) (p1 : Int32) (S : Mm) : At X E false (mQi X Z1 E) 0 [some (.ref 239), some (.int p1)] [] Z1 S 0 0 (f_X11_areLiving p1 S) := by
  have F := M0.1
  unfold f_X11_areLiving
  refine a_iload_n F dX11_areLiving_0 rfl rfl ?_
  refine a_if_le F 29 dX11_areLiving_1 (by decide) ?_ ?_
  · refine a_mask [false, false] (L' := [none, none]) rfl rfl ?_
    exact b_X11_areLiving_29 M0 S
  · refine a_iload_n F dX11_areLiving_4 rfl rfl ?_
    refine a_iconst F dX11_areLiving_5 ki_1 ?_
    refine a_aload_n F dX11_areLiving_6 rfl rfl ?_
    refine a_getI (k := 6) F cfX11 dX11_areLiving_7 fl_X11_122 (by decide) fi_11_6 zl_239 zk_239 ?_
    refine a_ishl F dX11_areLiving_10 ?_
    refine a_icmp_ge F 29 dX11_areLiving_11 (by decide) ?_ ?_
    · refine a_mask [false, false] (L' := [none, none]) rfl rfl ?_
      exact b_X11_areLiving_29 M0 S
    · refine a_iload_n F dX11_areLiving_14 rfl rfl ?_
      refine a_aload_n F dX11_areLiving_15 rfl rfl ?_
      refine a_getR (k := 1) F cfX11 dX11_areLiving_16 fl_X11_7 (by decide) fi_11_1 zl_239 zk_239 zr_239_1 ?_
      refine a_iconst F dX11_areLiving_19 ki_3 ?_
      refine a_ialdK F 3 dX11_areLiving_20 zl_240 zk_240 ib_3_148 ix_3 ?_
      refine a_iand F dX11_areLiving_21 ?_
      refine a_if_ne F 29 dX11_areLiving_22 (by decide) ?_ ?_
      · refine a_iconst F dX11_areLiving_25 ki_1 ?_
        refine a_goto F 30 dX11_areLiving_26 (by decide) ?_
        exact a_zretK F M0.2.2.1 M0.2.2.2 dX11_areLiving_30 (Or.inr rfl)
      · refine a_mask [false, false] (L' := [none, none]) rfl rfl ?_
        exact b_X11_areLiving_29 M0 S
theorem c_X11_areLiving (X : CX) (p1 : Int32) (S : Mm) : CtI X Z1 yX11_areLiving cX11_areLiving 2 (some .boolean) 1 [.ref 239, .int p1] S (f_X11_areLiving p1 S) :=
  ctI_of (by decide +kernel) rfl (Nat.le_of_ble_eq_true rfl) (by simp [Value.category]) z1len fun E F R hra hlk => b_X11_areLiving ⟨F, R, hra, hlk⟩ p1 S
def f_X11_sign (p1 p2 : Int32) (S : Mm) : Option (Int32 × Mm) :=
  nm (uM S 239 0 (0 : Int32)) fun S_1 =>
  (f_X11_isDeed p1 S_1).bind fun q_2 =>
  if q_2.1 = 0 then (
   some ((-1 : Int32), q_2.2)
  ) else (
   (f_X11_areLiving p2 q_2.2).bind fun q_3 =>
   if q_3.1 = 0 then (
    some ((-1 : Int32), q_3.2)
   ) else (
    (f_X11_keepsAhead q_3.2).bind fun S_4 =>
    (f_X11_findsHands S_4).bind fun S_5 =>
    gd (inB ((124 : Int32) + p1) 148 = true) <|
    nm (uM S_5 240 (ix ((124 : Int32) + p1)) p2) fun S_6 =>
    gd (inB p1 8 = true) <|
    (f_X11_handOf p2 S_6).bind fun q_7 =>
    gd (inB ((132 : Int32) + p1) 148 = true) <|
    nm (uM q_7.2 240 (ix ((132 : Int32) + p1)) ((S_6 263 (ix p1)) &&& (q_7.1 ^^^ (-1 : Int32)))) fun S_8 =>
    gd (inB ((140 : Int32) + p1) 148 = true) <|
    nm (uM S_8 240 (ix ((140 : Int32) + p1)) ((S_8 240 0) + (1 : Int32))) fun S_9 =>
    gd (inB ((132 : Int32) + p1) 148 = true) <|
    some ((S_9 240 (ix ((132 : Int32) + p1))), S_9)
   )
  )
set_option maxRecDepth 20000 in
theorem b_X11_sign {X : CX} {E : FE} (M0 : MF X E RX11 cX11_sign 3 5 (some .int)) (p1 p2 : Int32) (S : Mm) : At X E false (mQi X Z1 E) 0 [some (.ref 239), some (.int p1), some (.int p2)] [] Z1 S 0 0 (f_X11_sign p1 p2 S) := by
  have F := M0.1
  unfold f_X11_sign
  refine a_aload_n F dX11_sign_0 rfl rfl ?_
  refine a_iconst F dX11_sign_1 ki_0 ?_
  refine a_putI (k := 0) F cfX11 dX11_sign_2 fl_X11_107 (by decide) fi_11_0 rfl rfl zl_239 zk_239 ?_
  refine a_nmS (fun S_1 => ?_)
  refine a_aload_n F dX11_sign_5 rfl rfl ?_
  refine a_iload_n F dX11_sign_6 rfl rfl ?_
  refine a_callVI F (As := [.int p1]) cfX11 rfl (c_X11_isDeed X p1 S_1) mw_X11_isDeed ml_X11_369 im_X11_isDeed se_X11_isDeed M0.2.1 (Nat.le_of_ble_eq_true rfl) ⟨Nat.zero_le _, Nat.zero_le _⟩ rfl rfl (Nat.le_of_ble_eq_true rfl) zl_239 zk_239 dX11_sign_7 rfl (fun q_2 => ?_)
  refine a_if_eq F 21 dX11_sign_10 (by decide) ?_ ?_
  · refine a_iconst F dX11_sign_21 ki_m1 ?_
    exact a_iret F M0.2.2.1 M0.2.2.2 dX11_sign_22
  · refine a_aload_n F dX11_sign_13 rfl rfl ?_
    refine a_iload_n F dX11_sign_14 rfl rfl ?_
    refine a_callVI F (As := [.int p2]) cfX11 rfl (c_X11_areLiving X p2 q_2.2) mw_X11_areLiving ml_X11_372 im_X11_areLiving se_X11_areLiving M0.2.1 (Nat.le_of_ble_eq_true rfl) ⟨Nat.zero_le _, Nat.zero_le _⟩ rfl rfl (Nat.le_of_ble_eq_true rfl) zl_239 zk_239 dX11_sign_15 rfl (fun q_3 => ?_)
    refine a_if_ne F 23 dX11_sign_18 (by decide) ?_ ?_
    · refine a_iconst F dX11_sign_21 ki_m1 ?_
      exact a_iret F M0.2.2.1 M0.2.2.2 dX11_sign_22
    · refine a_aload_n F dX11_sign_23 rfl rfl ?_
      refine a_callVV F (As := []) cfX11 rfl (c_X11_keepsAhead X q_3.2) mw_X11_keepsAhead ml_X11_357 im_X11_keepsAhead se_X11_keepsAhead M0.2.1 (Nat.le_of_ble_eq_true rfl) ⟨Nat.zero_le _, Nat.zero_le _⟩ rfl rfl (Nat.le_of_ble_eq_true rfl) zl_239 zk_239 dX11_sign_24 rfl (fun S_4 => ?_)
      refine a_aload_n F dX11_sign_27 rfl rfl ?_
      refine a_callVV F (As := []) cfX11 rfl (c_X11_findsHands X S_4) mw_X11_findsHands ml_X11_375 im_X11_findsHands se_X11_findsHands M0.2.1 (Nat.le_of_ble_eq_true rfl) ⟨Nat.zero_le _, Nat.zero_le _⟩ rfl rfl (Nat.le_of_ble_eq_true rfl) zl_239 zk_239 dX11_sign_28 rfl (fun S_5 => ?_)
      refine a_aload_n F dX11_sign_31 rfl rfl ?_
      refine a_getR (k := 1) F cfX11 dX11_sign_32 fl_X11_7 (by decide) fi_11_1 zl_239 zk_239 zr_239_1 ?_
      refine a_bipush F dX11_sign_35 kb_124 ?_
      refine a_iload_n F dX11_sign_37 rfl rfl ?_
      refine a_iadd F dX11_sign_38 ?_
      refine a_iload_n F dX11_sign_39 rfl rfl ?_
      refine a_gd (a_iast F dX11_sign_40 zl_240 zk_240 ?_)
      refine a_nmS (fun S_6 => ?_)
      refine a_aload_n F dX11_sign_41 rfl rfl ?_
      refine a_getR (k := 1) F cfX11 dX11_sign_42 fl_X11_7 (by decide) fi_11_1 zl_239 zk_239 zr_239_1 ?_
      refine a_sipush F dX11_sign_45 ks_132 ?_
      refine a_iload_n F dX11_sign_48 rfl rfl ?_
      refine a_iadd F dX11_sign_49 ?_
      refine a_aload_n F dX11_sign_50 rfl rfl ?_
      refine a_getR (k := 42) F cfX11 dX11_sign_51 fl_X11_83 (by decide) fi_11_42 zl_239 zk_239 zr_239_42 ?_
      refine a_iload_n F dX11_sign_54 rfl rfl ?_
      refine a_gd (a_iald F dX11_sign_55 zl_263 zk_263 ?_)
      refine a_aload_n F dX11_sign_56 rfl rfl ?_
      refine a_iload_n F dX11_sign_57 rfl rfl ?_
      refine a_callVI F (As := [.int p2]) cfX11 rfl (c_X11_handOf X p2 S_6) mw_X11_handOf ml_X11_378 im_X11_handOf se_X11_handOf M0.2.1 (Nat.le_of_ble_eq_true rfl) ⟨Nat.zero_le _, Nat.zero_le _⟩ rfl rfl (Nat.le_of_ble_eq_true rfl) zl_239 zk_239 dX11_sign_58 rfl (fun q_7 => ?_)
      refine a_iconst F dX11_sign_61 ki_m1 ?_
      refine a_ixor F dX11_sign_62 ?_
      refine a_iand F dX11_sign_63 ?_
      refine a_gd (a_iast F dX11_sign_64 zl_240 zk_240 ?_)
      refine a_nmS (fun S_8 => ?_)
      refine a_aload_n F dX11_sign_65 rfl rfl ?_
      refine a_getR (k := 1) F cfX11 dX11_sign_66 fl_X11_7 (by decide) fi_11_1 zl_239 zk_239 zr_239_1 ?_
      refine a_sipush F dX11_sign_69 ks_140 ?_
      refine a_iload_n F dX11_sign_72 rfl rfl ?_
      refine a_iadd F dX11_sign_73 ?_
      refine a_aload_n F dX11_sign_74 rfl rfl ?_
      refine a_getR (k := 1) F cfX11 dX11_sign_75 fl_X11_7 (by decide) fi_11_1 zl_239 zk_239 zr_239_1 ?_
      refine a_iconst F dX11_sign_78 ki_0 ?_
      refine a_ialdK F 0 dX11_sign_79 zl_240 zk_240 ib_0_148 ix_0 ?_
      refine a_iconst F dX11_sign_80 ki_1 ?_
      refine a_iadd F dX11_sign_81 ?_
      refine a_gd (a_iast F dX11_sign_82 zl_240 zk_240 ?_)
      refine a_nmS (fun S_9 => ?_)
      refine a_aload_n F dX11_sign_83 rfl rfl ?_
      refine a_getR (k := 1) F cfX11 dX11_sign_84 fl_X11_7 (by decide) fi_11_1 zl_239 zk_239 zr_239_1 ?_
      refine a_sipush F dX11_sign_87 ks_132 ?_
      refine a_iload_n F dX11_sign_90 rfl rfl ?_
      refine a_iadd F dX11_sign_91 ?_
      refine a_gd (a_iald F dX11_sign_92 zl_240 zk_240 ?_)
      exact a_iret F M0.2.2.1 M0.2.2.2 dX11_sign_93
theorem c_X11_sign (X : CX) (p1 p2 : Int32) (S : Mm) : CtI X Z1 yX11_sign cX11_sign 3 (some .int) 5 [.ref 239, .int p1, .int p2] S (f_X11_sign p1 p2 S) :=
  ctI_of (by decide +kernel) rfl (Nat.le_of_ble_eq_true rfl) (by simp [Value.category]) z1len fun E F R hra hlk => b_X11_sign ⟨F, R, hra, hlk⟩ p1 p2 S
def f_X11_silent (p1 : Int32) (S : Mm) : Option (Int32 × Mm) :=
  nm (uM S 239 0 (0 : Int32)) fun S_1 =>
  (f_X11_isLiving p1 S_1).bind fun q_2 =>
  if q_2.1 = 0 then (
   some ((-1 : Int32), q_2.2)
  ) else (
   (f_X11_spokenDeeds q_2.2).bind fun q_3 =>
   (f_X11_thinks q_3.2).bind fun S_4 =>
   (f_X11_isDead p1 S_4).bind fun S_5 =>
   (f_X11_spokenDeeds S_5).bind fun q_6 =>
   (f_X11_endsThought q_6.2).bind fun S_7 =>
   some ((q_3.1 &&& (q_6.1 ^^^ (-1 : Int32))), S_7)
  )
set_option maxRecDepth 20000 in
theorem b_X11_silent {X : CX} {E : FE} (M0 : MF X E RX11 cX11_silent 4 7 (some .int)) (p1 : Int32) (S : Mm) : At X E false (mQi X Z1 E) 0 [some (.ref 239), some (.int p1), none, none] [] Z1 S 0 0 (f_X11_silent p1 S) := by
  have F := M0.1
  unfold f_X11_silent
  refine a_aload_n F dX11_silent_0 rfl rfl ?_
  refine a_iconst F dX11_silent_1 ki_0 ?_
  refine a_putI (k := 0) F cfX11 dX11_silent_2 fl_X11_107 (by decide) fi_11_0 rfl rfl zl_239 zk_239 ?_
  refine a_nmS (fun S_1 => ?_)
  refine a_aload_n F dX11_silent_5 rfl rfl ?_
  refine a_iload_n F dX11_silent_6 rfl rfl ?_
  refine a_callVI F (As := [.int p1]) cfX11 rfl (c_X11_isLiving X p1 S_1) mw_X11_isLiving ml_X11_151 im_X11_isLiving se_X11_isLiving M0.2.1 (Nat.le_of_ble_eq_true rfl) ⟨Nat.zero_le _, Nat.zero_le _⟩ rfl rfl (Nat.le_of_ble_eq_true rfl) zl_239 zk_239 dX11_silent_7 rfl (fun q_2 => ?_)
  refine a_if_ne F 15 dX11_silent_10 (by decide) ?_ ?_
  · refine a_iconst F dX11_silent_13 ki_m1 ?_
    exact a_iret F M0.2.2.1 M0.2.2.2 dX11_silent_14
  · refine a_aload_n F dX11_silent_15 rfl rfl ?_
    refine a_callVI F (As := []) cfX11 rfl (c_X11_spokenDeeds X q_2.2) mw_X11_spokenDeeds ml_X11_435 im_X11_spokenDeeds se_X11_spokenDeeds M0.2.1 (Nat.le_of_ble_eq_true rfl) ⟨Nat.zero_le _, Nat.zero_le _⟩ rfl rfl (Nat.le_of_ble_eq_true rfl) zl_239 zk_239 dX11_silent_16 rfl (fun q_3 => ?_)
    refine a_istore_n (L' := [some (.ref 239), some (.int p1), some (.int q_3.1), none]) F dX11_silent_19 rfl (lt_b rfl) rfl ?_
    refine a_aload_n F dX11_silent_20 rfl rfl ?_
    refine a_callVV F (As := []) cfX11 rfl (c_X11_thinks X q_3.2) mw_X11_thinks ml_X11_429 im_X11_thinks se_X11_thinks M0.2.1 (Nat.le_of_ble_eq_true rfl) ⟨Nat.zero_le _, Nat.zero_le _⟩ rfl rfl (Nat.le_of_ble_eq_true rfl) zl_239 zk_239 dX11_silent_21 rfl (fun S_4 => ?_)
    refine a_aload_n F dX11_silent_24 rfl rfl ?_
    refine a_iload_n F dX11_silent_25 rfl rfl ?_
    refine a_callVV F (As := [.int p1]) cfX11 rfl (c_X11_isDead X p1 S_4) mw_X11_isDead ml_X11_387 im_X11_isDead se_X11_isDead M0.2.1 (Nat.le_of_ble_eq_true rfl) ⟨Nat.zero_le _, Nat.zero_le _⟩ rfl rfl (Nat.le_of_ble_eq_true rfl) zl_239 zk_239 dX11_silent_26 rfl (fun S_5 => ?_)
    refine a_aload_n F dX11_silent_29 rfl rfl ?_
    refine a_callVI F (As := []) cfX11 rfl (c_X11_spokenDeeds X S_5) mw_X11_spokenDeeds ml_X11_435 im_X11_spokenDeeds se_X11_spokenDeeds M0.2.1 (Nat.le_of_ble_eq_true rfl) ⟨Nat.zero_le _, Nat.zero_le _⟩ rfl rfl (Nat.le_of_ble_eq_true rfl) zl_239 zk_239 dX11_silent_30 rfl (fun q_6 => ?_)
    refine a_istore_n (L' := [some (.ref 239), some (.int p1), some (.int q_3.1), some (.int q_6.1)]) F dX11_silent_33 rfl (lt_b rfl) rfl ?_
    refine a_aload_n F dX11_silent_34 rfl rfl ?_
    refine a_callVV F (As := []) cfX11 rfl (c_X11_endsThought X q_6.2) mw_X11_endsThought ml_X11_432 im_X11_endsThought se_X11_endsThought M0.2.1 (Nat.le_of_ble_eq_true rfl) ⟨Nat.zero_le _, Nat.zero_le _⟩ rfl rfl (Nat.le_of_ble_eq_true rfl) zl_239 zk_239 dX11_silent_35 rfl (fun S_7 => ?_)
    refine a_iload_n F dX11_silent_38 rfl rfl ?_
    refine a_iload_n F dX11_silent_39 rfl rfl ?_
    refine a_iconst F dX11_silent_40 ki_m1 ?_
    refine a_ixor F dX11_silent_41 ?_
    refine a_iand F dX11_silent_42 ?_
    exact a_iret F M0.2.2.1 M0.2.2.2 dX11_silent_43
theorem c_X11_silent (X : CX) (p1 : Int32) (S : Mm) : CtI X Z1 yX11_silent cX11_silent 4 (some .int) 7 [.ref 239, .int p1] S (f_X11_silent p1 S) :=
  ctI_of (by decide +kernel) rfl (Nat.le_of_ble_eq_true rfl) (by simp [Value.category]) z1len fun E F R hra hlk => b_X11_silent ⟨F, R, hra, hlk⟩ p1 S
def f_X11_state (p1 : Int32) (S : Mm) : Option (Int32 × Mm) :=
  nm (uM S 239 0 (0 : Int32)) fun S_1 =>
  nm ((S_1 240 1)) fun x2_2 =>
  nm (uM S_1 240 1 p1) fun S_3 =>
  nm (uM S_3 239 3 (0 : Int32)) fun S_4 =>
  some (x2_2, S_4)
set_option maxRecDepth 20000 in
theorem b_X11_state {X : CX} {E : FE} (M0 : MF X E RX11 cX11_state 3 1 (some .int)) (p1 : Int32) (S : Mm) : At X E false (mQi X Z1 E) 0 [some (.ref 239), some (.int p1), none] [] Z1 S 0 0 (f_X11_state p1 S) := by
  have F := M0.1
  unfold f_X11_state
  refine a_aload_n F dX11_state_0 rfl rfl ?_
  refine a_iconst F dX11_state_1 ki_0 ?_
  refine a_putI (k := 0) F cfX11 dX11_state_2 fl_X11_107 (by decide) fi_11_0 rfl rfl zl_239 zk_239 ?_
  refine a_nmS (fun S_1 => ?_)
  refine a_aload_n F dX11_state_5 rfl rfl ?_
  refine a_getR (k := 1) F cfX11 dX11_state_6 fl_X11_7 (by decide) fi_11_1 zl_239 zk_239 zr_239_1 ?_
  refine a_iconst F dX11_state_9 ki_1 ?_
  refine a_ialdK F 1 dX11_state_10 zl_240 zk_240 ib_1_148 ix_1 ?_
  refine a_istore_nN (L' := fun x2_2 => [some (.ref 239), some (.int p1), some (.int x2_2)]) F dX11_state_11 rfl (lt_b rfl) (fun _ => rfl) (fun x2_2 => ?_)
  refine a_aload_n F dX11_state_12 rfl rfl ?_
  refine a_getR (k := 1) F cfX11 dX11_state_13 fl_X11_7 (by decide) fi_11_1 zl_239 zk_239 zr_239_1 ?_
  refine a_iconst F dX11_state_16 ki_1 ?_
  refine a_iload_n F dX11_state_17 rfl rfl ?_
  refine a_iastK F 1 dX11_state_18 zl_240 zk_240 ib_1_148 ix_1 ?_
  refine a_nmS (fun S_3 => ?_)
  refine a_aload_n F dX11_state_19 rfl rfl ?_
  refine a_iconst F dX11_state_20 ki_0 ?_
  refine a_putI (k := 3) F cfX11 dX11_state_21 fl_X11_110 (by decide) fi_11_3 rfl rfl zl_239 zk_239 ?_
  refine a_nmS (fun S_4 => ?_)
  refine a_iload_n F dX11_state_24 rfl rfl ?_
  exact a_iret F M0.2.2.1 M0.2.2.2 dX11_state_25
theorem c_X11_state (X : CX) (p1 : Int32) (S : Mm) : CtI X Z1 yX11_state cX11_state 3 (some .int) 1 [.ref 239, .int p1] S (f_X11_state p1 S) :=
  ctI_of (by decide +kernel) rfl (Nat.le_of_ble_eq_true rfl) (by simp [Value.category]) z1len fun E F R hra hlk => b_X11_state ⟨F, R, hra, hlk⟩ p1 S
def f_X11_canText_39 (S : Mm) : Option (Int32 × Mm) :=
  some ((1 : Int32), S)
set_option maxRecDepth 20000 in
theorem b_X11_canText_39 {X : CX} {E : FE} (M0 : MF X E RX11 cX11_canText 3 2 (some .boolean)) (S : Mm) : At X E false (mQi X Z1 E) 39 [none, none, none] [] Z1 S 0 0 (f_X11_canText_39 S) := by
  have F := M0.1
  unfold f_X11_canText_39
  refine a_iconst F dX11_canText_39 ki_1 ?_
  refine a_goto F 44 dX11_canText_40 (by decide) ?_
  exact a_zretK F M0.2.2.1 M0.2.2.2 dX11_canText_44 (Or.inr rfl)
def f_X11_canText_43 (S : Mm) : Option (Int32 × Mm) :=
  some ((0 : Int32), S)
set_option maxRecDepth 20000 in
theorem b_X11_canText_43 {X : CX} {E : FE} (M0 : MF X E RX11 cX11_canText 3 2 (some .boolean)) (S : Mm) : At X E false (mQi X Z1 E) 43 [none, none, none] [] Z1 S 0 0 (f_X11_canText_43 S) := by
  have F := M0.1
  unfold f_X11_canText_43
  refine a_iconst F dX11_canText_43 ki_0 ?_
  exact a_zretK F M0.2.2.1 M0.2.2.2 dX11_canText_44 (Or.inl rfl)
def f_X11_canText_25 (x1 : Int32) (S : Mm) : Option (Int32 × Mm) :=
  if x1 = (2 : Int32) then (
   if (8 : Int32) ≤ (S 239 40) then (
    f_X11_canText_43 S
   ) else (
    f_X11_canText_39 S
   )
  ) else (
   f_X11_canText_43 S
  )
set_option maxRecDepth 20000 in
theorem b_X11_canText_25 {X : CX} {E : FE} (M0 : MF X E RX11 cX11_canText 3 2 (some .boolean)) (x1 : Int32) (S : Mm) : At X E false (mQi X Z1 E) 25 [some (.ref 239), some (.int x1), none] [] Z1 S 0 0 (f_X11_canText_25 x1 S) := by
  have F := M0.1
  unfold f_X11_canText_25
  refine a_iload_n F dX11_canText_25 rfl rfl ?_
  refine a_iconst F dX11_canText_26 ki_2 ?_
  refine a_icmp_ne F 43 dX11_canText_27 (by decide) ?_ ?_
  · refine a_aload_n F dX11_canText_30 rfl rfl ?_
    refine a_getI (k := 40) F cfX11 dX11_canText_31 fl_X11_125 (by decide) fi_11_40 zl_239 zk_239 ?_
    refine a_bipush F dX11_canText_34 kb_8 ?_
    refine a_icmp_ge F 43 dX11_canText_36 (by decide) ?_ ?_
    · refine a_mask [false, false, false] (L' := [none, none, none]) rfl rfl ?_
      exact b_X11_canText_43 M0 S
    · refine a_mask [false, false, false] (L' := [none, none, none]) rfl rfl ?_
      exact b_X11_canText_39 M0 S
  · refine a_mask [false, false, false] (L' := [none, none, none]) rfl rfl ?_
    exact b_X11_canText_43 M0 S
def f_X11_canText (p1 p2 : Int32) (S : Mm) : Option (Int32 × Mm) :=
  if p1 = 0 then (
   f_X11_canText_39 S
  ) else (
   if p1 = (1 : Int32) then (
    (f_X11_isPerson p2 S).bind fun q_1 =>
    if q_1.1 = 0 then (
     f_X11_canText_25 p1 q_1.2
    ) else (
     (f_X11_doesLive p2 q_1.2).bind fun q_2 =>
     if q_2.1 = 0 then (
      f_X11_canText_25 p1 q_2.2
     ) else (
      f_X11_canText_39 q_2.2
     )
    )
   ) else (
    f_X11_canText_25 p1 S
   )
  )
set_option maxRecDepth 20000 in
theorem b_X11_canText {X : CX} {E : FE} (M0 : MF X E RX11 cX11_canText 3 2 (some .boolean)) (p1 p2 : Int32) (S : Mm) : At X E false (mQi X Z1 E) 0 [some (.ref 239), some (.int p1), some (.int p2)] [] Z1 S 0 0 (f_X11_canText p1 p2 S) := by
  have F := M0.1
  unfold f_X11_canText
  refine a_iload_n F dX11_canText_0 rfl rfl ?_
  refine a_if_eq F 39 dX11_canText_1 (by decide) ?_ ?_
  · refine a_mask [false, false, false] (L' := [none, none, none]) rfl rfl ?_
    exact b_X11_canText_39 M0 S
  · refine a_iload_n F dX11_canText_4 rfl rfl ?_
    refine a_iconst F dX11_canText_5 ki_1 ?_
    refine a_icmp_ne F 25 dX11_canText_6 (by decide) ?_ ?_
    · refine a_aload_n F dX11_canText_9 rfl rfl ?_
      refine a_iload_n F dX11_canText_10 rfl rfl ?_
      refine a_callVI F (As := [.int p2]) cfX11 rfl (c_X11_isPerson X p2 S) mw_X11_isPerson ml_X11_128 im_X11_isPerson se_X11_isPerson M0.2.1 (Nat.le_of_ble_eq_true rfl) ⟨Nat.zero_le _, Nat.zero_le _⟩ rfl rfl (Nat.le_of_ble_eq_true rfl) zl_239 zk_239 dX11_canText_11 rfl (fun q_1 => ?_)
      refine a_if_eq F 25 dX11_canText_14 (by decide) ?_ ?_
      · refine a_mask [true, true, false] (L' := [some (.ref 239), some (.int p1), none]) rfl rfl ?_
        exact b_X11_canText_25 M0 p1 q_1.2
      · refine a_aload_n F dX11_canText_17 rfl rfl ?_
        refine a_iload_n F dX11_canText_18 rfl rfl ?_
        refine a_callVI F (As := [.int p2]) cfX11 rfl (c_X11_doesLive X p2 q_1.2) mw_X11_doesLive ml_X11_132 im_X11_doesLive se_X11_doesLive M0.2.1 (Nat.le_of_ble_eq_true rfl) ⟨Nat.zero_le _, Nat.zero_le _⟩ rfl rfl (Nat.le_of_ble_eq_true rfl) zl_239 zk_239 dX11_canText_19 rfl (fun q_2 => ?_)
        refine a_if_ne F 39 dX11_canText_22 (by decide) ?_ ?_
        · refine a_mask [true, true, false] (L' := [some (.ref 239), some (.int p1), none]) rfl rfl ?_
          exact b_X11_canText_25 M0 p1 q_2.2
        · refine a_mask [false, false, false] (L' := [none, none, none]) rfl rfl ?_
          exact b_X11_canText_39 M0 q_2.2
    · refine a_mask [true, true, false] (L' := [some (.ref 239), some (.int p1), none]) rfl rfl ?_
      exact b_X11_canText_25 M0 p1 S
theorem c_X11_canText (X : CX) (p1 p2 : Int32) (S : Mm) : CtI X Z1 yX11_canText cX11_canText 3 (some .boolean) 2 [.ref 239, .int p1, .int p2] S (f_X11_canText p1 p2 S) :=
  ctI_of (by decide +kernel) rfl (Nat.le_of_ble_eq_true rfl) (by simp [Value.category]) z1len fun E F R hra hlk => b_X11_canText ⟨F, R, hra, hlk⟩ p1 p2 S
def f_X11_letterOf_17 (x1 : Int32) (S : Mm) : Option (Int32 × Mm) :=
  if x1 = (46 : Int32) then (
   some ((26 : Int32), S)
  ) else (
   if x1 = (44 : Int32) then (
    some ((27 : Int32), S)
   ) else (
    some ((-1 : Int32), S)
   )
  )
set_option maxRecDepth 20000 in
theorem b_X11_letterOf_17 {X : CX} {E : FE} (M0 : MF X E RX11 cX11_letterOf 2 1 (some .int)) (x1 : Int32) (S : Mm) : At X E false (mQi X Z1 E) 17 [none, some (.int x1)] [] Z1 S 0 0 (f_X11_letterOf_17 x1 S) := by
  have F := M0.1
  unfold f_X11_letterOf_17
  refine a_iload_n F dX11_letterOf_17 rfl rfl ?_
  refine a_bipush F dX11_letterOf_18 kb_46 ?_
  refine a_icmp_ne F 28 dX11_letterOf_20 (by decide) ?_ ?_
  · refine a_bipush F dX11_letterOf_23 kb_26 ?_
    refine a_goto F 40 dX11_letterOf_25 (by decide) ?_
    exact a_iret F M0.2.2.1 M0.2.2.2 dX11_letterOf_40
  · refine a_iload_n F dX11_letterOf_28 rfl rfl ?_
    refine a_bipush F dX11_letterOf_29 kb_44 ?_
    refine a_icmp_ne F 39 dX11_letterOf_31 (by decide) ?_ ?_
    · refine a_bipush F dX11_letterOf_34 kb_27 ?_
      refine a_goto F 40 dX11_letterOf_36 (by decide) ?_
      exact a_iret F M0.2.2.1 M0.2.2.2 dX11_letterOf_40
    · refine a_iconst F dX11_letterOf_39 ki_m1 ?_
      exact a_iret F M0.2.2.1 M0.2.2.2 dX11_letterOf_40
def f_X11_letterOf (p1 : Int32) (S : Mm) : Option (Int32 × Mm) :=
  if p1 < (97 : Int32) then (
   f_X11_letterOf_17 p1 S
  ) else (
   if (122 : Int32) < p1 then (
    f_X11_letterOf_17 p1 S
   ) else (
    some ((p1 - (97 : Int32)), S)
   )
  )
set_option maxRecDepth 20000 in
theorem b_X11_letterOf {X : CX} {E : FE} (M0 : MF X E RX11 cX11_letterOf 2 1 (some .int)) (p1 : Int32) (S : Mm) : At X E false (mQi X Z1 E) 0 [some (.ref 239), some (.int p1)] [] Z1 S 0 0 (f_X11_letterOf p1 S) := by
  have F := M0.1
  unfold f_X11_letterOf
  refine a_iload_n F dX11_letterOf_0 rfl rfl ?_
  refine a_bipush F dX11_letterOf_1 kb_97 ?_
  refine a_icmp_lt F 17 dX11_letterOf_3 (by decide) ?_ ?_
  · refine a_mask [false, true] (L' := [none, some (.int p1)]) rfl rfl ?_
    exact b_X11_letterOf_17 M0 p1 S
  · refine a_iload_n F dX11_letterOf_6 rfl rfl ?_
    refine a_bipush F dX11_letterOf_7 kb_122 ?_
    refine a_icmp_gt F 17 dX11_letterOf_9 (by decide) ?_ ?_
    · refine a_mask [false, true] (L' := [none, some (.int p1)]) rfl rfl ?_
      exact b_X11_letterOf_17 M0 p1 S
    · refine a_iload_n F dX11_letterOf_12 rfl rfl ?_
      refine a_bipush F dX11_letterOf_13 kb_97 ?_
      refine a_isub F dX11_letterOf_15 ?_
      exact a_iret F M0.2.2.1 M0.2.2.2 dX11_letterOf_16
theorem c_X11_letterOf (X : CX) (p1 : Int32) (S : Mm) : CtI X Z1 yX11_letterOf cX11_letterOf 2 (some .int) 1 [.ref 239, .int p1] S (f_X11_letterOf p1 S) :=
  ctI_of (by decide +kernel) rfl (Nat.le_of_ble_eq_true rfl) (by simp [Value.category]) z1len fun E F R hra hlk => b_X11_letterOf ⟨F, R, hra, hlk⟩ p1 S
def f_X11_errsAt (p1 p2 : Int32) (S : Mm) : Option (Int32 × Mm) :=
  nm (uM S 239 32 p1) fun S_1 =>
  nm (uM S_1 239 33 p2) fun S_2 =>
  some ((-1 : Int32), S_2)
set_option maxRecDepth 20000 in
theorem b_X11_errsAt {X : CX} {E : FE} (M0 : MF X E RX11 cX11_errsAt 3 1 (some .int)) (p1 p2 : Int32) (S : Mm) : At X E false (mQi X Z1 E) 0 [some (.ref 239), some (.int p1), some (.int p2)] [] Z1 S 0 0 (f_X11_errsAt p1 p2 S) := by
  have F := M0.1
  unfold f_X11_errsAt
  refine a_aload_n F dX11_errsAt_0 rfl rfl ?_
  refine a_iload_n F dX11_errsAt_1 rfl rfl ?_
  refine a_putI (k := 32) F cfX11 dX11_errsAt_2 fl_X11_208 (by decide) fi_11_32 rfl rfl zl_239 zk_239 ?_
  refine a_nmS (fun S_1 => ?_)
  refine a_aload_n F dX11_errsAt_5 rfl rfl ?_
  refine a_iload_n F dX11_errsAt_6 rfl rfl ?_
  refine a_putI (k := 33) F cfX11 dX11_errsAt_7 fl_X11_211 (by decide) fi_11_33 rfl rfl zl_239 zk_239 ?_
  refine a_nmS (fun S_2 => ?_)
  refine a_iconst F dX11_errsAt_10 ki_m1 ?_
  exact a_iret F M0.2.2.1 M0.2.2.2 dX11_errsAt_11
theorem c_X11_errsAt (X : CX) (p1 p2 : Int32) (S : Mm) : CtI X Z1 yX11_errsAt cX11_errsAt 3 (some .int) 1 [.ref 239, .int p1, .int p2] S (f_X11_errsAt p1 p2 S) :=
  ctI_of (by decide +kernel) rfl (Nat.le_of_ble_eq_true rfl) (by simp [Value.category]) z1len fun E F R hra hlk => b_X11_errsAt ⟨F, R, hra, hlk⟩ p1 p2 S
def f_X11_readDeed_95 (k4 : Int32 → Int32 → Mm → Option (Int32 × Mm)) (x1 x2 : Int32) (S : Mm) : Option (Int32 × Mm) :=
  nm (x2 + (1 : Int32)) fun x2_1 =>
  k4 x1 x2_1 S
set_option maxRecDepth 20000 in
theorem b_X11_readDeed_95 {X : CX} {E : FE} (M0 : MF X E RX11 cX11_readDeed 3 2 (some .int)) {k4 : Int32 → Int32 → Mm → Option (Int32 × Mm)} (hk4 : ∀ (x1 x2 : Int32) (S : Mm), At X E false (mQi X Z1 E) 4 [some (.ref 239), some (.int x1), some (.int x2)] [] Z1 S 0 0 (k4 x1 x2 S)) (x1 x2 : Int32) (S : Mm) : At X E false (mQi X Z1 E) 95 [some (.ref 239), some (.int x1), some (.int x2)] [] Z1 S 0 0 (f_X11_readDeed_95 k4 x1 x2 S) := by
  have F := M0.1
  unfold f_X11_readDeed_95
  refine a_iincN (L' := fun x2_1 => [some (.ref 239), some (.int x1), some (.int x2_1)]) F dX11_readDeed_95 rfl ki_1 (lt_b rfl) (fun _ => rfl) (fun x2_1 => ?_)
  refine a_goto F 4 dX11_readDeed_98 (by decide) ?_
  exact hk4 x1 x2_1 S
def f_X11_readDeed_4b (k4 : Int32 → Int32 → Mm → Option (Int32 × Mm)) (x1 x2 : Int32) (S : Mm) : Option (Int32 × Mm) :=
  if (S 239 16) ≤ x2 then (
   if x1 = 0 then (
    (f_X11_errsAt (4 : Int32) (S 239 16) S).bind fun q_1 =>
    some (q_1.1, q_1.2)
   ) else (
    some (x1, S)
   )
  ) else (
   gd (inB x2 400 = true) <|
   if (S 250 (ix x2)) = (32 : Int32) then (
    f_X11_readDeed_95 k4 x1 x2 S
   ) else (
    gd (inB x2 400 = true) <|
    if (S 250 (ix x2)) = (10 : Int32) then (
     f_X11_readDeed_95 k4 x1 x2 S
    ) else (
     gd (inB x2 400 = true) <|
     (f_X11_letterOf (S 250 (ix x2)) S).bind fun q_2 =>
     if q_2.1 = (-1 : Int32) then (
      (f_X11_errsAt (1 : Int32) x2 q_2.2).bind fun q_3 =>
      some (q_3.1, q_3.2)
     ) else (
      if x1 = (40 : Int32) then (
       (f_X11_errsAt (3 : Int32) x2 q_2.2).bind fun q_4 =>
       some (q_4.1, q_4.2)
      ) else (
       gd (inB x2 400 = true) <|
       (f_X11_letterOf (q_2.2 250 (ix x2)) q_2.2).bind fun q_5 =>
       gd (inB ((320 : Int32) + x1) 360 = true) <|
       nm (uM q_5.2 264 (ix ((320 : Int32) + x1)) q_5.1) fun S_6 =>
       nm ((x1 + (1 : Int32))) fun x1_7 =>
       f_X11_readDeed_95 k4 x1_7 x2 S_6
      )
     )
    )
   )
  )
set_option maxRecDepth 20000 in
theorem b_X11_readDeed_4b {X : CX} {E : FE} (M0 : MF X E RX11 cX11_readDeed 3 2 (some .int)) {k4 : Int32 → Int32 → Mm → Option (Int32 × Mm)} (hk4 : ∀ (x1 x2 : Int32) (S : Mm), At X E false (mQi X Z1 E) 4 [some (.ref 239), some (.int x1), some (.int x2)] [] Z1 S 0 0 (k4 x1 x2 S)) (x1 x2 : Int32) (S : Mm) : At X E false (mQi X Z1 E) 4 [some (.ref 239), some (.int x1), some (.int x2)] [] Z1 S 0 0 (f_X11_readDeed_4b k4 x1 x2 S) := by
  have F := M0.1
  unfold f_X11_readDeed_4b
  refine a_iload_n F dX11_readDeed_4 rfl rfl ?_
  refine a_aload_n F dX11_readDeed_5 rfl rfl ?_
  refine a_getI (k := 16) F cfX11 dX11_readDeed_6 fl_X11_174 (by decide) fi_11_16 zl_239 zk_239 ?_
  refine a_icmp_ge F 101 dX11_readDeed_9 (by decide) ?_ ?_
  · refine a_iload_n F dX11_readDeed_101 rfl rfl ?_
    refine a_if_ne F 117 dX11_readDeed_102 (by decide) ?_ ?_
    · refine a_aload_n F dX11_readDeed_105 rfl rfl ?_
      refine a_iconst F dX11_readDeed_106 ki_4 ?_
      refine a_aload_n F dX11_readDeed_107 rfl rfl ?_
      refine a_getI (k := 16) F cfX11 dX11_readDeed_108 fl_X11_174 (by decide) fi_11_16 zl_239 zk_239 ?_
      refine a_callVI F (As := [.int (4 : Int32), .int (S 239 16)]) cfX11 rfl (c_X11_errsAt X (4 : Int32) (S 239 16) S) mw_X11_errsAt ml_X11_266 im_X11_errsAt se_X11_errsAt M0.2.1 (Nat.le_of_ble_eq_true rfl) ⟨Nat.zero_le _, Nat.zero_le _⟩ rfl rfl (Nat.le_of_ble_eq_true rfl) zl_239 zk_239 dX11_readDeed_111 rfl (fun q_1 => ?_)
      refine a_goto F 118 dX11_readDeed_114 (by decide) ?_
      exact a_iret F M0.2.2.1 M0.2.2.2 dX11_readDeed_118
    · refine a_iload_n F dX11_readDeed_117 rfl rfl ?_
      exact a_iret F M0.2.2.1 M0.2.2.2 dX11_readDeed_118
  · refine a_aload_n F dX11_readDeed_12 rfl rfl ?_
    refine a_getR (k := 15) F cfX11 dX11_readDeed_13 fl_X11_40 (by decide) fi_11_15 zl_239 zk_239 zr_239_15 ?_
    refine a_iload_n F dX11_readDeed_16 rfl rfl ?_
    refine a_gd (a_iald F dX11_readDeed_17 zl_250 zk_250 ?_)
    refine a_bipush F dX11_readDeed_18 kb_32 ?_
    refine a_icmp_eq F 95 dX11_readDeed_20 (by decide) ?_ ?_
    · exact b_X11_readDeed_95 M0 hk4 x1 x2 S
    · refine a_aload_n F dX11_readDeed_23 rfl rfl ?_
      refine a_getR (k := 15) F cfX11 dX11_readDeed_24 fl_X11_40 (by decide) fi_11_15 zl_239 zk_239 zr_239_15 ?_
      refine a_iload_n F dX11_readDeed_27 rfl rfl ?_
      refine a_gd (a_iald F dX11_readDeed_28 zl_250 zk_250 ?_)
      refine a_bipush F dX11_readDeed_29 kb_10 ?_
      refine a_icmp_ne F 37 dX11_readDeed_31 (by decide) ?_ ?_
      · refine a_goto F 95 dX11_readDeed_34 (by decide) ?_
        exact b_X11_readDeed_95 M0 hk4 x1 x2 S
      · refine a_aload_n F dX11_readDeed_37 rfl rfl ?_
        refine a_aload_n F dX11_readDeed_38 rfl rfl ?_
        refine a_getR (k := 15) F cfX11 dX11_readDeed_39 fl_X11_40 (by decide) fi_11_15 zl_239 zk_239 zr_239_15 ?_
        refine a_iload_n F dX11_readDeed_42 rfl rfl ?_
        refine a_gd (a_iald F dX11_readDeed_43 zl_250 zk_250 ?_)
        refine a_callVI F (As := [.int (S 250 (ix x2))]) cfX11 rfl (c_X11_letterOf X (S 250 (ix x2)) S) mw_X11_letterOf ml_X11_263 im_X11_letterOf se_X11_letterOf M0.2.1 (Nat.le_of_ble_eq_true rfl) ⟨Nat.zero_le _, Nat.zero_le _⟩ rfl rfl (Nat.le_of_ble_eq_true rfl) zl_239 zk_239 dX11_readDeed_44 rfl (fun q_2 => ?_)
        refine a_iconst F dX11_readDeed_47 ki_m1 ?_
        refine a_icmp_ne F 58 dX11_readDeed_48 (by decide) ?_ ?_
        · refine a_aload_n F dX11_readDeed_51 rfl rfl ?_
          refine a_iconst F dX11_readDeed_52 ki_1 ?_
          refine a_iload_n F dX11_readDeed_53 rfl rfl ?_
          refine a_callVI F (As := [.int (1 : Int32), .int x2]) cfX11 rfl (c_X11_errsAt X (1 : Int32) x2 q_2.2) mw_X11_errsAt ml_X11_266 im_X11_errsAt se_X11_errsAt M0.2.1 (Nat.le_of_ble_eq_true rfl) ⟨Nat.zero_le _, Nat.zero_le _⟩ rfl rfl (Nat.le_of_ble_eq_true rfl) zl_239 zk_239 dX11_readDeed_54 rfl (fun q_3 => ?_)
          exact a_iret F M0.2.2.1 M0.2.2.2 dX11_readDeed_57
        · refine a_iload_n F dX11_readDeed_58 rfl rfl ?_
          refine a_bipush F dX11_readDeed_59 kb_40 ?_
          refine a_icmp_ne F 71 dX11_readDeed_61 (by decide) ?_ ?_
          · refine a_aload_n F dX11_readDeed_64 rfl rfl ?_
            refine a_iconst F dX11_readDeed_65 ki_3 ?_
            refine a_iload_n F dX11_readDeed_66 rfl rfl ?_
            refine a_callVI F (As := [.int (3 : Int32), .int x2]) cfX11 rfl (c_X11_errsAt X (3 : Int32) x2 q_2.2) mw_X11_errsAt ml_X11_266 im_X11_errsAt se_X11_errsAt M0.2.1 (Nat.le_of_ble_eq_true rfl) ⟨Nat.zero_le _, Nat.zero_le _⟩ rfl rfl (Nat.le_of_ble_eq_true rfl) zl_239 zk_239 dX11_readDeed_67 rfl (fun q_4 => ?_)
            exact a_iret F M0.2.2.1 M0.2.2.2 dX11_readDeed_70
          · refine a_aload_n F dX11_readDeed_71 rfl rfl ?_
            refine a_getR (k := 43) F cfX11 dX11_readDeed_72 fl_X11_86 (by decide) fi_11_43 zl_239 zk_239 zr_239_43 ?_
            refine a_sipush F dX11_readDeed_75 ks_320 ?_
            refine a_iload_n F dX11_readDeed_78 rfl rfl ?_
            refine a_iadd F dX11_readDeed_79 ?_
            refine a_aload_n F dX11_readDeed_80 rfl rfl ?_
            refine a_aload_n F dX11_readDeed_81 rfl rfl ?_
            refine a_getR (k := 15) F cfX11 dX11_readDeed_82 fl_X11_40 (by decide) fi_11_15 zl_239 zk_239 zr_239_15 ?_
            refine a_iload_n F dX11_readDeed_85 rfl rfl ?_
            refine a_gd (a_iald F dX11_readDeed_86 zl_250 zk_250 ?_)
            refine a_callVI F (As := [.int (q_2.2 250 (ix x2))]) cfX11 rfl (c_X11_letterOf X (q_2.2 250 (ix x2)) q_2.2) mw_X11_letterOf ml_X11_263 im_X11_letterOf se_X11_letterOf M0.2.1 (Nat.le_of_ble_eq_true rfl) ⟨Nat.zero_le _, Nat.zero_le _⟩ rfl rfl (Nat.le_of_ble_eq_true rfl) zl_239 zk_239 dX11_readDeed_87 rfl (fun q_5 => ?_)
            refine a_gd (a_iast F dX11_readDeed_90 zl_264 zk_264 ?_)
            refine a_nmS (fun S_6 => ?_)
            refine a_iload_n F dX11_readDeed_91 rfl rfl ?_
            refine a_iconst F dX11_readDeed_92 ki_1 ?_
            refine a_iadd F dX11_readDeed_93 ?_
            refine a_istore_nN (L' := fun x1_7 => [some (.ref 239), some (.int x1_7), some (.int x2)]) F dX11_readDeed_94 rfl (lt_b rfl) (fun _ => rfl) (fun x1_7 => ?_)
            exact b_X11_readDeed_95 M0 hk4 x1_7 x2 S_6
def f_X11_readDeed_4 : Nat → Int32 → Int32 → Mm → Option (Int32 × Mm) :=
  itr (fun _ _ _ => none) (fun k => f_X11_readDeed_4b k)
theorem b_X11_readDeed_4 {X : CX} {E : FE} (M0 : MF X E RX11 cX11_readDeed 3 2 (some .int)) : ∀ (n : Nat) (x1 x2 : Int32) (S : Mm), At X E false (mQi X Z1 E) 4 [some (.ref 239), some (.int x1), some (.int x2)] [] Z1 S 0 0 (f_X11_readDeed_4  n x1 x2 S) := by
  intro n
  induction n with
  | zero => intros; exact a_none
  | succ n ih => intro x1 x2 S; exact b_X11_readDeed_4b M0 ih x1 x2 S
def f_X11_readDeed (S : Mm) : Option (Int32 × Mm) :=
  f_X11_readDeed_4 FU (0 : Int32) (0 : Int32) S
set_option maxRecDepth 20000 in
theorem b_X11_readDeed {X : CX} {E : FE} (M0 : MF X E RX11 cX11_readDeed 3 2 (some .int)) (S : Mm) : At X E false (mQi X Z1 E) 0 [some (.ref 239), none, none] [] Z1 S 0 0 (f_X11_readDeed S) := by
  have F := M0.1
  unfold f_X11_readDeed
  refine a_iconst F dX11_readDeed_0 ki_0 ?_
  refine a_istore_n (L' := [some (.ref 239), some (.int (0 : Int32)), none]) F dX11_readDeed_1 rfl (lt_b rfl) rfl ?_
  refine a_iconst F dX11_readDeed_2 ki_0 ?_
  refine a_istore_n (L' := [some (.ref 239), some (.int (0 : Int32)), some (.int (0 : Int32))]) F dX11_readDeed_3 rfl (lt_b rfl) rfl ?_
  exact b_X11_readDeed_4 M0 FU (0 : Int32) (0 : Int32) S
theorem c_X11_readDeed (X : CX) (S : Mm) : CtI X Z1 yX11_readDeed cX11_readDeed 3 (some .int) 2 [.ref 239] S (f_X11_readDeed S) :=
  ctI_of (by decide +kernel) rfl (Nat.le_of_ble_eq_true rfl) (by simp [Value.category]) z1len fun E F R hra hlk => b_X11_readDeed ⟨F, R, hra, hlk⟩ S
def f_X11_raw (p1 : Int32) (S : Mm) : Option (Int32 × Mm) :=
  if (S 239 16) ≤ p1 then (
   some ((-1 : Int32), S)
  ) else (
   gd (inB p1 400 = true) <|
   some ((S 250 (ix p1)), S)
  )
set_option maxRecDepth 20000 in
theorem b_X11_raw {X : CX} {E : FE} (M0 : MF X E RX11 cX11_raw 2 1 (some .int)) (p1 : Int32) (S : Mm) : At X E false (mQi X Z1 E) 0 [some (.ref 239), some (.int p1)] [] Z1 S 0 0 (f_X11_raw p1 S) := by
  have F := M0.1
  unfold f_X11_raw
  refine a_iload_n F dX11_raw_0 rfl rfl ?_
  refine a_aload_n F dX11_raw_1 rfl rfl ?_
  refine a_getI (k := 16) F cfX11 dX11_raw_2 fl_X11_174 (by decide) fi_11_16 zl_239 zk_239 ?_
  refine a_icmp_ge F 17 dX11_raw_5 (by decide) ?_ ?_
  · refine a_iconst F dX11_raw_17 ki_m1 ?_
    exact a_iret F M0.2.2.1 M0.2.2.2 dX11_raw_18
  · refine a_aload_n F dX11_raw_8 rfl rfl ?_
    refine a_getR (k := 15) F cfX11 dX11_raw_9 fl_X11_40 (by decide) fi_11_15 zl_239 zk_239 zr_239_15 ?_
    refine a_iload_n F dX11_raw_12 rfl rfl ?_
    refine a_gd (a_iald F dX11_raw_13 zl_250 zk_250 ?_)
    refine a_goto F 18 dX11_raw_14 (by decide) ?_
    exact a_iret F M0.2.2.1 M0.2.2.2 dX11_raw_18
theorem c_X11_raw (X : CX) (p1 : Int32) (S : Mm) : CtI X Z1 yX11_raw cX11_raw 2 (some .int) 1 [.ref 239, .int p1] S (f_X11_raw p1 S) :=
  ctI_of (by decide +kernel) rfl (Nat.le_of_ble_eq_true rfl) (by simp [Value.category]) z1len fun E F R hra hlk => b_X11_raw ⟨F, R, hra, hlk⟩ p1 S
def f_X11_isLetter_24 (S : Mm) : Option (Int32 × Mm) :=
  some ((1 : Int32), S)
set_option maxRecDepth 20000 in
theorem b_X11_isLetter_24 {X : CX} {E : FE} (M0 : MF X E RX11 cX11_isLetter 2 2 (some .boolean)) (S : Mm) : At X E false (mQi X Z1 E) 24 [none, none] [] Z1 S 0 0 (f_X11_isLetter_24 S) := by
  have F := M0.1
  unfold f_X11_isLetter_24
  refine a_iconst F dX11_isLetter_24 ki_1 ?_
  refine a_goto F 29 dX11_isLetter_25 (by decide) ?_
  exact a_zretK F M0.2.2.1 M0.2.2.2 dX11_isLetter_29 (Or.inr rfl)
def f_X11_isLetter (p1 : Int32) (S : Mm) : Option (Int32 × Mm) :=
  (f_X11_isIn p1 (97 : Int32) (122 : Int32) S).bind fun q_1 =>
  if q_1.1 = 0 then (
   (f_X11_isIn p1 (65 : Int32) (90 : Int32) q_1.2).bind fun q_2 =>
   if q_2.1 = 0 then (
    some ((0 : Int32), q_2.2)
   ) else (
    f_X11_isLetter_24 q_2.2
   )
  ) else (
   f_X11_isLetter_24 q_1.2
  )
set_option maxRecDepth 20000 in
theorem b_X11_isLetter {X : CX} {E : FE} (M0 : MF X E RX11 cX11_isLetter 2 2 (some .boolean)) (p1 : Int32) (S : Mm) : At X E false (mQi X Z1 E) 0 [some (.ref 239), some (.int p1)] [] Z1 S 0 0 (f_X11_isLetter p1 S) := by
  have F := M0.1
  unfold f_X11_isLetter
  refine a_aload_n F dX11_isLetter_0 rfl rfl ?_
  refine a_iload_n F dX11_isLetter_1 rfl rfl ?_
  refine a_bipush F dX11_isLetter_2 kb_97 ?_
  refine a_bipush F dX11_isLetter_4 kb_122 ?_
  refine a_callVI F (As := [.int p1, .int (97 : Int32), .int (122 : Int32)]) cfX11 rfl (c_X11_isIn X p1 (97 : Int32) (122 : Int32) S) mw_X11_isIn ml_X11_147 im_X11_isIn se_X11_isIn M0.2.1 (Nat.le_of_ble_eq_true rfl) ⟨Nat.zero_le _, Nat.zero_le _⟩ rfl rfl (Nat.le_of_ble_eq_true rfl) zl_239 zk_239 dX11_isLetter_6 rfl (fun q_1 => ?_)
  refine a_if_ne F 24 dX11_isLetter_9 (by decide) ?_ ?_
  · refine a_aload_n F dX11_isLetter_12 rfl rfl ?_
    refine a_iload_n F dX11_isLetter_13 rfl rfl ?_
    refine a_bipush F dX11_isLetter_14 kb_65 ?_
    refine a_bipush F dX11_isLetter_16 kb_90 ?_
    refine a_callVI F (As := [.int p1, .int (65 : Int32), .int (90 : Int32)]) cfX11 rfl (c_X11_isIn X p1 (65 : Int32) (90 : Int32) q_1.2) mw_X11_isIn ml_X11_147 im_X11_isIn se_X11_isIn M0.2.1 (Nat.le_of_ble_eq_true rfl) ⟨Nat.zero_le _, Nat.zero_le _⟩ rfl rfl (Nat.le_of_ble_eq_true rfl) zl_239 zk_239 dX11_isLetter_18 rfl (fun q_2 => ?_)
    refine a_if_eq F 28 dX11_isLetter_21 (by decide) ?_ ?_
    · refine a_iconst F dX11_isLetter_28 ki_0 ?_
      exact a_zretK F M0.2.2.1 M0.2.2.2 dX11_isLetter_29 (Or.inl rfl)
    · refine a_mask [false, false] (L' := [none, none]) rfl rfl ?_
      exact b_X11_isLetter_24 M0 q_2.2
  · refine a_mask [false, false] (L' := [none, none]) rfl rfl ?_
    exact b_X11_isLetter_24 M0 q_1.2
theorem c_X11_isLetter (X : CX) (p1 : Int32) (S : Mm) : CtI X Z1 yX11_isLetter cX11_isLetter 2 (some .boolean) 2 [.ref 239, .int p1] S (f_X11_isLetter p1 S) :=
  ctI_of (by decide +kernel) rfl (Nat.le_of_ble_eq_true rfl) (by simp [Value.category]) z1len fun E F R hra hlk => b_X11_isLetter ⟨F, R, hra, hlk⟩ p1 S
def f_X11_wordAt_93b (k5 : Int32 → Int32 → Int32 → Int32 → Mm → Option (Int32 × Mm)) (k93 : Int32 → Int32 → Int32 → Int32 → Mm → Option (Int32 × Mm)) (x1 x2 x3 x4 : Int32) (S : Mm) : Option (Int32 × Mm) :=
  gd (inB x4 93 = true) <|
  if (S 251 (ix x4)) = (32 : Int32) then (
   k5 x1 x2 x3 x4 S
  ) else (
   nm ((x4 + (1 : Int32))) fun x4_1 =>
   k93 x1 x2 x3 x4_1 S
  )
set_option maxRecDepth 20000 in
theorem b_X11_wordAt_93b {X : CX} {E : FE} (M0 : MF X E RX11 cX11_wordAt 6 1 (some .int)) {k5 : Int32 → Int32 → Int32 → Int32 → Mm → Option (Int32 × Mm)} (hk5 : ∀ (x1 x2 x3 x4 : Int32) (S : Mm), At X E false (mQi X Z1 E) 5 [some (.ref 239), some (.int x1), some (.int x2), some (.int x3), some (.int x4), none] [] Z1 S 0 0 (k5 x1 x2 x3 x4 S)) {k93 : Int32 → Int32 → Int32 → Int32 → Mm → Option (Int32 × Mm)} (hk93 : ∀ (x1 x2 x3 x4 : Int32) (S : Mm), At X E false (mQi X Z1 E) 93 [some (.ref 239), some (.int x1), some (.int x2), some (.int x3), some (.int x4), none] [] Z1 S 0 0 (k93 x1 x2 x3 x4 S)) (x1 x2 x3 x4 : Int32) (S : Mm) : At X E false (mQi X Z1 E) 93 [some (.ref 239), some (.int x1), some (.int x2), some (.int x3), some (.int x4), none] [] Z1 S 0 0 (f_X11_wordAt_93b k5 k93 x1 x2 x3 x4 S) := by
  have F := M0.1
  unfold f_X11_wordAt_93b
  refine a_aload_n F dX11_wordAt_93 rfl rfl ?_
  refine a_getR (k := 21) F cfX11 dX11_wordAt_94 fl_X11_43 (by decide) fi_11_21 zl_239 zk_239 zr_239_21 ?_
  refine a_iload F dX11_wordAt_97 rfl ?_
  refine a_gd (a_iald F dX11_wordAt_99 zl_251 zk_251 ?_)
  refine a_bipush F dX11_wordAt_100 kb_32 ?_
  refine a_icmp_eq F 114 dX11_wordAt_102 (by decide) ?_ ?_
  · refine a_goto F 5 dX11_wordAt_114 (by decide) ?_
    exact hk5 x1 x2 x3 x4 S
  · refine a_iload F dX11_wordAt_105 rfl ?_
    refine a_iconst F dX11_wordAt_107 ki_1 ?_
    refine a_iadd F dX11_wordAt_108 ?_
    refine a_istoreN (L' := fun x4_1 => [some (.ref 239), some (.int x1), some (.int x2), some (.int x3), some (.int x4_1), none]) F dX11_wordAt_109 (lt_b rfl) (fun _ => rfl) (fun x4_1 => ?_)
    refine a_goto F 93 dX11_wordAt_111 (by decide) ?_
    exact hk93 x1 x2 x3 x4_1 S
def f_X11_wordAt_93 (k5 : Int32 → Int32 → Int32 → Int32 → Mm → Option (Int32 × Mm)) : Nat → Int32 → Int32 → Int32 → Int32 → Mm → Option (Int32 × Mm) :=
  itr (fun _ _ _ _ _ => none) (fun k => f_X11_wordAt_93b k5 k)
theorem b_X11_wordAt_93 {X : CX} {E : FE} (M0 : MF X E RX11 cX11_wordAt 6 1 (some .int)) {k5 : Int32 → Int32 → Int32 → Int32 → Mm → Option (Int32 × Mm)} (hk5 : ∀ (x1 x2 x3 x4 : Int32) (S : Mm), At X E false (mQi X Z1 E) 5 [some (.ref 239), some (.int x1), some (.int x2), some (.int x3), some (.int x4), none] [] Z1 S 0 0 (k5 x1 x2 x3 x4 S)) : ∀ (n : Nat) (x1 x2 x3 x4 : Int32) (S : Mm), At X E false (mQi X Z1 E) 93 [some (.ref 239), some (.int x1), some (.int x2), some (.int x3), some (.int x4), none] [] Z1 S 0 0 (f_X11_wordAt_93 k5 n x1 x2 x3 x4 S) := by
  intro n
  induction n with
  | zero => intros; exact a_none
  | succ n ih => intro x1 x2 x3 x4 S; exact b_X11_wordAt_93b M0 hk5 ih x1 x2 x3 x4 S
def f_X11_wordAt_87 (k5 : Int32 → Int32 → Int32 → Int32 → Mm → Option (Int32 × Mm)) (x1 x2 x3 x4 : Int32) (S : Mm) : Option (Int32 × Mm) :=
  nm ((x4 + (1 : Int32))) fun x4_1 =>
  f_X11_wordAt_93 k5 FU x1 x2 x3 x4_1 S
set_option maxRecDepth 20000 in
theorem b_X11_wordAt_87 {X : CX} {E : FE} (M0 : MF X E RX11 cX11_wordAt 6 1 (some .int)) {k5 : Int32 → Int32 → Int32 → Int32 → Mm → Option (Int32 × Mm)} (hk5 : ∀ (x1 x2 x3 x4 : Int32) (S : Mm), At X E false (mQi X Z1 E) 5 [some (.ref 239), some (.int x1), some (.int x2), some (.int x3), some (.int x4), none] [] Z1 S 0 0 (k5 x1 x2 x3 x4 S)) (x1 x2 x3 x4 : Int32) (S : Mm) : At X E false (mQi X Z1 E) 87 [some (.ref 239), some (.int x1), some (.int x2), some (.int x3), some (.int x4), none] [] Z1 S 0 0 (f_X11_wordAt_87 k5 x1 x2 x3 x4 S) := by
  have F := M0.1
  unfold f_X11_wordAt_87
  refine a_iload F dX11_wordAt_87 rfl ?_
  refine a_iconst F dX11_wordAt_89 ki_1 ?_
  refine a_iadd F dX11_wordAt_90 ?_
  refine a_istoreN (L' := fun x4_1 => [some (.ref 239), some (.int x1), some (.int x2), some (.int x3), some (.int x4_1), none]) F dX11_wordAt_91 (lt_b rfl) (fun _ => rfl) (fun x4_1 => ?_)
  exact b_X11_wordAt_93 M0 hk5 FU x1 x2 x3 x4_1 S
def f_X11_wordAt_60 (k5 : Int32 → Int32 → Int32 → Int32 → Mm → Option (Int32 × Mm)) (x1 x2 x3 x4 x5 : Int32) (S : Mm) : Option (Int32 × Mm) :=
  if (x1 + x5) = x2 then (
   gd (inB ((x4 + (1 : Int32)) + x5) 93 = true) <|
   if (S 251 (ix ((x4 + (1 : Int32)) + x5))) = (32 : Int32) then (
    some (x3, S)
   ) else (
    f_X11_wordAt_87 k5 x1 x2 x3 x4 S
   )
  ) else (
   f_X11_wordAt_87 k5 x1 x2 x3 x4 S
  )
set_option maxRecDepth 20000 in
theorem b_X11_wordAt_60 {X : CX} {E : FE} (M0 : MF X E RX11 cX11_wordAt 6 1 (some .int)) {k5 : Int32 → Int32 → Int32 → Int32 → Mm → Option (Int32 × Mm)} (hk5 : ∀ (x1 x2 x3 x4 : Int32) (S : Mm), At X E false (mQi X Z1 E) 5 [some (.ref 239), some (.int x1), some (.int x2), some (.int x3), some (.int x4), none] [] Z1 S 0 0 (k5 x1 x2 x3 x4 S)) (x1 x2 x3 x4 x5 : Int32) (S : Mm) : At X E false (mQi X Z1 E) 60 [some (.ref 239), some (.int x1), some (.int x2), some (.int x3), some (.int x4), some (.int x5)] [] Z1 S 0 0 (f_X11_wordAt_60 k5 x1 x2 x3 x4 x5 S) := by
  have F := M0.1
  unfold f_X11_wordAt_60
  refine a_iload_n F dX11_wordAt_60 rfl rfl ?_
  refine a_iload F dX11_wordAt_61 rfl ?_
  refine a_iadd F dX11_wordAt_63 ?_
  refine a_iload_n F dX11_wordAt_64 rfl rfl ?_
  refine a_icmp_ne F 87 dX11_wordAt_65 (by decide) ?_ ?_
  · refine a_aload_n F dX11_wordAt_68 rfl rfl ?_
    refine a_getR (k := 21) F cfX11 dX11_wordAt_69 fl_X11_43 (by decide) fi_11_21 zl_239 zk_239 zr_239_21 ?_
    refine a_iload F dX11_wordAt_72 rfl ?_
    refine a_iconst F dX11_wordAt_74 ki_1 ?_
    refine a_iadd F dX11_wordAt_75 ?_
    refine a_iload F dX11_wordAt_76 rfl ?_
    refine a_iadd F dX11_wordAt_78 ?_
    refine a_gd (a_iald F dX11_wordAt_79 zl_251 zk_251 ?_)
    refine a_bipush F dX11_wordAt_80 kb_32 ?_
    refine a_icmp_ne F 87 dX11_wordAt_82 (by decide) ?_ ?_
    · refine a_iload_n F dX11_wordAt_85 rfl rfl ?_
      exact a_iret F M0.2.2.1 M0.2.2.2 dX11_wordAt_86
    · refine a_mask [true, true, true, true, true, false] (L' := [some (.ref 239), some (.int x1), some (.int x2), some (.int x3), some (.int x4), none]) rfl rfl ?_
      exact b_X11_wordAt_87 M0 hk5 x1 x2 x3 x4 S
  · refine a_mask [true, true, true, true, true, false] (L' := [some (.ref 239), some (.int x1), some (.int x2), some (.int x3), some (.int x4), none]) rfl rfl ?_
    exact b_X11_wordAt_87 M0 hk5 x1 x2 x3 x4 S
def f_X11_wordAt_19b (k5 : Int32 → Int32 → Int32 → Int32 → Mm → Option (Int32 × Mm)) (k19 : Int32 → Int32 → Int32 → Int32 → Int32 → Mm → Option (Int32 × Mm)) (x1 x2 x3 x4 x5 : Int32) (S : Mm) : Option (Int32 × Mm) :=
  if x2 ≤ (x1 + x5) then (
   f_X11_wordAt_60 k5 x1 x2 x3 x4 x5 S
  ) else (
   gd (inB ((x4 + (1 : Int32)) + x5) 93 = true) <|
   gd (inB (x1 + x5) 400 = true) <|
   if (S 251 (ix ((x4 + (1 : Int32)) + x5))) = (S 250 (ix (x1 + x5))) then (
    nm ((x5 + (1 : Int32))) fun x5_1 =>
    k19 x1 x2 x3 x4 x5_1 S
   ) else (
    f_X11_wordAt_60 k5 x1 x2 x3 x4 x5 S
   )
  )
set_option maxRecDepth 20000 in
theorem b_X11_wordAt_19b {X : CX} {E : FE} (M0 : MF X E RX11 cX11_wordAt 6 1 (some .int)) {k5 : Int32 → Int32 → Int32 → Int32 → Mm → Option (Int32 × Mm)} (hk5 : ∀ (x1 x2 x3 x4 : Int32) (S : Mm), At X E false (mQi X Z1 E) 5 [some (.ref 239), some (.int x1), some (.int x2), some (.int x3), some (.int x4), none] [] Z1 S 0 0 (k5 x1 x2 x3 x4 S)) {k19 : Int32 → Int32 → Int32 → Int32 → Int32 → Mm → Option (Int32 × Mm)} (hk19 : ∀ (x1 x2 x3 x4 x5 : Int32) (S : Mm), At X E false (mQi X Z1 E) 19 [some (.ref 239), some (.int x1), some (.int x2), some (.int x3), some (.int x4), some (.int x5)] [] Z1 S 0 0 (k19 x1 x2 x3 x4 x5 S)) (x1 x2 x3 x4 x5 : Int32) (S : Mm) : At X E false (mQi X Z1 E) 19 [some (.ref 239), some (.int x1), some (.int x2), some (.int x3), some (.int x4), some (.int x5)] [] Z1 S 0 0 (f_X11_wordAt_19b k5 k19 x1 x2 x3 x4 x5 S) := by
  have F := M0.1
  unfold f_X11_wordAt_19b
  refine a_iload_n F dX11_wordAt_19 rfl rfl ?_
  refine a_iload F dX11_wordAt_20 rfl ?_
  refine a_iadd F dX11_wordAt_22 ?_
  refine a_iload_n F dX11_wordAt_23 rfl rfl ?_
  refine a_icmp_ge F 60 dX11_wordAt_24 (by decide) ?_ ?_
  · exact b_X11_wordAt_60 M0 hk5 x1 x2 x3 x4 x5 S
  · refine a_aload_n F dX11_wordAt_27 rfl rfl ?_
    refine a_getR (k := 21) F cfX11 dX11_wordAt_28 fl_X11_43 (by decide) fi_11_21 zl_239 zk_239 zr_239_21 ?_
    refine a_iload F dX11_wordAt_31 rfl ?_
    refine a_iconst F dX11_wordAt_33 ki_1 ?_
    refine a_iadd F dX11_wordAt_34 ?_
    refine a_iload F dX11_wordAt_35 rfl ?_
    refine a_iadd F dX11_wordAt_37 ?_
    refine a_gd (a_iald F dX11_wordAt_38 zl_251 zk_251 ?_)
    refine a_aload_n F dX11_wordAt_39 rfl rfl ?_
    refine a_getR (k := 15) F cfX11 dX11_wordAt_40 fl_X11_40 (by decide) fi_11_15 zl_239 zk_239 zr_239_15 ?_
    refine a_iload_n F dX11_wordAt_43 rfl rfl ?_
    refine a_iload F dX11_wordAt_44 rfl ?_
    refine a_iadd F dX11_wordAt_46 ?_
    refine a_gd (a_iald F dX11_wordAt_47 zl_250 zk_250 ?_)
    refine a_icmp_ne F 60 dX11_wordAt_48 (by decide) ?_ ?_
    · refine a_iload F dX11_wordAt_51 rfl ?_
      refine a_iconst F dX11_wordAt_53 ki_1 ?_
      refine a_iadd F dX11_wordAt_54 ?_
      refine a_istoreN (L' := fun x5_1 => [some (.ref 239), some (.int x1), some (.int x2), some (.int x3), some (.int x4), some (.int x5_1)]) F dX11_wordAt_55 (lt_b rfl) (fun _ => rfl) (fun x5_1 => ?_)
      refine a_goto F 19 dX11_wordAt_57 (by decide) ?_
      exact hk19 x1 x2 x3 x4 x5_1 S
    · exact b_X11_wordAt_60 M0 hk5 x1 x2 x3 x4 x5 S
def f_X11_wordAt_19 (k5 : Int32 → Int32 → Int32 → Int32 → Mm → Option (Int32 × Mm)) : Nat → Int32 → Int32 → Int32 → Int32 → Int32 → Mm → Option (Int32 × Mm) :=
  itr (fun _ _ _ _ _ _ => none) (fun k => f_X11_wordAt_19b k5 k)
theorem b_X11_wordAt_19 {X : CX} {E : FE} (M0 : MF X E RX11 cX11_wordAt 6 1 (some .int)) {k5 : Int32 → Int32 → Int32 → Int32 → Mm → Option (Int32 × Mm)} (hk5 : ∀ (x1 x2 x3 x4 : Int32) (S : Mm), At X E false (mQi X Z1 E) 5 [some (.ref 239), some (.int x1), some (.int x2), some (.int x3), some (.int x4), none] [] Z1 S 0 0 (k5 x1 x2 x3 x4 S)) : ∀ (n : Nat) (x1 x2 x3 x4 x5 : Int32) (S : Mm), At X E false (mQi X Z1 E) 19 [some (.ref 239), some (.int x1), some (.int x2), some (.int x3), some (.int x4), some (.int x5)] [] Z1 S 0 0 (f_X11_wordAt_19 k5 n x1 x2 x3 x4 x5 S) := by
  intro n
  induction n with
  | zero => intros; exact a_none
  | succ n ih => intro x1 x2 x3 x4 x5 S; exact b_X11_wordAt_19b M0 hk5 ih x1 x2 x3 x4 x5 S
def f_X11_wordAt_5b (k5 : Int32 → Int32 → Int32 → Int32 → Mm → Option (Int32 × Mm)) (x1 x2 x3 x4 : Int32) (S : Mm) : Option (Int32 × Mm) :=
  if (92 : Int32) ≤ x4 then (
   some ((-1 : Int32), S)
  ) else (
   nm ((x3 + (1 : Int32))) fun x3_1 =>
   f_X11_wordAt_19 k5 FU x1 x2 x3_1 x4 (0 : Int32) S
  )
set_option maxRecDepth 20000 in
theorem b_X11_wordAt_5b {X : CX} {E : FE} (M0 : MF X E RX11 cX11_wordAt 6 1 (some .int)) {k5 : Int32 → Int32 → Int32 → Int32 → Mm → Option (Int32 × Mm)} (hk5 : ∀ (x1 x2 x3 x4 : Int32) (S : Mm), At X E false (mQi X Z1 E) 5 [some (.ref 239), some (.int x1), some (.int x2), some (.int x3), some (.int x4), none] [] Z1 S 0 0 (k5 x1 x2 x3 x4 S)) (x1 x2 x3 x4 : Int32) (S : Mm) : At X E false (mQi X Z1 E) 5 [some (.ref 239), some (.int x1), some (.int x2), some (.int x3), some (.int x4), none] [] Z1 S 0 0 (f_X11_wordAt_5b k5 x1 x2 x3 x4 S) := by
  have F := M0.1
  unfold f_X11_wordAt_5b
  refine a_iload F dX11_wordAt_5 rfl ?_
  refine a_bipush F dX11_wordAt_7 kb_92 ?_
  refine a_icmp_ge F 117 dX11_wordAt_9 (by decide) ?_ ?_
  · refine a_iconst F dX11_wordAt_117 ki_m1 ?_
    exact a_iret F M0.2.2.1 M0.2.2.2 dX11_wordAt_118
  · refine a_iconst F dX11_wordAt_12 ki_0 ?_
    refine a_istore (L' := [some (.ref 239), some (.int x1), some (.int x2), some (.int x3), some (.int x4), some (.int (0 : Int32))]) F dX11_wordAt_13 (lt_b rfl) rfl ?_
    refine a_iload_n F dX11_wordAt_15 rfl rfl ?_
    refine a_iconst F dX11_wordAt_16 ki_1 ?_
    refine a_iadd F dX11_wordAt_17 ?_
    refine a_istore_nN (L' := fun x3_1 => [some (.ref 239), some (.int x1), some (.int x2), some (.int x3_1), some (.int x4), some (.int (0 : Int32))]) F dX11_wordAt_18 rfl (lt_b rfl) (fun _ => rfl) (fun x3_1 => ?_)
    exact b_X11_wordAt_19 M0 hk5 FU x1 x2 x3_1 x4 (0 : Int32) S
def f_X11_wordAt_5 : Nat → Int32 → Int32 → Int32 → Int32 → Mm → Option (Int32 × Mm) :=
  itr (fun _ _ _ _ _ => none) (fun k => f_X11_wordAt_5b k)
theorem b_X11_wordAt_5 {X : CX} {E : FE} (M0 : MF X E RX11 cX11_wordAt 6 1 (some .int)) : ∀ (n : Nat) (x1 x2 x3 x4 : Int32) (S : Mm), At X E false (mQi X Z1 E) 5 [some (.ref 239), some (.int x1), some (.int x2), some (.int x3), some (.int x4), none] [] Z1 S 0 0 (f_X11_wordAt_5  n x1 x2 x3 x4 S) := by
  intro n
  induction n with
  | zero => intros; exact a_none
  | succ n ih => intro x1 x2 x3 x4 S; exact b_X11_wordAt_5b M0 ih x1 x2 x3 x4 S
def f_X11_wordAt (p1 p2 : Int32) (S : Mm) : Option (Int32 × Mm) :=
  f_X11_wordAt_5 FU p1 p2 (-1 : Int32) (0 : Int32) S
set_option maxRecDepth 20000 in
theorem b_X11_wordAt {X : CX} {E : FE} (M0 : MF X E RX11 cX11_wordAt 6 1 (some .int)) (p1 p2 : Int32) (S : Mm) : At X E false (mQi X Z1 E) 0 [some (.ref 239), some (.int p1), some (.int p2), none, none, none] [] Z1 S 0 0 (f_X11_wordAt p1 p2 S) := by
  have F := M0.1
  unfold f_X11_wordAt
  refine a_iconst F dX11_wordAt_0 ki_m1 ?_
  refine a_istore_n (L' := [some (.ref 239), some (.int p1), some (.int p2), some (.int (-1 : Int32)), none, none]) F dX11_wordAt_1 rfl (lt_b rfl) rfl ?_
  refine a_iconst F dX11_wordAt_2 ki_0 ?_
  refine a_istore (L' := [some (.ref 239), some (.int p1), some (.int p2), some (.int (-1 : Int32)), some (.int (0 : Int32)), none]) F dX11_wordAt_3 (lt_b rfl) rfl ?_
  exact b_X11_wordAt_5 M0 FU p1 p2 (-1 : Int32) (0 : Int32) S
theorem c_X11_wordAt (X : CX) (p1 p2 : Int32) (S : Mm) : CtI X Z1 yX11_wordAt cX11_wordAt 6 (some .int) 1 [.ref 239, .int p1, .int p2] S (f_X11_wordAt p1 p2 S) :=
  ctI_of (by decide +kernel) rfl (Nat.le_of_ble_eq_true rfl) (by simp [Value.category]) z1len fun E F R hra hlk => b_X11_wordAt ⟨F, R, hra, hlk⟩ p1 p2 S
def f_X11_isDigit (p1 : Int32) (S : Mm) : Option (Int32 × Mm) :=
  (f_X11_isIn p1 (48 : Int32) (57 : Int32) S).bind fun q_1 =>
  gd (q_1.1 = 0 ∨ q_1.1 = 1) <| some (q_1.1, q_1.2)
set_option maxRecDepth 20000 in
theorem b_X11_isDigit {X : CX} {E : FE} (M0 : MF X E RX11 cX11_isDigit 2 2 (some .boolean)) (p1 : Int32) (S : Mm) : At X E false (mQi X Z1 E) 0 [some (.ref 239), some (.int p1)] [] Z1 S 0 0 (f_X11_isDigit p1 S) := by
  have F := M0.1
  unfold f_X11_isDigit
  refine a_aload_n F dX11_isDigit_0 rfl rfl ?_
  refine a_iload_n F dX11_isDigit_1 rfl rfl ?_
  refine a_bipush F dX11_isDigit_2 kb_48 ?_
  refine a_bipush F dX11_isDigit_4 kb_57 ?_
  refine a_callVI F (As := [.int p1, .int (48 : Int32), .int (57 : Int32)]) cfX11 rfl (c_X11_isIn X p1 (48 : Int32) (57 : Int32) S) mw_X11_isIn ml_X11_147 im_X11_isIn se_X11_isIn M0.2.1 (Nat.le_of_ble_eq_true rfl) ⟨Nat.zero_le _, Nat.zero_le _⟩ rfl rfl (Nat.le_of_ble_eq_true rfl) zl_239 zk_239 dX11_isDigit_6 rfl (fun q_1 => ?_)
  exact a_gd (a_zret F M0.2.2.1 M0.2.2.2 dX11_isDigit_9)
theorem c_X11_isDigit (X : CX) (p1 : Int32) (S : Mm) : CtI X Z1 yX11_isDigit cX11_isDigit 2 (some .boolean) 2 [.ref 239, .int p1] S (f_X11_isDigit p1 S) :=
  ctI_of (by decide +kernel) rfl (Nat.le_of_ble_eq_true rfl) (by simp [Value.category]) z1len fun E F R hra hlk => b_X11_isDigit ⟨F, R, hra, hlk⟩ p1 S
def f_X11_isMarkSign_60 (S : Mm) : Option (Int32 × Mm) :=
  some ((1 : Int32), S)
set_option maxRecDepth 20000 in
theorem b_X11_isMarkSign_60 {X : CX} {E : FE} (M0 : MF X E RX11 cX11_isMarkSign 2 1 (some .boolean)) (S : Mm) : At X E false (mQi X Z1 E) 60 [none, none] [] Z1 S 0 0 (f_X11_isMarkSign_60 S) := by
  have F := M0.1
  unfold f_X11_isMarkSign_60
  refine a_iconst F dX11_isMarkSign_60 ki_1 ?_
  refine a_goto F 65 dX11_isMarkSign_61 (by decide) ?_
  exact a_zretK F M0.2.2.1 M0.2.2.2 dX11_isMarkSign_65 (Or.inr rfl)
def f_X11_isMarkSign (p1 : Int32) (S : Mm) : Option (Int32 × Mm) :=
  if p1 = (59 : Int32) then (
   f_X11_isMarkSign_60 S
  ) else (
   if p1 = (43 : Int32) then (
    f_X11_isMarkSign_60 S
   ) else (
    if p1 = (45 : Int32) then (
     f_X11_isMarkSign_60 S
    ) else (
     if p1 = (42 : Int32) then (
      f_X11_isMarkSign_60 S
     ) else (
      if p1 = (47 : Int32) then (
       f_X11_isMarkSign_60 S
      ) else (
       if p1 = (40 : Int32) then (
        f_X11_isMarkSign_60 S
       ) else (
        if p1 = (41 : Int32) then (
         f_X11_isMarkSign_60 S
        ) else (
         if p1 = (60 : Int32) then (
          f_X11_isMarkSign_60 S
         ) else (
          if p1 = (61 : Int32) then (
           f_X11_isMarkSign_60 S
          ) else (
           if p1 = (62 : Int32) then (
            f_X11_isMarkSign_60 S
           ) else (
            some ((0 : Int32), S)
           )
          )
         )
        )
       )
      )
     )
    )
   )
  )
set_option maxRecDepth 20000 in
theorem b_X11_isMarkSign {X : CX} {E : FE} (M0 : MF X E RX11 cX11_isMarkSign 2 1 (some .boolean)) (p1 : Int32) (S : Mm) : At X E false (mQi X Z1 E) 0 [some (.ref 239), some (.int p1)] [] Z1 S 0 0 (f_X11_isMarkSign p1 S) := by
  have F := M0.1
  unfold f_X11_isMarkSign
  refine a_iload_n F dX11_isMarkSign_0 rfl rfl ?_
  refine a_bipush F dX11_isMarkSign_1 kb_59 ?_
  refine a_icmp_eq F 60 dX11_isMarkSign_3 (by decide) ?_ ?_
  · refine a_mask [false, false] (L' := [none, none]) rfl rfl ?_
    exact b_X11_isMarkSign_60 M0 S
  · refine a_iload_n F dX11_isMarkSign_6 rfl rfl ?_
    refine a_bipush F dX11_isMarkSign_7 kb_43 ?_
    refine a_icmp_eq F 60 dX11_isMarkSign_9 (by decide) ?_ ?_
    · refine a_mask [false, false] (L' := [none, none]) rfl rfl ?_
      exact b_X11_isMarkSign_60 M0 S
    · refine a_iload_n F dX11_isMarkSign_12 rfl rfl ?_
      refine a_bipush F dX11_isMarkSign_13 kb_45 ?_
      refine a_icmp_eq F 60 dX11_isMarkSign_15 (by decide) ?_ ?_
      · refine a_mask [false, false] (L' := [none, none]) rfl rfl ?_
        exact b_X11_isMarkSign_60 M0 S
      · refine a_iload_n F dX11_isMarkSign_18 rfl rfl ?_
        refine a_bipush F dX11_isMarkSign_19 kb_42 ?_
        refine a_icmp_eq F 60 dX11_isMarkSign_21 (by decide) ?_ ?_
        · refine a_mask [false, false] (L' := [none, none]) rfl rfl ?_
          exact b_X11_isMarkSign_60 M0 S
        · refine a_iload_n F dX11_isMarkSign_24 rfl rfl ?_
          refine a_bipush F dX11_isMarkSign_25 kb_47 ?_
          refine a_icmp_eq F 60 dX11_isMarkSign_27 (by decide) ?_ ?_
          · refine a_mask [false, false] (L' := [none, none]) rfl rfl ?_
            exact b_X11_isMarkSign_60 M0 S
          · refine a_iload_n F dX11_isMarkSign_30 rfl rfl ?_
            refine a_bipush F dX11_isMarkSign_31 kb_40 ?_
            refine a_icmp_eq F 60 dX11_isMarkSign_33 (by decide) ?_ ?_
            · refine a_mask [false, false] (L' := [none, none]) rfl rfl ?_
              exact b_X11_isMarkSign_60 M0 S
            · refine a_iload_n F dX11_isMarkSign_36 rfl rfl ?_
              refine a_bipush F dX11_isMarkSign_37 kb_41 ?_
              refine a_icmp_eq F 60 dX11_isMarkSign_39 (by decide) ?_ ?_
              · refine a_mask [false, false] (L' := [none, none]) rfl rfl ?_
                exact b_X11_isMarkSign_60 M0 S
              · refine a_iload_n F dX11_isMarkSign_42 rfl rfl ?_
                refine a_bipush F dX11_isMarkSign_43 kb_60 ?_
                refine a_icmp_eq F 60 dX11_isMarkSign_45 (by decide) ?_ ?_
                · refine a_mask [false, false] (L' := [none, none]) rfl rfl ?_
                  exact b_X11_isMarkSign_60 M0 S
                · refine a_iload_n F dX11_isMarkSign_48 rfl rfl ?_
                  refine a_bipush F dX11_isMarkSign_49 kb_61 ?_
                  refine a_icmp_eq F 60 dX11_isMarkSign_51 (by decide) ?_ ?_
                  · refine a_mask [false, false] (L' := [none, none]) rfl rfl ?_
                    exact b_X11_isMarkSign_60 M0 S
                  · refine a_iload_n F dX11_isMarkSign_54 rfl rfl ?_
                    refine a_bipush F dX11_isMarkSign_55 kb_62 ?_
                    refine a_icmp_ne F 64 dX11_isMarkSign_57 (by decide) ?_ ?_
                    · refine a_mask [false, false] (L' := [none, none]) rfl rfl ?_
                      exact b_X11_isMarkSign_60 M0 S
                    · refine a_iconst F dX11_isMarkSign_64 ki_0 ?_
                      exact a_zretK F M0.2.2.1 M0.2.2.2 dX11_isMarkSign_65 (Or.inl rfl)
theorem c_X11_isMarkSign (X : CX) (p1 : Int32) (S : Mm) : CtI X Z1 yX11_isMarkSign cX11_isMarkSign 2 (some .boolean) 1 [.ref 239, .int p1] S (f_X11_isMarkSign p1 S) :=
  ctI_of (by decide +kernel) rfl (Nat.le_of_ble_eq_true rfl) (by simp [Value.category]) z1len fun E F R hra hlk => b_X11_isMarkSign ⟨F, R, hra, hlk⟩ p1 S
def f_X11_reads_26 (k0 : Mm → Option Mm) (S : Mm) : Option Mm :=
  nm (uM S 239 17 ((S 239 17) + (1 : Int32))) fun S_1 =>
  k0 S_1
set_option maxRecDepth 20000 in
theorem b_X11_reads_26 {X : CX} {E : FE} (M0 : MF X E RX11 cX11_reads 2 3 none) {k0 : Mm → Option Mm} (hk0 : ∀ (S : Mm), At X E false (mQv X Z1 E) 0 [some (.ref 239), none] [] Z1 S 0 0 (k0  S)) (S : Mm) : At X E false (mQv X Z1 E) 26 [some (.ref 239), none] [] Z1 S 0 0 (f_X11_reads_26 k0 S) := by
  have F := M0.1
  unfold f_X11_reads_26
  refine a_aload_n F dX11_reads_26 rfl rfl ?_
  refine a_aload_n F dX11_reads_27 rfl rfl ?_
  refine a_getI (k := 17) F cfX11 dX11_reads_28 fl_X11_180 (by decide) fi_11_17 zl_239 zk_239 ?_
  refine a_iconst F dX11_reads_31 ki_1 ?_
  refine a_iadd F dX11_reads_32 ?_
  refine a_putI (k := 17) F cfX11 dX11_reads_33 fl_X11_180 (by decide) fi_11_17 rfl rfl zl_239 zk_239 ?_
  refine a_nmS (fun S_1 => ?_)
  refine a_goto F 0 dX11_reads_36 (by decide) ?_
  exact hk0 S_1
def f_X11_reads_223 (k171 : Mm → Option Mm) (t1 : Int32) (S : Mm) : Option Mm :=
  nm (uM S 239 20 t1) fun S_1 =>
  nm (uM S_1 239 17 ((S_1 239 17) + (1 : Int32))) fun S_2 =>
  k171 S_2
set_option maxRecDepth 20000 in
theorem b_X11_reads_223 {X : CX} {E : FE} (M0 : MF X E RX11 cX11_reads 2 3 none) {k171 : Mm → Option Mm} (hk171 : ∀ (S : Mm), At X E false (mQv X Z1 E) 171 [some (.ref 239), none] [] Z1 S 0 0 (k171  S)) (t1 : Int32) (S : Mm) : At X E false (mQv X Z1 E) 223 [some (.ref 239), none] [.int t1, .ref 239] Z1 S 0 0 (f_X11_reads_223 k171 t1 S) := by
  have F := M0.1
  unfold f_X11_reads_223
  refine a_putI (k := 20) F cfX11 dX11_reads_223 fl_X11_192 (by decide) fi_11_20 rfl rfl zl_239 zk_239 ?_
  refine a_nmS (fun S_1 => ?_)
  refine a_aload_n F dX11_reads_226 rfl rfl ?_
  refine a_aload_n F dX11_reads_227 rfl rfl ?_
  refine a_getI (k := 17) F cfX11 dX11_reads_228 fl_X11_180 (by decide) fi_11_17 zl_239 zk_239 ?_
  refine a_iconst F dX11_reads_231 ki_1 ?_
  refine a_iadd F dX11_reads_232 ?_
  refine a_putI (k := 17) F cfX11 dX11_reads_233 fl_X11_180 (by decide) fi_11_17 rfl rfl zl_239 zk_239 ?_
  refine a_nmS (fun S_2 => ?_)
  refine a_goto F 171 dX11_reads_236 (by decide) ?_
  exact hk171 S_2
def f_X11_reads_171b (k171 : Mm → Option Mm) (S : Mm) : Option Mm :=
  (f_X11_raw (S 239 17) S).bind fun q_1 =>
  (f_X11_isDigit q_1.1 q_1.2).bind fun q_2 =>
  if q_2.1 = 0 then (
   if (5 : Int32) ≤ ((q_2.2 239 17) - (q_2.2 239 18)) then (
    some q_2.2
   ) else (
    nm (uM q_2.2 239 19 (3 : Int32)) fun S_3 =>
    some S_3
   )
  ) else (
   if (10000 : Int32) ≤ (q_2.2 239 20) then (
    f_X11_reads_223 k171 (q_2.2 239 20) q_2.2
   ) else (
    (f_X11_raw (q_2.2 239 17) q_2.2).bind fun q_4 =>
    f_X11_reads_223 k171 ((((10 : Int32) * (q_2.2 239 20)) + q_4.1) - (48 : Int32)) q_4.2
   )
  )
set_option maxRecDepth 20000 in
theorem b_X11_reads_171b {X : CX} {E : FE} (M0 : MF X E RX11 cX11_reads 2 3 none) {k171 : Mm → Option Mm} (hk171 : ∀ (S : Mm), At X E false (mQv X Z1 E) 171 [some (.ref 239), none] [] Z1 S 0 0 (k171  S)) (S : Mm) : At X E false (mQv X Z1 E) 171 [some (.ref 239), none] [] Z1 S 0 0 (f_X11_reads_171b k171 S) := by
  have F := M0.1
  unfold f_X11_reads_171b
  refine a_aload_n F dX11_reads_171 rfl rfl ?_
  refine a_aload_n F dX11_reads_172 rfl rfl ?_
  refine a_aload_n F dX11_reads_173 rfl rfl ?_
  refine a_getI (k := 17) F cfX11 dX11_reads_174 fl_X11_180 (by decide) fi_11_17 zl_239 zk_239 ?_
  refine a_callVI F (As := [.int (S 239 17)]) cfX11 rfl (c_X11_raw X (S 239 17) S) mw_X11_raw ml_X11_183 im_X11_raw se_X11_raw M0.2.1 (Nat.le_of_ble_eq_true rfl) ⟨Nat.zero_le _, Nat.zero_le _⟩ rfl rfl (Nat.le_of_ble_eq_true rfl) zl_239 zk_239 dX11_reads_177 rfl (fun q_1 => ?_)
  refine a_callVI F (As := [.int q_1.1]) cfX11 rfl (c_X11_isDigit X q_1.1 q_1.2) mw_X11_isDigit ml_X11_202 im_X11_isDigit se_X11_isDigit M0.2.1 (Nat.le_of_ble_eq_true rfl) ⟨Nat.zero_le _, Nat.zero_le _⟩ rfl rfl (Nat.le_of_ble_eq_true rfl) zl_239 zk_239 dX11_reads_180 rfl (fun q_2 => ?_)
  refine a_if_eq F 239 dX11_reads_183 (by decide) ?_ ?_
  · refine a_aload_n F dX11_reads_239 rfl rfl ?_
    refine a_getI (k := 17) F cfX11 dX11_reads_240 fl_X11_180 (by decide) fi_11_17 zl_239 zk_239 ?_
    refine a_aload_n F dX11_reads_243 rfl rfl ?_
    refine a_getI (k := 18) F cfX11 dX11_reads_244 fl_X11_186 (by decide) fi_11_18 zl_239 zk_239 ?_
    refine a_isub F dX11_reads_247 ?_
    refine a_iconst F dX11_reads_248 ki_5 ?_
    refine a_icmp_ge F 273 dX11_reads_249 (by decide) ?_ ?_
    · exact a_vret F M0.2.2.1 M0.2.2.2 dX11_reads_273
    · refine a_aload_n F dX11_reads_252 rfl rfl ?_
      refine a_iconst F dX11_reads_253 ki_3 ?_
      refine a_putI (k := 19) F cfX11 dX11_reads_254 fl_X11_189 (by decide) fi_11_19 rfl rfl zl_239 zk_239 ?_
      refine a_nmS (fun S_3 => ?_)
      refine a_goto F 273 dX11_reads_257 (by decide) ?_
      exact a_vret F M0.2.2.1 M0.2.2.2 dX11_reads_273
  · refine a_aload_n F dX11_reads_186 rfl rfl ?_
    refine a_aload_n F dX11_reads_187 rfl rfl ?_
    refine a_getI (k := 20) F cfX11 dX11_reads_188 fl_X11_192 (by decide) fi_11_20 zl_239 zk_239 ?_
    refine a_sipush F dX11_reads_191 ks_10000 ?_
    refine a_icmp_ge F 219 dX11_reads_194 (by decide) ?_ ?_
    · refine a_aload_n F dX11_reads_219 rfl rfl ?_
      refine a_getI (k := 20) F cfX11 dX11_reads_220 fl_X11_192 (by decide) fi_11_20 zl_239 zk_239 ?_
      exact b_X11_reads_223 M0 hk171 (q_2.2 239 20) q_2.2
    · refine a_bipush F dX11_reads_197 kb_10 ?_
      refine a_aload_n F dX11_reads_199 rfl rfl ?_
      refine a_getI (k := 20) F cfX11 dX11_reads_200 fl_X11_192 (by decide) fi_11_20 zl_239 zk_239 ?_
      refine a_imul F dX11_reads_203 ?_
      refine a_aload_n F dX11_reads_204 rfl rfl ?_
      refine a_aload_n F dX11_reads_205 rfl rfl ?_
      refine a_getI (k := 17) F cfX11 dX11_reads_206 fl_X11_180 (by decide) fi_11_17 zl_239 zk_239 ?_
      refine a_callVI F (As := [.int (q_2.2 239 17)]) cfX11 rfl (c_X11_raw X (q_2.2 239 17) q_2.2) mw_X11_raw ml_X11_183 im_X11_raw se_X11_raw M0.2.1 (Nat.le_of_ble_eq_true rfl) ⟨Nat.zero_le _, Nat.zero_le _⟩ rfl rfl (Nat.le_of_ble_eq_true rfl) zl_239 zk_239 dX11_reads_209 rfl (fun q_4 => ?_)
      refine a_iadd F dX11_reads_212 ?_
      refine a_bipush F dX11_reads_213 kb_48 ?_
      refine a_isub F dX11_reads_215 ?_
      refine a_goto F 223 dX11_reads_216 (by decide) ?_
      exact b_X11_reads_223 M0 hk171 ((((10 : Int32) * (q_2.2 239 20)) + q_4.1) - (48 : Int32)) q_4.2
def f_X11_reads_171 : Nat → Mm → Option Mm :=
  itr (fun _ => none) (fun k => f_X11_reads_171b k)
theorem b_X11_reads_171 {X : CX} {E : FE} (M0 : MF X E RX11 cX11_reads 2 3 none) : ∀ (n : Nat) (S : Mm), At X E false (mQv X Z1 E) 171 [some (.ref 239), none] [] Z1 S 0 0 (f_X11_reads_171  n  S) := by
  intro n
  induction n with
  | zero => intros; exact a_none
  | succ n ih => intro  S; exact b_X11_reads_171b M0 ih  S
def f_X11_reads_95b (k95 : Mm → Option Mm) (S : Mm) : Option Mm :=
  (f_X11_raw (S 239 17) S).bind fun q_1 =>
  (f_X11_isLetter q_1.1 q_1.2).bind fun q_2 =>
  if q_2.1 = 0 then (
   (f_X11_wordAt (q_2.2 239 18) (q_2.2 239 17) q_2.2).bind fun q_3 =>
   nm (uM q_3.2 239 20 q_3.1) fun S_4 =>
   if (S_4 239 20) = (-1 : Int32) then (
    some S_4
   ) else (
    nm (uM S_4 239 19 (2 : Int32)) fun S_5 =>
    some S_5
   )
  ) else (
   nm (uM q_2.2 239 17 ((q_2.2 239 17) + (1 : Int32))) fun S_6 =>
   k95 S_6
  )
set_option maxRecDepth 20000 in
theorem b_X11_reads_95b {X : CX} {E : FE} (M0 : MF X E RX11 cX11_reads 2 3 none) {k95 : Mm → Option Mm} (hk95 : ∀ (S : Mm), At X E false (mQv X Z1 E) 95 [some (.ref 239), none] [] Z1 S 0 0 (k95  S)) (S : Mm) : At X E false (mQv X Z1 E) 95 [some (.ref 239), none] [] Z1 S 0 0 (f_X11_reads_95b k95 S) := by
  have F := M0.1
  unfold f_X11_reads_95b
  refine a_aload_n F dX11_reads_95 rfl rfl ?_
  refine a_aload_n F dX11_reads_96 rfl rfl ?_
  refine a_aload_n F dX11_reads_97 rfl rfl ?_
  refine a_getI (k := 17) F cfX11 dX11_reads_98 fl_X11_180 (by decide) fi_11_17 zl_239 zk_239 ?_
  refine a_callVI F (As := [.int (S 239 17)]) cfX11 rfl (c_X11_raw X (S 239 17) S) mw_X11_raw ml_X11_183 im_X11_raw se_X11_raw M0.2.1 (Nat.le_of_ble_eq_true rfl) ⟨Nat.zero_le _, Nat.zero_le _⟩ rfl rfl (Nat.le_of_ble_eq_true rfl) zl_239 zk_239 dX11_reads_101 rfl (fun q_1 => ?_)
  refine a_callVI F (As := [.int q_1.1]) cfX11 rfl (c_X11_isLetter X q_1.1 q_1.2) mw_X11_isLetter ml_X11_195 im_X11_isLetter se_X11_isLetter M0.2.1 (Nat.le_of_ble_eq_true rfl) ⟨Nat.zero_le _, Nat.zero_le _⟩ rfl rfl (Nat.le_of_ble_eq_true rfl) zl_239 zk_239 dX11_reads_104 rfl (fun q_2 => ?_)
  refine a_if_eq F 123 dX11_reads_107 (by decide) ?_ ?_
  · refine a_aload_n F dX11_reads_123 rfl rfl ?_
    refine a_aload_n F dX11_reads_124 rfl rfl ?_
    refine a_aload_n F dX11_reads_125 rfl rfl ?_
    refine a_getI (k := 18) F cfX11 dX11_reads_126 fl_X11_186 (by decide) fi_11_18 zl_239 zk_239 ?_
    refine a_aload_n F dX11_reads_129 rfl rfl ?_
    refine a_getI (k := 17) F cfX11 dX11_reads_130 fl_X11_180 (by decide) fi_11_17 zl_239 zk_239 ?_
    refine a_callVI F (As := [.int (q_2.2 239 18), .int (q_2.2 239 17)]) cfX11 rfl (c_X11_wordAt X (q_2.2 239 18) (q_2.2 239 17) q_2.2) mw_X11_wordAt ml_X11_198 im_X11_wordAt se_X11_wordAt M0.2.1 (Nat.le_of_ble_eq_true rfl) ⟨Nat.zero_le _, Nat.zero_le _⟩ rfl rfl (Nat.le_of_ble_eq_true rfl) zl_239 zk_239 dX11_reads_133 rfl (fun q_3 => ?_)
    refine a_putI (k := 20) F cfX11 dX11_reads_136 fl_X11_192 (by decide) fi_11_20 rfl rfl zl_239 zk_239 ?_
    refine a_nmS (fun S_4 => ?_)
    refine a_aload_n F dX11_reads_139 rfl rfl ?_
    refine a_getI (k := 20) F cfX11 dX11_reads_140 fl_X11_192 (by decide) fi_11_20 zl_239 zk_239 ?_
    refine a_iconst F dX11_reads_143 ki_m1 ?_
    refine a_icmp_eq F 273 dX11_reads_144 (by decide) ?_ ?_
    · exact a_vret F M0.2.2.1 M0.2.2.2 dX11_reads_273
    · refine a_aload_n F dX11_reads_147 rfl rfl ?_
      refine a_iconst F dX11_reads_148 ki_2 ?_
      refine a_putI (k := 19) F cfX11 dX11_reads_149 fl_X11_189 (by decide) fi_11_19 rfl rfl zl_239 zk_239 ?_
      refine a_nmS (fun S_5 => ?_)
      refine a_goto F 273 dX11_reads_152 (by decide) ?_
      exact a_vret F M0.2.2.1 M0.2.2.2 dX11_reads_273
  · refine a_aload_n F dX11_reads_110 rfl rfl ?_
    refine a_aload_n F dX11_reads_111 rfl rfl ?_
    refine a_getI (k := 17) F cfX11 dX11_reads_112 fl_X11_180 (by decide) fi_11_17 zl_239 zk_239 ?_
    refine a_iconst F dX11_reads_115 ki_1 ?_
    refine a_iadd F dX11_reads_116 ?_
    refine a_putI (k := 17) F cfX11 dX11_reads_117 fl_X11_180 (by decide) fi_11_17 rfl rfl zl_239 zk_239 ?_
    refine a_nmS (fun S_6 => ?_)
    refine a_goto F 95 dX11_reads_120 (by decide) ?_
    exact hk95 S_6
def f_X11_reads_95 : Nat → Mm → Option Mm :=
  itr (fun _ => none) (fun k => f_X11_reads_95b k)
theorem b_X11_reads_95 {X : CX} {E : FE} (M0 : MF X E RX11 cX11_reads 2 3 none) : ∀ (n : Nat) (S : Mm), At X E false (mQv X Z1 E) 95 [some (.ref 239), none] [] Z1 S 0 0 (f_X11_reads_95  n  S) := by
  intro n
  induction n with
  | zero => intros; exact a_none
  | succ n ih => intro  S; exact b_X11_reads_95b M0 ih  S
def f_X11_reads_0b (k0 : Mm → Option Mm) (S : Mm) : Option Mm :=
  (f_X11_raw (S 239 17) S).bind fun q_1 =>
  if q_1.1 = (32 : Int32) then (
   f_X11_reads_26 k0 q_1.2
  ) else (
   (f_X11_raw (q_1.2 239 17) q_1.2).bind fun q_2 =>
   if q_2.1 = (10 : Int32) then (
    f_X11_reads_26 k0 q_2.2
   ) else (
    nm (uM q_2.2 239 18 (q_2.2 239 17)) fun S_3 =>
    nm (uM S_3 239 19 (1 : Int32)) fun S_4 =>
    (f_X11_raw (S_4 239 17) S_4).bind fun q_5 =>
    if q_5.1 = (-1 : Int32) then (
     nm (uM q_5.2 239 19 (0 : Int32)) fun S_6 =>
     some S_6
    ) else (
     nm (uM q_5.2 239 17 ((q_5.2 239 17) + (1 : Int32))) fun S_7 =>
     nm (uM S_7 239 20 q_5.1) fun S_8 =>
     (f_X11_isLetter q_5.1 S_8).bind fun q_9 =>
     if q_9.1 = 0 then (
      (f_X11_isDigit q_5.1 q_9.2).bind fun q_10 =>
      if q_10.1 = 0 then (
       (f_X11_isMarkSign q_5.1 q_10.2).bind fun q_11 =>
       if q_11.1 = 0 then (
        some q_11.2
       ) else (
        nm (uM q_11.2 239 19 (4 : Int32)) fun S_12 =>
        some S_12
       )
      ) else (
       nm (uM q_10.2 239 20 (q_5.1 - (48 : Int32))) fun S_13 =>
       f_X11_reads_171 FU S_13
      )
     ) else (
      f_X11_reads_95 FU q_9.2
     )
    )
   )
  )
set_option maxRecDepth 20000 in
theorem b_X11_reads_0b {X : CX} {E : FE} (M0 : MF X E RX11 cX11_reads 2 3 none) {k0 : Mm → Option Mm} (hk0 : ∀ (S : Mm), At X E false (mQv X Z1 E) 0 [some (.ref 239), none] [] Z1 S 0 0 (k0  S)) (S : Mm) : At X E false (mQv X Z1 E) 0 [some (.ref 239), none] [] Z1 S 0 0 (f_X11_reads_0b k0 S) := by
  have F := M0.1
  unfold f_X11_reads_0b
  refine a_aload_n F dX11_reads_0 rfl rfl ?_
  refine a_aload_n F dX11_reads_1 rfl rfl ?_
  refine a_getI (k := 17) F cfX11 dX11_reads_2 fl_X11_180 (by decide) fi_11_17 zl_239 zk_239 ?_
  refine a_callVI F (As := [.int (S 239 17)]) cfX11 rfl (c_X11_raw X (S 239 17) S) mw_X11_raw ml_X11_183 im_X11_raw se_X11_raw M0.2.1 (Nat.le_of_ble_eq_true rfl) ⟨Nat.zero_le _, Nat.zero_le _⟩ rfl rfl (Nat.le_of_ble_eq_true rfl) zl_239 zk_239 dX11_reads_5 rfl (fun q_1 => ?_)
  refine a_bipush F dX11_reads_8 kb_32 ?_
  refine a_icmp_eq F 26 dX11_reads_10 (by decide) ?_ ?_
  · exact b_X11_reads_26 M0 hk0 q_1.2
  · refine a_aload_n F dX11_reads_13 rfl rfl ?_
    refine a_aload_n F dX11_reads_14 rfl rfl ?_
    refine a_getI (k := 17) F cfX11 dX11_reads_15 fl_X11_180 (by decide) fi_11_17 zl_239 zk_239 ?_
    refine a_callVI F (As := [.int (q_1.2 239 17)]) cfX11 rfl (c_X11_raw X (q_1.2 239 17) q_1.2) mw_X11_raw ml_X11_183 im_X11_raw se_X11_raw M0.2.1 (Nat.le_of_ble_eq_true rfl) ⟨Nat.zero_le _, Nat.zero_le _⟩ rfl rfl (Nat.le_of_ble_eq_true rfl) zl_239 zk_239 dX11_reads_18 rfl (fun q_2 => ?_)
    refine a_bipush F dX11_reads_21 kb_10 ?_
    refine a_icmp_ne F 39 dX11_reads_23 (by decide) ?_ ?_
    · exact b_X11_reads_26 M0 hk0 q_2.2
    · refine a_aload_n F dX11_reads_39 rfl rfl ?_
      refine a_aload_n F dX11_reads_40 rfl rfl ?_
      refine a_getI (k := 17) F cfX11 dX11_reads_41 fl_X11_180 (by decide) fi_11_17 zl_239 zk_239 ?_
      refine a_putI (k := 18) F cfX11 dX11_reads_44 fl_X11_186 (by decide) fi_11_18 rfl rfl zl_239 zk_239 ?_
      refine a_nmS (fun S_3 => ?_)
      refine a_aload_n F dX11_reads_47 rfl rfl ?_
      refine a_iconst F dX11_reads_48 ki_1 ?_
      refine a_putI (k := 19) F cfX11 dX11_reads_49 fl_X11_189 (by decide) fi_11_19 rfl rfl zl_239 zk_239 ?_
      refine a_nmS (fun S_4 => ?_)
      refine a_aload_n F dX11_reads_52 rfl rfl ?_
      refine a_aload_n F dX11_reads_53 rfl rfl ?_
      refine a_getI (k := 17) F cfX11 dX11_reads_54 fl_X11_180 (by decide) fi_11_17 zl_239 zk_239 ?_
      refine a_callVI F (As := [.int (S_4 239 17)]) cfX11 rfl (c_X11_raw X (S_4 239 17) S_4) mw_X11_raw ml_X11_183 im_X11_raw se_X11_raw M0.2.1 (Nat.le_of_ble_eq_true rfl) ⟨Nat.zero_le _, Nat.zero_le _⟩ rfl rfl (Nat.le_of_ble_eq_true rfl) zl_239 zk_239 dX11_reads_57 rfl (fun q_5 => ?_)
      refine a_istore_n (L' := [some (.ref 239), some (.int q_5.1)]) F dX11_reads_60 rfl (lt_b rfl) rfl ?_
      refine a_iload_n F dX11_reads_61 rfl rfl ?_
      refine a_iconst F dX11_reads_62 ki_m1 ?_
      refine a_icmp_ne F 72 dX11_reads_63 (by decide) ?_ ?_
      · refine a_aload_n F dX11_reads_66 rfl rfl ?_
        refine a_iconst F dX11_reads_67 ki_0 ?_
        refine a_putI (k := 19) F cfX11 dX11_reads_68 fl_X11_189 (by decide) fi_11_19 rfl rfl zl_239 zk_239 ?_
        refine a_nmS (fun S_6 => ?_)
        exact a_vret F M0.2.2.1 M0.2.2.2 dX11_reads_71
      · refine a_aload_n F dX11_reads_72 rfl rfl ?_
        refine a_aload_n F dX11_reads_73 rfl rfl ?_
        refine a_getI (k := 17) F cfX11 dX11_reads_74 fl_X11_180 (by decide) fi_11_17 zl_239 zk_239 ?_
        refine a_iconst F dX11_reads_77 ki_1 ?_
        refine a_iadd F dX11_reads_78 ?_
        refine a_putI (k := 17) F cfX11 dX11_reads_79 fl_X11_180 (by decide) fi_11_17 rfl rfl zl_239 zk_239 ?_
        refine a_nmS (fun S_7 => ?_)
        refine a_aload_n F dX11_reads_82 rfl rfl ?_
        refine a_iload_n F dX11_reads_83 rfl rfl ?_
        refine a_putI (k := 20) F cfX11 dX11_reads_84 fl_X11_192 (by decide) fi_11_20 rfl rfl zl_239 zk_239 ?_
        refine a_nmS (fun S_8 => ?_)
        refine a_aload_n F dX11_reads_87 rfl rfl ?_
        refine a_iload_n F dX11_reads_88 rfl rfl ?_
        refine a_callVI F (As := [.int q_5.1]) cfX11 rfl (c_X11_isLetter X q_5.1 S_8) mw_X11_isLetter ml_X11_195 im_X11_isLetter se_X11_isLetter M0.2.1 (Nat.le_of_ble_eq_true rfl) ⟨Nat.zero_le _, Nat.zero_le _⟩ rfl rfl (Nat.le_of_ble_eq_true rfl) zl_239 zk_239 dX11_reads_89 rfl (fun q_9 => ?_)
        refine a_if_eq F 155 dX11_reads_92 (by decide) ?_ ?_
        · refine a_aload_n F dX11_reads_155 rfl rfl ?_
          refine a_iload_n F dX11_reads_156 rfl rfl ?_
          refine a_callVI F (As := [.int q_5.1]) cfX11 rfl (c_X11_isDigit X q_5.1 q_9.2) mw_X11_isDigit ml_X11_202 im_X11_isDigit se_X11_isDigit M0.2.1 (Nat.le_of_ble_eq_true rfl) ⟨Nat.zero_le _, Nat.zero_le _⟩ rfl rfl (Nat.le_of_ble_eq_true rfl) zl_239 zk_239 dX11_reads_157 rfl (fun q_10 => ?_)
          refine a_if_eq F 260 dX11_reads_160 (by decide) ?_ ?_
          · refine a_aload_n F dX11_reads_260 rfl rfl ?_
            refine a_iload_n F dX11_reads_261 rfl rfl ?_
            refine a_callVI F (As := [.int q_5.1]) cfX11 rfl (c_X11_isMarkSign X q_5.1 q_10.2) mw_X11_isMarkSign ml_X11_205 im_X11_isMarkSign se_X11_isMarkSign M0.2.1 (Nat.le_of_ble_eq_true rfl) ⟨Nat.zero_le _, Nat.zero_le _⟩ rfl rfl (Nat.le_of_ble_eq_true rfl) zl_239 zk_239 dX11_reads_262 rfl (fun q_11 => ?_)
            refine a_if_eq F 273 dX11_reads_265 (by decide) ?_ ?_
            · exact a_vret F M0.2.2.1 M0.2.2.2 dX11_reads_273
            · refine a_aload_n F dX11_reads_268 rfl rfl ?_
              refine a_iconst F dX11_reads_269 ki_4 ?_
              refine a_putI (k := 19) F cfX11 dX11_reads_270 fl_X11_189 (by decide) fi_11_19 rfl rfl zl_239 zk_239 ?_
              refine a_nmS (fun S_12 => ?_)
              exact a_vret F M0.2.2.1 M0.2.2.2 dX11_reads_273
          · refine a_aload_n F dX11_reads_163 rfl rfl ?_
            refine a_iload_n F dX11_reads_164 rfl rfl ?_
            refine a_bipush F dX11_reads_165 kb_48 ?_
            refine a_isub F dX11_reads_167 ?_
            refine a_putI (k := 20) F cfX11 dX11_reads_168 fl_X11_192 (by decide) fi_11_20 rfl rfl zl_239 zk_239 ?_
            refine a_nmS (fun S_13 => ?_)
            refine a_mask [true, false] (L' := [some (.ref 239), none]) rfl rfl ?_
            exact b_X11_reads_171 M0 FU S_13
        · refine a_mask [true, false] (L' := [some (.ref 239), none]) rfl rfl ?_
          exact b_X11_reads_95 M0 FU q_9.2
def f_X11_reads_0 : Nat → Mm → Option Mm :=
  itr (fun _ => none) (fun k => f_X11_reads_0b k)
theorem b_X11_reads_0 {X : CX} {E : FE} (M0 : MF X E RX11 cX11_reads 2 3 none) : ∀ (n : Nat) (S : Mm), At X E false (mQv X Z1 E) 0 [some (.ref 239), none] [] Z1 S 0 0 (f_X11_reads_0  n  S) := by
  intro n
  induction n with
  | zero => intros; exact a_none
  | succ n ih => intro  S; exact b_X11_reads_0b M0 ih  S
def f_X11_reads (S : Mm) : Option Mm :=
  f_X11_reads_0 FU S
set_option maxRecDepth 20000 in
theorem b_X11_reads {X : CX} {E : FE} (M0 : MF X E RX11 cX11_reads 2 3 none) (S : Mm) : At X E false (mQv X Z1 E) 0 [some (.ref 239), none] [] Z1 S 0 0 (f_X11_reads S) := by
  have F := M0.1
  unfold f_X11_reads
  exact b_X11_reads_0 M0 FU S
theorem c_X11_reads (X : CX) (S : Mm) : CtV X Z1 yX11_reads cX11_reads 2 3 [.ref 239] S (f_X11_reads S) :=
  ctV_of (by decide +kernel) rfl (Nat.le_of_ble_eq_true rfl) (by simp [Value.category]) z1len fun E F R hra hlk => b_X11_reads ⟨F, R, hra, hlk⟩ S
def f_X11_isWord_20 (S : Mm) : Option (Int32 × Mm) :=
  some ((0 : Int32), S)
set_option maxRecDepth 20000 in
theorem b_X11_isWord_20 {X : CX} {E : FE} (M0 : MF X E RX11 cX11_isWord 2 1 (some .boolean)) (S : Mm) : At X E false (mQi X Z1 E) 20 [none, none] [] Z1 S 0 0 (f_X11_isWord_20 S) := by
  have F := M0.1
  unfold f_X11_isWord_20
  refine a_iconst F dX11_isWord_20 ki_0 ?_
  exact a_zretK F M0.2.2.1 M0.2.2.2 dX11_isWord_21 (Or.inl rfl)
def f_X11_isWord (p1 : Int32) (S : Mm) : Option (Int32 × Mm) :=
  if (S 239 19) = (2 : Int32) then (
   if (S 239 20) = p1 then (
    some ((1 : Int32), S)
   ) else (
    f_X11_isWord_20 S
   )
  ) else (
   f_X11_isWord_20 S
  )
set_option maxRecDepth 20000 in
theorem b_X11_isWord {X : CX} {E : FE} (M0 : MF X E RX11 cX11_isWord 2 1 (some .boolean)) (p1 : Int32) (S : Mm) : At X E false (mQi X Z1 E) 0 [some (.ref 239), some (.int p1)] [] Z1 S 0 0 (f_X11_isWord p1 S) := by
  have F := M0.1
  unfold f_X11_isWord
  refine a_aload_n F dX11_isWord_0 rfl rfl ?_
  refine a_getI (k := 19) F cfX11 dX11_isWord_1 fl_X11_189 (by decide) fi_11_19 zl_239 zk_239 ?_
  refine a_iconst F dX11_isWord_4 ki_2 ?_
  refine a_icmp_ne F 20 dX11_isWord_5 (by decide) ?_ ?_
  · refine a_aload_n F dX11_isWord_8 rfl rfl ?_
    refine a_getI (k := 20) F cfX11 dX11_isWord_9 fl_X11_192 (by decide) fi_11_20 zl_239 zk_239 ?_
    refine a_iload_n F dX11_isWord_12 rfl rfl ?_
    refine a_icmp_ne F 20 dX11_isWord_13 (by decide) ?_ ?_
    · refine a_iconst F dX11_isWord_16 ki_1 ?_
      refine a_goto F 21 dX11_isWord_17 (by decide) ?_
      exact a_zretK F M0.2.2.1 M0.2.2.2 dX11_isWord_21 (Or.inr rfl)
    · refine a_mask [false, false] (L' := [none, none]) rfl rfl ?_
      exact b_X11_isWord_20 M0 S
  · refine a_mask [false, false] (L' := [none, none]) rfl rfl ?_
    exact b_X11_isWord_20 M0 S
theorem c_X11_isWord (X : CX) (p1 : Int32) (S : Mm) : CtI X Z1 yX11_isWord cX11_isWord 2 (some .boolean) 1 [.ref 239, .int p1] S (f_X11_isWord p1 S) :=
  ctI_of (by decide +kernel) rfl (Nat.le_of_ble_eq_true rfl) (by simp [Value.category]) z1len fun E F R hra hlk => b_X11_isWord ⟨F, R, hra, hlk⟩ p1 S
def f_X11_errs (p1 : Int32) (S : Mm) : Option (Int32 × Mm) :=
  nm (uM S 239 32 p1) fun S_1 =>
  nm (uM S_1 239 33 (S_1 239 18)) fun S_2 =>
  some ((-1 : Int32), S_2)
set_option maxRecDepth 20000 in
theorem b_X11_errs {X : CX} {E : FE} (M0 : MF X E RX11 cX11_errs 2 1 (some .int)) (p1 : Int32) (S : Mm) : At X E false (mQi X Z1 E) 0 [some (.ref 239), some (.int p1)] [] Z1 S 0 0 (f_X11_errs p1 S) := by
  have F := M0.1
  unfold f_X11_errs
  refine a_aload_n F dX11_errs_0 rfl rfl ?_
  refine a_iload_n F dX11_errs_1 rfl rfl ?_
  refine a_putI (k := 32) F cfX11 dX11_errs_2 fl_X11_208 (by decide) fi_11_32 rfl rfl zl_239 zk_239 ?_
  refine a_nmS (fun S_1 => ?_)
  refine a_aload_n F dX11_errs_5 rfl rfl ?_
  refine a_aload_n F dX11_errs_6 rfl rfl ?_
  refine a_getI (k := 18) F cfX11 dX11_errs_7 fl_X11_186 (by decide) fi_11_18 zl_239 zk_239 ?_
  refine a_putI (k := 33) F cfX11 dX11_errs_10 fl_X11_211 (by decide) fi_11_33 rfl rfl zl_239 zk_239 ?_
  refine a_nmS (fun S_2 => ?_)
  refine a_iconst F dX11_errs_13 ki_m1 ?_
  exact a_iret F M0.2.2.1 M0.2.2.2 dX11_errs_14
theorem c_X11_errs (X : CX) (p1 : Int32) (S : Mm) : CtI X Z1 yX11_errs cX11_errs 2 (some .int) 1 [.ref 239, .int p1] S (f_X11_errs p1 S) :=
  ctI_of (by decide +kernel) rfl (Nat.le_of_ble_eq_true rfl) (by simp [Value.category]) z1len fun E F R hra hlk => b_X11_errs ⟨F, R, hra, hlk⟩ p1 S
def f_X11_emits (p1 p2 : Int32) (S : Mm) : Option Mm :=
  gd (inB ((400 : Int32) + (S 239 28)) 800 = true) <|
  nm (uM S 255 (ix ((400 : Int32) + (S 239 28))) p1) fun S_1 =>
  gd (inB ((400 : Int32) + (S_1 239 28)) 800 = true) <|
  nm (uM S_1 256 (ix ((400 : Int32) + (S_1 239 28))) p2) fun S_2 =>
  nm (uM S_2 239 28 ((S_2 239 28) + (1 : Int32))) fun S_3 =>
  some S_3
set_option maxRecDepth 20000 in
theorem b_X11_emits {X : CX} {E : FE} (M0 : MF X E RX11 cX11_emits 3 1 none) (p1 p2 : Int32) (S : Mm) : At X E false (mQv X Z1 E) 0 [some (.ref 239), some (.int p1), some (.int p2)] [] Z1 S 0 0 (f_X11_emits p1 p2 S) := by
  have F := M0.1
  unfold f_X11_emits
  refine a_aload_n F dX11_emits_0 rfl rfl ?_
  refine a_getR (k := 26) F cfX11 dX11_emits_1 fl_X11_55 (by decide) fi_11_26 zl_239 zk_239 zr_239_26 ?_
  refine a_sipush F dX11_emits_4 ks_400 ?_
  refine a_aload_n F dX11_emits_7 rfl rfl ?_
  refine a_getI (k := 28) F cfX11 dX11_emits_8 fl_X11_214 (by decide) fi_11_28 zl_239 zk_239 ?_
  refine a_iadd F dX11_emits_11 ?_
  refine a_iload_n F dX11_emits_12 rfl rfl ?_
  refine a_gd (a_iast F dX11_emits_13 zl_255 zk_255 ?_)
  refine a_nmS (fun S_1 => ?_)
  refine a_aload_n F dX11_emits_14 rfl rfl ?_
  refine a_getR (k := 27) F cfX11 dX11_emits_15 fl_X11_58 (by decide) fi_11_27 zl_239 zk_239 zr_239_27 ?_
  refine a_sipush F dX11_emits_18 ks_400 ?_
  refine a_aload_n F dX11_emits_21 rfl rfl ?_
  refine a_getI (k := 28) F cfX11 dX11_emits_22 fl_X11_214 (by decide) fi_11_28 zl_239 zk_239 ?_
  refine a_iadd F dX11_emits_25 ?_
  refine a_iload_n F dX11_emits_26 rfl rfl ?_
  refine a_gd (a_iast F dX11_emits_27 zl_256 zk_256 ?_)
  refine a_nmS (fun S_2 => ?_)
  refine a_aload_n F dX11_emits_28 rfl rfl ?_
  refine a_aload_n F dX11_emits_29 rfl rfl ?_
  refine a_getI (k := 28) F cfX11 dX11_emits_30 fl_X11_214 (by decide) fi_11_28 zl_239 zk_239 ?_
  refine a_iconst F dX11_emits_33 ki_1 ?_
  refine a_iadd F dX11_emits_34 ?_
  refine a_putI (k := 28) F cfX11 dX11_emits_35 fl_X11_214 (by decide) fi_11_28 rfl rfl zl_239 zk_239 ?_
  refine a_nmS (fun S_3 => ?_)
  exact a_vret F M0.2.2.1 M0.2.2.2 dX11_emits_38
theorem c_X11_emits (X : CX) (p1 p2 : Int32) (S : Mm) : CtV X Z1 yX11_emits cX11_emits 3 1 [.ref 239, .int p1, .int p2] S (f_X11_emits p1 p2 S) :=
  ctV_of (by decide +kernel) rfl (Nat.le_of_ble_eq_true rfl) (by simp [Value.category]) z1len fun E F R hra hlk => b_X11_emits ⟨F, R, hra, hlk⟩ p1 p2 S
def f_X11_readUnit_73 (t1 t2 : Int32) (S : Mm) : Option (Int32 × Mm) :=
  (f_X11_emits t1 t2 S).bind fun S_1 =>
  (f_X11_reads S_1).bind fun S_2 =>
  some ((0 : Int32), S_2)
set_option maxRecDepth 20000 in
theorem b_X11_readUnit_73 {X : CX} {E : FE} (M0 : MF X E RX11 cX11_readUnit 2 4 (some .int)) (t1 t2 : Int32) (S : Mm) : At X E false (mQi X Z1 E) 73 [some (.ref 239), none] [.int t2, .int t1, .ref 239] Z1 S 0 0 (f_X11_readUnit_73 t1 t2 S) := by
  have F := M0.1
  unfold f_X11_readUnit_73
  refine a_callVV F (As := [.int t1, .int t2]) cfX11 rfl (c_X11_emits X t1 t2 S) mw_X11_emits ml_X11_220 im_X11_emits se_X11_emits M0.2.1 (Nat.le_of_ble_eq_true rfl) ⟨Nat.zero_le _, Nat.zero_le _⟩ rfl rfl (Nat.le_of_ble_eq_true rfl) zl_239 zk_239 dX11_readUnit_73 rfl (fun S_1 => ?_)
  refine a_aload_n F dX11_readUnit_76 rfl rfl ?_
  refine a_callVV F (As := []) cfX11 rfl (c_X11_reads X S_1) mw_X11_reads ml_X11_223 im_X11_reads se_X11_reads M0.2.1 (Nat.le_of_ble_eq_true rfl) ⟨Nat.zero_le _, Nat.zero_le _⟩ rfl rfl (Nat.le_of_ble_eq_true rfl) zl_239 zk_239 dX11_readUnit_77 rfl (fun S_2 => ?_)
  refine a_iconst F dX11_readUnit_80 ki_0 ?_
  exact a_iret F M0.2.2.1 M0.2.2.2 dX11_readUnit_81
def f_X11_readUnit_56 (x1 t1 : Int32) (S : Mm) : Option (Int32 × Mm) :=
  if x1 = 0 then (
   f_X11_readUnit_73 t1 (S 239 20) S
  ) else (
   f_X11_readUnit_73 t1 ((S 239 20) - (5 : Int32)) S
  )
set_option maxRecDepth 20000 in
theorem b_X11_readUnit_56 {X : CX} {E : FE} (M0 : MF X E RX11 cX11_readUnit 2 4 (some .int)) (x1 t1 : Int32) (S : Mm) : At X E false (mQi X Z1 E) 56 [some (.ref 239), some (.int x1)] [.int t1, .ref 239] Z1 S 0 0 (f_X11_readUnit_56 x1 t1 S) := by
  have F := M0.1
  unfold f_X11_readUnit_56
  refine a_iload_n F dX11_readUnit_56 rfl rfl ?_
  refine a_if_eq F 69 dX11_readUnit_57 (by decide) ?_ ?_
  · refine a_aload_n F dX11_readUnit_69 rfl rfl ?_
    refine a_getI (k := 20) F cfX11 dX11_readUnit_70 fl_X11_192 (by decide) fi_11_20 zl_239 zk_239 ?_
    refine a_mask [true, false] (L' := [some (.ref 239), none]) rfl rfl ?_
    exact b_X11_readUnit_73 M0 t1 (S 239 20) S
  · refine a_aload_n F dX11_readUnit_60 rfl rfl ?_
    refine a_getI (k := 20) F cfX11 dX11_readUnit_61 fl_X11_192 (by decide) fi_11_20 zl_239 zk_239 ?_
    refine a_iconst F dX11_readUnit_64 ki_5 ?_
    refine a_isub F dX11_readUnit_65 ?_
    refine a_goto F 73 dX11_readUnit_66 (by decide) ?_
    refine a_mask [true, false] (L' := [some (.ref 239), none]) rfl rfl ?_
    exact b_X11_readUnit_73 M0 t1 ((S 239 20) - (5 : Int32)) S
def f_X11_readUnit_46 (x1 : Int32) (S : Mm) : Option (Int32 × Mm) :=
  if x1 = 0 then (
   f_X11_readUnit_56 x1 (0 : Int32) S
  ) else (
   f_X11_readUnit_56 x1 (1 : Int32) S
  )
set_option maxRecDepth 20000 in
theorem b_X11_readUnit_46 {X : CX} {E : FE} (M0 : MF X E RX11 cX11_readUnit 2 4 (some .int)) (x1 : Int32) (S : Mm) : At X E false (mQi X Z1 E) 46 [some (.ref 239), some (.int x1)] [] Z1 S 0 0 (f_X11_readUnit_46 x1 S) := by
  have F := M0.1
  unfold f_X11_readUnit_46
  refine a_aload_n F dX11_readUnit_46 rfl rfl ?_
  refine a_iload_n F dX11_readUnit_47 rfl rfl ?_
  refine a_if_eq F 55 dX11_readUnit_48 (by decide) ?_ ?_
  · refine a_iconst F dX11_readUnit_55 ki_0 ?_
    exact b_X11_readUnit_56 M0 x1 (0 : Int32) S
  · refine a_iconst F dX11_readUnit_51 ki_1 ?_
    refine a_goto F 56 dX11_readUnit_52 (by decide) ?_
    exact b_X11_readUnit_56 M0 x1 (1 : Int32) S
def f_X11_readUnit_27 (t0 : Int32) (S : Mm) : Option (Int32 × Mm) :=
  if t0 = 0 then (
   if (S 239 19) = (3 : Int32) then (
    f_X11_readUnit_46 t0 S
   ) else (
    (f_X11_errs (1 : Int32) S).bind fun q_1 =>
    some (q_1.1, q_1.2)
   )
  ) else (
   f_X11_readUnit_46 t0 S
  )
set_option maxRecDepth 20000 in
theorem b_X11_readUnit_27 {X : CX} {E : FE} (M0 : MF X E RX11 cX11_readUnit 2 4 (some .int)) (t0 : Int32) (S : Mm) : At X E false (mQi X Z1 E) 27 [some (.ref 239), none] [.int t0] Z1 S 0 0 (f_X11_readUnit_27 t0 S) := by
  have F := M0.1
  unfold f_X11_readUnit_27
  refine a_istore_n (L' := [some (.ref 239), some (.int t0)]) F dX11_readUnit_27 rfl (lt_b rfl) rfl ?_
  refine a_iload_n F dX11_readUnit_28 rfl rfl ?_
  refine a_if_ne F 46 dX11_readUnit_29 (by decide) ?_ ?_
  · refine a_aload_n F dX11_readUnit_32 rfl rfl ?_
    refine a_getI (k := 19) F cfX11 dX11_readUnit_33 fl_X11_189 (by decide) fi_11_19 zl_239 zk_239 ?_
    refine a_iconst F dX11_readUnit_36 ki_3 ?_
    refine a_icmp_eq F 46 dX11_readUnit_37 (by decide) ?_ ?_
    · exact b_X11_readUnit_46 M0 t0 S
    · refine a_aload_n F dX11_readUnit_40 rfl rfl ?_
      refine a_iconst F dX11_readUnit_41 ki_1 ?_
      refine a_callVI F (As := [.int (1 : Int32)]) cfX11 rfl (c_X11_errs X (1 : Int32) S) mw_X11_errs ml_X11_217 im_X11_errs se_X11_errs M0.2.1 (Nat.le_of_ble_eq_true rfl) ⟨Nat.zero_le _, Nat.zero_le _⟩ rfl rfl (Nat.le_of_ble_eq_true rfl) zl_239 zk_239 dX11_readUnit_42 rfl (fun q_1 => ?_)
      exact a_iret F M0.2.2.1 M0.2.2.2 dX11_readUnit_45
  · exact b_X11_readUnit_46 M0 t0 S
def f_X11_readUnit_26 (S : Mm) : Option (Int32 × Mm) :=
  f_X11_readUnit_27 (0 : Int32) S
set_option maxRecDepth 20000 in
theorem b_X11_readUnit_26 {X : CX} {E : FE} (M0 : MF X E RX11 cX11_readUnit 2 4 (some .int)) (S : Mm) : At X E false (mQi X Z1 E) 26 [some (.ref 239), none] [] Z1 S 0 0 (f_X11_readUnit_26 S) := by
  have F := M0.1
  unfold f_X11_readUnit_26
  refine a_iconst F dX11_readUnit_26 ki_0 ?_
  exact b_X11_readUnit_27 M0 (0 : Int32) S
def f_X11_readUnit (S : Mm) : Option (Int32 × Mm) :=
  if (S 239 19) = (2 : Int32) then (
   (f_X11_isIn (S 239 20) (5 : Int32) (14 : Int32) S).bind fun q_1 =>
   if q_1.1 = 0 then (
    f_X11_readUnit_26 q_1.2
   ) else (
    f_X11_readUnit_27 (1 : Int32) q_1.2
   )
  ) else (
   f_X11_readUnit_26 S
  )
set_option maxRecDepth 20000 in
theorem b_X11_readUnit {X : CX} {E : FE} (M0 : MF X E RX11 cX11_readUnit 2 4 (some .int)) (S : Mm) : At X E false (mQi X Z1 E) 0 [some (.ref 239), none] [] Z1 S 0 0 (f_X11_readUnit S) := by
  have F := M0.1
  unfold f_X11_readUnit
  refine a_aload_n F dX11_readUnit_0 rfl rfl ?_
  refine a_getI (k := 19) F cfX11 dX11_readUnit_1 fl_X11_189 (by decide) fi_11_19 zl_239 zk_239 ?_
  refine a_iconst F dX11_readUnit_4 ki_2 ?_
  refine a_icmp_ne F 26 dX11_readUnit_5 (by decide) ?_ ?_
  · refine a_aload_n F dX11_readUnit_8 rfl rfl ?_
    refine a_aload_n F dX11_readUnit_9 rfl rfl ?_
    refine a_getI (k := 20) F cfX11 dX11_readUnit_10 fl_X11_192 (by decide) fi_11_20 zl_239 zk_239 ?_
    refine a_iconst F dX11_readUnit_13 ki_5 ?_
    refine a_bipush F dX11_readUnit_14 kb_14 ?_
    refine a_callVI F (As := [.int (S 239 20), .int (5 : Int32), .int (14 : Int32)]) cfX11 rfl (c_X11_isIn X (S 239 20) (5 : Int32) (14 : Int32) S) mw_X11_isIn ml_X11_147 im_X11_isIn se_X11_isIn M0.2.1 (Nat.le_of_ble_eq_true rfl) ⟨Nat.zero_le _, Nat.zero_le _⟩ rfl rfl (Nat.le_of_ble_eq_true rfl) zl_239 zk_239 dX11_readUnit_16 rfl (fun q_1 => ?_)
    refine a_if_eq F 26 dX11_readUnit_19 (by decide) ?_ ?_
    · exact b_X11_readUnit_26 M0 q_1.2
    · refine a_iconst F dX11_readUnit_22 ki_1 ?_
      refine a_goto F 27 dX11_readUnit_23 (by decide) ?_
      exact b_X11_readUnit_27 M0 (1 : Int32) q_1.2
  · exact b_X11_readUnit_26 M0 S
theorem c_X11_readUnit (X : CX) (S : Mm) : CtI X Z1 yX11_readUnit cX11_readUnit 2 (some .int) 4 [.ref 239] S (f_X11_readUnit S) :=
  ctI_of (by decide +kernel) rfl (Nat.le_of_ble_eq_true rfl) (by simp [Value.category]) z1len fun E F R hra hlk => b_X11_readUnit ⟨F, R, hra, hlk⟩ S
def f_X11_isSign_20 (S : Mm) : Option (Int32 × Mm) :=
  some ((0 : Int32), S)
set_option maxRecDepth 20000 in
theorem b_X11_isSign_20 {X : CX} {E : FE} (M0 : MF X E RX11 cX11_isSign 2 1 (some .boolean)) (S : Mm) : At X E false (mQi X Z1 E) 20 [none, none] [] Z1 S 0 0 (f_X11_isSign_20 S) := by
  have F := M0.1
  unfold f_X11_isSign_20
  refine a_iconst F dX11_isSign_20 ki_0 ?_
  exact a_zretK F M0.2.2.1 M0.2.2.2 dX11_isSign_21 (Or.inl rfl)
def f_X11_isSign (p1 : Int32) (S : Mm) : Option (Int32 × Mm) :=
  if (S 239 19) = (4 : Int32) then (
   if (S 239 20) = p1 then (
    some ((1 : Int32), S)
   ) else (
    f_X11_isSign_20 S
   )
  ) else (
   f_X11_isSign_20 S
  )
set_option maxRecDepth 20000 in
theorem b_X11_isSign {X : CX} {E : FE} (M0 : MF X E RX11 cX11_isSign 2 1 (some .boolean)) (p1 : Int32) (S : Mm) : At X E false (mQi X Z1 E) 0 [some (.ref 239), some (.int p1)] [] Z1 S 0 0 (f_X11_isSign p1 S) := by
  have F := M0.1
  unfold f_X11_isSign
  refine a_aload_n F dX11_isSign_0 rfl rfl ?_
  refine a_getI (k := 19) F cfX11 dX11_isSign_1 fl_X11_189 (by decide) fi_11_19 zl_239 zk_239 ?_
  refine a_iconst F dX11_isSign_4 ki_4 ?_
  refine a_icmp_ne F 20 dX11_isSign_5 (by decide) ?_ ?_
  · refine a_aload_n F dX11_isSign_8 rfl rfl ?_
    refine a_getI (k := 20) F cfX11 dX11_isSign_9 fl_X11_192 (by decide) fi_11_20 zl_239 zk_239 ?_
    refine a_iload_n F dX11_isSign_12 rfl rfl ?_
    refine a_icmp_ne F 20 dX11_isSign_13 (by decide) ?_ ?_
    · refine a_iconst F dX11_isSign_16 ki_1 ?_
      refine a_goto F 21 dX11_isSign_17 (by decide) ?_
      exact a_zretK F M0.2.2.1 M0.2.2.2 dX11_isSign_21 (Or.inr rfl)
    · refine a_mask [false, false] (L' := [none, none]) rfl rfl ?_
      exact b_X11_isSign_20 M0 S
  · refine a_mask [false, false] (L' := [none, none]) rfl rfl ?_
    exact b_X11_isSign_20 M0 S
theorem c_X11_isSign (X : CX) (p1 : Int32) (S : Mm) : CtI X Z1 yX11_isSign cX11_isSign 2 (some .boolean) 1 [.ref 239, .int p1] S (f_X11_isSign p1 S) :=
  ctI_of (by decide +kernel) rfl (Nat.le_of_ble_eq_true rfl) (by simp [Value.category]) z1len fun E F R hra hlk => b_X11_isSign ⟨F, R, hra, hlk⟩ p1 S
def f_X11_readProduct_94 (k10 : Mm → Option (Int32 × Mm)) (t1 : Int32) (S : Mm) : Option (Int32 × Mm) :=
  (f_X11_emits t1 (0 : Int32) S).bind fun S_1 =>
  k10 S_1
set_option maxRecDepth 20000 in
theorem b_X11_readProduct_94 {X : CX} {E : FE} (M0 : MF X E RX11 cX11_readProduct 2 5 (some .int)) {k10 : Mm → Option (Int32 × Mm)} (hk10 : ∀ (S : Mm), At X E false (mQi X Z1 E) 10 [some (.ref 239), none] [] Z1 S 0 0 (k10  S)) (t1 : Int32) (S : Mm) : At X E false (mQi X Z1 E) 94 [some (.ref 239), none] [.int t1, .ref 239] Z1 S 0 0 (f_X11_readProduct_94 k10 t1 S) := by
  have F := M0.1
  unfold f_X11_readProduct_94
  refine a_iconst F dX11_readProduct_94 ki_0 ?_
  refine a_callVV F (As := [.int t1, .int (0 : Int32)]) cfX11 rfl (c_X11_emits X t1 (0 : Int32) S) mw_X11_emits ml_X11_220 im_X11_emits se_X11_emits M0.2.1 (Nat.le_of_ble_eq_true rfl) ⟨Nat.zero_le _, Nat.zero_le _⟩ rfl rfl (Nat.le_of_ble_eq_true rfl) zl_239 zk_239 dX11_readProduct_95 rfl (fun S_1 => ?_)
  refine a_goto F 10 dX11_readProduct_98 (by decide) ?_
  exact hk10 S_1
def f_X11_readProduct_74 (k10 : Mm → Option (Int32 × Mm)) (x1 : Int32) (S : Mm) : Option (Int32 × Mm) :=
  (f_X11_readUnit S).bind fun q_1 =>
  if q_1.1 = (-1 : Int32) then (
   some ((-1 : Int32), q_1.2)
  ) else (
   if x1 = 0 then (
    f_X11_readProduct_94 k10 (5 : Int32) q_1.2
   ) else (
    f_X11_readProduct_94 k10 (4 : Int32) q_1.2
   )
  )
set_option maxRecDepth 20000 in
theorem b_X11_readProduct_74 {X : CX} {E : FE} (M0 : MF X E RX11 cX11_readProduct 2 5 (some .int)) {k10 : Mm → Option (Int32 × Mm)} (hk10 : ∀ (S : Mm), At X E false (mQi X Z1 E) 10 [some (.ref 239), none] [] Z1 S 0 0 (k10  S)) (x1 : Int32) (S : Mm) : At X E false (mQi X Z1 E) 74 [some (.ref 239), some (.int x1)] [] Z1 S 0 0 (f_X11_readProduct_74 k10 x1 S) := by
  have F := M0.1
  unfold f_X11_readProduct_74
  refine a_aload_n F dX11_readProduct_74 rfl rfl ?_
  refine a_callVI F (As := []) cfX11 rfl (c_X11_readUnit X S) mw_X11_readUnit ml_X11_226 im_X11_readUnit se_X11_readUnit M0.2.1 (Nat.le_of_ble_eq_true rfl) ⟨Nat.zero_le _, Nat.zero_le _⟩ rfl rfl (Nat.le_of_ble_eq_true rfl) zl_239 zk_239 dX11_readProduct_75 rfl (fun q_1 => ?_)
  refine a_iconst F dX11_readProduct_78 ki_m1 ?_
  refine a_icmp_ne F 84 dX11_readProduct_79 (by decide) ?_ ?_
  · refine a_iconst F dX11_readProduct_82 ki_m1 ?_
    exact a_iret F M0.2.2.1 M0.2.2.2 dX11_readProduct_83
  · refine a_aload_n F dX11_readProduct_84 rfl rfl ?_
    refine a_iload_n F dX11_readProduct_85 rfl rfl ?_
    refine a_if_eq F 93 dX11_readProduct_86 (by decide) ?_ ?_
    · refine a_iconst F dX11_readProduct_93 ki_5 ?_
      refine a_mask [true, false] (L' := [some (.ref 239), none]) rfl rfl ?_
      exact b_X11_readProduct_94 M0 hk10 (5 : Int32) q_1.2
    · refine a_iconst F dX11_readProduct_89 ki_4 ?_
      refine a_goto F 94 dX11_readProduct_90 (by decide) ?_
      refine a_mask [true, false] (L' := [some (.ref 239), none]) rfl rfl ?_
      exact b_X11_readProduct_94 M0 hk10 (4 : Int32) q_1.2
def f_X11_readProduct_57 (k10 : Mm → Option (Int32 × Mm)) (x1 : Int32) (S : Mm) : Option (Int32 × Mm) :=
  if x1 = 0 then (
   if (S 239 20) = 0 then (
    (f_X11_errs (2 : Int32) S).bind fun q_1 =>
    some (q_1.1, q_1.2)
   ) else (
    f_X11_readProduct_74 k10 x1 S
   )
  ) else (
   f_X11_readProduct_74 k10 x1 S
  )
set_option maxRecDepth 20000 in
theorem b_X11_readProduct_57 {X : CX} {E : FE} (M0 : MF X E RX11 cX11_readProduct 2 5 (some .int)) {k10 : Mm → Option (Int32 × Mm)} (hk10 : ∀ (S : Mm), At X E false (mQi X Z1 E) 10 [some (.ref 239), none] [] Z1 S 0 0 (k10  S)) (x1 : Int32) (S : Mm) : At X E false (mQi X Z1 E) 57 [some (.ref 239), some (.int x1)] [] Z1 S 0 0 (f_X11_readProduct_57 k10 x1 S) := by
  have F := M0.1
  unfold f_X11_readProduct_57
  refine a_iload_n F dX11_readProduct_57 rfl rfl ?_
  refine a_if_ne F 74 dX11_readProduct_58 (by decide) ?_ ?_
  · refine a_aload_n F dX11_readProduct_61 rfl rfl ?_
    refine a_getI (k := 20) F cfX11 dX11_readProduct_62 fl_X11_192 (by decide) fi_11_20 zl_239 zk_239 ?_
    refine a_if_ne F 74 dX11_readProduct_65 (by decide) ?_ ?_
    · refine a_aload_n F dX11_readProduct_68 rfl rfl ?_
      refine a_iconst F dX11_readProduct_69 ki_2 ?_
      refine a_callVI F (As := [.int (2 : Int32)]) cfX11 rfl (c_X11_errs X (2 : Int32) S) mw_X11_errs ml_X11_217 im_X11_errs se_X11_errs M0.2.1 (Nat.le_of_ble_eq_true rfl) ⟨Nat.zero_le _, Nat.zero_le _⟩ rfl rfl (Nat.le_of_ble_eq_true rfl) zl_239 zk_239 dX11_readProduct_70 rfl (fun q_1 => ?_)
      exact a_iret F M0.2.2.1 M0.2.2.2 dX11_readProduct_73
    · exact b_X11_readProduct_74 M0 hk10 x1 S
  · exact b_X11_readProduct_74 M0 hk10 x1 S
def f_X11_readProduct_28 (k10 : Mm → Option (Int32 × Mm)) (S : Mm) : Option (Int32 × Mm) :=
  (f_X11_isSign (42 : Int32) S).bind fun q_1 =>
  (f_X11_reads q_1.2).bind fun S_2 =>
  if q_1.1 = 0 then (
   if (S_2 239 19) = (3 : Int32) then (
    f_X11_readProduct_57 k10 q_1.1 S_2
   ) else (
    (f_X11_errs (1 : Int32) S_2).bind fun q_3 =>
    some (q_3.1, q_3.2)
   )
  ) else (
   f_X11_readProduct_57 k10 q_1.1 S_2
  )
set_option maxRecDepth 20000 in
theorem b_X11_readProduct_28 {X : CX} {E : FE} (M0 : MF X E RX11 cX11_readProduct 2 5 (some .int)) {k10 : Mm → Option (Int32 × Mm)} (hk10 : ∀ (S : Mm), At X E false (mQi X Z1 E) 10 [some (.ref 239), none] [] Z1 S 0 0 (k10  S)) (S : Mm) : At X E false (mQi X Z1 E) 28 [some (.ref 239), none] [] Z1 S 0 0 (f_X11_readProduct_28 k10 S) := by
  have F := M0.1
  unfold f_X11_readProduct_28
  refine a_aload_n F dX11_readProduct_28 rfl rfl ?_
  refine a_bipush F dX11_readProduct_29 kb_42 ?_
  refine a_callVI F (As := [.int (42 : Int32)]) cfX11 rfl (c_X11_isSign X (42 : Int32) S) mw_X11_isSign ml_X11_230 im_X11_isSign se_X11_isSign M0.2.1 (Nat.le_of_ble_eq_true rfl) ⟨Nat.zero_le _, Nat.zero_le _⟩ rfl rfl (Nat.le_of_ble_eq_true rfl) zl_239 zk_239 dX11_readProduct_31 rfl (fun q_1 => ?_)
  refine a_istore_n (L' := [some (.ref 239), some (.int q_1.1)]) F dX11_readProduct_34 rfl (lt_b rfl) rfl ?_
  refine a_aload_n F dX11_readProduct_35 rfl rfl ?_
  refine a_callVV F (As := []) cfX11 rfl (c_X11_reads X q_1.2) mw_X11_reads ml_X11_223 im_X11_reads se_X11_reads M0.2.1 (Nat.le_of_ble_eq_true rfl) ⟨Nat.zero_le _, Nat.zero_le _⟩ rfl rfl (Nat.le_of_ble_eq_true rfl) zl_239 zk_239 dX11_readProduct_36 rfl (fun S_2 => ?_)
  refine a_iload_n F dX11_readProduct_39 rfl rfl ?_
  refine a_if_ne F 57 dX11_readProduct_40 (by decide) ?_ ?_
  · refine a_aload_n F dX11_readProduct_43 rfl rfl ?_
    refine a_getI (k := 19) F cfX11 dX11_readProduct_44 fl_X11_189 (by decide) fi_11_19 zl_239 zk_239 ?_
    refine a_iconst F dX11_readProduct_47 ki_3 ?_
    refine a_icmp_eq F 57 dX11_readProduct_48 (by decide) ?_ ?_
    · exact b_X11_readProduct_57 M0 hk10 q_1.1 S_2
    · refine a_aload_n F dX11_readProduct_51 rfl rfl ?_
      refine a_iconst F dX11_readProduct_52 ki_1 ?_
      refine a_callVI F (As := [.int (1 : Int32)]) cfX11 rfl (c_X11_errs X (1 : Int32) S_2) mw_X11_errs ml_X11_217 im_X11_errs se_X11_errs M0.2.1 (Nat.le_of_ble_eq_true rfl) ⟨Nat.zero_le _, Nat.zero_le _⟩ rfl rfl (Nat.le_of_ble_eq_true rfl) zl_239 zk_239 dX11_readProduct_53 rfl (fun q_3 => ?_)
      exact a_iret F M0.2.2.1 M0.2.2.2 dX11_readProduct_56
  · exact b_X11_readProduct_57 M0 hk10 q_1.1 S_2
def f_X11_readProduct_10b (k10 : Mm → Option (Int32 × Mm)) (S : Mm) : Option (Int32 × Mm) :=
  (f_X11_isSign (42 : Int32) S).bind fun q_1 =>
  if q_1.1 = 0 then (
   (f_X11_isSign (47 : Int32) q_1.2).bind fun q_2 =>
   if q_2.1 = 0 then (
    some ((0 : Int32), q_2.2)
   ) else (
    f_X11_readProduct_28 k10 q_2.2
   )
  ) else (
   f_X11_readProduct_28 k10 q_1.2
  )
set_option maxRecDepth 20000 in
theorem b_X11_readProduct_10b {X : CX} {E : FE} (M0 : MF X E RX11 cX11_readProduct 2 5 (some .int)) {k10 : Mm → Option (Int32 × Mm)} (hk10 : ∀ (S : Mm), At X E false (mQi X Z1 E) 10 [some (.ref 239), none] [] Z1 S 0 0 (k10  S)) (S : Mm) : At X E false (mQi X Z1 E) 10 [some (.ref 239), none] [] Z1 S 0 0 (f_X11_readProduct_10b k10 S) := by
  have F := M0.1
  unfold f_X11_readProduct_10b
  refine a_aload_n F dX11_readProduct_10 rfl rfl ?_
  refine a_bipush F dX11_readProduct_11 kb_42 ?_
  refine a_callVI F (As := [.int (42 : Int32)]) cfX11 rfl (c_X11_isSign X (42 : Int32) S) mw_X11_isSign ml_X11_230 im_X11_isSign se_X11_isSign M0.2.1 (Nat.le_of_ble_eq_true rfl) ⟨Nat.zero_le _, Nat.zero_le _⟩ rfl rfl (Nat.le_of_ble_eq_true rfl) zl_239 zk_239 dX11_readProduct_13 rfl (fun q_1 => ?_)
  refine a_if_ne F 28 dX11_readProduct_16 (by decide) ?_ ?_
  · refine a_aload_n F dX11_readProduct_19 rfl rfl ?_
    refine a_bipush F dX11_readProduct_20 kb_47 ?_
    refine a_callVI F (As := [.int (47 : Int32)]) cfX11 rfl (c_X11_isSign X (47 : Int32) q_1.2) mw_X11_isSign ml_X11_230 im_X11_isSign se_X11_isSign M0.2.1 (Nat.le_of_ble_eq_true rfl) ⟨Nat.zero_le _, Nat.zero_le _⟩ rfl rfl (Nat.le_of_ble_eq_true rfl) zl_239 zk_239 dX11_readProduct_22 rfl (fun q_2 => ?_)
    refine a_if_eq F 101 dX11_readProduct_25 (by decide) ?_ ?_
    · refine a_iconst F dX11_readProduct_101 ki_0 ?_
      exact a_iret F M0.2.2.1 M0.2.2.2 dX11_readProduct_102
    · exact b_X11_readProduct_28 M0 hk10 q_2.2
  · exact b_X11_readProduct_28 M0 hk10 q_1.2
def f_X11_readProduct_10 : Nat → Mm → Option (Int32 × Mm) :=
  itr (fun _ => none) (fun k => f_X11_readProduct_10b k)
theorem b_X11_readProduct_10 {X : CX} {E : FE} (M0 : MF X E RX11 cX11_readProduct 2 5 (some .int)) : ∀ (n : Nat) (S : Mm), At X E false (mQi X Z1 E) 10 [some (.ref 239), none] [] Z1 S 0 0 (f_X11_readProduct_10  n  S) := by
  intro n
  induction n with
  | zero => intros; exact a_none
  | succ n ih => intro  S; exact b_X11_readProduct_10b M0 ih  S
def f_X11_readProduct (S : Mm) : Option (Int32 × Mm) :=
  (f_X11_readUnit S).bind fun q_1 =>
  if q_1.1 = (-1 : Int32) then (
   some ((-1 : Int32), q_1.2)
  ) else (
   f_X11_readProduct_10 FU q_1.2
  )
set_option maxRecDepth 20000 in
theorem b_X11_readProduct {X : CX} {E : FE} (M0 : MF X E RX11 cX11_readProduct 2 5 (some .int)) (S : Mm) : At X E false (mQi X Z1 E) 0 [some (.ref 239), none] [] Z1 S 0 0 (f_X11_readProduct S) := by
  have F := M0.1
  unfold f_X11_readProduct
  refine a_aload_n F dX11_readProduct_0 rfl rfl ?_
  refine a_callVI F (As := []) cfX11 rfl (c_X11_readUnit X S) mw_X11_readUnit ml_X11_226 im_X11_readUnit se_X11_readUnit M0.2.1 (Nat.le_of_ble_eq_true rfl) ⟨Nat.zero_le _, Nat.zero_le _⟩ rfl rfl (Nat.le_of_ble_eq_true rfl) zl_239 zk_239 dX11_readProduct_1 rfl (fun q_1 => ?_)
  refine a_iconst F dX11_readProduct_4 ki_m1 ?_
  refine a_icmp_ne F 10 dX11_readProduct_5 (by decide) ?_ ?_
  · refine a_iconst F dX11_readProduct_8 ki_m1 ?_
    exact a_iret F M0.2.2.1 M0.2.2.2 dX11_readProduct_9
  · exact b_X11_readProduct_10 M0 FU q_1.2
theorem c_X11_readProduct (X : CX) (S : Mm) : CtI X Z1 yX11_readProduct cX11_readProduct 2 (some .int) 5 [.ref 239] S (f_X11_readProduct S) :=
  ctI_of (by decide +kernel) rfl (Nat.le_of_ble_eq_true rfl) (by simp [Value.category]) z1len fun E F R hra hlk => b_X11_readProduct ⟨F, R, hra, hlk⟩ S
def f_X11_readSum_42 (k10 : Mm → Option (Int32 × Mm)) (t0 : Int32) (S : Mm) : Option (Int32 × Mm) :=
  (f_X11_reads S).bind fun S_1 =>
  (f_X11_readProduct S_1).bind fun q_2 =>
  if q_2.1 = (-1 : Int32) then (
   some ((-1 : Int32), q_2.2)
  ) else (
   (f_X11_emits t0 (0 : Int32) q_2.2).bind fun S_3 =>
   k10 S_3
  )
set_option maxRecDepth 20000 in
theorem b_X11_readSum_42 {X : CX} {E : FE} (M0 : MF X E RX11 cX11_readSum 2 6 (some .int)) {k10 : Mm → Option (Int32 × Mm)} (hk10 : ∀ (S : Mm), At X E false (mQi X Z1 E) 10 [some (.ref 239), none] [] Z1 S 0 0 (k10  S)) (t0 : Int32) (S : Mm) : At X E false (mQi X Z1 E) 42 [some (.ref 239), none] [.int t0] Z1 S 0 0 (f_X11_readSum_42 k10 t0 S) := by
  have F := M0.1
  unfold f_X11_readSum_42
  refine a_istore_n (L' := [some (.ref 239), some (.int t0)]) F dX11_readSum_42 rfl (lt_b rfl) rfl ?_
  refine a_aload_n F dX11_readSum_43 rfl rfl ?_
  refine a_callVV F (As := []) cfX11 rfl (c_X11_reads X S) mw_X11_reads ml_X11_223 im_X11_reads se_X11_reads M0.2.1 (Nat.le_of_ble_eq_true rfl) ⟨Nat.zero_le _, Nat.zero_le _⟩ rfl rfl (Nat.le_of_ble_eq_true rfl) zl_239 zk_239 dX11_readSum_44 rfl (fun S_1 => ?_)
  refine a_aload_n F dX11_readSum_47 rfl rfl ?_
  refine a_callVI F (As := []) cfX11 rfl (c_X11_readProduct X S_1) mw_X11_readProduct ml_X11_233 im_X11_readProduct se_X11_readProduct M0.2.1 (Nat.le_of_ble_eq_true rfl) ⟨Nat.zero_le _, Nat.zero_le _⟩ rfl rfl (Nat.le_of_ble_eq_true rfl) zl_239 zk_239 dX11_readSum_48 rfl (fun q_2 => ?_)
  refine a_iconst F dX11_readSum_51 ki_m1 ?_
  refine a_icmp_ne F 57 dX11_readSum_52 (by decide) ?_ ?_
  · refine a_iconst F dX11_readSum_55 ki_m1 ?_
    exact a_iret F M0.2.2.1 M0.2.2.2 dX11_readSum_56
  · refine a_aload_n F dX11_readSum_57 rfl rfl ?_
    refine a_iload_n F dX11_readSum_58 rfl rfl ?_
    refine a_iconst F dX11_readSum_59 ki_0 ?_
    refine a_callVV F (As := [.int t0, .int (0 : Int32)]) cfX11 rfl (c_X11_emits X t0 (0 : Int32) q_2.2) mw_X11_emits ml_X11_220 im_X11_emits se_X11_emits M0.2.1 (Nat.le_of_ble_eq_true rfl) ⟨Nat.zero_le _, Nat.zero_le _⟩ rfl rfl (Nat.le_of_ble_eq_true rfl) zl_239 zk_239 dX11_readSum_60 rfl (fun S_3 => ?_)
    refine a_goto F 10 dX11_readSum_63 (by decide) ?_
    refine a_mask [true, false] (L' := [some (.ref 239), none]) rfl rfl ?_
    exact hk10 S_3
def f_X11_readSum_28 (k10 : Mm → Option (Int32 × Mm)) (S : Mm) : Option (Int32 × Mm) :=
  if (S 239 20) = (43 : Int32) then (
   f_X11_readSum_42 k10 (2 : Int32) S
  ) else (
   f_X11_readSum_42 k10 (3 : Int32) S
  )
set_option maxRecDepth 20000 in
theorem b_X11_readSum_28 {X : CX} {E : FE} (M0 : MF X E RX11 cX11_readSum 2 6 (some .int)) {k10 : Mm → Option (Int32 × Mm)} (hk10 : ∀ (S : Mm), At X E false (mQi X Z1 E) 10 [some (.ref 239), none] [] Z1 S 0 0 (k10  S)) (S : Mm) : At X E false (mQi X Z1 E) 28 [some (.ref 239), none] [] Z1 S 0 0 (f_X11_readSum_28 k10 S) := by
  have F := M0.1
  unfold f_X11_readSum_28
  refine a_aload_n F dX11_readSum_28 rfl rfl ?_
  refine a_getI (k := 20) F cfX11 dX11_readSum_29 fl_X11_192 (by decide) fi_11_20 zl_239 zk_239 ?_
  refine a_bipush F dX11_readSum_32 kb_43 ?_
  refine a_icmp_ne F 41 dX11_readSum_34 (by decide) ?_ ?_
  · refine a_iconst F dX11_readSum_37 ki_2 ?_
    refine a_goto F 42 dX11_readSum_38 (by decide) ?_
    exact b_X11_readSum_42 M0 hk10 (2 : Int32) S
  · refine a_iconst F dX11_readSum_41 ki_3 ?_
    exact b_X11_readSum_42 M0 hk10 (3 : Int32) S
def f_X11_readSum_10b (k10 : Mm → Option (Int32 × Mm)) (S : Mm) : Option (Int32 × Mm) :=
  (f_X11_isSign (43 : Int32) S).bind fun q_1 =>
  if q_1.1 = 0 then (
   (f_X11_isSign (45 : Int32) q_1.2).bind fun q_2 =>
   if q_2.1 = 0 then (
    some ((0 : Int32), q_2.2)
   ) else (
    f_X11_readSum_28 k10 q_2.2
   )
  ) else (
   f_X11_readSum_28 k10 q_1.2
  )
set_option maxRecDepth 20000 in
theorem b_X11_readSum_10b {X : CX} {E : FE} (M0 : MF X E RX11 cX11_readSum 2 6 (some .int)) {k10 : Mm → Option (Int32 × Mm)} (hk10 : ∀ (S : Mm), At X E false (mQi X Z1 E) 10 [some (.ref 239), none] [] Z1 S 0 0 (k10  S)) (S : Mm) : At X E false (mQi X Z1 E) 10 [some (.ref 239), none] [] Z1 S 0 0 (f_X11_readSum_10b k10 S) := by
  have F := M0.1
  unfold f_X11_readSum_10b
  refine a_aload_n F dX11_readSum_10 rfl rfl ?_
  refine a_bipush F dX11_readSum_11 kb_43 ?_
  refine a_callVI F (As := [.int (43 : Int32)]) cfX11 rfl (c_X11_isSign X (43 : Int32) S) mw_X11_isSign ml_X11_230 im_X11_isSign se_X11_isSign M0.2.1 (Nat.le_of_ble_eq_true rfl) ⟨Nat.zero_le _, Nat.zero_le _⟩ rfl rfl (Nat.le_of_ble_eq_true rfl) zl_239 zk_239 dX11_readSum_13 rfl (fun q_1 => ?_)
  refine a_if_ne F 28 dX11_readSum_16 (by decide) ?_ ?_
  · refine a_aload_n F dX11_readSum_19 rfl rfl ?_
    refine a_bipush F dX11_readSum_20 kb_45 ?_
    refine a_callVI F (As := [.int (45 : Int32)]) cfX11 rfl (c_X11_isSign X (45 : Int32) q_1.2) mw_X11_isSign ml_X11_230 im_X11_isSign se_X11_isSign M0.2.1 (Nat.le_of_ble_eq_true rfl) ⟨Nat.zero_le _, Nat.zero_le _⟩ rfl rfl (Nat.le_of_ble_eq_true rfl) zl_239 zk_239 dX11_readSum_22 rfl (fun q_2 => ?_)
    refine a_if_eq F 66 dX11_readSum_25 (by decide) ?_ ?_
    · refine a_iconst F dX11_readSum_66 ki_0 ?_
      exact a_iret F M0.2.2.1 M0.2.2.2 dX11_readSum_67
    · exact b_X11_readSum_28 M0 hk10 q_2.2
  · exact b_X11_readSum_28 M0 hk10 q_1.2
def f_X11_readSum_10 : Nat → Mm → Option (Int32 × Mm) :=
  itr (fun _ => none) (fun k => f_X11_readSum_10b k)
theorem b_X11_readSum_10 {X : CX} {E : FE} (M0 : MF X E RX11 cX11_readSum 2 6 (some .int)) : ∀ (n : Nat) (S : Mm), At X E false (mQi X Z1 E) 10 [some (.ref 239), none] [] Z1 S 0 0 (f_X11_readSum_10  n  S) := by
  intro n
  induction n with
  | zero => intros; exact a_none
  | succ n ih => intro  S; exact b_X11_readSum_10b M0 ih  S
def f_X11_readSum (S : Mm) : Option (Int32 × Mm) :=
  (f_X11_readProduct S).bind fun q_1 =>
  if q_1.1 = (-1 : Int32) then (
   some ((-1 : Int32), q_1.2)
  ) else (
   f_X11_readSum_10 FU q_1.2
  )
set_option maxRecDepth 20000 in
theorem b_X11_readSum {X : CX} {E : FE} (M0 : MF X E RX11 cX11_readSum 2 6 (some .int)) (S : Mm) : At X E false (mQi X Z1 E) 0 [some (.ref 239), none] [] Z1 S 0 0 (f_X11_readSum S) := by
  have F := M0.1
  unfold f_X11_readSum
  refine a_aload_n F dX11_readSum_0 rfl rfl ?_
  refine a_callVI F (As := []) cfX11 rfl (c_X11_readProduct X S) mw_X11_readProduct ml_X11_233 im_X11_readProduct se_X11_readProduct M0.2.1 (Nat.le_of_ble_eq_true rfl) ⟨Nat.zero_le _, Nat.zero_le _⟩ rfl rfl (Nat.le_of_ble_eq_true rfl) zl_239 zk_239 dX11_readSum_1 rfl (fun q_1 => ?_)
  refine a_iconst F dX11_readSum_4 ki_m1 ?_
  refine a_icmp_ne F 10 dX11_readSum_5 (by decide) ?_ ?_
  · refine a_iconst F dX11_readSum_8 ki_m1 ?_
    exact a_iret F M0.2.2.1 M0.2.2.2 dX11_readSum_9
  · exact b_X11_readSum_10 M0 FU q_1.2
theorem c_X11_readSum (X : CX) (S : Mm) : CtI X Z1 yX11_readSum cX11_readSum 2 (some .int) 6 [.ref 239] S (f_X11_readSum S) :=
  ctI_of (by decide +kernel) rfl (Nat.le_of_ble_eq_true rfl) (by simp [Value.category]) z1len fun E F R hra hlk => b_X11_readSum ⟨F, R, hra, hlk⟩ S
def f_X11_waits (p1 : Int32) (S : Mm) : Option Mm :=
  gd (inB (S 239 31) 40 = true) <|
  nm (uM S 257 (ix (S 239 31)) p1) fun S_1 =>
  nm (uM S_1 239 31 ((S_1 239 31) + (1 : Int32))) fun S_2 =>
  some S_2
set_option maxRecDepth 20000 in
theorem b_X11_waits {X : CX} {E : FE} (M0 : MF X E RX11 cX11_waits 2 1 none) (p1 : Int32) (S : Mm) : At X E false (mQv X Z1 E) 0 [some (.ref 239), some (.int p1)] [] Z1 S 0 0 (f_X11_waits p1 S) := by
  have F := M0.1
  unfold f_X11_waits
  refine a_aload_n F dX11_waits_0 rfl rfl ?_
  refine a_getR (k := 30) F cfX11 dX11_waits_1 fl_X11_61 (by decide) fi_11_30 zl_239 zk_239 zr_239_30 ?_
  refine a_aload_n F dX11_waits_4 rfl rfl ?_
  refine a_getI (k := 31) F cfX11 dX11_waits_5 fl_X11_239 (by decide) fi_11_31 zl_239 zk_239 ?_
  refine a_iload_n F dX11_waits_8 rfl rfl ?_
  refine a_gd (a_iast F dX11_waits_9 zl_257 zk_257 ?_)
  refine a_nmS (fun S_1 => ?_)
  refine a_aload_n F dX11_waits_10 rfl rfl ?_
  refine a_aload_n F dX11_waits_11 rfl rfl ?_
  refine a_getI (k := 31) F cfX11 dX11_waits_12 fl_X11_239 (by decide) fi_11_31 zl_239 zk_239 ?_
  refine a_iconst F dX11_waits_15 ki_1 ?_
  refine a_iadd F dX11_waits_16 ?_
  refine a_putI (k := 31) F cfX11 dX11_waits_17 fl_X11_239 (by decide) fi_11_31 rfl rfl zl_239 zk_239 ?_
  refine a_nmS (fun S_2 => ?_)
  exact a_vret F M0.2.2.1 M0.2.2.2 dX11_waits_20
theorem c_X11_waits (X : CX) (p1 : Int32) (S : Mm) : CtV X Z1 yX11_waits cX11_waits 2 1 [.ref 239, .int p1] S (f_X11_waits p1 S) :=
  ctV_of (by decide +kernel) rfl (Nat.le_of_ble_eq_true rfl) (by simp [Value.category]) z1len fun E F R hra hlk => b_X11_waits ⟨F, R, hra, hlk⟩ p1 S
def f_X11_readCompared_73 (t0 : Int32) (S : Mm) : Option (Int32 × Mm) :=
  (f_X11_reads S).bind fun S_1 =>
  (f_X11_readSum S_1).bind fun q_2 =>
  if q_2.1 = (-1 : Int32) then (
   some ((-1 : Int32), q_2.2)
  ) else (
   (f_X11_emits t0 (0 : Int32) q_2.2).bind fun S_3 =>
   some ((0 : Int32), S_3)
  )
set_option maxRecDepth 20000 in
theorem b_X11_readCompared_73 {X : CX} {E : FE} (M0 : MF X E RX11 cX11_readCompared 2 7 (some .int)) (t0 : Int32) (S : Mm) : At X E false (mQi X Z1 E) 73 [some (.ref 239), none] [.int t0] Z1 S 0 0 (f_X11_readCompared_73 t0 S) := by
  have F := M0.1
  unfold f_X11_readCompared_73
  refine a_istore_n (L' := [some (.ref 239), some (.int t0)]) F dX11_readCompared_73 rfl (lt_b rfl) rfl ?_
  refine a_aload_n F dX11_readCompared_74 rfl rfl ?_
  refine a_callVV F (As := []) cfX11 rfl (c_X11_reads X S) mw_X11_reads ml_X11_223 im_X11_reads se_X11_reads M0.2.1 (Nat.le_of_ble_eq_true rfl) ⟨Nat.zero_le _, Nat.zero_le _⟩ rfl rfl (Nat.le_of_ble_eq_true rfl) zl_239 zk_239 dX11_readCompared_75 rfl (fun S_1 => ?_)
  refine a_aload_n F dX11_readCompared_78 rfl rfl ?_
  refine a_callVI F (As := []) cfX11 rfl (c_X11_readSum X S_1) mw_X11_readSum ml_X11_236 im_X11_readSum se_X11_readSum M0.2.1 (Nat.le_of_ble_eq_true rfl) ⟨Nat.zero_le _, Nat.zero_le _⟩ rfl rfl (Nat.le_of_ble_eq_true rfl) zl_239 zk_239 dX11_readCompared_79 rfl (fun q_2 => ?_)
  refine a_iconst F dX11_readCompared_82 ki_m1 ?_
  refine a_icmp_ne F 88 dX11_readCompared_83 (by decide) ?_ ?_
  · refine a_iconst F dX11_readCompared_86 ki_m1 ?_
    exact a_iret F M0.2.2.1 M0.2.2.2 dX11_readCompared_87
  · refine a_aload_n F dX11_readCompared_88 rfl rfl ?_
    refine a_iload_n F dX11_readCompared_89 rfl rfl ?_
    refine a_iconst F dX11_readCompared_90 ki_0 ?_
    refine a_callVV F (As := [.int t0, .int (0 : Int32)]) cfX11 rfl (c_X11_emits X t0 (0 : Int32) q_2.2) mw_X11_emits ml_X11_220 im_X11_emits se_X11_emits M0.2.1 (Nat.le_of_ble_eq_true rfl) ⟨Nat.zero_le _, Nat.zero_le _⟩ rfl rfl (Nat.le_of_ble_eq_true rfl) zl_239 zk_239 dX11_readCompared_91 rfl (fun S_3 => ?_)
    refine a_iconst F dX11_readCompared_94 ki_0 ?_
    exact a_iret F M0.2.2.1 M0.2.2.2 dX11_readCompared_95
def f_X11_readCompared_43 (S : Mm) : Option (Int32 × Mm) :=
  if (S 239 20) = (60 : Int32) then (
   f_X11_readCompared_73 (6 : Int32) S
  ) else (
   if (S 239 20) = (61 : Int32) then (
    f_X11_readCompared_73 (7 : Int32) S
   ) else (
    f_X11_readCompared_73 (8 : Int32) S
   )
  )
set_option maxRecDepth 20000 in
theorem b_X11_readCompared_43 {X : CX} {E : FE} (M0 : MF X E RX11 cX11_readCompared 2 7 (some .int)) (S : Mm) : At X E false (mQi X Z1 E) 43 [some (.ref 239), none] [] Z1 S 0 0 (f_X11_readCompared_43 S) := by
  have F := M0.1
  unfold f_X11_readCompared_43
  refine a_aload_n F dX11_readCompared_43 rfl rfl ?_
  refine a_getI (k := 20) F cfX11 dX11_readCompared_44 fl_X11_192 (by decide) fi_11_20 zl_239 zk_239 ?_
  refine a_bipush F dX11_readCompared_47 kb_60 ?_
  refine a_icmp_ne F 57 dX11_readCompared_49 (by decide) ?_ ?_
  · refine a_bipush F dX11_readCompared_52 kb_6 ?_
    refine a_goto F 73 dX11_readCompared_54 (by decide) ?_
    exact b_X11_readCompared_73 M0 (6 : Int32) S
  · refine a_aload_n F dX11_readCompared_57 rfl rfl ?_
    refine a_getI (k := 20) F cfX11 dX11_readCompared_58 fl_X11_192 (by decide) fi_11_20 zl_239 zk_239 ?_
    refine a_bipush F dX11_readCompared_61 kb_61 ?_
    refine a_icmp_ne F 71 dX11_readCompared_63 (by decide) ?_ ?_
    · refine a_bipush F dX11_readCompared_66 kb_7 ?_
      refine a_goto F 73 dX11_readCompared_68 (by decide) ?_
      exact b_X11_readCompared_73 M0 (7 : Int32) S
    · refine a_bipush F dX11_readCompared_71 kb_8 ?_
      exact b_X11_readCompared_73 M0 (8 : Int32) S
def f_X11_readCompared (S : Mm) : Option (Int32 × Mm) :=
  (f_X11_readSum S).bind fun q_1 =>
  if q_1.1 = (-1 : Int32) then (
   some ((-1 : Int32), q_1.2)
  ) else (
   (f_X11_isSign (60 : Int32) q_1.2).bind fun q_2 =>
   if q_2.1 = 0 then (
    (f_X11_isSign (61 : Int32) q_2.2).bind fun q_3 =>
    if q_3.1 = 0 then (
     (f_X11_isSign (62 : Int32) q_3.2).bind fun q_4 =>
     if q_4.1 = 0 then (
      (f_X11_errs (1 : Int32) q_4.2).bind fun q_5 =>
      some (q_5.1, q_5.2)
     ) else (
      f_X11_readCompared_43 q_4.2
     )
    ) else (
     f_X11_readCompared_43 q_3.2
    )
   ) else (
    f_X11_readCompared_43 q_2.2
   )
  )
set_option maxRecDepth 20000 in
theorem b_X11_readCompared {X : CX} {E : FE} (M0 : MF X E RX11 cX11_readCompared 2 7 (some .int)) (S : Mm) : At X E false (mQi X Z1 E) 0 [some (.ref 239), none] [] Z1 S 0 0 (f_X11_readCompared S) := by
  have F := M0.1
  unfold f_X11_readCompared
  refine a_aload_n F dX11_readCompared_0 rfl rfl ?_
  refine a_callVI F (As := []) cfX11 rfl (c_X11_readSum X S) mw_X11_readSum ml_X11_236 im_X11_readSum se_X11_readSum M0.2.1 (Nat.le_of_ble_eq_true rfl) ⟨Nat.zero_le _, Nat.zero_le _⟩ rfl rfl (Nat.le_of_ble_eq_true rfl) zl_239 zk_239 dX11_readCompared_1 rfl (fun q_1 => ?_)
  refine a_iconst F dX11_readCompared_4 ki_m1 ?_
  refine a_icmp_ne F 10 dX11_readCompared_5 (by decide) ?_ ?_
  · refine a_iconst F dX11_readCompared_8 ki_m1 ?_
    exact a_iret F M0.2.2.1 M0.2.2.2 dX11_readCompared_9
  · refine a_aload_n F dX11_readCompared_10 rfl rfl ?_
    refine a_bipush F dX11_readCompared_11 kb_60 ?_
    refine a_callVI F (As := [.int (60 : Int32)]) cfX11 rfl (c_X11_isSign X (60 : Int32) q_1.2) mw_X11_isSign ml_X11_230 im_X11_isSign se_X11_isSign M0.2.1 (Nat.le_of_ble_eq_true rfl) ⟨Nat.zero_le _, Nat.zero_le _⟩ rfl rfl (Nat.le_of_ble_eq_true rfl) zl_239 zk_239 dX11_readCompared_13 rfl (fun q_2 => ?_)
    refine a_if_ne F 43 dX11_readCompared_16 (by decide) ?_ ?_
    · refine a_aload_n F dX11_readCompared_19 rfl rfl ?_
      refine a_bipush F dX11_readCompared_20 kb_61 ?_
      refine a_callVI F (As := [.int (61 : Int32)]) cfX11 rfl (c_X11_isSign X (61 : Int32) q_2.2) mw_X11_isSign ml_X11_230 im_X11_isSign se_X11_isSign M0.2.1 (Nat.le_of_ble_eq_true rfl) ⟨Nat.zero_le _, Nat.zero_le _⟩ rfl rfl (Nat.le_of_ble_eq_true rfl) zl_239 zk_239 dX11_readCompared_22 rfl (fun q_3 => ?_)
      refine a_if_ne F 43 dX11_readCompared_25 (by decide) ?_ ?_
      · refine a_aload_n F dX11_readCompared_28 rfl rfl ?_
        refine a_bipush F dX11_readCompared_29 kb_62 ?_
        refine a_callVI F (As := [.int (62 : Int32)]) cfX11 rfl (c_X11_isSign X (62 : Int32) q_3.2) mw_X11_isSign ml_X11_230 im_X11_isSign se_X11_isSign M0.2.1 (Nat.le_of_ble_eq_true rfl) ⟨Nat.zero_le _, Nat.zero_le _⟩ rfl rfl (Nat.le_of_ble_eq_true rfl) zl_239 zk_239 dX11_readCompared_31 rfl (fun q_4 => ?_)
        refine a_if_ne F 43 dX11_readCompared_34 (by decide) ?_ ?_
        · refine a_aload_n F dX11_readCompared_37 rfl rfl ?_
          refine a_iconst F dX11_readCompared_38 ki_1 ?_
          refine a_callVI F (As := [.int (1 : Int32)]) cfX11 rfl (c_X11_errs X (1 : Int32) q_4.2) mw_X11_errs ml_X11_217 im_X11_errs se_X11_errs M0.2.1 (Nat.le_of_ble_eq_true rfl) ⟨Nat.zero_le _, Nat.zero_le _⟩ rfl rfl (Nat.le_of_ble_eq_true rfl) zl_239 zk_239 dX11_readCompared_39 rfl (fun q_5 => ?_)
          exact a_iret F M0.2.2.1 M0.2.2.2 dX11_readCompared_42
        · exact b_X11_readCompared_43 M0 q_4.2
      · exact b_X11_readCompared_43 M0 q_3.2
    · exact b_X11_readCompared_43 M0 q_2.2
theorem c_X11_readCompared (X : CX) (S : Mm) : CtI X Z1 yX11_readCompared cX11_readCompared 2 (some .int) 7 [.ref 239] S (f_X11_readCompared S) :=
  ctI_of (by decide +kernel) rfl (Nat.le_of_ble_eq_true rfl) (by simp [Value.category]) z1len fun E F R hra hlk => b_X11_readCompared ⟨F, R, hra, hlk⟩ S
def f_X11_settles_0b (k0 : Int32 → Mm → Option Mm) (x1 : Int32) (S : Mm) : Option Mm :=
  if (S 239 31) ≤ 0 then (
   some S
  ) else (
   gd (inB ((S 239 31) - (1 : Int32)) 40 = true) <|
   if (S 257 (ix ((S 239 31) - (1 : Int32)))) = x1 then (
    nm (uM S 239 31 ((S 239 31) - (1 : Int32))) fun S_1 =>
    (f_X11_emits x1 (0 : Int32) S_1).bind fun S_2 =>
    if x1 = (9 : Int32) then (
     nm (uM S_2 239 29 ((S_2 239 29) - (1 : Int32))) fun S_3 =>
     k0 x1 S_3
    ) else (
     k0 x1 S_2
    )
   ) else (
    some S
   )
  )
set_option maxRecDepth 20000 in
theorem b_X11_settles_0b {X : CX} {E : FE} (M0 : MF X E RX11 cX11_settles 2 2 none) {k0 : Int32 → Mm → Option Mm} (hk0 : ∀ (x1 : Int32) (S : Mm), At X E false (mQv X Z1 E) 0 [some (.ref 239), some (.int x1)] [] Z1 S 0 0 (k0 x1 S)) (x1 : Int32) (S : Mm) : At X E false (mQv X Z1 E) 0 [some (.ref 239), some (.int x1)] [] Z1 S 0 0 (f_X11_settles_0b k0 x1 S) := by
  have F := M0.1
  unfold f_X11_settles_0b
  refine a_aload_n F dX11_settles_0 rfl rfl ?_
  refine a_getI (k := 31) F cfX11 dX11_settles_1 fl_X11_239 (by decide) fi_11_31 zl_239 zk_239 ?_
  refine a_if_le F 57 dX11_settles_4 (by decide) ?_ ?_
  · exact a_vret F M0.2.2.1 M0.2.2.2 dX11_settles_57
  · refine a_aload_n F dX11_settles_7 rfl rfl ?_
    refine a_getR (k := 30) F cfX11 dX11_settles_8 fl_X11_61 (by decide) fi_11_30 zl_239 zk_239 zr_239_30 ?_
    refine a_aload_n F dX11_settles_11 rfl rfl ?_
    refine a_getI (k := 31) F cfX11 dX11_settles_12 fl_X11_239 (by decide) fi_11_31 zl_239 zk_239 ?_
    refine a_iconst F dX11_settles_15 ki_1 ?_
    refine a_isub F dX11_settles_16 ?_
    refine a_gd (a_iald F dX11_settles_17 zl_257 zk_257 ?_)
    refine a_iload_n F dX11_settles_18 rfl rfl ?_
    refine a_icmp_ne F 57 dX11_settles_19 (by decide) ?_ ?_
    · refine a_aload_n F dX11_settles_22 rfl rfl ?_
      refine a_aload_n F dX11_settles_23 rfl rfl ?_
      refine a_getI (k := 31) F cfX11 dX11_settles_24 fl_X11_239 (by decide) fi_11_31 zl_239 zk_239 ?_
      refine a_iconst F dX11_settles_27 ki_1 ?_
      refine a_isub F dX11_settles_28 ?_
      refine a_putI (k := 31) F cfX11 dX11_settles_29 fl_X11_239 (by decide) fi_11_31 rfl rfl zl_239 zk_239 ?_
      refine a_nmS (fun S_1 => ?_)
      refine a_aload_n F dX11_settles_32 rfl rfl ?_
      refine a_iload_n F dX11_settles_33 rfl rfl ?_
      refine a_iconst F dX11_settles_34 ki_0 ?_
      refine a_callVV F (As := [.int x1, .int (0 : Int32)]) cfX11 rfl (c_X11_emits X x1 (0 : Int32) S_1) mw_X11_emits ml_X11_220 im_X11_emits se_X11_emits M0.2.1 (Nat.le_of_ble_eq_true rfl) ⟨Nat.zero_le _, Nat.zero_le _⟩ rfl rfl (Nat.le_of_ble_eq_true rfl) zl_239 zk_239 dX11_settles_35 rfl (fun S_2 => ?_)
      refine a_iload_n F dX11_settles_38 rfl rfl ?_
      refine a_bipush F dX11_settles_39 kb_9 ?_
      refine a_icmp_ne F 0 dX11_settles_41 (by decide) ?_ ?_
      · refine a_aload_n F dX11_settles_44 rfl rfl ?_
        refine a_aload_n F dX11_settles_45 rfl rfl ?_
        refine a_getI (k := 29) F cfX11 dX11_settles_46 fl_X11_242 (by decide) fi_11_29 zl_239 zk_239 ?_
        refine a_iconst F dX11_settles_49 ki_1 ?_
        refine a_isub F dX11_settles_50 ?_
        refine a_putI (k := 29) F cfX11 dX11_settles_51 fl_X11_242 (by decide) fi_11_29 rfl rfl zl_239 zk_239 ?_
        refine a_nmS (fun S_3 => ?_)
        refine a_goto F 0 dX11_settles_54 (by decide) ?_
        exact hk0 x1 S_3
      · exact hk0 x1 S_2
    · exact a_vret F M0.2.2.1 M0.2.2.2 dX11_settles_57
def f_X11_settles_0 : Nat → Int32 → Mm → Option Mm :=
  itr (fun _ _ => none) (fun k => f_X11_settles_0b k)
theorem b_X11_settles_0 {X : CX} {E : FE} (M0 : MF X E RX11 cX11_settles 2 2 none) : ∀ (n : Nat) (x1 : Int32) (S : Mm), At X E false (mQv X Z1 E) 0 [some (.ref 239), some (.int x1)] [] Z1 S 0 0 (f_X11_settles_0  n x1 S) := by
  intro n
  induction n with
  | zero => intros; exact a_none
  | succ n ih => intro x1 S; exact b_X11_settles_0b M0 ih x1 S
def f_X11_settles (p1 : Int32) (S : Mm) : Option Mm :=
  f_X11_settles_0 FU p1 S
set_option maxRecDepth 20000 in
theorem b_X11_settles {X : CX} {E : FE} (M0 : MF X E RX11 cX11_settles 2 2 none) (p1 : Int32) (S : Mm) : At X E false (mQv X Z1 E) 0 [some (.ref 239), some (.int p1)] [] Z1 S 0 0 (f_X11_settles p1 S) := by
  have F := M0.1
  unfold f_X11_settles
  exact b_X11_settles_0 M0 FU p1 S
theorem c_X11_settles (X : CX) (p1 : Int32) (S : Mm) : CtV X Z1 yX11_settles cX11_settles 2 2 [.ref 239, .int p1] S (f_X11_settles p1 S) :=
  ctV_of (by decide +kernel) rfl (Nat.le_of_ble_eq_true rfl) (by simp [Value.category]) z1len fun E F R hra hlk => b_X11_settles ⟨F, R, hra, hlk⟩ p1 S
def f_X11_readAny_77 (k9 : Int32 → Int32 → Mm → Option (Int32 × Mm)) (x1 x2 t1 : Int32) (S : Mm) : Option (Int32 × Mm) :=
  (f_X11_waits t1 S).bind fun S_1 =>
  (f_X11_reads S_1).bind fun S_2 =>
  k9 x1 x2 S_2
set_option maxRecDepth 20000 in
theorem b_X11_readAny_77 {X : CX} {E : FE} (M0 : MF X E RX11 cX11_readAny 4 8 (some .int)) {k9 : Int32 → Int32 → Mm → Option (Int32 × Mm)} (hk9 : ∀ (x1 x2 : Int32) (S : Mm), At X E false (mQi X Z1 E) 9 [some (.ref 239), some (.int x1), some (.int x2), none] [] Z1 S 0 0 (k9 x1 x2 S)) (x1 x2 t1 : Int32) (S : Mm) : At X E false (mQi X Z1 E) 77 [some (.ref 239), some (.int x1), some (.int x2), none] [.int t1, .ref 239] Z1 S 0 0 (f_X11_readAny_77 k9 x1 x2 t1 S) := by
  have F := M0.1
  unfold f_X11_readAny_77
  refine a_callVV F (As := [.int t1]) cfX11 rfl (c_X11_waits X t1 S) mw_X11_waits ml_X11_248 im_X11_waits se_X11_waits M0.2.1 (Nat.le_of_ble_eq_true rfl) ⟨Nat.zero_le _, Nat.zero_le _⟩ rfl rfl (Nat.le_of_ble_eq_true rfl) zl_239 zk_239 dX11_readAny_77 rfl (fun S_1 => ?_)
  refine a_aload_n F dX11_readAny_80 rfl rfl ?_
  refine a_callVV F (As := []) cfX11 rfl (c_X11_reads X S_1) mw_X11_reads ml_X11_223 im_X11_reads se_X11_reads M0.2.1 (Nat.le_of_ble_eq_true rfl) ⟨Nat.zero_le _, Nat.zero_le _⟩ rfl rfl (Nat.le_of_ble_eq_true rfl) zl_239 zk_239 dX11_readAny_81 rfl (fun S_2 => ?_)
  refine a_goto F 9 dX11_readAny_84 (by decide) ?_
  exact hk9 x1 x2 S_2
def f_X11_readAny_65 (k9 : Int32 → Int32 → Mm → Option (Int32 × Mm)) (x1 x2 x3 : Int32) (S : Mm) : Option (Int32 × Mm) :=
  if x3 = 0 then (
   f_X11_readAny_77 k9 x1 x2 (12 : Int32) S
  ) else (
   f_X11_readAny_77 k9 x1 x2 (9 : Int32) S
  )
set_option maxRecDepth 20000 in
theorem b_X11_readAny_65 {X : CX} {E : FE} (M0 : MF X E RX11 cX11_readAny 4 8 (some .int)) {k9 : Int32 → Int32 → Mm → Option (Int32 × Mm)} (hk9 : ∀ (x1 x2 : Int32) (S : Mm), At X E false (mQi X Z1 E) 9 [some (.ref 239), some (.int x1), some (.int x2), none] [] Z1 S 0 0 (k9 x1 x2 S)) (x1 x2 x3 : Int32) (S : Mm) : At X E false (mQi X Z1 E) 65 [some (.ref 239), some (.int x1), some (.int x2), some (.int x3)] [] Z1 S 0 0 (f_X11_readAny_65 k9 x1 x2 x3 S) := by
  have F := M0.1
  unfold f_X11_readAny_65
  refine a_aload_n F dX11_readAny_65 rfl rfl ?_
  refine a_iload_n F dX11_readAny_66 rfl rfl ?_
  refine a_if_eq F 75 dX11_readAny_67 (by decide) ?_ ?_
  · refine a_bipush F dX11_readAny_75 kb_12 ?_
    refine a_mask [true, true, true, false] (L' := [some (.ref 239), some (.int x1), some (.int x2), none]) rfl rfl ?_
    exact b_X11_readAny_77 M0 hk9 x1 x2 (12 : Int32) S
  · refine a_bipush F dX11_readAny_70 kb_9 ?_
    refine a_goto F 77 dX11_readAny_72 (by decide) ?_
    refine a_mask [true, true, true, false] (L' := [some (.ref 239), some (.int x1), some (.int x2), none]) rfl rfl ?_
    exact b_X11_readAny_77 M0 hk9 x1 x2 (9 : Int32) S
def f_X11_readAny_32 (k9 : Int32 → Int32 → Mm → Option (Int32 × Mm)) (x1 x2 x3 : Int32) (S : Mm) : Option (Int32 × Mm) :=
  if (S 239 29) = (8 : Int32) then (
   (f_X11_errs (3 : Int32) S).bind fun q_1 =>
   some (q_1.1, q_1.2)
  ) else (
   nm (uM S 239 29 ((S 239 29) + (1 : Int32))) fun S_2 =>
   if x3 = 0 then (
    nm ((x1 + (1 : Int32))) fun x1_3 =>
    f_X11_readAny_65 k9 x1_3 x2 x3 S_2
   ) else (
    f_X11_readAny_65 k9 x1 x2 x3 S_2
   )
  )
set_option maxRecDepth 20000 in
theorem b_X11_readAny_32 {X : CX} {E : FE} (M0 : MF X E RX11 cX11_readAny 4 8 (some .int)) {k9 : Int32 → Int32 → Mm → Option (Int32 × Mm)} (hk9 : ∀ (x1 x2 : Int32) (S : Mm), At X E false (mQi X Z1 E) 9 [some (.ref 239), some (.int x1), some (.int x2), none] [] Z1 S 0 0 (k9 x1 x2 S)) (x1 x2 x3 : Int32) (S : Mm) : At X E false (mQi X Z1 E) 32 [some (.ref 239), some (.int x1), some (.int x2), some (.int x3)] [] Z1 S 0 0 (f_X11_readAny_32 k9 x1 x2 x3 S) := by
  have F := M0.1
  unfold f_X11_readAny_32
  refine a_aload_n F dX11_readAny_32 rfl rfl ?_
  refine a_getI (k := 29) F cfX11 dX11_readAny_33 fl_X11_242 (by decide) fi_11_29 zl_239 zk_239 ?_
  refine a_bipush F dX11_readAny_36 kb_8 ?_
  refine a_icmp_ne F 47 dX11_readAny_38 (by decide) ?_ ?_
  · refine a_aload_n F dX11_readAny_41 rfl rfl ?_
    refine a_iconst F dX11_readAny_42 ki_3 ?_
    refine a_callVI F (As := [.int (3 : Int32)]) cfX11 rfl (c_X11_errs X (3 : Int32) S) mw_X11_errs ml_X11_217 im_X11_errs se_X11_errs M0.2.1 (Nat.le_of_ble_eq_true rfl) ⟨Nat.zero_le _, Nat.zero_le _⟩ rfl rfl (Nat.le_of_ble_eq_true rfl) zl_239 zk_239 dX11_readAny_43 rfl (fun q_1 => ?_)
    exact a_iret F M0.2.2.1 M0.2.2.2 dX11_readAny_46
  · refine a_aload_n F dX11_readAny_47 rfl rfl ?_
    refine a_aload_n F dX11_readAny_48 rfl rfl ?_
    refine a_getI (k := 29) F cfX11 dX11_readAny_49 fl_X11_242 (by decide) fi_11_29 zl_239 zk_239 ?_
    refine a_iconst F dX11_readAny_52 ki_1 ?_
    refine a_iadd F dX11_readAny_53 ?_
    refine a_putI (k := 29) F cfX11 dX11_readAny_54 fl_X11_242 (by decide) fi_11_29 rfl rfl zl_239 zk_239 ?_
    refine a_nmS (fun S_2 => ?_)
    refine a_iload_n F dX11_readAny_57 rfl rfl ?_
    refine a_if_ne F 65 dX11_readAny_58 (by decide) ?_ ?_
    · refine a_iload_n F dX11_readAny_61 rfl rfl ?_
      refine a_iconst F dX11_readAny_62 ki_1 ?_
      refine a_iadd F dX11_readAny_63 ?_
      refine a_istore_nN (L' := fun x1_3 => [some (.ref 239), some (.int x1_3), some (.int x2), some (.int x3)]) F dX11_readAny_64 rfl (lt_b rfl) (fun _ => rfl) (fun x1_3 => ?_)
      exact b_X11_readAny_65 M0 hk9 x1_3 x2 x3 S_2
    · exact b_X11_readAny_65 M0 hk9 x1 x2 x3 S_2
def f_X11_readAny_9b (k9 : Int32 → Int32 → Mm → Option (Int32 × Mm)) (x1 x2 : Int32) (S : Mm) : Option (Int32 × Mm) :=
  if x2 = 0 then (
   (f_X11_isWord (3 : Int32) S).bind fun q_1 =>
   if q_1.1 = 0 then (
    (f_X11_isWord (2 : Int32) q_1.2).bind fun q_2 =>
    if q_2.1 = 0 then (
     (f_X11_settles (10 : Int32) q_2.2).bind fun S_3 =>
     (f_X11_settles (11 : Int32) S_3).bind fun S_4 =>
     if x1 = 0 then (
      some ((0 : Int32), S_4)
     ) else (
      (f_X11_isSign (41 : Int32) S_4).bind fun q_5 =>
      if q_5.1 = 0 then (
       (f_X11_errs (1 : Int32) q_5.2).bind fun q_6 =>
       some (q_6.1, q_6.2)
      ) else (
       nm (uM q_5.2 239 31 ((q_5.2 239 31) - (1 : Int32))) fun S_7 =>
       nm ((x1 - (1 : Int32))) fun x1_8 =>
       nm (uM S_7 239 29 ((S_7 239 29) - (1 : Int32))) fun S_9 =>
       (f_X11_settles (9 : Int32) S_9).bind fun S_10 =>
       (f_X11_reads S_10).bind fun S_11 =>
       k9 x1_8 x2 S_11
      )
     )
    ) else (
     (f_X11_settles (10 : Int32) q_2.2).bind fun S_12 =>
     (f_X11_settles (11 : Int32) S_12).bind fun S_13 =>
     (f_X11_waits (11 : Int32) S_13).bind fun S_14 =>
     (f_X11_reads S_14).bind fun S_15 =>
     k9 x1 (1 : Int32) S_15
    )
   ) else (
    (f_X11_settles (10 : Int32) q_1.2).bind fun S_16 =>
    (f_X11_waits (10 : Int32) S_16).bind fun S_17 =>
    (f_X11_reads S_17).bind fun S_18 =>
    k9 x1 (1 : Int32) S_18
   )
  ) else (
   (f_X11_isWord (4 : Int32) S).bind fun q_19 =>
   if q_19.1 = 0 then (
    (f_X11_isSign (40 : Int32) q_19.2).bind fun q_20 =>
    if q_20.1 = 0 then (
     (f_X11_readCompared q_20.2).bind fun q_21 =>
     if q_21.1 = (-1 : Int32) then (
      some ((-1 : Int32), q_21.2)
     ) else (
      (f_X11_settles (9 : Int32) q_21.2).bind fun S_22 =>
      k9 x1 (0 : Int32) S_22
     )
    ) else (
     f_X11_readAny_32 k9 x1 x2 q_19.1 q_20.2
    )
   ) else (
    f_X11_readAny_32 k9 x1 x2 q_19.1 q_19.2
   )
  )
set_option maxRecDepth 20000 in
theorem b_X11_readAny_9b {X : CX} {E : FE} (M0 : MF X E RX11 cX11_readAny 4 8 (some .int)) {k9 : Int32 → Int32 → Mm → Option (Int32 × Mm)} (hk9 : ∀ (x1 x2 : Int32) (S : Mm), At X E false (mQi X Z1 E) 9 [some (.ref 239), some (.int x1), some (.int x2), none] [] Z1 S 0 0 (k9 x1 x2 S)) (x1 x2 : Int32) (S : Mm) : At X E false (mQi X Z1 E) 9 [some (.ref 239), some (.int x1), some (.int x2), none] [] Z1 S 0 0 (f_X11_readAny_9b k9 x1 x2 S) := by
  have F := M0.1
  unfold f_X11_readAny_9b
  refine a_iload_n F dX11_readAny_9 rfl rfl ?_
  refine a_if_eq F 108 dX11_readAny_10 (by decide) ?_ ?_
  · refine a_aload_n F dX11_readAny_108 rfl rfl ?_
    refine a_iconst F dX11_readAny_109 ki_3 ?_
    refine a_callVI F (As := [.int (3 : Int32)]) cfX11 rfl (c_X11_isWord X (3 : Int32) S) mw_X11_isWord ml_X11_245 im_X11_isWord se_X11_isWord M0.2.1 (Nat.le_of_ble_eq_true rfl) ⟨Nat.zero_le _, Nat.zero_le _⟩ rfl rfl (Nat.le_of_ble_eq_true rfl) zl_239 zk_239 dX11_readAny_110 rfl (fun q_1 => ?_)
    refine a_if_eq F 137 dX11_readAny_113 (by decide) ?_ ?_
    · refine a_aload_n F dX11_readAny_137 rfl rfl ?_
      refine a_iconst F dX11_readAny_138 ki_2 ?_
      refine a_callVI F (As := [.int (2 : Int32)]) cfX11 rfl (c_X11_isWord X (2 : Int32) q_1.2) mw_X11_isWord ml_X11_245 im_X11_isWord se_X11_isWord M0.2.1 (Nat.le_of_ble_eq_true rfl) ⟨Nat.zero_le _, Nat.zero_le _⟩ rfl rfl (Nat.le_of_ble_eq_true rfl) zl_239 zk_239 dX11_readAny_139 rfl (fun q_2 => ?_)
      refine a_if_eq F 172 dX11_readAny_142 (by decide) ?_ ?_
      · refine a_aload_n F dX11_readAny_172 rfl rfl ?_
        refine a_bipush F dX11_readAny_173 kb_10 ?_
        refine a_callVV F (As := [.int (10 : Int32)]) cfX11 rfl (c_X11_settles X (10 : Int32) q_2.2) mw_X11_settles ml_X11_254 im_X11_settles se_X11_settles M0.2.1 (Nat.le_of_ble_eq_true rfl) ⟨Nat.zero_le _, Nat.zero_le _⟩ rfl rfl (Nat.le_of_ble_eq_true rfl) zl_239 zk_239 dX11_readAny_175 rfl (fun S_3 => ?_)
        refine a_aload_n F dX11_readAny_178 rfl rfl ?_
        refine a_bipush F dX11_readAny_179 kb_11 ?_
        refine a_callVV F (As := [.int (11 : Int32)]) cfX11 rfl (c_X11_settles X (11 : Int32) S_3) mw_X11_settles ml_X11_254 im_X11_settles se_X11_settles M0.2.1 (Nat.le_of_ble_eq_true rfl) ⟨Nat.zero_le _, Nat.zero_le _⟩ rfl rfl (Nat.le_of_ble_eq_true rfl) zl_239 zk_239 dX11_readAny_181 rfl (fun S_4 => ?_)
        refine a_iload_n F dX11_readAny_184 rfl rfl ?_
        refine a_if_ne F 190 dX11_readAny_185 (by decide) ?_ ?_
        · refine a_iconst F dX11_readAny_188 ki_0 ?_
          exact a_iret F M0.2.2.1 M0.2.2.2 dX11_readAny_189
        · refine a_aload_n F dX11_readAny_190 rfl rfl ?_
          refine a_bipush F dX11_readAny_191 kb_41 ?_
          refine a_callVI F (As := [.int (41 : Int32)]) cfX11 rfl (c_X11_isSign X (41 : Int32) S_4) mw_X11_isSign ml_X11_230 im_X11_isSign se_X11_isSign M0.2.1 (Nat.le_of_ble_eq_true rfl) ⟨Nat.zero_le _, Nat.zero_le _⟩ rfl rfl (Nat.le_of_ble_eq_true rfl) zl_239 zk_239 dX11_readAny_193 rfl (fun q_5 => ?_)
          refine a_if_ne F 205 dX11_readAny_196 (by decide) ?_ ?_
          · refine a_aload_n F dX11_readAny_199 rfl rfl ?_
            refine a_iconst F dX11_readAny_200 ki_1 ?_
            refine a_callVI F (As := [.int (1 : Int32)]) cfX11 rfl (c_X11_errs X (1 : Int32) q_5.2) mw_X11_errs ml_X11_217 im_X11_errs se_X11_errs M0.2.1 (Nat.le_of_ble_eq_true rfl) ⟨Nat.zero_le _, Nat.zero_le _⟩ rfl rfl (Nat.le_of_ble_eq_true rfl) zl_239 zk_239 dX11_readAny_201 rfl (fun q_6 => ?_)
            exact a_iret F M0.2.2.1 M0.2.2.2 dX11_readAny_204
          · refine a_aload_n F dX11_readAny_205 rfl rfl ?_
            refine a_aload_n F dX11_readAny_206 rfl rfl ?_
            refine a_getI (k := 31) F cfX11 dX11_readAny_207 fl_X11_239 (by decide) fi_11_31 zl_239 zk_239 ?_
            refine a_iconst F dX11_readAny_210 ki_1 ?_
            refine a_isub F dX11_readAny_211 ?_
            refine a_putI (k := 31) F cfX11 dX11_readAny_212 fl_X11_239 (by decide) fi_11_31 rfl rfl zl_239 zk_239 ?_
            refine a_nmS (fun S_7 => ?_)
            refine a_iload_n F dX11_readAny_215 rfl rfl ?_
            refine a_iconst F dX11_readAny_216 ki_1 ?_
            refine a_isub F dX11_readAny_217 ?_
            refine a_istore_nN (L' := fun x1_8 => [some (.ref 239), some (.int x1_8), some (.int x2), none]) F dX11_readAny_218 rfl (lt_b rfl) (fun _ => rfl) (fun x1_8 => ?_)
            refine a_aload_n F dX11_readAny_219 rfl rfl ?_
            refine a_aload_n F dX11_readAny_220 rfl rfl ?_
            refine a_getI (k := 29) F cfX11 dX11_readAny_221 fl_X11_242 (by decide) fi_11_29 zl_239 zk_239 ?_
            refine a_iconst F dX11_readAny_224 ki_1 ?_
            refine a_isub F dX11_readAny_225 ?_
            refine a_putI (k := 29) F cfX11 dX11_readAny_226 fl_X11_242 (by decide) fi_11_29 rfl rfl zl_239 zk_239 ?_
            refine a_nmS (fun S_9 => ?_)
            refine a_aload_n F dX11_readAny_229 rfl rfl ?_
            refine a_bipush F dX11_readAny_230 kb_9 ?_
            refine a_callVV F (As := [.int (9 : Int32)]) cfX11 rfl (c_X11_settles X (9 : Int32) S_9) mw_X11_settles ml_X11_254 im_X11_settles se_X11_settles M0.2.1 (Nat.le_of_ble_eq_true rfl) ⟨Nat.zero_le _, Nat.zero_le _⟩ rfl rfl (Nat.le_of_ble_eq_true rfl) zl_239 zk_239 dX11_readAny_232 rfl (fun S_10 => ?_)
            refine a_aload_n F dX11_readAny_235 rfl rfl ?_
            refine a_callVV F (As := []) cfX11 rfl (c_X11_reads X S_10) mw_X11_reads ml_X11_223 im_X11_reads se_X11_reads M0.2.1 (Nat.le_of_ble_eq_true rfl) ⟨Nat.zero_le _, Nat.zero_le _⟩ rfl rfl (Nat.le_of_ble_eq_true rfl) zl_239 zk_239 dX11_readAny_236 rfl (fun S_11 => ?_)
            refine a_goto F 9 dX11_readAny_239 (by decide) ?_
            exact hk9 x1_8 x2 S_11
      · refine a_aload_n F dX11_readAny_145 rfl rfl ?_
        refine a_bipush F dX11_readAny_146 kb_10 ?_
        refine a_callVV F (As := [.int (10 : Int32)]) cfX11 rfl (c_X11_settles X (10 : Int32) q_2.2) mw_X11_settles ml_X11_254 im_X11_settles se_X11_settles M0.2.1 (Nat.le_of_ble_eq_true rfl) ⟨Nat.zero_le _, Nat.zero_le _⟩ rfl rfl (Nat.le_of_ble_eq_true rfl) zl_239 zk_239 dX11_readAny_148 rfl (fun S_12 => ?_)
        refine a_aload_n F dX11_readAny_151 rfl rfl ?_
        refine a_bipush F dX11_readAny_152 kb_11 ?_
        refine a_callVV F (As := [.int (11 : Int32)]) cfX11 rfl (c_X11_settles X (11 : Int32) S_12) mw_X11_settles ml_X11_254 im_X11_settles se_X11_settles M0.2.1 (Nat.le_of_ble_eq_true rfl) ⟨Nat.zero_le _, Nat.zero_le _⟩ rfl rfl (Nat.le_of_ble_eq_true rfl) zl_239 zk_239 dX11_readAny_154 rfl (fun S_13 => ?_)
        refine a_aload_n F dX11_readAny_157 rfl rfl ?_
        refine a_bipush F dX11_readAny_158 kb_11 ?_
        refine a_callVV F (As := [.int (11 : Int32)]) cfX11 rfl (c_X11_waits X (11 : Int32) S_13) mw_X11_waits ml_X11_248 im_X11_waits se_X11_waits M0.2.1 (Nat.le_of_ble_eq_true rfl) ⟨Nat.zero_le _, Nat.zero_le _⟩ rfl rfl (Nat.le_of_ble_eq_true rfl) zl_239 zk_239 dX11_readAny_160 rfl (fun S_14 => ?_)
        refine a_aload_n F dX11_readAny_163 rfl rfl ?_
        refine a_callVV F (As := []) cfX11 rfl (c_X11_reads X S_14) mw_X11_reads ml_X11_223 im_X11_reads se_X11_reads M0.2.1 (Nat.le_of_ble_eq_true rfl) ⟨Nat.zero_le _, Nat.zero_le _⟩ rfl rfl (Nat.le_of_ble_eq_true rfl) zl_239 zk_239 dX11_readAny_164 rfl (fun S_15 => ?_)
        refine a_iconst F dX11_readAny_167 ki_1 ?_
        refine a_istore_n (L' := [some (.ref 239), some (.int x1), some (.int (1 : Int32)), none]) F dX11_readAny_168 rfl (lt_b rfl) rfl ?_
        refine a_goto F 9 dX11_readAny_169 (by decide) ?_
        exact hk9 x1 (1 : Int32) S_15
    · refine a_aload_n F dX11_readAny_116 rfl rfl ?_
      refine a_bipush F dX11_readAny_117 kb_10 ?_
      refine a_callVV F (As := [.int (10 : Int32)]) cfX11 rfl (c_X11_settles X (10 : Int32) q_1.2) mw_X11_settles ml_X11_254 im_X11_settles se_X11_settles M0.2.1 (Nat.le_of_ble_eq_true rfl) ⟨Nat.zero_le _, Nat.zero_le _⟩ rfl rfl (Nat.le_of_ble_eq_true rfl) zl_239 zk_239 dX11_readAny_119 rfl (fun S_16 => ?_)
      refine a_aload_n F dX11_readAny_122 rfl rfl ?_
      refine a_bipush F dX11_readAny_123 kb_10 ?_
      refine a_callVV F (As := [.int (10 : Int32)]) cfX11 rfl (c_X11_waits X (10 : Int32) S_16) mw_X11_waits ml_X11_248 im_X11_waits se_X11_waits M0.2.1 (Nat.le_of_ble_eq_true rfl) ⟨Nat.zero_le _, Nat.zero_le _⟩ rfl rfl (Nat.le_of_ble_eq_true rfl) zl_239 zk_239 dX11_readAny_125 rfl (fun S_17 => ?_)
      refine a_aload_n F dX11_readAny_128 rfl rfl ?_
      refine a_callVV F (As := []) cfX11 rfl (c_X11_reads X S_17) mw_X11_reads ml_X11_223 im_X11_reads se_X11_reads M0.2.1 (Nat.le_of_ble_eq_true rfl) ⟨Nat.zero_le _, Nat.zero_le _⟩ rfl rfl (Nat.le_of_ble_eq_true rfl) zl_239 zk_239 dX11_readAny_129 rfl (fun S_18 => ?_)
      refine a_iconst F dX11_readAny_132 ki_1 ?_
      refine a_istore_n (L' := [some (.ref 239), some (.int x1), some (.int (1 : Int32)), none]) F dX11_readAny_133 rfl (lt_b rfl) rfl ?_
      refine a_goto F 9 dX11_readAny_134 (by decide) ?_
      exact hk9 x1 (1 : Int32) S_18
  · refine a_aload_n F dX11_readAny_13 rfl rfl ?_
    refine a_iconst F dX11_readAny_14 ki_4 ?_
    refine a_callVI F (As := [.int (4 : Int32)]) cfX11 rfl (c_X11_isWord X (4 : Int32) S) mw_X11_isWord ml_X11_245 im_X11_isWord se_X11_isWord M0.2.1 (Nat.le_of_ble_eq_true rfl) ⟨Nat.zero_le _, Nat.zero_le _⟩ rfl rfl (Nat.le_of_ble_eq_true rfl) zl_239 zk_239 dX11_readAny_15 rfl (fun q_19 => ?_)
    refine a_istore_n (L' := [some (.ref 239), some (.int x1), some (.int x2), some (.int q_19.1)]) F dX11_readAny_18 rfl (lt_b rfl) rfl ?_
    refine a_iload_n F dX11_readAny_19 rfl rfl ?_
    refine a_if_ne F 32 dX11_readAny_20 (by decide) ?_ ?_
    · refine a_aload_n F dX11_readAny_23 rfl rfl ?_
      refine a_bipush F dX11_readAny_24 kb_40 ?_
      refine a_callVI F (As := [.int (40 : Int32)]) cfX11 rfl (c_X11_isSign X (40 : Int32) q_19.2) mw_X11_isSign ml_X11_230 im_X11_isSign se_X11_isSign M0.2.1 (Nat.le_of_ble_eq_true rfl) ⟨Nat.zero_le _, Nat.zero_le _⟩ rfl rfl (Nat.le_of_ble_eq_true rfl) zl_239 zk_239 dX11_readAny_26 rfl (fun q_20 => ?_)
      refine a_if_eq F 87 dX11_readAny_29 (by decide) ?_ ?_
      · refine a_aload_n F dX11_readAny_87 rfl rfl ?_
        refine a_callVI F (As := []) cfX11 rfl (c_X11_readCompared X q_20.2) mw_X11_readCompared ml_X11_251 im_X11_readCompared se_X11_readCompared M0.2.1 (Nat.le_of_ble_eq_true rfl) ⟨Nat.zero_le _, Nat.zero_le _⟩ rfl rfl (Nat.le_of_ble_eq_true rfl) zl_239 zk_239 dX11_readAny_88 rfl (fun q_21 => ?_)
        refine a_iconst F dX11_readAny_91 ki_m1 ?_
        refine a_icmp_ne F 97 dX11_readAny_92 (by decide) ?_ ?_
        · refine a_iconst F dX11_readAny_95 ki_m1 ?_
          exact a_iret F M0.2.2.1 M0.2.2.2 dX11_readAny_96
        · refine a_aload_n F dX11_readAny_97 rfl rfl ?_
          refine a_bipush F dX11_readAny_98 kb_9 ?_
          refine a_callVV F (As := [.int (9 : Int32)]) cfX11 rfl (c_X11_settles X (9 : Int32) q_21.2) mw_X11_settles ml_X11_254 im_X11_settles se_X11_settles M0.2.1 (Nat.le_of_ble_eq_true rfl) ⟨Nat.zero_le _, Nat.zero_le _⟩ rfl rfl (Nat.le_of_ble_eq_true rfl) zl_239 zk_239 dX11_readAny_100 rfl (fun S_22 => ?_)
          refine a_iconst F dX11_readAny_103 ki_0 ?_
          refine a_istore_n (L' := [some (.ref 239), some (.int x1), some (.int (0 : Int32)), some (.int q_19.1)]) F dX11_readAny_104 rfl (lt_b rfl) rfl ?_
          refine a_goto F 9 dX11_readAny_105 (by decide) ?_
          refine a_mask [true, true, true, false] (L' := [some (.ref 239), some (.int x1), some (.int (0 : Int32)), none]) rfl rfl ?_
          exact hk9 x1 (0 : Int32) S_22
      · exact b_X11_readAny_32 M0 hk9 x1 x2 q_19.1 q_20.2
    · exact b_X11_readAny_32 M0 hk9 x1 x2 q_19.1 q_19.2
def f_X11_readAny_9 : Nat → Int32 → Int32 → Mm → Option (Int32 × Mm) :=
  itr (fun _ _ _ => none) (fun k => f_X11_readAny_9b k)
theorem b_X11_readAny_9 {X : CX} {E : FE} (M0 : MF X E RX11 cX11_readAny 4 8 (some .int)) : ∀ (n : Nat) (x1 x2 : Int32) (S : Mm), At X E false (mQi X Z1 E) 9 [some (.ref 239), some (.int x1), some (.int x2), none] [] Z1 S 0 0 (f_X11_readAny_9  n x1 x2 S) := by
  intro n
  induction n with
  | zero => intros; exact a_none
  | succ n ih => intro x1 x2 S; exact b_X11_readAny_9b M0 ih x1 x2 S
def f_X11_readAny (S : Mm) : Option (Int32 × Mm) :=
  nm (uM S 239 31 (0 : Int32)) fun S_1 =>
  f_X11_readAny_9 FU (0 : Int32) (1 : Int32) S_1
set_option maxRecDepth 20000 in
theorem b_X11_readAny {X : CX} {E : FE} (M0 : MF X E RX11 cX11_readAny 4 8 (some .int)) (S : Mm) : At X E false (mQi X Z1 E) 0 [some (.ref 239), none, none, none] [] Z1 S 0 0 (f_X11_readAny S) := by
  have F := M0.1
  unfold f_X11_readAny
  refine a_iconst F dX11_readAny_0 ki_0 ?_
  refine a_istore_n (L' := [some (.ref 239), some (.int (0 : Int32)), none, none]) F dX11_readAny_1 rfl (lt_b rfl) rfl ?_
  refine a_aload_n F dX11_readAny_2 rfl rfl ?_
  refine a_iconst F dX11_readAny_3 ki_0 ?_
  refine a_putI (k := 31) F cfX11 dX11_readAny_4 fl_X11_239 (by decide) fi_11_31 rfl rfl zl_239 zk_239 ?_
  refine a_nmS (fun S_1 => ?_)
  refine a_iconst F dX11_readAny_7 ki_1 ?_
  refine a_istore_n (L' := [some (.ref 239), some (.int (0 : Int32)), some (.int (1 : Int32)), none]) F dX11_readAny_8 rfl (lt_b rfl) rfl ?_
  exact b_X11_readAny_9 M0 FU (0 : Int32) (1 : Int32) S_1
theorem c_X11_readAny (X : CX) (S : Mm) : CtI X Z1 yX11_readAny cX11_readAny 4 (some .int) 8 [.ref 239] S (f_X11_readAny S) :=
  ctI_of (by decide +kernel) rfl (Nat.le_of_ble_eq_true rfl) (by simp [Value.category]) z1len fun E F R hra hlk => b_X11_readAny ⟨F, R, hra, hlk⟩ S
def f_X11_readText_83 (k2 : Int32 → Mm → Option (Int32 × Mm)) (x1 x2 : Int32) (S : Mm) : Option (Int32 × Mm) :=
  gd (inB x2 32 = true) <|
  nm (uM S 254 (ix x2) (S 239 28)) fun S_1 =>
  (f_X11_isSign (59 : Int32) S_1).bind fun q_2 =>
  if q_2.1 = 0 then (
   (f_X11_errs (1 : Int32) q_2.2).bind fun q_3 =>
   some (q_3.1, q_3.2)
  ) else (
   (f_X11_reads q_2.2).bind fun S_4 =>
   nm ((x1 + (1 : Int32))) fun x1_5 =>
   k2 x1_5 S_4
  )
set_option maxRecDepth 20000 in
theorem b_X11_readText_83 {X : CX} {E : FE} (M0 : MF X E RX11 cX11_readText 3 9 (some .int)) {k2 : Int32 → Mm → Option (Int32 × Mm)} (hk2 : ∀ (x1 : Int32) (S : Mm), At X E false (mQi X Z1 E) 2 [some (.ref 239), some (.int x1), none] [] Z1 S 0 0 (k2 x1 S)) (x1 x2 : Int32) (S : Mm) : At X E false (mQi X Z1 E) 83 [some (.ref 239), some (.int x1), some (.int x2)] [] Z1 S 0 0 (f_X11_readText_83 k2 x1 x2 S) := by
  have F := M0.1
  unfold f_X11_readText_83
  refine a_aload_n F dX11_readText_83 rfl rfl ?_
  refine a_getR (k := 25) F cfX11 dX11_readText_84 fl_X11_52 (by decide) fi_11_25 zl_239 zk_239 zr_239_25 ?_
  refine a_iload_n F dX11_readText_87 rfl rfl ?_
  refine a_aload_n F dX11_readText_88 rfl rfl ?_
  refine a_getI (k := 28) F cfX11 dX11_readText_89 fl_X11_214 (by decide) fi_11_28 zl_239 zk_239 ?_
  refine a_gd (a_iast F dX11_readText_92 zl_254 zk_254 ?_)
  refine a_nmS (fun S_1 => ?_)
  refine a_aload_n F dX11_readText_93 rfl rfl ?_
  refine a_bipush F dX11_readText_94 kb_59 ?_
  refine a_callVI F (As := [.int (59 : Int32)]) cfX11 rfl (c_X11_isSign X (59 : Int32) S_1) mw_X11_isSign ml_X11_230 im_X11_isSign se_X11_isSign M0.2.1 (Nat.le_of_ble_eq_true rfl) ⟨Nat.zero_le _, Nat.zero_le _⟩ rfl rfl (Nat.le_of_ble_eq_true rfl) zl_239 zk_239 dX11_readText_96 rfl (fun q_2 => ?_)
  refine a_if_ne F 108 dX11_readText_99 (by decide) ?_ ?_
  · refine a_aload_n F dX11_readText_102 rfl rfl ?_
    refine a_iconst F dX11_readText_103 ki_1 ?_
    refine a_callVI F (As := [.int (1 : Int32)]) cfX11 rfl (c_X11_errs X (1 : Int32) q_2.2) mw_X11_errs ml_X11_217 im_X11_errs se_X11_errs M0.2.1 (Nat.le_of_ble_eq_true rfl) ⟨Nat.zero_le _, Nat.zero_le _⟩ rfl rfl (Nat.le_of_ble_eq_true rfl) zl_239 zk_239 dX11_readText_104 rfl (fun q_3 => ?_)
    exact a_iret F M0.2.2.1 M0.2.2.2 dX11_readText_107
  · refine a_aload_n F dX11_readText_108 rfl rfl ?_
    refine a_callVV F (As := []) cfX11 rfl (c_X11_reads X q_2.2) mw_X11_reads ml_X11_223 im_X11_reads se_X11_reads M0.2.1 (Nat.le_of_ble_eq_true rfl) ⟨Nat.zero_le _, Nat.zero_le _⟩ rfl rfl (Nat.le_of_ble_eq_true rfl) zl_239 zk_239 dX11_readText_109 rfl (fun S_4 => ?_)
    refine a_iload_n F dX11_readText_112 rfl rfl ?_
    refine a_iconst F dX11_readText_113 ki_1 ?_
    refine a_iadd F dX11_readText_114 ?_
    refine a_istore_nN (L' := fun x1_5 => [some (.ref 239), some (.int x1_5), some (.int x2)]) F dX11_readText_115 rfl (lt_b rfl) (fun _ => rfl) (fun x1_5 => ?_)
    refine a_goto F 2 dX11_readText_116 (by decide) ?_
    refine a_mask [true, true, false] (L' := [some (.ref 239), some (.int x1_5), none]) rfl rfl ?_
    exact hk2 x1_5 S_4
def f_X11_readText_2b (k2 : Int32 → Mm → Option (Int32 × Mm)) (x1 : Int32) (S : Mm) : Option (Int32 × Mm) :=
  (f_X11_isWord (0 : Int32) S).bind fun q_1 =>
  if q_1.1 = 0 then (
   if (q_1.2 239 19) = 0 then (
    some (x1, q_1.2)
   ) else (
    (f_X11_errs (1 : Int32) q_1.2).bind fun q_2 =>
    some (q_2.1, q_2.2)
   )
  ) else (
   if x1 = (16 : Int32) then (
    (f_X11_errs (3 : Int32) q_1.2).bind fun q_3 =>
    some (q_3.1, q_3.2)
   ) else (
    nm (((16 : Int32) + x1)) fun x2_4 =>
    (f_X11_reads q_1.2).bind fun S_5 =>
    gd (inB x2_4 32 = true) <|
    nm (uM S_5 253 (ix x2_4) (S_5 239 28)) fun S_6 =>
    (f_X11_readSum S_6).bind fun q_7 =>
    if q_7.1 = (-1 : Int32) then (
     some ((-1 : Int32), q_7.2)
    ) else (
     gd (inB x2_4 32 = true) <|
     nm (uM q_7.2 252 (ix x2_4) (q_7.2 239 28)) fun S_8 =>
     (f_X11_isWord (1 : Int32) S_8).bind fun q_9 =>
     if q_9.1 = 0 then (
      f_X11_readText_83 k2 x1 x2_4 q_9.2
     ) else (
      (f_X11_reads q_9.2).bind fun S_10 =>
      (f_X11_readAny S_10).bind fun q_11 =>
      if q_11.1 = (-1 : Int32) then (
       some ((-1 : Int32), q_11.2)
      ) else (
       f_X11_readText_83 k2 x1 x2_4 q_11.2
      )
     )
    )
   )
  )
set_option maxRecDepth 20000 in
theorem b_X11_readText_2b {X : CX} {E : FE} (M0 : MF X E RX11 cX11_readText 3 9 (some .int)) {k2 : Int32 → Mm → Option (Int32 × Mm)} (hk2 : ∀ (x1 : Int32) (S : Mm), At X E false (mQi X Z1 E) 2 [some (.ref 239), some (.int x1), none] [] Z1 S 0 0 (k2 x1 S)) (x1 : Int32) (S : Mm) : At X E false (mQi X Z1 E) 2 [some (.ref 239), some (.int x1), none] [] Z1 S 0 0 (f_X11_readText_2b k2 x1 S) := by
  have F := M0.1
  unfold f_X11_readText_2b
  refine a_aload_n F dX11_readText_2 rfl rfl ?_
  refine a_iconst F dX11_readText_3 ki_0 ?_
  refine a_callVI F (As := [.int (0 : Int32)]) cfX11 rfl (c_X11_isWord X (0 : Int32) S) mw_X11_isWord ml_X11_245 im_X11_isWord se_X11_isWord M0.2.1 (Nat.le_of_ble_eq_true rfl) ⟨Nat.zero_le _, Nat.zero_le _⟩ rfl rfl (Nat.le_of_ble_eq_true rfl) zl_239 zk_239 dX11_readText_4 rfl (fun q_1 => ?_)
  refine a_if_eq F 119 dX11_readText_7 (by decide) ?_ ?_
  · refine a_aload_n F dX11_readText_119 rfl rfl ?_
    refine a_getI (k := 19) F cfX11 dX11_readText_120 fl_X11_189 (by decide) fi_11_19 zl_239 zk_239 ?_
    refine a_if_ne F 130 dX11_readText_123 (by decide) ?_ ?_
    · refine a_iload_n F dX11_readText_126 rfl rfl ?_
      refine a_goto F 135 dX11_readText_127 (by decide) ?_
      exact a_iret F M0.2.2.1 M0.2.2.2 dX11_readText_135
    · refine a_aload_n F dX11_readText_130 rfl rfl ?_
      refine a_iconst F dX11_readText_131 ki_1 ?_
      refine a_callVI F (As := [.int (1 : Int32)]) cfX11 rfl (c_X11_errs X (1 : Int32) q_1.2) mw_X11_errs ml_X11_217 im_X11_errs se_X11_errs M0.2.1 (Nat.le_of_ble_eq_true rfl) ⟨Nat.zero_le _, Nat.zero_le _⟩ rfl rfl (Nat.le_of_ble_eq_true rfl) zl_239 zk_239 dX11_readText_132 rfl (fun q_2 => ?_)
      exact a_iret F M0.2.2.1 M0.2.2.2 dX11_readText_135
  · refine a_iload_n F dX11_readText_10 rfl rfl ?_
    refine a_bipush F dX11_readText_11 kb_16 ?_
    refine a_icmp_ne F 22 dX11_readText_13 (by decide) ?_ ?_
    · refine a_aload_n F dX11_readText_16 rfl rfl ?_
      refine a_iconst F dX11_readText_17 ki_3 ?_
      refine a_callVI F (As := [.int (3 : Int32)]) cfX11 rfl (c_X11_errs X (3 : Int32) q_1.2) mw_X11_errs ml_X11_217 im_X11_errs se_X11_errs M0.2.1 (Nat.le_of_ble_eq_true rfl) ⟨Nat.zero_le _, Nat.zero_le _⟩ rfl rfl (Nat.le_of_ble_eq_true rfl) zl_239 zk_239 dX11_readText_18 rfl (fun q_3 => ?_)
      exact a_iret F M0.2.2.1 M0.2.2.2 dX11_readText_21
    · refine a_bipush F dX11_readText_22 kb_16 ?_
      refine a_iload_n F dX11_readText_24 rfl rfl ?_
      refine a_iadd F dX11_readText_25 ?_
      refine a_istore_nN (L' := fun x2_4 => [some (.ref 239), some (.int x1), some (.int x2_4)]) F dX11_readText_26 rfl (lt_b rfl) (fun _ => rfl) (fun x2_4 => ?_)
      refine a_aload_n F dX11_readText_27 rfl rfl ?_
      refine a_callVV F (As := []) cfX11 rfl (c_X11_reads X q_1.2) mw_X11_reads ml_X11_223 im_X11_reads se_X11_reads M0.2.1 (Nat.le_of_ble_eq_true rfl) ⟨Nat.zero_le _, Nat.zero_le _⟩ rfl rfl (Nat.le_of_ble_eq_true rfl) zl_239 zk_239 dX11_readText_28 rfl (fun S_5 => ?_)
      refine a_aload_n F dX11_readText_31 rfl rfl ?_
      refine a_getR (k := 24) F cfX11 dX11_readText_32 fl_X11_49 (by decide) fi_11_24 zl_239 zk_239 zr_239_24 ?_
      refine a_iload_n F dX11_readText_35 rfl rfl ?_
      refine a_aload_n F dX11_readText_36 rfl rfl ?_
      refine a_getI (k := 28) F cfX11 dX11_readText_37 fl_X11_214 (by decide) fi_11_28 zl_239 zk_239 ?_
      refine a_gd (a_iast F dX11_readText_40 zl_253 zk_253 ?_)
      refine a_nmS (fun S_6 => ?_)
      refine a_aload_n F dX11_readText_41 rfl rfl ?_
      refine a_callVI F (As := []) cfX11 rfl (c_X11_readSum X S_6) mw_X11_readSum ml_X11_236 im_X11_readSum se_X11_readSum M0.2.1 (Nat.le_of_ble_eq_true rfl) ⟨Nat.zero_le _, Nat.zero_le _⟩ rfl rfl (Nat.le_of_ble_eq_true rfl) zl_239 zk_239 dX11_readText_42 rfl (fun q_7 => ?_)
      refine a_iconst F dX11_readText_45 ki_m1 ?_
      refine a_icmp_ne F 51 dX11_readText_46 (by decide) ?_ ?_
      · refine a_iconst F dX11_readText_49 ki_m1 ?_
        exact a_iret F M0.2.2.1 M0.2.2.2 dX11_readText_50
      · refine a_aload_n F dX11_readText_51 rfl rfl ?_
        refine a_getR (k := 23) F cfX11 dX11_readText_52 fl_X11_46 (by decide) fi_11_23 zl_239 zk_239 zr_239_23 ?_
        refine a_iload_n F dX11_readText_55 rfl rfl ?_
        refine a_aload_n F dX11_readText_56 rfl rfl ?_
        refine a_getI (k := 28) F cfX11 dX11_readText_57 fl_X11_214 (by decide) fi_11_28 zl_239 zk_239 ?_
        refine a_gd (a_iast F dX11_readText_60 zl_252 zk_252 ?_)
        refine a_nmS (fun S_8 => ?_)
        refine a_aload_n F dX11_readText_61 rfl rfl ?_
        refine a_iconst F dX11_readText_62 ki_1 ?_
        refine a_callVI F (As := [.int (1 : Int32)]) cfX11 rfl (c_X11_isWord X (1 : Int32) S_8) mw_X11_isWord ml_X11_245 im_X11_isWord se_X11_isWord M0.2.1 (Nat.le_of_ble_eq_true rfl) ⟨Nat.zero_le _, Nat.zero_le _⟩ rfl rfl (Nat.le_of_ble_eq_true rfl) zl_239 zk_239 dX11_readText_63 rfl (fun q_9 => ?_)
        refine a_if_eq F 83 dX11_readText_66 (by decide) ?_ ?_
        · exact b_X11_readText_83 M0 hk2 x1 x2_4 q_9.2
        · refine a_aload_n F dX11_readText_69 rfl rfl ?_
          refine a_callVV F (As := []) cfX11 rfl (c_X11_reads X q_9.2) mw_X11_reads ml_X11_223 im_X11_reads se_X11_reads M0.2.1 (Nat.le_of_ble_eq_true rfl) ⟨Nat.zero_le _, Nat.zero_le _⟩ rfl rfl (Nat.le_of_ble_eq_true rfl) zl_239 zk_239 dX11_readText_70 rfl (fun S_10 => ?_)
          refine a_aload_n F dX11_readText_73 rfl rfl ?_
          refine a_callVI F (As := []) cfX11 rfl (c_X11_readAny X S_10) mw_X11_readAny ml_X11_257 im_X11_readAny se_X11_readAny M0.2.1 (Nat.le_of_ble_eq_true rfl) ⟨Nat.zero_le _, Nat.zero_le _⟩ rfl rfl (Nat.le_of_ble_eq_true rfl) zl_239 zk_239 dX11_readText_74 rfl (fun q_11 => ?_)
          refine a_iconst F dX11_readText_77 ki_m1 ?_
          refine a_icmp_ne F 83 dX11_readText_78 (by decide) ?_ ?_
          · refine a_iconst F dX11_readText_81 ki_m1 ?_
            exact a_iret F M0.2.2.1 M0.2.2.2 dX11_readText_82
          · exact b_X11_readText_83 M0 hk2 x1 x2_4 q_11.2
def f_X11_readText_2 : Nat → Int32 → Mm → Option (Int32 × Mm) :=
  itr (fun _ _ => none) (fun k => f_X11_readText_2b k)
theorem b_X11_readText_2 {X : CX} {E : FE} (M0 : MF X E RX11 cX11_readText 3 9 (some .int)) : ∀ (n : Nat) (x1 : Int32) (S : Mm), At X E false (mQi X Z1 E) 2 [some (.ref 239), some (.int x1), none] [] Z1 S 0 0 (f_X11_readText_2  n x1 S) := by
  intro n
  induction n with
  | zero => intros; exact a_none
  | succ n ih => intro x1 S; exact b_X11_readText_2b M0 ih x1 S
def f_X11_readText (S : Mm) : Option (Int32 × Mm) :=
  f_X11_readText_2 FU (0 : Int32) S
set_option maxRecDepth 20000 in
theorem b_X11_readText {X : CX} {E : FE} (M0 : MF X E RX11 cX11_readText 3 9 (some .int)) (S : Mm) : At X E false (mQi X Z1 E) 0 [some (.ref 239), none, none] [] Z1 S 0 0 (f_X11_readText S) := by
  have F := M0.1
  unfold f_X11_readText
  refine a_iconst F dX11_readText_0 ki_0 ?_
  refine a_istore_n (L' := [some (.ref 239), some (.int (0 : Int32)), none]) F dX11_readText_1 rfl (lt_b rfl) rfl ?_
  exact b_X11_readText_2 M0 FU (0 : Int32) S
theorem c_X11_readText (X : CX) (S : Mm) : CtI X Z1 yX11_readText cX11_readText 3 (some .int) 9 [.ref 239] S (f_X11_readText S) :=
  ctI_of (by decide +kernel) rfl (Nat.le_of_ble_eq_true rfl) (by simp [Value.category]) z1len fun E F R hra hlk => b_X11_readText ⟨F, R, hra, hlk⟩ S
def f_X11_readRow_26 (S : Mm) : Option (Int32 × Mm) :=
  (f_X11_errs (1 : Int32) S).bind fun q_1 =>
  some (q_1.1, q_1.2)
set_option maxRecDepth 20000 in
theorem b_X11_readRow_26 {X : CX} {E : FE} (M0 : MF X E RX11 cX11_readRow 4 4 (some .int)) (S : Mm) : At X E false (mQi X Z1 E) 26 [some (.ref 239), none, none, none] [] Z1 S 0 0 (f_X11_readRow_26 S) := by
  have F := M0.1
  unfold f_X11_readRow_26
  refine a_aload_n F dX11_readRow_26 rfl rfl ?_
  refine a_iconst F dX11_readRow_27 ki_1 ?_
  refine a_callVI F (As := [.int (1 : Int32)]) cfX11 rfl (c_X11_errs X (1 : Int32) S) mw_X11_errs ml_X11_217 im_X11_errs se_X11_errs M0.2.1 (Nat.le_of_ble_eq_true rfl) ⟨Nat.zero_le _, Nat.zero_le _⟩ rfl rfl (Nat.le_of_ble_eq_true rfl) zl_239 zk_239 dX11_readRow_28 rfl (fun q_1 => ?_)
  exact a_iret F M0.2.2.1 M0.2.2.2 dX11_readRow_31
def f_X11_readRow_84 (S : Mm) : Option (Int32 × Mm) :=
  (f_X11_errsAt (1 : Int32) (S 239 17) S).bind fun q_1 =>
  some (q_1.1, q_1.2)
set_option maxRecDepth 20000 in
theorem b_X11_readRow_84 {X : CX} {E : FE} (M0 : MF X E RX11 cX11_readRow 4 4 (some .int)) (S : Mm) : At X E false (mQi X Z1 E) 84 [some (.ref 239), none, none, none] [] Z1 S 0 0 (f_X11_readRow_84 S) := by
  have F := M0.1
  unfold f_X11_readRow_84
  refine a_aload_n F dX11_readRow_84 rfl rfl ?_
  refine a_iconst F dX11_readRow_85 ki_1 ?_
  refine a_aload_n F dX11_readRow_86 rfl rfl ?_
  refine a_getI (k := 17) F cfX11 dX11_readRow_87 fl_X11_180 (by decide) fi_11_17 zl_239 zk_239 ?_
  refine a_callVI F (As := [.int (1 : Int32), .int (S 239 17)]) cfX11 rfl (c_X11_errsAt X (1 : Int32) (S 239 17) S) mw_X11_errsAt ml_X11_266 im_X11_errsAt se_X11_errsAt M0.2.1 (Nat.le_of_ble_eq_true rfl) ⟨Nat.zero_le _, Nat.zero_le _⟩ rfl rfl (Nat.le_of_ble_eq_true rfl) zl_239 zk_239 dX11_readRow_90 rfl (fun q_1 => ?_)
  exact a_iret F M0.2.2.1 M0.2.2.2 dX11_readRow_93
def f_X11_readRow_43b (k43 : Int32 → Int32 → Int32 → Mm → Option (Int32 × Mm)) (x1 x2 x3 : Int32) (S : Mm) : Option (Int32 × Mm) :=
  (f_X11_raw (S 239 17) S).bind fun q_1 =>
  if q_1.1 = (34 : Int32) then (
   (f_X11_isIn x3 (1 : Int32) (28 : Int32) q_1.2).bind fun q_2 =>
   if q_2.1 = 0 then (
    (f_X11_errsAt (2 : Int32) x1 q_2.2).bind fun q_3 =>
    some (q_3.1, q_3.2)
   ) else (
    nm (uM q_2.2 239 17 ((q_2.2 239 17) + (1 : Int32))) fun S_4 =>
    (f_X11_reads S_4).bind fun S_5 =>
    some (x2, S_5)
   )
  ) else (
   (f_X11_raw (q_1.2 239 17) q_1.2).bind fun q_6 =>
   if q_6.1 = (-1 : Int32) then (
    f_X11_readRow_84 q_6.2
   ) else (
    (f_X11_raw (q_6.2 239 17) q_6.2).bind fun q_7 =>
    (f_X11_letterOf q_7.1 q_7.2).bind fun q_8 =>
    if q_8.1 = (-1 : Int32) then (
     f_X11_readRow_84 q_8.2
    ) else (
     (f_X11_raw (q_8.2 239 17) q_8.2).bind fun q_9 =>
     (f_X11_letterOf q_9.1 q_9.2).bind fun q_10 =>
     nm ((x2 ||| (shl (1 : Int32) q_10.1))) fun x2_11 =>
     nm ((x3 + (1 : Int32))) fun x3_12 =>
     nm (uM q_10.2 239 17 ((q_10.2 239 17) + (1 : Int32))) fun S_13 =>
     k43 x1 x2_11 x3_12 S_13
    )
   )
  )
set_option maxRecDepth 20000 in
theorem b_X11_readRow_43b {X : CX} {E : FE} (M0 : MF X E RX11 cX11_readRow 4 4 (some .int)) {k43 : Int32 → Int32 → Int32 → Mm → Option (Int32 × Mm)} (hk43 : ∀ (x1 x2 x3 : Int32) (S : Mm), At X E false (mQi X Z1 E) 43 [some (.ref 239), some (.int x1), some (.int x2), some (.int x3)] [] Z1 S 0 0 (k43 x1 x2 x3 S)) (x1 x2 x3 : Int32) (S : Mm) : At X E false (mQi X Z1 E) 43 [some (.ref 239), some (.int x1), some (.int x2), some (.int x3)] [] Z1 S 0 0 (f_X11_readRow_43b k43 x1 x2 x3 S) := by
  have F := M0.1
  unfold f_X11_readRow_43b
  refine a_aload_n F dX11_readRow_43 rfl rfl ?_
  refine a_aload_n F dX11_readRow_44 rfl rfl ?_
  refine a_getI (k := 17) F cfX11 dX11_readRow_45 fl_X11_180 (by decide) fi_11_17 zl_239 zk_239 ?_
  refine a_callVI F (As := [.int (S 239 17)]) cfX11 rfl (c_X11_raw X (S 239 17) S) mw_X11_raw ml_X11_183 im_X11_raw se_X11_raw M0.2.1 (Nat.le_of_ble_eq_true rfl) ⟨Nat.zero_le _, Nat.zero_le _⟩ rfl rfl (Nat.le_of_ble_eq_true rfl) zl_239 zk_239 dX11_readRow_48 rfl (fun q_1 => ?_)
  refine a_bipush F dX11_readRow_51 kb_34 ?_
  refine a_icmp_eq F 128 dX11_readRow_53 (by decide) ?_ ?_
  · refine a_aload_n F dX11_readRow_128 rfl rfl ?_
    refine a_iload_n F dX11_readRow_129 rfl rfl ?_
    refine a_iconst F dX11_readRow_130 ki_1 ?_
    refine a_bipush F dX11_readRow_131 kb_28 ?_
    refine a_callVI F (As := [.int x3, .int (1 : Int32), .int (28 : Int32)]) cfX11 rfl (c_X11_isIn X x3 (1 : Int32) (28 : Int32) q_1.2) mw_X11_isIn ml_X11_147 im_X11_isIn se_X11_isIn M0.2.1 (Nat.le_of_ble_eq_true rfl) ⟨Nat.zero_le _, Nat.zero_le _⟩ rfl rfl (Nat.le_of_ble_eq_true rfl) zl_239 zk_239 dX11_readRow_133 rfl (fun q_2 => ?_)
    refine a_if_ne F 146 dX11_readRow_136 (by decide) ?_ ?_
    · refine a_aload_n F dX11_readRow_139 rfl rfl ?_
      refine a_iconst F dX11_readRow_140 ki_2 ?_
      refine a_iload_n F dX11_readRow_141 rfl rfl ?_
      refine a_callVI F (As := [.int (2 : Int32), .int x1]) cfX11 rfl (c_X11_errsAt X (2 : Int32) x1 q_2.2) mw_X11_errsAt ml_X11_266 im_X11_errsAt se_X11_errsAt M0.2.1 (Nat.le_of_ble_eq_true rfl) ⟨Nat.zero_le _, Nat.zero_le _⟩ rfl rfl (Nat.le_of_ble_eq_true rfl) zl_239 zk_239 dX11_readRow_142 rfl (fun q_3 => ?_)
      exact a_iret F M0.2.2.1 M0.2.2.2 dX11_readRow_145
    · refine a_aload_n F dX11_readRow_146 rfl rfl ?_
      refine a_aload_n F dX11_readRow_147 rfl rfl ?_
      refine a_getI (k := 17) F cfX11 dX11_readRow_148 fl_X11_180 (by decide) fi_11_17 zl_239 zk_239 ?_
      refine a_iconst F dX11_readRow_151 ki_1 ?_
      refine a_iadd F dX11_readRow_152 ?_
      refine a_putI (k := 17) F cfX11 dX11_readRow_153 fl_X11_180 (by decide) fi_11_17 rfl rfl zl_239 zk_239 ?_
      refine a_nmS (fun S_4 => ?_)
      refine a_aload_n F dX11_readRow_156 rfl rfl ?_
      refine a_callVV F (As := []) cfX11 rfl (c_X11_reads X S_4) mw_X11_reads ml_X11_223 im_X11_reads se_X11_reads M0.2.1 (Nat.le_of_ble_eq_true rfl) ⟨Nat.zero_le _, Nat.zero_le _⟩ rfl rfl (Nat.le_of_ble_eq_true rfl) zl_239 zk_239 dX11_readRow_157 rfl (fun S_5 => ?_)
      refine a_iload_n F dX11_readRow_160 rfl rfl ?_
      exact a_iret F M0.2.2.1 M0.2.2.2 dX11_readRow_161
  · refine a_aload_n F dX11_readRow_56 rfl rfl ?_
    refine a_aload_n F dX11_readRow_57 rfl rfl ?_
    refine a_getI (k := 17) F cfX11 dX11_readRow_58 fl_X11_180 (by decide) fi_11_17 zl_239 zk_239 ?_
    refine a_callVI F (As := [.int (q_1.2 239 17)]) cfX11 rfl (c_X11_raw X (q_1.2 239 17) q_1.2) mw_X11_raw ml_X11_183 im_X11_raw se_X11_raw M0.2.1 (Nat.le_of_ble_eq_true rfl) ⟨Nat.zero_le _, Nat.zero_le _⟩ rfl rfl (Nat.le_of_ble_eq_true rfl) zl_239 zk_239 dX11_readRow_61 rfl (fun q_6 => ?_)
    refine a_iconst F dX11_readRow_64 ki_m1 ?_
    refine a_icmp_eq F 84 dX11_readRow_65 (by decide) ?_ ?_
    · refine a_mask [true, false, false, false] (L' := [some (.ref 239), none, none, none]) rfl rfl ?_
      exact b_X11_readRow_84 M0 q_6.2
    · refine a_aload_n F dX11_readRow_68 rfl rfl ?_
      refine a_aload_n F dX11_readRow_69 rfl rfl ?_
      refine a_aload_n F dX11_readRow_70 rfl rfl ?_
      refine a_getI (k := 17) F cfX11 dX11_readRow_71 fl_X11_180 (by decide) fi_11_17 zl_239 zk_239 ?_
      refine a_callVI F (As := [.int (q_6.2 239 17)]) cfX11 rfl (c_X11_raw X (q_6.2 239 17) q_6.2) mw_X11_raw ml_X11_183 im_X11_raw se_X11_raw M0.2.1 (Nat.le_of_ble_eq_true rfl) ⟨Nat.zero_le _, Nat.zero_le _⟩ rfl rfl (Nat.le_of_ble_eq_true rfl) zl_239 zk_239 dX11_readRow_74 rfl (fun q_7 => ?_)
      refine a_callVI F (As := [.int q_7.1]) cfX11 rfl (c_X11_letterOf X q_7.1 q_7.2) mw_X11_letterOf ml_X11_263 im_X11_letterOf se_X11_letterOf M0.2.1 (Nat.le_of_ble_eq_true rfl) ⟨Nat.zero_le _, Nat.zero_le _⟩ rfl rfl (Nat.le_of_ble_eq_true rfl) zl_239 zk_239 dX11_readRow_77 rfl (fun q_8 => ?_)
      refine a_iconst F dX11_readRow_80 ki_m1 ?_
      refine a_icmp_ne F 94 dX11_readRow_81 (by decide) ?_ ?_
      · refine a_mask [true, false, false, false] (L' := [some (.ref 239), none, none, none]) rfl rfl ?_
        exact b_X11_readRow_84 M0 q_8.2
      · refine a_iload_n F dX11_readRow_94 rfl rfl ?_
        refine a_iconst F dX11_readRow_95 ki_1 ?_
        refine a_aload_n F dX11_readRow_96 rfl rfl ?_
        refine a_aload_n F dX11_readRow_97 rfl rfl ?_
        refine a_aload_n F dX11_readRow_98 rfl rfl ?_
        refine a_getI (k := 17) F cfX11 dX11_readRow_99 fl_X11_180 (by decide) fi_11_17 zl_239 zk_239 ?_
        refine a_callVI F (As := [.int (q_8.2 239 17)]) cfX11 rfl (c_X11_raw X (q_8.2 239 17) q_8.2) mw_X11_raw ml_X11_183 im_X11_raw se_X11_raw M0.2.1 (Nat.le_of_ble_eq_true rfl) ⟨Nat.zero_le _, Nat.zero_le _⟩ rfl rfl (Nat.le_of_ble_eq_true rfl) zl_239 zk_239 dX11_readRow_102 rfl (fun q_9 => ?_)
        refine a_callVI F (As := [.int q_9.1]) cfX11 rfl (c_X11_letterOf X q_9.1 q_9.2) mw_X11_letterOf ml_X11_263 im_X11_letterOf se_X11_letterOf M0.2.1 (Nat.le_of_ble_eq_true rfl) ⟨Nat.zero_le _, Nat.zero_le _⟩ rfl rfl (Nat.le_of_ble_eq_true rfl) zl_239 zk_239 dX11_readRow_105 rfl (fun q_10 => ?_)
        refine a_ishl F dX11_readRow_108 ?_
        refine a_ior F dX11_readRow_109 ?_
        refine a_istore_nN (L' := fun x2_11 => [some (.ref 239), some (.int x1), some (.int x2_11), some (.int x3)]) F dX11_readRow_110 rfl (lt_b rfl) (fun _ => rfl) (fun x2_11 => ?_)
        refine a_iload_n F dX11_readRow_111 rfl rfl ?_
        refine a_iconst F dX11_readRow_112 ki_1 ?_
        refine a_iadd F dX11_readRow_113 ?_
        refine a_istore_nN (L' := fun x3_12 => [some (.ref 239), some (.int x1), some (.int x2_11), some (.int x3_12)]) F dX11_readRow_114 rfl (lt_b rfl) (fun _ => rfl) (fun x3_12 => ?_)
        refine a_aload_n F dX11_readRow_115 rfl rfl ?_
        refine a_aload_n F dX11_readRow_116 rfl rfl ?_
        refine a_getI (k := 17) F cfX11 dX11_readRow_117 fl_X11_180 (by decide) fi_11_17 zl_239 zk_239 ?_
        refine a_iconst F dX11_readRow_120 ki_1 ?_
        refine a_iadd F dX11_readRow_121 ?_
        refine a_putI (k := 17) F cfX11 dX11_readRow_122 fl_X11_180 (by decide) fi_11_17 rfl rfl zl_239 zk_239 ?_
        refine a_nmS (fun S_13 => ?_)
        refine a_goto F 43 dX11_readRow_125 (by decide) ?_
        exact hk43 x1 x2_11 x3_12 S_13
def f_X11_readRow_43 : Nat → Int32 → Int32 → Int32 → Mm → Option (Int32 × Mm) :=
  itr (fun _ _ _ _ => none) (fun k => f_X11_readRow_43b k)
theorem b_X11_readRow_43 {X : CX} {E : FE} (M0 : MF X E RX11 cX11_readRow 4 4 (some .int)) : ∀ (n : Nat) (x1 x2 x3 : Int32) (S : Mm), At X E false (mQi X Z1 E) 43 [some (.ref 239), some (.int x1), some (.int x2), some (.int x3)] [] Z1 S 0 0 (f_X11_readRow_43  n x1 x2 x3 S) := by
  intro n
  induction n with
  | zero => intros; exact a_none
  | succ n ih => intro x1 x2 x3 S; exact b_X11_readRow_43b M0 ih x1 x2 x3 S
def f_X11_readRow (S : Mm) : Option (Int32 × Mm) :=
  nm ((S 239 18)) fun x1_1 =>
  if (S 239 19) = (1 : Int32) then (
   (f_X11_raw (S 239 18) S).bind fun q_2 =>
   if q_2.1 = (34 : Int32) then (
    nm (uM q_2.2 239 17 (x1_1 + (1 : Int32))) fun S_3 =>
    f_X11_readRow_43 FU x1_1 (0 : Int32) (0 : Int32) S_3
   ) else (
    f_X11_readRow_26 q_2.2
   )
  ) else (
   f_X11_readRow_26 S
  )
set_option maxRecDepth 20000 in
theorem b_X11_readRow {X : CX} {E : FE} (M0 : MF X E RX11 cX11_readRow 4 4 (some .int)) (S : Mm) : At X E false (mQi X Z1 E) 0 [some (.ref 239), none, none, none] [] Z1 S 0 0 (f_X11_readRow S) := by
  have F := M0.1
  unfold f_X11_readRow
  refine a_aload_n F dX11_readRow_0 rfl rfl ?_
  refine a_getI (k := 18) F cfX11 dX11_readRow_1 fl_X11_186 (by decide) fi_11_18 zl_239 zk_239 ?_
  refine a_istore_nN (L' := fun x1_1 => [some (.ref 239), some (.int x1_1), none, none]) F dX11_readRow_4 rfl (lt_b rfl) (fun _ => rfl) (fun x1_1 => ?_)
  refine a_aload_n F dX11_readRow_5 rfl rfl ?_
  refine a_getI (k := 19) F cfX11 dX11_readRow_6 fl_X11_189 (by decide) fi_11_19 zl_239 zk_239 ?_
  refine a_iconst F dX11_readRow_9 ki_1 ?_
  refine a_icmp_ne F 26 dX11_readRow_10 (by decide) ?_ ?_
  · refine a_aload_n F dX11_readRow_13 rfl rfl ?_
    refine a_aload_n F dX11_readRow_14 rfl rfl ?_
    refine a_getI (k := 18) F cfX11 dX11_readRow_15 fl_X11_186 (by decide) fi_11_18 zl_239 zk_239 ?_
    refine a_callVI F (As := [.int (S 239 18)]) cfX11 rfl (c_X11_raw X (S 239 18) S) mw_X11_raw ml_X11_183 im_X11_raw se_X11_raw M0.2.1 (Nat.le_of_ble_eq_true rfl) ⟨Nat.zero_le _, Nat.zero_le _⟩ rfl rfl (Nat.le_of_ble_eq_true rfl) zl_239 zk_239 dX11_readRow_18 rfl (fun q_2 => ?_)
    refine a_bipush F dX11_readRow_21 kb_34 ?_
    refine a_icmp_eq F 32 dX11_readRow_23 (by decide) ?_ ?_
    · refine a_iconst F dX11_readRow_32 ki_0 ?_
      refine a_istore_n (L' := [some (.ref 239), some (.int x1_1), some (.int (0 : Int32)), none]) F dX11_readRow_33 rfl (lt_b rfl) rfl ?_
      refine a_iconst F dX11_readRow_34 ki_0 ?_
      refine a_istore_n (L' := [some (.ref 239), some (.int x1_1), some (.int (0 : Int32)), some (.int (0 : Int32))]) F dX11_readRow_35 rfl (lt_b rfl) rfl ?_
      refine a_aload_n F dX11_readRow_36 rfl rfl ?_
      refine a_iload_n F dX11_readRow_37 rfl rfl ?_
      refine a_iconst F dX11_readRow_38 ki_1 ?_
      refine a_iadd F dX11_readRow_39 ?_
      refine a_putI (k := 17) F cfX11 dX11_readRow_40 fl_X11_180 (by decide) fi_11_17 rfl rfl zl_239 zk_239 ?_
      refine a_nmS (fun S_3 => ?_)
      exact b_X11_readRow_43 M0 FU x1_1 (0 : Int32) (0 : Int32) S_3
    · refine a_mask [true, false, false, false] (L' := [some (.ref 239), none, none, none]) rfl rfl ?_
      exact b_X11_readRow_26 M0 q_2.2
  · refine a_mask [true, false, false, false] (L' := [some (.ref 239), none, none, none]) rfl rfl ?_
    exact b_X11_readRow_26 M0 S
theorem c_X11_readRow (X : CX) (S : Mm) : CtI X Z1 yX11_readRow cX11_readRow 4 (some .int) 4 [.ref 239] S (f_X11_readRow S) :=
  ctI_of (by decide +kernel) rfl (Nat.le_of_ble_eq_true rfl) (by simp [Value.category]) z1len fun E F R hra hlk => b_X11_readRow ⟨F, R, hra, hlk⟩ S
def f_X11_readHeir_33 (S : Mm) : Option (Int32 × Mm) :=
  (f_X11_errs (2 : Int32) S).bind fun q_1 =>
  some (q_1.1, q_1.2)
set_option maxRecDepth 20000 in
theorem b_X11_readHeir_33 {X : CX} {E : FE} (M0 : MF X E RX11 cX11_readHeir 3 4 (some .int)) (S : Mm) : At X E false (mQi X Z1 E) 33 [some (.ref 239), none, none] [] Z1 S 0 0 (f_X11_readHeir_33 S) := by
  have F := M0.1
  unfold f_X11_readHeir_33
  refine a_aload_n F dX11_readHeir_33 rfl rfl ?_
  refine a_iconst F dX11_readHeir_34 ki_2 ?_
  refine a_callVI F (As := [.int (2 : Int32)]) cfX11 rfl (c_X11_errs X (2 : Int32) S) mw_X11_errs ml_X11_217 im_X11_errs se_X11_errs M0.2.1 (Nat.le_of_ble_eq_true rfl) ⟨Nat.zero_le _, Nat.zero_le _⟩ rfl rfl (Nat.le_of_ble_eq_true rfl) zl_239 zk_239 dX11_readHeir_35 rfl (fun q_1 => ?_)
  exact a_iret F M0.2.2.1 M0.2.2.2 dX11_readHeir_38
def f_X11_readHeir (p1 : Int32) (S : Mm) : Option (Int32 × Mm) :=
  if (S 239 19) = (3 : Int32) then (
   (f_X11_isPerson (S 239 20) S).bind fun q_1 =>
   if q_1.1 = 0 then (
    f_X11_readHeir_33 q_1.2
   ) else (
    if (q_1.2 239 20) = p1 then (
     f_X11_readHeir_33 q_1.2
    ) else (
     nm ((q_1.2 239 20)) fun x2_2 =>
     (f_X11_reads q_1.2).bind fun S_3 =>
     some (x2_2, S_3)
    )
   )
  ) else (
   (f_X11_errs (1 : Int32) S).bind fun q_4 =>
   some (q_4.1, q_4.2)
  )
set_option maxRecDepth 20000 in
theorem b_X11_readHeir {X : CX} {E : FE} (M0 : MF X E RX11 cX11_readHeir 3 4 (some .int)) (p1 : Int32) (S : Mm) : At X E false (mQi X Z1 E) 0 [some (.ref 239), some (.int p1), none] [] Z1 S 0 0 (f_X11_readHeir p1 S) := by
  have F := M0.1
  unfold f_X11_readHeir
  refine a_aload_n F dX11_readHeir_0 rfl rfl ?_
  refine a_getI (k := 19) F cfX11 dX11_readHeir_1 fl_X11_189 (by decide) fi_11_19 zl_239 zk_239 ?_
  refine a_iconst F dX11_readHeir_4 ki_3 ?_
  refine a_icmp_eq F 14 dX11_readHeir_5 (by decide) ?_ ?_
  · refine a_aload_n F dX11_readHeir_14 rfl rfl ?_
    refine a_aload_n F dX11_readHeir_15 rfl rfl ?_
    refine a_getI (k := 20) F cfX11 dX11_readHeir_16 fl_X11_192 (by decide) fi_11_20 zl_239 zk_239 ?_
    refine a_callVI F (As := [.int (S 239 20)]) cfX11 rfl (c_X11_isPerson X (S 239 20) S) mw_X11_isPerson ml_X11_128 im_X11_isPerson se_X11_isPerson M0.2.1 (Nat.le_of_ble_eq_true rfl) ⟨Nat.zero_le _, Nat.zero_le _⟩ rfl rfl (Nat.le_of_ble_eq_true rfl) zl_239 zk_239 dX11_readHeir_19 rfl (fun q_1 => ?_)
    refine a_if_eq F 33 dX11_readHeir_22 (by decide) ?_ ?_
    · refine a_mask [true, false, false] (L' := [some (.ref 239), none, none]) rfl rfl ?_
      exact b_X11_readHeir_33 M0 q_1.2
    · refine a_aload_n F dX11_readHeir_25 rfl rfl ?_
      refine a_getI (k := 20) F cfX11 dX11_readHeir_26 fl_X11_192 (by decide) fi_11_20 zl_239 zk_239 ?_
      refine a_iload_n F dX11_readHeir_29 rfl rfl ?_
      refine a_icmp_ne F 39 dX11_readHeir_30 (by decide) ?_ ?_
      · refine a_mask [true, false, false] (L' := [some (.ref 239), none, none]) rfl rfl ?_
        exact b_X11_readHeir_33 M0 q_1.2
      · refine a_aload_n F dX11_readHeir_39 rfl rfl ?_
        refine a_getI (k := 20) F cfX11 dX11_readHeir_40 fl_X11_192 (by decide) fi_11_20 zl_239 zk_239 ?_
        refine a_istore_nN (L' := fun x2_2 => [some (.ref 239), some (.int p1), some (.int x2_2)]) F dX11_readHeir_43 rfl (lt_b rfl) (fun _ => rfl) (fun x2_2 => ?_)
        refine a_aload_n F dX11_readHeir_44 rfl rfl ?_
        refine a_callVV F (As := []) cfX11 rfl (c_X11_reads X q_1.2) mw_X11_reads ml_X11_223 im_X11_reads se_X11_reads M0.2.1 (Nat.le_of_ble_eq_true rfl) ⟨Nat.zero_le _, Nat.zero_le _⟩ rfl rfl (Nat.le_of_ble_eq_true rfl) zl_239 zk_239 dX11_readHeir_45 rfl (fun S_3 => ?_)
        refine a_iload_n F dX11_readHeir_48 rfl rfl ?_
        exact a_iret F M0.2.2.1 M0.2.2.2 dX11_readHeir_49
  · refine a_aload_n F dX11_readHeir_8 rfl rfl ?_
    refine a_iconst F dX11_readHeir_9 ki_1 ?_
    refine a_callVI F (As := [.int (1 : Int32)]) cfX11 rfl (c_X11_errs X (1 : Int32) S) mw_X11_errs ml_X11_217 im_X11_errs se_X11_errs M0.2.1 (Nat.le_of_ble_eq_true rfl) ⟨Nat.zero_le _, Nat.zero_le _⟩ rfl rfl (Nat.le_of_ble_eq_true rfl) zl_239 zk_239 dX11_readHeir_10 rfl (fun q_4 => ?_)
    exact a_iret F M0.2.2.1 M0.2.2.2 dX11_readHeir_13
theorem c_X11_readHeir (X : CX) (p1 : Int32) (S : Mm) : CtI X Z1 yX11_readHeir cX11_readHeir 3 (some .int) 4 [.ref 239, .int p1] S (f_X11_readHeir p1 S) :=
  ctI_of (by decide +kernel) rfl (Nat.le_of_ble_eq_true rfl) (by simp [Value.category]) z1len fun E F R hra hlk => b_X11_readHeir ⟨F, R, hra, hlk⟩ p1 S
def f_X11_readLine_119 (S : Mm) : Option (Int32 × Mm) :=
  (f_X11_isSign (59 : Int32) S).bind fun q_1 =>
  if q_1.1 = 0 then (
   (f_X11_errs (1 : Int32) q_1.2).bind fun q_2 =>
   some (q_2.1, q_2.2)
  ) else (
   (f_X11_reads q_1.2).bind fun S_3 =>
   some ((0 : Int32), S_3)
  )
set_option maxRecDepth 20000 in
theorem b_X11_readLine_119 {X : CX} {E : FE} (M0 : MF X E RX11 cX11_readLine 7 5 (some .int)) (S : Mm) : At X E false (mQi X Z1 E) 119 [some (.ref 239), none, none, none, none, none, none] [] Z1 S 0 0 (f_X11_readLine_119 S) := by
  have F := M0.1
  unfold f_X11_readLine_119
  refine a_aload_n F dX11_readLine_119 rfl rfl ?_
  refine a_bipush F dX11_readLine_120 kb_59 ?_
  refine a_callVI F (As := [.int (59 : Int32)]) cfX11 rfl (c_X11_isSign X (59 : Int32) S) mw_X11_isSign ml_X11_230 im_X11_isSign se_X11_isSign M0.2.1 (Nat.le_of_ble_eq_true rfl) ⟨Nat.zero_le _, Nat.zero_le _⟩ rfl rfl (Nat.le_of_ble_eq_true rfl) zl_239 zk_239 dX11_readLine_122 rfl (fun q_1 => ?_)
  refine a_if_ne F 134 dX11_readLine_125 (by decide) ?_ ?_
  · refine a_aload_n F dX11_readLine_128 rfl rfl ?_
    refine a_iconst F dX11_readLine_129 ki_1 ?_
    refine a_callVI F (As := [.int (1 : Int32)]) cfX11 rfl (c_X11_errs X (1 : Int32) q_1.2) mw_X11_errs ml_X11_217 im_X11_errs se_X11_errs M0.2.1 (Nat.le_of_ble_eq_true rfl) ⟨Nat.zero_le _, Nat.zero_le _⟩ rfl rfl (Nat.le_of_ble_eq_true rfl) zl_239 zk_239 dX11_readLine_130 rfl (fun q_2 => ?_)
    exact a_iret F M0.2.2.1 M0.2.2.2 dX11_readLine_133
  · refine a_aload_n F dX11_readLine_134 rfl rfl ?_
    refine a_callVV F (As := []) cfX11 rfl (c_X11_reads X q_1.2) mw_X11_reads ml_X11_223 im_X11_reads se_X11_reads M0.2.1 (Nat.le_of_ble_eq_true rfl) ⟨Nat.zero_le _, Nat.zero_le _⟩ rfl rfl (Nat.le_of_ble_eq_true rfl) zl_239 zk_239 dX11_readLine_135 rfl (fun S_3 => ?_)
    refine a_iconst F dX11_readLine_138 ki_0 ?_
    exact a_iret F M0.2.2.1 M0.2.2.2 dX11_readLine_139
def f_X11_readLine_14 (x1 x2 t0 : Int32) (S : Mm) : Option (Int32 × Mm) :=
  if t0 = (-1 : Int32) then (
   some ((-1 : Int32), S)
  ) else (
   (f_X11_isWord (16 : Int32) S).bind fun q_1 =>
   if q_1.1 = 0 then (
    (f_X11_errs (1 : Int32) q_1.2).bind fun q_2 =>
    some (q_2.1, q_2.2)
   ) else (
    (f_X11_reads q_1.2).bind fun S_3 =>
    (f_X11_readHeir x1 S_3).bind fun q_4 =>
    if q_4.1 = (-1 : Int32) then (
     some ((-1 : Int32), q_4.2)
    ) else (
     gd (inB x2 156 = true) <|
     nm (uM q_4.2 259 (ix x2) t0) fun S_5 =>
     gd (inB x2 156 = true) <|
     nm (uM S_5 260 (ix x2) q_4.1) fun S_6 =>
     gd (inB x2 156 = true) <|
     nm (uM S_6 261 (ix x2) (0 : Int32)) fun S_7 =>
     (f_X11_isWord (17 : Int32) S_7).bind fun q_8 =>
     if q_8.1 = 0 then (
      f_X11_readLine_119 q_8.2
     ) else (
      (f_X11_reads q_8.2).bind fun S_9 =>
      (f_X11_readHeir x1 S_9).bind fun q_10 =>
      if q_10.1 = (-1 : Int32) then (
       some ((-1 : Int32), q_10.2)
      ) else (
       gd (inB x2 156 = true) <|
       nm (uM q_10.2 261 (ix x2) (q_10.1 + (1 : Int32))) fun S_11 =>
       f_X11_readLine_119 S_11
      )
     )
    )
   )
  )
set_option maxRecDepth 20000 in
theorem b_X11_readLine_14 {X : CX} {E : FE} (M0 : MF X E RX11 cX11_readLine 7 5 (some .int)) (x1 x2 t0 : Int32) (S : Mm) : At X E false (mQi X Z1 E) 14 [some (.ref 239), some (.int x1), some (.int x2), none, none, none, none] [.int t0] Z1 S 0 0 (f_X11_readLine_14 x1 x2 t0 S) := by
  have F := M0.1
  unfold f_X11_readLine_14
  refine a_istore (L' := [some (.ref 239), some (.int x1), some (.int x2), none, some (.int t0), none, none]) F dX11_readLine_14 (lt_b rfl) rfl ?_
  refine a_iload F dX11_readLine_16 rfl ?_
  refine a_iconst F dX11_readLine_18 ki_m1 ?_
  refine a_icmp_ne F 24 dX11_readLine_19 (by decide) ?_ ?_
  · refine a_iconst F dX11_readLine_22 ki_m1 ?_
    exact a_iret F M0.2.2.1 M0.2.2.2 dX11_readLine_23
  · refine a_aload_n F dX11_readLine_24 rfl rfl ?_
    refine a_bipush F dX11_readLine_25 kb_16 ?_
    refine a_callVI F (As := [.int (16 : Int32)]) cfX11 rfl (c_X11_isWord X (16 : Int32) S) mw_X11_isWord ml_X11_245 im_X11_isWord se_X11_isWord M0.2.1 (Nat.le_of_ble_eq_true rfl) ⟨Nat.zero_le _, Nat.zero_le _⟩ rfl rfl (Nat.le_of_ble_eq_true rfl) zl_239 zk_239 dX11_readLine_27 rfl (fun q_1 => ?_)
    refine a_if_ne F 39 dX11_readLine_30 (by decide) ?_ ?_
    · refine a_aload_n F dX11_readLine_33 rfl rfl ?_
      refine a_iconst F dX11_readLine_34 ki_1 ?_
      refine a_callVI F (As := [.int (1 : Int32)]) cfX11 rfl (c_X11_errs X (1 : Int32) q_1.2) mw_X11_errs ml_X11_217 im_X11_errs se_X11_errs M0.2.1 (Nat.le_of_ble_eq_true rfl) ⟨Nat.zero_le _, Nat.zero_le _⟩ rfl rfl (Nat.le_of_ble_eq_true rfl) zl_239 zk_239 dX11_readLine_35 rfl (fun q_2 => ?_)
      exact a_iret F M0.2.2.1 M0.2.2.2 dX11_readLine_38
    · refine a_aload_n F dX11_readLine_39 rfl rfl ?_
      refine a_callVV F (As := []) cfX11 rfl (c_X11_reads X q_1.2) mw_X11_reads ml_X11_223 im_X11_reads se_X11_reads M0.2.1 (Nat.le_of_ble_eq_true rfl) ⟨Nat.zero_le _, Nat.zero_le _⟩ rfl rfl (Nat.le_of_ble_eq_true rfl) zl_239 zk_239 dX11_readLine_40 rfl (fun S_3 => ?_)
      refine a_aload_n F dX11_readLine_43 rfl rfl ?_
      refine a_iload_n F dX11_readLine_44 rfl rfl ?_
      refine a_callVI F (As := [.int x1]) cfX11 rfl (c_X11_readHeir X x1 S_3) mw_X11_readHeir ml_X11_273 im_X11_readHeir se_X11_readHeir M0.2.1 (Nat.le_of_ble_eq_true rfl) ⟨Nat.zero_le _, Nat.zero_le _⟩ rfl rfl (Nat.le_of_ble_eq_true rfl) zl_239 zk_239 dX11_readLine_45 rfl (fun q_4 => ?_)
      refine a_istore (L' := [some (.ref 239), some (.int x1), some (.int x2), none, some (.int t0), some (.int q_4.1), none]) F dX11_readLine_48 (lt_b rfl) rfl ?_
      refine a_iload F dX11_readLine_50 rfl ?_
      refine a_iconst F dX11_readLine_52 ki_m1 ?_
      refine a_icmp_ne F 58 dX11_readLine_53 (by decide) ?_ ?_
      · refine a_iconst F dX11_readLine_56 ki_m1 ?_
        exact a_iret F M0.2.2.1 M0.2.2.2 dX11_readLine_57
      · refine a_aload_n F dX11_readLine_58 rfl rfl ?_
        refine a_getR (k := 37) F cfX11 dX11_readLine_59 fl_X11_71 (by decide) fi_11_37 zl_239 zk_239 zr_239_37 ?_
        refine a_iload_n F dX11_readLine_62 rfl rfl ?_
        refine a_iload F dX11_readLine_63 rfl ?_
        refine a_gd (a_iast F dX11_readLine_65 zl_259 zk_259 ?_)
        refine a_nmS (fun S_5 => ?_)
        refine a_aload_n F dX11_readLine_66 rfl rfl ?_
        refine a_getR (k := 38) F cfX11 dX11_readLine_67 fl_X11_74 (by decide) fi_11_38 zl_239 zk_239 zr_239_38 ?_
        refine a_iload_n F dX11_readLine_70 rfl rfl ?_
        refine a_iload F dX11_readLine_71 rfl ?_
        refine a_gd (a_iast F dX11_readLine_73 zl_260 zk_260 ?_)
        refine a_nmS (fun S_6 => ?_)
        refine a_aload_n F dX11_readLine_74 rfl rfl ?_
        refine a_getR (k := 39) F cfX11 dX11_readLine_75 fl_X11_77 (by decide) fi_11_39 zl_239 zk_239 zr_239_39 ?_
        refine a_iload_n F dX11_readLine_78 rfl rfl ?_
        refine a_iconst F dX11_readLine_79 ki_0 ?_
        refine a_gd (a_iast F dX11_readLine_80 zl_261 zk_261 ?_)
        refine a_nmS (fun S_7 => ?_)
        refine a_aload_n F dX11_readLine_81 rfl rfl ?_
        refine a_bipush F dX11_readLine_82 kb_17 ?_
        refine a_callVI F (As := [.int (17 : Int32)]) cfX11 rfl (c_X11_isWord X (17 : Int32) S_7) mw_X11_isWord ml_X11_245 im_X11_isWord se_X11_isWord M0.2.1 (Nat.le_of_ble_eq_true rfl) ⟨Nat.zero_le _, Nat.zero_le _⟩ rfl rfl (Nat.le_of_ble_eq_true rfl) zl_239 zk_239 dX11_readLine_84 rfl (fun q_8 => ?_)
        refine a_if_eq F 119 dX11_readLine_87 (by decide) ?_ ?_
        · refine a_mask [true, false, false, false, false, false, false] (L' := [some (.ref 239), none, none, none, none, none, none]) rfl rfl ?_
          exact b_X11_readLine_119 M0 q_8.2
        · refine a_aload_n F dX11_readLine_90 rfl rfl ?_
          refine a_callVV F (As := []) cfX11 rfl (c_X11_reads X q_8.2) mw_X11_reads ml_X11_223 im_X11_reads se_X11_reads M0.2.1 (Nat.le_of_ble_eq_true rfl) ⟨Nat.zero_le _, Nat.zero_le _⟩ rfl rfl (Nat.le_of_ble_eq_true rfl) zl_239 zk_239 dX11_readLine_91 rfl (fun S_9 => ?_)
          refine a_aload_n F dX11_readLine_94 rfl rfl ?_
          refine a_iload_n F dX11_readLine_95 rfl rfl ?_
          refine a_callVI F (As := [.int x1]) cfX11 rfl (c_X11_readHeir X x1 S_9) mw_X11_readHeir ml_X11_273 im_X11_readHeir se_X11_readHeir M0.2.1 (Nat.le_of_ble_eq_true rfl) ⟨Nat.zero_le _, Nat.zero_le _⟩ rfl rfl (Nat.le_of_ble_eq_true rfl) zl_239 zk_239 dX11_readLine_96 rfl (fun q_10 => ?_)
          refine a_istore (L' := [some (.ref 239), some (.int x1), some (.int x2), none, some (.int t0), some (.int q_4.1), some (.int q_10.1)]) F dX11_readLine_99 (lt_b rfl) rfl ?_
          refine a_iload F dX11_readLine_101 rfl ?_
          refine a_iconst F dX11_readLine_103 ki_m1 ?_
          refine a_icmp_ne F 109 dX11_readLine_104 (by decide) ?_ ?_
          · refine a_iconst F dX11_readLine_107 ki_m1 ?_
            exact a_iret F M0.2.2.1 M0.2.2.2 dX11_readLine_108
          · refine a_aload_n F dX11_readLine_109 rfl rfl ?_
            refine a_getR (k := 39) F cfX11 dX11_readLine_110 fl_X11_77 (by decide) fi_11_39 zl_239 zk_239 zr_239_39 ?_
            refine a_iload_n F dX11_readLine_113 rfl rfl ?_
            refine a_iload F dX11_readLine_114 rfl ?_
            refine a_iconst F dX11_readLine_116 ki_1 ?_
            refine a_iadd F dX11_readLine_117 ?_
            refine a_gd (a_iast F dX11_readLine_118 zl_261 zk_261 ?_)
            refine a_nmS (fun S_11 => ?_)
            refine a_mask [true, false, false, false, false, false, false] (L' := [some (.ref 239), none, none, none, none, none, none]) rfl rfl ?_
            exact b_X11_readLine_119 M0 S_11
def f_X11_readLine (p1 p2 p3 : Int32) (S : Mm) : Option (Int32 × Mm) :=
  if p3 = 0 then (
   (f_X11_readRow S).bind fun q_1 =>
   f_X11_readLine_14 p1 p2 q_1.1 q_1.2
  ) else (
   f_X11_readLine_14 p1 p2 (268435455 : Int32) S
  )
set_option maxRecDepth 20000 in
theorem b_X11_readLine {X : CX} {E : FE} (M0 : MF X E RX11 cX11_readLine 7 5 (some .int)) (p1 p2 p3 : Int32) (S : Mm) : At X E false (mQi X Z1 E) 0 [some (.ref 239), some (.int p1), some (.int p2), some (.int p3), none, none, none] [] Z1 S 0 0 (f_X11_readLine p1 p2 p3 S) := by
  have F := M0.1
  unfold f_X11_readLine
  refine a_iload_n F dX11_readLine_0 rfl rfl ?_
  refine a_if_eq F 10 dX11_readLine_1 (by decide) ?_ ?_
  · refine a_aload_n F dX11_readLine_10 rfl rfl ?_
    refine a_callVI F (As := []) cfX11 rfl (c_X11_readRow X S) mw_X11_readRow ml_X11_270 im_X11_readRow se_X11_readRow M0.2.1 (Nat.le_of_ble_eq_true rfl) ⟨Nat.zero_le _, Nat.zero_le _⟩ rfl rfl (Nat.le_of_ble_eq_true rfl) zl_239 zk_239 dX11_readLine_11 rfl (fun q_1 => ?_)
    refine a_mask [true, true, true, false, false, false, false] (L' := [some (.ref 239), some (.int p1), some (.int p2), none, none, none, none]) rfl rfl ?_
    exact b_X11_readLine_14 M0 p1 p2 q_1.1 q_1.2
  · refine a_ldcw F dX11_readLine_4 con_X11_269 ?_
    refine a_goto F 14 dX11_readLine_7 (by decide) ?_
    refine a_mask [true, true, true, false, false, false, false] (L' := [some (.ref 239), some (.int p1), some (.int p2), none, none, none, none]) rfl rfl ?_
    exact b_X11_readLine_14 M0 p1 p2 (268435455 : Int32) S
theorem c_X11_readLine (X : CX) (p1 p2 p3 : Int32) (S : Mm) : CtI X Z1 yX11_readLine cX11_readLine 7 (some .int) 5 [.ref 239, .int p1, .int p2, .int p3] S (f_X11_readLine p1 p2 p3 S) :=
  ctI_of (by decide +kernel) rfl (Nat.le_of_ble_eq_true rfl) (by simp [Value.category]) z1len fun E F R hra hlk => b_X11_readLine ⟨F, R, hra, hlk⟩ p1 p2 p3 S
def f_X11_readWill_20 (k2 : Int32 → Int32 → Mm → Option (Int32 × Mm)) (x1 x2 : Int32) (S : Mm) : Option (Int32 × Mm) :=
  if x2 = (12 : Int32) then (
   (f_X11_errs (3 : Int32) S).bind fun q_1 =>
   some (q_1.1, q_1.2)
  ) else (
   (f_X11_isWord (18 : Int32) S).bind fun q_2 =>
   (f_X11_reads q_2.2).bind fun S_3 =>
   (f_X11_readLine x1 ((144 : Int32) + x2) q_2.1 S_3).bind fun q_4 =>
   if q_4.1 = (-1 : Int32) then (
    some ((-1 : Int32), q_4.2)
   ) else (
    nm ((x2 + (1 : Int32))) fun x2_5 =>
    k2 x1 x2_5 q_4.2
   )
  )
set_option maxRecDepth 20000 in
theorem b_X11_readWill_20 {X : CX} {E : FE} (M0 : MF X E RX11 cX11_readWill 4 6 (some .int)) {k2 : Int32 → Int32 → Mm → Option (Int32 × Mm)} (hk2 : ∀ (x1 x2 : Int32) (S : Mm), At X E false (mQi X Z1 E) 2 [some (.ref 239), some (.int x1), some (.int x2), none] [] Z1 S 0 0 (k2 x1 x2 S)) (x1 x2 : Int32) (S : Mm) : At X E false (mQi X Z1 E) 20 [some (.ref 239), some (.int x1), some (.int x2), none] [] Z1 S 0 0 (f_X11_readWill_20 k2 x1 x2 S) := by
  have F := M0.1
  unfold f_X11_readWill_20
  refine a_iload_n F dX11_readWill_20 rfl rfl ?_
  refine a_bipush F dX11_readWill_21 kb_12 ?_
  refine a_icmp_ne F 32 dX11_readWill_23 (by decide) ?_ ?_
  · refine a_aload_n F dX11_readWill_26 rfl rfl ?_
    refine a_iconst F dX11_readWill_27 ki_3 ?_
    refine a_callVI F (As := [.int (3 : Int32)]) cfX11 rfl (c_X11_errs X (3 : Int32) S) mw_X11_errs ml_X11_217 im_X11_errs se_X11_errs M0.2.1 (Nat.le_of_ble_eq_true rfl) ⟨Nat.zero_le _, Nat.zero_le _⟩ rfl rfl (Nat.le_of_ble_eq_true rfl) zl_239 zk_239 dX11_readWill_28 rfl (fun q_1 => ?_)
    exact a_iret F M0.2.2.1 M0.2.2.2 dX11_readWill_31
  · refine a_aload_n F dX11_readWill_32 rfl rfl ?_
    refine a_bipush F dX11_readWill_33 kb_18 ?_
    refine a_callVI F (As := [.int (18 : Int32)]) cfX11 rfl (c_X11_isWord X (18 : Int32) S) mw_X11_isWord ml_X11_245 im_X11_isWord se_X11_isWord M0.2.1 (Nat.le_of_ble_eq_true rfl) ⟨Nat.zero_le _, Nat.zero_le _⟩ rfl rfl (Nat.le_of_ble_eq_true rfl) zl_239 zk_239 dX11_readWill_35 rfl (fun q_2 => ?_)
    refine a_istore_n (L' := [some (.ref 239), some (.int x1), some (.int x2), some (.int q_2.1)]) F dX11_readWill_38 rfl (lt_b rfl) rfl ?_
    refine a_aload_n F dX11_readWill_39 rfl rfl ?_
    refine a_callVV F (As := []) cfX11 rfl (c_X11_reads X q_2.2) mw_X11_reads ml_X11_223 im_X11_reads se_X11_reads M0.2.1 (Nat.le_of_ble_eq_true rfl) ⟨Nat.zero_le _, Nat.zero_le _⟩ rfl rfl (Nat.le_of_ble_eq_true rfl) zl_239 zk_239 dX11_readWill_40 rfl (fun S_3 => ?_)
    refine a_aload_n F dX11_readWill_43 rfl rfl ?_
    refine a_iload_n F dX11_readWill_44 rfl rfl ?_
    refine a_sipush F dX11_readWill_45 ks_144 ?_
    refine a_iload_n F dX11_readWill_48 rfl rfl ?_
    refine a_iadd F dX11_readWill_49 ?_
    refine a_iload_n F dX11_readWill_50 rfl rfl ?_
    refine a_callVI F (As := [.int x1, .int ((144 : Int32) + x2), .int q_2.1]) cfX11 rfl (c_X11_readLine X x1 ((144 : Int32) + x2) q_2.1 S_3) mw_X11_readLine ml_X11_276 im_X11_readLine se_X11_readLine M0.2.1 (Nat.le_of_ble_eq_true rfl) ⟨Nat.zero_le _, Nat.zero_le _⟩ rfl rfl (Nat.le_of_ble_eq_true rfl) zl_239 zk_239 dX11_readWill_51 rfl (fun q_4 => ?_)
    refine a_iconst F dX11_readWill_54 ki_m1 ?_
    refine a_icmp_ne F 60 dX11_readWill_55 (by decide) ?_ ?_
    · refine a_iconst F dX11_readWill_58 ki_m1 ?_
      exact a_iret F M0.2.2.1 M0.2.2.2 dX11_readWill_59
    · refine a_iload_n F dX11_readWill_60 rfl rfl ?_
      refine a_iconst F dX11_readWill_61 ki_1 ?_
      refine a_iadd F dX11_readWill_62 ?_
      refine a_istore_nN (L' := fun x2_5 => [some (.ref 239), some (.int x1), some (.int x2_5), some (.int q_2.1)]) F dX11_readWill_63 rfl (lt_b rfl) (fun _ => rfl) (fun x2_5 => ?_)
      refine a_goto F 2 dX11_readWill_64 (by decide) ?_
      refine a_mask [true, true, true, false] (L' := [some (.ref 239), some (.int x1), some (.int x2_5), none]) rfl rfl ?_
      exact hk2 x1 x2_5 q_4.2
def f_X11_readWill_2b (k2 : Int32 → Int32 → Mm → Option (Int32 × Mm)) (x1 x2 : Int32) (S : Mm) : Option (Int32 × Mm) :=
  (f_X11_isWord (15 : Int32) S).bind fun q_1 =>
  if q_1.1 = 0 then (
   (f_X11_isWord (18 : Int32) q_1.2).bind fun q_2 =>
   if q_2.1 = 0 then (
    if (q_2.2 239 19) = 0 then (
     some (x2, q_2.2)
    ) else (
     (f_X11_errs (1 : Int32) q_2.2).bind fun q_3 =>
     some (q_3.1, q_3.2)
    )
   ) else (
    f_X11_readWill_20 k2 x1 x2 q_2.2
   )
  ) else (
   f_X11_readWill_20 k2 x1 x2 q_1.2
  )
set_option maxRecDepth 20000 in
theorem b_X11_readWill_2b {X : CX} {E : FE} (M0 : MF X E RX11 cX11_readWill 4 6 (some .int)) {k2 : Int32 → Int32 → Mm → Option (Int32 × Mm)} (hk2 : ∀ (x1 x2 : Int32) (S : Mm), At X E false (mQi X Z1 E) 2 [some (.ref 239), some (.int x1), some (.int x2), none] [] Z1 S 0 0 (k2 x1 x2 S)) (x1 x2 : Int32) (S : Mm) : At X E false (mQi X Z1 E) 2 [some (.ref 239), some (.int x1), some (.int x2), none] [] Z1 S 0 0 (f_X11_readWill_2b k2 x1 x2 S) := by
  have F := M0.1
  unfold f_X11_readWill_2b
  refine a_aload_n F dX11_readWill_2 rfl rfl ?_
  refine a_bipush F dX11_readWill_3 kb_15 ?_
  refine a_callVI F (As := [.int (15 : Int32)]) cfX11 rfl (c_X11_isWord X (15 : Int32) S) mw_X11_isWord ml_X11_245 im_X11_isWord se_X11_isWord M0.2.1 (Nat.le_of_ble_eq_true rfl) ⟨Nat.zero_le _, Nat.zero_le _⟩ rfl rfl (Nat.le_of_ble_eq_true rfl) zl_239 zk_239 dX11_readWill_5 rfl (fun q_1 => ?_)
  refine a_if_ne F 20 dX11_readWill_8 (by decide) ?_ ?_
  · refine a_aload_n F dX11_readWill_11 rfl rfl ?_
    refine a_bipush F dX11_readWill_12 kb_18 ?_
    refine a_callVI F (As := [.int (18 : Int32)]) cfX11 rfl (c_X11_isWord X (18 : Int32) q_1.2) mw_X11_isWord ml_X11_245 im_X11_isWord se_X11_isWord M0.2.1 (Nat.le_of_ble_eq_true rfl) ⟨Nat.zero_le _, Nat.zero_le _⟩ rfl rfl (Nat.le_of_ble_eq_true rfl) zl_239 zk_239 dX11_readWill_14 rfl (fun q_2 => ?_)
    refine a_if_eq F 67 dX11_readWill_17 (by decide) ?_ ?_
    · refine a_aload_n F dX11_readWill_67 rfl rfl ?_
      refine a_getI (k := 19) F cfX11 dX11_readWill_68 fl_X11_189 (by decide) fi_11_19 zl_239 zk_239 ?_
      refine a_if_ne F 78 dX11_readWill_71 (by decide) ?_ ?_
      · refine a_iload_n F dX11_readWill_74 rfl rfl ?_
        refine a_goto F 83 dX11_readWill_75 (by decide) ?_
        exact a_iret F M0.2.2.1 M0.2.2.2 dX11_readWill_83
      · refine a_aload_n F dX11_readWill_78 rfl rfl ?_
        refine a_iconst F dX11_readWill_79 ki_1 ?_
        refine a_callVI F (As := [.int (1 : Int32)]) cfX11 rfl (c_X11_errs X (1 : Int32) q_2.2) mw_X11_errs ml_X11_217 im_X11_errs se_X11_errs M0.2.1 (Nat.le_of_ble_eq_true rfl) ⟨Nat.zero_le _, Nat.zero_le _⟩ rfl rfl (Nat.le_of_ble_eq_true rfl) zl_239 zk_239 dX11_readWill_80 rfl (fun q_3 => ?_)
        exact a_iret F M0.2.2.1 M0.2.2.2 dX11_readWill_83
    · exact b_X11_readWill_20 M0 hk2 x1 x2 q_2.2
  · exact b_X11_readWill_20 M0 hk2 x1 x2 q_1.2
def f_X11_readWill_2 : Nat → Int32 → Int32 → Mm → Option (Int32 × Mm) :=
  itr (fun _ _ _ => none) (fun k => f_X11_readWill_2b k)
theorem b_X11_readWill_2 {X : CX} {E : FE} (M0 : MF X E RX11 cX11_readWill 4 6 (some .int)) : ∀ (n : Nat) (x1 x2 : Int32) (S : Mm), At X E false (mQi X Z1 E) 2 [some (.ref 239), some (.int x1), some (.int x2), none] [] Z1 S 0 0 (f_X11_readWill_2  n x1 x2 S) := by
  intro n
  induction n with
  | zero => intros; exact a_none
  | succ n ih => intro x1 x2 S; exact b_X11_readWill_2b M0 ih x1 x2 S
def f_X11_readWill (p1 : Int32) (S : Mm) : Option (Int32 × Mm) :=
  f_X11_readWill_2 FU p1 (0 : Int32) S
set_option maxRecDepth 20000 in
theorem b_X11_readWill {X : CX} {E : FE} (M0 : MF X E RX11 cX11_readWill 4 6 (some .int)) (p1 : Int32) (S : Mm) : At X E false (mQi X Z1 E) 0 [some (.ref 239), some (.int p1), none, none] [] Z1 S 0 0 (f_X11_readWill p1 S) := by
  have F := M0.1
  unfold f_X11_readWill
  refine a_iconst F dX11_readWill_0 ki_0 ?_
  refine a_istore_n (L' := [some (.ref 239), some (.int p1), some (.int (0 : Int32)), none]) F dX11_readWill_1 rfl (lt_b rfl) rfl ?_
  exact b_X11_readWill_2 M0 FU p1 (0 : Int32) S
theorem c_X11_readWill (X : CX) (p1 : Int32) (S : Mm) : CtI X Z1 yX11_readWill cX11_readWill 4 (some .int) 6 [.ref 239, .int p1] S (f_X11_readWill p1 S) :=
  ctI_of (by decide +kernel) rfl (Nat.le_of_ble_eq_true rfl) (by simp [Value.category]) z1len fun E F R hra hlk => b_X11_readWill ⟨F, R, hra, hlk⟩ p1 S
def f_X11_readsText (p1 p2 : Int32) (S : Mm) : Option (Int32 × Mm) :=
  if p1 = (2 : Int32) then (
   (f_X11_readDeed S).bind fun q_1 =>
   some (q_1.1, q_1.2)
  ) else (
   (f_X11_reads S).bind fun S_2 =>
   if p1 = 0 then (
    (f_X11_readText S_2).bind fun q_3 =>
    some (q_3.1, q_3.2)
   ) else (
    (f_X11_readWill p2 S_2).bind fun q_4 =>
    some (q_4.1, q_4.2)
   )
  )
set_option maxRecDepth 20000 in
theorem b_X11_readsText {X : CX} {E : FE} (M0 : MF X E RX11 cX11_readsText 3 10 (some .int)) (p1 p2 : Int32) (S : Mm) : At X E false (mQi X Z1 E) 0 [some (.ref 239), some (.int p1), some (.int p2)] [] Z1 S 0 0 (f_X11_readsText p1 p2 S) := by
  have F := M0.1
  unfold f_X11_readsText
  refine a_iload_n F dX11_readsText_0 rfl rfl ?_
  refine a_iconst F dX11_readsText_1 ki_2 ?_
  refine a_icmp_ne F 10 dX11_readsText_2 (by decide) ?_ ?_
  · refine a_aload_n F dX11_readsText_5 rfl rfl ?_
    refine a_callVI F (As := []) cfX11 rfl (c_X11_readDeed X S) mw_X11_readDeed ml_X11_280 im_X11_readDeed se_X11_readDeed M0.2.1 (Nat.le_of_ble_eq_true rfl) ⟨Nat.zero_le _, Nat.zero_le _⟩ rfl rfl (Nat.le_of_ble_eq_true rfl) zl_239 zk_239 dX11_readsText_6 rfl (fun q_1 => ?_)
    exact a_iret F M0.2.2.1 M0.2.2.2 dX11_readsText_9
  · refine a_aload_n F dX11_readsText_10 rfl rfl ?_
    refine a_callVV F (As := []) cfX11 rfl (c_X11_reads X S) mw_X11_reads ml_X11_223 im_X11_reads se_X11_reads M0.2.1 (Nat.le_of_ble_eq_true rfl) ⟨Nat.zero_le _, Nat.zero_le _⟩ rfl rfl (Nat.le_of_ble_eq_true rfl) zl_239 zk_239 dX11_readsText_11 rfl (fun S_2 => ?_)
    refine a_iload_n F dX11_readsText_14 rfl rfl ?_
    refine a_if_ne F 25 dX11_readsText_15 (by decide) ?_ ?_
    · refine a_aload_n F dX11_readsText_18 rfl rfl ?_
      refine a_callVI F (As := []) cfX11 rfl (c_X11_readText X S_2) mw_X11_readText ml_X11_283 im_X11_readText se_X11_readText M0.2.1 (Nat.le_of_ble_eq_true rfl) ⟨Nat.zero_le _, Nat.zero_le _⟩ rfl rfl (Nat.le_of_ble_eq_true rfl) zl_239 zk_239 dX11_readsText_19 rfl (fun q_3 => ?_)
      refine a_goto F 30 dX11_readsText_22 (by decide) ?_
      exact a_iret F M0.2.2.1 M0.2.2.2 dX11_readsText_30
    · refine a_aload_n F dX11_readsText_25 rfl rfl ?_
      refine a_iload_n F dX11_readsText_26 rfl rfl ?_
      refine a_callVI F (As := [.int p2]) cfX11 rfl (c_X11_readWill X p2 S_2) mw_X11_readWill ml_X11_286 im_X11_readWill se_X11_readWill M0.2.1 (Nat.le_of_ble_eq_true rfl) ⟨Nat.zero_le _, Nat.zero_le _⟩ rfl rfl (Nat.le_of_ble_eq_true rfl) zl_239 zk_239 dX11_readsText_27 rfl (fun q_4 => ?_)
      exact a_iret F M0.2.2.1 M0.2.2.2 dX11_readsText_30
theorem c_X11_readsText (X : CX) (p1 p2 : Int32) (S : Mm) : CtI X Z1 yX11_readsText cX11_readsText 3 (some .int) 10 [.ref 239, .int p1, .int p2] S (f_X11_readsText p1 p2 S) :=
  ctI_of (by decide +kernel) rfl (Nat.le_of_ble_eq_true rfl) (by simp [Value.category]) z1len fun E F R hra hlk => b_X11_readsText ⟨F, R, hra, hlk⟩ p1 p2 S
def f_X11_takesDeed_22b (k22 : Int32 → Int32 → Mm → Option (Int32 × Mm)) (x1 x2 : Int32) (S : Mm) : Option (Int32 × Mm) :=
  if x1 ≤ x2 then (
   gd (inB ((124 : Int32) + (S 239 40)) 148 = true) <|
   nm (uM S 240 (ix ((124 : Int32) + (S 239 40))) (0 : Int32)) fun S_1 =>
   gd (inB ((132 : Int32) + (S_1 239 40)) 148 = true) <|
   nm (uM S_1 240 (ix ((132 : Int32) + (S_1 239 40))) (0 : Int32)) fun S_2 =>
   gd (inB ((140 : Int32) + (S_2 239 40)) 148 = true) <|
   nm (uM S_2 240 (ix ((140 : Int32) + (S_2 239 40))) (0 : Int32)) fun S_3 =>
   nm (uM S_3 239 40 ((S_3 239 40) + (1 : Int32))) fun S_4 =>
   some (((S_4 239 40) - (1 : Int32)), S_4)
  ) else (
   gd (inB ((320 : Int32) + x2) 360 = true) <|
   nm ((S 264 (ix ((320 : Int32) + x2)))) fun x3_5 =>
   gd (inB (((40 : Int32) * (S 239 40)) + x2) 360 = true) <|
   nm (uM S 264 (ix (((40 : Int32) * (S 239 40)) + x2)) x3_5) fun S_6 =>
   gd (inB (S_6 239 40) 8 = true) <|
   gd (inB (S_6 239 40) 8 = true) <|
   nm (uM S_6 263 (ix (S_6 239 40)) ((S_6 263 (ix (S_6 239 40))) ||| (shl (1 : Int32) x3_5))) fun S_7 =>
   nm (x2 + (1 : Int32)) fun x2_8 =>
   k22 x1 x2_8 S_7
  )
set_option maxRecDepth 20000 in
theorem b_X11_takesDeed_22b {X : CX} {E : FE} (M0 : MF X E RX11 cX11_takesDeed 4 1 (some .int)) {k22 : Int32 → Int32 → Mm → Option (Int32 × Mm)} (hk22 : ∀ (x1 x2 : Int32) (S : Mm), At X E false (mQi X Z1 E) 22 [some (.ref 239), some (.int x1), some (.int x2), none] [] Z1 S 0 0 (k22 x1 x2 S)) (x1 x2 : Int32) (S : Mm) : At X E false (mQi X Z1 E) 22 [some (.ref 239), some (.int x1), some (.int x2), none] [] Z1 S 0 0 (f_X11_takesDeed_22b k22 x1 x2 S) := by
  have F := M0.1
  unfold f_X11_takesDeed_22b
  refine a_iload_n F dX11_takesDeed_22 rfl rfl ?_
  refine a_iload_n F dX11_takesDeed_23 rfl rfl ?_
  refine a_icmp_ge F 81 dX11_takesDeed_24 (by decide) ?_ ?_
  · refine a_aload_n F dX11_takesDeed_81 rfl rfl ?_
    refine a_getR (k := 1) F cfX11 dX11_takesDeed_82 fl_X11_7 (by decide) fi_11_1 zl_239 zk_239 zr_239_1 ?_
    refine a_bipush F dX11_takesDeed_85 kb_124 ?_
    refine a_aload_n F dX11_takesDeed_87 rfl rfl ?_
    refine a_getI (k := 40) F cfX11 dX11_takesDeed_88 fl_X11_125 (by decide) fi_11_40 zl_239 zk_239 ?_
    refine a_iadd F dX11_takesDeed_91 ?_
    refine a_iconst F dX11_takesDeed_92 ki_0 ?_
    refine a_gd (a_iast F dX11_takesDeed_93 zl_240 zk_240 ?_)
    refine a_nmS (fun S_1 => ?_)
    refine a_aload_n F dX11_takesDeed_94 rfl rfl ?_
    refine a_getR (k := 1) F cfX11 dX11_takesDeed_95 fl_X11_7 (by decide) fi_11_1 zl_239 zk_239 zr_239_1 ?_
    refine a_sipush F dX11_takesDeed_98 ks_132 ?_
    refine a_aload_n F dX11_takesDeed_101 rfl rfl ?_
    refine a_getI (k := 40) F cfX11 dX11_takesDeed_102 fl_X11_125 (by decide) fi_11_40 zl_239 zk_239 ?_
    refine a_iadd F dX11_takesDeed_105 ?_
    refine a_iconst F dX11_takesDeed_106 ki_0 ?_
    refine a_gd (a_iast F dX11_takesDeed_107 zl_240 zk_240 ?_)
    refine a_nmS (fun S_2 => ?_)
    refine a_aload_n F dX11_takesDeed_108 rfl rfl ?_
    refine a_getR (k := 1) F cfX11 dX11_takesDeed_109 fl_X11_7 (by decide) fi_11_1 zl_239 zk_239 zr_239_1 ?_
    refine a_sipush F dX11_takesDeed_112 ks_140 ?_
    refine a_aload_n F dX11_takesDeed_115 rfl rfl ?_
    refine a_getI (k := 40) F cfX11 dX11_takesDeed_116 fl_X11_125 (by decide) fi_11_40 zl_239 zk_239 ?_
    refine a_iadd F dX11_takesDeed_119 ?_
    refine a_iconst F dX11_takesDeed_120 ki_0 ?_
    refine a_gd (a_iast F dX11_takesDeed_121 zl_240 zk_240 ?_)
    refine a_nmS (fun S_3 => ?_)
    refine a_aload_n F dX11_takesDeed_122 rfl rfl ?_
    refine a_aload_n F dX11_takesDeed_123 rfl rfl ?_
    refine a_getI (k := 40) F cfX11 dX11_takesDeed_124 fl_X11_125 (by decide) fi_11_40 zl_239 zk_239 ?_
    refine a_iconst F dX11_takesDeed_127 ki_1 ?_
    refine a_iadd F dX11_takesDeed_128 ?_
    refine a_putI (k := 40) F cfX11 dX11_takesDeed_129 fl_X11_125 (by decide) fi_11_40 rfl rfl zl_239 zk_239 ?_
    refine a_nmS (fun S_4 => ?_)
    refine a_aload_n F dX11_takesDeed_132 rfl rfl ?_
    refine a_getI (k := 40) F cfX11 dX11_takesDeed_133 fl_X11_125 (by decide) fi_11_40 zl_239 zk_239 ?_
    refine a_iconst F dX11_takesDeed_136 ki_1 ?_
    refine a_isub F dX11_takesDeed_137 ?_
    exact a_iret F M0.2.2.1 M0.2.2.2 dX11_takesDeed_138
  · refine a_aload_n F dX11_takesDeed_27 rfl rfl ?_
    refine a_getR (k := 43) F cfX11 dX11_takesDeed_28 fl_X11_86 (by decide) fi_11_43 zl_239 zk_239 zr_239_43 ?_
    refine a_sipush F dX11_takesDeed_31 ks_320 ?_
    refine a_iload_n F dX11_takesDeed_34 rfl rfl ?_
    refine a_iadd F dX11_takesDeed_35 ?_
    refine a_gd (a_iald F dX11_takesDeed_36 zl_264 zk_264 ?_)
    refine a_istore_nN (L' := fun x3_5 => [some (.ref 239), some (.int x1), some (.int x2), some (.int x3_5)]) F dX11_takesDeed_37 rfl (lt_b rfl) (fun _ => rfl) (fun x3_5 => ?_)
    refine a_aload_n F dX11_takesDeed_38 rfl rfl ?_
    refine a_getR (k := 43) F cfX11 dX11_takesDeed_39 fl_X11_86 (by decide) fi_11_43 zl_239 zk_239 zr_239_43 ?_
    refine a_bipush F dX11_takesDeed_42 kb_40 ?_
    refine a_aload_n F dX11_takesDeed_44 rfl rfl ?_
    refine a_getI (k := 40) F cfX11 dX11_takesDeed_45 fl_X11_125 (by decide) fi_11_40 zl_239 zk_239 ?_
    refine a_imul F dX11_takesDeed_48 ?_
    refine a_iload_n F dX11_takesDeed_49 rfl rfl ?_
    refine a_iadd F dX11_takesDeed_50 ?_
    refine a_iload_n F dX11_takesDeed_51 rfl rfl ?_
    refine a_gd (a_iast F dX11_takesDeed_52 zl_264 zk_264 ?_)
    refine a_nmS (fun S_6 => ?_)
    refine a_aload_n F dX11_takesDeed_53 rfl rfl ?_
    refine a_getR (k := 42) F cfX11 dX11_takesDeed_54 fl_X11_83 (by decide) fi_11_42 zl_239 zk_239 zr_239_42 ?_
    refine a_aload_n F dX11_takesDeed_57 rfl rfl ?_
    refine a_getI (k := 40) F cfX11 dX11_takesDeed_58 fl_X11_125 (by decide) fi_11_40 zl_239 zk_239 ?_
    refine a_aload_n F dX11_takesDeed_61 rfl rfl ?_
    refine a_getR (k := 42) F cfX11 dX11_takesDeed_62 fl_X11_83 (by decide) fi_11_42 zl_239 zk_239 zr_239_42 ?_
    refine a_aload_n F dX11_takesDeed_65 rfl rfl ?_
    refine a_getI (k := 40) F cfX11 dX11_takesDeed_66 fl_X11_125 (by decide) fi_11_40 zl_239 zk_239 ?_
    refine a_gd (a_iald F dX11_takesDeed_69 zl_263 zk_263 ?_)
    refine a_iconst F dX11_takesDeed_70 ki_1 ?_
    refine a_iload_n F dX11_takesDeed_71 rfl rfl ?_
    refine a_ishl F dX11_takesDeed_72 ?_
    refine a_ior F dX11_takesDeed_73 ?_
    refine a_gd (a_iast F dX11_takesDeed_74 zl_263 zk_263 ?_)
    refine a_nmS (fun S_7 => ?_)
    refine a_iincN (L' := fun x2_8 => [some (.ref 239), some (.int x1), some (.int x2_8), some (.int x3_5)]) F dX11_takesDeed_75 rfl ki_1 (lt_b rfl) (fun _ => rfl) (fun x2_8 => ?_)
    refine a_goto F 22 dX11_takesDeed_78 (by decide) ?_
    refine a_mask [true, true, true, false] (L' := [some (.ref 239), some (.int x1), some (.int x2_8), none]) rfl rfl ?_
    exact hk22 x1 x2_8 S_7
def f_X11_takesDeed_22 : Nat → Int32 → Int32 → Mm → Option (Int32 × Mm) :=
  itr (fun _ _ _ => none) (fun k => f_X11_takesDeed_22b k)
theorem b_X11_takesDeed_22 {X : CX} {E : FE} (M0 : MF X E RX11 cX11_takesDeed 4 1 (some .int)) : ∀ (n : Nat) (x1 x2 : Int32) (S : Mm), At X E false (mQi X Z1 E) 22 [some (.ref 239), some (.int x1), some (.int x2), none] [] Z1 S 0 0 (f_X11_takesDeed_22  n x1 x2 S) := by
  intro n
  induction n with
  | zero => intros; exact a_none
  | succ n ih => intro x1 x2 S; exact b_X11_takesDeed_22b M0 ih x1 x2 S
def f_X11_takesDeed (p1 : Int32) (S : Mm) : Option (Int32 × Mm) :=
  gd (inB (S 239 40) 8 = true) <|
  nm (uM S 262 (ix (S 239 40)) p1) fun S_1 =>
  gd (inB (S_1 239 40) 8 = true) <|
  nm (uM S_1 263 (ix (S_1 239 40)) (0 : Int32)) fun S_2 =>
  f_X11_takesDeed_22 FU p1 (0 : Int32) S_2
set_option maxRecDepth 20000 in
theorem b_X11_takesDeed {X : CX} {E : FE} (M0 : MF X E RX11 cX11_takesDeed 4 1 (some .int)) (p1 : Int32) (S : Mm) : At X E false (mQi X Z1 E) 0 [some (.ref 239), some (.int p1), none, none] [] Z1 S 0 0 (f_X11_takesDeed p1 S) := by
  have F := M0.1
  unfold f_X11_takesDeed
  refine a_aload_n F dX11_takesDeed_0 rfl rfl ?_
  refine a_getR (k := 41) F cfX11 dX11_takesDeed_1 fl_X11_80 (by decide) fi_11_41 zl_239 zk_239 zr_239_41 ?_
  refine a_aload_n F dX11_takesDeed_4 rfl rfl ?_
  refine a_getI (k := 40) F cfX11 dX11_takesDeed_5 fl_X11_125 (by decide) fi_11_40 zl_239 zk_239 ?_
  refine a_iload_n F dX11_takesDeed_8 rfl rfl ?_
  refine a_gd (a_iast F dX11_takesDeed_9 zl_262 zk_262 ?_)
  refine a_nmS (fun S_1 => ?_)
  refine a_aload_n F dX11_takesDeed_10 rfl rfl ?_
  refine a_getR (k := 42) F cfX11 dX11_takesDeed_11 fl_X11_83 (by decide) fi_11_42 zl_239 zk_239 zr_239_42 ?_
  refine a_aload_n F dX11_takesDeed_14 rfl rfl ?_
  refine a_getI (k := 40) F cfX11 dX11_takesDeed_15 fl_X11_125 (by decide) fi_11_40 zl_239 zk_239 ?_
  refine a_iconst F dX11_takesDeed_18 ki_0 ?_
  refine a_gd (a_iast F dX11_takesDeed_19 zl_263 zk_263 ?_)
  refine a_nmS (fun S_2 => ?_)
  refine a_iconst F dX11_takesDeed_20 ki_0 ?_
  refine a_istore_n (L' := [some (.ref 239), some (.int p1), some (.int (0 : Int32)), none]) F dX11_takesDeed_21 rfl (lt_b rfl) rfl ?_
  exact b_X11_takesDeed_22 M0 FU p1 (0 : Int32) S_2
theorem c_X11_takesDeed (X : CX) (p1 : Int32) (S : Mm) : CtI X Z1 yX11_takesDeed cX11_takesDeed 4 (some .int) 1 [.ref 239, .int p1] S (f_X11_takesDeed p1 S) :=
  ctI_of (by decide +kernel) rfl (Nat.le_of_ble_eq_true rfl) (by simp [Value.category]) z1len fun E F R hra hlk => b_X11_takesDeed ⟨F, R, hra, hlk⟩ p1 S
def f_X11_takesLaw_60b (k60 : Int32 → Int32 → Mm → Option Mm) (x1 x2 : Int32) (S : Mm) : Option Mm :=
  if (S 239 28) ≤ x2 then (
   nm (uM S 239 22 x1) fun S_1 =>
   some S_1
  ) else (
   gd (inB ((400 : Int32) + x2) 800 = true) <|
   gd (inB x2 800 = true) <|
   nm (uM S 255 (ix x2) (S 255 (ix ((400 : Int32) + x2)))) fun S_2 =>
   gd (inB ((400 : Int32) + x2) 800 = true) <|
   gd (inB x2 800 = true) <|
   nm (uM S_2 256 (ix x2) (S_2 256 (ix ((400 : Int32) + x2)))) fun S_3 =>
   nm (x2 + (1 : Int32)) fun x2_4 =>
   k60 x1 x2_4 S_3
  )
set_option maxRecDepth 20000 in
theorem b_X11_takesLaw_60b {X : CX} {E : FE} (M0 : MF X E RX11 cX11_takesLaw 3 1 none) {k60 : Int32 → Int32 → Mm → Option Mm} (hk60 : ∀ (x1 x2 : Int32) (S : Mm), At X E false (mQv X Z1 E) 60 [some (.ref 239), some (.int x1), some (.int x2)] [] Z1 S 0 0 (k60 x1 x2 S)) (x1 x2 : Int32) (S : Mm) : At X E false (mQv X Z1 E) 60 [some (.ref 239), some (.int x1), some (.int x2)] [] Z1 S 0 0 (f_X11_takesLaw_60b k60 x1 x2 S) := by
  have F := M0.1
  unfold f_X11_takesLaw_60b
  refine a_iload_n F dX11_takesLaw_60 rfl rfl ?_
  refine a_aload_n F dX11_takesLaw_61 rfl rfl ?_
  refine a_getI (k := 28) F cfX11 dX11_takesLaw_62 fl_X11_214 (by decide) fi_11_28 zl_239 zk_239 ?_
  refine a_icmp_ge F 106 dX11_takesLaw_65 (by decide) ?_ ?_
  · refine a_aload_n F dX11_takesLaw_106 rfl rfl ?_
    refine a_iload_n F dX11_takesLaw_107 rfl rfl ?_
    refine a_putI (k := 22) F cfX11 dX11_takesLaw_108 fl_X11_260 (by decide) fi_11_22 rfl rfl zl_239 zk_239 ?_
    refine a_nmS (fun S_1 => ?_)
    exact a_vret F M0.2.2.1 M0.2.2.2 dX11_takesLaw_111
  · refine a_aload_n F dX11_takesLaw_68 rfl rfl ?_
    refine a_getR (k := 26) F cfX11 dX11_takesLaw_69 fl_X11_55 (by decide) fi_11_26 zl_239 zk_239 zr_239_26 ?_
    refine a_iload_n F dX11_takesLaw_72 rfl rfl ?_
    refine a_aload_n F dX11_takesLaw_73 rfl rfl ?_
    refine a_getR (k := 26) F cfX11 dX11_takesLaw_74 fl_X11_55 (by decide) fi_11_26 zl_239 zk_239 zr_239_26 ?_
    refine a_sipush F dX11_takesLaw_77 ks_400 ?_
    refine a_iload_n F dX11_takesLaw_80 rfl rfl ?_
    refine a_iadd F dX11_takesLaw_81 ?_
    refine a_gd (a_iald F dX11_takesLaw_82 zl_255 zk_255 ?_)
    refine a_gd (a_iast F dX11_takesLaw_83 zl_255 zk_255 ?_)
    refine a_nmS (fun S_2 => ?_)
    refine a_aload_n F dX11_takesLaw_84 rfl rfl ?_
    refine a_getR (k := 27) F cfX11 dX11_takesLaw_85 fl_X11_58 (by decide) fi_11_27 zl_239 zk_239 zr_239_27 ?_
    refine a_iload_n F dX11_takesLaw_88 rfl rfl ?_
    refine a_aload_n F dX11_takesLaw_89 rfl rfl ?_
    refine a_getR (k := 27) F cfX11 dX11_takesLaw_90 fl_X11_58 (by decide) fi_11_27 zl_239 zk_239 zr_239_27 ?_
    refine a_sipush F dX11_takesLaw_93 ks_400 ?_
    refine a_iload_n F dX11_takesLaw_96 rfl rfl ?_
    refine a_iadd F dX11_takesLaw_97 ?_
    refine a_gd (a_iald F dX11_takesLaw_98 zl_256 zk_256 ?_)
    refine a_gd (a_iast F dX11_takesLaw_99 zl_256 zk_256 ?_)
    refine a_nmS (fun S_3 => ?_)
    refine a_iincN (L' := fun x2_4 => [some (.ref 239), some (.int x1), some (.int x2_4)]) F dX11_takesLaw_100 rfl ki_1 (lt_b rfl) (fun _ => rfl) (fun x2_4 => ?_)
    refine a_goto F 60 dX11_takesLaw_103 (by decide) ?_
    exact hk60 x1 x2_4 S_3
def f_X11_takesLaw_60 : Nat → Int32 → Int32 → Mm → Option Mm :=
  itr (fun _ _ _ => none) (fun k => f_X11_takesLaw_60b k)
theorem b_X11_takesLaw_60 {X : CX} {E : FE} (M0 : MF X E RX11 cX11_takesLaw 3 1 none) : ∀ (n : Nat) (x1 x2 : Int32) (S : Mm), At X E false (mQv X Z1 E) 60 [some (.ref 239), some (.int x1), some (.int x2)] [] Z1 S 0 0 (f_X11_takesLaw_60  n x1 x2 S) := by
  intro n
  induction n with
  | zero => intros; exact a_none
  | succ n ih => intro x1 x2 S; exact b_X11_takesLaw_60b M0 ih x1 x2 S
def f_X11_takesLaw_2b (k2 : Int32 → Int32 → Mm → Option Mm) (x1 x2 : Int32) (S : Mm) : Option Mm :=
  if x1 ≤ x2 then (
   f_X11_takesLaw_60 FU x1 (0 : Int32) S
  ) else (
   gd (inB ((16 : Int32) + x2) 32 = true) <|
   gd (inB x2 32 = true) <|
   nm (uM S 252 (ix x2) (S 252 (ix ((16 : Int32) + x2)))) fun S_1 =>
   gd (inB ((16 : Int32) + x2) 32 = true) <|
   gd (inB x2 32 = true) <|
   nm (uM S_1 253 (ix x2) (S_1 253 (ix ((16 : Int32) + x2)))) fun S_2 =>
   gd (inB ((16 : Int32) + x2) 32 = true) <|
   gd (inB x2 32 = true) <|
   nm (uM S_2 254 (ix x2) (S_2 254 (ix ((16 : Int32) + x2)))) fun S_3 =>
   nm (x2 + (1 : Int32)) fun x2_4 =>
   k2 x1 x2_4 S_3
  )
set_option maxRecDepth 20000 in
theorem b_X11_takesLaw_2b {X : CX} {E : FE} (M0 : MF X E RX11 cX11_takesLaw 3 1 none) {k2 : Int32 → Int32 → Mm → Option Mm} (hk2 : ∀ (x1 x2 : Int32) (S : Mm), At X E false (mQv X Z1 E) 2 [some (.ref 239), some (.int x1), some (.int x2)] [] Z1 S 0 0 (k2 x1 x2 S)) (x1 x2 : Int32) (S : Mm) : At X E false (mQv X Z1 E) 2 [some (.ref 239), some (.int x1), some (.int x2)] [] Z1 S 0 0 (f_X11_takesLaw_2b k2 x1 x2 S) := by
  have F := M0.1
  unfold f_X11_takesLaw_2b
  refine a_iload_n F dX11_takesLaw_2 rfl rfl ?_
  refine a_iload_n F dX11_takesLaw_3 rfl rfl ?_
  refine a_icmp_ge F 58 dX11_takesLaw_4 (by decide) ?_ ?_
  · refine a_iconst F dX11_takesLaw_58 ki_0 ?_
    refine a_istore_n (L' := [some (.ref 239), some (.int x1), some (.int (0 : Int32))]) F dX11_takesLaw_59 rfl (lt_b rfl) rfl ?_
    exact b_X11_takesLaw_60 M0 FU x1 (0 : Int32) S
  · refine a_aload_n F dX11_takesLaw_7 rfl rfl ?_
    refine a_getR (k := 23) F cfX11 dX11_takesLaw_8 fl_X11_46 (by decide) fi_11_23 zl_239 zk_239 zr_239_23 ?_
    refine a_iload_n F dX11_takesLaw_11 rfl rfl ?_
    refine a_aload_n F dX11_takesLaw_12 rfl rfl ?_
    refine a_getR (k := 23) F cfX11 dX11_takesLaw_13 fl_X11_46 (by decide) fi_11_23 zl_239 zk_239 zr_239_23 ?_
    refine a_bipush F dX11_takesLaw_16 kb_16 ?_
    refine a_iload_n F dX11_takesLaw_18 rfl rfl ?_
    refine a_iadd F dX11_takesLaw_19 ?_
    refine a_gd (a_iald F dX11_takesLaw_20 zl_252 zk_252 ?_)
    refine a_gd (a_iast F dX11_takesLaw_21 zl_252 zk_252 ?_)
    refine a_nmS (fun S_1 => ?_)
    refine a_aload_n F dX11_takesLaw_22 rfl rfl ?_
    refine a_getR (k := 24) F cfX11 dX11_takesLaw_23 fl_X11_49 (by decide) fi_11_24 zl_239 zk_239 zr_239_24 ?_
    refine a_iload_n F dX11_takesLaw_26 rfl rfl ?_
    refine a_aload_n F dX11_takesLaw_27 rfl rfl ?_
    refine a_getR (k := 24) F cfX11 dX11_takesLaw_28 fl_X11_49 (by decide) fi_11_24 zl_239 zk_239 zr_239_24 ?_
    refine a_bipush F dX11_takesLaw_31 kb_16 ?_
    refine a_iload_n F dX11_takesLaw_33 rfl rfl ?_
    refine a_iadd F dX11_takesLaw_34 ?_
    refine a_gd (a_iald F dX11_takesLaw_35 zl_253 zk_253 ?_)
    refine a_gd (a_iast F dX11_takesLaw_36 zl_253 zk_253 ?_)
    refine a_nmS (fun S_2 => ?_)
    refine a_aload_n F dX11_takesLaw_37 rfl rfl ?_
    refine a_getR (k := 25) F cfX11 dX11_takesLaw_38 fl_X11_52 (by decide) fi_11_25 zl_239 zk_239 zr_239_25 ?_
    refine a_iload_n F dX11_takesLaw_41 rfl rfl ?_
    refine a_aload_n F dX11_takesLaw_42 rfl rfl ?_
    refine a_getR (k := 25) F cfX11 dX11_takesLaw_43 fl_X11_52 (by decide) fi_11_25 zl_239 zk_239 zr_239_25 ?_
    refine a_bipush F dX11_takesLaw_46 kb_16 ?_
    refine a_iload_n F dX11_takesLaw_48 rfl rfl ?_
    refine a_iadd F dX11_takesLaw_49 ?_
    refine a_gd (a_iald F dX11_takesLaw_50 zl_254 zk_254 ?_)
    refine a_gd (a_iast F dX11_takesLaw_51 zl_254 zk_254 ?_)
    refine a_nmS (fun S_3 => ?_)
    refine a_iincN (L' := fun x2_4 => [some (.ref 239), some (.int x1), some (.int x2_4)]) F dX11_takesLaw_52 rfl ki_1 (lt_b rfl) (fun _ => rfl) (fun x2_4 => ?_)
    refine a_goto F 2 dX11_takesLaw_55 (by decide) ?_
    exact hk2 x1 x2_4 S_3
def f_X11_takesLaw_2 : Nat → Int32 → Int32 → Mm → Option Mm :=
  itr (fun _ _ _ => none) (fun k => f_X11_takesLaw_2b k)
theorem b_X11_takesLaw_2 {X : CX} {E : FE} (M0 : MF X E RX11 cX11_takesLaw 3 1 none) : ∀ (n : Nat) (x1 x2 : Int32) (S : Mm), At X E false (mQv X Z1 E) 2 [some (.ref 239), some (.int x1), some (.int x2)] [] Z1 S 0 0 (f_X11_takesLaw_2  n x1 x2 S) := by
  intro n
  induction n with
  | zero => intros; exact a_none
  | succ n ih => intro x1 x2 S; exact b_X11_takesLaw_2b M0 ih x1 x2 S
def f_X11_takesLaw (p1 : Int32) (S : Mm) : Option Mm :=
  f_X11_takesLaw_2 FU p1 (0 : Int32) S
set_option maxRecDepth 20000 in
theorem b_X11_takesLaw {X : CX} {E : FE} (M0 : MF X E RX11 cX11_takesLaw 3 1 none) (p1 : Int32) (S : Mm) : At X E false (mQv X Z1 E) 0 [some (.ref 239), some (.int p1), none] [] Z1 S 0 0 (f_X11_takesLaw p1 S) := by
  have F := M0.1
  unfold f_X11_takesLaw
  refine a_iconst F dX11_takesLaw_0 ki_0 ?_
  refine a_istore_n (L' := [some (.ref 239), some (.int p1), some (.int (0 : Int32))]) F dX11_takesLaw_1 rfl (lt_b rfl) rfl ?_
  exact b_X11_takesLaw_2 M0 FU p1 (0 : Int32) S
theorem c_X11_takesLaw (X : CX) (p1 : Int32) (S : Mm) : CtV X Z1 yX11_takesLaw cX11_takesLaw 3 1 [.ref 239, .int p1] S (f_X11_takesLaw p1 S) :=
  ctV_of (by decide +kernel) rfl (Nat.le_of_ble_eq_true rfl) (by simp [Value.category]) z1len fun E F R hra hlk => b_X11_takesLaw ⟨F, R, hra, hlk⟩ p1 S
def f_X11_takesWill_2b (k2 : Int32 → Int32 → Int32 → Mm → Option Mm) (x1 x2 x3 : Int32) (S : Mm) : Option Mm :=
  if x2 ≤ x3 then (
   gd (inB x1 12 = true) <|
   nm (uM S 258 (ix x1) x2) fun S_1 =>
   some S_1
  ) else (
   gd (inB ((144 : Int32) + x3) 156 = true) <|
   gd (inB (((12 : Int32) * x1) + x3) 156 = true) <|
   nm (uM S 259 (ix (((12 : Int32) * x1) + x3)) (S 259 (ix ((144 : Int32) + x3)))) fun S_2 =>
   gd (inB ((144 : Int32) + x3) 156 = true) <|
   gd (inB (((12 : Int32) * x1) + x3) 156 = true) <|
   nm (uM S_2 260 (ix (((12 : Int32) * x1) + x3)) (S_2 260 (ix ((144 : Int32) + x3)))) fun S_3 =>
   gd (inB ((144 : Int32) + x3) 156 = true) <|
   gd (inB (((12 : Int32) * x1) + x3) 156 = true) <|
   nm (uM S_3 261 (ix (((12 : Int32) * x1) + x3)) (S_3 261 (ix ((144 : Int32) + x3)))) fun S_4 =>
   nm (x3 + (1 : Int32)) fun x3_5 =>
   k2 x1 x2 x3_5 S_4
  )
set_option maxRecDepth 20000 in
theorem b_X11_takesWill_2b {X : CX} {E : FE} (M0 : MF X E RX11 cX11_takesWill 4 1 none) {k2 : Int32 → Int32 → Int32 → Mm → Option Mm} (hk2 : ∀ (x1 x2 x3 : Int32) (S : Mm), At X E false (mQv X Z1 E) 2 [some (.ref 239), some (.int x1), some (.int x2), some (.int x3)] [] Z1 S 0 0 (k2 x1 x2 x3 S)) (x1 x2 x3 : Int32) (S : Mm) : At X E false (mQv X Z1 E) 2 [some (.ref 239), some (.int x1), some (.int x2), some (.int x3)] [] Z1 S 0 0 (f_X11_takesWill_2b k2 x1 x2 x3 S) := by
  have F := M0.1
  unfold f_X11_takesWill_2b
  refine a_iload_n F dX11_takesWill_2 rfl rfl ?_
  refine a_iload_n F dX11_takesWill_3 rfl rfl ?_
  refine a_icmp_ge F 76 dX11_takesWill_4 (by decide) ?_ ?_
  · refine a_aload_n F dX11_takesWill_76 rfl rfl ?_
    refine a_getR (k := 36) F cfX11 dX11_takesWill_77 fl_X11_68 (by decide) fi_11_36 zl_239 zk_239 zr_239_36 ?_
    refine a_iload_n F dX11_takesWill_80 rfl rfl ?_
    refine a_iload_n F dX11_takesWill_81 rfl rfl ?_
    refine a_gd (a_iast F dX11_takesWill_82 zl_258 zk_258 ?_)
    refine a_nmS (fun S_1 => ?_)
    exact a_vret F M0.2.2.1 M0.2.2.2 dX11_takesWill_83
  · refine a_aload_n F dX11_takesWill_7 rfl rfl ?_
    refine a_getR (k := 37) F cfX11 dX11_takesWill_8 fl_X11_71 (by decide) fi_11_37 zl_239 zk_239 zr_239_37 ?_
    refine a_bipush F dX11_takesWill_11 kb_12 ?_
    refine a_iload_n F dX11_takesWill_13 rfl rfl ?_
    refine a_imul F dX11_takesWill_14 ?_
    refine a_iload_n F dX11_takesWill_15 rfl rfl ?_
    refine a_iadd F dX11_takesWill_16 ?_
    refine a_aload_n F dX11_takesWill_17 rfl rfl ?_
    refine a_getR (k := 37) F cfX11 dX11_takesWill_18 fl_X11_71 (by decide) fi_11_37 zl_239 zk_239 zr_239_37 ?_
    refine a_sipush F dX11_takesWill_21 ks_144 ?_
    refine a_iload_n F dX11_takesWill_24 rfl rfl ?_
    refine a_iadd F dX11_takesWill_25 ?_
    refine a_gd (a_iald F dX11_takesWill_26 zl_259 zk_259 ?_)
    refine a_gd (a_iast F dX11_takesWill_27 zl_259 zk_259 ?_)
    refine a_nmS (fun S_2 => ?_)
    refine a_aload_n F dX11_takesWill_28 rfl rfl ?_
    refine a_getR (k := 38) F cfX11 dX11_takesWill_29 fl_X11_74 (by decide) fi_11_38 zl_239 zk_239 zr_239_38 ?_
    refine a_bipush F dX11_takesWill_32 kb_12 ?_
    refine a_iload_n F dX11_takesWill_34 rfl rfl ?_
    refine a_imul F dX11_takesWill_35 ?_
    refine a_iload_n F dX11_takesWill_36 rfl rfl ?_
    refine a_iadd F dX11_takesWill_37 ?_
    refine a_aload_n F dX11_takesWill_38 rfl rfl ?_
    refine a_getR (k := 38) F cfX11 dX11_takesWill_39 fl_X11_74 (by decide) fi_11_38 zl_239 zk_239 zr_239_38 ?_
    refine a_sipush F dX11_takesWill_42 ks_144 ?_
    refine a_iload_n F dX11_takesWill_45 rfl rfl ?_
    refine a_iadd F dX11_takesWill_46 ?_
    refine a_gd (a_iald F dX11_takesWill_47 zl_260 zk_260 ?_)
    refine a_gd (a_iast F dX11_takesWill_48 zl_260 zk_260 ?_)
    refine a_nmS (fun S_3 => ?_)
    refine a_aload_n F dX11_takesWill_49 rfl rfl ?_
    refine a_getR (k := 39) F cfX11 dX11_takesWill_50 fl_X11_77 (by decide) fi_11_39 zl_239 zk_239 zr_239_39 ?_
    refine a_bipush F dX11_takesWill_53 kb_12 ?_
    refine a_iload_n F dX11_takesWill_55 rfl rfl ?_
    refine a_imul F dX11_takesWill_56 ?_
    refine a_iload_n F dX11_takesWill_57 rfl rfl ?_
    refine a_iadd F dX11_takesWill_58 ?_
    refine a_aload_n F dX11_takesWill_59 rfl rfl ?_
    refine a_getR (k := 39) F cfX11 dX11_takesWill_60 fl_X11_77 (by decide) fi_11_39 zl_239 zk_239 zr_239_39 ?_
    refine a_sipush F dX11_takesWill_63 ks_144 ?_
    refine a_iload_n F dX11_takesWill_66 rfl rfl ?_
    refine a_iadd F dX11_takesWill_67 ?_
    refine a_gd (a_iald F dX11_takesWill_68 zl_261 zk_261 ?_)
    refine a_gd (a_iast F dX11_takesWill_69 zl_261 zk_261 ?_)
    refine a_nmS (fun S_4 => ?_)
    refine a_iincN (L' := fun x3_5 => [some (.ref 239), some (.int x1), some (.int x2), some (.int x3_5)]) F dX11_takesWill_70 rfl ki_1 (lt_b rfl) (fun _ => rfl) (fun x3_5 => ?_)
    refine a_goto F 2 dX11_takesWill_73 (by decide) ?_
    exact hk2 x1 x2 x3_5 S_4
def f_X11_takesWill_2 : Nat → Int32 → Int32 → Int32 → Mm → Option Mm :=
  itr (fun _ _ _ _ => none) (fun k => f_X11_takesWill_2b k)
theorem b_X11_takesWill_2 {X : CX} {E : FE} (M0 : MF X E RX11 cX11_takesWill 4 1 none) : ∀ (n : Nat) (x1 x2 x3 : Int32) (S : Mm), At X E false (mQv X Z1 E) 2 [some (.ref 239), some (.int x1), some (.int x2), some (.int x3)] [] Z1 S 0 0 (f_X11_takesWill_2  n x1 x2 x3 S) := by
  intro n
  induction n with
  | zero => intros; exact a_none
  | succ n ih => intro x1 x2 x3 S; exact b_X11_takesWill_2b M0 ih x1 x2 x3 S
def f_X11_takesWill (p1 p2 : Int32) (S : Mm) : Option Mm :=
  f_X11_takesWill_2 FU p1 p2 (0 : Int32) S
set_option maxRecDepth 20000 in
theorem b_X11_takesWill {X : CX} {E : FE} (M0 : MF X E RX11 cX11_takesWill 4 1 none) (p1 p2 : Int32) (S : Mm) : At X E false (mQv X Z1 E) 0 [some (.ref 239), some (.int p1), some (.int p2), none] [] Z1 S 0 0 (f_X11_takesWill p1 p2 S) := by
  have F := M0.1
  unfold f_X11_takesWill
  refine a_iconst F dX11_takesWill_0 ki_0 ?_
  refine a_istore_n (L' := [some (.ref 239), some (.int p1), some (.int p2), some (.int (0 : Int32))]) F dX11_takesWill_1 rfl (lt_b rfl) rfl ?_
  exact b_X11_takesWill_2 M0 FU p1 p2 (0 : Int32) S
theorem c_X11_takesWill (X : CX) (p1 p2 : Int32) (S : Mm) : CtV X Z1 yX11_takesWill cX11_takesWill 4 1 [.ref 239, .int p1, .int p2] S (f_X11_takesWill p1 p2 S) :=
  ctV_of (by decide +kernel) rfl (Nat.le_of_ble_eq_true rfl) (by simp [Value.category]) z1len fun E F R hra hlk => b_X11_takesWill ⟨F, R, hra, hlk⟩ p1 p2 S
def f_X11_text_69 (x1 x2 x3 : Int32) (S : Mm) : Option (Int32 × Mm) :=
  nm (uM S 239 16 (0 : Int32)) fun S_1 =>
  if x3 = (-1 : Int32) then (
   some ((-1 : Int32), S_1)
  ) else (
   if x1 = (2 : Int32) then (
    (f_X11_takesDeed x3 S_1).bind fun q_2 =>
    some (q_2.1, q_2.2)
   ) else (
    if x1 = 0 then (
     (f_X11_takesLaw x3 S_1).bind fun S_3 =>
     some (x3, S_3)
    ) else (
     (f_X11_takesWill x2 x3 S_1).bind fun S_4 =>
     some (x3, S_4)
    )
   )
  )
set_option maxRecDepth 20000 in
theorem b_X11_text_69 {X : CX} {E : FE} (M0 : MF X E RX11 cX11_text 4 11 (some .int)) (x1 x2 x3 : Int32) (S : Mm) : At X E false (mQi X Z1 E) 69 [some (.ref 239), some (.int x1), some (.int x2), some (.int x3)] [] Z1 S 0 0 (f_X11_text_69 x1 x2 x3 S) := by
  have F := M0.1
  unfold f_X11_text_69
  refine a_aload_n F dX11_text_69 rfl rfl ?_
  refine a_iconst F dX11_text_70 ki_0 ?_
  refine a_putI (k := 16) F cfX11 dX11_text_71 fl_X11_174 (by decide) fi_11_16 rfl rfl zl_239 zk_239 ?_
  refine a_nmS (fun S_1 => ?_)
  refine a_iload_n F dX11_text_74 rfl rfl ?_
  refine a_iconst F dX11_text_75 ki_m1 ?_
  refine a_icmp_ne F 81 dX11_text_76 (by decide) ?_ ?_
  · refine a_iconst F dX11_text_79 ki_m1 ?_
    exact a_iret F M0.2.2.1 M0.2.2.2 dX11_text_80
  · refine a_iload_n F dX11_text_81 rfl rfl ?_
    refine a_iconst F dX11_text_82 ki_2 ?_
    refine a_icmp_ne F 92 dX11_text_83 (by decide) ?_ ?_
    · refine a_aload_n F dX11_text_86 rfl rfl ?_
      refine a_iload_n F dX11_text_87 rfl rfl ?_
      refine a_callVI F (As := [.int x3]) cfX11 rfl (c_X11_takesDeed X x3 S_1) mw_X11_takesDeed ml_X11_299 im_X11_takesDeed se_X11_takesDeed M0.2.1 (Nat.le_of_ble_eq_true rfl) ⟨Nat.zero_le _, Nat.zero_le _⟩ rfl rfl (Nat.le_of_ble_eq_true rfl) zl_239 zk_239 dX11_text_88 rfl (fun q_2 => ?_)
      exact a_iret F M0.2.2.1 M0.2.2.2 dX11_text_91
    · refine a_iload_n F dX11_text_92 rfl rfl ?_
      refine a_if_ne F 104 dX11_text_93 (by decide) ?_ ?_
      · refine a_aload_n F dX11_text_96 rfl rfl ?_
        refine a_iload_n F dX11_text_97 rfl rfl ?_
        refine a_callVV F (As := [.int x3]) cfX11 rfl (c_X11_takesLaw X x3 S_1) mw_X11_takesLaw ml_X11_302 im_X11_takesLaw se_X11_takesLaw M0.2.1 (Nat.le_of_ble_eq_true rfl) ⟨Nat.zero_le _, Nat.zero_le _⟩ rfl rfl (Nat.le_of_ble_eq_true rfl) zl_239 zk_239 dX11_text_98 rfl (fun S_3 => ?_)
        refine a_goto F 110 dX11_text_101 (by decide) ?_
        refine a_iload_n F dX11_text_110 rfl rfl ?_
        exact a_iret F M0.2.2.1 M0.2.2.2 dX11_text_111
      · refine a_aload_n F dX11_text_104 rfl rfl ?_
        refine a_iload_n F dX11_text_105 rfl rfl ?_
        refine a_iload_n F dX11_text_106 rfl rfl ?_
        refine a_callVV F (As := [.int x2, .int x3]) cfX11 rfl (c_X11_takesWill X x2 x3 S_1) mw_X11_takesWill ml_X11_305 im_X11_takesWill se_X11_takesWill M0.2.1 (Nat.le_of_ble_eq_true rfl) ⟨Nat.zero_le _, Nat.zero_le _⟩ rfl rfl (Nat.le_of_ble_eq_true rfl) zl_239 zk_239 dX11_text_107 rfl (fun S_4 => ?_)
        refine a_iload_n F dX11_text_110 rfl rfl ?_
        exact a_iret F M0.2.2.1 M0.2.2.2 dX11_text_111
def f_X11_text (p1 p2 : Int32) (S : Mm) : Option (Int32 × Mm) :=
  nm (uM S 239 0 (0 : Int32)) fun S_1 =>
  nm (uM S_1 239 34 (0 : Int32)) fun S_2 =>
  nm (uM S_2 239 35 (-1 : Int32)) fun S_3 =>
  nm (uM S_3 239 17 (0 : Int32)) fun S_4 =>
  nm (uM S_4 239 28 (0 : Int32)) fun S_5 =>
  nm (uM S_5 239 29 (0 : Int32)) fun S_6 =>
  (f_X11_canText p1 p2 S_6).bind fun q_7 =>
  if q_7.1 = 0 then (
   f_X11_text_69 p1 p2 (-1 : Int32) q_7.2
  ) else (
   (f_X11_readsText p1 p2 q_7.2).bind fun q_8 =>
   if q_8.1 = (-1 : Int32) then (
    nm (uM q_8.2 239 34 (q_8.2 239 32)) fun S_9 =>
    nm (uM S_9 239 35 (S_9 239 33)) fun S_10 =>
    f_X11_text_69 p1 p2 q_8.1 S_10
   ) else (
    f_X11_text_69 p1 p2 q_8.1 q_8.2
   )
  )
set_option maxRecDepth 20000 in
theorem b_X11_text {X : CX} {E : FE} (M0 : MF X E RX11 cX11_text 4 11 (some .int)) (p1 p2 : Int32) (S : Mm) : At X E false (mQi X Z1 E) 0 [some (.ref 239), some (.int p1), some (.int p2), none] [] Z1 S 0 0 (f_X11_text p1 p2 S) := by
  have F := M0.1
  unfold f_X11_text
  refine a_aload_n F dX11_text_0 rfl rfl ?_
  refine a_iconst F dX11_text_1 ki_0 ?_
  refine a_putI (k := 0) F cfX11 dX11_text_2 fl_X11_107 (by decide) fi_11_0 rfl rfl zl_239 zk_239 ?_
  refine a_nmS (fun S_1 => ?_)
  refine a_aload_n F dX11_text_5 rfl rfl ?_
  refine a_iconst F dX11_text_6 ki_0 ?_
  refine a_putI (k := 34) F cfX11 dX11_text_7 fl_X11_289 (by decide) fi_11_34 rfl rfl zl_239 zk_239 ?_
  refine a_nmS (fun S_2 => ?_)
  refine a_aload_n F dX11_text_10 rfl rfl ?_
  refine a_iconst F dX11_text_11 ki_m1 ?_
  refine a_putI (k := 35) F cfX11 dX11_text_12 fl_X11_64 (by decide) fi_11_35 rfl rfl zl_239 zk_239 ?_
  refine a_nmS (fun S_3 => ?_)
  refine a_aload_n F dX11_text_15 rfl rfl ?_
  refine a_iconst F dX11_text_16 ki_0 ?_
  refine a_putI (k := 17) F cfX11 dX11_text_17 fl_X11_180 (by decide) fi_11_17 rfl rfl zl_239 zk_239 ?_
  refine a_nmS (fun S_4 => ?_)
  refine a_aload_n F dX11_text_20 rfl rfl ?_
  refine a_iconst F dX11_text_21 ki_0 ?_
  refine a_putI (k := 28) F cfX11 dX11_text_22 fl_X11_214 (by decide) fi_11_28 rfl rfl zl_239 zk_239 ?_
  refine a_nmS (fun S_5 => ?_)
  refine a_aload_n F dX11_text_25 rfl rfl ?_
  refine a_iconst F dX11_text_26 ki_0 ?_
  refine a_putI (k := 29) F cfX11 dX11_text_27 fl_X11_242 (by decide) fi_11_29 rfl rfl zl_239 zk_239 ?_
  refine a_nmS (fun S_6 => ?_)
  refine a_iconst F dX11_text_30 ki_m1 ?_
  refine a_istore_n (L' := [some (.ref 239), some (.int p1), some (.int p2), some (.int (-1 : Int32))]) F dX11_text_31 rfl (lt_b rfl) rfl ?_
  refine a_aload_n F dX11_text_32 rfl rfl ?_
  refine a_iload_n F dX11_text_33 rfl rfl ?_
  refine a_iload_n F dX11_text_34 rfl rfl ?_
  refine a_callVI F (As := [.int p1, .int p2]) cfX11 rfl (c_X11_canText X p1 p2 S_6) mw_X11_canText ml_X11_292 im_X11_canText se_X11_canText M0.2.1 (Nat.le_of_ble_eq_true rfl) ⟨Nat.zero_le _, Nat.zero_le _⟩ rfl rfl (Nat.le_of_ble_eq_true rfl) zl_239 zk_239 dX11_text_35 rfl (fun q_7 => ?_)
  refine a_if_eq F 69 dX11_text_38 (by decide) ?_ ?_
  · exact b_X11_text_69 M0 p1 p2 (-1 : Int32) q_7.2
  · refine a_aload_n F dX11_text_41 rfl rfl ?_
    refine a_iload_n F dX11_text_42 rfl rfl ?_
    refine a_iload_n F dX11_text_43 rfl rfl ?_
    refine a_callVI F (As := [.int p1, .int p2]) cfX11 rfl (c_X11_readsText X p1 p2 q_7.2) mw_X11_readsText ml_X11_296 im_X11_readsText se_X11_readsText M0.2.1 (Nat.le_of_ble_eq_true rfl) ⟨Nat.zero_le _, Nat.zero_le _⟩ rfl rfl (Nat.le_of_ble_eq_true rfl) zl_239 zk_239 dX11_text_44 rfl (fun q_8 => ?_)
    refine a_istore_n (L' := [some (.ref 239), some (.int p1), some (.int p2), some (.int q_8.1)]) F dX11_text_47 rfl (lt_b rfl) rfl ?_
    refine a_iload_n F dX11_text_48 rfl rfl ?_
    refine a_iconst F dX11_text_49 ki_m1 ?_
    refine a_icmp_ne F 69 dX11_text_50 (by decide) ?_ ?_
    · refine a_aload_n F dX11_text_53 rfl rfl ?_
      refine a_aload_n F dX11_text_54 rfl rfl ?_
      refine a_getI (k := 32) F cfX11 dX11_text_55 fl_X11_208 (by decide) fi_11_32 zl_239 zk_239 ?_
      refine a_putI (k := 34) F cfX11 dX11_text_58 fl_X11_289 (by decide) fi_11_34 rfl rfl zl_239 zk_239 ?_
      refine a_nmS (fun S_9 => ?_)
      refine a_aload_n F dX11_text_61 rfl rfl ?_
      refine a_aload_n F dX11_text_62 rfl rfl ?_
      refine a_getI (k := 33) F cfX11 dX11_text_63 fl_X11_211 (by decide) fi_11_33 zl_239 zk_239 ?_
      refine a_putI (k := 35) F cfX11 dX11_text_66 fl_X11_64 (by decide) fi_11_35 rfl rfl zl_239 zk_239 ?_
      refine a_nmS (fun S_10 => ?_)
      exact b_X11_text_69 M0 p1 p2 q_8.1 S_10
    · exact b_X11_text_69 M0 p1 p2 q_8.1 q_8.2
theorem c_X11_text (X : CX) (p1 p2 : Int32) (S : Mm) : CtI X Z1 yX11_text cX11_text 4 (some .int) 11 [.ref 239, .int p1, .int p2] S (f_X11_text p1 p2 S) :=
  ctI_of (by decide +kernel) rfl (Nat.le_of_ble_eq_true rfl) (by simp [Value.category]) z1len fun E F R hra hlk => b_X11_text ⟨F, R, hra, hlk⟩ p1 p2 S
def f_X11_trace_63 (k24 : Int32 → Int32 → Int32 → Int32 → Mm → Option (Int32 × Mm)) (x1 x2 x3 x4 : Int32) (S : Mm) : Option (Int32 × Mm) :=
  nm (x4 + (1 : Int32)) fun x4_1 =>
  k24 x1 x2 x3 x4_1 S
set_option maxRecDepth 20000 in
theorem b_X11_trace_63 {X : CX} {E : FE} (M0 : MF X E RX11 cX11_trace 5 2 (some .int)) {k24 : Int32 → Int32 → Int32 → Int32 → Mm → Option (Int32 × Mm)} (hk24 : ∀ (x1 x2 x3 x4 : Int32) (S : Mm), At X E false (mQi X Z1 E) 24 [some (.ref 239), some (.int x1), some (.int x2), some (.int x3), some (.int x4)] [] Z1 S 0 0 (k24 x1 x2 x3 x4 S)) (x1 x2 x3 x4 : Int32) (S : Mm) : At X E false (mQi X Z1 E) 63 [some (.ref 239), some (.int x1), some (.int x2), some (.int x3), some (.int x4)] [] Z1 S 0 0 (f_X11_trace_63 k24 x1 x2 x3 x4 S) := by
  have F := M0.1
  unfold f_X11_trace_63
  refine a_iincN (L' := fun x4_1 => [some (.ref 239), some (.int x1), some (.int x2), some (.int x3), some (.int x4_1)]) F dX11_trace_63 rfl ki_1 (lt_b rfl) (fun _ => rfl) (fun x4_1 => ?_)
  refine a_goto F 24 dX11_trace_66 (by decide) ?_
  exact hk24 x1 x2 x3 x4_1 S
def f_X11_trace_24b (k24 : Int32 → Int32 → Int32 → Int32 → Mm → Option (Int32 × Mm)) (x1 x2 x3 x4 : Int32) (S : Mm) : Option (Int32 × Mm) :=
  if (S 240 2) ≤ x4 then (
   some ((-1 : Int32), S)
  ) else (
   gd (inB ((5 : Int32) * x4) 1000 = true) <|
   if (S 248 (ix ((5 : Int32) * x4))) = x1 then (
    if x3 = x2 then (
     some (x4, S)
    ) else (
     nm ((x3 + (1 : Int32))) fun x3_1 =>
     f_X11_trace_63 k24 x1 x2 x3_1 x4 S
    )
   ) else (
    f_X11_trace_63 k24 x1 x2 x3 x4 S
   )
  )
set_option maxRecDepth 20000 in
theorem b_X11_trace_24b {X : CX} {E : FE} (M0 : MF X E RX11 cX11_trace 5 2 (some .int)) {k24 : Int32 → Int32 → Int32 → Int32 → Mm → Option (Int32 × Mm)} (hk24 : ∀ (x1 x2 x3 x4 : Int32) (S : Mm), At X E false (mQi X Z1 E) 24 [some (.ref 239), some (.int x1), some (.int x2), some (.int x3), some (.int x4)] [] Z1 S 0 0 (k24 x1 x2 x3 x4 S)) (x1 x2 x3 x4 : Int32) (S : Mm) : At X E false (mQi X Z1 E) 24 [some (.ref 239), some (.int x1), some (.int x2), some (.int x3), some (.int x4)] [] Z1 S 0 0 (f_X11_trace_24b k24 x1 x2 x3 x4 S) := by
  have F := M0.1
  unfold f_X11_trace_24b
  refine a_iload F dX11_trace_24 rfl ?_
  refine a_aload_n F dX11_trace_26 rfl rfl ?_
  refine a_getR (k := 1) F cfX11 dX11_trace_27 fl_X11_7 (by decide) fi_11_1 zl_239 zk_239 zr_239_1 ?_
  refine a_iconst F dX11_trace_30 ki_2 ?_
  refine a_ialdK F 2 dX11_trace_31 zl_240 zk_240 ib_2_148 ix_2 ?_
  refine a_icmp_ge F 69 dX11_trace_32 (by decide) ?_ ?_
  · refine a_iconst F dX11_trace_69 ki_m1 ?_
    exact a_iret F M0.2.2.1 M0.2.2.2 dX11_trace_70
  · refine a_aload_n F dX11_trace_35 rfl rfl ?_
    refine a_getR (k := 13) F cfX11 dX11_trace_36 fl_X11_34 (by decide) fi_11_13 zl_239 zk_239 zr_239_13 ?_
    refine a_iconst F dX11_trace_39 ki_5 ?_
    refine a_iload F dX11_trace_40 rfl ?_
    refine a_imul F dX11_trace_42 ?_
    refine a_gd (a_iald F dX11_trace_43 zl_248 zk_248 ?_)
    refine a_iload_n F dX11_trace_44 rfl rfl ?_
    refine a_icmp_eq F 51 dX11_trace_45 (by decide) ?_ ?_
    · refine a_iload_n F dX11_trace_51 rfl rfl ?_
      refine a_iload_n F dX11_trace_52 rfl rfl ?_
      refine a_icmp_ne F 59 dX11_trace_53 (by decide) ?_ ?_
      · refine a_iload F dX11_trace_56 rfl ?_
        exact a_iret F M0.2.2.1 M0.2.2.2 dX11_trace_58
      · refine a_iload_n F dX11_trace_59 rfl rfl ?_
        refine a_iconst F dX11_trace_60 ki_1 ?_
        refine a_iadd F dX11_trace_61 ?_
        refine a_istore_nN (L' := fun x3_1 => [some (.ref 239), some (.int x1), some (.int x2), some (.int x3_1), some (.int x4)]) F dX11_trace_62 rfl (lt_b rfl) (fun _ => rfl) (fun x3_1 => ?_)
        exact b_X11_trace_63 M0 hk24 x1 x2 x3_1 x4 S
    · refine a_goto F 63 dX11_trace_48 (by decide) ?_
      exact b_X11_trace_63 M0 hk24 x1 x2 x3 x4 S
def f_X11_trace_24 : Nat → Int32 → Int32 → Int32 → Int32 → Mm → Option (Int32 × Mm) :=
  itr (fun _ _ _ _ _ => none) (fun k => f_X11_trace_24b k)
theorem b_X11_trace_24 {X : CX} {E : FE} (M0 : MF X E RX11 cX11_trace 5 2 (some .int)) : ∀ (n : Nat) (x1 x2 x3 x4 : Int32) (S : Mm), At X E false (mQi X Z1 E) 24 [some (.ref 239), some (.int x1), some (.int x2), some (.int x3), some (.int x4)] [] Z1 S 0 0 (f_X11_trace_24  n x1 x2 x3 x4 S) := by
  intro n
  induction n with
  | zero => intros; exact a_none
  | succ n ih => intro x1 x2 x3 x4 S; exact b_X11_trace_24b M0 ih x1 x2 x3 x4 S
def f_X11_trace (p1 p2 : Int32) (S : Mm) : Option (Int32 × Mm) :=
  nm (uM S 239 0 (0 : Int32)) fun S_1 =>
  (f_X11_isLetter28 p1 S_1).bind fun q_2 =>
  if q_2.1 = 0 then (
   some ((-1 : Int32), q_2.2)
  ) else (
   if 0 ≤ p2 then (
    f_X11_trace_24 FU p1 p2 (0 : Int32) (0 : Int32) q_2.2
   ) else (
    some ((-1 : Int32), q_2.2)
   )
  )
set_option maxRecDepth 20000 in
theorem b_X11_trace {X : CX} {E : FE} (M0 : MF X E RX11 cX11_trace 5 2 (some .int)) (p1 p2 : Int32) (S : Mm) : At X E false (mQi X Z1 E) 0 [some (.ref 239), some (.int p1), some (.int p2), none, none] [] Z1 S 0 0 (f_X11_trace p1 p2 S) := by
  have F := M0.1
  unfold f_X11_trace
  refine a_aload_n F dX11_trace_0 rfl rfl ?_
  refine a_iconst F dX11_trace_1 ki_0 ?_
  refine a_putI (k := 0) F cfX11 dX11_trace_2 fl_X11_107 (by decide) fi_11_0 rfl rfl zl_239 zk_239 ?_
  refine a_nmS (fun S_1 => ?_)
  refine a_aload_n F dX11_trace_5 rfl rfl ?_
  refine a_iload_n F dX11_trace_6 rfl rfl ?_
  refine a_callVI F (As := [.int p1]) cfX11 rfl (c_X11_isLetter28 X p1 S_1) mw_X11_isLetter28 ml_X11_163 im_X11_isLetter28 se_X11_isLetter28 M0.2.1 (Nat.le_of_ble_eq_true rfl) ⟨Nat.zero_le _, Nat.zero_le _⟩ rfl rfl (Nat.le_of_ble_eq_true rfl) zl_239 zk_239 dX11_trace_7 rfl (fun q_2 => ?_)
  refine a_if_eq F 17 dX11_trace_10 (by decide) ?_ ?_
  · refine a_iconst F dX11_trace_17 ki_m1 ?_
    exact a_iret F M0.2.2.1 M0.2.2.2 dX11_trace_18
  · refine a_iload_n F dX11_trace_13 rfl rfl ?_
    refine a_if_ge F 19 dX11_trace_14 (by decide) ?_ ?_
    · refine a_iconst F dX11_trace_19 ki_0 ?_
      refine a_istore_n (L' := [some (.ref 239), some (.int p1), some (.int p2), some (.int (0 : Int32)), none]) F dX11_trace_20 rfl (lt_b rfl) rfl ?_
      refine a_iconst F dX11_trace_21 ki_0 ?_
      refine a_istore (L' := [some (.ref 239), some (.int p1), some (.int p2), some (.int (0 : Int32)), some (.int (0 : Int32))]) F dX11_trace_22 (lt_b rfl) rfl ?_
      exact b_X11_trace_24 M0 FU p1 p2 (0 : Int32) (0 : Int32) q_2.2
    · refine a_iconst F dX11_trace_17 ki_m1 ?_
      exact a_iret F M0.2.2.1 M0.2.2.2 dX11_trace_18
theorem c_X11_trace (X : CX) (p1 p2 : Int32) (S : Mm) : CtI X Z1 yX11_trace cX11_trace 5 (some .int) 2 [.ref 239, .int p1, .int p2] S (f_X11_trace p1 p2 S) :=
  ctI_of (by decide +kernel) rfl (Nat.le_of_ble_eq_true rfl) (by simp [Value.category]) z1len fun E F R hra hlk => b_X11_trace ⟨F, R, hra, hlk⟩ p1 p2 S
def f_X11_undo_26b (k26 : Int32 → Mm → Option (Int32 × Mm)) (x1 : Int32) (S : Mm) : Option (Int32 × Mm) :=
  if (148 : Int32) ≤ x1 then (
   (f_X11_findsKin S).bind fun S_1 =>
   some ((1 : Int32), S_1)
  ) else (
   gd (inB (((148 : Int32) * (S 239 3)) + x1) 1184 = true) <|
   gd (inB x1 148 = true) <|
   nm (uM S 240 (ix x1) (S 241 (ix (((148 : Int32) * (S 239 3)) + x1)))) fun S_2 =>
   nm (x1 + (1 : Int32)) fun x1_3 =>
   k26 x1_3 S_2
  )
set_option maxRecDepth 20000 in
theorem b_X11_undo_26b {X : CX} {E : FE} (M0 : MF X E RX11 cX11_undo 2 3 (some .boolean)) {k26 : Int32 → Mm → Option (Int32 × Mm)} (hk26 : ∀ (x1 : Int32) (S : Mm), At X E false (mQi X Z1 E) 26 [some (.ref 239), some (.int x1)] [] Z1 S 0 0 (k26 x1 S)) (x1 : Int32) (S : Mm) : At X E false (mQi X Z1 E) 26 [some (.ref 239), some (.int x1)] [] Z1 S 0 0 (f_X11_undo_26b k26 x1 S) := by
  have F := M0.1
  unfold f_X11_undo_26b
  refine a_iload_n F dX11_undo_26 rfl rfl ?_
  refine a_sipush F dX11_undo_27 ks_148 ?_
  refine a_icmp_ge F 60 dX11_undo_30 (by decide) ?_ ?_
  · refine a_aload_n F dX11_undo_60 rfl rfl ?_
    refine a_callVV F (As := []) cfX11 rfl (c_X11_findsKin X S) mw_X11_findsKin ml_X11_113 im_X11_findsKin se_X11_findsKin M0.2.1 (Nat.le_of_ble_eq_true rfl) ⟨Nat.zero_le _, Nat.zero_le _⟩ rfl rfl (Nat.le_of_ble_eq_true rfl) zl_239 zk_239 dX11_undo_61 rfl (fun S_1 => ?_)
    refine a_iconst F dX11_undo_64 ki_1 ?_
    exact a_zretK F M0.2.2.1 M0.2.2.2 dX11_undo_65 (Or.inr rfl)
  · refine a_aload_n F dX11_undo_33 rfl rfl ?_
    refine a_getR (k := 1) F cfX11 dX11_undo_34 fl_X11_7 (by decide) fi_11_1 zl_239 zk_239 zr_239_1 ?_
    refine a_iload_n F dX11_undo_37 rfl rfl ?_
    refine a_aload_n F dX11_undo_38 rfl rfl ?_
    refine a_getR (k := 2) F cfX11 dX11_undo_39 fl_X11_13 (by decide) fi_11_2 zl_239 zk_239 zr_239_2 ?_
    refine a_sipush F dX11_undo_42 ks_148 ?_
    refine a_aload_n F dX11_undo_45 rfl rfl ?_
    refine a_getI (k := 3) F cfX11 dX11_undo_46 fl_X11_110 (by decide) fi_11_3 zl_239 zk_239 ?_
    refine a_imul F dX11_undo_49 ?_
    refine a_iload_n F dX11_undo_50 rfl rfl ?_
    refine a_iadd F dX11_undo_51 ?_
    refine a_gd (a_iald F dX11_undo_52 zl_241 zk_241 ?_)
    refine a_gd (a_iast F dX11_undo_53 zl_240 zk_240 ?_)
    refine a_nmS (fun S_2 => ?_)
    refine a_iincN (L' := fun x1_3 => [some (.ref 239), some (.int x1_3)]) F dX11_undo_54 rfl ki_1 (lt_b rfl) (fun _ => rfl) (fun x1_3 => ?_)
    refine a_goto F 26 dX11_undo_57 (by decide) ?_
    exact hk26 x1_3 S_2
def f_X11_undo_26 : Nat → Int32 → Mm → Option (Int32 × Mm) :=
  itr (fun _ _ => none) (fun k => f_X11_undo_26b k)
theorem b_X11_undo_26 {X : CX} {E : FE} (M0 : MF X E RX11 cX11_undo 2 3 (some .boolean)) : ∀ (n : Nat) (x1 : Int32) (S : Mm), At X E false (mQi X Z1 E) 26 [some (.ref 239), some (.int x1)] [] Z1 S 0 0 (f_X11_undo_26  n x1 S) := by
  intro n
  induction n with
  | zero => intros; exact a_none
  | succ n ih => intro x1 S; exact b_X11_undo_26b M0 ih x1 S
def f_X11_undo (S : Mm) : Option (Int32 × Mm) :=
  nm (uM S 239 0 (0 : Int32)) fun S_1 =>
  if (S_1 239 3) = 0 then (
   some ((0 : Int32), S_1)
  ) else (
   nm (uM S_1 239 3 ((S_1 239 3) - (1 : Int32))) fun S_2 =>
   f_X11_undo_26 FU (0 : Int32) S_2
  )
set_option maxRecDepth 20000 in
theorem b_X11_undo {X : CX} {E : FE} (M0 : MF X E RX11 cX11_undo 2 3 (some .boolean)) (S : Mm) : At X E false (mQi X Z1 E) 0 [some (.ref 239), none] [] Z1 S 0 0 (f_X11_undo S) := by
  have F := M0.1
  unfold f_X11_undo
  refine a_aload_n F dX11_undo_0 rfl rfl ?_
  refine a_iconst F dX11_undo_1 ki_0 ?_
  refine a_putI (k := 0) F cfX11 dX11_undo_2 fl_X11_107 (by decide) fi_11_0 rfl rfl zl_239 zk_239 ?_
  refine a_nmS (fun S_1 => ?_)
  refine a_aload_n F dX11_undo_5 rfl rfl ?_
  refine a_getI (k := 3) F cfX11 dX11_undo_6 fl_X11_110 (by decide) fi_11_3 zl_239 zk_239 ?_
  refine a_if_ne F 14 dX11_undo_9 (by decide) ?_ ?_
  · refine a_iconst F dX11_undo_12 ki_0 ?_
    exact a_zretK F M0.2.2.1 M0.2.2.2 dX11_undo_13 (Or.inl rfl)
  · refine a_aload_n F dX11_undo_14 rfl rfl ?_
    refine a_aload_n F dX11_undo_15 rfl rfl ?_
    refine a_getI (k := 3) F cfX11 dX11_undo_16 fl_X11_110 (by decide) fi_11_3 zl_239 zk_239 ?_
    refine a_iconst F dX11_undo_19 ki_1 ?_
    refine a_isub F dX11_undo_20 ?_
    refine a_putI (k := 3) F cfX11 dX11_undo_21 fl_X11_110 (by decide) fi_11_3 rfl rfl zl_239 zk_239 ?_
    refine a_nmS (fun S_2 => ?_)
    refine a_iconst F dX11_undo_24 ki_0 ?_
    refine a_istore_n (L' := [some (.ref 239), some (.int (0 : Int32))]) F dX11_undo_25 rfl (lt_b rfl) rfl ?_
    exact b_X11_undo_26 M0 FU (0 : Int32) S_2
theorem c_X11_undo (X : CX) (S : Mm) : CtI X Z1 yX11_undo cX11_undo 2 (some .boolean) 3 [.ref 239] S (f_X11_undo S) :=
  ctI_of (by decide +kernel) rfl (Nat.le_of_ble_eq_true rfl) (by simp [Value.category]) z1len fun E F R hra hlk => b_X11_undo ⟨F, R, hra, hlk⟩ S
def f_X11_haveParentInCommon_56 (S : Mm) : Option (Int32 × Mm) :=
  some ((0 : Int32), S)
set_option maxRecDepth 20000 in
theorem b_X11_haveParentInCommon_56 {X : CX} {E : FE} (M0 : MF X E RX11 cX11_haveParentInCommon 3 2 (some .boolean)) (S : Mm) : At X E false (mQi X Z1 E) 56 [none, none, none] [] Z1 S 0 0 (f_X11_haveParentInCommon_56 S) := by
  have F := M0.1
  unfold f_X11_haveParentInCommon_56
  refine a_iconst F dX11_haveParentInCommon_56 ki_0 ?_
  exact a_zretK F M0.2.2.1 M0.2.2.2 dX11_haveParentInCommon_57 (Or.inl rfl)
def f_X11_haveParentInCommon_27 (x1 x2 : Int32) (S : Mm) : Option (Int32 × Mm) :=
  gd (inB x1 12 = true) <|
  if (S 244 (ix x1)) ≤ 0 then (
   f_X11_haveParentInCommon_56 S
  ) else (
   gd (inB x1 12 = true) <|
   (f_X11_isChild x2 ((S 244 (ix x1)) - (1 : Int32)) S).bind fun q_1 =>
   if q_1.1 = 0 then (
    f_X11_haveParentInCommon_56 q_1.2
   ) else (
    some ((1 : Int32), q_1.2)
   )
  )
set_option maxRecDepth 20000 in
theorem b_X11_haveParentInCommon_27 {X : CX} {E : FE} (M0 : MF X E RX11 cX11_haveParentInCommon 3 2 (some .boolean)) (x1 x2 : Int32) (S : Mm) : At X E false (mQi X Z1 E) 27 [some (.ref 239), some (.int x1), some (.int x2)] [] Z1 S 0 0 (f_X11_haveParentInCommon_27 x1 x2 S) := by
  have F := M0.1
  unfold f_X11_haveParentInCommon_27
  refine a_aload_n F dX11_haveParentInCommon_27 rfl rfl ?_
  refine a_getR (k := 8) F cfX11 dX11_haveParentInCommon_28 fl_X11_22 (by decide) fi_11_8 zl_239 zk_239 zr_239_8 ?_
  refine a_iload_n F dX11_haveParentInCommon_31 rfl rfl ?_
  refine a_gd (a_iald F dX11_haveParentInCommon_32 zl_244 zk_244 ?_)
  refine a_if_le F 56 dX11_haveParentInCommon_33 (by decide) ?_ ?_
  · refine a_mask [false, false, false] (L' := [none, none, none]) rfl rfl ?_
    exact b_X11_haveParentInCommon_56 M0 S
  · refine a_aload_n F dX11_haveParentInCommon_36 rfl rfl ?_
    refine a_iload_n F dX11_haveParentInCommon_37 rfl rfl ?_
    refine a_aload_n F dX11_haveParentInCommon_38 rfl rfl ?_
    refine a_getR (k := 8) F cfX11 dX11_haveParentInCommon_39 fl_X11_22 (by decide) fi_11_8 zl_239 zk_239 zr_239_8 ?_
    refine a_iload_n F dX11_haveParentInCommon_42 rfl rfl ?_
    refine a_gd (a_iald F dX11_haveParentInCommon_43 zl_244 zk_244 ?_)
    refine a_iconst F dX11_haveParentInCommon_44 ki_1 ?_
    refine a_isub F dX11_haveParentInCommon_45 ?_
    refine a_callVI F (As := [.int x2, .int ((S 244 (ix x1)) - (1 : Int32))]) cfX11 rfl (c_X11_isChild X x2 ((S 244 (ix x1)) - (1 : Int32)) S) mw_X11_isChild ml_X11_327 im_X11_isChild se_X11_isChild M0.2.1 (Nat.le_of_ble_eq_true rfl) ⟨Nat.zero_le _, Nat.zero_le _⟩ rfl rfl (Nat.le_of_ble_eq_true rfl) zl_239 zk_239 dX11_haveParentInCommon_46 rfl (fun q_1 => ?_)
    refine a_if_eq F 56 dX11_haveParentInCommon_49 (by decide) ?_ ?_
    · refine a_mask [false, false, false] (L' := [none, none, none]) rfl rfl ?_
      exact b_X11_haveParentInCommon_56 M0 q_1.2
    · refine a_iconst F dX11_haveParentInCommon_52 ki_1 ?_
      refine a_goto F 57 dX11_haveParentInCommon_53 (by decide) ?_
      exact a_zretK F M0.2.2.1 M0.2.2.2 dX11_haveParentInCommon_57 (Or.inr rfl)
def f_X11_haveParentInCommon (p1 p2 : Int32) (S : Mm) : Option (Int32 × Mm) :=
  gd (inB p1 12 = true) <|
  if (S 243 (ix p1)) ≤ 0 then (
   f_X11_haveParentInCommon_27 p1 p2 S
  ) else (
   gd (inB p1 12 = true) <|
   (f_X11_isChild p2 ((S 243 (ix p1)) - (1 : Int32)) S).bind fun q_1 =>
   if q_1.1 = 0 then (
    f_X11_haveParentInCommon_27 p1 p2 q_1.2
   ) else (
    some ((1 : Int32), q_1.2)
   )
  )
set_option maxRecDepth 20000 in
theorem b_X11_haveParentInCommon {X : CX} {E : FE} (M0 : MF X E RX11 cX11_haveParentInCommon 3 2 (some .boolean)) (p1 p2 : Int32) (S : Mm) : At X E false (mQi X Z1 E) 0 [some (.ref 239), some (.int p1), some (.int p2)] [] Z1 S 0 0 (f_X11_haveParentInCommon p1 p2 S) := by
  have F := M0.1
  unfold f_X11_haveParentInCommon
  refine a_aload_n F dX11_haveParentInCommon_0 rfl rfl ?_
  refine a_getR (k := 7) F cfX11 dX11_haveParentInCommon_1 fl_X11_19 (by decide) fi_11_7 zl_239 zk_239 zr_239_7 ?_
  refine a_iload_n F dX11_haveParentInCommon_4 rfl rfl ?_
  refine a_gd (a_iald F dX11_haveParentInCommon_5 zl_243 zk_243 ?_)
  refine a_if_le F 27 dX11_haveParentInCommon_6 (by decide) ?_ ?_
  · exact b_X11_haveParentInCommon_27 M0 p1 p2 S
  · refine a_aload_n F dX11_haveParentInCommon_9 rfl rfl ?_
    refine a_iload_n F dX11_haveParentInCommon_10 rfl rfl ?_
    refine a_aload_n F dX11_haveParentInCommon_11 rfl rfl ?_
    refine a_getR (k := 7) F cfX11 dX11_haveParentInCommon_12 fl_X11_19 (by decide) fi_11_7 zl_239 zk_239 zr_239_7 ?_
    refine a_iload_n F dX11_haveParentInCommon_15 rfl rfl ?_
    refine a_gd (a_iald F dX11_haveParentInCommon_16 zl_243 zk_243 ?_)
    refine a_iconst F dX11_haveParentInCommon_17 ki_1 ?_
    refine a_isub F dX11_haveParentInCommon_18 ?_
    refine a_callVI F (As := [.int p2, .int ((S 243 (ix p1)) - (1 : Int32))]) cfX11 rfl (c_X11_isChild X p2 ((S 243 (ix p1)) - (1 : Int32)) S) mw_X11_isChild ml_X11_327 im_X11_isChild se_X11_isChild M0.2.1 (Nat.le_of_ble_eq_true rfl) ⟨Nat.zero_le _, Nat.zero_le _⟩ rfl rfl (Nat.le_of_ble_eq_true rfl) zl_239 zk_239 dX11_haveParentInCommon_19 rfl (fun q_1 => ?_)
    refine a_if_eq F 27 dX11_haveParentInCommon_22 (by decide) ?_ ?_
    · exact b_X11_haveParentInCommon_27 M0 p1 p2 q_1.2
    · refine a_iconst F dX11_haveParentInCommon_25 ki_1 ?_
      exact a_zretK F M0.2.2.1 M0.2.2.2 dX11_haveParentInCommon_26 (Or.inr rfl)
theorem c_X11_haveParentInCommon (X : CX) (p1 p2 : Int32) (S : Mm) : CtI X Z1 yX11_haveParentInCommon cX11_haveParentInCommon 3 (some .boolean) 2 [.ref 239, .int p1, .int p2] S (f_X11_haveParentInCommon p1 p2 S) :=
  ctI_of (by decide +kernel) rfl (Nat.le_of_ble_eq_true rfl) (by simp [Value.category]) z1len fun E F R hra hlk => b_X11_haveParentInCommon ⟨F, R, hra, hlk⟩ p1 p2 S
def f_X11_canWed_72 (S : Mm) : Option (Int32 × Mm) :=
  some ((0 : Int32), S)
set_option maxRecDepth 20000 in
theorem b_X11_canWed_72 {X : CX} {E : FE} (M0 : MF X E RX11 cX11_canWed 3 3 (some .boolean)) (S : Mm) : At X E false (mQi X Z1 E) 72 [none, none, none] [] Z1 S 0 0 (f_X11_canWed_72 S) := by
  have F := M0.1
  unfold f_X11_canWed_72
  refine a_iconst F dX11_canWed_72 ki_0 ?_
  exact a_zretK F M0.2.2.1 M0.2.2.2 dX11_canWed_73 (Or.inl rfl)
def f_X11_canWed (p1 p2 : Int32) (S : Mm) : Option (Int32 × Mm) :=
  (f_X11_isLiving p1 S).bind fun q_1 =>
  if q_1.1 = 0 then (
   some ((0 : Int32), q_1.2)
  ) else (
   (f_X11_isLiving p2 q_1.2).bind fun q_2 =>
   if q_2.1 = 0 then (
    some ((0 : Int32), q_2.2)
   ) else (
    if p1 = p2 then (
     some ((0 : Int32), q_2.2)
    ) else (
     (f_X11_spouseOf p1 q_2.2).bind fun q_3 =>
     if q_3.1 = (-1 : Int32) then (
      (f_X11_spouseOf p2 q_3.2).bind fun q_4 =>
      if q_4.1 = (-1 : Int32) then (
       (f_X11_isChild p1 p2 q_4.2).bind fun q_5 =>
       if q_5.1 = 0 then (
        (f_X11_isChild p2 p1 q_5.2).bind fun q_6 =>
        if q_6.1 = 0 then (
         (f_X11_haveParentInCommon p1 p2 q_6.2).bind fun q_7 =>
         if q_7.1 = 0 then (
          some ((1 : Int32), q_7.2)
         ) else (
          f_X11_canWed_72 q_7.2
         )
        ) else (
         f_X11_canWed_72 q_6.2
        )
       ) else (
        f_X11_canWed_72 q_5.2
       )
      ) else (
       some ((0 : Int32), q_4.2)
      )
     ) else (
      some ((0 : Int32), q_3.2)
     )
    )
   )
  )
set_option maxRecDepth 20000 in
theorem b_X11_canWed {X : CX} {E : FE} (M0 : MF X E RX11 cX11_canWed 3 3 (some .boolean)) (p1 p2 : Int32) (S : Mm) : At X E false (mQi X Z1 E) 0 [some (.ref 239), some (.int p1), some (.int p2)] [] Z1 S 0 0 (f_X11_canWed p1 p2 S) := by
  have F := M0.1
  unfold f_X11_canWed
  refine a_aload_n F dX11_canWed_0 rfl rfl ?_
  refine a_iload_n F dX11_canWed_1 rfl rfl ?_
  refine a_callVI F (As := [.int p1]) cfX11 rfl (c_X11_isLiving X p1 S) mw_X11_isLiving ml_X11_151 im_X11_isLiving se_X11_isLiving M0.2.1 (Nat.le_of_ble_eq_true rfl) ⟨Nat.zero_le _, Nat.zero_le _⟩ rfl rfl (Nat.le_of_ble_eq_true rfl) zl_239 zk_239 dX11_canWed_2 rfl (fun q_1 => ?_)
  refine a_if_eq F 39 dX11_canWed_5 (by decide) ?_ ?_
  · refine a_iconst F dX11_canWed_39 ki_0 ?_
    exact a_zretK F M0.2.2.1 M0.2.2.2 dX11_canWed_40 (Or.inl rfl)
  · refine a_aload_n F dX11_canWed_8 rfl rfl ?_
    refine a_iload_n F dX11_canWed_9 rfl rfl ?_
    refine a_callVI F (As := [.int p2]) cfX11 rfl (c_X11_isLiving X p2 q_1.2) mw_X11_isLiving ml_X11_151 im_X11_isLiving se_X11_isLiving M0.2.1 (Nat.le_of_ble_eq_true rfl) ⟨Nat.zero_le _, Nat.zero_le _⟩ rfl rfl (Nat.le_of_ble_eq_true rfl) zl_239 zk_239 dX11_canWed_10 rfl (fun q_2 => ?_)
    refine a_if_eq F 39 dX11_canWed_13 (by decide) ?_ ?_
    · refine a_iconst F dX11_canWed_39 ki_0 ?_
      exact a_zretK F M0.2.2.1 M0.2.2.2 dX11_canWed_40 (Or.inl rfl)
    · refine a_iload_n F dX11_canWed_16 rfl rfl ?_
      refine a_iload_n F dX11_canWed_17 rfl rfl ?_
      refine a_icmp_eq F 39 dX11_canWed_18 (by decide) ?_ ?_
      · refine a_iconst F dX11_canWed_39 ki_0 ?_
        exact a_zretK F M0.2.2.1 M0.2.2.2 dX11_canWed_40 (Or.inl rfl)
      · refine a_aload_n F dX11_canWed_21 rfl rfl ?_
        refine a_iload_n F dX11_canWed_22 rfl rfl ?_
        refine a_callVI F (As := [.int p1]) cfX11 rfl (c_X11_spouseOf X p1 q_2.2) mw_X11_spouseOf ml_X11_139 im_X11_spouseOf se_X11_spouseOf M0.2.1 (Nat.le_of_ble_eq_true rfl) ⟨Nat.zero_le _, Nat.zero_le _⟩ rfl rfl (Nat.le_of_ble_eq_true rfl) zl_239 zk_239 dX11_canWed_23 rfl (fun q_3 => ?_)
        refine a_iconst F dX11_canWed_26 ki_m1 ?_
        refine a_icmp_ne F 39 dX11_canWed_27 (by decide) ?_ ?_
        · refine a_aload_n F dX11_canWed_30 rfl rfl ?_
          refine a_iload_n F dX11_canWed_31 rfl rfl ?_
          refine a_callVI F (As := [.int p2]) cfX11 rfl (c_X11_spouseOf X p2 q_3.2) mw_X11_spouseOf ml_X11_139 im_X11_spouseOf se_X11_spouseOf M0.2.1 (Nat.le_of_ble_eq_true rfl) ⟨Nat.zero_le _, Nat.zero_le _⟩ rfl rfl (Nat.le_of_ble_eq_true rfl) zl_239 zk_239 dX11_canWed_32 rfl (fun q_4 => ?_)
          refine a_iconst F dX11_canWed_35 ki_m1 ?_
          refine a_icmp_eq F 41 dX11_canWed_36 (by decide) ?_ ?_
          · refine a_aload_n F dX11_canWed_41 rfl rfl ?_
            refine a_iload_n F dX11_canWed_42 rfl rfl ?_
            refine a_iload_n F dX11_canWed_43 rfl rfl ?_
            refine a_callVI F (As := [.int p1, .int p2]) cfX11 rfl (c_X11_isChild X p1 p2 q_4.2) mw_X11_isChild ml_X11_327 im_X11_isChild se_X11_isChild M0.2.1 (Nat.le_of_ble_eq_true rfl) ⟨Nat.zero_le _, Nat.zero_le _⟩ rfl rfl (Nat.le_of_ble_eq_true rfl) zl_239 zk_239 dX11_canWed_44 rfl (fun q_5 => ?_)
            refine a_if_ne F 72 dX11_canWed_47 (by decide) ?_ ?_
            · refine a_aload_n F dX11_canWed_50 rfl rfl ?_
              refine a_iload_n F dX11_canWed_51 rfl rfl ?_
              refine a_iload_n F dX11_canWed_52 rfl rfl ?_
              refine a_callVI F (As := [.int p2, .int p1]) cfX11 rfl (c_X11_isChild X p2 p1 q_5.2) mw_X11_isChild ml_X11_327 im_X11_isChild se_X11_isChild M0.2.1 (Nat.le_of_ble_eq_true rfl) ⟨Nat.zero_le _, Nat.zero_le _⟩ rfl rfl (Nat.le_of_ble_eq_true rfl) zl_239 zk_239 dX11_canWed_53 rfl (fun q_6 => ?_)
              refine a_if_ne F 72 dX11_canWed_56 (by decide) ?_ ?_
              · refine a_aload_n F dX11_canWed_59 rfl rfl ?_
                refine a_iload_n F dX11_canWed_60 rfl rfl ?_
                refine a_iload_n F dX11_canWed_61 rfl rfl ?_
                refine a_callVI F (As := [.int p1, .int p2]) cfX11 rfl (c_X11_haveParentInCommon X p1 p2 q_6.2) mw_X11_haveParentInCommon ml_X11_351 im_X11_haveParentInCommon se_X11_haveParentInCommon M0.2.1 (Nat.le_of_ble_eq_true rfl) ⟨Nat.zero_le _, Nat.zero_le _⟩ rfl rfl (Nat.le_of_ble_eq_true rfl) zl_239 zk_239 dX11_canWed_62 rfl (fun q_7 => ?_)
                refine a_if_ne F 72 dX11_canWed_65 (by decide) ?_ ?_
                · refine a_iconst F dX11_canWed_68 ki_1 ?_
                  refine a_goto F 73 dX11_canWed_69 (by decide) ?_
                  exact a_zretK F M0.2.2.1 M0.2.2.2 dX11_canWed_73 (Or.inr rfl)
                · refine a_mask [false, false, false] (L' := [none, none, none]) rfl rfl ?_
                  exact b_X11_canWed_72 M0 q_7.2
              · refine a_mask [false, false, false] (L' := [none, none, none]) rfl rfl ?_
                exact b_X11_canWed_72 M0 q_6.2
            · refine a_mask [false, false, false] (L' := [none, none, none]) rfl rfl ?_
              exact b_X11_canWed_72 M0 q_5.2
          · refine a_iconst F dX11_canWed_39 ki_0 ?_
            exact a_zretK F M0.2.2.1 M0.2.2.2 dX11_canWed_40 (Or.inl rfl)
        · refine a_iconst F dX11_canWed_39 ki_0 ?_
          exact a_zretK F M0.2.2.1 M0.2.2.2 dX11_canWed_40 (Or.inl rfl)
theorem c_X11_canWed (X : CX) (p1 p2 : Int32) (S : Mm) : CtI X Z1 yX11_canWed cX11_canWed 3 (some .boolean) 3 [.ref 239, .int p1, .int p2] S (f_X11_canWed p1 p2 S) :=
  ctI_of (by decide +kernel) rfl (Nat.le_of_ble_eq_true rfl) (by simp [Value.category]) z1len fun E F R hra hlk => b_X11_canWed ⟨F, R, hra, hlk⟩ p1 p2 S
def f_X11_weds (p1 p2 : Int32) (S : Mm) : Option Mm :=
  gd (inB ((112 : Int32) + p1) 148 = true) <|
  nm (uM S 240 (ix ((112 : Int32) + p1)) (p2 + (1 : Int32))) fun S_1 =>
  gd (inB ((112 : Int32) + p2) 148 = true) <|
  nm (uM S_1 240 (ix ((112 : Int32) + p2)) (p1 + (1 : Int32))) fun S_2 =>
  (f_X11_findsKin S_2).bind fun S_3 =>
  some S_3
set_option maxRecDepth 20000 in
theorem b_X11_weds {X : CX} {E : FE} (M0 : MF X E RX11 cX11_weds 3 3 none) (p1 p2 : Int32) (S : Mm) : At X E false (mQv X Z1 E) 0 [some (.ref 239), some (.int p1), some (.int p2)] [] Z1 S 0 0 (f_X11_weds p1 p2 S) := by
  have F := M0.1
  unfold f_X11_weds
  refine a_aload_n F dX11_weds_0 rfl rfl ?_
  refine a_getR (k := 1) F cfX11 dX11_weds_1 fl_X11_7 (by decide) fi_11_1 zl_239 zk_239 zr_239_1 ?_
  refine a_bipush F dX11_weds_4 kb_112 ?_
  refine a_iload_n F dX11_weds_6 rfl rfl ?_
  refine a_iadd F dX11_weds_7 ?_
  refine a_iload_n F dX11_weds_8 rfl rfl ?_
  refine a_iconst F dX11_weds_9 ki_1 ?_
  refine a_iadd F dX11_weds_10 ?_
  refine a_gd (a_iast F dX11_weds_11 zl_240 zk_240 ?_)
  refine a_nmS (fun S_1 => ?_)
  refine a_aload_n F dX11_weds_12 rfl rfl ?_
  refine a_getR (k := 1) F cfX11 dX11_weds_13 fl_X11_7 (by decide) fi_11_1 zl_239 zk_239 zr_239_1 ?_
  refine a_bipush F dX11_weds_16 kb_112 ?_
  refine a_iload_n F dX11_weds_18 rfl rfl ?_
  refine a_iadd F dX11_weds_19 ?_
  refine a_iload_n F dX11_weds_20 rfl rfl ?_
  refine a_iconst F dX11_weds_21 ki_1 ?_
  refine a_iadd F dX11_weds_22 ?_
  refine a_gd (a_iast F dX11_weds_23 zl_240 zk_240 ?_)
  refine a_nmS (fun S_2 => ?_)
  refine a_aload_n F dX11_weds_24 rfl rfl ?_
  refine a_callVV F (As := []) cfX11 rfl (c_X11_findsKin X S_2) mw_X11_findsKin ml_X11_113 im_X11_findsKin se_X11_findsKin M0.2.1 (Nat.le_of_ble_eq_true rfl) ⟨Nat.zero_le _, Nat.zero_le _⟩ rfl rfl (Nat.le_of_ble_eq_true rfl) zl_239 zk_239 dX11_weds_25 rfl (fun S_3 => ?_)
  exact a_vret F M0.2.2.1 M0.2.2.2 dX11_weds_28
theorem c_X11_weds (X : CX) (p1 p2 : Int32) (S : Mm) : CtV X Z1 yX11_weds cX11_weds 3 3 [.ref 239, .int p1, .int p2] S (f_X11_weds p1 p2 S) :=
  ctV_of (by decide +kernel) rfl (Nat.le_of_ble_eq_true rfl) (by simp [Value.category]) z1len fun E F R hra hlk => b_X11_weds ⟨F, R, hra, hlk⟩ p1 p2 S
def f_X11_wed (p1 p2 : Int32) (S : Mm) : Option (Int32 × Mm) :=
  nm (uM S 239 0 (0 : Int32)) fun S_1 =>
  (f_X11_canWed p1 p2 S_1).bind fun q_2 =>
  if q_2.1 = 0 then (
   some ((0 : Int32), q_2.2)
  ) else (
   (f_X11_keepsAhead q_2.2).bind fun S_3 =>
   (f_X11_weds p1 p2 S_3).bind fun S_4 =>
   some ((1 : Int32), S_4)
  )
set_option maxRecDepth 20000 in
theorem b_X11_wed {X : CX} {E : FE} (M0 : MF X E RX11 cX11_wed 3 4 (some .boolean)) (p1 p2 : Int32) (S : Mm) : At X E false (mQi X Z1 E) 0 [some (.ref 239), some (.int p1), some (.int p2)] [] Z1 S 0 0 (f_X11_wed p1 p2 S) := by
  have F := M0.1
  unfold f_X11_wed
  refine a_aload_n F dX11_wed_0 rfl rfl ?_
  refine a_iconst F dX11_wed_1 ki_0 ?_
  refine a_putI (k := 0) F cfX11 dX11_wed_2 fl_X11_107 (by decide) fi_11_0 rfl rfl zl_239 zk_239 ?_
  refine a_nmS (fun S_1 => ?_)
  refine a_aload_n F dX11_wed_5 rfl rfl ?_
  refine a_iload_n F dX11_wed_6 rfl rfl ?_
  refine a_iload_n F dX11_wed_7 rfl rfl ?_
  refine a_callVI F (As := [.int p1, .int p2]) cfX11 rfl (c_X11_canWed X p1 p2 S_1) mw_X11_canWed ml_X11_354 im_X11_canWed se_X11_canWed M0.2.1 (Nat.le_of_ble_eq_true rfl) ⟨Nat.zero_le _, Nat.zero_le _⟩ rfl rfl (Nat.le_of_ble_eq_true rfl) zl_239 zk_239 dX11_wed_8 rfl (fun q_2 => ?_)
  refine a_if_ne F 16 dX11_wed_11 (by decide) ?_ ?_
  · refine a_iconst F dX11_wed_14 ki_0 ?_
    exact a_zretK F M0.2.2.1 M0.2.2.2 dX11_wed_15 (Or.inl rfl)
  · refine a_aload_n F dX11_wed_16 rfl rfl ?_
    refine a_callVV F (As := []) cfX11 rfl (c_X11_keepsAhead X q_2.2) mw_X11_keepsAhead ml_X11_357 im_X11_keepsAhead se_X11_keepsAhead M0.2.1 (Nat.le_of_ble_eq_true rfl) ⟨Nat.zero_le _, Nat.zero_le _⟩ rfl rfl (Nat.le_of_ble_eq_true rfl) zl_239 zk_239 dX11_wed_17 rfl (fun S_3 => ?_)
    refine a_aload_n F dX11_wed_20 rfl rfl ?_
    refine a_iload_n F dX11_wed_21 rfl rfl ?_
    refine a_iload_n F dX11_wed_22 rfl rfl ?_
    refine a_callVV F (As := [.int p1, .int p2]) cfX11 rfl (c_X11_weds X p1 p2 S_3) mw_X11_weds ml_X11_360 im_X11_weds se_X11_weds M0.2.1 (Nat.le_of_ble_eq_true rfl) ⟨Nat.zero_le _, Nat.zero_le _⟩ rfl rfl (Nat.le_of_ble_eq_true rfl) zl_239 zk_239 dX11_wed_23 rfl (fun S_4 => ?_)
    refine a_iconst F dX11_wed_26 ki_1 ?_
    exact a_zretK F M0.2.2.1 M0.2.2.2 dX11_wed_27 (Or.inr rfl)
theorem c_X11_wed (X : CX) (p1 p2 : Int32) (S : Mm) : CtI X Z1 yX11_wed cX11_wed 3 (some .boolean) 4 [.ref 239, .int p1, .int p2] S (f_X11_wed p1 p2 S) :=
  ctI_of (by decide +kernel) rfl (Nat.le_of_ble_eq_true rfl) (by simp [Value.category]) z1len fun E F R hra hlk => b_X11_wed ⟨F, R, hra, hlk⟩ p1 p2 S
def f_X11_canWriteDeed (p1 p2 : Int32) (S : Mm) : Option (Int32 × Mm) :=
  (f_X11_lettersOf p1 S).bind fun q_1 =>
  if (p2 &&& (q_1.1 ^^^ (-1 : Int32))) = 0 then (
   some ((1 : Int32), q_1.2)
  ) else (
   some ((0 : Int32), q_1.2)
  )
set_option maxRecDepth 20000 in
theorem b_X11_canWriteDeed {X : CX} {E : FE} (M0 : MF X E RX11 cX11_canWriteDeed 3 4 (some .boolean)) (p1 p2 : Int32) (S : Mm) : At X E false (mQi X Z1 E) 0 [some (.ref 239), some (.int p1), some (.int p2)] [] Z1 S 0 0 (f_X11_canWriteDeed p1 p2 S) := by
  have F := M0.1
  unfold f_X11_canWriteDeed
  refine a_iload_n F dX11_canWriteDeed_0 rfl rfl ?_
  refine a_aload_n F dX11_canWriteDeed_1 rfl rfl ?_
  refine a_iload_n F dX11_canWriteDeed_2 rfl rfl ?_
  refine a_callVI F (As := [.int p1]) cfX11 rfl (c_X11_lettersOf X p1 S) mw_X11_lettersOf ml_X11_321 im_X11_lettersOf se_X11_lettersOf M0.2.1 (Nat.le_of_ble_eq_true rfl) ⟨Nat.zero_le _, Nat.zero_le _⟩ rfl rfl (Nat.le_of_ble_eq_true rfl) zl_239 zk_239 dX11_canWriteDeed_3 rfl (fun q_1 => ?_)
  refine a_iconst F dX11_canWriteDeed_6 ki_m1 ?_
  refine a_ixor F dX11_canWriteDeed_7 ?_
  refine a_iand F dX11_canWriteDeed_8 ?_
  refine a_if_ne F 16 dX11_canWriteDeed_9 (by decide) ?_ ?_
  · refine a_iconst F dX11_canWriteDeed_12 ki_1 ?_
    refine a_goto F 17 dX11_canWriteDeed_13 (by decide) ?_
    exact a_zretK F M0.2.2.1 M0.2.2.2 dX11_canWriteDeed_17 (Or.inr rfl)
  · refine a_iconst F dX11_canWriteDeed_16 ki_0 ?_
    exact a_zretK F M0.2.2.1 M0.2.2.2 dX11_canWriteDeed_17 (Or.inl rfl)
theorem c_X11_canWriteDeed (X : CX) (p1 p2 : Int32) (S : Mm) : CtI X Z1 yX11_canWriteDeed cX11_canWriteDeed 3 (some .boolean) 4 [.ref 239, .int p1, .int p2] S (f_X11_canWriteDeed p1 p2 S) :=
  ctI_of (by decide +kernel) rfl (Nat.le_of_ble_eq_true rfl) (by simp [Value.category]) z1len fun E F R hra hlk => b_X11_canWriteDeed ⟨F, R, hra, hlk⟩ p1 p2 S
def f_X11_canBySecond_111 (k5 : Int32 → Int32 → Int32 → Mm → Option (Int32 × Mm)) (k20 : Int32 → Int32 → Int32 → Int32 → Mm → Option (Int32 × Mm)) (x1 x2 x4 x5 : Int32) (S : Mm) : Option (Int32 × Mm) :=
  nm (x5 + (1 : Int32)) fun x5_1 =>
  k20 x1 x2 x4 x5_1 S
set_option maxRecDepth 20000 in
theorem b_X11_canBySecond_111 {X : CX} {E : FE} (M0 : MF X E RX11 cX11_canBySecond 7 5 (some .boolean)) {k5 : Int32 → Int32 → Int32 → Mm → Option (Int32 × Mm)} (hk5 : ∀ (x1 x2 x4 : Int32) (S : Mm), At X E false (mQi X Z1 E) 5 [some (.ref 239), some (.int x1), some (.int x2), none, some (.int x4), none, none] [] Z1 S 0 0 (k5 x1 x2 x4 S)) {k20 : Int32 → Int32 → Int32 → Int32 → Mm → Option (Int32 × Mm)} (hk20 : ∀ (x1 x2 x4 x5 : Int32) (S : Mm), At X E false (mQi X Z1 E) 20 [some (.ref 239), some (.int x1), some (.int x2), none, some (.int x4), some (.int x5), none] [] Z1 S 0 0 (k20 x1 x2 x4 x5 S)) (x1 x2 x4 x5 : Int32) (S : Mm) : At X E false (mQi X Z1 E) 111 [some (.ref 239), some (.int x1), some (.int x2), none, some (.int x4), some (.int x5), none] [] Z1 S 0 0 (f_X11_canBySecond_111 k5 k20 x1 x2 x4 x5 S) := by
  have F := M0.1
  unfold f_X11_canBySecond_111
  refine a_iincN (L' := fun x5_1 => [some (.ref 239), some (.int x1), some (.int x2), none, some (.int x4), some (.int x5_1), none]) F dX11_canBySecond_111 rfl ki_1 (lt_b rfl) (fun _ => rfl) (fun x5_1 => ?_)
  refine a_goto F 20 dX11_canBySecond_114 (by decide) ?_
  exact hk20 x1 x2 x4 x5_1 S
def f_X11_canBySecond_20b (k5 : Int32 → Int32 → Int32 → Mm → Option (Int32 × Mm)) (k20 : Int32 → Int32 → Int32 → Int32 → Mm → Option (Int32 × Mm)) (x1 x2 x4 x5 : Int32) (S : Mm) : Option (Int32 × Mm) :=
  if (S 239 6) ≤ x5 then (
   nm (x4 + (1 : Int32)) fun x4_1 =>
   k5 x1 x2 x4_1 S
  ) else (
   (f_X11_canWed x4 x5 S).bind fun q_2 =>
   if q_2.1 = 0 then (
    f_X11_canBySecond_111 k5 k20 x1 x2 x4 x5 q_2.2
   ) else (
    (f_X11_weds x4 x5 q_2.2).bind fun S_3 =>
    (f_X11_canWriteDeed x1 x2 S_3).bind fun q_4 =>
    gd (inB ((112 : Int32) + x4) 148 = true) <|
    nm (uM q_4.2 240 (ix ((112 : Int32) + x4)) (0 : Int32)) fun S_5 =>
    gd (inB ((112 : Int32) + x5) 148 = true) <|
    nm (uM S_5 240 (ix ((112 : Int32) + x5)) (0 : Int32)) fun S_6 =>
    (f_X11_findsKin S_6).bind fun S_7 =>
    if q_4.1 = 0 then (
     f_X11_canBySecond_111 k5 k20 x1 x2 x4 x5 S_7
    ) else (
     nm (uM S_7 268 2 x4) fun S_8 =>
     nm (uM S_8 268 3 x5) fun S_9 =>
     some ((1 : Int32), S_9)
    )
   )
  )
set_option maxRecDepth 20000 in
theorem b_X11_canBySecond_20b {X : CX} {E : FE} (M0 : MF X E RX11 cX11_canBySecond 7 5 (some .boolean)) {k5 : Int32 → Int32 → Int32 → Mm → Option (Int32 × Mm)} (hk5 : ∀ (x1 x2 x4 : Int32) (S : Mm), At X E false (mQi X Z1 E) 5 [some (.ref 239), some (.int x1), some (.int x2), none, some (.int x4), none, none] [] Z1 S 0 0 (k5 x1 x2 x4 S)) {k20 : Int32 → Int32 → Int32 → Int32 → Mm → Option (Int32 × Mm)} (hk20 : ∀ (x1 x2 x4 x5 : Int32) (S : Mm), At X E false (mQi X Z1 E) 20 [some (.ref 239), some (.int x1), some (.int x2), none, some (.int x4), some (.int x5), none] [] Z1 S 0 0 (k20 x1 x2 x4 x5 S)) (x1 x2 x4 x5 : Int32) (S : Mm) : At X E false (mQi X Z1 E) 20 [some (.ref 239), some (.int x1), some (.int x2), none, some (.int x4), some (.int x5), none] [] Z1 S 0 0 (f_X11_canBySecond_20b k5 k20 x1 x2 x4 x5 S) := by
  have F := M0.1
  unfold f_X11_canBySecond_20b
  refine a_iload F dX11_canBySecond_20 rfl ?_
  refine a_aload_n F dX11_canBySecond_22 rfl rfl ?_
  refine a_getI (k := 6) F cfX11 dX11_canBySecond_23 fl_X11_122 (by decide) fi_11_6 zl_239 zk_239 ?_
  refine a_icmp_ge F 117 dX11_canBySecond_26 (by decide) ?_ ?_
  · refine a_iincN (L' := fun x4_1 => [some (.ref 239), some (.int x1), some (.int x2), none, some (.int x4_1), some (.int x5), none]) F dX11_canBySecond_117 rfl ki_1 (lt_b rfl) (fun _ => rfl) (fun x4_1 => ?_)
    refine a_goto F 5 dX11_canBySecond_120 (by decide) ?_
    refine a_mask [true, true, true, false, true, false, false] (L' := [some (.ref 239), some (.int x1), some (.int x2), none, some (.int x4_1), none, none]) rfl rfl ?_
    exact hk5 x1 x2 x4_1 S
  · refine a_aload_n F dX11_canBySecond_29 rfl rfl ?_
    refine a_iload F dX11_canBySecond_30 rfl ?_
    refine a_iload F dX11_canBySecond_32 rfl ?_
    refine a_callVI F (As := [.int x4, .int x5]) cfX11 rfl (c_X11_canWed X x4 x5 S) mw_X11_canWed ml_X11_354 im_X11_canWed se_X11_canWed M0.2.1 (Nat.le_of_ble_eq_true rfl) ⟨Nat.zero_le _, Nat.zero_le _⟩ rfl rfl (Nat.le_of_ble_eq_true rfl) zl_239 zk_239 dX11_canBySecond_34 rfl (fun q_2 => ?_)
    refine a_if_ne F 43 dX11_canBySecond_37 (by decide) ?_ ?_
    · refine a_goto F 111 dX11_canBySecond_40 (by decide) ?_
      exact b_X11_canBySecond_111 M0 hk5 hk20 x1 x2 x4 x5 q_2.2
    · refine a_aload_n F dX11_canBySecond_43 rfl rfl ?_
      refine a_iload F dX11_canBySecond_44 rfl ?_
      refine a_iload F dX11_canBySecond_46 rfl ?_
      refine a_callVV F (As := [.int x4, .int x5]) cfX11 rfl (c_X11_weds X x4 x5 q_2.2) mw_X11_weds ml_X11_360 im_X11_weds se_X11_weds M0.2.1 (Nat.le_of_ble_eq_true rfl) ⟨Nat.zero_le _, Nat.zero_le _⟩ rfl rfl (Nat.le_of_ble_eq_true rfl) zl_239 zk_239 dX11_canBySecond_48 rfl (fun S_3 => ?_)
      refine a_aload_n F dX11_canBySecond_51 rfl rfl ?_
      refine a_iload_n F dX11_canBySecond_52 rfl rfl ?_
      refine a_iload_n F dX11_canBySecond_53 rfl rfl ?_
      refine a_callVI F (As := [.int x1, .int x2]) cfX11 rfl (c_X11_canWriteDeed X x1 x2 S_3) mw_X11_canWriteDeed ml_X11_417 im_X11_canWriteDeed se_X11_canWriteDeed M0.2.1 (Nat.le_of_ble_eq_true rfl) ⟨Nat.zero_le _, Nat.zero_le _⟩ rfl rfl (Nat.le_of_ble_eq_true rfl) zl_239 zk_239 dX11_canBySecond_54 rfl (fun q_4 => ?_)
      refine a_istore (L' := [some (.ref 239), some (.int x1), some (.int x2), none, some (.int x4), some (.int x5), some (.int q_4.1)]) F dX11_canBySecond_57 (lt_b rfl) rfl ?_
      refine a_aload_n F dX11_canBySecond_59 rfl rfl ?_
      refine a_getR (k := 1) F cfX11 dX11_canBySecond_60 fl_X11_7 (by decide) fi_11_1 zl_239 zk_239 zr_239_1 ?_
      refine a_bipush F dX11_canBySecond_63 kb_112 ?_
      refine a_iload F dX11_canBySecond_65 rfl ?_
      refine a_iadd F dX11_canBySecond_67 ?_
      refine a_iconst F dX11_canBySecond_68 ki_0 ?_
      refine a_gd (a_iast F dX11_canBySecond_69 zl_240 zk_240 ?_)
      refine a_nmS (fun S_5 => ?_)
      refine a_aload_n F dX11_canBySecond_70 rfl rfl ?_
      refine a_getR (k := 1) F cfX11 dX11_canBySecond_71 fl_X11_7 (by decide) fi_11_1 zl_239 zk_239 zr_239_1 ?_
      refine a_bipush F dX11_canBySecond_74 kb_112 ?_
      refine a_iload F dX11_canBySecond_76 rfl ?_
      refine a_iadd F dX11_canBySecond_78 ?_
      refine a_iconst F dX11_canBySecond_79 ki_0 ?_
      refine a_gd (a_iast F dX11_canBySecond_80 zl_240 zk_240 ?_)
      refine a_nmS (fun S_6 => ?_)
      refine a_aload_n F dX11_canBySecond_81 rfl rfl ?_
      refine a_callVV F (As := []) cfX11 rfl (c_X11_findsKin X S_6) mw_X11_findsKin ml_X11_113 im_X11_findsKin se_X11_findsKin M0.2.1 (Nat.le_of_ble_eq_true rfl) ⟨Nat.zero_le _, Nat.zero_le _⟩ rfl rfl (Nat.le_of_ble_eq_true rfl) zl_239 zk_239 dX11_canBySecond_82 rfl (fun S_7 => ?_)
      refine a_iload F dX11_canBySecond_85 rfl ?_
      refine a_if_ne F 93 dX11_canBySecond_87 (by decide) ?_ ?_
      · refine a_goto F 111 dX11_canBySecond_90 (by decide) ?_
        refine a_mask [true, true, true, false, true, true, false] (L' := [some (.ref 239), some (.int x1), some (.int x2), none, some (.int x4), some (.int x5), none]) rfl rfl ?_
        exact b_X11_canBySecond_111 M0 hk5 hk20 x1 x2 x4 x5 S_7
      · refine a_aload_n F dX11_canBySecond_93 rfl rfl ?_
        refine a_getR (k := 49) F cfX11 dX11_canBySecond_94 fl_X11_101 (by decide) fi_11_49 zl_239 zk_239 zr_239_49 ?_
        refine a_iconst F dX11_canBySecond_97 ki_2 ?_
        refine a_iload F dX11_canBySecond_98 rfl ?_
        refine a_iastK F 2 dX11_canBySecond_100 zl_268 zk_268 ib_2_4 ix_2 ?_
        refine a_nmS (fun S_8 => ?_)
        refine a_aload_n F dX11_canBySecond_101 rfl rfl ?_
        refine a_getR (k := 49) F cfX11 dX11_canBySecond_102 fl_X11_101 (by decide) fi_11_49 zl_239 zk_239 zr_239_49 ?_
        refine a_iconst F dX11_canBySecond_105 ki_3 ?_
        refine a_iload F dX11_canBySecond_106 rfl ?_
        refine a_iastK F 3 dX11_canBySecond_108 zl_268 zk_268 ib_3_4 ix_3 ?_
        refine a_nmS (fun S_9 => ?_)
        refine a_iconst F dX11_canBySecond_109 ki_1 ?_
        exact a_zretK F M0.2.2.1 M0.2.2.2 dX11_canBySecond_110 (Or.inr rfl)
def f_X11_canBySecond_20 (k5 : Int32 → Int32 → Int32 → Mm → Option (Int32 × Mm)) : Nat → Int32 → Int32 → Int32 → Int32 → Mm → Option (Int32 × Mm) :=
  itr (fun _ _ _ _ _ => none) (fun k => f_X11_canBySecond_20b k5 k)
theorem b_X11_canBySecond_20 {X : CX} {E : FE} (M0 : MF X E RX11 cX11_canBySecond 7 5 (some .boolean)) {k5 : Int32 → Int32 → Int32 → Mm → Option (Int32 × Mm)} (hk5 : ∀ (x1 x2 x4 : Int32) (S : Mm), At X E false (mQi X Z1 E) 5 [some (.ref 239), some (.int x1), some (.int x2), none, some (.int x4), none, none] [] Z1 S 0 0 (k5 x1 x2 x4 S)) : ∀ (n : Nat) (x1 x2 x4 x5 : Int32) (S : Mm), At X E false (mQi X Z1 E) 20 [some (.ref 239), some (.int x1), some (.int x2), none, some (.int x4), some (.int x5), none] [] Z1 S 0 0 (f_X11_canBySecond_20 k5 n x1 x2 x4 x5 S) := by
  intro n
  induction n with
  | zero => intros; exact a_none
  | succ n ih => intro x1 x2 x4 x5 S; exact b_X11_canBySecond_20b M0 hk5 ih x1 x2 x4 x5 S
def f_X11_canBySecond_5b (k5 : Int32 → Int32 → Int32 → Mm → Option (Int32 × Mm)) (x1 x2 x4 : Int32) (S : Mm) : Option (Int32 × Mm) :=
  if (S 239 6) ≤ x4 then (
   some ((0 : Int32), S)
  ) else (
   nm ((x4 + (1 : Int32))) fun x5_1 =>
   f_X11_canBySecond_20 k5 FU x1 x2 x4 x5_1 S
  )
set_option maxRecDepth 20000 in
theorem b_X11_canBySecond_5b {X : CX} {E : FE} (M0 : MF X E RX11 cX11_canBySecond 7 5 (some .boolean)) {k5 : Int32 → Int32 → Int32 → Mm → Option (Int32 × Mm)} (hk5 : ∀ (x1 x2 x4 : Int32) (S : Mm), At X E false (mQi X Z1 E) 5 [some (.ref 239), some (.int x1), some (.int x2), none, some (.int x4), none, none] [] Z1 S 0 0 (k5 x1 x2 x4 S)) (x1 x2 x4 : Int32) (S : Mm) : At X E false (mQi X Z1 E) 5 [some (.ref 239), some (.int x1), some (.int x2), none, some (.int x4), none, none] [] Z1 S 0 0 (f_X11_canBySecond_5b k5 x1 x2 x4 S) := by
  have F := M0.1
  unfold f_X11_canBySecond_5b
  refine a_iload F dX11_canBySecond_5 rfl ?_
  refine a_aload_n F dX11_canBySecond_7 rfl rfl ?_
  refine a_getI (k := 6) F cfX11 dX11_canBySecond_8 fl_X11_122 (by decide) fi_11_6 zl_239 zk_239 ?_
  refine a_icmp_ge F 123 dX11_canBySecond_11 (by decide) ?_ ?_
  · refine a_iconst F dX11_canBySecond_123 ki_0 ?_
    exact a_zretK F M0.2.2.1 M0.2.2.2 dX11_canBySecond_124 (Or.inl rfl)
  · refine a_iload F dX11_canBySecond_14 rfl ?_
    refine a_iconst F dX11_canBySecond_16 ki_1 ?_
    refine a_iadd F dX11_canBySecond_17 ?_
    refine a_istoreN (L' := fun x5_1 => [some (.ref 239), some (.int x1), some (.int x2), none, some (.int x4), some (.int x5_1), none]) F dX11_canBySecond_18 (lt_b rfl) (fun _ => rfl) (fun x5_1 => ?_)
    exact b_X11_canBySecond_20 M0 hk5 FU x1 x2 x4 x5_1 S
def f_X11_canBySecond_5 : Nat → Int32 → Int32 → Int32 → Mm → Option (Int32 × Mm) :=
  itr (fun _ _ _ _ => none) (fun k => f_X11_canBySecond_5b k)
theorem b_X11_canBySecond_5 {X : CX} {E : FE} (M0 : MF X E RX11 cX11_canBySecond 7 5 (some .boolean)) : ∀ (n : Nat) (x1 x2 x4 : Int32) (S : Mm), At X E false (mQi X Z1 E) 5 [some (.ref 239), some (.int x1), some (.int x2), none, some (.int x4), none, none] [] Z1 S 0 0 (f_X11_canBySecond_5  n x1 x2 x4 S) := by
  intro n
  induction n with
  | zero => intros; exact a_none
  | succ n ih => intro x1 x2 x4 S; exact b_X11_canBySecond_5b M0 ih x1 x2 x4 S
def f_X11_canBySecond (p1 p2 p3 : Int32) (S : Mm) : Option (Int32 × Mm) :=
  nm ((p3 + (1 : Int32))) fun x4_1 =>
  f_X11_canBySecond_5 FU p1 p2 x4_1 S
set_option maxRecDepth 20000 in
theorem b_X11_canBySecond {X : CX} {E : FE} (M0 : MF X E RX11 cX11_canBySecond 7 5 (some .boolean)) (p1 p2 p3 : Int32) (S : Mm) : At X E false (mQi X Z1 E) 0 [some (.ref 239), some (.int p1), some (.int p2), some (.int p3), none, none, none] [] Z1 S 0 0 (f_X11_canBySecond p1 p2 p3 S) := by
  have F := M0.1
  unfold f_X11_canBySecond
  refine a_iload_n F dX11_canBySecond_0 rfl rfl ?_
  refine a_iconst F dX11_canBySecond_1 ki_1 ?_
  refine a_iadd F dX11_canBySecond_2 ?_
  refine a_istoreN (L' := fun x4_1 => [some (.ref 239), some (.int p1), some (.int p2), some (.int p3), some (.int x4_1), none, none]) F dX11_canBySecond_3 (lt_b rfl) (fun _ => rfl) (fun x4_1 => ?_)
  refine a_mask [true, true, true, false, true, false, false] (L' := [some (.ref 239), some (.int p1), some (.int p2), none, some (.int x4_1), none, none]) rfl rfl ?_
  exact b_X11_canBySecond_5 M0 FU p1 p2 x4_1 S
theorem c_X11_canBySecond (X : CX) (p1 p2 p3 : Int32) (S : Mm) : CtI X Z1 yX11_canBySecond cX11_canBySecond 7 (some .boolean) 5 [.ref 239, .int p1, .int p2, .int p3] S (f_X11_canBySecond p1 p2 p3 S) :=
  ctI_of (by decide +kernel) rfl (Nat.le_of_ble_eq_true rfl) (by simp [Value.category]) z1len fun E F R hra hlk => b_X11_canBySecond ⟨F, R, hra, hlk⟩ p1 p2 p3 S
def f_X11_canByWeddings_125 (k3 : Int32 → Int32 → Int32 → Int32 → Mm → Option (Int32 × Mm)) (k18 : Int32 → Int32 → Int32 → Int32 → Int32 → Mm → Option (Int32 × Mm)) (x1 x2 x3 x4 x5 : Int32) (S : Mm) : Option (Int32 × Mm) :=
  nm (x5 + (1 : Int32)) fun x5_1 =>
  k18 x1 x2 x3 x4 x5_1 S
set_option maxRecDepth 20000 in
theorem b_X11_canByWeddings_125 {X : CX} {E : FE} (M0 : MF X E RX11 cX11_canByWeddings 7 6 (some .boolean)) {k3 : Int32 → Int32 → Int32 → Int32 → Mm → Option (Int32 × Mm)} (hk3 : ∀ (x1 x2 x3 x4 : Int32) (S : Mm), At X E false (mQi X Z1 E) 3 [some (.ref 239), some (.int x1), some (.int x2), some (.int x3), some (.int x4), none, none] [] Z1 S 0 0 (k3 x1 x2 x3 x4 S)) {k18 : Int32 → Int32 → Int32 → Int32 → Int32 → Mm → Option (Int32 × Mm)} (hk18 : ∀ (x1 x2 x3 x4 x5 : Int32) (S : Mm), At X E false (mQi X Z1 E) 18 [some (.ref 239), some (.int x1), some (.int x2), some (.int x3), some (.int x4), some (.int x5), none] [] Z1 S 0 0 (k18 x1 x2 x3 x4 x5 S)) (x1 x2 x3 x4 x5 : Int32) (S : Mm) : At X E false (mQi X Z1 E) 125 [some (.ref 239), some (.int x1), some (.int x2), some (.int x3), some (.int x4), some (.int x5), none] [] Z1 S 0 0 (f_X11_canByWeddings_125 k3 k18 x1 x2 x3 x4 x5 S) := by
  have F := M0.1
  unfold f_X11_canByWeddings_125
  refine a_iincN (L' := fun x5_1 => [some (.ref 239), some (.int x1), some (.int x2), some (.int x3), some (.int x4), some (.int x5_1), none]) F dX11_canByWeddings_125 rfl ki_1 (lt_b rfl) (fun _ => rfl) (fun x5_1 => ?_)
  refine a_goto F 18 dX11_canByWeddings_128 (by decide) ?_
  exact hk18 x1 x2 x3 x4 x5_1 S
def f_X11_canByWeddings_71 (k3 : Int32 → Int32 → Int32 → Int32 → Mm → Option (Int32 × Mm)) (k18 : Int32 → Int32 → Int32 → Int32 → Int32 → Mm → Option (Int32 × Mm)) (x1 x2 x3 x4 x5 t0 : Int32) (S : Mm) : Option (Int32 × Mm) :=
  gd (inB ((112 : Int32) + x4) 148 = true) <|
  nm (uM S 240 (ix ((112 : Int32) + x4)) (0 : Int32)) fun S_1 =>
  gd (inB ((112 : Int32) + x5) 148 = true) <|
  nm (uM S_1 240 (ix ((112 : Int32) + x5)) (0 : Int32)) fun S_2 =>
  (f_X11_findsKin S_2).bind fun S_3 =>
  if t0 = 0 then (
   f_X11_canByWeddings_125 k3 k18 x1 x2 x3 x4 x5 S_3
  ) else (
   nm (uM S_3 268 0 x4) fun S_4 =>
   nm (uM S_4 268 1 x5) fun S_5 =>
   some ((1 : Int32), S_5)
  )
set_option maxRecDepth 20000 in
theorem b_X11_canByWeddings_71 {X : CX} {E : FE} (M0 : MF X E RX11 cX11_canByWeddings 7 6 (some .boolean)) {k3 : Int32 → Int32 → Int32 → Int32 → Mm → Option (Int32 × Mm)} (hk3 : ∀ (x1 x2 x3 x4 : Int32) (S : Mm), At X E false (mQi X Z1 E) 3 [some (.ref 239), some (.int x1), some (.int x2), some (.int x3), some (.int x4), none, none] [] Z1 S 0 0 (k3 x1 x2 x3 x4 S)) {k18 : Int32 → Int32 → Int32 → Int32 → Int32 → Mm → Option (Int32 × Mm)} (hk18 : ∀ (x1 x2 x3 x4 x5 : Int32) (S : Mm), At X E false (mQi X Z1 E) 18 [some (.ref 239), some (.int x1), some (.int x2), some (.int x3), some (.int x4), some (.int x5), none] [] Z1 S 0 0 (k18 x1 x2 x3 x4 x5 S)) (x1 x2 x3 x4 x5 t0 : Int32) (S : Mm) : At X E false (mQi X Z1 E) 71 [some (.ref 239), some (.int x1), some (.int x2), some (.int x3), some (.int x4), some (.int x5), none] [.int t0] Z1 S 0 0 (f_X11_canByWeddings_71 k3 k18 x1 x2 x3 x4 x5 t0 S) := by
  have F := M0.1
  unfold f_X11_canByWeddings_71
  refine a_istore (L' := [some (.ref 239), some (.int x1), some (.int x2), some (.int x3), some (.int x4), some (.int x5), some (.int t0)]) F dX11_canByWeddings_71 (lt_b rfl) rfl ?_
  refine a_aload_n F dX11_canByWeddings_73 rfl rfl ?_
  refine a_getR (k := 1) F cfX11 dX11_canByWeddings_74 fl_X11_7 (by decide) fi_11_1 zl_239 zk_239 zr_239_1 ?_
  refine a_bipush F dX11_canByWeddings_77 kb_112 ?_
  refine a_iload F dX11_canByWeddings_79 rfl ?_
  refine a_iadd F dX11_canByWeddings_81 ?_
  refine a_iconst F dX11_canByWeddings_82 ki_0 ?_
  refine a_gd (a_iast F dX11_canByWeddings_83 zl_240 zk_240 ?_)
  refine a_nmS (fun S_1 => ?_)
  refine a_aload_n F dX11_canByWeddings_84 rfl rfl ?_
  refine a_getR (k := 1) F cfX11 dX11_canByWeddings_85 fl_X11_7 (by decide) fi_11_1 zl_239 zk_239 zr_239_1 ?_
  refine a_bipush F dX11_canByWeddings_88 kb_112 ?_
  refine a_iload F dX11_canByWeddings_90 rfl ?_
  refine a_iadd F dX11_canByWeddings_92 ?_
  refine a_iconst F dX11_canByWeddings_93 ki_0 ?_
  refine a_gd (a_iast F dX11_canByWeddings_94 zl_240 zk_240 ?_)
  refine a_nmS (fun S_2 => ?_)
  refine a_aload_n F dX11_canByWeddings_95 rfl rfl ?_
  refine a_callVV F (As := []) cfX11 rfl (c_X11_findsKin X S_2) mw_X11_findsKin ml_X11_113 im_X11_findsKin se_X11_findsKin M0.2.1 (Nat.le_of_ble_eq_true rfl) ⟨Nat.zero_le _, Nat.zero_le _⟩ rfl rfl (Nat.le_of_ble_eq_true rfl) zl_239 zk_239 dX11_canByWeddings_96 rfl (fun S_3 => ?_)
  refine a_iload F dX11_canByWeddings_99 rfl ?_
  refine a_if_ne F 107 dX11_canByWeddings_101 (by decide) ?_ ?_
  · refine a_goto F 125 dX11_canByWeddings_104 (by decide) ?_
    refine a_mask [true, true, true, true, true, true, false] (L' := [some (.ref 239), some (.int x1), some (.int x2), some (.int x3), some (.int x4), some (.int x5), none]) rfl rfl ?_
    exact b_X11_canByWeddings_125 M0 hk3 hk18 x1 x2 x3 x4 x5 S_3
  · refine a_aload_n F dX11_canByWeddings_107 rfl rfl ?_
    refine a_getR (k := 49) F cfX11 dX11_canByWeddings_108 fl_X11_101 (by decide) fi_11_49 zl_239 zk_239 zr_239_49 ?_
    refine a_iconst F dX11_canByWeddings_111 ki_0 ?_
    refine a_iload F dX11_canByWeddings_112 rfl ?_
    refine a_iastK F 0 dX11_canByWeddings_114 zl_268 zk_268 ib_0_4 ix_0 ?_
    refine a_nmS (fun S_4 => ?_)
    refine a_aload_n F dX11_canByWeddings_115 rfl rfl ?_
    refine a_getR (k := 49) F cfX11 dX11_canByWeddings_116 fl_X11_101 (by decide) fi_11_49 zl_239 zk_239 zr_239_49 ?_
    refine a_iconst F dX11_canByWeddings_119 ki_1 ?_
    refine a_iload F dX11_canByWeddings_120 rfl ?_
    refine a_iastK F 1 dX11_canByWeddings_122 zl_268 zk_268 ib_1_4 ix_1 ?_
    refine a_nmS (fun S_5 => ?_)
    refine a_iconst F dX11_canByWeddings_123 ki_1 ?_
    exact a_zretK F M0.2.2.1 M0.2.2.2 dX11_canByWeddings_124 (Or.inr rfl)
def f_X11_canByWeddings_18b (k3 : Int32 → Int32 → Int32 → Int32 → Mm → Option (Int32 × Mm)) (k18 : Int32 → Int32 → Int32 → Int32 → Int32 → Mm → Option (Int32 × Mm)) (x1 x2 x3 x4 x5 : Int32) (S : Mm) : Option (Int32 × Mm) :=
  if (S 239 6) ≤ x5 then (
   nm (x4 + (1 : Int32)) fun x4_1 =>
   k3 x1 x2 x3 x4_1 S
  ) else (
   (f_X11_canWed x4 x5 S).bind fun q_2 =>
   if q_2.1 = 0 then (
    f_X11_canByWeddings_125 k3 k18 x1 x2 x3 x4 x5 q_2.2
   ) else (
    (f_X11_weds x4 x5 q_2.2).bind fun S_3 =>
    if x3 = (1 : Int32) then (
     (f_X11_canWriteDeed x1 x2 S_3).bind fun q_4 =>
     f_X11_canByWeddings_71 k3 k18 x1 x2 x3 x4 x5 q_4.1 q_4.2
    ) else (
     (f_X11_canBySecond x1 x2 x4 S_3).bind fun q_5 =>
     f_X11_canByWeddings_71 k3 k18 x1 x2 x3 x4 x5 q_5.1 q_5.2
    )
   )
  )
set_option maxRecDepth 20000 in
theorem b_X11_canByWeddings_18b {X : CX} {E : FE} (M0 : MF X E RX11 cX11_canByWeddings 7 6 (some .boolean)) {k3 : Int32 → Int32 → Int32 → Int32 → Mm → Option (Int32 × Mm)} (hk3 : ∀ (x1 x2 x3 x4 : Int32) (S : Mm), At X E false (mQi X Z1 E) 3 [some (.ref 239), some (.int x1), some (.int x2), some (.int x3), some (.int x4), none, none] [] Z1 S 0 0 (k3 x1 x2 x3 x4 S)) {k18 : Int32 → Int32 → Int32 → Int32 → Int32 → Mm → Option (Int32 × Mm)} (hk18 : ∀ (x1 x2 x3 x4 x5 : Int32) (S : Mm), At X E false (mQi X Z1 E) 18 [some (.ref 239), some (.int x1), some (.int x2), some (.int x3), some (.int x4), some (.int x5), none] [] Z1 S 0 0 (k18 x1 x2 x3 x4 x5 S)) (x1 x2 x3 x4 x5 : Int32) (S : Mm) : At X E false (mQi X Z1 E) 18 [some (.ref 239), some (.int x1), some (.int x2), some (.int x3), some (.int x4), some (.int x5), none] [] Z1 S 0 0 (f_X11_canByWeddings_18b k3 k18 x1 x2 x3 x4 x5 S) := by
  have F := M0.1
  unfold f_X11_canByWeddings_18b
  refine a_iload F dX11_canByWeddings_18 rfl ?_
  refine a_aload_n F dX11_canByWeddings_20 rfl rfl ?_
  refine a_getI (k := 6) F cfX11 dX11_canByWeddings_21 fl_X11_122 (by decide) fi_11_6 zl_239 zk_239 ?_
  refine a_icmp_ge F 131 dX11_canByWeddings_24 (by decide) ?_ ?_
  · refine a_iincN (L' := fun x4_1 => [some (.ref 239), some (.int x1), some (.int x2), some (.int x3), some (.int x4_1), some (.int x5), none]) F dX11_canByWeddings_131 rfl ki_1 (lt_b rfl) (fun _ => rfl) (fun x4_1 => ?_)
    refine a_goto F 3 dX11_canByWeddings_134 (by decide) ?_
    refine a_mask [true, true, true, true, true, false, false] (L' := [some (.ref 239), some (.int x1), some (.int x2), some (.int x3), some (.int x4_1), none, none]) rfl rfl ?_
    exact hk3 x1 x2 x3 x4_1 S
  · refine a_aload_n F dX11_canByWeddings_27 rfl rfl ?_
    refine a_iload F dX11_canByWeddings_28 rfl ?_
    refine a_iload F dX11_canByWeddings_30 rfl ?_
    refine a_callVI F (As := [.int x4, .int x5]) cfX11 rfl (c_X11_canWed X x4 x5 S) mw_X11_canWed ml_X11_354 im_X11_canWed se_X11_canWed M0.2.1 (Nat.le_of_ble_eq_true rfl) ⟨Nat.zero_le _, Nat.zero_le _⟩ rfl rfl (Nat.le_of_ble_eq_true rfl) zl_239 zk_239 dX11_canByWeddings_32 rfl (fun q_2 => ?_)
    refine a_if_ne F 41 dX11_canByWeddings_35 (by decide) ?_ ?_
    · refine a_goto F 125 dX11_canByWeddings_38 (by decide) ?_
      exact b_X11_canByWeddings_125 M0 hk3 hk18 x1 x2 x3 x4 x5 q_2.2
    · refine a_aload_n F dX11_canByWeddings_41 rfl rfl ?_
      refine a_iload F dX11_canByWeddings_42 rfl ?_
      refine a_iload F dX11_canByWeddings_44 rfl ?_
      refine a_callVV F (As := [.int x4, .int x5]) cfX11 rfl (c_X11_weds X x4 x5 q_2.2) mw_X11_weds ml_X11_360 im_X11_weds se_X11_weds M0.2.1 (Nat.le_of_ble_eq_true rfl) ⟨Nat.zero_le _, Nat.zero_le _⟩ rfl rfl (Nat.le_of_ble_eq_true rfl) zl_239 zk_239 dX11_canByWeddings_46 rfl (fun S_3 => ?_)
      refine a_iload_n F dX11_canByWeddings_49 rfl rfl ?_
      refine a_iconst F dX11_canByWeddings_50 ki_1 ?_
      refine a_icmp_ne F 63 dX11_canByWeddings_51 (by decide) ?_ ?_
      · refine a_aload_n F dX11_canByWeddings_54 rfl rfl ?_
        refine a_iload_n F dX11_canByWeddings_55 rfl rfl ?_
        refine a_iload_n F dX11_canByWeddings_56 rfl rfl ?_
        refine a_callVI F (As := [.int x1, .int x2]) cfX11 rfl (c_X11_canWriteDeed X x1 x2 S_3) mw_X11_canWriteDeed ml_X11_417 im_X11_canWriteDeed se_X11_canWriteDeed M0.2.1 (Nat.le_of_ble_eq_true rfl) ⟨Nat.zero_le _, Nat.zero_le _⟩ rfl rfl (Nat.le_of_ble_eq_true rfl) zl_239 zk_239 dX11_canByWeddings_57 rfl (fun q_4 => ?_)
        refine a_goto F 71 dX11_canByWeddings_60 (by decide) ?_
        exact b_X11_canByWeddings_71 M0 hk3 hk18 x1 x2 x3 x4 x5 q_4.1 q_4.2
      · refine a_aload_n F dX11_canByWeddings_63 rfl rfl ?_
        refine a_iload_n F dX11_canByWeddings_64 rfl rfl ?_
        refine a_iload_n F dX11_canByWeddings_65 rfl rfl ?_
        refine a_iload F dX11_canByWeddings_66 rfl ?_
        refine a_callVI F (As := [.int x1, .int x2, .int x4]) cfX11 rfl (c_X11_canBySecond X x1 x2 x4 S_3) mw_X11_canBySecond ml_X11_420 im_X11_canBySecond se_X11_canBySecond M0.2.1 (Nat.le_of_ble_eq_true rfl) ⟨Nat.zero_le _, Nat.zero_le _⟩ rfl rfl (Nat.le_of_ble_eq_true rfl) zl_239 zk_239 dX11_canByWeddings_68 rfl (fun q_5 => ?_)
        exact b_X11_canByWeddings_71 M0 hk3 hk18 x1 x2 x3 x4 x5 q_5.1 q_5.2
def f_X11_canByWeddings_18 (k3 : Int32 → Int32 → Int32 → Int32 → Mm → Option (Int32 × Mm)) : Nat → Int32 → Int32 → Int32 → Int32 → Int32 → Mm → Option (Int32 × Mm) :=
  itr (fun _ _ _ _ _ _ => none) (fun k => f_X11_canByWeddings_18b k3 k)
theorem b_X11_canByWeddings_18 {X : CX} {E : FE} (M0 : MF X E RX11 cX11_canByWeddings 7 6 (some .boolean)) {k3 : Int32 → Int32 → Int32 → Int32 → Mm → Option (Int32 × Mm)} (hk3 : ∀ (x1 x2 x3 x4 : Int32) (S : Mm), At X E false (mQi X Z1 E) 3 [some (.ref 239), some (.int x1), some (.int x2), some (.int x3), some (.int x4), none, none] [] Z1 S 0 0 (k3 x1 x2 x3 x4 S)) : ∀ (n : Nat) (x1 x2 x3 x4 x5 : Int32) (S : Mm), At X E false (mQi X Z1 E) 18 [some (.ref 239), some (.int x1), some (.int x2), some (.int x3), some (.int x4), some (.int x5), none] [] Z1 S 0 0 (f_X11_canByWeddings_18 k3 n x1 x2 x3 x4 x5 S) := by
  intro n
  induction n with
  | zero => intros; exact a_none
  | succ n ih => intro x1 x2 x3 x4 x5 S; exact b_X11_canByWeddings_18b M0 hk3 ih x1 x2 x3 x4 x5 S
def f_X11_canByWeddings_3b (k3 : Int32 → Int32 → Int32 → Int32 → Mm → Option (Int32 × Mm)) (x1 x2 x3 x4 : Int32) (S : Mm) : Option (Int32 × Mm) :=
  if (S 239 6) ≤ x4 then (
   some ((0 : Int32), S)
  ) else (
   nm ((x4 + (1 : Int32))) fun x5_1 =>
   f_X11_canByWeddings_18 k3 FU x1 x2 x3 x4 x5_1 S
  )
set_option maxRecDepth 20000 in
theorem b_X11_canByWeddings_3b {X : CX} {E : FE} (M0 : MF X E RX11 cX11_canByWeddings 7 6 (some .boolean)) {k3 : Int32 → Int32 → Int32 → Int32 → Mm → Option (Int32 × Mm)} (hk3 : ∀ (x1 x2 x3 x4 : Int32) (S : Mm), At X E false (mQi X Z1 E) 3 [some (.ref 239), some (.int x1), some (.int x2), some (.int x3), some (.int x4), none, none] [] Z1 S 0 0 (k3 x1 x2 x3 x4 S)) (x1 x2 x3 x4 : Int32) (S : Mm) : At X E false (mQi X Z1 E) 3 [some (.ref 239), some (.int x1), some (.int x2), some (.int x3), some (.int x4), none, none] [] Z1 S 0 0 (f_X11_canByWeddings_3b k3 x1 x2 x3 x4 S) := by
  have F := M0.1
  unfold f_X11_canByWeddings_3b
  refine a_iload F dX11_canByWeddings_3 rfl ?_
  refine a_aload_n F dX11_canByWeddings_5 rfl rfl ?_
  refine a_getI (k := 6) F cfX11 dX11_canByWeddings_6 fl_X11_122 (by decide) fi_11_6 zl_239 zk_239 ?_
  refine a_icmp_ge F 137 dX11_canByWeddings_9 (by decide) ?_ ?_
  · refine a_iconst F dX11_canByWeddings_137 ki_0 ?_
    exact a_zretK F M0.2.2.1 M0.2.2.2 dX11_canByWeddings_138 (Or.inl rfl)
  · refine a_iload F dX11_canByWeddings_12 rfl ?_
    refine a_iconst F dX11_canByWeddings_14 ki_1 ?_
    refine a_iadd F dX11_canByWeddings_15 ?_
    refine a_istoreN (L' := fun x5_1 => [some (.ref 239), some (.int x1), some (.int x2), some (.int x3), some (.int x4), some (.int x5_1), none]) F dX11_canByWeddings_16 (lt_b rfl) (fun _ => rfl) (fun x5_1 => ?_)
    exact b_X11_canByWeddings_18 M0 hk3 FU x1 x2 x3 x4 x5_1 S
def f_X11_canByWeddings_3 : Nat → Int32 → Int32 → Int32 → Int32 → Mm → Option (Int32 × Mm) :=
  itr (fun _ _ _ _ _ => none) (fun k => f_X11_canByWeddings_3b k)
theorem b_X11_canByWeddings_3 {X : CX} {E : FE} (M0 : MF X E RX11 cX11_canByWeddings 7 6 (some .boolean)) : ∀ (n : Nat) (x1 x2 x3 x4 : Int32) (S : Mm), At X E false (mQi X Z1 E) 3 [some (.ref 239), some (.int x1), some (.int x2), some (.int x3), some (.int x4), none, none] [] Z1 S 0 0 (f_X11_canByWeddings_3  n x1 x2 x3 x4 S) := by
  intro n
  induction n with
  | zero => intros; exact a_none
  | succ n ih => intro x1 x2 x3 x4 S; exact b_X11_canByWeddings_3b M0 ih x1 x2 x3 x4 S
def f_X11_canByWeddings (p1 p2 p3 : Int32) (S : Mm) : Option (Int32 × Mm) :=
  f_X11_canByWeddings_3 FU p1 p2 p3 (0 : Int32) S
set_option maxRecDepth 20000 in
theorem b_X11_canByWeddings {X : CX} {E : FE} (M0 : MF X E RX11 cX11_canByWeddings 7 6 (some .boolean)) (p1 p2 p3 : Int32) (S : Mm) : At X E false (mQi X Z1 E) 0 [some (.ref 239), some (.int p1), some (.int p2), some (.int p3), none, none, none] [] Z1 S 0 0 (f_X11_canByWeddings p1 p2 p3 S) := by
  have F := M0.1
  unfold f_X11_canByWeddings
  refine a_iconst F dX11_canByWeddings_0 ki_0 ?_
  refine a_istore (L' := [some (.ref 239), some (.int p1), some (.int p2), some (.int p3), some (.int (0 : Int32)), none, none]) F dX11_canByWeddings_1 (lt_b rfl) rfl ?_
  exact b_X11_canByWeddings_3 M0 FU p1 p2 p3 (0 : Int32) S
theorem c_X11_canByWeddings (X : CX) (p1 p2 p3 : Int32) (S : Mm) : CtI X Z1 yX11_canByWeddings cX11_canByWeddings 7 (some .boolean) 6 [.ref 239, .int p1, .int p2, .int p3] S (f_X11_canByWeddings p1 p2 p3 S) :=
  ctI_of (by decide +kernel) rfl (Nat.le_of_ble_eq_true rfl) (by simp [Value.category]) z1len fun E F R hra hlk => b_X11_canByWeddings ⟨F, R, hra, hlk⟩ p1 p2 p3 S
def f_X11_fewestWeddings_2b (k2 : Int32 → Int32 → Int32 → Mm → Option (Int32 × Mm)) (x1 x2 x3 : Int32) (S : Mm) : Option (Int32 × Mm) :=
  if (4 : Int32) ≤ x3 then (
   (f_X11_canWriteDeed x1 x2 S).bind fun q_1 =>
   if q_1.1 = 0 then (
    (f_X11_canByWeddings x1 x2 (1 : Int32) q_1.2).bind fun q_2 =>
    if q_2.1 = 0 then (
     (f_X11_canByWeddings x1 x2 (2 : Int32) q_2.2).bind fun q_3 =>
     if q_3.1 = 0 then (
      some ((-1 : Int32), q_3.2)
     ) else (
      some ((2 : Int32), q_3.2)
     )
    ) else (
     some ((1 : Int32), q_2.2)
    )
   ) else (
    some ((0 : Int32), q_1.2)
   )
  ) else (
   gd (inB x3 4 = true) <|
   nm (uM S 268 (ix x3) (-1 : Int32)) fun S_4 =>
   nm (x3 + (1 : Int32)) fun x3_5 =>
   k2 x1 x2 x3_5 S_4
  )
set_option maxRecDepth 20000 in
theorem b_X11_fewestWeddings_2b {X : CX} {E : FE} (M0 : MF X E RX11 cX11_fewestWeddings 4 7 (some .int)) {k2 : Int32 → Int32 → Int32 → Mm → Option (Int32 × Mm)} (hk2 : ∀ (x1 x2 x3 : Int32) (S : Mm), At X E false (mQi X Z1 E) 2 [some (.ref 239), some (.int x1), some (.int x2), some (.int x3)] [] Z1 S 0 0 (k2 x1 x2 x3 S)) (x1 x2 x3 : Int32) (S : Mm) : At X E false (mQi X Z1 E) 2 [some (.ref 239), some (.int x1), some (.int x2), some (.int x3)] [] Z1 S 0 0 (f_X11_fewestWeddings_2b k2 x1 x2 x3 S) := by
  have F := M0.1
  unfold f_X11_fewestWeddings_2b
  refine a_iload_n F dX11_fewestWeddings_2 rfl rfl ?_
  refine a_iconst F dX11_fewestWeddings_3 ki_4 ?_
  refine a_icmp_ge F 20 dX11_fewestWeddings_4 (by decide) ?_ ?_
  · refine a_aload_n F dX11_fewestWeddings_20 rfl rfl ?_
    refine a_iload_n F dX11_fewestWeddings_21 rfl rfl ?_
    refine a_iload_n F dX11_fewestWeddings_22 rfl rfl ?_
    refine a_callVI F (As := [.int x1, .int x2]) cfX11 rfl (c_X11_canWriteDeed X x1 x2 S) mw_X11_canWriteDeed ml_X11_417 im_X11_canWriteDeed se_X11_canWriteDeed M0.2.1 (Nat.le_of_ble_eq_true rfl) ⟨Nat.zero_le _, Nat.zero_le _⟩ rfl rfl (Nat.le_of_ble_eq_true rfl) zl_239 zk_239 dX11_fewestWeddings_23 rfl (fun q_1 => ?_)
    refine a_if_eq F 31 dX11_fewestWeddings_26 (by decide) ?_ ?_
    · refine a_aload_n F dX11_fewestWeddings_31 rfl rfl ?_
      refine a_iload_n F dX11_fewestWeddings_32 rfl rfl ?_
      refine a_iload_n F dX11_fewestWeddings_33 rfl rfl ?_
      refine a_iconst F dX11_fewestWeddings_34 ki_1 ?_
      refine a_callVI F (As := [.int x1, .int x2, .int (1 : Int32)]) cfX11 rfl (c_X11_canByWeddings X x1 x2 (1 : Int32) q_1.2) mw_X11_canByWeddings ml_X11_423 im_X11_canByWeddings se_X11_canByWeddings M0.2.1 (Nat.le_of_ble_eq_true rfl) ⟨Nat.zero_le _, Nat.zero_le _⟩ rfl rfl (Nat.le_of_ble_eq_true rfl) zl_239 zk_239 dX11_fewestWeddings_35 rfl (fun q_2 => ?_)
      refine a_if_eq F 43 dX11_fewestWeddings_38 (by decide) ?_ ?_
      · refine a_aload_n F dX11_fewestWeddings_43 rfl rfl ?_
        refine a_iload_n F dX11_fewestWeddings_44 rfl rfl ?_
        refine a_iload_n F dX11_fewestWeddings_45 rfl rfl ?_
        refine a_iconst F dX11_fewestWeddings_46 ki_2 ?_
        refine a_callVI F (As := [.int x1, .int x2, .int (2 : Int32)]) cfX11 rfl (c_X11_canByWeddings X x1 x2 (2 : Int32) q_2.2) mw_X11_canByWeddings ml_X11_423 im_X11_canByWeddings se_X11_canByWeddings M0.2.1 (Nat.le_of_ble_eq_true rfl) ⟨Nat.zero_le _, Nat.zero_le _⟩ rfl rfl (Nat.le_of_ble_eq_true rfl) zl_239 zk_239 dX11_fewestWeddings_47 rfl (fun q_3 => ?_)
        refine a_if_eq F 57 dX11_fewestWeddings_50 (by decide) ?_ ?_
        · refine a_iconst F dX11_fewestWeddings_57 ki_m1 ?_
          exact a_iret F M0.2.2.1 M0.2.2.2 dX11_fewestWeddings_58
        · refine a_iconst F dX11_fewestWeddings_53 ki_2 ?_
          refine a_goto F 58 dX11_fewestWeddings_54 (by decide) ?_
          exact a_iret F M0.2.2.1 M0.2.2.2 dX11_fewestWeddings_58
      · refine a_iconst F dX11_fewestWeddings_41 ki_1 ?_
        exact a_iret F M0.2.2.1 M0.2.2.2 dX11_fewestWeddings_42
    · refine a_iconst F dX11_fewestWeddings_29 ki_0 ?_
      exact a_iret F M0.2.2.1 M0.2.2.2 dX11_fewestWeddings_30
  · refine a_aload_n F dX11_fewestWeddings_7 rfl rfl ?_
    refine a_getR (k := 49) F cfX11 dX11_fewestWeddings_8 fl_X11_101 (by decide) fi_11_49 zl_239 zk_239 zr_239_49 ?_
    refine a_iload_n F dX11_fewestWeddings_11 rfl rfl ?_
    refine a_iconst F dX11_fewestWeddings_12 ki_m1 ?_
    refine a_gd (a_iast F dX11_fewestWeddings_13 zl_268 zk_268 ?_)
    refine a_nmS (fun S_4 => ?_)
    refine a_iincN (L' := fun x3_5 => [some (.ref 239), some (.int x1), some (.int x2), some (.int x3_5)]) F dX11_fewestWeddings_14 rfl ki_1 (lt_b rfl) (fun _ => rfl) (fun x3_5 => ?_)
    refine a_goto F 2 dX11_fewestWeddings_17 (by decide) ?_
    exact hk2 x1 x2 x3_5 S_4
def f_X11_fewestWeddings_2 : Nat → Int32 → Int32 → Int32 → Mm → Option (Int32 × Mm) :=
  itr (fun _ _ _ _ => none) (fun k => f_X11_fewestWeddings_2b k)
theorem b_X11_fewestWeddings_2 {X : CX} {E : FE} (M0 : MF X E RX11 cX11_fewestWeddings 4 7 (some .int)) : ∀ (n : Nat) (x1 x2 x3 : Int32) (S : Mm), At X E false (mQi X Z1 E) 2 [some (.ref 239), some (.int x1), some (.int x2), some (.int x3)] [] Z1 S 0 0 (f_X11_fewestWeddings_2  n x1 x2 x3 S) := by
  intro n
  induction n with
  | zero => intros; exact a_none
  | succ n ih => intro x1 x2 x3 S; exact b_X11_fewestWeddings_2b M0 ih x1 x2 x3 S
def f_X11_fewestWeddings (p1 p2 : Int32) (S : Mm) : Option (Int32 × Mm) :=
  f_X11_fewestWeddings_2 FU p1 p2 (0 : Int32) S
set_option maxRecDepth 20000 in
theorem b_X11_fewestWeddings {X : CX} {E : FE} (M0 : MF X E RX11 cX11_fewestWeddings 4 7 (some .int)) (p1 p2 : Int32) (S : Mm) : At X E false (mQi X Z1 E) 0 [some (.ref 239), some (.int p1), some (.int p2), none] [] Z1 S 0 0 (f_X11_fewestWeddings p1 p2 S) := by
  have F := M0.1
  unfold f_X11_fewestWeddings
  refine a_iconst F dX11_fewestWeddings_0 ki_0 ?_
  refine a_istore_n (L' := [some (.ref 239), some (.int p1), some (.int p2), some (.int (0 : Int32))]) F dX11_fewestWeddings_1 rfl (lt_b rfl) rfl ?_
  exact b_X11_fewestWeddings_2 M0 FU p1 p2 (0 : Int32) S
theorem c_X11_fewestWeddings (X : CX) (p1 p2 : Int32) (S : Mm) : CtI X Z1 yX11_fewestWeddings cX11_fewestWeddings 4 (some .int) 7 [.ref 239, .int p1, .int p2] S (f_X11_fewestWeddings p1 p2 S) :=
  ctI_of (by decide +kernel) rfl (Nat.le_of_ble_eq_true rfl) (by simp [Value.category]) z1len fun E F R hra hlk => b_X11_fewestWeddings ⟨F, R, hra, hlk⟩ p1 p2 S
def f_X11_weddings (p1 p2 p3 : Int32) (S : Mm) : Option (Int32 × Mm) :=
  nm (uM S 239 0 (0 : Int32)) fun S_1 =>
  (f_X11_isLiving p1 S_1).bind fun q_2 =>
  if q_2.1 = 0 then (
   some ((-1 : Int32), q_2.2)
  ) else (
   (f_X11_isDeed p2 q_2.2).bind fun q_3 =>
   if q_3.1 = 0 then (
    some ((-1 : Int32), q_3.2)
   ) else (
    (f_X11_isIn p3 (0 : Int32) (4 : Int32) q_3.2).bind fun q_4 =>
    if q_4.1 = 0 then (
     some ((-1 : Int32), q_4.2)
    ) else (
     gd (inB p2 8 = true) <|
     (f_X11_fewestWeddings p1 (q_4.2 263 (ix p2)) q_4.2).bind fun q_5 =>
     if p3 = 0 then (
      some (q_5.1, q_5.2)
     ) else (
      gd (inB (p3 - (1 : Int32)) 4 = true) <|
      some ((q_5.2 268 (ix (p3 - (1 : Int32)))), q_5.2)
     )
    )
   )
  )
set_option maxRecDepth 20000 in
theorem b_X11_weddings {X : CX} {E : FE} (M0 : MF X E RX11 cX11_weddings 5 8 (some .int)) (p1 p2 p3 : Int32) (S : Mm) : At X E false (mQi X Z1 E) 0 [some (.ref 239), some (.int p1), some (.int p2), some (.int p3), none] [] Z1 S 0 0 (f_X11_weddings p1 p2 p3 S) := by
  have F := M0.1
  unfold f_X11_weddings
  refine a_aload_n F dX11_weddings_0 rfl rfl ?_
  refine a_iconst F dX11_weddings_1 ki_0 ?_
  refine a_putI (k := 0) F cfX11 dX11_weddings_2 fl_X11_107 (by decide) fi_11_0 rfl rfl zl_239 zk_239 ?_
  refine a_nmS (fun S_1 => ?_)
  refine a_aload_n F dX11_weddings_5 rfl rfl ?_
  refine a_iload_n F dX11_weddings_6 rfl rfl ?_
  refine a_callVI F (As := [.int p1]) cfX11 rfl (c_X11_isLiving X p1 S_1) mw_X11_isLiving ml_X11_151 im_X11_isLiving se_X11_isLiving M0.2.1 (Nat.le_of_ble_eq_true rfl) ⟨Nat.zero_le _, Nat.zero_le _⟩ rfl rfl (Nat.le_of_ble_eq_true rfl) zl_239 zk_239 dX11_weddings_7 rfl (fun q_2 => ?_)
  refine a_if_eq F 31 dX11_weddings_10 (by decide) ?_ ?_
  · refine a_iconst F dX11_weddings_31 ki_m1 ?_
    exact a_iret F M0.2.2.1 M0.2.2.2 dX11_weddings_32
  · refine a_aload_n F dX11_weddings_13 rfl rfl ?_
    refine a_iload_n F dX11_weddings_14 rfl rfl ?_
    refine a_callVI F (As := [.int p2]) cfX11 rfl (c_X11_isDeed X p2 q_2.2) mw_X11_isDeed ml_X11_369 im_X11_isDeed se_X11_isDeed M0.2.1 (Nat.le_of_ble_eq_true rfl) ⟨Nat.zero_le _, Nat.zero_le _⟩ rfl rfl (Nat.le_of_ble_eq_true rfl) zl_239 zk_239 dX11_weddings_15 rfl (fun q_3 => ?_)
    refine a_if_eq F 31 dX11_weddings_18 (by decide) ?_ ?_
    · refine a_iconst F dX11_weddings_31 ki_m1 ?_
      exact a_iret F M0.2.2.1 M0.2.2.2 dX11_weddings_32
    · refine a_aload_n F dX11_weddings_21 rfl rfl ?_
      refine a_iload_n F dX11_weddings_22 rfl rfl ?_
      refine a_iconst F dX11_weddings_23 ki_0 ?_
      refine a_iconst F dX11_weddings_24 ki_4 ?_
      refine a_callVI F (As := [.int p3, .int (0 : Int32), .int (4 : Int32)]) cfX11 rfl (c_X11_isIn X p3 (0 : Int32) (4 : Int32) q_3.2) mw_X11_isIn ml_X11_147 im_X11_isIn se_X11_isIn M0.2.1 (Nat.le_of_ble_eq_true rfl) ⟨Nat.zero_le _, Nat.zero_le _⟩ rfl rfl (Nat.le_of_ble_eq_true rfl) zl_239 zk_239 dX11_weddings_25 rfl (fun q_4 => ?_)
      refine a_if_ne F 33 dX11_weddings_28 (by decide) ?_ ?_
      · refine a_iconst F dX11_weddings_31 ki_m1 ?_
        exact a_iret F M0.2.2.1 M0.2.2.2 dX11_weddings_32
      · refine a_aload_n F dX11_weddings_33 rfl rfl ?_
        refine a_iload_n F dX11_weddings_34 rfl rfl ?_
        refine a_aload_n F dX11_weddings_35 rfl rfl ?_
        refine a_getR (k := 42) F cfX11 dX11_weddings_36 fl_X11_83 (by decide) fi_11_42 zl_239 zk_239 zr_239_42 ?_
        refine a_iload_n F dX11_weddings_39 rfl rfl ?_
        refine a_gd (a_iald F dX11_weddings_40 zl_263 zk_263 ?_)
        refine a_callVI F (As := [.int p1, .int (q_4.2 263 (ix p2))]) cfX11 rfl (c_X11_fewestWeddings X p1 (q_4.2 263 (ix p2)) q_4.2) mw_X11_fewestWeddings ml_X11_426 im_X11_fewestWeddings se_X11_fewestWeddings M0.2.1 (Nat.le_of_ble_eq_true rfl) ⟨Nat.zero_le _, Nat.zero_le _⟩ rfl rfl (Nat.le_of_ble_eq_true rfl) zl_239 zk_239 dX11_weddings_41 rfl (fun q_5 => ?_)
        refine a_istore (L' := [some (.ref 239), some (.int p1), some (.int p2), some (.int p3), some (.int q_5.1)]) F dX11_weddings_44 (lt_b rfl) rfl ?_
        refine a_iload_n F dX11_weddings_46 rfl rfl ?_
        refine a_if_ne F 55 dX11_weddings_47 (by decide) ?_ ?_
        · refine a_iload F dX11_weddings_50 rfl ?_
          refine a_goto F 63 dX11_weddings_52 (by decide) ?_
          exact a_iret F M0.2.2.1 M0.2.2.2 dX11_weddings_63
        · refine a_aload_n F dX11_weddings_55 rfl rfl ?_
          refine a_getR (k := 49) F cfX11 dX11_weddings_56 fl_X11_101 (by decide) fi_11_49 zl_239 zk_239 zr_239_49 ?_
          refine a_iload_n F dX11_weddings_59 rfl rfl ?_
          refine a_iconst F dX11_weddings_60 ki_1 ?_
          refine a_isub F dX11_weddings_61 ?_
          refine a_gd (a_iald F dX11_weddings_62 zl_268 zk_268 ?_)
          exact a_iret F M0.2.2.1 M0.2.2.2 dX11_weddings_63
theorem c_X11_weddings (X : CX) (p1 p2 p3 : Int32) (S : Mm) : CtI X Z1 yX11_weddings cX11_weddings 5 (some .int) 8 [.ref 239, .int p1, .int p2, .int p3] S (f_X11_weddings p1 p2 p3 S) :=
  ctI_of (by decide +kernel) rfl (Nat.le_of_ble_eq_true rfl) (by simp [Value.category]) z1len fun E F R hra hlk => b_X11_weddings ⟨F, R, hra, hlk⟩ p1 p2 p3 S
def f_X11_whenCan_90 (x3 : Int32) (S : Mm) : Option (Int32 × Mm) :=
  (f_X11_endsThought S).bind fun S_1 =>
  some (x3, S_1)
set_option maxRecDepth 20000 in
theorem b_X11_whenCan_90 {X : CX} {E : FE} (M0 : MF X E RX11 cX11_whenCan 5 8 (some .int)) (x3 : Int32) (S : Mm) : At X E false (mQi X Z1 E) 90 [some (.ref 239), none, none, some (.int x3), none] [] Z1 S 0 0 (f_X11_whenCan_90 x3 S) := by
  have F := M0.1
  unfold f_X11_whenCan_90
  refine a_aload_n F dX11_whenCan_90 rfl rfl ?_
  refine a_callVV F (As := []) cfX11 rfl (c_X11_endsThought X S) mw_X11_endsThought ml_X11_432 im_X11_endsThought se_X11_endsThought M0.2.1 (Nat.le_of_ble_eq_true rfl) ⟨Nat.zero_le _, Nat.zero_le _⟩ rfl rfl (Nat.le_of_ble_eq_true rfl) zl_239 zk_239 dX11_whenCan_91 rfl (fun S_1 => ?_)
  refine a_iload_n F dX11_whenCan_94 rfl rfl ?_
  exact a_iret F M0.2.2.1 M0.2.2.2 dX11_whenCan_95
def f_X11_whenCan_84 (k32 : Int32 → Int32 → Int32 → Int32 → Mm → Option (Int32 × Mm)) (x1 x2 x3 x4 : Int32) (S : Mm) : Option (Int32 × Mm) :=
  nm (x4 + (1 : Int32)) fun x4_1 =>
  k32 x1 x2 x3 x4_1 S
set_option maxRecDepth 20000 in
theorem b_X11_whenCan_84 {X : CX} {E : FE} (M0 : MF X E RX11 cX11_whenCan 5 8 (some .int)) {k32 : Int32 → Int32 → Int32 → Int32 → Mm → Option (Int32 × Mm)} (hk32 : ∀ (x1 x2 x3 x4 : Int32) (S : Mm), At X E false (mQi X Z1 E) 32 [some (.ref 239), some (.int x1), some (.int x2), some (.int x3), some (.int x4)] [] Z1 S 0 0 (k32 x1 x2 x3 x4 S)) (x1 x2 x3 x4 : Int32) (S : Mm) : At X E false (mQi X Z1 E) 84 [some (.ref 239), some (.int x1), some (.int x2), some (.int x3), some (.int x4)] [] Z1 S 0 0 (f_X11_whenCan_84 k32 x1 x2 x3 x4 S) := by
  have F := M0.1
  unfold f_X11_whenCan_84
  refine a_iincN (L' := fun x4_1 => [some (.ref 239), some (.int x1), some (.int x2), some (.int x3), some (.int x4_1)]) F dX11_whenCan_84 rfl ki_1 (lt_b rfl) (fun _ => rfl) (fun x4_1 => ?_)
  refine a_goto F 32 dX11_whenCan_87 (by decide) ?_
  exact hk32 x1 x2 x3 x4_1 S
def f_X11_whenCan_55 (k32 : Int32 → Int32 → Int32 → Int32 → Mm → Option (Int32 × Mm)) (x1 x2 x3 x4 : Int32) (S : Mm) : Option (Int32 × Mm) :=
  (f_X11_doesLive x1 S).bind fun q_1 =>
  if q_1.1 = 0 then (
   f_X11_whenCan_84 k32 x1 x2 x3 x4 q_1.2
  ) else (
   gd (inB x2 8 = true) <|
   (f_X11_canWriteDeed x1 (q_1.2 263 (ix x2)) q_1.2).bind fun q_2 =>
   if q_2.1 = 0 then (
    f_X11_whenCan_84 k32 x1 x2 x3 x4 q_2.2
   ) else (
    nm ((q_2.2 240 0)) fun x3_3 =>
    f_X11_whenCan_84 k32 x1 x2 x3_3 x4 q_2.2
   )
  )
set_option maxRecDepth 20000 in
theorem b_X11_whenCan_55 {X : CX} {E : FE} (M0 : MF X E RX11 cX11_whenCan 5 8 (some .int)) {k32 : Int32 → Int32 → Int32 → Int32 → Mm → Option (Int32 × Mm)} (hk32 : ∀ (x1 x2 x3 x4 : Int32) (S : Mm), At X E false (mQi X Z1 E) 32 [some (.ref 239), some (.int x1), some (.int x2), some (.int x3), some (.int x4)] [] Z1 S 0 0 (k32 x1 x2 x3 x4 S)) (x1 x2 x3 x4 : Int32) (S : Mm) : At X E false (mQi X Z1 E) 55 [some (.ref 239), some (.int x1), some (.int x2), some (.int x3), some (.int x4)] [] Z1 S 0 0 (f_X11_whenCan_55 k32 x1 x2 x3 x4 S) := by
  have F := M0.1
  unfold f_X11_whenCan_55
  refine a_aload_n F dX11_whenCan_55 rfl rfl ?_
  refine a_iload_n F dX11_whenCan_56 rfl rfl ?_
  refine a_callVI F (As := [.int x1]) cfX11 rfl (c_X11_doesLive X x1 S) mw_X11_doesLive ml_X11_132 im_X11_doesLive se_X11_doesLive M0.2.1 (Nat.le_of_ble_eq_true rfl) ⟨Nat.zero_le _, Nat.zero_le _⟩ rfl rfl (Nat.le_of_ble_eq_true rfl) zl_239 zk_239 dX11_whenCan_57 rfl (fun q_1 => ?_)
  refine a_if_eq F 84 dX11_whenCan_60 (by decide) ?_ ?_
  · exact b_X11_whenCan_84 M0 hk32 x1 x2 x3 x4 q_1.2
  · refine a_aload_n F dX11_whenCan_63 rfl rfl ?_
    refine a_iload_n F dX11_whenCan_64 rfl rfl ?_
    refine a_aload_n F dX11_whenCan_65 rfl rfl ?_
    refine a_getR (k := 42) F cfX11 dX11_whenCan_66 fl_X11_83 (by decide) fi_11_42 zl_239 zk_239 zr_239_42 ?_
    refine a_iload_n F dX11_whenCan_69 rfl rfl ?_
    refine a_gd (a_iald F dX11_whenCan_70 zl_263 zk_263 ?_)
    refine a_callVI F (As := [.int x1, .int (q_1.2 263 (ix x2))]) cfX11 rfl (c_X11_canWriteDeed X x1 (q_1.2 263 (ix x2)) q_1.2) mw_X11_canWriteDeed ml_X11_417 im_X11_canWriteDeed se_X11_canWriteDeed M0.2.1 (Nat.le_of_ble_eq_true rfl) ⟨Nat.zero_le _, Nat.zero_le _⟩ rfl rfl (Nat.le_of_ble_eq_true rfl) zl_239 zk_239 dX11_whenCan_71 rfl (fun q_2 => ?_)
    refine a_if_eq F 84 dX11_whenCan_74 (by decide) ?_ ?_
    · exact b_X11_whenCan_84 M0 hk32 x1 x2 x3 x4 q_2.2
    · refine a_aload_n F dX11_whenCan_77 rfl rfl ?_
      refine a_getR (k := 1) F cfX11 dX11_whenCan_78 fl_X11_7 (by decide) fi_11_1 zl_239 zk_239 zr_239_1 ?_
      refine a_iconst F dX11_whenCan_81 ki_0 ?_
      refine a_ialdK F 0 dX11_whenCan_82 zl_240 zk_240 ib_0_148 ix_0 ?_
      refine a_istore_nN (L' := fun x3_3 => [some (.ref 239), some (.int x1), some (.int x2), some (.int x3_3), some (.int x4)]) F dX11_whenCan_83 rfl (lt_b rfl) (fun _ => rfl) (fun x3_3 => ?_)
      exact b_X11_whenCan_84 M0 hk32 x1 x2 x3_3 x4 q_2.2
def f_X11_whenCan_32b (k32 : Int32 → Int32 → Int32 → Int32 → Mm → Option (Int32 × Mm)) (x1 x2 x3 x4 : Int32) (S : Mm) : Option (Int32 × Mm) :=
  if (400 : Int32) < x4 then (
   f_X11_whenCan_90 x3 S
  ) else (
   if x3 = (-1 : Int32) then (
    if x4 ≤ 0 then (
     f_X11_whenCan_55 k32 x1 x2 x3 x4 S
    ) else (
     (f_X11_ends S).bind fun q_1 =>
     f_X11_whenCan_55 k32 x1 x2 x3 x4 q_1.2
    )
   ) else (
    f_X11_whenCan_90 x3 S
   )
  )
set_option maxRecDepth 20000 in
theorem b_X11_whenCan_32b {X : CX} {E : FE} (M0 : MF X E RX11 cX11_whenCan 5 8 (some .int)) {k32 : Int32 → Int32 → Int32 → Int32 → Mm → Option (Int32 × Mm)} (hk32 : ∀ (x1 x2 x3 x4 : Int32) (S : Mm), At X E false (mQi X Z1 E) 32 [some (.ref 239), some (.int x1), some (.int x2), some (.int x3), some (.int x4)] [] Z1 S 0 0 (k32 x1 x2 x3 x4 S)) (x1 x2 x3 x4 : Int32) (S : Mm) : At X E false (mQi X Z1 E) 32 [some (.ref 239), some (.int x1), some (.int x2), some (.int x3), some (.int x4)] [] Z1 S 0 0 (f_X11_whenCan_32b k32 x1 x2 x3 x4 S) := by
  have F := M0.1
  unfold f_X11_whenCan_32b
  refine a_iload F dX11_whenCan_32 rfl ?_
  refine a_sipush F dX11_whenCan_34 ks_400 ?_
  refine a_icmp_gt F 90 dX11_whenCan_37 (by decide) ?_ ?_
  · refine a_mask [true, false, false, true, false] (L' := [some (.ref 239), none, none, some (.int x3), none]) rfl rfl ?_
    exact b_X11_whenCan_90 M0 x3 S
  · refine a_iload_n F dX11_whenCan_40 rfl rfl ?_
    refine a_iconst F dX11_whenCan_41 ki_m1 ?_
    refine a_icmp_ne F 90 dX11_whenCan_42 (by decide) ?_ ?_
    · refine a_iload F dX11_whenCan_45 rfl ?_
      refine a_if_le F 55 dX11_whenCan_47 (by decide) ?_ ?_
      · exact b_X11_whenCan_55 M0 hk32 x1 x2 x3 x4 S
      · refine a_aload_n F dX11_whenCan_50 rfl rfl ?_
        refine a_callVI F (As := []) cfX11 rfl (c_X11_ends X S) mw_X11_ends ml_X11_390 im_X11_ends se_X11_ends M0.2.1 (Nat.le_of_ble_eq_true rfl) ⟨Nat.zero_le _, Nat.zero_le _⟩ rfl rfl (Nat.le_of_ble_eq_true rfl) zl_239 zk_239 dX11_whenCan_51 rfl (fun q_1 => ?_)
        refine a_pop F dX11_whenCan_54 rfl ?_
        exact b_X11_whenCan_55 M0 hk32 x1 x2 x3 x4 q_1.2
    · refine a_mask [true, false, false, true, false] (L' := [some (.ref 239), none, none, some (.int x3), none]) rfl rfl ?_
      exact b_X11_whenCan_90 M0 x3 S
def f_X11_whenCan_32 : Nat → Int32 → Int32 → Int32 → Int32 → Mm → Option (Int32 × Mm) :=
  itr (fun _ _ _ _ _ => none) (fun k => f_X11_whenCan_32b k)
theorem b_X11_whenCan_32 {X : CX} {E : FE} (M0 : MF X E RX11 cX11_whenCan 5 8 (some .int)) : ∀ (n : Nat) (x1 x2 x3 x4 : Int32) (S : Mm), At X E false (mQi X Z1 E) 32 [some (.ref 239), some (.int x1), some (.int x2), some (.int x3), some (.int x4)] [] Z1 S 0 0 (f_X11_whenCan_32  n x1 x2 x3 x4 S) := by
  intro n
  induction n with
  | zero => intros; exact a_none
  | succ n ih => intro x1 x2 x3 x4 S; exact b_X11_whenCan_32b M0 ih x1 x2 x3 x4 S
def f_X11_whenCan (p1 p2 : Int32) (S : Mm) : Option (Int32 × Mm) :=
  nm (uM S 239 0 (0 : Int32)) fun S_1 =>
  (f_X11_isPerson p1 S_1).bind fun q_2 =>
  if q_2.1 = 0 then (
   some ((-1 : Int32), q_2.2)
  ) else (
   (f_X11_isDeed p2 q_2.2).bind fun q_3 =>
   if q_3.1 = 0 then (
    some ((-1 : Int32), q_3.2)
   ) else (
    (f_X11_thinks q_3.2).bind fun S_4 =>
    f_X11_whenCan_32 FU p1 p2 (-1 : Int32) (0 : Int32) S_4
   )
  )
set_option maxRecDepth 20000 in
theorem b_X11_whenCan {X : CX} {E : FE} (M0 : MF X E RX11 cX11_whenCan 5 8 (some .int)) (p1 p2 : Int32) (S : Mm) : At X E false (mQi X Z1 E) 0 [some (.ref 239), some (.int p1), some (.int p2), none, none] [] Z1 S 0 0 (f_X11_whenCan p1 p2 S) := by
  have F := M0.1
  unfold f_X11_whenCan
  refine a_aload_n F dX11_whenCan_0 rfl rfl ?_
  refine a_iconst F dX11_whenCan_1 ki_0 ?_
  refine a_putI (k := 0) F cfX11 dX11_whenCan_2 fl_X11_107 (by decide) fi_11_0 rfl rfl zl_239 zk_239 ?_
  refine a_nmS (fun S_1 => ?_)
  refine a_aload_n F dX11_whenCan_5 rfl rfl ?_
  refine a_iload_n F dX11_whenCan_6 rfl rfl ?_
  refine a_callVI F (As := [.int p1]) cfX11 rfl (c_X11_isPerson X p1 S_1) mw_X11_isPerson ml_X11_128 im_X11_isPerson se_X11_isPerson M0.2.1 (Nat.le_of_ble_eq_true rfl) ⟨Nat.zero_le _, Nat.zero_le _⟩ rfl rfl (Nat.le_of_ble_eq_true rfl) zl_239 zk_239 dX11_whenCan_7 rfl (fun q_2 => ?_)
  refine a_if_eq F 21 dX11_whenCan_10 (by decide) ?_ ?_
  · refine a_iconst F dX11_whenCan_21 ki_m1 ?_
    exact a_iret F M0.2.2.1 M0.2.2.2 dX11_whenCan_22
  · refine a_aload_n F dX11_whenCan_13 rfl rfl ?_
    refine a_iload_n F dX11_whenCan_14 rfl rfl ?_
    refine a_callVI F (As := [.int p2]) cfX11 rfl (c_X11_isDeed X p2 q_2.2) mw_X11_isDeed ml_X11_369 im_X11_isDeed se_X11_isDeed M0.2.1 (Nat.le_of_ble_eq_true rfl) ⟨Nat.zero_le _, Nat.zero_le _⟩ rfl rfl (Nat.le_of_ble_eq_true rfl) zl_239 zk_239 dX11_whenCan_15 rfl (fun q_3 => ?_)
    refine a_if_ne F 23 dX11_whenCan_18 (by decide) ?_ ?_
    · refine a_iconst F dX11_whenCan_21 ki_m1 ?_
      exact a_iret F M0.2.2.1 M0.2.2.2 dX11_whenCan_22
    · refine a_aload_n F dX11_whenCan_23 rfl rfl ?_
      refine a_callVV F (As := []) cfX11 rfl (c_X11_thinks X q_3.2) mw_X11_thinks ml_X11_429 im_X11_thinks se_X11_thinks M0.2.1 (Nat.le_of_ble_eq_true rfl) ⟨Nat.zero_le _, Nat.zero_le _⟩ rfl rfl (Nat.le_of_ble_eq_true rfl) zl_239 zk_239 dX11_whenCan_24 rfl (fun S_4 => ?_)
      refine a_iconst F dX11_whenCan_27 ki_m1 ?_
      refine a_istore_n (L' := [some (.ref 239), some (.int p1), some (.int p2), some (.int (-1 : Int32)), none]) F dX11_whenCan_28 rfl (lt_b rfl) rfl ?_
      refine a_iconst F dX11_whenCan_29 ki_0 ?_
      refine a_istore (L' := [some (.ref 239), some (.int p1), some (.int p2), some (.int (-1 : Int32)), some (.int (0 : Int32))]) F dX11_whenCan_30 (lt_b rfl) rfl ?_
      exact b_X11_whenCan_32 M0 FU p1 p2 (-1 : Int32) (0 : Int32) S_4
theorem c_X11_whenCan (X : CX) (p1 p2 : Int32) (S : Mm) : CtI X Z1 yX11_whenCan cX11_whenCan 5 (some .int) 8 [.ref 239, .int p1, .int p2] S (f_X11_whenCan p1 p2 S) :=
  ctI_of (by decide +kernel) rfl (Nat.le_of_ble_eq_true rfl) (by simp [Value.category]) z1len fun E F R hra hlk => b_X11_whenCan ⟨F, R, hra, hlk⟩ p1 p2 S
def f_X11_worth (p1 p2 p3 : Int32) (S : Mm) : Option (Int32 × Mm) :=
  nm (uM S 239 0 (0 : Int32)) fun S_1 =>
  (f_X11_isLiving p1 S_1).bind fun q_2 =>
  if q_2.1 = 0 then (
   some ((0 : Int32), q_2.2)
  ) else (
   (f_X11_isLiving p2 q_2.2).bind fun q_3 =>
   if q_3.1 = 0 then (
    some ((0 : Int32), q_3.2)
   ) else (
    if p1 = p2 then (
     some ((0 : Int32), q_3.2)
    ) else (
     (f_X11_isLetter28 p3 q_3.2).bind fun q_4 =>
     if q_4.1 = 0 then (
      some ((0 : Int32), q_4.2)
     ) else (
      (f_X11_worthOf p1 p2 p3 q_4.2).bind fun q_5 =>
      some (q_5.1, q_5.2)
     )
    )
   )
  )
set_option maxRecDepth 20000 in
theorem b_X11_worth {X : CX} {E : FE} (M0 : MF X E RX11 cX11_worth 4 5 (some .int)) (p1 p2 p3 : Int32) (S : Mm) : At X E false (mQi X Z1 E) 0 [some (.ref 239), some (.int p1), some (.int p2), some (.int p3)] [] Z1 S 0 0 (f_X11_worth p1 p2 p3 S) := by
  have F := M0.1
  unfold f_X11_worth
  refine a_aload_n F dX11_worth_0 rfl rfl ?_
  refine a_iconst F dX11_worth_1 ki_0 ?_
  refine a_putI (k := 0) F cfX11 dX11_worth_2 fl_X11_107 (by decide) fi_11_0 rfl rfl zl_239 zk_239 ?_
  refine a_nmS (fun S_1 => ?_)
  refine a_aload_n F dX11_worth_5 rfl rfl ?_
  refine a_iload_n F dX11_worth_6 rfl rfl ?_
  refine a_callVI F (As := [.int p1]) cfX11 rfl (c_X11_isLiving X p1 S_1) mw_X11_isLiving ml_X11_151 im_X11_isLiving se_X11_isLiving M0.2.1 (Nat.le_of_ble_eq_true rfl) ⟨Nat.zero_le _, Nat.zero_le _⟩ rfl rfl (Nat.le_of_ble_eq_true rfl) zl_239 zk_239 dX11_worth_7 rfl (fun q_2 => ?_)
  refine a_if_eq F 34 dX11_worth_10 (by decide) ?_ ?_
  · refine a_iconst F dX11_worth_34 ki_0 ?_
    exact a_iret F M0.2.2.1 M0.2.2.2 dX11_worth_35
  · refine a_aload_n F dX11_worth_13 rfl rfl ?_
    refine a_iload_n F dX11_worth_14 rfl rfl ?_
    refine a_callVI F (As := [.int p2]) cfX11 rfl (c_X11_isLiving X p2 q_2.2) mw_X11_isLiving ml_X11_151 im_X11_isLiving se_X11_isLiving M0.2.1 (Nat.le_of_ble_eq_true rfl) ⟨Nat.zero_le _, Nat.zero_le _⟩ rfl rfl (Nat.le_of_ble_eq_true rfl) zl_239 zk_239 dX11_worth_15 rfl (fun q_3 => ?_)
    refine a_if_eq F 34 dX11_worth_18 (by decide) ?_ ?_
    · refine a_iconst F dX11_worth_34 ki_0 ?_
      exact a_iret F M0.2.2.1 M0.2.2.2 dX11_worth_35
    · refine a_iload_n F dX11_worth_21 rfl rfl ?_
      refine a_iload_n F dX11_worth_22 rfl rfl ?_
      refine a_icmp_eq F 34 dX11_worth_23 (by decide) ?_ ?_
      · refine a_iconst F dX11_worth_34 ki_0 ?_
        exact a_iret F M0.2.2.1 M0.2.2.2 dX11_worth_35
      · refine a_aload_n F dX11_worth_26 rfl rfl ?_
        refine a_iload_n F dX11_worth_27 rfl rfl ?_
        refine a_callVI F (As := [.int p3]) cfX11 rfl (c_X11_isLetter28 X p3 q_3.2) mw_X11_isLetter28 ml_X11_163 im_X11_isLetter28 se_X11_isLetter28 M0.2.1 (Nat.le_of_ble_eq_true rfl) ⟨Nat.zero_le _, Nat.zero_le _⟩ rfl rfl (Nat.le_of_ble_eq_true rfl) zl_239 zk_239 dX11_worth_28 rfl (fun q_4 => ?_)
        refine a_if_ne F 36 dX11_worth_31 (by decide) ?_ ?_
        · refine a_iconst F dX11_worth_34 ki_0 ?_
          exact a_iret F M0.2.2.1 M0.2.2.2 dX11_worth_35
        · refine a_aload_n F dX11_worth_36 rfl rfl ?_
          refine a_iload_n F dX11_worth_37 rfl rfl ?_
          refine a_iload_n F dX11_worth_38 rfl rfl ?_
          refine a_iload_n F dX11_worth_39 rfl rfl ?_
          refine a_callVI F (As := [.int p1, .int p2, .int p3]) cfX11 rfl (c_X11_worthOf X p1 p2 p3 q_4.2) mw_X11_worthOf ml_X11_339 im_X11_worthOf se_X11_worthOf M0.2.1 (Nat.le_of_ble_eq_true rfl) ⟨Nat.zero_le _, Nat.zero_le _⟩ rfl rfl (Nat.le_of_ble_eq_true rfl) zl_239 zk_239 dX11_worth_40 rfl (fun q_5 => ?_)
          exact a_iret F M0.2.2.1 M0.2.2.2 dX11_worth_43
theorem c_X11_worth (X : CX) (p1 p2 p3 : Int32) (S : Mm) : CtI X Z1 yX11_worth cX11_worth 4 (some .int) 5 [.ref 239, .int p1, .int p2, .int p3] S (f_X11_worth p1 p2 p3 S) :=
  ctI_of (by decide +kernel) rfl (Nat.le_of_ble_eq_true rfl) (by simp [Value.category]) z1len fun E F R hra hlk => b_X11_worth ⟨F, R, hra, hlk⟩ p1 p2 p3 S
