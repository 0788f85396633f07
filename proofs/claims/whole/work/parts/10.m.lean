def f_X10_isDeed_19 (S : Mm) : Option (Int32 × Mm) :=
  some ((0 : Int32), S)
set_option maxRecDepth 20000 in
theorem b_X10_isDeed_19 {X : CX} {E : FE} (M0 : MF X E RX10 cX10_isDeed 2 1 (some .boolean)) (S : Mm) : At X E false (mQi X Z1 E) 19 [none, none] [] Z1 S 0 0 (f_X10_isDeed_19 S) := by
  have F := M0.1
  unfold f_X10_isDeed_19
  refine a_iconst F dX10_isDeed_19 ki_0 ?_
  exact a_zretK F M0.2.2.1 M0.2.2.2 dX10_isDeed_20 (Or.inl rfl)
def f_X10_isDeed (p1 : Int32) (S : Mm) : Option (Int32 × Mm) :=
  if p1 < 0 then (
   f_X10_isDeed_19 S
  ) else (
   if (S 17 5) ≤ p1 then (
    f_X10_isDeed_19 S
   ) else (
    some ((1 : Int32), S)
   )
  )
set_option maxRecDepth 20000 in
theorem b_X10_isDeed {X : CX} {E : FE} (M0 : MF X E RX10 cX10_isDeed 2 1 (some .boolean)) (p1 : Int32) (S : Mm) : At X E false (mQi X Z1 E) 0 [some (.ref 0), some (.int p1)] [] Z1 S 0 0 (f_X10_isDeed p1 S) := by
  have F := M0.1
  unfold f_X10_isDeed
  refine a_iload_n F dX10_isDeed_0 rfl rfl ?_
  refine a_if_lt F 19 dX10_isDeed_1 (by decide) ?_ ?_
  · refine a_mask [false, false] (L' := [none, none]) rfl rfl ?_
    exact b_X10_isDeed_19 M0 S
  · refine a_iload_n F dX10_isDeed_4 rfl rfl ?_
    refine a_aload_n F dX10_isDeed_5 rfl rfl ?_
    refine a_getR (k := 1) F cfX10 dX10_isDeed_6 fl_X10_19 (by decide) fi_10_1 zl_0 zk_0 zr_0_1 ?_
    refine a_getI (k := 5) F cfX6 dX10_isDeed_9 fl_X10_158 (by decide) fi_6_5 zl_17 zk_17 ?_
    refine a_icmp_ge F 19 dX10_isDeed_12 (by decide) ?_ ?_
    · refine a_mask [false, false] (L' := [none, none]) rfl rfl ?_
      exact b_X10_isDeed_19 M0 S
    · refine a_iconst F dX10_isDeed_15 ki_1 ?_
      refine a_goto F 20 dX10_isDeed_16 (by decide) ?_
      exact a_zretK F M0.2.2.1 M0.2.2.2 dX10_isDeed_20 (Or.inr rfl)
theorem c_X10_isDeed (X : CX) (p1 : Int32) (S : Mm) : CtI X Z1 yX10_isDeed cX10_isDeed 2 (some .boolean) 1 [.ref 0, .int p1] S (f_X10_isDeed p1 S) :=
  ctI_of (by decide +kernel) rfl (Nat.le_of_ble_eq_true rfl) (by simp [Value.category]) z1len fun E F R hra hlk => b_X10_isDeed ⟨F, R, hra, hlk⟩ p1 S
def f_X10_at (p1 p2 : Int32) (S : Mm) : Option (Int32 × Mm) :=
  (f_X10_isDeed p1 S).bind fun q_1 =>
  if q_1.1 = 0 then (
   some ((-1 : Int32), q_1.2)
  ) else (
   if p2 < 0 then (
    some ((-1 : Int32), q_1.2)
   ) else (
    gd (inB p1 8 = true) <|
    if p2 < (q_1.2 30 (ix p1)) then (
     gd (inB ((p1 * (40 : Int32)) + p2) 320 = true) <|
     some ((q_1.2 29 (ix ((p1 * (40 : Int32)) + p2))), q_1.2)
    ) else (
     some ((-1 : Int32), q_1.2)
    )
   )
  )
set_option maxRecDepth 20000 in
theorem b_X10_at {X : CX} {E : FE} (M0 : MF X E RX10 cX10_at 3 2 (some .int)) (p1 p2 : Int32) (S : Mm) : At X E false (mQi X Z1 E) 0 [some (.ref 0), some (.int p1), some (.int p2)] [] Z1 S 0 0 (f_X10_at p1 p2 S) := by
  have F := M0.1
  unfold f_X10_at
  refine a_aload_n F dX10_at_0 rfl rfl ?_
  refine a_iload_n F dX10_at_1 rfl rfl ?_
  refine a_callVI F (As := [.int p1]) cfX10 rfl (c_X10_isDeed X p1 S) mw_X10_isDeed ml_X10_205 im_X10_isDeed se_X10_isDeed M0.2.1 (Nat.le_of_ble_eq_true rfl) ⟨Nat.zero_le _, Nat.zero_le _⟩ rfl rfl (Nat.le_of_ble_eq_true rfl) zl_0 zk_0 dX10_at_2 rfl (fun q_1 => ?_)
  refine a_if_eq F 25 dX10_at_5 (by decide) ?_ ?_
  · refine a_iconst F dX10_at_25 ki_m1 ?_
    exact a_iret F M0.2.2.1 M0.2.2.2 dX10_at_26
  · refine a_iload_n F dX10_at_8 rfl rfl ?_
    refine a_if_lt F 25 dX10_at_9 (by decide) ?_ ?_
    · refine a_iconst F dX10_at_25 ki_m1 ?_
      exact a_iret F M0.2.2.1 M0.2.2.2 dX10_at_26
    · refine a_iload_n F dX10_at_12 rfl rfl ?_
      refine a_aload_n F dX10_at_13 rfl rfl ?_
      refine a_getR (k := 1) F cfX10 dX10_at_14 fl_X10_19 (by decide) fi_10_1 zl_0 zk_0 zr_0_1 ?_
      refine a_getR (k := 7) F cfX6 dX10_at_17 fl_X10_261 (by decide) fi_6_7 zl_17 zk_17 zr_17_7 ?_
      refine a_iload_n F dX10_at_20 rfl rfl ?_
      refine a_gd (a_iald F dX10_at_21 zl_30 zk_30 ?_)
      refine a_icmp_lt F 27 dX10_at_22 (by decide) ?_ ?_
      · refine a_aload_n F dX10_at_27 rfl rfl ?_
        refine a_getR (k := 1) F cfX10 dX10_at_28 fl_X10_19 (by decide) fi_10_1 zl_0 zk_0 zr_0_1 ?_
        refine a_getR (k := 6) F cfX6 dX10_at_31 fl_X10_270 (by decide) fi_6_6 zl_17 zk_17 zr_17_6 ?_
        refine a_iload_n F dX10_at_34 rfl rfl ?_
        refine a_bipush F dX10_at_35 kb_40 ?_
        refine a_imul F dX10_at_37 ?_
        refine a_iload_n F dX10_at_38 rfl rfl ?_
        refine a_iadd F dX10_at_39 ?_
        refine a_gd (a_iald F dX10_at_40 zl_29 zk_29 ?_)
        exact a_iret F M0.2.2.1 M0.2.2.2 dX10_at_41
      · refine a_iconst F dX10_at_25 ki_m1 ?_
        exact a_iret F M0.2.2.1 M0.2.2.2 dX10_at_26
theorem c_X10_at (X : CX) (p1 p2 : Int32) (S : Mm) : CtI X Z1 yX10_at cX10_at 3 (some .int) 2 [.ref 0, .int p1, .int p2] S (f_X10_at p1 p2 S) :=
  ctI_of (by decide +kernel) rfl (Nat.le_of_ble_eq_true rfl) (by simp [Value.category]) z1len fun E F R hra hlk => b_X10_at ⟨F, R, hra, hlk⟩ p1 p2 S
def f_X1_isThere_16 (r0 : Nat) (S : Mm) : Option (Int32 × Mm) :=
  some ((0 : Int32), S)
set_option maxRecDepth 20000 in
theorem b_X1_isThere_16 {X : CX} {E : FE} (M0 : MF X E RX1 cX1_isThere 2 1 (some .boolean)) {r0 : Nat} (h0 : isClan r0) (S : Mm) : At X E false (mQi X Z1 E) 16 [none, none] [] Z1 S 0 0 (f_X1_isThere_16 r0 S) := by
  have F := M0.1
  unfold f_X1_isThere_16
  refine a_iconst F dX1_isThere_16 ki_0 ?_
  exact a_zretK F M0.2.2.1 M0.2.2.2 dX1_isThere_17 (Or.inl rfl)
def f_X1_isThere (r0 : Nat) (p1 : Int32) (S : Mm) : Option (Int32 × Mm) :=
  if p1 < 0 then (
   f_X1_isThere_16 r0 S
  ) else (
   if (S r0 3) ≤ p1 then (
    f_X1_isThere_16 r0 S
   ) else (
    some ((1 : Int32), S)
   )
  )
set_option maxRecDepth 20000 in
theorem b_X1_isThere {X : CX} {E : FE} (M0 : MF X E RX1 cX1_isThere 2 1 (some .boolean)) {r0 : Nat} (h0 : isClan r0) (p1 : Int32) (S : Mm) : At X E false (mQi X Z1 E) 0 [some (.ref r0), some (.int p1)] [] Z1 S 0 0 (f_X1_isThere r0 p1 S) := by
  have F := M0.1
  unfold f_X1_isThere
  refine a_iload_n F dX1_isThere_0 rfl rfl ?_
  refine a_if_lt F 16 dX1_isThere_1 (by decide) ?_ ?_
  · refine a_mask [false, false] (L' := [none, none]) rfl rfl ?_
    exact b_X1_isThere_16 M0 h0 S
  · refine a_iload_n F dX1_isThere_4 rfl rfl ?_
    refine a_aload_n F dX1_isThere_5 rfl rfl ?_
    refine a_getI (k := 3) F cfX1 dX1_isThere_6 fl_X1_21 (by decide) fi_1_3 (zcl_0 h0) (zck_0 h0) ?_
    refine a_icmp_ge F 16 dX1_isThere_9 (by decide) ?_ ?_
    · refine a_mask [false, false] (L' := [none, none]) rfl rfl ?_
      exact b_X1_isThere_16 M0 h0 S
    · refine a_iconst F dX1_isThere_12 ki_1 ?_
      refine a_goto F 17 dX1_isThere_13 (by decide) ?_
      exact a_zretK F M0.2.2.1 M0.2.2.2 dX1_isThere_17 (Or.inr rfl)
theorem c_X1_isThere (X : CX) {r0 : Nat} (h0 : isClan r0) (p1 : Int32) (S : Mm) : CtI X Z1 yX1_isThere cX1_isThere 2 (some .boolean) 1 [.ref r0, .int p1] S (f_X1_isThere r0 p1 S) :=
  ctI_of (by decide +kernel) rfl (Nat.le_of_ble_eq_true rfl) (by simp [Value.category]) z1len fun E F R hra hlk => b_X1_isThere ⟨F, R, hra, hlk⟩ h0 p1 S
def f_X1_lives_24 (r0 : Nat) (S : Mm) : Option (Int32 × Mm) :=
  some ((0 : Int32), S)
set_option maxRecDepth 20000 in
theorem b_X1_lives_24 {X : CX} {E : FE} (M0 : MF X E RX1 cX1_lives 2 2 (some .boolean)) {r0 : Nat} (h0 : isClan r0) (S : Mm) : At X E false (mQi X Z1 E) 24 [none, none] [] Z1 S 0 0 (f_X1_lives_24 r0 S) := by
  have F := M0.1
  unfold f_X1_lives_24
  refine a_iconst F dX1_lives_24 ki_0 ?_
  exact a_zretK F M0.2.2.1 M0.2.2.2 dX1_lives_25 (Or.inl rfl)
def f_X1_lives (r0 : Nat) (p1 : Int32) (S : Mm) : Option (Int32 × Mm) :=
  (f_X1_isThere r0 p1 S).bind fun q_1 =>
  if q_1.1 = 0 then (
   f_X1_lives_24 r0 q_1.2
  ) else (
   if ((shr (q_1.2 r0 4) p1) &&& (1 : Int32)) = (1 : Int32) then (
    some ((1 : Int32), q_1.2)
   ) else (
    f_X1_lives_24 r0 q_1.2
   )
  )
set_option maxRecDepth 20000 in
theorem b_X1_lives {X : CX} {E : FE} (M0 : MF X E RX1 cX1_lives 2 2 (some .boolean)) {r0 : Nat} (h0 : isClan r0) (p1 : Int32) (S : Mm) : At X E false (mQi X Z1 E) 0 [some (.ref r0), some (.int p1)] [] Z1 S 0 0 (f_X1_lives r0 p1 S) := by
  have F := M0.1
  unfold f_X1_lives
  refine a_aload_n F dX1_lives_0 rfl rfl ?_
  refine a_iload_n F dX1_lives_1 rfl rfl ?_
  refine a_callVI F (As := [.int p1]) cfX1 rfl (c_X1_isThere X h0 p1 S) mw_X1_isThere ml_X1_79 im_X1_isThere se_X1_isThere M0.2.1 (Nat.le_of_ble_eq_true rfl) ⟨Nat.zero_le _, Nat.zero_le _⟩ rfl rfl (Nat.le_of_ble_eq_true rfl) (zcl_0 h0) (zck_0 h0) dX1_lives_2 rfl (fun q_1 => ?_)
  refine a_if_eq F 24 dX1_lives_5 (by decide) ?_ ?_
  · refine a_mask [false, false] (L' := [none, none]) rfl rfl ?_
    exact b_X1_lives_24 M0 h0 q_1.2
  · refine a_aload_n F dX1_lives_8 rfl rfl ?_
    refine a_getI (k := 4) F cfX1 dX1_lives_9 fl_X1_24 (by decide) fi_1_4 (zcl_0 h0) (zck_0 h0) ?_
    refine a_iload_n F dX1_lives_12 rfl rfl ?_
    refine a_ishr F dX1_lives_13 ?_
    refine a_iconst F dX1_lives_14 ki_1 ?_
    refine a_iand F dX1_lives_15 ?_
    refine a_iconst F dX1_lives_16 ki_1 ?_
    refine a_icmp_ne F 24 dX1_lives_17 (by decide) ?_ ?_
    · refine a_iconst F dX1_lives_20 ki_1 ?_
      refine a_goto F 25 dX1_lives_21 (by decide) ?_
      exact a_zretK F M0.2.2.1 M0.2.2.2 dX1_lives_25 (Or.inr rfl)
    · refine a_mask [false, false] (L' := [none, none]) rfl rfl ?_
      exact b_X1_lives_24 M0 h0 q_1.2
theorem c_X1_lives (X : CX) {r0 : Nat} (h0 : isClan r0) (p1 : Int32) (S : Mm) : CtI X Z1 yX1_lives cX1_lives 2 (some .boolean) 2 [.ref r0, .int p1] S (f_X1_lives r0 p1 S) :=
  ctI_of (by decide +kernel) rfl (Nat.le_of_ble_eq_true rfl) (by simp [Value.category]) z1len fun E F R hra hlk => b_X1_lives ⟨F, R, hra, hlk⟩ h0 p1 S
def f_X1_become (r0 r1 : Nat) (S : Mm) : Option Mm :=
  nm (uM S r0 0 (S r1 0)) fun S_1 =>
  nm (uM S_1 r0 1 (S_1 r1 1)) fun S_2 =>
  nm (uM S_2 r0 2 (S_2 r1 2)) fun S_3 =>
  nm (uM S_3 r0 3 (S_3 r1 3)) fun S_4 =>
  nm (uM S_4 r0 4 (S_4 r1 4)) fun S_5 =>
  nm (rM S_5 (r0 + 1) (va_cpy (S_5 (r1 + 1)) (S_5 (r0 + 1)) 0 0 12)) fun S_6 =>
  nm (rM S_6 (r0 + 2) (va_cpy (S_6 (r1 + 2)) (S_6 (r0 + 2)) 0 0 12)) fun S_7 =>
  nm (rM S_7 (r0 + 3) (va_cpy (S_7 (r1 + 3)) (S_7 (r0 + 3)) 0 0 12)) fun S_8 =>
  nm (rM S_8 (r0 + 4) (va_cpy (S_8 (r1 + 4)) (S_8 (r0 + 4)) 0 0 12)) fun S_9 =>
  nm (rM S_9 (r0 + 5) (va_cpy (S_9 (r1 + 5)) (S_9 (r0 + 5)) 0 0 12)) fun S_10 =>
  nm (rM S_10 (r0 + 6) (va_cpy (S_10 (r1 + 6)) (S_10 (r0 + 6)) 0 0 12)) fun S_11 =>
  nm (rM S_11 (r0 + 7) (va_cpy (S_11 (r1 + 7)) (S_11 (r0 + 7)) 0 0 12)) fun S_12 =>
  nm (rM S_12 (r0 + 8) (va_cpy (S_12 (r1 + 8)) (S_12 (r0 + 8)) 0 0 12)) fun S_13 =>
  nm (rM S_13 (r0 + 9) (va_cpy (S_13 (r1 + 9)) (S_13 (r0 + 9)) 0 0 12)) fun S_14 =>
  nm (rM S_14 (r0 + 10) (va_cpy (S_14 (r1 + 10)) (S_14 (r0 + 10)) 0 0 28)) fun S_15 =>
  nm (rM S_15 (r0 + 11) (va_cpy (S_15 (r1 + 11)) (S_15 (r0 + 11)) 0 0 28)) fun S_16 =>
  nm (rM S_16 (r0 + 12) (va_cpy (S_16 (r1 + 12)) (S_16 (r0 + 12)) 0 0 28)) fun S_17 =>
  nm (rM S_17 (r0 + 13) (va_cpy (S_17 (r1 + 13)) (S_17 (r0 + 13)) 0 0 8)) fun S_18 =>
  nm (rM S_18 (r0 + 14) (va_cpy (S_18 (r1 + 14)) (S_18 (r0 + 14)) 0 0 8)) fun S_19 =>
  nm (rM S_19 (r0 + 15) (va_cpy (S_19 (r1 + 15)) (S_19 (r0 + 15)) 0 0 8)) fun S_20 =>
  some S_20
set_option maxRecDepth 20000 in
theorem b_X1_become {X : CX} {E : FE} (M0 : MF X E RX1 cX1_become 2 1 none) {r0 r1 : Nat} (h0 : isClan r0) (h1 : isClan r1) (S : Mm) : At X E false (mQv X Z1 E) 0 [some (.ref r0), some (.ref r1)] [] Z1 S 0 0 (f_X1_become r0 r1 S) := by
  have F := M0.1
  unfold f_X1_become
  refine a_aload_n F dX1_become_0 rfl rfl ?_
  refine a_aload_n F dX1_become_1 rfl rfl ?_
  refine a_getI (k := 0) F cfX1 dX1_become_2 fl_X1_9 (by decide) fi_1_0 (zcl_0 h1) (zck_0 h1) ?_
  refine a_putI (k := 0) F cfX1 dX1_become_5 fl_X1_9 (by decide) fi_1_0 rfl rfl (zcl_0 h0) (zck_0 h0) ?_
  refine a_nmS (fun S_1 => ?_)
  refine a_aload_n F dX1_become_8 rfl rfl ?_
  refine a_aload_n F dX1_become_9 rfl rfl ?_
  refine a_getI (k := 1) F cfX1 dX1_become_10 fl_X1_15 (by decide) fi_1_1 (zcl_0 h1) (zck_0 h1) ?_
  refine a_putI (k := 1) F cfX1 dX1_become_13 fl_X1_15 (by decide) fi_1_1 rfl rfl (zcl_0 h0) (zck_0 h0) ?_
  refine a_nmS (fun S_2 => ?_)
  refine a_aload_n F dX1_become_16 rfl rfl ?_
  refine a_aload_n F dX1_become_17 rfl rfl ?_
  refine a_getI (k := 2) F cfX1 dX1_become_18 fl_X1_18 (by decide) fi_1_2 (zcl_0 h1) (zck_0 h1) ?_
  refine a_putI (k := 2) F cfX1 dX1_become_21 fl_X1_18 (by decide) fi_1_2 rfl rfl (zcl_0 h0) (zck_0 h0) ?_
  refine a_nmS (fun S_3 => ?_)
  refine a_aload_n F dX1_become_24 rfl rfl ?_
  refine a_aload_n F dX1_become_25 rfl rfl ?_
  refine a_getI (k := 3) F cfX1 dX1_become_26 fl_X1_21 (by decide) fi_1_3 (zcl_0 h1) (zck_0 h1) ?_
  refine a_putI (k := 3) F cfX1 dX1_become_29 fl_X1_21 (by decide) fi_1_3 rfl rfl (zcl_0 h0) (zck_0 h0) ?_
  refine a_nmS (fun S_4 => ?_)
  refine a_aload_n F dX1_become_32 rfl rfl ?_
  refine a_aload_n F dX1_become_33 rfl rfl ?_
  refine a_getI (k := 4) F cfX1 dX1_become_34 fl_X1_24 (by decide) fi_1_4 (zcl_0 h1) (zck_0 h1) ?_
  refine a_putI (k := 4) F cfX1 dX1_become_37 fl_X1_24 (by decide) fi_1_4 rfl rfl (zcl_0 h0) (zck_0 h0) ?_
  refine a_nmS (fun S_5 => ?_)
  refine a_aload_n F dX1_become_40 rfl rfl ?_
  refine a_getR (k := 5) F cfX1 dX1_become_41 fl_X1_27 (by decide) fi_1_5 (zcl_0 h1) (zck_0 h1) (zcr_5 h1) ?_
  refine a_iconst F dX1_become_44 ki_0 ?_
  refine a_aload_n F dX1_become_45 rfl rfl ?_
  refine a_getR (k := 5) F cfX1 dX1_become_46 fl_X1_27 (by decide) fi_1_5 (zcl_0 h0) (zck_0 h0) (zcr_5 h0) ?_
  refine a_iconst F dX1_become_49 ki_0 ?_
  refine a_bipush F dX1_become_50 kb_12 ?_
  refine a_gd1 (by decide : ¬ (0 : Int32) < 0 ∧ ¬ (0 : Int32) < 0 ∧ ¬ (12 : Int32) < 0 ∧ ix (0 : Int32) + ix (12 : Int32) ≤ 12 ∧ ix (0 : Int32) + ix (12 : Int32) ≤ 12) (a_copy F rfl dX1_become_52 ml_X1_73 rfl (zcl_1 h1) (zck_1 h1) (zcl_1 h0) (zck_1 h0) (Nat.le_of_ble_eq_true rfl) (Nat.le_of_ble_eq_true rfl) (rm_fr M0.2.1 (by omega)) (rm_lo M0.2.1 (by omega)) sysN sysS sysI ?_)
  refine a_nmS (fun S_6 => ?_)
  refine a_aload_n F dX1_become_55 rfl rfl ?_
  refine a_getR (k := 6) F cfX1 dX1_become_56 fl_X1_31 (by decide) fi_1_6 (zcl_0 h1) (zck_0 h1) (zcr_6 h1) ?_
  refine a_iconst F dX1_become_59 ki_0 ?_
  refine a_aload_n F dX1_become_60 rfl rfl ?_
  refine a_getR (k := 6) F cfX1 dX1_become_61 fl_X1_31 (by decide) fi_1_6 (zcl_0 h0) (zck_0 h0) (zcr_6 h0) ?_
  refine a_iconst F dX1_become_64 ki_0 ?_
  refine a_bipush F dX1_become_65 kb_12 ?_
  refine a_gd1 (by decide : ¬ (0 : Int32) < 0 ∧ ¬ (0 : Int32) < 0 ∧ ¬ (12 : Int32) < 0 ∧ ix (0 : Int32) + ix (12 : Int32) ≤ 12 ∧ ix (0 : Int32) + ix (12 : Int32) ≤ 12) (a_copy F rfl dX1_become_67 ml_X1_73 rfl (zcl_2 h1) (zck_2 h1) (zcl_2 h0) (zck_2 h0) (Nat.le_of_ble_eq_true rfl) (Nat.le_of_ble_eq_true rfl) (rm_fr M0.2.1 (by omega)) (rm_lo M0.2.1 (by omega)) sysN sysS sysI ?_)
  refine a_nmS (fun S_7 => ?_)
  refine a_aload_n F dX1_become_70 rfl rfl ?_
  refine a_getR (k := 7) F cfX1 dX1_become_71 fl_X1_34 (by decide) fi_1_7 (zcl_0 h1) (zck_0 h1) (zcr_7 h1) ?_
  refine a_iconst F dX1_become_74 ki_0 ?_
  refine a_aload_n F dX1_become_75 rfl rfl ?_
  refine a_getR (k := 7) F cfX1 dX1_become_76 fl_X1_34 (by decide) fi_1_7 (zcl_0 h0) (zck_0 h0) (zcr_7 h0) ?_
  refine a_iconst F dX1_become_79 ki_0 ?_
  refine a_bipush F dX1_become_80 kb_12 ?_
  refine a_gd1 (by decide : ¬ (0 : Int32) < 0 ∧ ¬ (0 : Int32) < 0 ∧ ¬ (12 : Int32) < 0 ∧ ix (0 : Int32) + ix (12 : Int32) ≤ 12 ∧ ix (0 : Int32) + ix (12 : Int32) ≤ 12) (a_copy F rfl dX1_become_82 ml_X1_73 rfl (zcl_3 h1) (zck_3 h1) (zcl_3 h0) (zck_3 h0) (Nat.le_of_ble_eq_true rfl) (Nat.le_of_ble_eq_true rfl) (rm_fr M0.2.1 (by omega)) (rm_lo M0.2.1 (by omega)) sysN sysS sysI ?_)
  refine a_nmS (fun S_8 => ?_)
  refine a_aload_n F dX1_become_85 rfl rfl ?_
  refine a_getR (k := 8) F cfX1 dX1_become_86 fl_X1_37 (by decide) fi_1_8 (zcl_0 h1) (zck_0 h1) (zcr_8 h1) ?_
  refine a_iconst F dX1_become_89 ki_0 ?_
  refine a_aload_n F dX1_become_90 rfl rfl ?_
  refine a_getR (k := 8) F cfX1 dX1_become_91 fl_X1_37 (by decide) fi_1_8 (zcl_0 h0) (zck_0 h0) (zcr_8 h0) ?_
  refine a_iconst F dX1_become_94 ki_0 ?_
  refine a_bipush F dX1_become_95 kb_12 ?_
  refine a_gd1 (by decide : ¬ (0 : Int32) < 0 ∧ ¬ (0 : Int32) < 0 ∧ ¬ (12 : Int32) < 0 ∧ ix (0 : Int32) + ix (12 : Int32) ≤ 12 ∧ ix (0 : Int32) + ix (12 : Int32) ≤ 12) (a_copy F rfl dX1_become_97 ml_X1_73 rfl (zcl_4 h1) (zck_4 h1) (zcl_4 h0) (zck_4 h0) (Nat.le_of_ble_eq_true rfl) (Nat.le_of_ble_eq_true rfl) (rm_fr M0.2.1 (by omega)) (rm_lo M0.2.1 (by omega)) sysN sysS sysI ?_)
  refine a_nmS (fun S_9 => ?_)
  refine a_aload_n F dX1_become_100 rfl rfl ?_
  refine a_getR (k := 9) F cfX1 dX1_become_101 fl_X1_40 (by decide) fi_1_9 (zcl_0 h1) (zck_0 h1) (zcr_9 h1) ?_
  refine a_iconst F dX1_become_104 ki_0 ?_
  refine a_aload_n F dX1_become_105 rfl rfl ?_
  refine a_getR (k := 9) F cfX1 dX1_become_106 fl_X1_40 (by decide) fi_1_9 (zcl_0 h0) (zck_0 h0) (zcr_9 h0) ?_
  refine a_iconst F dX1_become_109 ki_0 ?_
  refine a_bipush F dX1_become_110 kb_12 ?_
  refine a_gd1 (by decide : ¬ (0 : Int32) < 0 ∧ ¬ (0 : Int32) < 0 ∧ ¬ (12 : Int32) < 0 ∧ ix (0 : Int32) + ix (12 : Int32) ≤ 12 ∧ ix (0 : Int32) + ix (12 : Int32) ≤ 12) (a_copy F rfl dX1_become_112 ml_X1_73 rfl (zcl_5 h1) (zck_5 h1) (zcl_5 h0) (zck_5 h0) (Nat.le_of_ble_eq_true rfl) (Nat.le_of_ble_eq_true rfl) (rm_fr M0.2.1 (by omega)) (rm_lo M0.2.1 (by omega)) sysN sysS sysI ?_)
  refine a_nmS (fun S_10 => ?_)
  refine a_aload_n F dX1_become_115 rfl rfl ?_
  refine a_getR (k := 10) F cfX1 dX1_become_116 fl_X1_43 (by decide) fi_1_10 (zcl_0 h1) (zck_0 h1) (zcr_10 h1) ?_
  refine a_iconst F dX1_become_119 ki_0 ?_
  refine a_aload_n F dX1_become_120 rfl rfl ?_
  refine a_getR (k := 10) F cfX1 dX1_become_121 fl_X1_43 (by decide) fi_1_10 (zcl_0 h0) (zck_0 h0) (zcr_10 h0) ?_
  refine a_iconst F dX1_become_124 ki_0 ?_
  refine a_bipush F dX1_become_125 kb_12 ?_
  refine a_gd1 (by decide : ¬ (0 : Int32) < 0 ∧ ¬ (0 : Int32) < 0 ∧ ¬ (12 : Int32) < 0 ∧ ix (0 : Int32) + ix (12 : Int32) ≤ 12 ∧ ix (0 : Int32) + ix (12 : Int32) ≤ 12) (a_copy F rfl dX1_become_127 ml_X1_73 rfl (zcl_6 h1) (zck_6 h1) (zcl_6 h0) (zck_6 h0) (Nat.le_of_ble_eq_true rfl) (Nat.le_of_ble_eq_true rfl) (rm_fr M0.2.1 (by omega)) (rm_lo M0.2.1 (by omega)) sysN sysS sysI ?_)
  refine a_nmS (fun S_11 => ?_)
  refine a_aload_n F dX1_become_130 rfl rfl ?_
  refine a_getR (k := 11) F cfX1 dX1_become_131 fl_X1_46 (by decide) fi_1_11 (zcl_0 h1) (zck_0 h1) (zcr_11 h1) ?_
  refine a_iconst F dX1_become_134 ki_0 ?_
  refine a_aload_n F dX1_become_135 rfl rfl ?_
  refine a_getR (k := 11) F cfX1 dX1_become_136 fl_X1_46 (by decide) fi_1_11 (zcl_0 h0) (zck_0 h0) (zcr_11 h0) ?_
  refine a_iconst F dX1_become_139 ki_0 ?_
  refine a_bipush F dX1_become_140 kb_12 ?_
  refine a_gd1 (by decide : ¬ (0 : Int32) < 0 ∧ ¬ (0 : Int32) < 0 ∧ ¬ (12 : Int32) < 0 ∧ ix (0 : Int32) + ix (12 : Int32) ≤ 12 ∧ ix (0 : Int32) + ix (12 : Int32) ≤ 12) (a_copy F rfl dX1_become_142 ml_X1_73 rfl (zcl_7 h1) (zck_7 h1) (zcl_7 h0) (zck_7 h0) (Nat.le_of_ble_eq_true rfl) (Nat.le_of_ble_eq_true rfl) (rm_fr M0.2.1 (by omega)) (rm_lo M0.2.1 (by omega)) sysN sysS sysI ?_)
  refine a_nmS (fun S_12 => ?_)
  refine a_aload_n F dX1_become_145 rfl rfl ?_
  refine a_getR (k := 12) F cfX1 dX1_become_146 fl_X1_49 (by decide) fi_1_12 (zcl_0 h1) (zck_0 h1) (zcr_12 h1) ?_
  refine a_iconst F dX1_become_149 ki_0 ?_
  refine a_aload_n F dX1_become_150 rfl rfl ?_
  refine a_getR (k := 12) F cfX1 dX1_become_151 fl_X1_49 (by decide) fi_1_12 (zcl_0 h0) (zck_0 h0) (zcr_12 h0) ?_
  refine a_iconst F dX1_become_154 ki_0 ?_
  refine a_bipush F dX1_become_155 kb_12 ?_
  refine a_gd1 (by decide : ¬ (0 : Int32) < 0 ∧ ¬ (0 : Int32) < 0 ∧ ¬ (12 : Int32) < 0 ∧ ix (0 : Int32) + ix (12 : Int32) ≤ 12 ∧ ix (0 : Int32) + ix (12 : Int32) ≤ 12) (a_copy F rfl dX1_become_157 ml_X1_73 rfl (zcl_8 h1) (zck_8 h1) (zcl_8 h0) (zck_8 h0) (Nat.le_of_ble_eq_true rfl) (Nat.le_of_ble_eq_true rfl) (rm_fr M0.2.1 (by omega)) (rm_lo M0.2.1 (by omega)) sysN sysS sysI ?_)
  refine a_nmS (fun S_13 => ?_)
  refine a_aload_n F dX1_become_160 rfl rfl ?_
  refine a_getR (k := 13) F cfX1 dX1_become_161 fl_X1_52 (by decide) fi_1_13 (zcl_0 h1) (zck_0 h1) (zcr_13 h1) ?_
  refine a_iconst F dX1_become_164 ki_0 ?_
  refine a_aload_n F dX1_become_165 rfl rfl ?_
  refine a_getR (k := 13) F cfX1 dX1_become_166 fl_X1_52 (by decide) fi_1_13 (zcl_0 h0) (zck_0 h0) (zcr_13 h0) ?_
  refine a_iconst F dX1_become_169 ki_0 ?_
  refine a_bipush F dX1_become_170 kb_12 ?_
  refine a_gd1 (by decide : ¬ (0 : Int32) < 0 ∧ ¬ (0 : Int32) < 0 ∧ ¬ (12 : Int32) < 0 ∧ ix (0 : Int32) + ix (12 : Int32) ≤ 12 ∧ ix (0 : Int32) + ix (12 : Int32) ≤ 12) (a_copy F rfl dX1_become_172 ml_X1_73 rfl (zcl_9 h1) (zck_9 h1) (zcl_9 h0) (zck_9 h0) (Nat.le_of_ble_eq_true rfl) (Nat.le_of_ble_eq_true rfl) (rm_fr M0.2.1 (by omega)) (rm_lo M0.2.1 (by omega)) sysN sysS sysI ?_)
  refine a_nmS (fun S_14 => ?_)
  refine a_aload_n F dX1_become_175 rfl rfl ?_
  refine a_getR (k := 14) F cfX1 dX1_become_176 fl_X1_55 (by decide) fi_1_14 (zcl_0 h1) (zck_0 h1) (zcr_14 h1) ?_
  refine a_iconst F dX1_become_179 ki_0 ?_
  refine a_aload_n F dX1_become_180 rfl rfl ?_
  refine a_getR (k := 14) F cfX1 dX1_become_181 fl_X1_55 (by decide) fi_1_14 (zcl_0 h0) (zck_0 h0) (zcr_14 h0) ?_
  refine a_iconst F dX1_become_184 ki_0 ?_
  refine a_bipush F dX1_become_185 kb_28 ?_
  refine a_gd1 (by decide : ¬ (0 : Int32) < 0 ∧ ¬ (0 : Int32) < 0 ∧ ¬ (28 : Int32) < 0 ∧ ix (0 : Int32) + ix (28 : Int32) ≤ 28 ∧ ix (0 : Int32) + ix (28 : Int32) ≤ 28) (a_copy F rfl dX1_become_187 ml_X1_73 rfl (zcl_10 h1) (zck_10 h1) (zcl_10 h0) (zck_10 h0) (Nat.le_of_ble_eq_true rfl) (Nat.le_of_ble_eq_true rfl) (rm_fr M0.2.1 (by omega)) (rm_lo M0.2.1 (by omega)) sysN sysS sysI ?_)
  refine a_nmS (fun S_15 => ?_)
  refine a_aload_n F dX1_become_190 rfl rfl ?_
  refine a_getR (k := 15) F cfX1 dX1_become_191 fl_X1_58 (by decide) fi_1_15 (zcl_0 h1) (zck_0 h1) (zcr_15 h1) ?_
  refine a_iconst F dX1_become_194 ki_0 ?_
  refine a_aload_n F dX1_become_195 rfl rfl ?_
  refine a_getR (k := 15) F cfX1 dX1_become_196 fl_X1_58 (by decide) fi_1_15 (zcl_0 h0) (zck_0 h0) (zcr_15 h0) ?_
  refine a_iconst F dX1_become_199 ki_0 ?_
  refine a_bipush F dX1_become_200 kb_28 ?_
  refine a_gd1 (by decide : ¬ (0 : Int32) < 0 ∧ ¬ (0 : Int32) < 0 ∧ ¬ (28 : Int32) < 0 ∧ ix (0 : Int32) + ix (28 : Int32) ≤ 28 ∧ ix (0 : Int32) + ix (28 : Int32) ≤ 28) (a_copy F rfl dX1_become_202 ml_X1_73 rfl (zcl_11 h1) (zck_11 h1) (zcl_11 h0) (zck_11 h0) (Nat.le_of_ble_eq_true rfl) (Nat.le_of_ble_eq_true rfl) (rm_fr M0.2.1 (by omega)) (rm_lo M0.2.1 (by omega)) sysN sysS sysI ?_)
  refine a_nmS (fun S_16 => ?_)
  refine a_aload_n F dX1_become_205 rfl rfl ?_
  refine a_getR (k := 16) F cfX1 dX1_become_206 fl_X1_61 (by decide) fi_1_16 (zcl_0 h1) (zck_0 h1) (zcr_16 h1) ?_
  refine a_iconst F dX1_become_209 ki_0 ?_
  refine a_aload_n F dX1_become_210 rfl rfl ?_
  refine a_getR (k := 16) F cfX1 dX1_become_211 fl_X1_61 (by decide) fi_1_16 (zcl_0 h0) (zck_0 h0) (zcr_16 h0) ?_
  refine a_iconst F dX1_become_214 ki_0 ?_
  refine a_bipush F dX1_become_215 kb_28 ?_
  refine a_gd1 (by decide : ¬ (0 : Int32) < 0 ∧ ¬ (0 : Int32) < 0 ∧ ¬ (28 : Int32) < 0 ∧ ix (0 : Int32) + ix (28 : Int32) ≤ 28 ∧ ix (0 : Int32) + ix (28 : Int32) ≤ 28) (a_copy F rfl dX1_become_217 ml_X1_73 rfl (zcl_12 h1) (zck_12 h1) (zcl_12 h0) (zck_12 h0) (Nat.le_of_ble_eq_true rfl) (Nat.le_of_ble_eq_true rfl) (rm_fr M0.2.1 (by omega)) (rm_lo M0.2.1 (by omega)) sysN sysS sysI ?_)
  refine a_nmS (fun S_17 => ?_)
  refine a_aload_n F dX1_become_220 rfl rfl ?_
  refine a_getR (k := 17) F cfX1 dX1_become_221 fl_X1_64 (by decide) fi_1_17 (zcl_0 h1) (zck_0 h1) (zcr_17 h1) ?_
  refine a_iconst F dX1_become_224 ki_0 ?_
  refine a_aload_n F dX1_become_225 rfl rfl ?_
  refine a_getR (k := 17) F cfX1 dX1_become_226 fl_X1_64 (by decide) fi_1_17 (zcl_0 h0) (zck_0 h0) (zcr_17 h0) ?_
  refine a_iconst F dX1_become_229 ki_0 ?_
  refine a_bipush F dX1_become_230 kb_8 ?_
  refine a_gd1 (by decide : ¬ (0 : Int32) < 0 ∧ ¬ (0 : Int32) < 0 ∧ ¬ (8 : Int32) < 0 ∧ ix (0 : Int32) + ix (8 : Int32) ≤ 8 ∧ ix (0 : Int32) + ix (8 : Int32) ≤ 8) (a_copy F rfl dX1_become_232 ml_X1_73 rfl (zcl_13 h1) (zck_13 h1) (zcl_13 h0) (zck_13 h0) (Nat.le_of_ble_eq_true rfl) (Nat.le_of_ble_eq_true rfl) (rm_fr M0.2.1 (by omega)) (rm_lo M0.2.1 (by omega)) sysN sysS sysI ?_)
  refine a_nmS (fun S_18 => ?_)
  refine a_aload_n F dX1_become_235 rfl rfl ?_
  refine a_getR (k := 18) F cfX1 dX1_become_236 fl_X1_67 (by decide) fi_1_18 (zcl_0 h1) (zck_0 h1) (zcr_18 h1) ?_
  refine a_iconst F dX1_become_239 ki_0 ?_
  refine a_aload_n F dX1_become_240 rfl rfl ?_
  refine a_getR (k := 18) F cfX1 dX1_become_241 fl_X1_67 (by decide) fi_1_18 (zcl_0 h0) (zck_0 h0) (zcr_18 h0) ?_
  refine a_iconst F dX1_become_244 ki_0 ?_
  refine a_bipush F dX1_become_245 kb_8 ?_
  refine a_gd1 (by decide : ¬ (0 : Int32) < 0 ∧ ¬ (0 : Int32) < 0 ∧ ¬ (8 : Int32) < 0 ∧ ix (0 : Int32) + ix (8 : Int32) ≤ 8 ∧ ix (0 : Int32) + ix (8 : Int32) ≤ 8) (a_copy F rfl dX1_become_247 ml_X1_73 rfl (zcl_14 h1) (zck_14 h1) (zcl_14 h0) (zck_14 h0) (Nat.le_of_ble_eq_true rfl) (Nat.le_of_ble_eq_true rfl) (rm_fr M0.2.1 (by omega)) (rm_lo M0.2.1 (by omega)) sysN sysS sysI ?_)
  refine a_nmS (fun S_19 => ?_)
  refine a_aload_n F dX1_become_250 rfl rfl ?_
  refine a_getR (k := 19) F cfX1 dX1_become_251 fl_X1_70 (by decide) fi_1_19 (zcl_0 h1) (zck_0 h1) (zcr_19 h1) ?_
  refine a_iconst F dX1_become_254 ki_0 ?_
  refine a_aload_n F dX1_become_255 rfl rfl ?_
  refine a_getR (k := 19) F cfX1 dX1_become_256 fl_X1_70 (by decide) fi_1_19 (zcl_0 h0) (zck_0 h0) (zcr_19 h0) ?_
  refine a_iconst F dX1_become_259 ki_0 ?_
  refine a_bipush F dX1_become_260 kb_8 ?_
  refine a_gd1 (by decide : ¬ (0 : Int32) < 0 ∧ ¬ (0 : Int32) < 0 ∧ ¬ (8 : Int32) < 0 ∧ ix (0 : Int32) + ix (8 : Int32) ≤ 8 ∧ ix (0 : Int32) + ix (8 : Int32) ≤ 8) (a_copy F rfl dX1_become_262 ml_X1_73 rfl (zcl_15 h1) (zck_15 h1) (zcl_15 h0) (zck_15 h0) (Nat.le_of_ble_eq_true rfl) (Nat.le_of_ble_eq_true rfl) (rm_fr M0.2.1 (by omega)) (rm_lo M0.2.1 (by omega)) sysN sysS sysI ?_)
  refine a_nmS (fun S_20 => ?_)
  exact a_vret F M0.2.2.1 M0.2.2.2 dX1_become_265
theorem c_X1_become (X : CX) {r0 r1 : Nat} (h0 : isClan r0) (h1 : isClan r1) (S : Mm) : CtV X Z1 yX1_become cX1_become 2 1 [.ref r0, .ref r1] S (f_X1_become r0 r1 S) :=
  ctV_of (by decide +kernel) rfl (Nat.le_of_ble_eq_true rfl) (by simp [Value.category]) z1len fun E F R hra hlk => b_X1_become ⟨F, R, hra, hlk⟩ h0 h1 S
def f_X1_within_50 (k7 : Int32 → Int32 → Int32 → Mm → Option (Int32 × Mm)) (k19 : Int32 → Int32 → Int32 → Int32 → Int32 → Mm → Option (Int32 × Mm)) (r0 : Nat) (x2 x3 x4 x5 x6 : Int32) (S : Mm) : Option (Int32 × Mm) :=
  nm (x6 + (1 : Int32)) fun x6_1 =>
  k19 x2 x3 x4 x5 x6_1 S
set_option maxRecDepth 20000 in
theorem b_X1_within_50 {X : CX} {E : FE} (M0 : MF X E RX1 cX1_within 7 1 (some .int)) {r0 : Nat} (h0 : isClan r0) {k7 : Int32 → Int32 → Int32 → Mm → Option (Int32 × Mm)} (hk7 : ∀ (x2 x3 x4 : Int32) (S : Mm), At X E false (mQi X Z1 E) 7 [some (.ref r0), none, some (.int x2), some (.int x3), some (.int x4), none, none] [] Z1 S 0 0 (k7 x2 x3 x4 S)) {k19 : Int32 → Int32 → Int32 → Int32 → Int32 → Mm → Option (Int32 × Mm)} (hk19 : ∀ (x2 x3 x4 x5 x6 : Int32) (S : Mm), At X E false (mQi X Z1 E) 19 [some (.ref r0), none, some (.int x2), some (.int x3), some (.int x4), some (.int x5), some (.int x6)] [] Z1 S 0 0 (k19 x2 x3 x4 x5 x6 S)) (x2 x3 x4 x5 x6 : Int32) (S : Mm) : At X E false (mQi X Z1 E) 50 [some (.ref r0), none, some (.int x2), some (.int x3), some (.int x4), some (.int x5), some (.int x6)] [] Z1 S 0 0 (f_X1_within_50 k7 k19 r0 x2 x3 x4 x5 x6 S) := by
  have F := M0.1
  unfold f_X1_within_50
  refine a_iincN (L' := fun x6_1 => [some (.ref r0), none, some (.int x2), some (.int x3), some (.int x4), some (.int x5), some (.int x6_1)]) F dX1_within_50 rfl ki_1 (lt_b rfl) (fun _ => rfl) (fun x6_1 => ?_)
  refine a_goto F 19 dX1_within_53 (by decide) ?_
  exact hk19 x2 x3 x4 x5 x6_1 S
def f_X1_within_19b (k7 : Int32 → Int32 → Int32 → Mm → Option (Int32 × Mm)) (k19 : Int32 → Int32 → Int32 → Int32 → Int32 → Mm → Option (Int32 × Mm)) (r0 : Nat) (x2 x3 x4 x5 x6 : Int32) (S : Mm) : Option (Int32 × Mm) :=
  if (S r0 3) ≤ x6 then (
   nm (x4 + (1 : Int32)) fun x4_1 =>
   k7 x2 x5 x4_1 S
  ) else (
   if ((shr x3 x6) &&& (1 : Int32)) = (1 : Int32) then (
    gd (inB x6 12 = true) <|
    nm ((x5 ||| (S (r0 + 9) (ix x6)))) fun x5_2 =>
    f_X1_within_50 k7 k19 r0 x2 x3 x4 x5_2 x6 S
   ) else (
    f_X1_within_50 k7 k19 r0 x2 x3 x4 x5 x6 S
   )
  )
set_option maxRecDepth 20000 in
theorem b_X1_within_19b {X : CX} {E : FE} (M0 : MF X E RX1 cX1_within 7 1 (some .int)) {r0 : Nat} (h0 : isClan r0) {k7 : Int32 → Int32 → Int32 → Mm → Option (Int32 × Mm)} (hk7 : ∀ (x2 x3 x4 : Int32) (S : Mm), At X E false (mQi X Z1 E) 7 [some (.ref r0), none, some (.int x2), some (.int x3), some (.int x4), none, none] [] Z1 S 0 0 (k7 x2 x3 x4 S)) {k19 : Int32 → Int32 → Int32 → Int32 → Int32 → Mm → Option (Int32 × Mm)} (hk19 : ∀ (x2 x3 x4 x5 x6 : Int32) (S : Mm), At X E false (mQi X Z1 E) 19 [some (.ref r0), none, some (.int x2), some (.int x3), some (.int x4), some (.int x5), some (.int x6)] [] Z1 S 0 0 (k19 x2 x3 x4 x5 x6 S)) (x2 x3 x4 x5 x6 : Int32) (S : Mm) : At X E false (mQi X Z1 E) 19 [some (.ref r0), none, some (.int x2), some (.int x3), some (.int x4), some (.int x5), some (.int x6)] [] Z1 S 0 0 (f_X1_within_19b k7 k19 r0 x2 x3 x4 x5 x6 S) := by
  have F := M0.1
  unfold f_X1_within_19b
  refine a_iload F dX1_within_19 rfl ?_
  refine a_aload_n F dX1_within_21 rfl rfl ?_
  refine a_getI (k := 3) F cfX1 dX1_within_22 fl_X1_21 (by decide) fi_1_3 (zcl_0 h0) (zck_0 h0) ?_
  refine a_icmp_ge F 56 dX1_within_25 (by decide) ?_ ?_
  · refine a_iload F dX1_within_56 rfl ?_
    refine a_istore_n (L' := [some (.ref r0), none, some (.int x2), some (.int x5), some (.int x4), some (.int x5), some (.int x6)]) F dX1_within_58 rfl (lt_b rfl) rfl ?_
    refine a_iincN (L' := fun x4_1 => [some (.ref r0), none, some (.int x2), some (.int x5), some (.int x4_1), some (.int x5), some (.int x6)]) F dX1_within_59 rfl ki_1 (lt_b rfl) (fun _ => rfl) (fun x4_1 => ?_)
    refine a_goto F 7 dX1_within_62 (by decide) ?_
    refine a_mask [true, false, true, true, true, false, false] (L' := [some (.ref r0), none, some (.int x2), some (.int x5), some (.int x4_1), none, none]) rfl rfl ?_
    exact hk7 x2 x5 x4_1 S
  · refine a_iload_n F dX1_within_28 rfl rfl ?_
    refine a_iload F dX1_within_29 rfl ?_
    refine a_ishr F dX1_within_31 ?_
    refine a_iconst F dX1_within_32 ki_1 ?_
    refine a_iand F dX1_within_33 ?_
    refine a_iconst F dX1_within_34 ki_1 ?_
    refine a_icmp_ne F 50 dX1_within_35 (by decide) ?_ ?_
    · refine a_iload F dX1_within_38 rfl ?_
      refine a_aload_n F dX1_within_40 rfl rfl ?_
      refine a_getR (k := 13) F cfX1 dX1_within_41 fl_X1_52 (by decide) fi_1_13 (zcl_0 h0) (zck_0 h0) (zcr_13 h0) ?_
      refine a_iload F dX1_within_44 rfl ?_
      refine a_gd (a_iald F dX1_within_46 (zcl_9 h0) (zck_9 h0) ?_)
      refine a_ior F dX1_within_47 ?_
      refine a_istoreN (L' := fun x5_2 => [some (.ref r0), none, some (.int x2), some (.int x3), some (.int x4), some (.int x5_2), some (.int x6)]) F dX1_within_48 (lt_b rfl) (fun _ => rfl) (fun x5_2 => ?_)
      exact b_X1_within_50 M0 h0 hk7 hk19 x2 x3 x4 x5_2 x6 S
    · exact b_X1_within_50 M0 h0 hk7 hk19 x2 x3 x4 x5 x6 S
def f_X1_within_19 (k7 : Int32 → Int32 → Int32 → Mm → Option (Int32 × Mm)) (r0 : Nat) : Nat → Int32 → Int32 → Int32 → Int32 → Int32 → Mm → Option (Int32 × Mm) :=
  itr (fun _ _ _ _ _ _ => none) (fun k => f_X1_within_19b k7 k r0)
theorem b_X1_within_19 {X : CX} {E : FE} (M0 : MF X E RX1 cX1_within 7 1 (some .int)) {r0 : Nat} (h0 : isClan r0) {k7 : Int32 → Int32 → Int32 → Mm → Option (Int32 × Mm)} (hk7 : ∀ (x2 x3 x4 : Int32) (S : Mm), At X E false (mQi X Z1 E) 7 [some (.ref r0), none, some (.int x2), some (.int x3), some (.int x4), none, none] [] Z1 S 0 0 (k7 x2 x3 x4 S)) : ∀ (n : Nat) (x2 x3 x4 x5 x6 : Int32) (S : Mm), At X E false (mQi X Z1 E) 19 [some (.ref r0), none, some (.int x2), some (.int x3), some (.int x4), some (.int x5), some (.int x6)] [] Z1 S 0 0 (f_X1_within_19 k7 r0 n x2 x3 x4 x5 x6 S) := by
  intro n
  induction n with
  | zero => intros; exact a_none
  | succ n ih => intro x2 x3 x4 x5 x6 S; exact b_X1_within_19b M0 h0 hk7 ih x2 x3 x4 x5 x6 S
def f_X1_within_7b (k7 : Int32 → Int32 → Int32 → Mm → Option (Int32 × Mm)) (r0 : Nat) (x2 x3 x4 : Int32) (S : Mm) : Option (Int32 × Mm) :=
  if x2 ≤ x4 then (
   some (x3, S)
  ) else (
   f_X1_within_19 k7 r0 FU x2 x3 x4 x3 (0 : Int32) S
  )
set_option maxRecDepth 20000 in
theorem b_X1_within_7b {X : CX} {E : FE} (M0 : MF X E RX1 cX1_within 7 1 (some .int)) {r0 : Nat} (h0 : isClan r0) {k7 : Int32 → Int32 → Int32 → Mm → Option (Int32 × Mm)} (hk7 : ∀ (x2 x3 x4 : Int32) (S : Mm), At X E false (mQi X Z1 E) 7 [some (.ref r0), none, some (.int x2), some (.int x3), some (.int x4), none, none] [] Z1 S 0 0 (k7 x2 x3 x4 S)) (x2 x3 x4 : Int32) (S : Mm) : At X E false (mQi X Z1 E) 7 [some (.ref r0), none, some (.int x2), some (.int x3), some (.int x4), none, none] [] Z1 S 0 0 (f_X1_within_7b k7 r0 x2 x3 x4 S) := by
  have F := M0.1
  unfold f_X1_within_7b
  refine a_iload F dX1_within_7 rfl ?_
  refine a_iload_n F dX1_within_9 rfl rfl ?_
  refine a_icmp_ge F 65 dX1_within_10 (by decide) ?_ ?_
  · refine a_iload_n F dX1_within_65 rfl rfl ?_
    exact a_iret F M0.2.2.1 M0.2.2.2 dX1_within_66
  · refine a_iload_n F dX1_within_13 rfl rfl ?_
    refine a_istore (L' := [some (.ref r0), none, some (.int x2), some (.int x3), some (.int x4), some (.int x3), none]) F dX1_within_14 (lt_b rfl) rfl ?_
    refine a_iconst F dX1_within_16 ki_0 ?_
    refine a_istore (L' := [some (.ref r0), none, some (.int x2), some (.int x3), some (.int x4), some (.int x3), some (.int (0 : Int32))]) F dX1_within_17 (lt_b rfl) rfl ?_
    exact b_X1_within_19 M0 h0 hk7 FU x2 x3 x4 x3 (0 : Int32) S
def f_X1_within_7 (r0 : Nat) : Nat → Int32 → Int32 → Int32 → Mm → Option (Int32 × Mm) :=
  itr (fun _ _ _ _ => none) (fun k => f_X1_within_7b k r0)
theorem b_X1_within_7 {X : CX} {E : FE} (M0 : MF X E RX1 cX1_within 7 1 (some .int)) {r0 : Nat} (h0 : isClan r0) : ∀ (n : Nat) (x2 x3 x4 : Int32) (S : Mm), At X E false (mQi X Z1 E) 7 [some (.ref r0), none, some (.int x2), some (.int x3), some (.int x4), none, none] [] Z1 S 0 0 (f_X1_within_7 r0 n x2 x3 x4 S) := by
  intro n
  induction n with
  | zero => intros; exact a_none
  | succ n ih => intro x2 x3 x4 S; exact b_X1_within_7b M0 h0 ih x2 x3 x4 S
def f_X1_within (r0 : Nat) (p1 p2 : Int32) (S : Mm) : Option (Int32 × Mm) :=
  nm ((shl (1 : Int32) p1)) fun x3_1 =>
  f_X1_within_7 r0 FU p2 x3_1 (0 : Int32) S
set_option maxRecDepth 20000 in
theorem b_X1_within {X : CX} {E : FE} (M0 : MF X E RX1 cX1_within 7 1 (some .int)) {r0 : Nat} (h0 : isClan r0) (p1 p2 : Int32) (S : Mm) : At X E false (mQi X Z1 E) 0 [some (.ref r0), some (.int p1), some (.int p2), none, none, none, none] [] Z1 S 0 0 (f_X1_within r0 p1 p2 S) := by
  have F := M0.1
  unfold f_X1_within
  refine a_iconst F dX1_within_0 ki_1 ?_
  refine a_iload_n F dX1_within_1 rfl rfl ?_
  refine a_ishl F dX1_within_2 ?_
  refine a_istore_nN (L' := fun x3_1 => [some (.ref r0), some (.int p1), some (.int p2), some (.int x3_1), none, none, none]) F dX1_within_3 rfl (lt_b rfl) (fun _ => rfl) (fun x3_1 => ?_)
  refine a_iconst F dX1_within_4 ki_0 ?_
  refine a_istore (L' := [some (.ref r0), some (.int p1), some (.int p2), some (.int x3_1), some (.int (0 : Int32)), none, none]) F dX1_within_5 (lt_b rfl) rfl ?_
  refine a_mask [true, false, true, true, true, false, false] (L' := [some (.ref r0), none, some (.int p2), some (.int x3_1), some (.int (0 : Int32)), none, none]) rfl rfl ?_
  exact b_X1_within_7 M0 h0 FU p2 x3_1 (0 : Int32) S
theorem c_X1_within (X : CX) {r0 : Nat} (h0 : isClan r0) (p1 p2 : Int32) (S : Mm) : CtI X Z1 yX1_within cX1_within 7 (some .int) 1 [.ref r0, .int p1, .int p2] S (f_X1_within r0 p1 p2 S) :=
  ctI_of (by decide +kernel) rfl (Nat.le_of_ble_eq_true rfl) (by simp [Value.category]) z1len fun E F R hra hlk => b_X1_within ⟨F, R, hra, hlk⟩ h0 p1 p2 S
def f_X1_writableBy_102 (k30 : Int32 → Int32 → Int32 → Int32 → Mm → Option (Int32 × Mm)) (r0 : Nat) (x1 x2 x3 x4 : Int32) (S : Mm) : Option (Int32 × Mm) :=
  nm (x4 + (1 : Int32)) fun x4_1 =>
  k30 x1 x2 x3 x4_1 S
set_option maxRecDepth 20000 in
theorem b_X1_writableBy_102 {X : CX} {E : FE} (M0 : MF X E RX1 cX1_writableBy 8 3 (some .int)) {r0 : Nat} (h0 : isClan r0) {k30 : Int32 → Int32 → Int32 → Int32 → Mm → Option (Int32 × Mm)} (hk30 : ∀ (x1 x2 x3 x4 : Int32) (S : Mm), At X E false (mQi X Z1 E) 30 [some (.ref r0), some (.int x1), some (.int x2), some (.int x3), some (.int x4), none, none, none] [] Z1 S 0 0 (k30 x1 x2 x3 x4 S)) (x1 x2 x3 x4 : Int32) (S : Mm) : At X E false (mQi X Z1 E) 102 [some (.ref r0), some (.int x1), some (.int x2), some (.int x3), some (.int x4), none, none, none] [] Z1 S 0 0 (f_X1_writableBy_102 k30 r0 x1 x2 x3 x4 S) := by
  have F := M0.1
  unfold f_X1_writableBy_102
  refine a_iincN (L' := fun x4_1 => [some (.ref r0), some (.int x1), some (.int x2), some (.int x3), some (.int x4_1), none, none, none]) F dX1_writableBy_102 rfl ki_1 (lt_b rfl) (fun _ => rfl) (fun x4_1 => ?_)
  refine a_goto F 30 dX1_writableBy_105 (by decide) ?_
  exact hk30 x1 x2 x3 x4_1 S
def f_X1_writableBy_88 (k30 : Int32 → Int32 → Int32 → Int32 → Mm → Option (Int32 × Mm)) (r0 : Nat) (x1 x2 x3 x4 t0 : Int32) (S : Mm) : Option (Int32 × Mm) :=
  if t0 = 0 then (
   f_X1_writableBy_102 k30 r0 x1 x2 x3 x4 S
  ) else (
   nm ((x3 ||| (shl (1 : Int32) x4))) fun x3_1 =>
   f_X1_writableBy_102 k30 r0 x1 x2 x3_1 x4 S
  )
set_option maxRecDepth 20000 in
theorem b_X1_writableBy_88 {X : CX} {E : FE} (M0 : MF X E RX1 cX1_writableBy 8 3 (some .int)) {r0 : Nat} (h0 : isClan r0) {k30 : Int32 → Int32 → Int32 → Int32 → Mm → Option (Int32 × Mm)} (hk30 : ∀ (x1 x2 x3 x4 : Int32) (S : Mm), At X E false (mQi X Z1 E) 30 [some (.ref r0), some (.int x1), some (.int x2), some (.int x3), some (.int x4), none, none, none] [] Z1 S 0 0 (k30 x1 x2 x3 x4 S)) (x1 x2 x3 x4 t0 : Int32) (S : Mm) : At X E false (mQi X Z1 E) 88 [some (.ref r0), some (.int x1), some (.int x2), some (.int x3), some (.int x4), none, none, none] [.int t0] Z1 S 0 0 (f_X1_writableBy_88 k30 r0 x1 x2 x3 x4 t0 S) := by
  have F := M0.1
  unfold f_X1_writableBy_88
  refine a_istore (L' := [some (.ref r0), some (.int x1), some (.int x2), some (.int x3), some (.int x4), none, none, some (.int t0)]) F dX1_writableBy_88 (lt_b rfl) rfl ?_
  refine a_iload F dX1_writableBy_90 rfl ?_
  refine a_if_eq F 102 dX1_writableBy_92 (by decide) ?_ ?_
  · refine a_mask [true, true, true, true, true, false, false, false] (L' := [some (.ref r0), some (.int x1), some (.int x2), some (.int x3), some (.int x4), none, none, none]) rfl rfl ?_
    exact b_X1_writableBy_102 M0 h0 hk30 x1 x2 x3 x4 S
  · refine a_iload_n F dX1_writableBy_95 rfl rfl ?_
    refine a_iconst F dX1_writableBy_96 ki_1 ?_
    refine a_iload F dX1_writableBy_97 rfl ?_
    refine a_ishl F dX1_writableBy_99 ?_
    refine a_ior F dX1_writableBy_100 ?_
    refine a_istore_nN (L' := fun x3_1 => [some (.ref r0), some (.int x1), some (.int x2), some (.int x3_1), some (.int x4), none, none, some (.int t0)]) F dX1_writableBy_101 rfl (lt_b rfl) (fun _ => rfl) (fun x3_1 => ?_)
    refine a_mask [true, true, true, true, true, false, false, false] (L' := [some (.ref r0), some (.int x1), some (.int x2), some (.int x3_1), some (.int x4), none, none, none]) rfl rfl ?_
    exact b_X1_writableBy_102 M0 h0 hk30 x1 x2 x3_1 x4 S
def f_X1_writableBy_83 (k30 : Int32 → Int32 → Int32 → Int32 → Mm → Option (Int32 × Mm)) (r0 : Nat) (x1 x2 x3 x4 : Int32) (S : Mm) : Option (Int32 × Mm) :=
  f_X1_writableBy_88 k30 r0 x1 x2 x3 x4 (1 : Int32) S
set_option maxRecDepth 20000 in
theorem b_X1_writableBy_83 {X : CX} {E : FE} (M0 : MF X E RX1 cX1_writableBy 8 3 (some .int)) {r0 : Nat} (h0 : isClan r0) {k30 : Int32 → Int32 → Int32 → Int32 → Mm → Option (Int32 × Mm)} (hk30 : ∀ (x1 x2 x3 x4 : Int32) (S : Mm), At X E false (mQi X Z1 E) 30 [some (.ref r0), some (.int x1), some (.int x2), some (.int x3), some (.int x4), none, none, none] [] Z1 S 0 0 (k30 x1 x2 x3 x4 S)) (x1 x2 x3 x4 : Int32) (S : Mm) : At X E false (mQi X Z1 E) 83 [some (.ref r0), some (.int x1), some (.int x2), some (.int x3), some (.int x4), none, none, none] [] Z1 S 0 0 (f_X1_writableBy_83 k30 r0 x1 x2 x3 x4 S) := by
  have F := M0.1
  unfold f_X1_writableBy_83
  refine a_iconst F dX1_writableBy_83 ki_1 ?_
  refine a_goto F 88 dX1_writableBy_84 (by decide) ?_
  exact b_X1_writableBy_88 M0 h0 hk30 x1 x2 x3 x4 (1 : Int32) S
def f_X1_writableBy_87 (k30 : Int32 → Int32 → Int32 → Int32 → Mm → Option (Int32 × Mm)) (r0 : Nat) (x1 x2 x3 x4 : Int32) (S : Mm) : Option (Int32 × Mm) :=
  f_X1_writableBy_88 k30 r0 x1 x2 x3 x4 (0 : Int32) S
set_option maxRecDepth 20000 in
theorem b_X1_writableBy_87 {X : CX} {E : FE} (M0 : MF X E RX1 cX1_writableBy 8 3 (some .int)) {r0 : Nat} (h0 : isClan r0) {k30 : Int32 → Int32 → Int32 → Int32 → Mm → Option (Int32 × Mm)} (hk30 : ∀ (x1 x2 x3 x4 : Int32) (S : Mm), At X E false (mQi X Z1 E) 30 [some (.ref r0), some (.int x1), some (.int x2), some (.int x3), some (.int x4), none, none, none] [] Z1 S 0 0 (k30 x1 x2 x3 x4 S)) (x1 x2 x3 x4 : Int32) (S : Mm) : At X E false (mQi X Z1 E) 87 [some (.ref r0), some (.int x1), some (.int x2), some (.int x3), some (.int x4), none, none, none] [] Z1 S 0 0 (f_X1_writableBy_87 k30 r0 x1 x2 x3 x4 S) := by
  have F := M0.1
  unfold f_X1_writableBy_87
  refine a_iconst F dX1_writableBy_87 ki_0 ?_
  exact b_X1_writableBy_88 M0 h0 hk30 x1 x2 x3 x4 (0 : Int32) S
def f_X1_writableBy_30b (k30 : Int32 → Int32 → Int32 → Int32 → Mm → Option (Int32 × Mm)) (r0 : Nat) (x1 x2 x3 x4 : Int32) (S : Mm) : Option (Int32 × Mm) :=
  if (28 : Int32) ≤ x4 then (
   some (x3, S)
  ) else (
   gd (inB x4 28 = true) <|
   nm ((S (r0 + 11) (ix x4))) fun x5_1 =>
   gd (inB x4 28 = true) <|
   nm ((S (r0 + 10) (ix x4))) fun x6_2 =>
   if x5_1 = x1 then (
    f_X1_writableBy_83 k30 r0 x1 x2 x3 x4 S
   ) else (
    if x5_1 = (-1 : Int32) then (
     if x6_2 = (-1 : Int32) then (
      f_X1_writableBy_87 k30 r0 x1 x2 x3 x4 S
     ) else (
      if ((shr x2 x6_2) &&& (1 : Int32)) = (1 : Int32) then (
       f_X1_writableBy_83 k30 r0 x1 x2 x3 x4 S
      ) else (
       f_X1_writableBy_87 k30 r0 x1 x2 x3 x4 S
      )
     )
    ) else (
     f_X1_writableBy_87 k30 r0 x1 x2 x3 x4 S
    )
   )
  )
set_option maxRecDepth 20000 in
theorem b_X1_writableBy_30b {X : CX} {E : FE} (M0 : MF X E RX1 cX1_writableBy 8 3 (some .int)) {r0 : Nat} (h0 : isClan r0) {k30 : Int32 → Int32 → Int32 → Int32 → Mm → Option (Int32 × Mm)} (hk30 : ∀ (x1 x2 x3 x4 : Int32) (S : Mm), At X E false (mQi X Z1 E) 30 [some (.ref r0), some (.int x1), some (.int x2), some (.int x3), some (.int x4), none, none, none] [] Z1 S 0 0 (k30 x1 x2 x3 x4 S)) (x1 x2 x3 x4 : Int32) (S : Mm) : At X E false (mQi X Z1 E) 30 [some (.ref r0), some (.int x1), some (.int x2), some (.int x3), some (.int x4), none, none, none] [] Z1 S 0 0 (f_X1_writableBy_30b k30 r0 x1 x2 x3 x4 S) := by
  have F := M0.1
  unfold f_X1_writableBy_30b
  refine a_iload F dX1_writableBy_30 rfl ?_
  refine a_bipush F dX1_writableBy_32 kb_28 ?_
  refine a_icmp_ge F 108 dX1_writableBy_34 (by decide) ?_ ?_
  · refine a_iload_n F dX1_writableBy_108 rfl rfl ?_
    exact a_iret F M0.2.2.1 M0.2.2.2 dX1_writableBy_109
  · refine a_aload_n F dX1_writableBy_37 rfl rfl ?_
    refine a_getR (k := 15) F cfX1 dX1_writableBy_38 fl_X1_58 (by decide) fi_1_15 (zcl_0 h0) (zck_0 h0) (zcr_15 h0) ?_
    refine a_iload F dX1_writableBy_41 rfl ?_
    refine a_gd (a_iald F dX1_writableBy_43 (zcl_11 h0) (zck_11 h0) ?_)
    refine a_istoreN (L' := fun x5_1 => [some (.ref r0), some (.int x1), some (.int x2), some (.int x3), some (.int x4), some (.int x5_1), none, none]) F dX1_writableBy_44 (lt_b rfl) (fun _ => rfl) (fun x5_1 => ?_)
    refine a_aload_n F dX1_writableBy_46 rfl rfl ?_
    refine a_getR (k := 14) F cfX1 dX1_writableBy_47 fl_X1_55 (by decide) fi_1_14 (zcl_0 h0) (zck_0 h0) (zcr_14 h0) ?_
    refine a_iload F dX1_writableBy_50 rfl ?_
    refine a_gd (a_iald F dX1_writableBy_52 (zcl_10 h0) (zck_10 h0) ?_)
    refine a_istoreN (L' := fun x6_2 => [some (.ref r0), some (.int x1), some (.int x2), some (.int x3), some (.int x4), some (.int x5_1), some (.int x6_2), none]) F dX1_writableBy_53 (lt_b rfl) (fun _ => rfl) (fun x6_2 => ?_)
    refine a_iload F dX1_writableBy_55 rfl ?_
    refine a_iload_n F dX1_writableBy_57 rfl rfl ?_
    refine a_icmp_eq F 83 dX1_writableBy_58 (by decide) ?_ ?_
    · refine a_mask [true, true, true, true, true, false, false, false] (L' := [some (.ref r0), some (.int x1), some (.int x2), some (.int x3), some (.int x4), none, none, none]) rfl rfl ?_
      exact b_X1_writableBy_83 M0 h0 hk30 x1 x2 x3 x4 S
    · refine a_iload F dX1_writableBy_61 rfl ?_
      refine a_iconst F dX1_writableBy_63 ki_m1 ?_
      refine a_icmp_ne F 87 dX1_writableBy_64 (by decide) ?_ ?_
      · refine a_iload F dX1_writableBy_67 rfl ?_
        refine a_iconst F dX1_writableBy_69 ki_m1 ?_
        refine a_icmp_eq F 87 dX1_writableBy_70 (by decide) ?_ ?_
        · refine a_mask [true, true, true, true, true, false, false, false] (L' := [some (.ref r0), some (.int x1), some (.int x2), some (.int x3), some (.int x4), none, none, none]) rfl rfl ?_
          exact b_X1_writableBy_87 M0 h0 hk30 x1 x2 x3 x4 S
        · refine a_iload_n F dX1_writableBy_73 rfl rfl ?_
          refine a_iload F dX1_writableBy_74 rfl ?_
          refine a_ishr F dX1_writableBy_76 ?_
          refine a_iconst F dX1_writableBy_77 ki_1 ?_
          refine a_iand F dX1_writableBy_78 ?_
          refine a_iconst F dX1_writableBy_79 ki_1 ?_
          refine a_icmp_ne F 87 dX1_writableBy_80 (by decide) ?_ ?_
          · refine a_mask [true, true, true, true, true, false, false, false] (L' := [some (.ref r0), some (.int x1), some (.int x2), some (.int x3), some (.int x4), none, none, none]) rfl rfl ?_
            exact b_X1_writableBy_83 M0 h0 hk30 x1 x2 x3 x4 S
          · refine a_mask [true, true, true, true, true, false, false, false] (L' := [some (.ref r0), some (.int x1), some (.int x2), some (.int x3), some (.int x4), none, none, none]) rfl rfl ?_
            exact b_X1_writableBy_87 M0 h0 hk30 x1 x2 x3 x4 S
      · refine a_mask [true, true, true, true, true, false, false, false] (L' := [some (.ref r0), some (.int x1), some (.int x2), some (.int x3), some (.int x4), none, none, none]) rfl rfl ?_
        exact b_X1_writableBy_87 M0 h0 hk30 x1 x2 x3 x4 S
def f_X1_writableBy_30 (r0 : Nat) : Nat → Int32 → Int32 → Int32 → Int32 → Mm → Option (Int32 × Mm) :=
  itr (fun _ _ _ _ _ => none) (fun k => f_X1_writableBy_30b k r0)
theorem b_X1_writableBy_30 {X : CX} {E : FE} (M0 : MF X E RX1 cX1_writableBy 8 3 (some .int)) {r0 : Nat} (h0 : isClan r0) : ∀ (n : Nat) (x1 x2 x3 x4 : Int32) (S : Mm), At X E false (mQi X Z1 E) 30 [some (.ref r0), some (.int x1), some (.int x2), some (.int x3), some (.int x4), none, none, none] [] Z1 S 0 0 (f_X1_writableBy_30 r0 n x1 x2 x3 x4 S) := by
  intro n
  induction n with
  | zero => intros; exact a_none
  | succ n ih => intro x1 x2 x3 x4 S; exact b_X1_writableBy_30b M0 h0 ih x1 x2 x3 x4 S
def f_X1_writableBy (r0 : Nat) (p1 : Int32) (S : Mm) : Option (Int32 × Mm) :=
  (f_X1_lives r0 p1 S).bind fun q_1 =>
  if q_1.1 = 0 then (
   some ((0 : Int32), q_1.2)
  ) else (
   (f_X1_within r0 p1 (q_1.2 r0 2) q_1.2).bind fun q_2 =>
   nm ((q_2.1 &&& (q_2.2 r0 4))) fun x2_3 =>
   f_X1_writableBy_30 r0 FU p1 x2_3 (0 : Int32) (0 : Int32) q_2.2
  )
set_option maxRecDepth 20000 in
theorem b_X1_writableBy {X : CX} {E : FE} (M0 : MF X E RX1 cX1_writableBy 8 3 (some .int)) {r0 : Nat} (h0 : isClan r0) (p1 : Int32) (S : Mm) : At X E false (mQi X Z1 E) 0 [some (.ref r0), some (.int p1), none, none, none, none, none, none] [] Z1 S 0 0 (f_X1_writableBy r0 p1 S) := by
  have F := M0.1
  unfold f_X1_writableBy
  refine a_aload_n F dX1_writableBy_0 rfl rfl ?_
  refine a_iload_n F dX1_writableBy_1 rfl rfl ?_
  refine a_callVI F (As := [.int p1]) cfX1 rfl (c_X1_lives X h0 p1 S) mw_X1_lives ml_X1_87 im_X1_lives se_X1_lives M0.2.1 (Nat.le_of_ble_eq_true rfl) ⟨Nat.zero_le _, Nat.zero_le _⟩ rfl rfl (Nat.le_of_ble_eq_true rfl) (zcl_0 h0) (zck_0 h0) dX1_writableBy_2 rfl (fun q_1 => ?_)
  refine a_if_ne F 10 dX1_writableBy_5 (by decide) ?_ ?_
  · refine a_iconst F dX1_writableBy_8 ki_0 ?_
    exact a_iret F M0.2.2.1 M0.2.2.2 dX1_writableBy_9
  · refine a_aload_n F dX1_writableBy_10 rfl rfl ?_
    refine a_iload_n F dX1_writableBy_11 rfl rfl ?_
    refine a_aload_n F dX1_writableBy_12 rfl rfl ?_
    refine a_getI (k := 2) F cfX1 dX1_writableBy_13 fl_X1_18 (by decide) fi_1_2 (zcl_0 h0) (zck_0 h0) ?_
    refine a_callVI F (As := [.int p1, .int (q_1.2 r0 2)]) cfX1 rfl (c_X1_within X h0 p1 (q_1.2 r0 2) q_1.2) mw_X1_within ml_X1_97 im_X1_within se_X1_within M0.2.1 (Nat.le_of_ble_eq_true rfl) ⟨Nat.zero_le _, Nat.zero_le _⟩ rfl rfl (Nat.le_of_ble_eq_true rfl) (zcl_0 h0) (zck_0 h0) dX1_writableBy_16 rfl (fun q_2 => ?_)
    refine a_aload_n F dX1_writableBy_19 rfl rfl ?_
    refine a_getI (k := 4) F cfX1 dX1_writableBy_20 fl_X1_24 (by decide) fi_1_4 (zcl_0 h0) (zck_0 h0) ?_
    refine a_iand F dX1_writableBy_23 ?_
    refine a_istore_nN (L' := fun x2_3 => [some (.ref r0), some (.int p1), some (.int x2_3), none, none, none, none, none]) F dX1_writableBy_24 rfl (lt_b rfl) (fun _ => rfl) (fun x2_3 => ?_)
    refine a_iconst F dX1_writableBy_25 ki_0 ?_
    refine a_istore_n (L' := [some (.ref r0), some (.int p1), some (.int x2_3), some (.int (0 : Int32)), none, none, none, none]) F dX1_writableBy_26 rfl (lt_b rfl) rfl ?_
    refine a_iconst F dX1_writableBy_27 ki_0 ?_
    refine a_istore (L' := [some (.ref r0), some (.int p1), some (.int x2_3), some (.int (0 : Int32)), some (.int (0 : Int32)), none, none, none]) F dX1_writableBy_28 (lt_b rfl) rfl ?_
    exact b_X1_writableBy_30 M0 h0 FU p1 x2_3 (0 : Int32) (0 : Int32) q_2.2
theorem c_X1_writableBy (X : CX) {r0 : Nat} (h0 : isClan r0) (p1 : Int32) (S : Mm) : CtI X Z1 yX1_writableBy cX1_writableBy 8 (some .int) 3 [.ref r0, .int p1] S (f_X1_writableBy r0 p1 S) :=
  ctI_of (by decide +kernel) rfl (Nat.le_of_ble_eq_true rfl) (by simp [Value.category]) z1len fun E F R hra hlk => b_X1_writableBy ⟨F, R, hra, hlk⟩ h0 p1 S
def f_X7_ask_2b (k2 : Int32 → Mm → Option Mm) (r1 : Nat) (x2 : Int32) (S : Mm) : Option Mm :=
  if (12 : Int32) ≤ x2 then (
   some S
  ) else (
   (f_X1_writableBy r1 x2 S).bind fun q_1 =>
   gd (inB x2 12 = true) <|
   nm (uM q_1.2 182 (ix x2) q_1.1) fun S_2 =>
   nm (x2 + (1 : Int32)) fun x2_3 =>
   k2 x2_3 S_2
  )
set_option maxRecDepth 20000 in
theorem b_X7_ask_2b {X : CX} {E : FE} (M0 : MF X E RX7 cX7_ask 3 4 none) {r1 : Nat} (h1 : isClan r1) {k2 : Int32 → Mm → Option Mm} (hk2 : ∀ (x2 : Int32) (S : Mm), At X E false (mQv X Z1 E) 2 [some (.ref 165), some (.ref r1), some (.int x2)] [] Z1 S 0 0 (k2 x2 S)) (x2 : Int32) (S : Mm) : At X E false (mQv X Z1 E) 2 [some (.ref 165), some (.ref r1), some (.int x2)] [] Z1 S 0 0 (f_X7_ask_2b k2 r1 x2 S) := by
  have F := M0.1
  unfold f_X7_ask_2b
  refine a_iload_n F dX7_ask_2 rfl rfl ?_
  refine a_bipush F dX7_ask_3 kb_12 ?_
  refine a_icmp_ge F 25 dX7_ask_5 (by decide) ?_ ?_
  · exact a_vret F M0.2.2.1 M0.2.2.2 dX7_ask_25
  · refine a_aload_n F dX7_ask_8 rfl rfl ?_
    refine a_getR (k := 3) F cfX7 dX7_ask_9 fl_X7_18 (by decide) fi_7_3 zl_165 zk_165 zr_165_3 ?_
    refine a_iload_n F dX7_ask_12 rfl rfl ?_
    refine a_aload_n F dX7_ask_13 rfl rfl ?_
    refine a_iload_n F dX7_ask_14 rfl rfl ?_
    refine a_callVI F (As := [.int x2]) cfX1 rfl (c_X1_writableBy X h1 x2 S) mw_X1_writableBy ml_X7_32 im_X1_writableBy se_X1_writableBy M0.2.1 (Nat.le_of_ble_eq_true rfl) ⟨Nat.zero_le _, Nat.zero_le _⟩ rfl rfl (Nat.le_of_ble_eq_true rfl) (zcl_0 h1) (zck_0 h1) dX7_ask_15 rfl (fun q_1 => ?_)
    refine a_gd (a_iast F dX7_ask_18 zl_182 zk_182 ?_)
    refine a_nmS (fun S_2 => ?_)
    refine a_iincN (L' := fun x2_3 => [some (.ref 165), some (.ref r1), some (.int x2_3)]) F dX7_ask_19 rfl ki_1 (lt_b rfl) (fun _ => rfl) (fun x2_3 => ?_)
    refine a_goto F 2 dX7_ask_22 (by decide) ?_
    exact hk2 x2_3 S_2
def f_X7_ask_2 (r1 : Nat) : Nat → Int32 → Mm → Option Mm :=
  itr (fun _ _ => none) (fun k => f_X7_ask_2b k r1)
theorem b_X7_ask_2 {X : CX} {E : FE} (M0 : MF X E RX7 cX7_ask 3 4 none) {r1 : Nat} (h1 : isClan r1) : ∀ (n : Nat) (x2 : Int32) (S : Mm), At X E false (mQv X Z1 E) 2 [some (.ref 165), some (.ref r1), some (.int x2)] [] Z1 S 0 0 (f_X7_ask_2 r1 n x2 S) := by
  intro n
  induction n with
  | zero => intros; exact a_none
  | succ n ih => intro x2 S; exact b_X7_ask_2b M0 h1 ih x2 S
def f_X7_ask (r1 : Nat) (S : Mm) : Option Mm :=
  f_X7_ask_2 r1 FU (0 : Int32) S
set_option maxRecDepth 20000 in
theorem b_X7_ask {X : CX} {E : FE} (M0 : MF X E RX7 cX7_ask 3 4 none) {r1 : Nat} (h1 : isClan r1) (S : Mm) : At X E false (mQv X Z1 E) 0 [some (.ref 165), some (.ref r1), none] [] Z1 S 0 0 (f_X7_ask r1 S) := by
  have F := M0.1
  unfold f_X7_ask
  refine a_iconst F dX7_ask_0 ki_0 ?_
  refine a_istore_n (L' := [some (.ref 165), some (.ref r1), some (.int (0 : Int32))]) F dX7_ask_1 rfl (lt_b rfl) rfl ?_
  exact b_X7_ask_2 M0 h1 FU (0 : Int32) S
theorem c_X7_ask (X : CX) {r1 : Nat} (h1 : isClan r1) (S : Mm) : CtV X Z1 yX7_ask cX7_ask 3 4 [.ref 165, .ref r1] S (f_X7_ask r1 S) :=
  ctV_of (by decide +kernel) rfl (Nat.le_of_ble_eq_true rfl) (by simp [Value.category]) z1len fun E F R hra hlk => b_X7_ask ⟨F, R, hra, hlk⟩ h1 S
def f_X7_spoken_60 (k9 : Int32 → Int32 → Mm → Option (Int32 × Mm)) (k23 : Int32 → Int32 → Int32 → Mm → Option (Int32 × Mm)) (r1 : Nat) (x2 x3 x4 : Int32) (S : Mm) : Option (Int32 × Mm) :=
  nm (x4 + (1 : Int32)) fun x4_1 =>
  k23 x2 x3 x4_1 S
set_option maxRecDepth 20000 in
theorem b_X7_spoken_60 {X : CX} {E : FE} (M0 : MF X E RX7 cX7_spoken 5 5 (some .int)) {r1 : Nat} (h1 : isClan r1) {k9 : Int32 → Int32 → Mm → Option (Int32 × Mm)} (hk9 : ∀ (x2 x3 : Int32) (S : Mm), At X E false (mQi X Z1 E) 9 [some (.ref 165), some (.ref r1), some (.int x2), some (.int x3), none] [] Z1 S 0 0 (k9 x2 x3 S)) {k23 : Int32 → Int32 → Int32 → Mm → Option (Int32 × Mm)} (hk23 : ∀ (x2 x3 x4 : Int32) (S : Mm), At X E false (mQi X Z1 E) 23 [some (.ref 165), some (.ref r1), some (.int x2), some (.int x3), some (.int x4)] [] Z1 S 0 0 (k23 x2 x3 x4 S)) (x2 x3 x4 : Int32) (S : Mm) : At X E false (mQi X Z1 E) 60 [some (.ref 165), some (.ref r1), some (.int x2), some (.int x3), some (.int x4)] [] Z1 S 0 0 (f_X7_spoken_60 k9 k23 r1 x2 x3 x4 S) := by
  have F := M0.1
  unfold f_X7_spoken_60
  refine a_iincN (L' := fun x4_1 => [some (.ref 165), some (.ref r1), some (.int x2), some (.int x3), some (.int x4_1)]) F dX7_spoken_60 rfl ki_1 (lt_b rfl) (fun _ => rfl) (fun x4_1 => ?_)
  refine a_goto F 23 dX7_spoken_63 (by decide) ?_
  exact hk23 x2 x3 x4_1 S
def f_X7_spoken_23b (k9 : Int32 → Int32 → Mm → Option (Int32 × Mm)) (k23 : Int32 → Int32 → Int32 → Mm → Option (Int32 × Mm)) (r1 : Nat) (x2 x3 x4 : Int32) (S : Mm) : Option (Int32 × Mm) :=
  if (S r1 3) ≤ x4 then (
   nm (x3 + (1 : Int32)) fun x3_1 =>
   k9 x2 x3_1 S
  ) else (
   gd (inB x3 8 = true) <|
   gd (inB x4 12 = true) <|
   if ((S 31 (ix x3)) &&& ((S 182 (ix x4)) ^^^ (-1 : Int32))) = 0 then (
    nm ((x2 ||| (shl (1 : Int32) x3))) fun x2_2 =>
    f_X7_spoken_60 k9 k23 r1 x2_2 x3 x4 S
   ) else (
    f_X7_spoken_60 k9 k23 r1 x2 x3 x4 S
   )
  )
set_option maxRecDepth 20000 in
theorem b_X7_spoken_23b {X : CX} {E : FE} (M0 : MF X E RX7 cX7_spoken 5 5 (some .int)) {r1 : Nat} (h1 : isClan r1) {k9 : Int32 → Int32 → Mm → Option (Int32 × Mm)} (hk9 : ∀ (x2 x3 : Int32) (S : Mm), At X E false (mQi X Z1 E) 9 [some (.ref 165), some (.ref r1), some (.int x2), some (.int x3), none] [] Z1 S 0 0 (k9 x2 x3 S)) {k23 : Int32 → Int32 → Int32 → Mm → Option (Int32 × Mm)} (hk23 : ∀ (x2 x3 x4 : Int32) (S : Mm), At X E false (mQi X Z1 E) 23 [some (.ref 165), some (.ref r1), some (.int x2), some (.int x3), some (.int x4)] [] Z1 S 0 0 (k23 x2 x3 x4 S)) (x2 x3 x4 : Int32) (S : Mm) : At X E false (mQi X Z1 E) 23 [some (.ref 165), some (.ref r1), some (.int x2), some (.int x3), some (.int x4)] [] Z1 S 0 0 (f_X7_spoken_23b k9 k23 r1 x2 x3 x4 S) := by
  have F := M0.1
  unfold f_X7_spoken_23b
  refine a_iload F dX7_spoken_23 rfl ?_
  refine a_aload_n F dX7_spoken_25 rfl rfl ?_
  refine a_getI (k := 3) F cfX1 dX7_spoken_26 fl_X7_43 (by decide) fi_1_3 (zcl_0 h1) (zck_0 h1) ?_
  refine a_icmp_ge F 66 dX7_spoken_29 (by decide) ?_ ?_
  · refine a_iincN (L' := fun x3_1 => [some (.ref 165), some (.ref r1), some (.int x2), some (.int x3_1), some (.int x4)]) F dX7_spoken_66 rfl ki_1 (lt_b rfl) (fun _ => rfl) (fun x3_1 => ?_)
    refine a_goto F 9 dX7_spoken_69 (by decide) ?_
    refine a_mask [true, true, true, true, false] (L' := [some (.ref 165), some (.ref r1), some (.int x2), some (.int x3_1), none]) rfl rfl ?_
    exact hk9 x2 x3_1 S
  · refine a_aload_n F dX7_spoken_32 rfl rfl ?_
    refine a_getR (k := 1) F cfX7 dX7_spoken_33 fl_X7_28 (by decide) fi_7_1 zl_165 zk_165 zr_165_1 ?_
    refine a_getR (k := 8) F cfX6 dX7_spoken_36 fl_X7_67 (by decide) fi_6_8 zl_17 zk_17 zr_17_8 ?_
    refine a_iload_n F dX7_spoken_39 rfl rfl ?_
    refine a_gd (a_iald F dX7_spoken_40 zl_31 zk_31 ?_)
    refine a_aload_n F dX7_spoken_41 rfl rfl ?_
    refine a_getR (k := 3) F cfX7 dX7_spoken_42 fl_X7_18 (by decide) fi_7_3 zl_165 zk_165 zr_165_3 ?_
    refine a_iload F dX7_spoken_45 rfl ?_
    refine a_gd (a_iald F dX7_spoken_47 zl_182 zk_182 ?_)
    refine a_iconst F dX7_spoken_48 ki_m1 ?_
    refine a_ixor F dX7_spoken_49 ?_
    refine a_iand F dX7_spoken_50 ?_
    refine a_if_ne F 60 dX7_spoken_51 (by decide) ?_ ?_
    · refine a_iload_n F dX7_spoken_54 rfl rfl ?_
      refine a_iconst F dX7_spoken_55 ki_1 ?_
      refine a_iload_n F dX7_spoken_56 rfl rfl ?_
      refine a_ishl F dX7_spoken_57 ?_
      refine a_ior F dX7_spoken_58 ?_
      refine a_istore_nN (L' := fun x2_2 => [some (.ref 165), some (.ref r1), some (.int x2_2), some (.int x3), some (.int x4)]) F dX7_spoken_59 rfl (lt_b rfl) (fun _ => rfl) (fun x2_2 => ?_)
      exact b_X7_spoken_60 M0 h1 hk9 hk23 x2_2 x3 x4 S
    · exact b_X7_spoken_60 M0 h1 hk9 hk23 x2 x3 x4 S
def f_X7_spoken_23 (k9 : Int32 → Int32 → Mm → Option (Int32 × Mm)) (r1 : Nat) : Nat → Int32 → Int32 → Int32 → Mm → Option (Int32 × Mm) :=
  itr (fun _ _ _ _ => none) (fun k => f_X7_spoken_23b k9 k r1)
theorem b_X7_spoken_23 {X : CX} {E : FE} (M0 : MF X E RX7 cX7_spoken 5 5 (some .int)) {r1 : Nat} (h1 : isClan r1) {k9 : Int32 → Int32 → Mm → Option (Int32 × Mm)} (hk9 : ∀ (x2 x3 : Int32) (S : Mm), At X E false (mQi X Z1 E) 9 [some (.ref 165), some (.ref r1), some (.int x2), some (.int x3), none] [] Z1 S 0 0 (k9 x2 x3 S)) : ∀ (n : Nat) (x2 x3 x4 : Int32) (S : Mm), At X E false (mQi X Z1 E) 23 [some (.ref 165), some (.ref r1), some (.int x2), some (.int x3), some (.int x4)] [] Z1 S 0 0 (f_X7_spoken_23 k9 r1 n x2 x3 x4 S) := by
  intro n
  induction n with
  | zero => intros; exact a_none
  | succ n ih => intro x2 x3 x4 S; exact b_X7_spoken_23b M0 h1 hk9 ih x2 x3 x4 S
def f_X7_spoken_9b (k9 : Int32 → Int32 → Mm → Option (Int32 × Mm)) (r1 : Nat) (x2 x3 : Int32) (S : Mm) : Option (Int32 × Mm) :=
  if (S 17 5) ≤ x3 then (
   some (x2, S)
  ) else (
   f_X7_spoken_23 k9 r1 FU x2 x3 (0 : Int32) S
  )
set_option maxRecDepth 20000 in
theorem b_X7_spoken_9b {X : CX} {E : FE} (M0 : MF X E RX7 cX7_spoken 5 5 (some .int)) {r1 : Nat} (h1 : isClan r1) {k9 : Int32 → Int32 → Mm → Option (Int32 × Mm)} (hk9 : ∀ (x2 x3 : Int32) (S : Mm), At X E false (mQi X Z1 E) 9 [some (.ref 165), some (.ref r1), some (.int x2), some (.int x3), none] [] Z1 S 0 0 (k9 x2 x3 S)) (x2 x3 : Int32) (S : Mm) : At X E false (mQi X Z1 E) 9 [some (.ref 165), some (.ref r1), some (.int x2), some (.int x3), none] [] Z1 S 0 0 (f_X7_spoken_9b k9 r1 x2 x3 S) := by
  have F := M0.1
  unfold f_X7_spoken_9b
  refine a_iload_n F dX7_spoken_9 rfl rfl ?_
  refine a_aload_n F dX7_spoken_10 rfl rfl ?_
  refine a_getR (k := 1) F cfX7 dX7_spoken_11 fl_X7_28 (by decide) fi_7_1 zl_165 zk_165 zr_165_1 ?_
  refine a_getI (k := 5) F cfX6 dX7_spoken_14 fl_X7_62 (by decide) fi_6_5 zl_17 zk_17 ?_
  refine a_icmp_ge F 72 dX7_spoken_17 (by decide) ?_ ?_
  · refine a_iload_n F dX7_spoken_72 rfl rfl ?_
    exact a_iret F M0.2.2.1 M0.2.2.2 dX7_spoken_73
  · refine a_iconst F dX7_spoken_20 ki_0 ?_
    refine a_istore (L' := [some (.ref 165), some (.ref r1), some (.int x2), some (.int x3), some (.int (0 : Int32))]) F dX7_spoken_21 (lt_b rfl) rfl ?_
    exact b_X7_spoken_23 M0 h1 hk9 FU x2 x3 (0 : Int32) S
def f_X7_spoken_9 (r1 : Nat) : Nat → Int32 → Int32 → Mm → Option (Int32 × Mm) :=
  itr (fun _ _ _ => none) (fun k => f_X7_spoken_9b k r1)
theorem b_X7_spoken_9 {X : CX} {E : FE} (M0 : MF X E RX7 cX7_spoken 5 5 (some .int)) {r1 : Nat} (h1 : isClan r1) : ∀ (n : Nat) (x2 x3 : Int32) (S : Mm), At X E false (mQi X Z1 E) 9 [some (.ref 165), some (.ref r1), some (.int x2), some (.int x3), none] [] Z1 S 0 0 (f_X7_spoken_9 r1 n x2 x3 S) := by
  intro n
  induction n with
  | zero => intros; exact a_none
  | succ n ih => intro x2 x3 S; exact b_X7_spoken_9b M0 h1 ih x2 x3 S
def f_X7_spoken (r1 : Nat) (S : Mm) : Option (Int32 × Mm) :=
  (f_X7_ask r1 S).bind fun S_1 =>
  f_X7_spoken_9 r1 FU (0 : Int32) (0 : Int32) S_1
set_option maxRecDepth 20000 in
theorem b_X7_spoken {X : CX} {E : FE} (M0 : MF X E RX7 cX7_spoken 5 5 (some .int)) {r1 : Nat} (h1 : isClan r1) (S : Mm) : At X E false (mQi X Z1 E) 0 [some (.ref 165), some (.ref r1), none, none, none] [] Z1 S 0 0 (f_X7_spoken r1 S) := by
  have F := M0.1
  unfold f_X7_spoken
  refine a_aload_n F dX7_spoken_0 rfl rfl ?_
  refine a_aload_n F dX7_spoken_1 rfl rfl ?_
  refine a_callVV F (As := [.ref r1]) cfX7 rfl (c_X7_ask X h1 S) mw_X7_ask ml_X7_36 im_X7_ask se_X7_ask M0.2.1 (Nat.le_of_ble_eq_true rfl) ⟨Nat.zero_le _, Nat.zero_le _⟩ rfl rfl (Nat.le_of_ble_eq_true rfl) zl_165 zk_165 dX7_spoken_2 rfl (fun S_1 => ?_)
  refine a_iconst F dX7_spoken_5 ki_0 ?_
  refine a_istore_n (L' := [some (.ref 165), some (.ref r1), some (.int (0 : Int32)), none, none]) F dX7_spoken_6 rfl (lt_b rfl) rfl ?_
  refine a_iconst F dX7_spoken_7 ki_0 ?_
  refine a_istore_n (L' := [some (.ref 165), some (.ref r1), some (.int (0 : Int32)), some (.int (0 : Int32)), none]) F dX7_spoken_8 rfl (lt_b rfl) rfl ?_
  exact b_X7_spoken_9 M0 h1 FU (0 : Int32) (0 : Int32) S_1
theorem c_X7_spoken (X : CX) {r1 : Nat} (h1 : isClan r1) (S : Mm) : CtI X Z1 yX7_spoken cX7_spoken 5 (some .int) 5 [.ref 165, .ref r1] S (f_X7_spoken r1 S) :=
  ctI_of (by decide +kernel) rfl (Nat.le_of_ble_eq_true rfl) (by simp [Value.category]) z1len fun E F R hra hlk => b_X7_spoken ⟨F, R, hra, hlk⟩ h1 S
def f_J6_bitCount_0f7a4 (p0 : Int32) (S : Mm) : Option (Int32 × Mm) :=
  nm ((p0 - ((ushr p0 (1 : Int32)) &&& (1431655765 : Int32)))) fun x0_1 =>
  nm (((x0_1 &&& (858993459 : Int32)) + ((ushr x0_1 (2 : Int32)) &&& (858993459 : Int32)))) fun x0_2 =>
  nm (((x0_2 + (ushr x0_2 (4 : Int32))) &&& (252645135 : Int32))) fun x0_3 =>
  nm ((x0_3 + (ushr x0_3 (8 : Int32)))) fun x0_4 =>
  nm ((x0_4 + (ushr x0_4 (16 : Int32)))) fun x0_5 =>
  some ((x0_5 &&& (63 : Int32)), S)
set_option maxRecDepth 20000 in
theorem b_J6_bitCount_0f7a4 {X : CX} {E : FE} (M0 : MF X E RJ6 cJ6_bitCount_0f7a4 1 1 (some .int)) (p0 : Int32) (S : Mm) : At X E false (mQi X Z1 E) 0 [some (.int p0)] [] Z1 S 0 0 (f_J6_bitCount_0f7a4 p0 S) := by
  have F := M0.1
  unfold f_J6_bitCount_0f7a4
  refine a_iload_n F dJ6_bitCount_0f7a4_0 rfl rfl ?_
  refine a_iload_n F dJ6_bitCount_0f7a4_1 rfl rfl ?_
  refine a_iconst F dJ6_bitCount_0f7a4_2 ki_1 ?_
  refine a_iushr F dJ6_bitCount_0f7a4_3 ?_
  refine a_ldcw F dJ6_bitCount_0f7a4_4 con_J6_265 ?_
  refine a_iand F dJ6_bitCount_0f7a4_7 ?_
  refine a_isub F dJ6_bitCount_0f7a4_8 ?_
  refine a_istore_nN (L' := fun x0_1 => [some (.int x0_1)]) F dJ6_bitCount_0f7a4_9 rfl (lt_b rfl) (fun _ => rfl) (fun x0_1 => ?_)
  refine a_iload_n F dJ6_bitCount_0f7a4_10 rfl rfl ?_
  refine a_ldcw F dJ6_bitCount_0f7a4_11 con_J6_266 ?_
  refine a_iand F dJ6_bitCount_0f7a4_14 ?_
  refine a_iload_n F dJ6_bitCount_0f7a4_15 rfl rfl ?_
  refine a_iconst F dJ6_bitCount_0f7a4_16 ki_2 ?_
  refine a_iushr F dJ6_bitCount_0f7a4_17 ?_
  refine a_ldcw F dJ6_bitCount_0f7a4_18 con_J6_266 ?_
  refine a_iand F dJ6_bitCount_0f7a4_21 ?_
  refine a_iadd F dJ6_bitCount_0f7a4_22 ?_
  refine a_istore_nN (L' := fun x0_2 => [some (.int x0_2)]) F dJ6_bitCount_0f7a4_23 rfl (lt_b rfl) (fun _ => rfl) (fun x0_2 => ?_)
  refine a_iload_n F dJ6_bitCount_0f7a4_24 rfl rfl ?_
  refine a_iload_n F dJ6_bitCount_0f7a4_25 rfl rfl ?_
  refine a_iconst F dJ6_bitCount_0f7a4_26 ki_4 ?_
  refine a_iushr F dJ6_bitCount_0f7a4_27 ?_
  refine a_iadd F dJ6_bitCount_0f7a4_28 ?_
  refine a_ldcw F dJ6_bitCount_0f7a4_29 con_J6_267 ?_
  refine a_iand F dJ6_bitCount_0f7a4_32 ?_
  refine a_istore_nN (L' := fun x0_3 => [some (.int x0_3)]) F dJ6_bitCount_0f7a4_33 rfl (lt_b rfl) (fun _ => rfl) (fun x0_3 => ?_)
  refine a_iload_n F dJ6_bitCount_0f7a4_34 rfl rfl ?_
  refine a_iload_n F dJ6_bitCount_0f7a4_35 rfl rfl ?_
  refine a_bipush F dJ6_bitCount_0f7a4_36 kb_8 ?_
  refine a_iushr F dJ6_bitCount_0f7a4_38 ?_
  refine a_iadd F dJ6_bitCount_0f7a4_39 ?_
  refine a_istore_nN (L' := fun x0_4 => [some (.int x0_4)]) F dJ6_bitCount_0f7a4_40 rfl (lt_b rfl) (fun _ => rfl) (fun x0_4 => ?_)
  refine a_iload_n F dJ6_bitCount_0f7a4_41 rfl rfl ?_
  refine a_iload_n F dJ6_bitCount_0f7a4_42 rfl rfl ?_
  refine a_bipush F dJ6_bitCount_0f7a4_43 kb_16 ?_
  refine a_iushr F dJ6_bitCount_0f7a4_45 ?_
  refine a_iadd F dJ6_bitCount_0f7a4_46 ?_
  refine a_istore_nN (L' := fun x0_5 => [some (.int x0_5)]) F dJ6_bitCount_0f7a4_47 rfl (lt_b rfl) (fun _ => rfl) (fun x0_5 => ?_)
  refine a_iload_n F dJ6_bitCount_0f7a4_48 rfl rfl ?_
  refine a_bipush F dJ6_bitCount_0f7a4_49 kb_63 ?_
  refine a_iand F dJ6_bitCount_0f7a4_51 ?_
  exact a_iret F M0.2.2.1 M0.2.2.2 dJ6_bitCount_0f7a4_52
theorem c_J6_bitCount_0f7a4 (X : CX) (p0 : Int32) (S : Mm) : CtI X Z1 yJ6_bitCount_0f7a4 cJ6_bitCount_0f7a4 1 (some .int) 1 [.int p0] S (f_J6_bitCount_0f7a4 p0 S) :=
  ctI_of (by decide +kernel) rfl (Nat.le_of_ble_eq_true rfl) (by simp [Value.category]) z1len fun E F R hra hlk => b_J6_bitCount_0f7a4 ⟨F, R, hra, hlk⟩ p0 S
def f_X7_bestHeir_121 (k8 : Int32 → Int32 → Int32 → Int32 → Int32 → Mm → Option (Int32 × Mm)) (x1 x2 x3 x4 x5 : Int32) (S : Mm) : Option (Int32 × Mm) :=
  nm (x5 + (1 : Int32)) fun x5_1 =>
  k8 x1 x2 x3 x4 x5_1 S
set_option maxRecDepth 20000 in
theorem b_X7_bestHeir_121 {X : CX} {E : FE} (M0 : MF X E RX7 cX7_bestHeir 7 6 (some .int)) {k8 : Int32 → Int32 → Int32 → Int32 → Int32 → Mm → Option (Int32 × Mm)} (hk8 : ∀ (x1 x2 x3 x4 x5 : Int32) (S : Mm), At X E false (mQi X Z1 E) 8 [some (.ref 165), some (.int x1), some (.int x2), some (.int x3), some (.int x4), some (.int x5), none] [] Z1 S 0 0 (k8 x1 x2 x3 x4 x5 S)) (x1 x2 x3 x4 x5 : Int32) (S : Mm) : At X E false (mQi X Z1 E) 121 [some (.ref 165), some (.int x1), some (.int x2), some (.int x3), some (.int x4), some (.int x5), none] [] Z1 S 0 0 (f_X7_bestHeir_121 k8 x1 x2 x3 x4 x5 S) := by
  have F := M0.1
  unfold f_X7_bestHeir_121
  refine a_iincN (L' := fun x5_1 => [some (.ref 165), some (.int x1), some (.int x2), some (.int x3), some (.int x4), some (.int x5_1), none]) F dX7_bestHeir_121 rfl ki_1 (lt_b rfl) (fun _ => rfl) (fun x5_1 => ?_)
  refine a_goto F 8 dX7_bestHeir_124 (by decide) ?_
  exact hk8 x1 x2 x3 x4 x5_1 S
def f_X7_bestHeir_88 (k8 : Int32 → Int32 → Int32 → Int32 → Int32 → Mm → Option (Int32 × Mm)) (k55 : Int32 → Int32 → Int32 → Int32 → Int32 → Int32 → Mm → Option (Int32 × Mm)) (x1 x2 x3 x4 x5 x6 : Int32) (S : Mm) : Option (Int32 × Mm) :=
  nm (x6 + (1 : Int32)) fun x6_1 =>
  k55 x1 x2 x3 x4 x5 x6_1 S
set_option maxRecDepth 20000 in
theorem b_X7_bestHeir_88 {X : CX} {E : FE} (M0 : MF X E RX7 cX7_bestHeir 7 6 (some .int)) {k8 : Int32 → Int32 → Int32 → Int32 → Int32 → Mm → Option (Int32 × Mm)} (hk8 : ∀ (x1 x2 x3 x4 x5 : Int32) (S : Mm), At X E false (mQi X Z1 E) 8 [some (.ref 165), some (.int x1), some (.int x2), some (.int x3), some (.int x4), some (.int x5), none] [] Z1 S 0 0 (k8 x1 x2 x3 x4 x5 S)) {k55 : Int32 → Int32 → Int32 → Int32 → Int32 → Int32 → Mm → Option (Int32 × Mm)} (hk55 : ∀ (x1 x2 x3 x4 x5 x6 : Int32) (S : Mm), At X E false (mQi X Z1 E) 55 [some (.ref 165), some (.int x1), some (.int x2), some (.int x3), some (.int x4), some (.int x5), some (.int x6)] [] Z1 S 0 0 (k55 x1 x2 x3 x4 x5 x6 S)) (x1 x2 x3 x4 x5 x6 : Int32) (S : Mm) : At X E false (mQi X Z1 E) 88 [some (.ref 165), some (.int x1), some (.int x2), some (.int x3), some (.int x4), some (.int x5), some (.int x6)] [] Z1 S 0 0 (f_X7_bestHeir_88 k8 k55 x1 x2 x3 x4 x5 x6 S) := by
  have F := M0.1
  unfold f_X7_bestHeir_88
  refine a_iincN (L' := fun x6_1 => [some (.ref 165), some (.int x1), some (.int x2), some (.int x3), some (.int x4), some (.int x5), some (.int x6_1)]) F dX7_bestHeir_88 rfl ki_1 (lt_b rfl) (fun _ => rfl) (fun x6_1 => ?_)
  refine a_goto F 55 dX7_bestHeir_91 (by decide) ?_
  exact hk55 x1 x2 x3 x4 x5 x6_1 S
def f_X7_bestHeir_55b (k8 : Int32 → Int32 → Int32 → Int32 → Int32 → Mm → Option (Int32 × Mm)) (k55 : Int32 → Int32 → Int32 → Int32 → Int32 → Int32 → Mm → Option (Int32 × Mm)) (x1 x2 x3 x4 x5 x6 : Int32) (S : Mm) : Option (Int32 × Mm) :=
  if (28 : Int32) ≤ x6 then (
   (f_X7_spoken 166 S).bind fun q_1 =>
   (f_J6_bitCount_0f7a4 q_1.1 q_1.2).bind fun q_2 =>
   if q_2.1 ≤ x4 then (
    f_X7_bestHeir_121 k8 x1 x2 x3 x4 x5 q_2.2
   ) else (
    f_X7_bestHeir_121 k8 x1 x2 x5 q_2.1 x5 q_2.2
   )
  ) else (
   gd (inB x6 28 = true) <|
   if (S 11 (ix x6)) = x1 then (
    gd (inB x6 28 = true) <|
    nm (uM S 176 (ix x6) x5) fun S_3 =>
    f_X7_bestHeir_88 k8 k55 x1 x2 x3 x4 x5 x6 S_3
   ) else (
    f_X7_bestHeir_88 k8 k55 x1 x2 x3 x4 x5 x6 S
   )
  )
set_option maxRecDepth 20000 in
theorem b_X7_bestHeir_55b {X : CX} {E : FE} (M0 : MF X E RX7 cX7_bestHeir 7 6 (some .int)) {k8 : Int32 → Int32 → Int32 → Int32 → Int32 → Mm → Option (Int32 × Mm)} (hk8 : ∀ (x1 x2 x3 x4 x5 : Int32) (S : Mm), At X E false (mQi X Z1 E) 8 [some (.ref 165), some (.int x1), some (.int x2), some (.int x3), some (.int x4), some (.int x5), none] [] Z1 S 0 0 (k8 x1 x2 x3 x4 x5 S)) {k55 : Int32 → Int32 → Int32 → Int32 → Int32 → Int32 → Mm → Option (Int32 × Mm)} (hk55 : ∀ (x1 x2 x3 x4 x5 x6 : Int32) (S : Mm), At X E false (mQi X Z1 E) 55 [some (.ref 165), some (.int x1), some (.int x2), some (.int x3), some (.int x4), some (.int x5), some (.int x6)] [] Z1 S 0 0 (k55 x1 x2 x3 x4 x5 x6 S)) (x1 x2 x3 x4 x5 x6 : Int32) (S : Mm) : At X E false (mQi X Z1 E) 55 [some (.ref 165), some (.int x1), some (.int x2), some (.int x3), some (.int x4), some (.int x5), some (.int x6)] [] Z1 S 0 0 (f_X7_bestHeir_55b k8 k55 x1 x2 x3 x4 x5 x6 S) := by
  have F := M0.1
  unfold f_X7_bestHeir_55b
  refine a_iload F dX7_bestHeir_55 rfl ?_
  refine a_bipush F dX7_bestHeir_57 kb_28 ?_
  refine a_icmp_ge F 94 dX7_bestHeir_59 (by decide) ?_ ?_
  · refine a_aload_n F dX7_bestHeir_94 rfl rfl ?_
    refine a_aload_n F dX7_bestHeir_95 rfl rfl ?_
    refine a_getR (k := 2) F cfX7 dX7_bestHeir_96 fl_X7_12 (by decide) fi_7_2 zl_165 zk_165 zr_165_2 ?_
    refine a_callVI F (As := [.ref 166]) cfX7 rfl (c_X7_spoken X icl_166 S) mw_X7_spoken ml_X7_77 im_X7_spoken se_X7_spoken M0.2.1 (Nat.le_of_ble_eq_true rfl) ⟨Nat.zero_le _, Nat.zero_le _⟩ rfl rfl (Nat.le_of_ble_eq_true rfl) zl_165 zk_165 dX7_bestHeir_99 rfl (fun q_1 => ?_)
    refine a_callSI F (As := [.int q_1.1]) (c_J6_bitCount_0f7a4 X q_1.1 q_1.2) mw_J6_bitCount_0f7a4 ml_X7_50 st_J6_bitCount_0f7a4 M0.2.1 (Nat.le_of_ble_eq_true rfl) ⟨Nat.zero_le _, Nat.zero_le _⟩ rfl rfl (Nat.le_of_ble_eq_true rfl) dX7_bestHeir_102 rfl (fun q_2 => ?_)
    refine a_istore (L' := [some (.ref 165), some (.int x1), some (.int x2), some (.int x3), some (.int x4), some (.int x5), some (.int q_2.1)]) F dX7_bestHeir_105 (lt_b rfl) rfl ?_
    refine a_iload F dX7_bestHeir_107 rfl ?_
    refine a_iload F dX7_bestHeir_109 rfl ?_
    refine a_icmp_le F 121 dX7_bestHeir_111 (by decide) ?_ ?_
    · refine a_mask [true, true, true, true, true, true, false] (L' := [some (.ref 165), some (.int x1), some (.int x2), some (.int x3), some (.int x4), some (.int x5), none]) rfl rfl ?_
      exact b_X7_bestHeir_121 M0 hk8 x1 x2 x3 x4 x5 q_2.2
    · refine a_iload F dX7_bestHeir_114 rfl ?_
      refine a_istore (L' := [some (.ref 165), some (.int x1), some (.int x2), some (.int x3), some (.int q_2.1), some (.int x5), some (.int q_2.1)]) F dX7_bestHeir_116 (lt_b rfl) rfl ?_
      refine a_iload F dX7_bestHeir_118 rfl ?_
      refine a_istore_n (L' := [some (.ref 165), some (.int x1), some (.int x2), some (.int x5), some (.int q_2.1), some (.int x5), some (.int q_2.1)]) F dX7_bestHeir_120 rfl (lt_b rfl) rfl ?_
      refine a_mask [true, true, true, true, true, true, false] (L' := [some (.ref 165), some (.int x1), some (.int x2), some (.int x5), some (.int q_2.1), some (.int x5), none]) rfl rfl ?_
      exact b_X7_bestHeir_121 M0 hk8 x1 x2 x5 q_2.1 x5 q_2.2
  · refine a_aload_n F dX7_bestHeir_62 rfl rfl ?_
    refine a_getR (k := 0) F cfX7 dX7_bestHeir_63 fl_X7_25 (by decide) fi_7_0 zl_165 zk_165 zr_165_0 ?_
    refine a_getR (k := 14) F cfX1 dX7_bestHeir_66 fl_X7_81 (by decide) fi_1_14 zl_1 zk_1 zr_1_14 ?_
    refine a_iload F dX7_bestHeir_69 rfl ?_
    refine a_gd (a_iald F dX7_bestHeir_71 zl_11 zk_11 ?_)
    refine a_iload_n F dX7_bestHeir_72 rfl rfl ?_
    refine a_icmp_ne F 88 dX7_bestHeir_73 (by decide) ?_ ?_
    · refine a_aload_n F dX7_bestHeir_76 rfl rfl ?_
      refine a_getR (k := 2) F cfX7 dX7_bestHeir_77 fl_X7_12 (by decide) fi_7_2 zl_165 zk_165 zr_165_2 ?_
      refine a_getR (k := 14) F cfX1 dX7_bestHeir_80 fl_X7_81 (by decide) fi_1_14 zl_166 zk_166 zr_166_14 ?_
      refine a_iload F dX7_bestHeir_83 rfl ?_
      refine a_iload F dX7_bestHeir_85 rfl ?_
      refine a_gd (a_iast F dX7_bestHeir_87 zl_176 zk_176 ?_)
      refine a_nmS (fun S_3 => ?_)
      exact b_X7_bestHeir_88 M0 hk8 hk55 x1 x2 x3 x4 x5 x6 S_3
    · exact b_X7_bestHeir_88 M0 hk8 hk55 x1 x2 x3 x4 x5 x6 S
def f_X7_bestHeir_55 (k8 : Int32 → Int32 → Int32 → Int32 → Int32 → Mm → Option (Int32 × Mm)) : Nat → Int32 → Int32 → Int32 → Int32 → Int32 → Int32 → Mm → Option (Int32 × Mm) :=
  itr (fun _ _ _ _ _ _ _ => none) (fun k => f_X7_bestHeir_55b k8 k)
theorem b_X7_bestHeir_55 {X : CX} {E : FE} (M0 : MF X E RX7 cX7_bestHeir 7 6 (some .int)) {k8 : Int32 → Int32 → Int32 → Int32 → Int32 → Mm → Option (Int32 × Mm)} (hk8 : ∀ (x1 x2 x3 x4 x5 : Int32) (S : Mm), At X E false (mQi X Z1 E) 8 [some (.ref 165), some (.int x1), some (.int x2), some (.int x3), some (.int x4), some (.int x5), none] [] Z1 S 0 0 (k8 x1 x2 x3 x4 x5 S)) : ∀ (n : Nat) (x1 x2 x3 x4 x5 x6 : Int32) (S : Mm), At X E false (mQi X Z1 E) 55 [some (.ref 165), some (.int x1), some (.int x2), some (.int x3), some (.int x4), some (.int x5), some (.int x6)] [] Z1 S 0 0 (f_X7_bestHeir_55 k8 n x1 x2 x3 x4 x5 x6 S) := by
  intro n
  induction n with
  | zero => intros; exact a_none
  | succ n ih => intro x1 x2 x3 x4 x5 x6 S; exact b_X7_bestHeir_55b M0 hk8 ih x1 x2 x3 x4 x5 x6 S
def f_X7_bestHeir_8b (k8 : Int32 → Int32 → Int32 → Int32 → Int32 → Mm → Option (Int32 × Mm)) (x1 x2 x3 x4 x5 : Int32) (S : Mm) : Option (Int32 × Mm) :=
  if (S 1 3) ≤ x5 then (
   if x2 = 0 then (
    some (x3, S)
   ) else (
    some (x4, S)
   )
  ) else (
   if x5 = x1 then (
    f_X7_bestHeir_121 k8 x1 x2 x3 x4 x5 S
   ) else (
    (f_X1_lives 1 x5 S).bind fun q_1 =>
    if q_1.1 = 0 then (
     f_X7_bestHeir_121 k8 x1 x2 x3 x4 x5 q_1.2
    ) else (
     (f_X1_become 166 1 q_1.2).bind fun S_2 =>
     f_X7_bestHeir_55 k8 FU x1 x2 x3 x4 x5 (0 : Int32) S_2
    )
   )
  )
set_option maxRecDepth 20000 in
theorem b_X7_bestHeir_8b {X : CX} {E : FE} (M0 : MF X E RX7 cX7_bestHeir 7 6 (some .int)) {k8 : Int32 → Int32 → Int32 → Int32 → Int32 → Mm → Option (Int32 × Mm)} (hk8 : ∀ (x1 x2 x3 x4 x5 : Int32) (S : Mm), At X E false (mQi X Z1 E) 8 [some (.ref 165), some (.int x1), some (.int x2), some (.int x3), some (.int x4), some (.int x5), none] [] Z1 S 0 0 (k8 x1 x2 x3 x4 x5 S)) (x1 x2 x3 x4 x5 : Int32) (S : Mm) : At X E false (mQi X Z1 E) 8 [some (.ref 165), some (.int x1), some (.int x2), some (.int x3), some (.int x4), some (.int x5), none] [] Z1 S 0 0 (f_X7_bestHeir_8b k8 x1 x2 x3 x4 x5 S) := by
  have F := M0.1
  unfold f_X7_bestHeir_8b
  refine a_iload F dX7_bestHeir_8 rfl ?_
  refine a_aload_n F dX7_bestHeir_10 rfl rfl ?_
  refine a_getR (k := 0) F cfX7 dX7_bestHeir_11 fl_X7_25 (by decide) fi_7_0 zl_165 zk_165 zr_165_0 ?_
  refine a_getI (k := 3) F cfX1 dX7_bestHeir_14 fl_X7_43 (by decide) fi_1_3 zl_1 zk_1 ?_
  refine a_icmp_ge F 127 dX7_bestHeir_17 (by decide) ?_ ?_
  · refine a_iload_n F dX7_bestHeir_127 rfl rfl ?_
    refine a_if_ne F 135 dX7_bestHeir_128 (by decide) ?_ ?_
    · refine a_iload_n F dX7_bestHeir_131 rfl rfl ?_
      refine a_goto F 137 dX7_bestHeir_132 (by decide) ?_
      exact a_iret F M0.2.2.1 M0.2.2.2 dX7_bestHeir_137
    · refine a_iload F dX7_bestHeir_135 rfl ?_
      exact a_iret F M0.2.2.1 M0.2.2.2 dX7_bestHeir_137
  · refine a_iload F dX7_bestHeir_20 rfl ?_
    refine a_iload_n F dX7_bestHeir_22 rfl rfl ?_
    refine a_icmp_eq F 121 dX7_bestHeir_23 (by decide) ?_ ?_
    · exact b_X7_bestHeir_121 M0 hk8 x1 x2 x3 x4 x5 S
    · refine a_aload_n F dX7_bestHeir_26 rfl rfl ?_
      refine a_getR (k := 0) F cfX7 dX7_bestHeir_27 fl_X7_25 (by decide) fi_7_0 zl_165 zk_165 zr_165_0 ?_
      refine a_iload F dX7_bestHeir_30 rfl ?_
      refine a_callVI F (As := [.int x5]) cfX1 rfl (c_X1_lives X icl_1 x5 S) mw_X1_lives ml_X7_55 im_X1_lives se_X1_lives M0.2.1 (Nat.le_of_ble_eq_true rfl) ⟨Nat.zero_le _, Nat.zero_le _⟩ rfl rfl (Nat.le_of_ble_eq_true rfl) zl_1 zk_1 dX7_bestHeir_32 rfl (fun q_1 => ?_)
      refine a_if_ne F 41 dX7_bestHeir_35 (by decide) ?_ ?_
      · refine a_goto F 121 dX7_bestHeir_38 (by decide) ?_
        exact b_X7_bestHeir_121 M0 hk8 x1 x2 x3 x4 x5 q_1.2
      · refine a_aload_n F dX7_bestHeir_41 rfl rfl ?_
        refine a_getR (k := 2) F cfX7 dX7_bestHeir_42 fl_X7_12 (by decide) fi_7_2 zl_165 zk_165 zr_165_2 ?_
        refine a_aload_n F dX7_bestHeir_45 rfl rfl ?_
        refine a_getR (k := 0) F cfX7 dX7_bestHeir_46 fl_X7_25 (by decide) fi_7_0 zl_165 zk_165 zr_165_0 ?_
        refine a_callVV F (As := [.ref 1]) cfX1 rfl (c_X1_become X icl_166 icl_1 q_1.2) mw_X1_become ml_X7_70 im_X1_become se_X1_become M0.2.1 (Nat.le_of_ble_eq_true rfl) ⟨Nat.zero_le _, Nat.zero_le _⟩ rfl rfl (Nat.le_of_ble_eq_true rfl) zl_166 zk_166 dX7_bestHeir_49 rfl (fun S_2 => ?_)
        refine a_iconst F dX7_bestHeir_52 ki_0 ?_
        refine a_istore (L' := [some (.ref 165), some (.int x1), some (.int x2), some (.int x3), some (.int x4), some (.int x5), some (.int (0 : Int32))]) F dX7_bestHeir_53 (lt_b rfl) rfl ?_
        exact b_X7_bestHeir_55 M0 hk8 FU x1 x2 x3 x4 x5 (0 : Int32) S_2
def f_X7_bestHeir_8 : Nat → Int32 → Int32 → Int32 → Int32 → Int32 → Mm → Option (Int32 × Mm) :=
  itr (fun _ _ _ _ _ _ => none) (fun k => f_X7_bestHeir_8b k)
theorem b_X7_bestHeir_8 {X : CX} {E : FE} (M0 : MF X E RX7 cX7_bestHeir 7 6 (some .int)) : ∀ (n : Nat) (x1 x2 x3 x4 x5 : Int32) (S : Mm), At X E false (mQi X Z1 E) 8 [some (.ref 165), some (.int x1), some (.int x2), some (.int x3), some (.int x4), some (.int x5), none] [] Z1 S 0 0 (f_X7_bestHeir_8  n x1 x2 x3 x4 x5 S) := by
  intro n
  induction n with
  | zero => intros; exact a_none
  | succ n ih => intro x1 x2 x3 x4 x5 S; exact b_X7_bestHeir_8b M0 ih x1 x2 x3 x4 x5 S
def f_X7_bestHeir (p1 p2 : Int32) (S : Mm) : Option (Int32 × Mm) :=
  f_X7_bestHeir_8 FU p1 p2 (-1 : Int32) (-1 : Int32) (0 : Int32) S
set_option maxRecDepth 20000 in
theorem b_X7_bestHeir {X : CX} {E : FE} (M0 : MF X E RX7 cX7_bestHeir 7 6 (some .int)) (p1 p2 : Int32) (S : Mm) : At X E false (mQi X Z1 E) 0 [some (.ref 165), some (.int p1), some (.int p2), none, none, none, none] [] Z1 S 0 0 (f_X7_bestHeir p1 p2 S) := by
  have F := M0.1
  unfold f_X7_bestHeir
  refine a_iconst F dX7_bestHeir_0 ki_m1 ?_
  refine a_istore_n (L' := [some (.ref 165), some (.int p1), some (.int p2), some (.int (-1 : Int32)), none, none, none]) F dX7_bestHeir_1 rfl (lt_b rfl) rfl ?_
  refine a_iconst F dX7_bestHeir_2 ki_m1 ?_
  refine a_istore (L' := [some (.ref 165), some (.int p1), some (.int p2), some (.int (-1 : Int32)), some (.int (-1 : Int32)), none, none]) F dX7_bestHeir_3 (lt_b rfl) rfl ?_
  refine a_iconst F dX7_bestHeir_5 ki_0 ?_
  refine a_istore (L' := [some (.ref 165), some (.int p1), some (.int p2), some (.int (-1 : Int32)), some (.int (-1 : Int32)), some (.int (0 : Int32)), none]) F dX7_bestHeir_6 (lt_b rfl) rfl ?_
  exact b_X7_bestHeir_8 M0 FU p1 p2 (-1 : Int32) (-1 : Int32) (0 : Int32) S
theorem c_X7_bestHeir (X : CX) (p1 p2 : Int32) (S : Mm) : CtI X Z1 yX7_bestHeir cX7_bestHeir 7 (some .int) 6 [.ref 165, .int p1, .int p2] S (f_X7_bestHeir p1 p2 S) :=
  ctI_of (by decide +kernel) rfl (Nat.le_of_ble_eq_true rfl) (by simp [Value.category]) z1len fun E F R hra hlk => b_X7_bestHeir ⟨F, R, hra, hlk⟩ p1 p2 S
def f_X10_best (p1 p2 : Int32) (S : Mm) : Option (Int32 × Mm) :=
  (f_X1_lives 1 p1 S).bind fun q_1 =>
  if q_1.1 = 0 then (
   some ((-1 : Int32), q_1.2)
  ) else (
   if p2 < 0 then (
    some ((-1 : Int32), q_1.2)
   ) else (
    if p2 ≤ (1 : Int32) then (
     (f_X7_bestHeir p1 p2 q_1.2).bind fun q_2 =>
     some (q_2.1, q_2.2)
    ) else (
     some ((-1 : Int32), q_1.2)
    )
   )
  )
set_option maxRecDepth 20000 in
theorem b_X10_best {X : CX} {E : FE} (M0 : MF X E RX10 cX10_best 3 7 (some .int)) (p1 p2 : Int32) (S : Mm) : At X E false (mQi X Z1 E) 0 [some (.ref 0), some (.int p1), some (.int p2)] [] Z1 S 0 0 (f_X10_best p1 p2 S) := by
  have F := M0.1
  unfold f_X10_best
  refine a_aload_n F dX10_best_0 rfl rfl ?_
  refine a_getR (k := 0) F cfX10 dX10_best_1 fl_X10_12 (by decide) fi_10_0 zl_0 zk_0 zr_0_0 ?_
  refine a_iload_n F dX10_best_4 rfl rfl ?_
  refine a_callVI F (As := [.int p1]) cfX1 rfl (c_X1_lives X icl_1 p1 S) mw_X1_lives ml_X10_104 im_X1_lives se_X1_lives M0.2.1 (Nat.le_of_ble_eq_true rfl) ⟨Nat.zero_le _, Nat.zero_le _⟩ rfl rfl (Nat.le_of_ble_eq_true rfl) zl_1 zk_1 dX10_best_5 rfl (fun q_1 => ?_)
  refine a_if_eq F 20 dX10_best_8 (by decide) ?_ ?_
  · refine a_iconst F dX10_best_20 ki_m1 ?_
    exact a_iret F M0.2.2.1 M0.2.2.2 dX10_best_21
  · refine a_iload_n F dX10_best_11 rfl rfl ?_
    refine a_if_lt F 20 dX10_best_12 (by decide) ?_ ?_
    · refine a_iconst F dX10_best_20 ki_m1 ?_
      exact a_iret F M0.2.2.1 M0.2.2.2 dX10_best_21
    · refine a_iload_n F dX10_best_15 rfl rfl ?_
      refine a_iconst F dX10_best_16 ki_1 ?_
      refine a_icmp_le F 22 dX10_best_17 (by decide) ?_ ?_
      · refine a_aload_n F dX10_best_22 rfl rfl ?_
        refine a_getR (k := 4) F cfX10 dX10_best_23 fl_X10_42 (by decide) fi_10_4 zl_0 zk_0 zr_0_4 ?_
        refine a_iload_n F dX10_best_26 rfl rfl ?_
        refine a_iload_n F dX10_best_27 rfl rfl ?_
        refine a_callVI F (As := [.int p1, .int p2]) cfX7 rfl (c_X7_bestHeir X p1 p2 q_1.2) mw_X7_bestHeir ml_X10_312 im_X7_bestHeir se_X7_bestHeir M0.2.1 (Nat.le_of_ble_eq_true rfl) ⟨Nat.zero_le _, Nat.zero_le _⟩ rfl rfl (Nat.le_of_ble_eq_true rfl) zl_165 zk_165 dX10_best_28 rfl (fun q_2 => ?_)
        exact a_iret F M0.2.2.1 M0.2.2.2 dX10_best_31
      · refine a_iconst F dX10_best_20 ki_m1 ?_
        exact a_iret F M0.2.2.1 M0.2.2.2 dX10_best_21
theorem c_X10_best (X : CX) (p1 p2 : Int32) (S : Mm) : CtI X Z1 yX10_best cX10_best 3 (some .int) 7 [.ref 0, .int p1, .int p2] S (f_X10_best p1 p2 S) :=
  ctI_of (by decide +kernel) rfl (Nat.le_of_ble_eq_true rfl) (by simp [Value.category]) z1len fun E F R hra hlk => b_X10_best ⟨F, R, hra, hlk⟩ p1 p2 S
def f_X10_book (p1 p2 : Int32) (S : Mm) : Option (Int32 × Mm) :=
  if p1 < 0 then (
   some ((-2 : Int32), S)
  ) else (
   if (S 32 1) ≤ p1 then (
    some ((-2 : Int32), S)
   ) else (
    if p2 < 0 then (
     some ((-2 : Int32), S)
    ) else (
     if p2 < (5 : Int32) then (
      gd (inB ((p1 * (5 : Int32)) + p2) 1000 = true) <|
      some ((S 33 (ix ((p1 * (5 : Int32)) + p2))), S)
     ) else (
      some ((-2 : Int32), S)
     )
    )
   )
  )
set_option maxRecDepth 20000 in
theorem b_X10_book {X : CX} {E : FE} (M0 : MF X E RX10 cX10_book 3 1 (some .int)) (p1 p2 : Int32) (S : Mm) : At X E false (mQi X Z1 E) 0 [some (.ref 0), some (.int p1), some (.int p2)] [] Z1 S 0 0 (f_X10_book p1 p2 S) := by
  have F := M0.1
  unfold f_X10_book
  refine a_iload_n F dX10_book_0 rfl rfl ?_
  refine a_if_lt F 24 dX10_book_1 (by decide) ?_ ?_
  · refine a_bipush F dX10_book_24 kb_m2 ?_
    exact a_iret F M0.2.2.1 M0.2.2.2 dX10_book_26
  · refine a_iload_n F dX10_book_4 rfl rfl ?_
    refine a_aload_n F dX10_book_5 rfl rfl ?_
    refine a_getR (k := 2) F cfX10 dX10_book_6 fl_X10_26 (by decide) fi_10_2 zl_0 zk_0 zr_0_2 ?_
    refine a_getI (k := 1) F cfX0 dX10_book_9 fl_X10_273 (by decide) fi_0_1 zl_32 zk_32 ?_
    refine a_icmp_ge F 24 dX10_book_12 (by decide) ?_ ?_
    · refine a_bipush F dX10_book_24 kb_m2 ?_
      exact a_iret F M0.2.2.1 M0.2.2.2 dX10_book_26
    · refine a_iload_n F dX10_book_15 rfl rfl ?_
      refine a_if_lt F 24 dX10_book_16 (by decide) ?_ ?_
      · refine a_bipush F dX10_book_24 kb_m2 ?_
        exact a_iret F M0.2.2.1 M0.2.2.2 dX10_book_26
      · refine a_iload_n F dX10_book_19 rfl rfl ?_
        refine a_iconst F dX10_book_20 ki_5 ?_
        refine a_icmp_lt F 27 dX10_book_21 (by decide) ?_ ?_
        · refine a_aload_n F dX10_book_27 rfl rfl ?_
          refine a_getR (k := 2) F cfX10 dX10_book_28 fl_X10_26 (by decide) fi_10_2 zl_0 zk_0 zr_0_2 ?_
          refine a_getR (k := 0) F cfX0 dX10_book_31 fl_X10_276 (by decide) fi_0_0 zl_32 zk_32 zr_32_0 ?_
          refine a_iload_n F dX10_book_34 rfl rfl ?_
          refine a_iconst F dX10_book_35 ki_5 ?_
          refine a_imul F dX10_book_36 ?_
          refine a_iload_n F dX10_book_37 rfl rfl ?_
          refine a_iadd F dX10_book_38 ?_
          refine a_gd (a_iald F dX10_book_39 zl_33 zk_33 ?_)
          exact a_iret F M0.2.2.1 M0.2.2.2 dX10_book_40
        · refine a_bipush F dX10_book_24 kb_m2 ?_
          exact a_iret F M0.2.2.1 M0.2.2.2 dX10_book_26
theorem c_X10_book (X : CX) (p1 p2 : Int32) (S : Mm) : CtI X Z1 yX10_book cX10_book 3 (some .int) 1 [.ref 0, .int p1, .int p2] S (f_X10_book p1 p2 S) :=
  ctI_of (by decide +kernel) rfl (Nat.le_of_ble_eq_true rfl) (by simp [Value.category]) z1len fun E F R hra hlk => b_X10_book ⟨F, R, hra, hlk⟩ p1 p2 S
def f_X2_keep_32 (r1 : Nat) (S : Mm) : Option Mm :=
  gd (inB (S 34 2) 8 = true) <|
  (f_X1_become (37 + 16 * ix (S 34 2)) r1 S).bind fun S_1 =>
  gd (inB (S_1 34 2) 8 = true) <|
  nm (uM S_1 36 (ix (S_1 34 2)) (S_1 32 1)) fun S_2 =>
  nm (uM S_2 34 2 (irem ((S_2 34 2) + (1 : Int32)) (8 : Int32))) fun S_3 =>
  if (8 : Int32) ≤ (S_3 34 3) then (
   some S_3
  ) else (
   nm (uM S_3 34 3 ((S_3 34 3) + (1 : Int32))) fun S_4 =>
   some S_4
  )
set_option maxRecDepth 20000 in
theorem b_X2_keep_32 {X : CX} {E : FE} (M0 : MF X E RX2 cX2_keep 3 2 none) {r1 : Nat} (h1 : isClan r1) (S : Mm) : At X E false (mQv X Z1 E) 0 [some (.ref 34), some (.ref r1), some (.ref 32)] [] Z1 S 0 0 (f_X2_keep_32 r1 S) := by
  have F := M0.1
  unfold f_X2_keep_32
  refine a_aload_n F dX2_keep_0 rfl rfl ?_
  refine a_getR (k := 0) F cfX2 dX2_keep_1 fl_X2_11 (by decide) fi_2_0 zl_34 zk_34 zr_34_0 ?_
  refine a_aload_n F dX2_keep_4 rfl rfl ?_
  refine a_getI (k := 2) F cfX2 dX2_keep_5 fl_X2_19 (by decide) fi_2_2 zl_34 zk_34 ?_
  refine a_gd (a_aald F (fun k => 37 + 16 * k) dX2_keep_8 zl_35 zk_35 zr_hist (fun hHC0 => ?_))
  have hHC := hist_clan hHC0
  refine a_aload_n F dX2_keep_9 rfl rfl ?_
  refine a_callVV F (As := [.ref r1]) cfX1 rfl (c_X1_become X hHC h1 S) mw_X1_become ml_X2_27 im_X1_become se_X1_become M0.2.1 (Nat.le_of_ble_eq_true rfl) ⟨Nat.zero_le _, Nat.zero_le _⟩ rfl rfl (Nat.le_of_ble_eq_true rfl) (zcl_0 hHC) (zck_0 hHC) dX2_keep_10 rfl (fun S_1 => ?_)
  refine a_aload_n F dX2_keep_13 rfl rfl ?_
  refine a_getR (k := 1) F cfX2 dX2_keep_14 fl_X2_15 (by decide) fi_2_1 zl_34 zk_34 zr_34_1 ?_
  refine a_aload_n F dX2_keep_17 rfl rfl ?_
  refine a_getI (k := 2) F cfX2 dX2_keep_18 fl_X2_19 (by decide) fi_2_2 zl_34 zk_34 ?_
  refine a_aload_n F dX2_keep_21 rfl rfl ?_
  refine a_getI (k := 1) F cfX0 dX2_keep_22 fl_X2_31 (by decide) fi_0_1 zl_32 zk_32 ?_
  refine a_gd (a_iast F dX2_keep_25 zl_36 zk_36 ?_)
  refine a_nmS (fun S_2 => ?_)
  refine a_aload_n F dX2_keep_26 rfl rfl ?_
  refine a_aload_n F dX2_keep_27 rfl rfl ?_
  refine a_getI (k := 2) F cfX2 dX2_keep_28 fl_X2_19 (by decide) fi_2_2 zl_34 zk_34 ?_
  refine a_iconst F dX2_keep_31 ki_1 ?_
  refine a_iadd F dX2_keep_32 ?_
  refine a_bipush F dX2_keep_33 kb_8 ?_
  refine a_ifF (o2 := none) nz_8 (a_irem F dX2_keep_35 ?_)
  refine a_putI (k := 2) F cfX2 dX2_keep_36 fl_X2_19 (by decide) fi_2_2 rfl rfl zl_34 zk_34 ?_
  refine a_nmS (fun S_3 => ?_)
  refine a_aload_n F dX2_keep_39 rfl rfl ?_
  refine a_getI (k := 3) F cfX2 dX2_keep_40 fl_X2_23 (by decide) fi_2_3 zl_34 zk_34 ?_
  refine a_bipush F dX2_keep_43 kb_8 ?_
  refine a_icmp_ge F 58 dX2_keep_45 (by decide) ?_ ?_
  · exact a_vret F M0.2.2.1 M0.2.2.2 dX2_keep_58
  · refine a_aload_n F dX2_keep_48 rfl rfl ?_
    refine a_dup F dX2_keep_49 rfl ?_
    refine a_getI (k := 3) F cfX2 dX2_keep_50 fl_X2_23 (by decide) fi_2_3 zl_34 zk_34 ?_
    refine a_iconst F dX2_keep_53 ki_1 ?_
    refine a_iadd F dX2_keep_54 ?_
    refine a_putI (k := 3) F cfX2 dX2_keep_55 fl_X2_23 (by decide) fi_2_3 rfl rfl zl_34 zk_34 ?_
    refine a_nmS (fun S_4 => ?_)
    exact a_vret F M0.2.2.1 M0.2.2.2 dX2_keep_58
theorem c_X2_keep_32 (X : CX) {r1 : Nat} (h1 : isClan r1) (S : Mm) : CtV X Z1 yX2_keep cX2_keep 3 2 [.ref 34, .ref r1, .ref 32] S (f_X2_keep_32 r1 S) :=
  ctV_of (by decide +kernel) rfl (Nat.le_of_ble_eq_true rfl) (by simp [Value.category]) z1len fun E F R hra hlk => b_X2_keep_32 ⟨F, R, hra, hlk⟩ h1 S
def f_X1_endLoan (r0 : Nat) (p1 : Int32) (S : Mm) : Option Mm :=
  gd (inB p1 28 = true) <|
  nm (uM S (r0 + 11) (ix p1) (-1 : Int32)) fun S_1 =>
  gd (inB p1 28 = true) <|
  nm (uM S_1 (r0 + 12) (ix p1) (-1 : Int32)) fun S_2 =>
  some S_2
set_option maxRecDepth 20000 in
theorem b_X1_endLoan {X : CX} {E : FE} (M0 : MF X E RX1 cX1_endLoan 2 1 none) {r0 : Nat} (h0 : isClan r0) (p1 : Int32) (S : Mm) : At X E false (mQv X Z1 E) 0 [some (.ref r0), some (.int p1)] [] Z1 S 0 0 (f_X1_endLoan r0 p1 S) := by
  have F := M0.1
  unfold f_X1_endLoan
  refine a_aload_n F dX1_endLoan_0 rfl rfl ?_
  refine a_getR (k := 15) F cfX1 dX1_endLoan_1 fl_X1_58 (by decide) fi_1_15 (zcl_0 h0) (zck_0 h0) (zcr_15 h0) ?_
  refine a_iload_n F dX1_endLoan_4 rfl rfl ?_
  refine a_iconst F dX1_endLoan_5 ki_m1 ?_
  refine a_gd (a_iast F dX1_endLoan_6 (zcl_11 h0) (zck_11 h0) ?_)
  refine a_nmS (fun S_1 => ?_)
  refine a_aload_n F dX1_endLoan_7 rfl rfl ?_
  refine a_getR (k := 16) F cfX1 dX1_endLoan_8 fl_X1_61 (by decide) fi_1_16 (zcl_0 h0) (zck_0 h0) (zcr_16 h0) ?_
  refine a_iload_n F dX1_endLoan_11 rfl rfl ?_
  refine a_iconst F dX1_endLoan_12 ki_m1 ?_
  refine a_gd (a_iast F dX1_endLoan_13 (zcl_12 h0) (zck_12 h0) ?_)
  refine a_nmS (fun S_2 => ?_)
  exact a_vret F M0.2.2.1 M0.2.2.2 dX1_endLoan_14
theorem c_X1_endLoan (X : CX) {r0 : Nat} (h0 : isClan r0) (p1 : Int32) (S : Mm) : CtV X Z1 yX1_endLoan cX1_endLoan 2 1 [.ref r0, .int p1] S (f_X1_endLoan r0 p1 S) :=
  ctV_of (by decide +kernel) rfl (Nat.le_of_ble_eq_true rfl) (by simp [Value.category]) z1len fun E F R hra hlk => b_X1_endLoan ⟨F, R, hra, hlk⟩ h0 p1 S
def f_X1_draw (r0 : Nat) (p1 : Int32) (S : Mm) : Option (Int32 × Mm) :=
  nm (uM S r0 0 (((S r0 0) * (1664525 : Int32)) + (1013904223 : Int32))) fun S_1 =>
  if p1 ≤ 0 then (
   some ((0 : Int32), S_1)
  ) else (
   if p1 = 0 then none else
   some ((irem (ushr (S_1 r0 0) (8 : Int32)) p1), S_1)
  )
set_option maxRecDepth 20000 in
theorem b_X1_draw {X : CX} {E : FE} (M0 : MF X E RX1 cX1_draw 2 1 (some .int)) {r0 : Nat} (h0 : isClan r0) (p1 : Int32) (S : Mm) : At X E false (mQi X Z1 E) 0 [some (.ref r0), some (.int p1)] [] Z1 S 0 0 (f_X1_draw r0 p1 S) := by
  have F := M0.1
  unfold f_X1_draw
  refine a_aload_n F dX1_draw_0 rfl rfl ?_
  refine a_aload_n F dX1_draw_1 rfl rfl ?_
  refine a_getI (k := 0) F cfX1 dX1_draw_2 fl_X1_9 (by decide) fi_1_0 (zcl_0 h0) (zck_0 h0) ?_
  refine a_ldc F dX1_draw_5 con_X1_107 ?_
  refine a_imul F dX1_draw_7 ?_
  refine a_ldc F dX1_draw_8 con_X1_108 ?_
  refine a_iadd F dX1_draw_10 ?_
  refine a_putI (k := 0) F cfX1 dX1_draw_11 fl_X1_9 (by decide) fi_1_0 rfl rfl (zcl_0 h0) (zck_0 h0) ?_
  refine a_nmS (fun S_1 => ?_)
  refine a_iload_n F dX1_draw_14 rfl rfl ?_
  refine a_if_le F 30 dX1_draw_15 (by decide) ?_ ?_
  · refine a_iconst F dX1_draw_30 ki_0 ?_
    exact a_iret F M0.2.2.1 M0.2.2.2 dX1_draw_31
  · refine a_aload_n F dX1_draw_18 rfl rfl ?_
    refine a_getI (k := 0) F cfX1 dX1_draw_19 fl_X1_9 (by decide) fi_1_0 (zcl_0 h0) (zck_0 h0) ?_
    refine a_bipush F dX1_draw_22 kb_8 ?_
    refine a_iushr F dX1_draw_24 ?_
    refine a_iload_n F dX1_draw_25 rfl rfl ?_
    refine a_irem F dX1_draw_26 ?_
    refine a_goto F 31 dX1_draw_27 (by decide) ?_
    exact a_iret F M0.2.2.1 M0.2.2.2 dX1_draw_31
theorem c_X1_draw (X : CX) {r0 : Nat} (h0 : isClan r0) (p1 : Int32) (S : Mm) : CtI X Z1 yX1_draw cX1_draw 2 (some .int) 1 [.ref r0, .int p1] S (f_X1_draw r0 p1 S) :=
  ctI_of (by decide +kernel) rfl (Nat.le_of_ble_eq_true rfl) (by simp [Value.category]) z1len fun E F R hra hlk => b_X1_draw ⟨F, R, hra, hlk⟩ h0 p1 S
def f_X6_heirByWill_17_91 (k10 : Int32 → Int32 → Int32 → Int32 → Int32 → Mm → Option (Int32 × Mm)) (x1 x2 x3 x4 x5 : Int32) (S : Mm) : Option (Int32 × Mm) :=
  nm (x5 + (1 : Int32)) fun x5_1 =>
  k10 x1 x2 x3 x4 x5_1 S
set_option maxRecDepth 20000 in
theorem b_X6_heirByWill_17_91 {X : CX} {E : FE} (M0 : MF X E RX6 cX6_heirByWill 7 1 (some .int)) {k10 : Int32 → Int32 → Int32 → Int32 → Int32 → Mm → Option (Int32 × Mm)} (hk10 : ∀ (x1 x2 x3 x4 x5 : Int32) (S : Mm), At X E false (mQi X Z1 E) 10 [some (.ref 17), some (.int x1), some (.int x2), some (.int x3), some (.int x4), some (.int x5), none] [] Z1 S 0 0 (k10 x1 x2 x3 x4 x5 S)) (x1 x2 x3 x4 x5 : Int32) (S : Mm) : At X E false (mQi X Z1 E) 91 [some (.ref 17), some (.int x1), some (.int x2), some (.int x3), some (.int x4), some (.int x5), none] [] Z1 S 0 0 (f_X6_heirByWill_17_91 k10 x1 x2 x3 x4 x5 S) := by
  have F := M0.1
  unfold f_X6_heirByWill_17_91
  refine a_iincN (L' := fun x5_1 => [some (.ref 17), some (.int x1), some (.int x2), some (.int x3), some (.int x4), some (.int x5_1), none]) F dX6_heirByWill_91 rfl ki_1 (lt_b rfl) (fun _ => rfl) (fun x5_1 => ?_)
  refine a_goto F 10 dX6_heirByWill_94 (by decide) ?_
  exact hk10 x1 x2 x3 x4 x5_1 S
def f_X6_heirByWill_17_68 (k10 : Int32 → Int32 → Int32 → Int32 → Int32 → Mm → Option (Int32 × Mm)) (x1 x2 x3 x4 x5 : Int32) (S : Mm) : Option (Int32 × Mm) :=
  gd (inB x5 144 = true) <|
  if ((shr x3 (S 27 (ix x5))) &&& (1 : Int32)) = (1 : Int32) then (
   gd (inB x5 144 = true) <|
   some ((S 27 (ix x5)), S)
  ) else (
   f_X6_heirByWill_17_91 k10 x1 x2 x3 x4 x5 S
  )
set_option maxRecDepth 20000 in
theorem b_X6_heirByWill_17_68 {X : CX} {E : FE} (M0 : MF X E RX6 cX6_heirByWill 7 1 (some .int)) {k10 : Int32 → Int32 → Int32 → Int32 → Int32 → Mm → Option (Int32 × Mm)} (hk10 : ∀ (x1 x2 x3 x4 x5 : Int32) (S : Mm), At X E false (mQi X Z1 E) 10 [some (.ref 17), some (.int x1), some (.int x2), some (.int x3), some (.int x4), some (.int x5), none] [] Z1 S 0 0 (k10 x1 x2 x3 x4 x5 S)) (x1 x2 x3 x4 x5 : Int32) (S : Mm) : At X E false (mQi X Z1 E) 68 [some (.ref 17), some (.int x1), some (.int x2), some (.int x3), some (.int x4), some (.int x5), none] [] Z1 S 0 0 (f_X6_heirByWill_17_68 k10 x1 x2 x3 x4 x5 S) := by
  have F := M0.1
  unfold f_X6_heirByWill_17_68
  refine a_iload_n F dX6_heirByWill_68 rfl rfl ?_
  refine a_aload_n F dX6_heirByWill_69 rfl rfl ?_
  refine a_getR (k := 3) F cfX6 dX6_heirByWill_70 fl_X6_25 (by decide) fi_6_3 zl_17 zk_17 zr_17_3 ?_
  refine a_iload F dX6_heirByWill_73 rfl ?_
  refine a_gd (a_iald F dX6_heirByWill_75 zl_27 zk_27 ?_)
  refine a_ishr F dX6_heirByWill_76 ?_
  refine a_iconst F dX6_heirByWill_77 ki_1 ?_
  refine a_iand F dX6_heirByWill_78 ?_
  refine a_iconst F dX6_heirByWill_79 ki_1 ?_
  refine a_icmp_ne F 91 dX6_heirByWill_80 (by decide) ?_ ?_
  · refine a_aload_n F dX6_heirByWill_83 rfl rfl ?_
    refine a_getR (k := 3) F cfX6 dX6_heirByWill_84 fl_X6_25 (by decide) fi_6_3 zl_17 zk_17 zr_17_3 ?_
    refine a_iload F dX6_heirByWill_87 rfl ?_
    refine a_gd (a_iald F dX6_heirByWill_89 zl_27 zk_27 ?_)
    exact a_iret F M0.2.2.1 M0.2.2.2 dX6_heirByWill_90
  · exact b_X6_heirByWill_17_91 M0 hk10 x1 x2 x3 x4 x5 S
def f_X6_heirByWill_17_10b (k10 : Int32 → Int32 → Int32 → Int32 → Int32 → Mm → Option (Int32 × Mm)) (x1 x2 x3 x4 x5 : Int32) (S : Mm) : Option (Int32 × Mm) :=
  gd (inB x1 12 = true) <|
  if (x4 + (S 25 (ix x1))) ≤ x5 then (
   some ((-1 : Int32), S)
  ) else (
   gd (inB x5 144 = true) <|
   if ((shr (S 26 (ix x5)) x2) &&& (1 : Int32)) = 0 then (
    f_X6_heirByWill_17_91 k10 x1 x2 x3 x4 x5 S
   ) else (
    gd (inB x5 144 = true) <|
    nm ((S 28 (ix x5))) fun x6_1 =>
    if x6_1 = (-1 : Int32) then (
     f_X6_heirByWill_17_68 k10 x1 x2 x3 x4 x5 S
    ) else (
     if ((shr x3 x6_1) &&& (1 : Int32)) = 0 then (
      f_X6_heirByWill_17_91 k10 x1 x2 x3 x4 x5 S
     ) else (
      f_X6_heirByWill_17_68 k10 x1 x2 x3 x4 x5 S
     )
    )
   )
  )
set_option maxRecDepth 20000 in
theorem b_X6_heirByWill_17_10b {X : CX} {E : FE} (M0 : MF X E RX6 cX6_heirByWill 7 1 (some .int)) {k10 : Int32 → Int32 → Int32 → Int32 → Int32 → Mm → Option (Int32 × Mm)} (hk10 : ∀ (x1 x2 x3 x4 x5 : Int32) (S : Mm), At X E false (mQi X Z1 E) 10 [some (.ref 17), some (.int x1), some (.int x2), some (.int x3), some (.int x4), some (.int x5), none] [] Z1 S 0 0 (k10 x1 x2 x3 x4 x5 S)) (x1 x2 x3 x4 x5 : Int32) (S : Mm) : At X E false (mQi X Z1 E) 10 [some (.ref 17), some (.int x1), some (.int x2), some (.int x3), some (.int x4), some (.int x5), none] [] Z1 S 0 0 (f_X6_heirByWill_17_10b k10 x1 x2 x3 x4 x5 S) := by
  have F := M0.1
  unfold f_X6_heirByWill_17_10b
  refine a_iload F dX6_heirByWill_10 rfl ?_
  refine a_iload F dX6_heirByWill_12 rfl ?_
  refine a_aload_n F dX6_heirByWill_14 rfl rfl ?_
  refine a_getR (k := 1) F cfX6 dX6_heirByWill_15 fl_X6_18 (by decide) fi_6_1 zl_17 zk_17 zr_17_1 ?_
  refine a_iload_n F dX6_heirByWill_18 rfl rfl ?_
  refine a_gd (a_iald F dX6_heirByWill_19 zl_25 zk_25 ?_)
  refine a_iadd F dX6_heirByWill_20 ?_
  refine a_icmp_ge F 97 dX6_heirByWill_21 (by decide) ?_ ?_
  · refine a_iconst F dX6_heirByWill_97 ki_m1 ?_
    exact a_iret F M0.2.2.1 M0.2.2.2 dX6_heirByWill_98
  · refine a_aload_n F dX6_heirByWill_24 rfl rfl ?_
    refine a_getR (k := 2) F cfX6 dX6_heirByWill_25 fl_X6_22 (by decide) fi_6_2 zl_17 zk_17 zr_17_2 ?_
    refine a_iload F dX6_heirByWill_28 rfl ?_
    refine a_gd (a_iald F dX6_heirByWill_30 zl_26 zk_26 ?_)
    refine a_iload_n F dX6_heirByWill_31 rfl rfl ?_
    refine a_ishr F dX6_heirByWill_32 ?_
    refine a_iconst F dX6_heirByWill_33 ki_1 ?_
    refine a_iand F dX6_heirByWill_34 ?_
    refine a_if_ne F 41 dX6_heirByWill_35 (by decide) ?_ ?_
    · refine a_goto F 91 dX6_heirByWill_38 (by decide) ?_
      exact b_X6_heirByWill_17_91 M0 hk10 x1 x2 x3 x4 x5 S
    · refine a_aload_n F dX6_heirByWill_41 rfl rfl ?_
      refine a_getR (k := 4) F cfX6 dX6_heirByWill_42 fl_X6_28 (by decide) fi_6_4 zl_17 zk_17 zr_17_4 ?_
      refine a_iload F dX6_heirByWill_45 rfl ?_
      refine a_gd (a_iald F dX6_heirByWill_47 zl_28 zk_28 ?_)
      refine a_istoreN (L' := fun x6_1 => [some (.ref 17), some (.int x1), some (.int x2), some (.int x3), some (.int x4), some (.int x5), some (.int x6_1)]) F dX6_heirByWill_48 (lt_b rfl) (fun _ => rfl) (fun x6_1 => ?_)
      refine a_iload F dX6_heirByWill_50 rfl ?_
      refine a_iconst F dX6_heirByWill_52 ki_m1 ?_
      refine a_icmp_eq F 68 dX6_heirByWill_53 (by decide) ?_ ?_
      · refine a_mask [true, true, true, true, true, true, false] (L' := [some (.ref 17), some (.int x1), some (.int x2), some (.int x3), some (.int x4), some (.int x5), none]) rfl rfl ?_
        exact b_X6_heirByWill_17_68 M0 hk10 x1 x2 x3 x4 x5 S
      · refine a_iload_n F dX6_heirByWill_56 rfl rfl ?_
        refine a_iload F dX6_heirByWill_57 rfl ?_
        refine a_ishr F dX6_heirByWill_59 ?_
        refine a_iconst F dX6_heirByWill_60 ki_1 ?_
        refine a_iand F dX6_heirByWill_61 ?_
        refine a_if_ne F 68 dX6_heirByWill_62 (by decide) ?_ ?_
        · refine a_goto F 91 dX6_heirByWill_65 (by decide) ?_
          refine a_mask [true, true, true, true, true, true, false] (L' := [some (.ref 17), some (.int x1), some (.int x2), some (.int x3), some (.int x4), some (.int x5), none]) rfl rfl ?_
          exact b_X6_heirByWill_17_91 M0 hk10 x1 x2 x3 x4 x5 S
        · refine a_mask [true, true, true, true, true, true, false] (L' := [some (.ref 17), some (.int x1), some (.int x2), some (.int x3), some (.int x4), some (.int x5), none]) rfl rfl ?_
          exact b_X6_heirByWill_17_68 M0 hk10 x1 x2 x3 x4 x5 S
def f_X6_heirByWill_17_10 : Nat → Int32 → Int32 → Int32 → Int32 → Int32 → Mm → Option (Int32 × Mm) :=
  itr (fun _ _ _ _ _ _ => none) (fun k => f_X6_heirByWill_17_10b k)
theorem b_X6_heirByWill_17_10 {X : CX} {E : FE} (M0 : MF X E RX6 cX6_heirByWill 7 1 (some .int)) : ∀ (n : Nat) (x1 x2 x3 x4 x5 : Int32) (S : Mm), At X E false (mQi X Z1 E) 10 [some (.ref 17), some (.int x1), some (.int x2), some (.int x3), some (.int x4), some (.int x5), none] [] Z1 S 0 0 (f_X6_heirByWill_17_10  n x1 x2 x3 x4 x5 S) := by
  intro n
  induction n with
  | zero => intros; exact a_none
  | succ n ih => intro x1 x2 x3 x4 x5 S; exact b_X6_heirByWill_17_10b M0 ih x1 x2 x3 x4 x5 S
def f_X6_heirByWill_17 (p1 p2 p3 : Int32) (S : Mm) : Option (Int32 × Mm) :=
  nm ((p1 * (12 : Int32))) fun x4_1 =>
  f_X6_heirByWill_17_10 FU p1 p2 p3 x4_1 x4_1 S
set_option maxRecDepth 20000 in
theorem b_X6_heirByWill_17 {X : CX} {E : FE} (M0 : MF X E RX6 cX6_heirByWill 7 1 (some .int)) (p1 p2 p3 : Int32) (S : Mm) : At X E false (mQi X Z1 E) 0 [some (.ref 17), some (.int p1), some (.int p2), some (.int p3), none, none, none] [] Z1 S 0 0 (f_X6_heirByWill_17 p1 p2 p3 S) := by
  have F := M0.1
  unfold f_X6_heirByWill_17
  refine a_iload_n F dX6_heirByWill_0 rfl rfl ?_
  refine a_bipush F dX6_heirByWill_1 kb_12 ?_
  refine a_imul F dX6_heirByWill_3 ?_
  refine a_istoreN (L' := fun x4_1 => [some (.ref 17), some (.int p1), some (.int p2), some (.int p3), some (.int x4_1), none, none]) F dX6_heirByWill_4 (lt_b rfl) (fun _ => rfl) (fun x4_1 => ?_)
  refine a_iload F dX6_heirByWill_6 rfl ?_
  refine a_istore (L' := [some (.ref 17), some (.int p1), some (.int p2), some (.int p3), some (.int x4_1), some (.int x4_1), none]) F dX6_heirByWill_8 (lt_b rfl) rfl ?_
  exact b_X6_heirByWill_17_10 M0 FU p1 p2 p3 x4_1 x4_1 S
theorem c_X6_heirByWill_17 (X : CX) (p1 p2 p3 : Int32) (S : Mm) : CtI X Z1 yX6_heirByWill cX6_heirByWill 7 (some .int) 1 [.ref 17, .int p1, .int p2, .int p3] S (f_X6_heirByWill_17 p1 p2 p3 S) :=
  ctI_of (by decide +kernel) rfl (Nat.le_of_ble_eq_true rfl) (by simp [Value.category]) z1len fun E F R hra hlk => b_X6_heirByWill_17 ⟨F, R, hra, hlk⟩ p1 p2 p3 S
def f_X1_stepsBetween_2b (k2 : Int32 → Int32 → Int32 → Mm → Option (Int32 × Mm)) (r0 : Nat) (x1 x2 x3 : Int32) (S : Mm) : Option (Int32 × Mm) :=
  if (S r0 3) ≤ x3 then (
   some ((99 : Int32), S)
  ) else (
   (f_X1_within r0 x1 x3 S).bind fun q_1 =>
   if ((shr q_1.1 x2) &&& (1 : Int32)) = (1 : Int32) then (
    some (x3, q_1.2)
   ) else (
    nm (x3 + (1 : Int32)) fun x3_2 =>
    k2 x1 x2 x3_2 q_1.2
   )
  )
set_option maxRecDepth 20000 in
theorem b_X1_stepsBetween_2b {X : CX} {E : FE} (M0 : MF X E RX1 cX1_stepsBetween 4 2 (some .int)) {r0 : Nat} (h0 : isClan r0) {k2 : Int32 → Int32 → Int32 → Mm → Option (Int32 × Mm)} (hk2 : ∀ (x1 x2 x3 : Int32) (S : Mm), At X E false (mQi X Z1 E) 2 [some (.ref r0), some (.int x1), some (.int x2), some (.int x3)] [] Z1 S 0 0 (k2 x1 x2 x3 S)) (x1 x2 x3 : Int32) (S : Mm) : At X E false (mQi X Z1 E) 2 [some (.ref r0), some (.int x1), some (.int x2), some (.int x3)] [] Z1 S 0 0 (f_X1_stepsBetween_2b k2 r0 x1 x2 x3 S) := by
  have F := M0.1
  unfold f_X1_stepsBetween_2b
  refine a_iload_n F dX1_stepsBetween_2 rfl rfl ?_
  refine a_aload_n F dX1_stepsBetween_3 rfl rfl ?_
  refine a_getI (k := 3) F cfX1 dX1_stepsBetween_4 fl_X1_21 (by decide) fi_1_3 (zcl_0 h0) (zck_0 h0) ?_
  refine a_icmp_ge F 32 dX1_stepsBetween_7 (by decide) ?_ ?_
  · refine a_bipush F dX1_stepsBetween_32 kb_99 ?_
    exact a_iret F M0.2.2.1 M0.2.2.2 dX1_stepsBetween_34
  · refine a_aload_n F dX1_stepsBetween_10 rfl rfl ?_
    refine a_iload_n F dX1_stepsBetween_11 rfl rfl ?_
    refine a_iload_n F dX1_stepsBetween_12 rfl rfl ?_
    refine a_callVI F (As := [.int x1, .int x3]) cfX1 rfl (c_X1_within X h0 x1 x3 S) mw_X1_within ml_X1_97 im_X1_within se_X1_within M0.2.1 (Nat.le_of_ble_eq_true rfl) ⟨Nat.zero_le _, Nat.zero_le _⟩ rfl rfl (Nat.le_of_ble_eq_true rfl) (zcl_0 h0) (zck_0 h0) dX1_stepsBetween_13 rfl (fun q_1 => ?_)
    refine a_iload_n F dX1_stepsBetween_16 rfl rfl ?_
    refine a_ishr F dX1_stepsBetween_17 ?_
    refine a_iconst F dX1_stepsBetween_18 ki_1 ?_
    refine a_iand F dX1_stepsBetween_19 ?_
    refine a_iconst F dX1_stepsBetween_20 ki_1 ?_
    refine a_icmp_ne F 26 dX1_stepsBetween_21 (by decide) ?_ ?_
    · refine a_iload_n F dX1_stepsBetween_24 rfl rfl ?_
      exact a_iret F M0.2.2.1 M0.2.2.2 dX1_stepsBetween_25
    · refine a_iincN (L' := fun x3_2 => [some (.ref r0), some (.int x1), some (.int x2), some (.int x3_2)]) F dX1_stepsBetween_26 rfl ki_1 (lt_b rfl) (fun _ => rfl) (fun x3_2 => ?_)
      refine a_goto F 2 dX1_stepsBetween_29 (by decide) ?_
      exact hk2 x1 x2 x3_2 q_1.2
def f_X1_stepsBetween_2 (r0 : Nat) : Nat → Int32 → Int32 → Int32 → Mm → Option (Int32 × Mm) :=
  itr (fun _ _ _ _ => none) (fun k => f_X1_stepsBetween_2b k r0)
theorem b_X1_stepsBetween_2 {X : CX} {E : FE} (M0 : MF X E RX1 cX1_stepsBetween 4 2 (some .int)) {r0 : Nat} (h0 : isClan r0) : ∀ (n : Nat) (x1 x2 x3 : Int32) (S : Mm), At X E false (mQi X Z1 E) 2 [some (.ref r0), some (.int x1), some (.int x2), some (.int x3)] [] Z1 S 0 0 (f_X1_stepsBetween_2 r0 n x1 x2 x3 S) := by
  intro n
  induction n with
  | zero => intros; exact a_none
  | succ n ih => intro x1 x2 x3 S; exact b_X1_stepsBetween_2b M0 h0 ih x1 x2 x3 S
def f_X1_stepsBetween (r0 : Nat) (p1 p2 : Int32) (S : Mm) : Option (Int32 × Mm) :=
  f_X1_stepsBetween_2 r0 FU p1 p2 (0 : Int32) S
set_option maxRecDepth 20000 in
theorem b_X1_stepsBetween {X : CX} {E : FE} (M0 : MF X E RX1 cX1_stepsBetween 4 2 (some .int)) {r0 : Nat} (h0 : isClan r0) (p1 p2 : Int32) (S : Mm) : At X E false (mQi X Z1 E) 0 [some (.ref r0), some (.int p1), some (.int p2), none] [] Z1 S 0 0 (f_X1_stepsBetween r0 p1 p2 S) := by
  have F := M0.1
  unfold f_X1_stepsBetween
  refine a_iconst F dX1_stepsBetween_0 ki_0 ?_
  refine a_istore_n (L' := [some (.ref r0), some (.int p1), some (.int p2), some (.int (0 : Int32))]) F dX1_stepsBetween_1 rfl (lt_b rfl) rfl ?_
  exact b_X1_stepsBetween_2 M0 h0 FU p1 p2 (0 : Int32) S
theorem c_X1_stepsBetween (X : CX) {r0 : Nat} (h0 : isClan r0) (p1 p2 : Int32) (S : Mm) : CtI X Z1 yX1_stepsBetween cX1_stepsBetween 4 (some .int) 2 [.ref r0, .int p1, .int p2] S (f_X1_stepsBetween r0 p1 p2 S) :=
  ctI_of (by decide +kernel) rfl (Nat.le_of_ble_eq_true rfl) (by simp [Value.category]) z1len fun E F R hra hlk => b_X1_stepsBetween ⟨F, R, hra, hlk⟩ h0 p1 p2 S
def f_X1_isParent_29 (r0 : Nat) (S : Mm) : Option (Int32 × Mm) :=
  some ((0 : Int32), S)
set_option maxRecDepth 20000 in
theorem b_X1_isParent_29 {X : CX} {E : FE} (M0 : MF X E RX1 cX1_isParent 3 1 (some .boolean)) {r0 : Nat} (h0 : isClan r0) (S : Mm) : At X E false (mQi X Z1 E) 29 [none, none, none] [] Z1 S 0 0 (f_X1_isParent_29 r0 S) := by
  have F := M0.1
  unfold f_X1_isParent_29
  refine a_iconst F dX1_isParent_29 ki_0 ?_
  exact a_zretK F M0.2.2.1 M0.2.2.2 dX1_isParent_30 (Or.inl rfl)
def f_X1_isParent_25 (r0 : Nat) (S : Mm) : Option (Int32 × Mm) :=
  some ((1 : Int32), S)
set_option maxRecDepth 20000 in
theorem b_X1_isParent_25 {X : CX} {E : FE} (M0 : MF X E RX1 cX1_isParent 3 1 (some .boolean)) {r0 : Nat} (h0 : isClan r0) (S : Mm) : At X E false (mQi X Z1 E) 25 [none, none, none] [] Z1 S 0 0 (f_X1_isParent_25 r0 S) := by
  have F := M0.1
  unfold f_X1_isParent_25
  refine a_iconst F dX1_isParent_25 ki_1 ?_
  refine a_goto F 30 dX1_isParent_26 (by decide) ?_
  exact a_zretK F M0.2.2.1 M0.2.2.2 dX1_isParent_30 (Or.inr rfl)
def f_X1_isParent (r0 : Nat) (p1 p2 : Int32) (S : Mm) : Option (Int32 × Mm) :=
  if p1 = (-1 : Int32) then (
   f_X1_isParent_29 r0 S
  ) else (
   gd (inB p2 12 = true) <|
   if (S (r0 + 1) (ix p2)) = p1 then (
    f_X1_isParent_25 r0 S
   ) else (
    gd (inB p2 12 = true) <|
    if (S (r0 + 2) (ix p2)) = p1 then (
     f_X1_isParent_25 r0 S
    ) else (
     f_X1_isParent_29 r0 S
    )
   )
  )
set_option maxRecDepth 20000 in
theorem b_X1_isParent {X : CX} {E : FE} (M0 : MF X E RX1 cX1_isParent 3 1 (some .boolean)) {r0 : Nat} (h0 : isClan r0) (p1 p2 : Int32) (S : Mm) : At X E false (mQi X Z1 E) 0 [some (.ref r0), some (.int p1), some (.int p2)] [] Z1 S 0 0 (f_X1_isParent r0 p1 p2 S) := by
  have F := M0.1
  unfold f_X1_isParent
  refine a_iload_n F dX1_isParent_0 rfl rfl ?_
  refine a_iconst F dX1_isParent_1 ki_m1 ?_
  refine a_icmp_eq F 29 dX1_isParent_2 (by decide) ?_ ?_
  · refine a_mask [false, false, false] (L' := [none, none, none]) rfl rfl ?_
    exact b_X1_isParent_29 M0 h0 S
  · refine a_aload_n F dX1_isParent_5 rfl rfl ?_
    refine a_getR (k := 5) F cfX1 dX1_isParent_6 fl_X1_27 (by decide) fi_1_5 (zcl_0 h0) (zck_0 h0) (zcr_5 h0) ?_
    refine a_iload_n F dX1_isParent_9 rfl rfl ?_
    refine a_gd (a_iald F dX1_isParent_10 (zcl_1 h0) (zck_1 h0) ?_)
    refine a_iload_n F dX1_isParent_11 rfl rfl ?_
    refine a_icmp_eq F 25 dX1_isParent_12 (by decide) ?_ ?_
    · refine a_mask [false, false, false] (L' := [none, none, none]) rfl rfl ?_
      exact b_X1_isParent_25 M0 h0 S
    · refine a_aload_n F dX1_isParent_15 rfl rfl ?_
      refine a_getR (k := 6) F cfX1 dX1_isParent_16 fl_X1_31 (by decide) fi_1_6 (zcl_0 h0) (zck_0 h0) (zcr_6 h0) ?_
      refine a_iload_n F dX1_isParent_19 rfl rfl ?_
      refine a_gd (a_iald F dX1_isParent_20 (zcl_2 h0) (zck_2 h0) ?_)
      refine a_iload_n F dX1_isParent_21 rfl rfl ?_
      refine a_icmp_ne F 29 dX1_isParent_22 (by decide) ?_ ?_
      · refine a_mask [false, false, false] (L' := [none, none, none]) rfl rfl ?_
        exact b_X1_isParent_25 M0 h0 S
      · refine a_mask [false, false, false] (L' := [none, none, none]) rfl rfl ?_
        exact b_X1_isParent_29 M0 h0 S
theorem c_X1_isParent (X : CX) {r0 : Nat} (h0 : isClan r0) (p1 p2 : Int32) (S : Mm) : CtI X Z1 yX1_isParent cX1_isParent 3 (some .boolean) 1 [.ref r0, .int p1, .int p2] S (f_X1_isParent r0 p1 p2 S) :=
  ctI_of (by decide +kernel) rfl (Nat.le_of_ble_eq_true rfl) (by simp [Value.category]) z1len fun E F R hra hlk => b_X1_isParent ⟨F, R, hra, hlk⟩ h0 p1 p2 S
def f_X1_ownedBy_26 (k4 : Int32 → Int32 → Int32 → Mm → Option (Int32 × Mm)) (r0 : Nat) (x1 x2 x3 : Int32) (S : Mm) : Option (Int32 × Mm) :=
  nm (x3 + (1 : Int32)) fun x3_1 =>
  k4 x1 x2 x3_1 S
set_option maxRecDepth 20000 in
theorem b_X1_ownedBy_26 {X : CX} {E : FE} (M0 : MF X E RX1 cX1_ownedBy 4 1 (some .int)) {r0 : Nat} (h0 : isClan r0) {k4 : Int32 → Int32 → Int32 → Mm → Option (Int32 × Mm)} (hk4 : ∀ (x1 x2 x3 : Int32) (S : Mm), At X E false (mQi X Z1 E) 4 [some (.ref r0), some (.int x1), some (.int x2), some (.int x3)] [] Z1 S 0 0 (k4 x1 x2 x3 S)) (x1 x2 x3 : Int32) (S : Mm) : At X E false (mQi X Z1 E) 26 [some (.ref r0), some (.int x1), some (.int x2), some (.int x3)] [] Z1 S 0 0 (f_X1_ownedBy_26 k4 r0 x1 x2 x3 S) := by
  have F := M0.1
  unfold f_X1_ownedBy_26
  refine a_iincN (L' := fun x3_1 => [some (.ref r0), some (.int x1), some (.int x2), some (.int x3_1)]) F dX1_ownedBy_26 rfl ki_1 (lt_b rfl) (fun _ => rfl) (fun x3_1 => ?_)
  refine a_goto F 4 dX1_ownedBy_29 (by decide) ?_
  exact hk4 x1 x2 x3_1 S
def f_X1_ownedBy_4b (k4 : Int32 → Int32 → Int32 → Mm → Option (Int32 × Mm)) (r0 : Nat) (x1 x2 x3 : Int32) (S : Mm) : Option (Int32 × Mm) :=
  if (28 : Int32) ≤ x3 then (
   some (x2, S)
  ) else (
   gd (inB x3 28 = true) <|
   if (S (r0 + 10) (ix x3)) = x1 then (
    nm ((x2 ||| (shl (1 : Int32) x3))) fun x2_1 =>
    f_X1_ownedBy_26 k4 r0 x1 x2_1 x3 S
   ) else (
    f_X1_ownedBy_26 k4 r0 x1 x2 x3 S
   )
  )
set_option maxRecDepth 20000 in
theorem b_X1_ownedBy_4b {X : CX} {E : FE} (M0 : MF X E RX1 cX1_ownedBy 4 1 (some .int)) {r0 : Nat} (h0 : isClan r0) {k4 : Int32 → Int32 → Int32 → Mm → Option (Int32 × Mm)} (hk4 : ∀ (x1 x2 x3 : Int32) (S : Mm), At X E false (mQi X Z1 E) 4 [some (.ref r0), some (.int x1), some (.int x2), some (.int x3)] [] Z1 S 0 0 (k4 x1 x2 x3 S)) (x1 x2 x3 : Int32) (S : Mm) : At X E false (mQi X Z1 E) 4 [some (.ref r0), some (.int x1), some (.int x2), some (.int x3)] [] Z1 S 0 0 (f_X1_ownedBy_4b k4 r0 x1 x2 x3 S) := by
  have F := M0.1
  unfold f_X1_ownedBy_4b
  refine a_iload_n F dX1_ownedBy_4 rfl rfl ?_
  refine a_bipush F dX1_ownedBy_5 kb_28 ?_
  refine a_icmp_ge F 32 dX1_ownedBy_7 (by decide) ?_ ?_
  · refine a_iload_n F dX1_ownedBy_32 rfl rfl ?_
    exact a_iret F M0.2.2.1 M0.2.2.2 dX1_ownedBy_33
  · refine a_aload_n F dX1_ownedBy_10 rfl rfl ?_
    refine a_getR (k := 14) F cfX1 dX1_ownedBy_11 fl_X1_55 (by decide) fi_1_14 (zcl_0 h0) (zck_0 h0) (zcr_14 h0) ?_
    refine a_iload_n F dX1_ownedBy_14 rfl rfl ?_
    refine a_gd (a_iald F dX1_ownedBy_15 (zcl_10 h0) (zck_10 h0) ?_)
    refine a_iload_n F dX1_ownedBy_16 rfl rfl ?_
    refine a_icmp_ne F 26 dX1_ownedBy_17 (by decide) ?_ ?_
    · refine a_iload_n F dX1_ownedBy_20 rfl rfl ?_
      refine a_iconst F dX1_ownedBy_21 ki_1 ?_
      refine a_iload_n F dX1_ownedBy_22 rfl rfl ?_
      refine a_ishl F dX1_ownedBy_23 ?_
      refine a_ior F dX1_ownedBy_24 ?_
      refine a_istore_nN (L' := fun x2_1 => [some (.ref r0), some (.int x1), some (.int x2_1), some (.int x3)]) F dX1_ownedBy_25 rfl (lt_b rfl) (fun _ => rfl) (fun x2_1 => ?_)
      exact b_X1_ownedBy_26 M0 h0 hk4 x1 x2_1 x3 S
    · exact b_X1_ownedBy_26 M0 h0 hk4 x1 x2 x3 S
def f_X1_ownedBy_4 (r0 : Nat) : Nat → Int32 → Int32 → Int32 → Mm → Option (Int32 × Mm) :=
  itr (fun _ _ _ _ => none) (fun k => f_X1_ownedBy_4b k r0)
theorem b_X1_ownedBy_4 {X : CX} {E : FE} (M0 : MF X E RX1 cX1_ownedBy 4 1 (some .int)) {r0 : Nat} (h0 : isClan r0) : ∀ (n : Nat) (x1 x2 x3 : Int32) (S : Mm), At X E false (mQi X Z1 E) 4 [some (.ref r0), some (.int x1), some (.int x2), some (.int x3)] [] Z1 S 0 0 (f_X1_ownedBy_4 r0 n x1 x2 x3 S) := by
  intro n
  induction n with
  | zero => intros; exact a_none
  | succ n ih => intro x1 x2 x3 S; exact b_X1_ownedBy_4b M0 h0 ih x1 x2 x3 S
def f_X1_ownedBy (r0 : Nat) (p1 : Int32) (S : Mm) : Option (Int32 × Mm) :=
  f_X1_ownedBy_4 r0 FU p1 (0 : Int32) (0 : Int32) S
set_option maxRecDepth 20000 in
theorem b_X1_ownedBy {X : CX} {E : FE} (M0 : MF X E RX1 cX1_ownedBy 4 1 (some .int)) {r0 : Nat} (h0 : isClan r0) (p1 : Int32) (S : Mm) : At X E false (mQi X Z1 E) 0 [some (.ref r0), some (.int p1), none, none] [] Z1 S 0 0 (f_X1_ownedBy r0 p1 S) := by
  have F := M0.1
  unfold f_X1_ownedBy
  refine a_iconst F dX1_ownedBy_0 ki_0 ?_
  refine a_istore_n (L' := [some (.ref r0), some (.int p1), some (.int (0 : Int32)), none]) F dX1_ownedBy_1 rfl (lt_b rfl) rfl ?_
  refine a_iconst F dX1_ownedBy_2 ki_0 ?_
  refine a_istore_n (L' := [some (.ref r0), some (.int p1), some (.int (0 : Int32)), some (.int (0 : Int32))]) F dX1_ownedBy_3 rfl (lt_b rfl) rfl ?_
  exact b_X1_ownedBy_4 M0 h0 FU p1 (0 : Int32) (0 : Int32) S
theorem c_X1_ownedBy (X : CX) {r0 : Nat} (h0 : isClan r0) (p1 : Int32) (S : Mm) : CtI X Z1 yX1_ownedBy cX1_ownedBy 4 (some .int) 1 [.ref r0, .int p1] S (f_X1_ownedBy r0 p1 S) :=
  ctI_of (by decide +kernel) rfl (Nat.le_of_ble_eq_true rfl) (by simp [Value.category]) z1len fun E F R hra hlk => b_X1_ownedBy ⟨F, R, hra, hlk⟩ h0 p1 S
def f_X3_combined (p0 p1 p2 : Int32) (S : Mm) : Option (Int32 × Mm) :=
  tsw p0 20000 [
   (
    some ((p1 + p2), S)
   ),
   (
    some ((p1 - p2), S)
   ),
   (
    some ((p1 * p2), S)
   ),
   (
    if p2 = 0 then (
     some ((0 : Int32), S)
    ) else (
     if p2 = 0 then none else
     some ((p1 / p2), S)
    )
   ),
   (
    if p2 ≤ p1 then (
     some ((0 : Int32), S)
    ) else (
     some ((1 : Int32), S)
    )
   ),
   (
    if p1 = p2 then (
     some ((1 : Int32), S)
    ) else (
     some ((0 : Int32), S)
    )
   ),
   (
    if p1 ≤ p2 then (
     some ((0 : Int32), S)
    ) else (
     some ((1 : Int32), S)
    )
   ),
   (
    some ((0 : Int32), S)
   ),
   (
    some ((p1 &&& p2), S)
   ),
   (
    some ((p1 ||| p2), S)
   )
  ] (
   some ((0 : Int32), S)
  )
set_option maxRecDepth 20000 in
theorem b_X3_combined {X : CX} {E : FE} (M0 : MF X E RX3 cX3_combined 3 1 (some .int)) (p0 p1 p2 : Int32) (S : Mm) : At X E false (mQi X Z1 E) 0 [some (.int p0), some (.int p1), some (.int p2)] [] Z1 S 0 0 (f_X3_combined p0 p1 p2 S) := by
  have F := M0.1
  unfold f_X3_combined
  refine a_iload_n F dX3_combined_0 rfl rfl ?_
  refine a_tsw F [56, 60, 64, 68, 80, 91, 102, 121, 113, 117] 121 dX3_combined_1 (by decide +kernel) (by decide +kernel) (by decide +kernel) ?_ ⟨?_, ?_, ?_, ?_, ?_, ?_, ?_, ?_, ?_, ?_, trivial⟩
  · refine a_iconst F dX3_combined_121 ki_0 ?_
    exact a_iret F M0.2.2.1 M0.2.2.2 dX3_combined_122
  · refine a_iload_n F dX3_combined_56 rfl rfl ?_
    refine a_iload_n F dX3_combined_57 rfl rfl ?_
    refine a_iadd F dX3_combined_58 ?_
    exact a_iret F M0.2.2.1 M0.2.2.2 dX3_combined_59
  · refine a_iload_n F dX3_combined_60 rfl rfl ?_
    refine a_iload_n F dX3_combined_61 rfl rfl ?_
    refine a_isub F dX3_combined_62 ?_
    exact a_iret F M0.2.2.1 M0.2.2.2 dX3_combined_63
  · refine a_iload_n F dX3_combined_64 rfl rfl ?_
    refine a_iload_n F dX3_combined_65 rfl rfl ?_
    refine a_imul F dX3_combined_66 ?_
    exact a_iret F M0.2.2.1 M0.2.2.2 dX3_combined_67
  · refine a_iload_n F dX3_combined_68 rfl rfl ?_
    refine a_if_eq F 78 dX3_combined_69 (by decide) ?_ ?_
    · refine a_iconst F dX3_combined_78 ki_0 ?_
      exact a_iret F M0.2.2.1 M0.2.2.2 dX3_combined_79
    · refine a_iload_n F dX3_combined_72 rfl rfl ?_
      refine a_iload_n F dX3_combined_73 rfl rfl ?_
      refine a_idiv F dX3_combined_74 ?_
      refine a_goto F 79 dX3_combined_75 (by decide) ?_
      exact a_iret F M0.2.2.1 M0.2.2.2 dX3_combined_79
  · refine a_iload_n F dX3_combined_80 rfl rfl ?_
    refine a_iload_n F dX3_combined_81 rfl rfl ?_
    refine a_icmp_ge F 89 dX3_combined_82 (by decide) ?_ ?_
    · refine a_iconst F dX3_combined_89 ki_0 ?_
      exact a_iret F M0.2.2.1 M0.2.2.2 dX3_combined_90
    · refine a_iconst F dX3_combined_85 ki_1 ?_
      refine a_goto F 90 dX3_combined_86 (by decide) ?_
      exact a_iret F M0.2.2.1 M0.2.2.2 dX3_combined_90
  · refine a_iload_n F dX3_combined_91 rfl rfl ?_
    refine a_iload_n F dX3_combined_92 rfl rfl ?_
    refine a_icmp_ne F 100 dX3_combined_93 (by decide) ?_ ?_
    · refine a_iconst F dX3_combined_96 ki_1 ?_
      refine a_goto F 101 dX3_combined_97 (by decide) ?_
      exact a_iret F M0.2.2.1 M0.2.2.2 dX3_combined_101
    · refine a_iconst F dX3_combined_100 ki_0 ?_
      exact a_iret F M0.2.2.1 M0.2.2.2 dX3_combined_101
  · refine a_iload_n F dX3_combined_102 rfl rfl ?_
    refine a_iload_n F dX3_combined_103 rfl rfl ?_
    refine a_icmp_le F 111 dX3_combined_104 (by decide) ?_ ?_
    · refine a_iconst F dX3_combined_111 ki_0 ?_
      exact a_iret F M0.2.2.1 M0.2.2.2 dX3_combined_112
    · refine a_iconst F dX3_combined_107 ki_1 ?_
      refine a_goto F 112 dX3_combined_108 (by decide) ?_
      exact a_iret F M0.2.2.1 M0.2.2.2 dX3_combined_112
  · refine a_iconst F dX3_combined_121 ki_0 ?_
    exact a_iret F M0.2.2.1 M0.2.2.2 dX3_combined_122
  · refine a_iload_n F dX3_combined_113 rfl rfl ?_
    refine a_iload_n F dX3_combined_114 rfl rfl ?_
    refine a_iand F dX3_combined_115 ?_
    exact a_iret F M0.2.2.1 M0.2.2.2 dX3_combined_116
  · refine a_iload_n F dX3_combined_117 rfl rfl ?_
    refine a_iload_n F dX3_combined_118 rfl rfl ?_
    refine a_ior F dX3_combined_119 ?_
    exact a_iret F M0.2.2.1 M0.2.2.2 dX3_combined_120
theorem c_X3_combined (X : CX) (p0 p1 p2 : Int32) (S : Mm) : CtI X Z1 yX3_combined cX3_combined 3 (some .int) 1 [.int p0, .int p1, .int p2] S (f_X3_combined p0 p1 p2 S) :=
  ctI_of (by decide +kernel) rfl (Nat.le_of_ble_eq_true rfl) (by simp [Value.category]) z1len fun E F R hra hlk => b_X3_combined ⟨F, R, hra, hlk⟩ p0 p1 p2 S
def f_X3_run_18_145 (k5 : Int32 → Int32 → Int32 → Mm → Option (Int32 × Mm)) (x2 x3 x4 : Int32) (S : Mm) : Option (Int32 × Mm) :=
  nm (x4 + (1 : Int32)) fun x4_1 =>
  k5 x2 x3 x4_1 S
set_option maxRecDepth 20000 in
theorem b_X3_run_18_145 {X : CX} {E : FE} (M0 : MF X E RX3 cX3_run 6 2 (some .int)) {k5 : Int32 → Int32 → Int32 → Mm → Option (Int32 × Mm)} (hk5 : ∀ (x2 x3 x4 : Int32) (S : Mm), At X E false (mQi X Z1 E) 5 [some (.ref 18), none, some (.int x2), some (.int x3), some (.int x4), none] [] Z1 S 0 0 (k5 x2 x3 x4 S)) (x2 x3 x4 : Int32) (S : Mm) : At X E false (mQi X Z1 E) 145 [some (.ref 18), none, some (.int x2), some (.int x3), some (.int x4), none] [] Z1 S 0 0 (f_X3_run_18_145 k5 x2 x3 x4 S) := by
  have F := M0.1
  unfold f_X3_run_18_145
  refine a_iincN (L' := fun x4_1 => [some (.ref 18), none, some (.int x2), some (.int x3), some (.int x4_1), none]) F dX3_run_145 rfl ki_1 (lt_b rfl) (fun _ => rfl) (fun x4_1 => ?_)
  refine a_goto F 5 dX3_run_148 (by decide) ?_
  exact hk5 x2 x3 x4_1 S
def f_X3_run_18_65 (k5 : Int32 → Int32 → Int32 → Mm → Option (Int32 × Mm)) (x2 x3 x4 t1 t2 : Int32) (S : Mm) : Option (Int32 × Mm) :=
  gd (inB t1 64 = true) <|
  nm (uM S 24 (ix t1) t2) fun S_1 =>
  nm (x3 + (1 : Int32)) fun x3_2 =>
  f_X3_run_18_145 k5 x2 x3_2 x4 S_1
set_option maxRecDepth 20000 in
theorem b_X3_run_18_65 {X : CX} {E : FE} (M0 : MF X E RX3 cX3_run 6 2 (some .int)) {k5 : Int32 → Int32 → Int32 → Mm → Option (Int32 × Mm)} (hk5 : ∀ (x2 x3 x4 : Int32) (S : Mm), At X E false (mQi X Z1 E) 5 [some (.ref 18), none, some (.int x2), some (.int x3), some (.int x4), none] [] Z1 S 0 0 (k5 x2 x3 x4 S)) (x2 x3 x4 t1 t2 : Int32) (S : Mm) : At X E false (mQi X Z1 E) 65 [some (.ref 18), none, some (.int x2), some (.int x3), some (.int x4), none] [.int t2, .int t1, .ref 24] Z1 S 0 0 (f_X3_run_18_65 k5 x2 x3 x4 t1 t2 S) := by
  have F := M0.1
  unfold f_X3_run_18_65
  refine a_gd (a_iast F dX3_run_65 zl_24 zk_24 ?_)
  refine a_nmS (fun S_1 => ?_)
  refine a_iincN (L' := fun x3_2 => [some (.ref 18), none, some (.int x2), some (.int x3_2), some (.int x4), none]) F dX3_run_66 rfl ki_1 (lt_b rfl) (fun _ => rfl) (fun x3_2 => ?_)
  refine a_goto F 145 dX3_run_69 (by decide) ?_
  exact b_X3_run_18_145 M0 hk5 x2 x3_2 x4 S_1
def f_X3_run_18_5b (k5 : Int32 → Int32 → Int32 → Mm → Option (Int32 × Mm)) (x2 x3 x4 : Int32) (S : Mm) : Option (Int32 × Mm) :=
  if x2 ≤ x4 then (
   if x3 ≤ 0 then (
    some ((0 : Int32), S)
   ) else (
    gd (inB (x3 - (1 : Int32)) 64 = true) <|
    some ((S 24 (ix (x3 - (1 : Int32)))), S)
   )
  ) else (
   gd (inB x4 400 = true) <|
   nm ((S 19 (ix x4))) fun x5_1 =>
   if (20000 : Int32) ≤ x5_1 then (
    if x5_1 = (20007 : Int32) then (
     if (1 : Int32) ≤ x3 then (
      gd (inB (x3 - (1 : Int32)) 64 = true) <|
      gd (inB (x3 - (1 : Int32)) 64 = true) <|
      nm (uM S 24 (ix (x3 - (1 : Int32))) ((1 : Int32) - (S 24 (ix (x3 - (1 : Int32)))))) fun S_2 =>
      f_X3_run_18_145 k5 x2 x3 x4 S_2
     ) else (
      some ((0 : Int32), S)
     )
    ) else (
     if (2 : Int32) ≤ x3 then (
      nm (x3 + (-1 : Int32)) fun x3_3 =>
      gd (inB (x3_3 - (1 : Int32)) 64 = true) <|
      gd (inB x3_3 64 = true) <|
      (f_X3_combined x5_1 (S 24 (ix (x3_3 - (1 : Int32)))) (S 24 (ix x3_3)) S).bind fun q_4 =>
      gd (inB (x3_3 - (1 : Int32)) 64 = true) <|
      nm (uM q_4.2 24 (ix (x3_3 - (1 : Int32))) q_4.1) fun S_5 =>
      f_X3_run_18_145 k5 x2 x3_3 x4 S_5
     ) else (
      some ((0 : Int32), S)
     )
    )
   ) else (
    if x3 < (64 : Int32) then (
     if (10000 : Int32) ≤ x5_1 then (
      gd (inB (x5_1 - (10000 : Int32)) 10 = true) <|
      f_X3_run_18_65 k5 x2 x3 x4 x3 (S 23 (ix (x5_1 - (10000 : Int32)))) S
     ) else (
      f_X3_run_18_65 k5 x2 x3 x4 x3 x5_1 S
     )
    ) else (
     some ((0 : Int32), S)
    )
   )
  )
set_option maxRecDepth 20000 in
theorem b_X3_run_18_5b {X : CX} {E : FE} (M0 : MF X E RX3 cX3_run 6 2 (some .int)) {k5 : Int32 → Int32 → Int32 → Mm → Option (Int32 × Mm)} (hk5 : ∀ (x2 x3 x4 : Int32) (S : Mm), At X E false (mQi X Z1 E) 5 [some (.ref 18), none, some (.int x2), some (.int x3), some (.int x4), none] [] Z1 S 0 0 (k5 x2 x3 x4 S)) (x2 x3 x4 : Int32) (S : Mm) : At X E false (mQi X Z1 E) 5 [some (.ref 18), none, some (.int x2), some (.int x3), some (.int x4), none] [] Z1 S 0 0 (f_X3_run_18_5b k5 x2 x3 x4 S) := by
  have F := M0.1
  unfold f_X3_run_18_5b
  refine a_iload F dX3_run_5 rfl ?_
  refine a_iload_n F dX3_run_7 rfl rfl ?_
  refine a_icmp_ge F 151 dX3_run_8 (by decide) ?_ ?_
  · refine a_iload_n F dX3_run_151 rfl rfl ?_
    refine a_if_le F 166 dX3_run_152 (by decide) ?_ ?_
    · refine a_iconst F dX3_run_166 ki_0 ?_
      exact a_iret F M0.2.2.1 M0.2.2.2 dX3_run_167
    · refine a_aload_n F dX3_run_155 rfl rfl ?_
      refine a_getR (k := 7) F cfX3 dX3_run_156 fl_X3_34 (by decide) fi_3_7 zl_18 zk_18 zr_18_7 ?_
      refine a_iload_n F dX3_run_159 rfl rfl ?_
      refine a_iconst F dX3_run_160 ki_1 ?_
      refine a_isub F dX3_run_161 ?_
      refine a_gd (a_iald F dX3_run_162 zl_24 zk_24 ?_)
      refine a_goto F 167 dX3_run_163 (by decide) ?_
      exact a_iret F M0.2.2.1 M0.2.2.2 dX3_run_167
  · refine a_aload_n F dX3_run_11 rfl rfl ?_
    refine a_getR (k := 0) F cfX3 dX3_run_12 fl_X3_9 (by decide) fi_3_0 zl_18 zk_18 zr_18_0 ?_
    refine a_iload F dX3_run_15 rfl ?_
    refine a_gd (a_iald F dX3_run_17 zl_19 zk_19 ?_)
    refine a_istoreN (L' := fun x5_1 => [some (.ref 18), none, some (.int x2), some (.int x3), some (.int x4), some (.int x5_1)]) F dX3_run_18 (lt_b rfl) (fun _ => rfl) (fun x5_1 => ?_)
    refine a_iload F dX3_run_20 rfl ?_
    refine a_sipush F dX3_run_22 ks_20000 ?_
    refine a_icmp_ge F 72 dX3_run_25 (by decide) ?_ ?_
    · refine a_iload F dX3_run_72 rfl ?_
      refine a_sipush F dX3_run_74 ks_20007 ?_
      refine a_icmp_ne F 108 dX3_run_77 (by decide) ?_ ?_
      · refine a_iload_n F dX3_run_80 rfl rfl ?_
        refine a_iconst F dX3_run_81 ki_1 ?_
        refine a_icmp_ge F 87 dX3_run_82 (by decide) ?_ ?_
        · refine a_aload_n F dX3_run_87 rfl rfl ?_
          refine a_getR (k := 7) F cfX3 dX3_run_88 fl_X3_34 (by decide) fi_3_7 zl_18 zk_18 zr_18_7 ?_
          refine a_iload_n F dX3_run_91 rfl rfl ?_
          refine a_iconst F dX3_run_92 ki_1 ?_
          refine a_isub F dX3_run_93 ?_
          refine a_iconst F dX3_run_94 ki_1 ?_
          refine a_aload_n F dX3_run_95 rfl rfl ?_
          refine a_getR (k := 7) F cfX3 dX3_run_96 fl_X3_34 (by decide) fi_3_7 zl_18 zk_18 zr_18_7 ?_
          refine a_iload_n F dX3_run_99 rfl rfl ?_
          refine a_iconst F dX3_run_100 ki_1 ?_
          refine a_isub F dX3_run_101 ?_
          refine a_gd (a_iald F dX3_run_102 zl_24 zk_24 ?_)
          refine a_isub F dX3_run_103 ?_
          refine a_gd (a_iast F dX3_run_104 zl_24 zk_24 ?_)
          refine a_nmS (fun S_2 => ?_)
          refine a_goto F 145 dX3_run_105 (by decide) ?_
          refine a_mask [true, false, true, true, true, false] (L' := [some (.ref 18), none, some (.int x2), some (.int x3), some (.int x4), none]) rfl rfl ?_
          exact b_X3_run_18_145 M0 hk5 x2 x3 x4 S_2
        · refine a_iconst F dX3_run_85 ki_0 ?_
          exact a_iret F M0.2.2.1 M0.2.2.2 dX3_run_86
      · refine a_iload_n F dX3_run_108 rfl rfl ?_
        refine a_iconst F dX3_run_109 ki_2 ?_
        refine a_icmp_ge F 115 dX3_run_110 (by decide) ?_ ?_
        · refine a_iincN (L' := fun x3_3 => [some (.ref 18), none, some (.int x2), some (.int x3_3), some (.int x4), some (.int x5_1)]) F dX3_run_115 rfl ki_m1 (lt_b rfl) (fun _ => rfl) (fun x3_3 => ?_)
          refine a_aload_n F dX3_run_118 rfl rfl ?_
          refine a_getR (k := 7) F cfX3 dX3_run_119 fl_X3_34 (by decide) fi_3_7 zl_18 zk_18 zr_18_7 ?_
          refine a_iload_n F dX3_run_122 rfl rfl ?_
          refine a_iconst F dX3_run_123 ki_1 ?_
          refine a_isub F dX3_run_124 ?_
          refine a_iload F dX3_run_125 rfl ?_
          refine a_aload_n F dX3_run_127 rfl rfl ?_
          refine a_getR (k := 7) F cfX3 dX3_run_128 fl_X3_34 (by decide) fi_3_7 zl_18 zk_18 zr_18_7 ?_
          refine a_iload_n F dX3_run_131 rfl rfl ?_
          refine a_iconst F dX3_run_132 ki_1 ?_
          refine a_isub F dX3_run_133 ?_
          refine a_gd (a_iald F dX3_run_134 zl_24 zk_24 ?_)
          refine a_aload_n F dX3_run_135 rfl rfl ?_
          refine a_getR (k := 7) F cfX3 dX3_run_136 fl_X3_34 (by decide) fi_3_7 zl_18 zk_18 zr_18_7 ?_
          refine a_iload_n F dX3_run_139 rfl rfl ?_
          refine a_gd (a_iald F dX3_run_140 zl_24 zk_24 ?_)
          refine a_callSI F (As := [.int x5_1, .int (S 24 (ix (x3_3 - (1 : Int32)))), .int (S 24 (ix x3_3))]) (c_X3_combined X x5_1 (S 24 (ix (x3_3 - (1 : Int32)))) (S 24 (ix x3_3)) S) mw_X3_combined ml_X3_91 st_X3_combined M0.2.1 (Nat.le_of_ble_eq_true rfl) ⟨Nat.zero_le _, Nat.zero_le _⟩ rfl rfl (Nat.le_of_ble_eq_true rfl) dX3_run_141 rfl (fun q_4 => ?_)
          refine a_gd (a_iast F dX3_run_144 zl_24 zk_24 ?_)
          refine a_nmS (fun S_5 => ?_)
          refine a_mask [true, false, true, true, true, false] (L' := [some (.ref 18), none, some (.int x2), some (.int x3_3), some (.int x4), none]) rfl rfl ?_
          exact b_X3_run_18_145 M0 hk5 x2 x3_3 x4 S_5
        · refine a_iconst F dX3_run_113 ki_0 ?_
          exact a_iret F M0.2.2.1 M0.2.2.2 dX3_run_114
    · refine a_iload_n F dX3_run_28 rfl rfl ?_
      refine a_bipush F dX3_run_29 kb_64 ?_
      refine a_icmp_lt F 36 dX3_run_31 (by decide) ?_ ?_
      · refine a_aload_n F dX3_run_36 rfl rfl ?_
        refine a_getR (k := 7) F cfX3 dX3_run_37 fl_X3_34 (by decide) fi_3_7 zl_18 zk_18 zr_18_7 ?_
        refine a_iload_n F dX3_run_40 rfl rfl ?_
        refine a_iload F dX3_run_41 rfl ?_
        refine a_sipush F dX3_run_43 ks_10000 ?_
        refine a_icmp_ge F 54 dX3_run_46 (by decide) ?_ ?_
        · refine a_aload_n F dX3_run_54 rfl rfl ?_
          refine a_getR (k := 6) F cfX3 dX3_run_55 fl_X3_31 (by decide) fi_3_6 zl_18 zk_18 zr_18_6 ?_
          refine a_iload F dX3_run_58 rfl ?_
          refine a_sipush F dX3_run_60 ks_10000 ?_
          refine a_isub F dX3_run_63 ?_
          refine a_gd (a_iald F dX3_run_64 zl_23 zk_23 ?_)
          refine a_mask [true, false, true, true, true, false] (L' := [some (.ref 18), none, some (.int x2), some (.int x3), some (.int x4), none]) rfl rfl ?_
          exact b_X3_run_18_65 M0 hk5 x2 x3 x4 x3 (S 23 (ix (x5_1 - (10000 : Int32)))) S
        · refine a_iload F dX3_run_49 rfl ?_
          refine a_goto F 65 dX3_run_51 (by decide) ?_
          refine a_mask [true, false, true, true, true, false] (L' := [some (.ref 18), none, some (.int x2), some (.int x3), some (.int x4), none]) rfl rfl ?_
          exact b_X3_run_18_65 M0 hk5 x2 x3 x4 x3 x5_1 S
      · refine a_iconst F dX3_run_34 ki_0 ?_
        exact a_iret F M0.2.2.1 M0.2.2.2 dX3_run_35
def f_X3_run_18_5 : Nat → Int32 → Int32 → Int32 → Mm → Option (Int32 × Mm) :=
  itr (fun _ _ _ _ => none) (fun k => f_X3_run_18_5b k)
theorem b_X3_run_18_5 {X : CX} {E : FE} (M0 : MF X E RX3 cX3_run 6 2 (some .int)) : ∀ (n : Nat) (x2 x3 x4 : Int32) (S : Mm), At X E false (mQi X Z1 E) 5 [some (.ref 18), none, some (.int x2), some (.int x3), some (.int x4), none] [] Z1 S 0 0 (f_X3_run_18_5  n x2 x3 x4 S) := by
  intro n
  induction n with
  | zero => intros; exact a_none
  | succ n ih => intro x2 x3 x4 S; exact b_X3_run_18_5b M0 ih x2 x3 x4 S
def f_X3_run_18 (p1 p2 : Int32) (S : Mm) : Option (Int32 × Mm) :=
  f_X3_run_18_5 FU p2 (0 : Int32) p1 S
set_option maxRecDepth 20000 in
theorem b_X3_run_18 {X : CX} {E : FE} (M0 : MF X E RX3 cX3_run 6 2 (some .int)) (p1 p2 : Int32) (S : Mm) : At X E false (mQi X Z1 E) 0 [some (.ref 18), some (.int p1), some (.int p2), none, none, none] [] Z1 S 0 0 (f_X3_run_18 p1 p2 S) := by
  have F := M0.1
  unfold f_X3_run_18
  refine a_iconst F dX3_run_0 ki_0 ?_
  refine a_istore_n (L' := [some (.ref 18), some (.int p1), some (.int p2), some (.int (0 : Int32)), none, none]) F dX3_run_1 rfl (lt_b rfl) rfl ?_
  refine a_iload_n F dX3_run_2 rfl rfl ?_
  refine a_istore (L' := [some (.ref 18), some (.int p1), some (.int p2), some (.int (0 : Int32)), some (.int p1), none]) F dX3_run_3 (lt_b rfl) rfl ?_
  refine a_mask [true, false, true, true, true, false] (L' := [some (.ref 18), none, some (.int p2), some (.int (0 : Int32)), some (.int p1), none]) rfl rfl ?_
  exact b_X3_run_18_5 M0 FU p2 (0 : Int32) p1 S
theorem c_X3_run_18 (X : CX) (p1 p2 : Int32) (S : Mm) : CtI X Z1 yX3_run cX3_run 6 (some .int) 2 [.ref 18, .int p1, .int p2] S (f_X3_run_18 p1 p2 S) :=
  ctI_of (by decide +kernel) rfl (Nat.le_of_ble_eq_true rfl) (by simp [Value.category]) z1len fun E F R hra hlk => b_X3_run_18 ⟨F, R, hra, hlk⟩ p1 p2 S
def f_X3_worthOf_18_235 (r1 : Nat) (x5 : Int32) (S : Mm) : Option (Int32 × Mm) :=
  gd (inB x5 16 = true) <|
  gd (inB x5 16 = true) <|
  (f_X3_run_18 (S 20 (ix x5)) (S 21 (ix x5)) S).bind fun q_1 =>
  some (q_1.1, q_1.2)
set_option maxRecDepth 20000 in
theorem b_X3_worthOf_18_235 {X : CX} {E : FE} (M0 : MF X E RX3 cX3_worthOf 7 3 (some .int)) {r1 : Nat} (h1 : isClan r1) (x5 : Int32) (S : Mm) : At X E false (mQi X Z1 E) 235 [some (.ref 18), none, none, none, none, some (.int x5), none] [] Z1 S 0 0 (f_X3_worthOf_18_235 r1 x5 S) := by
  have F := M0.1
  unfold f_X3_worthOf_18_235
  refine a_aload_n F dX3_worthOf_235 rfl rfl ?_
  refine a_aload_n F dX3_worthOf_236 rfl rfl ?_
  refine a_getR (k := 3) F cfX3 dX3_worthOf_237 fl_X3_22 (by decide) fi_3_3 zl_18 zk_18 zr_18_3 ?_
  refine a_iload F dX3_worthOf_240 rfl ?_
  refine a_gd (a_iald F dX3_worthOf_242 zl_20 zk_20 ?_)
  refine a_aload_n F dX3_worthOf_243 rfl rfl ?_
  refine a_getR (k := 4) F cfX3 dX3_worthOf_244 fl_X3_25 (by decide) fi_3_4 zl_18 zk_18 zr_18_4 ?_
  refine a_iload F dX3_worthOf_247 rfl ?_
  refine a_gd (a_iald F dX3_worthOf_249 zl_21 zk_21 ?_)
  refine a_callVI F (As := [.int (S 20 (ix x5)), .int (S 21 (ix x5))]) cfX3 rfl (c_X3_run_18 X (S 20 (ix x5)) (S 21 (ix x5)) S) mw_X3_run ml_X3_88 im_X3_run se_X3_run M0.2.1 (Nat.le_of_ble_eq_true rfl) ⟨Nat.zero_le _, Nat.zero_le _⟩ rfl rfl (Nat.le_of_ble_eq_true rfl) zl_18 zk_18 dX3_worthOf_250 rfl (fun q_1 => ?_)
  exact a_iret F M0.2.2.1 M0.2.2.2 dX3_worthOf_253
def f_X3_worthOf_18_207 (k176 : Int32 → Mm → Option (Int32 × Mm)) (r1 : Nat) (x5 t0 : Int32) (S : Mm) : Option (Int32 × Mm) :=
  if t0 = 0 then (
   gd (inB x5 16 = true) <|
   gd (inB x5 16 = true) <|
   (f_X3_run_18 (S 21 (ix x5)) (S 22 (ix x5)) S).bind fun q_1 =>
   if q_1.1 = 0 then (
    nm (x5 + (1 : Int32)) fun x5_2 =>
    k176 x5_2 q_1.2
   ) else (
    f_X3_worthOf_18_235 r1 x5 q_1.2
   )
  ) else (
   f_X3_worthOf_18_235 r1 x5 S
  )
set_option maxRecDepth 20000 in
theorem b_X3_worthOf_18_207 {X : CX} {E : FE} (M0 : MF X E RX3 cX3_worthOf 7 3 (some .int)) {r1 : Nat} (h1 : isClan r1) {k176 : Int32 → Mm → Option (Int32 × Mm)} (hk176 : ∀ (x5 : Int32) (S : Mm), At X E false (mQi X Z1 E) 176 [some (.ref 18), none, none, none, none, some (.int x5), none] [] Z1 S 0 0 (k176 x5 S)) (x5 t0 : Int32) (S : Mm) : At X E false (mQi X Z1 E) 207 [some (.ref 18), none, none, none, none, some (.int x5), none] [.int t0] Z1 S 0 0 (f_X3_worthOf_18_207 k176 r1 x5 t0 S) := by
  have F := M0.1
  unfold f_X3_worthOf_18_207
  refine a_istore (L' := [some (.ref 18), none, none, none, none, some (.int x5), some (.int t0)]) F dX3_worthOf_207 (lt_b rfl) rfl ?_
  refine a_iload F dX3_worthOf_209 rfl ?_
  refine a_if_ne F 235 dX3_worthOf_211 (by decide) ?_ ?_
  · refine a_aload_n F dX3_worthOf_214 rfl rfl ?_
    refine a_aload_n F dX3_worthOf_215 rfl rfl ?_
    refine a_getR (k := 4) F cfX3 dX3_worthOf_216 fl_X3_25 (by decide) fi_3_4 zl_18 zk_18 zr_18_4 ?_
    refine a_iload F dX3_worthOf_219 rfl ?_
    refine a_gd (a_iald F dX3_worthOf_221 zl_21 zk_21 ?_)
    refine a_aload_n F dX3_worthOf_222 rfl rfl ?_
    refine a_getR (k := 5) F cfX3 dX3_worthOf_223 fl_X3_28 (by decide) fi_3_5 zl_18 zk_18 zr_18_5 ?_
    refine a_iload F dX3_worthOf_226 rfl ?_
    refine a_gd (a_iald F dX3_worthOf_228 zl_22 zk_22 ?_)
    refine a_callVI F (As := [.int (S 21 (ix x5)), .int (S 22 (ix x5))]) cfX3 rfl (c_X3_run_18 X (S 21 (ix x5)) (S 22 (ix x5)) S) mw_X3_run ml_X3_88 im_X3_run se_X3_run M0.2.1 (Nat.le_of_ble_eq_true rfl) ⟨Nat.zero_le _, Nat.zero_le _⟩ rfl rfl (Nat.le_of_ble_eq_true rfl) zl_18 zk_18 dX3_worthOf_229 rfl (fun q_1 => ?_)
    refine a_if_eq F 254 dX3_worthOf_232 (by decide) ?_ ?_
    · refine a_iincN (L' := fun x5_2 => [some (.ref 18), none, none, none, none, some (.int x5_2), some (.int t0)]) F dX3_worthOf_254 rfl ki_1 (lt_b rfl) (fun _ => rfl) (fun x5_2 => ?_)
      refine a_goto F 176 dX3_worthOf_257 (by decide) ?_
      refine a_mask [true, false, false, false, false, true, false] (L' := [some (.ref 18), none, none, none, none, some (.int x5_2), none]) rfl rfl ?_
      exact hk176 x5_2 q_1.2
    · refine a_mask [true, false, false, false, false, true, false] (L' := [some (.ref 18), none, none, none, none, some (.int x5), none]) rfl rfl ?_
      exact b_X3_worthOf_18_235 M0 h1 x5 q_1.2
  · refine a_mask [true, false, false, false, false, true, false] (L' := [some (.ref 18), none, none, none, none, some (.int x5), none]) rfl rfl ?_
    exact b_X3_worthOf_18_235 M0 h1 x5 S
def f_X3_worthOf_18_176b (k176 : Int32 → Mm → Option (Int32 × Mm)) (r1 : Nat) (x5 : Int32) (S : Mm) : Option (Int32 × Mm) :=
  if (S 18 2) ≤ x5 then (
   some ((0 : Int32), S)
  ) else (
   gd (inB x5 16 = true) <|
   gd (inB x5 16 = true) <|
   if (S 21 (ix x5)) = (S 22 (ix x5)) then (
    f_X3_worthOf_18_207 k176 r1 x5 (1 : Int32) S
   ) else (
    f_X3_worthOf_18_207 k176 r1 x5 (0 : Int32) S
   )
  )
set_option maxRecDepth 20000 in
theorem b_X3_worthOf_18_176b {X : CX} {E : FE} (M0 : MF X E RX3 cX3_worthOf 7 3 (some .int)) {r1 : Nat} (h1 : isClan r1) {k176 : Int32 → Mm → Option (Int32 × Mm)} (hk176 : ∀ (x5 : Int32) (S : Mm), At X E false (mQi X Z1 E) 176 [some (.ref 18), none, none, none, none, some (.int x5), none] [] Z1 S 0 0 (k176 x5 S)) (x5 : Int32) (S : Mm) : At X E false (mQi X Z1 E) 176 [some (.ref 18), none, none, none, none, some (.int x5), none] [] Z1 S 0 0 (f_X3_worthOf_18_176b k176 r1 x5 S) := by
  have F := M0.1
  unfold f_X3_worthOf_18_176b
  refine a_iload F dX3_worthOf_176 rfl ?_
  refine a_aload_n F dX3_worthOf_178 rfl rfl ?_
  refine a_getI (k := 2) F cfX3 dX3_worthOf_179 fl_X3_19 (by decide) fi_3_2 zl_18 zk_18 ?_
  refine a_icmp_ge F 260 dX3_worthOf_182 (by decide) ?_ ?_
  · refine a_iconst F dX3_worthOf_260 ki_0 ?_
    exact a_iret F M0.2.2.1 M0.2.2.2 dX3_worthOf_261
  · refine a_aload_n F dX3_worthOf_185 rfl rfl ?_
    refine a_getR (k := 4) F cfX3 dX3_worthOf_186 fl_X3_25 (by decide) fi_3_4 zl_18 zk_18 zr_18_4 ?_
    refine a_iload F dX3_worthOf_189 rfl ?_
    refine a_gd (a_iald F dX3_worthOf_191 zl_21 zk_21 ?_)
    refine a_aload_n F dX3_worthOf_192 rfl rfl ?_
    refine a_getR (k := 5) F cfX3 dX3_worthOf_193 fl_X3_28 (by decide) fi_3_5 zl_18 zk_18 zr_18_5 ?_
    refine a_iload F dX3_worthOf_196 rfl ?_
    refine a_gd (a_iald F dX3_worthOf_198 zl_22 zk_22 ?_)
    refine a_icmp_ne F 206 dX3_worthOf_199 (by decide) ?_ ?_
    · refine a_iconst F dX3_worthOf_202 ki_1 ?_
      refine a_goto F 207 dX3_worthOf_203 (by decide) ?_
      exact b_X3_worthOf_18_207 M0 h1 hk176 x5 (1 : Int32) S
    · refine a_iconst F dX3_worthOf_206 ki_0 ?_
      exact b_X3_worthOf_18_207 M0 h1 hk176 x5 (0 : Int32) S
def f_X3_worthOf_18_176 (r1 : Nat) : Nat → Int32 → Mm → Option (Int32 × Mm) :=
  itr (fun _ _ => none) (fun k => f_X3_worthOf_18_176b k r1)
theorem b_X3_worthOf_18_176 {X : CX} {E : FE} (M0 : MF X E RX3 cX3_worthOf 7 3 (some .int)) {r1 : Nat} (h1 : isClan r1) : ∀ (n : Nat) (x5 : Int32) (S : Mm), At X E false (mQi X Z1 E) 176 [some (.ref 18), none, none, none, none, some (.int x5), none] [] Z1 S 0 0 (f_X3_worthOf_18_176 r1 n x5 S) := by
  intro n
  induction n with
  | zero => intros; exact a_none
  | succ n ih => intro x5 S; exact b_X3_worthOf_18_176b M0 h1 ih x5 S
def f_X3_worthOf_18_120 (r1 : Nat) (x3 t1 t2 : Int32) (S : Mm) : Option (Int32 × Mm) :=
  gd (inB t1 10 = true) <|
  nm (uM S 23 (ix t1) t2) fun S_1 =>
  (f_X1_ownedBy r1 x3 S_1).bind fun q_2 =>
  (f_J6_bitCount_0f7a4 q_2.1 q_2.2).bind fun q_3 =>
  nm (uM q_3.2 23 6 q_3.1) fun S_4 =>
  gd (inB x3 12 = true) <|
  nm (uM S_4 23 7 (S_4 (r1 + 6) (ix x3))) fun S_5 =>
  gd (inB x3 12 = true) <|
  nm (uM S_5 23 8 (S_5 (r1 + 7) (ix x3))) fun S_6 =>
  nm (uM S_6 23 9 (S_6 r1 1)) fun S_7 =>
  f_X3_worthOf_18_176 r1 FU (0 : Int32) S_7
set_option maxRecDepth 20000 in
theorem b_X3_worthOf_18_120 {X : CX} {E : FE} (M0 : MF X E RX3 cX3_worthOf 7 3 (some .int)) {r1 : Nat} (h1 : isClan r1) (x3 t1 t2 : Int32) (S : Mm) : At X E false (mQi X Z1 E) 120 [some (.ref 18), some (.ref r1), none, some (.int x3), none, none, none] [.int t2, .int t1, .ref 23] Z1 S 0 0 (f_X3_worthOf_18_120 r1 x3 t1 t2 S) := by
  have F := M0.1
  unfold f_X3_worthOf_18_120
  refine a_gd (a_iast F dX3_worthOf_120 zl_23 zk_23 ?_)
  refine a_nmS (fun S_1 => ?_)
  refine a_aload_n F dX3_worthOf_121 rfl rfl ?_
  refine a_getR (k := 6) F cfX3 dX3_worthOf_122 fl_X3_31 (by decide) fi_3_6 zl_18 zk_18 zr_18_6 ?_
  refine a_bipush F dX3_worthOf_125 kb_6 ?_
  refine a_aload_n F dX3_worthOf_127 rfl rfl ?_
  refine a_iload_n F dX3_worthOf_128 rfl rfl ?_
  refine a_callVI F (As := [.int x3]) cfX1 rfl (c_X1_ownedBy X h1 x3 S_1) mw_X1_ownedBy ml_X3_73 im_X1_ownedBy se_X1_ownedBy M0.2.1 (Nat.le_of_ble_eq_true rfl) ⟨Nat.zero_le _, Nat.zero_le _⟩ rfl rfl (Nat.le_of_ble_eq_true rfl) (zcl_0 h1) (zck_0 h1) dX3_worthOf_129 rfl (fun q_2 => ?_)
  refine a_callSI F (As := [.int q_2.1]) (c_J6_bitCount_0f7a4 X q_2.1 q_2.2) mw_J6_bitCount_0f7a4 ml_X3_77 st_J6_bitCount_0f7a4 M0.2.1 (Nat.le_of_ble_eq_true rfl) ⟨Nat.zero_le _, Nat.zero_le _⟩ rfl rfl (Nat.le_of_ble_eq_true rfl) dX3_worthOf_132 rfl (fun q_3 => ?_)
  refine a_iastK F 6 dX3_worthOf_135 zl_23 zk_23 ib_6_10 ix_6 ?_
  refine a_nmS (fun S_4 => ?_)
  refine a_aload_n F dX3_worthOf_136 rfl rfl ?_
  refine a_getR (k := 6) F cfX3 dX3_worthOf_137 fl_X3_31 (by decide) fi_3_6 zl_18 zk_18 zr_18_6 ?_
  refine a_bipush F dX3_worthOf_140 kb_7 ?_
  refine a_aload_n F dX3_worthOf_142 rfl rfl ?_
  refine a_getR (k := 10) F cfX1 dX3_worthOf_143 fl_X3_82 (by decide) fi_1_10 (zcl_0 h1) (zck_0 h1) (zcr_10 h1) ?_
  refine a_iload_n F dX3_worthOf_146 rfl rfl ?_
  refine a_gd (a_iald F dX3_worthOf_147 (zcl_6 h1) (zck_6 h1) ?_)
  refine a_iastK F 7 dX3_worthOf_148 zl_23 zk_23 ib_7_10 ix_7 ?_
  refine a_nmS (fun S_5 => ?_)
  refine a_aload_n F dX3_worthOf_149 rfl rfl ?_
  refine a_getR (k := 6) F cfX3 dX3_worthOf_150 fl_X3_31 (by decide) fi_3_6 zl_18 zk_18 zr_18_6 ?_
  refine a_bipush F dX3_worthOf_153 kb_8 ?_
  refine a_aload_n F dX3_worthOf_155 rfl rfl ?_
  refine a_getR (k := 11) F cfX1 dX3_worthOf_156 fl_X3_85 (by decide) fi_1_11 (zcl_0 h1) (zck_0 h1) (zcr_11 h1) ?_
  refine a_iload_n F dX3_worthOf_159 rfl rfl ?_
  refine a_gd (a_iald F dX3_worthOf_160 (zcl_7 h1) (zck_7 h1) ?_)
  refine a_iastK F 8 dX3_worthOf_161 zl_23 zk_23 ib_8_10 ix_8 ?_
  refine a_nmS (fun S_6 => ?_)
  refine a_aload_n F dX3_worthOf_162 rfl rfl ?_
  refine a_getR (k := 6) F cfX3 dX3_worthOf_163 fl_X3_31 (by decide) fi_3_6 zl_18 zk_18 zr_18_6 ?_
  refine a_bipush F dX3_worthOf_166 kb_9 ?_
  refine a_aload_n F dX3_worthOf_168 rfl rfl ?_
  refine a_getI (k := 1) F cfX1 dX3_worthOf_169 fl_X3_56 (by decide) fi_1_1 (zcl_0 h1) (zck_0 h1) ?_
  refine a_iastK F 9 dX3_worthOf_172 zl_23 zk_23 ib_9_10 ix_9 ?_
  refine a_nmS (fun S_7 => ?_)
  refine a_iconst F dX3_worthOf_173 ki_0 ?_
  refine a_istore (L' := [some (.ref 18), some (.ref r1), none, some (.int x3), none, some (.int (0 : Int32)), none]) F dX3_worthOf_174 (lt_b rfl) rfl ?_
  refine a_mask [true, false, false, false, false, true, false] (L' := [some (.ref 18), none, none, none, none, some (.int (0 : Int32)), none]) rfl rfl ?_
  exact b_X3_worthOf_18_176 M0 h1 FU (0 : Int32) S_7
def f_X3_worthOf_18_99 (r1 : Nat) (x2 x3 t1 t2 : Int32) (S : Mm) : Option (Int32 × Mm) :=
  gd (inB t1 10 = true) <|
  nm (uM S 23 (ix t1) t2) fun S_1 =>
  gd (inB x2 12 = true) <|
  if (S_1 (r1 + 8) (ix x2)) = x3 then (
   f_X3_worthOf_18_120 r1 x3 (5 : Int32) (1 : Int32) S_1
  ) else (
   f_X3_worthOf_18_120 r1 x3 (5 : Int32) (0 : Int32) S_1
  )
set_option maxRecDepth 20000 in
theorem b_X3_worthOf_18_99 {X : CX} {E : FE} (M0 : MF X E RX3 cX3_worthOf 7 3 (some .int)) {r1 : Nat} (h1 : isClan r1) (x2 x3 t1 t2 : Int32) (S : Mm) : At X E false (mQi X Z1 E) 99 [some (.ref 18), some (.ref r1), some (.int x2), some (.int x3), none, none, none] [.int t2, .int t1, .ref 23] Z1 S 0 0 (f_X3_worthOf_18_99 r1 x2 x3 t1 t2 S) := by
  have F := M0.1
  unfold f_X3_worthOf_18_99
  refine a_gd (a_iast F dX3_worthOf_99 zl_23 zk_23 ?_)
  refine a_nmS (fun S_1 => ?_)
  refine a_aload_n F dX3_worthOf_100 rfl rfl ?_
  refine a_getR (k := 6) F cfX3 dX3_worthOf_101 fl_X3_31 (by decide) fi_3_6 zl_18 zk_18 zr_18_6 ?_
  refine a_iconst F dX3_worthOf_104 ki_5 ?_
  refine a_aload_n F dX3_worthOf_105 rfl rfl ?_
  refine a_getR (k := 12) F cfX1 dX3_worthOf_106 fl_X3_70 (by decide) fi_1_12 (zcl_0 h1) (zck_0 h1) (zcr_12 h1) ?_
  refine a_iload_n F dX3_worthOf_109 rfl rfl ?_
  refine a_gd (a_iald F dX3_worthOf_110 (zcl_8 h1) (zck_8 h1) ?_)
  refine a_iload_n F dX3_worthOf_111 rfl rfl ?_
  refine a_icmp_ne F 119 dX3_worthOf_112 (by decide) ?_ ?_
  · refine a_iconst F dX3_worthOf_115 ki_1 ?_
    refine a_goto F 120 dX3_worthOf_116 (by decide) ?_
    refine a_mask [true, true, false, true, false, false, false] (L' := [some (.ref 18), some (.ref r1), none, some (.int x3), none, none, none]) rfl rfl ?_
    exact b_X3_worthOf_18_120 M0 h1 x3 (5 : Int32) (1 : Int32) S_1
  · refine a_iconst F dX3_worthOf_119 ki_0 ?_
    refine a_mask [true, true, false, true, false, false, false] (L' := [some (.ref 18), some (.ref r1), none, some (.int x3), none, none, none]) rfl rfl ?_
    exact b_X3_worthOf_18_120 M0 h1 x3 (5 : Int32) (0 : Int32) S_1
def f_X3_worthOf_18_50 (r1 : Nat) (x2 x3 t1 t2 : Int32) (S : Mm) : Option (Int32 × Mm) :=
  gd (inB t1 10 = true) <|
  nm (uM S 23 (ix t1) t2) fun S_1 =>
  gd (inB x3 12 = true) <|
  nm (uM S_1 23 2 ((S_1 r1 1) - (S_1 (r1 + 3) (ix x3)))) fun S_2 =>
  (f_X1_stepsBetween r1 x2 x3 S_2).bind fun q_3 =>
  nm (uM q_3.2 23 3 q_3.1) fun S_4 =>
  (f_X1_isParent r1 x2 x3 S_4).bind fun q_5 =>
  if q_5.1 = 0 then (
   f_X3_worthOf_18_99 r1 x2 x3 (4 : Int32) (0 : Int32) q_5.2
  ) else (
   f_X3_worthOf_18_99 r1 x2 x3 (4 : Int32) (1 : Int32) q_5.2
  )
set_option maxRecDepth 20000 in
theorem b_X3_worthOf_18_50 {X : CX} {E : FE} (M0 : MF X E RX3 cX3_worthOf 7 3 (some .int)) {r1 : Nat} (h1 : isClan r1) (x2 x3 t1 t2 : Int32) (S : Mm) : At X E false (mQi X Z1 E) 50 [some (.ref 18), some (.ref r1), some (.int x2), some (.int x3), none, none, none] [.int t2, .int t1, .ref 23] Z1 S 0 0 (f_X3_worthOf_18_50 r1 x2 x3 t1 t2 S) := by
  have F := M0.1
  unfold f_X3_worthOf_18_50
  refine a_gd (a_iast F dX3_worthOf_50 zl_23 zk_23 ?_)
  refine a_nmS (fun S_1 => ?_)
  refine a_aload_n F dX3_worthOf_51 rfl rfl ?_
  refine a_getR (k := 6) F cfX3 dX3_worthOf_52 fl_X3_31 (by decide) fi_3_6 zl_18 zk_18 zr_18_6 ?_
  refine a_iconst F dX3_worthOf_55 ki_2 ?_
  refine a_aload_n F dX3_worthOf_56 rfl rfl ?_
  refine a_getI (k := 1) F cfX1 dX3_worthOf_57 fl_X3_56 (by decide) fi_1_1 (zcl_0 h1) (zck_0 h1) ?_
  refine a_aload_n F dX3_worthOf_60 rfl rfl ?_
  refine a_getR (k := 7) F cfX1 dX3_worthOf_61 fl_X3_59 (by decide) fi_1_7 (zcl_0 h1) (zck_0 h1) (zcr_7 h1) ?_
  refine a_iload_n F dX3_worthOf_64 rfl rfl ?_
  refine a_gd (a_iald F dX3_worthOf_65 (zcl_3 h1) (zck_3 h1) ?_)
  refine a_isub F dX3_worthOf_66 ?_
  refine a_iastK F 2 dX3_worthOf_67 zl_23 zk_23 ib_2_10 ix_2 ?_
  refine a_nmS (fun S_2 => ?_)
  refine a_aload_n F dX3_worthOf_68 rfl rfl ?_
  refine a_getR (k := 6) F cfX3 dX3_worthOf_69 fl_X3_31 (by decide) fi_3_6 zl_18 zk_18 zr_18_6 ?_
  refine a_iconst F dX3_worthOf_72 ki_3 ?_
  refine a_aload_n F dX3_worthOf_73 rfl rfl ?_
  refine a_iload_n F dX3_worthOf_74 rfl rfl ?_
  refine a_iload_n F dX3_worthOf_75 rfl rfl ?_
  refine a_callVI F (As := [.int x2, .int x3]) cfX1 rfl (c_X1_stepsBetween X h1 x2 x3 S_2) mw_X1_stepsBetween ml_X3_62 im_X1_stepsBetween se_X1_stepsBetween M0.2.1 (Nat.le_of_ble_eq_true rfl) ⟨Nat.zero_le _, Nat.zero_le _⟩ rfl rfl (Nat.le_of_ble_eq_true rfl) (zcl_0 h1) (zck_0 h1) dX3_worthOf_76 rfl (fun q_3 => ?_)
  refine a_iastK F 3 dX3_worthOf_79 zl_23 zk_23 ib_3_10 ix_3 ?_
  refine a_nmS (fun S_4 => ?_)
  refine a_aload_n F dX3_worthOf_80 rfl rfl ?_
  refine a_getR (k := 6) F cfX3 dX3_worthOf_81 fl_X3_31 (by decide) fi_3_6 zl_18 zk_18 zr_18_6 ?_
  refine a_iconst F dX3_worthOf_84 ki_4 ?_
  refine a_aload_n F dX3_worthOf_85 rfl rfl ?_
  refine a_iload_n F dX3_worthOf_86 rfl rfl ?_
  refine a_iload_n F dX3_worthOf_87 rfl rfl ?_
  refine a_callVI F (As := [.int x2, .int x3]) cfX1 rfl (c_X1_isParent X h1 x2 x3 S_4) mw_X1_isParent ml_X3_66 im_X1_isParent se_X1_isParent M0.2.1 (Nat.le_of_ble_eq_true rfl) ⟨Nat.zero_le _, Nat.zero_le _⟩ rfl rfl (Nat.le_of_ble_eq_true rfl) (zcl_0 h1) (zck_0 h1) dX3_worthOf_88 rfl (fun q_5 => ?_)
  refine a_if_eq F 98 dX3_worthOf_91 (by decide) ?_ ?_
  · refine a_iconst F dX3_worthOf_98 ki_0 ?_
    exact b_X3_worthOf_18_99 M0 h1 x2 x3 (4 : Int32) (0 : Int32) q_5.2
  · refine a_iconst F dX3_worthOf_94 ki_1 ?_
    refine a_goto F 99 dX3_worthOf_95 (by decide) ?_
    exact b_X3_worthOf_18_99 M0 h1 x2 x3 (4 : Int32) (1 : Int32) q_5.2
def f_X3_worthOf_18_45 (r1 : Nat) (x2 x3 t1 : Int32) (S : Mm) : Option (Int32 × Mm) :=
  f_X3_worthOf_18_50 r1 x2 x3 t1 (1 : Int32) S
set_option maxRecDepth 20000 in
theorem b_X3_worthOf_18_45 {X : CX} {E : FE} (M0 : MF X E RX3 cX3_worthOf 7 3 (some .int)) {r1 : Nat} (h1 : isClan r1) (x2 x3 t1 : Int32) (S : Mm) : At X E false (mQi X Z1 E) 45 [some (.ref 18), some (.ref r1), some (.int x2), some (.int x3), none, none, none] [.int t1, .ref 23] Z1 S 0 0 (f_X3_worthOf_18_45 r1 x2 x3 t1 S) := by
  have F := M0.1
  unfold f_X3_worthOf_18_45
  refine a_iconst F dX3_worthOf_45 ki_1 ?_
  refine a_goto F 50 dX3_worthOf_46 (by decide) ?_
  exact b_X3_worthOf_18_50 M0 h1 x2 x3 t1 (1 : Int32) S
def f_X3_worthOf_18 (r1 : Nat) (p2 p3 p4 : Int32) (S : Mm) : Option (Int32 × Mm) :=
  nm (uM S 23 0 p4) fun S_1 =>
  if p4 = 0 then (
   f_X3_worthOf_18_45 r1 p2 p3 (1 : Int32) S_1
  ) else (
   if p4 = (4 : Int32) then (
    f_X3_worthOf_18_45 r1 p2 p3 (1 : Int32) S_1
   ) else (
    if p4 = (8 : Int32) then (
     f_X3_worthOf_18_45 r1 p2 p3 (1 : Int32) S_1
    ) else (
     if p4 = (14 : Int32) then (
      f_X3_worthOf_18_45 r1 p2 p3 (1 : Int32) S_1
     ) else (
      if p4 = (20 : Int32) then (
       f_X3_worthOf_18_45 r1 p2 p3 (1 : Int32) S_1
      ) else (
       f_X3_worthOf_18_50 r1 p2 p3 (1 : Int32) (0 : Int32) S_1
      )
     )
    )
   )
  )
set_option maxRecDepth 20000 in
theorem b_X3_worthOf_18 {X : CX} {E : FE} (M0 : MF X E RX3 cX3_worthOf 7 3 (some .int)) {r1 : Nat} (h1 : isClan r1) (p2 p3 p4 : Int32) (S : Mm) : At X E false (mQi X Z1 E) 0 [some (.ref 18), some (.ref r1), some (.int p2), some (.int p3), some (.int p4), none, none] [] Z1 S 0 0 (f_X3_worthOf_18 r1 p2 p3 p4 S) := by
  have F := M0.1
  unfold f_X3_worthOf_18
  refine a_aload_n F dX3_worthOf_0 rfl rfl ?_
  refine a_getR (k := 6) F cfX3 dX3_worthOf_1 fl_X3_31 (by decide) fi_3_6 zl_18 zk_18 zr_18_6 ?_
  refine a_iconst F dX3_worthOf_4 ki_0 ?_
  refine a_iload F dX3_worthOf_5 rfl ?_
  refine a_iastK F 0 dX3_worthOf_7 zl_23 zk_23 ib_0_10 ix_0 ?_
  refine a_nmS (fun S_1 => ?_)
  refine a_aload_n F dX3_worthOf_8 rfl rfl ?_
  refine a_getR (k := 6) F cfX3 dX3_worthOf_9 fl_X3_31 (by decide) fi_3_6 zl_18 zk_18 zr_18_6 ?_
  refine a_iconst F dX3_worthOf_12 ki_1 ?_
  refine a_iload F dX3_worthOf_13 rfl ?_
  refine a_if_eq F 45 dX3_worthOf_15 (by decide) ?_ ?_
  · refine a_mask [true, true, true, true, false, false, false] (L' := [some (.ref 18), some (.ref r1), some (.int p2), some (.int p3), none, none, none]) rfl rfl ?_
    exact b_X3_worthOf_18_45 M0 h1 p2 p3 (1 : Int32) S_1
  · refine a_iload F dX3_worthOf_18 rfl ?_
    refine a_iconst F dX3_worthOf_20 ki_4 ?_
    refine a_icmp_eq F 45 dX3_worthOf_21 (by decide) ?_ ?_
    · refine a_mask [true, true, true, true, false, false, false] (L' := [some (.ref 18), some (.ref r1), some (.int p2), some (.int p3), none, none, none]) rfl rfl ?_
      exact b_X3_worthOf_18_45 M0 h1 p2 p3 (1 : Int32) S_1
    · refine a_iload F dX3_worthOf_24 rfl ?_
      refine a_bipush F dX3_worthOf_26 kb_8 ?_
      refine a_icmp_eq F 45 dX3_worthOf_28 (by decide) ?_ ?_
      · refine a_mask [true, true, true, true, false, false, false] (L' := [some (.ref 18), some (.ref r1), some (.int p2), some (.int p3), none, none, none]) rfl rfl ?_
        exact b_X3_worthOf_18_45 M0 h1 p2 p3 (1 : Int32) S_1
      · refine a_iload F dX3_worthOf_31 rfl ?_
        refine a_bipush F dX3_worthOf_33 kb_14 ?_
        refine a_icmp_eq F 45 dX3_worthOf_35 (by decide) ?_ ?_
        · refine a_mask [true, true, true, true, false, false, false] (L' := [some (.ref 18), some (.ref r1), some (.int p2), some (.int p3), none, none, none]) rfl rfl ?_
          exact b_X3_worthOf_18_45 M0 h1 p2 p3 (1 : Int32) S_1
        · refine a_iload F dX3_worthOf_38 rfl ?_
          refine a_bipush F dX3_worthOf_40 kb_20 ?_
          refine a_icmp_ne F 49 dX3_worthOf_42 (by decide) ?_ ?_
          · refine a_mask [true, true, true, true, false, false, false] (L' := [some (.ref 18), some (.ref r1), some (.int p2), some (.int p3), none, none, none]) rfl rfl ?_
            exact b_X3_worthOf_18_45 M0 h1 p2 p3 (1 : Int32) S_1
          · refine a_iconst F dX3_worthOf_49 ki_0 ?_
            refine a_mask [true, true, true, true, false, false, false] (L' := [some (.ref 18), some (.ref r1), some (.int p2), some (.int p3), none, none, none]) rfl rfl ?_
            exact b_X3_worthOf_18_50 M0 h1 p2 p3 (1 : Int32) (0 : Int32) S_1
theorem c_X3_worthOf_18 (X : CX) {r1 : Nat} (h1 : isClan r1) (p2 p3 p4 : Int32) (S : Mm) : CtI X Z1 yX3_worthOf cX3_worthOf 7 (some .int) 3 [.ref 18, .ref r1, .int p2, .int p3, .int p4] S (f_X3_worthOf_18 r1 p2 p3 p4 S) :=
  ctI_of (by decide +kernel) rfl (Nat.le_of_ble_eq_true rfl) (by simp [Value.category]) z1len fun E F R hra hlk => b_X3_worthOf_18 ⟨F, R, hra, hlk⟩ h1 p2 p3 p4 S
def f_X3_heirOf_18_56 (k9 : Int32 → Int32 → Int32 → Int32 → Int32 → Mm → Option (Int32 × Mm)) (r1 : Nat) (x2 x3 x4 x5 x6 : Int32) (S : Mm) : Option (Int32 × Mm) :=
  nm (x6 + (1 : Int32)) fun x6_1 =>
  k9 x2 x3 x4 x5 x6_1 S
set_option maxRecDepth 20000 in
theorem b_X3_heirOf_18_56 {X : CX} {E : FE} (M0 : MF X E RX3 cX3_heirOf 8 4 (some .int)) {r1 : Nat} (h1 : isClan r1) {k9 : Int32 → Int32 → Int32 → Int32 → Int32 → Mm → Option (Int32 × Mm)} (hk9 : ∀ (x2 x3 x4 x5 x6 : Int32) (S : Mm), At X E false (mQi X Z1 E) 9 [some (.ref 18), some (.ref r1), some (.int x2), some (.int x3), some (.int x4), some (.int x5), some (.int x6), none] [] Z1 S 0 0 (k9 x2 x3 x4 x5 x6 S)) (x2 x3 x4 x5 x6 : Int32) (S : Mm) : At X E false (mQi X Z1 E) 56 [some (.ref 18), some (.ref r1), some (.int x2), some (.int x3), some (.int x4), some (.int x5), some (.int x6), none] [] Z1 S 0 0 (f_X3_heirOf_18_56 k9 r1 x2 x3 x4 x5 x6 S) := by
  have F := M0.1
  unfold f_X3_heirOf_18_56
  refine a_iincN (L' := fun x6_1 => [some (.ref 18), some (.ref r1), some (.int x2), some (.int x3), some (.int x4), some (.int x5), some (.int x6_1), none]) F dX3_heirOf_56 rfl ki_1 (lt_b rfl) (fun _ => rfl) (fun x6_1 => ?_)
  refine a_goto F 9 dX3_heirOf_59 (by decide) ?_
  exact hk9 x2 x3 x4 x5 x6_1 S
def f_X3_heirOf_18_9b (k9 : Int32 → Int32 → Int32 → Int32 → Int32 → Mm → Option (Int32 × Mm)) (r1 : Nat) (x2 x3 x4 x5 x6 : Int32) (S : Mm) : Option (Int32 × Mm) :=
  if (S r1 3) ≤ x6 then (
   some (x4, S)
  ) else (
   (f_X1_lives r1 x6 S).bind fun q_1 =>
   if q_1.1 = 0 then (
    f_X3_heirOf_18_56 k9 r1 x2 x3 x4 x5 x6 q_1.2
   ) else (
    (f_X3_worthOf_18 r1 x2 x6 x3 q_1.2).bind fun q_2 =>
    if q_2.1 ≤ x5 then (
     f_X3_heirOf_18_56 k9 r1 x2 x3 x4 x5 x6 q_2.2
    ) else (
     f_X3_heirOf_18_56 k9 r1 x2 x3 x6 q_2.1 x6 q_2.2
    )
   )
  )
set_option maxRecDepth 20000 in
theorem b_X3_heirOf_18_9b {X : CX} {E : FE} (M0 : MF X E RX3 cX3_heirOf 8 4 (some .int)) {r1 : Nat} (h1 : isClan r1) {k9 : Int32 → Int32 → Int32 → Int32 → Int32 → Mm → Option (Int32 × Mm)} (hk9 : ∀ (x2 x3 x4 x5 x6 : Int32) (S : Mm), At X E false (mQi X Z1 E) 9 [some (.ref 18), some (.ref r1), some (.int x2), some (.int x3), some (.int x4), some (.int x5), some (.int x6), none] [] Z1 S 0 0 (k9 x2 x3 x4 x5 x6 S)) (x2 x3 x4 x5 x6 : Int32) (S : Mm) : At X E false (mQi X Z1 E) 9 [some (.ref 18), some (.ref r1), some (.int x2), some (.int x3), some (.int x4), some (.int x5), some (.int x6), none] [] Z1 S 0 0 (f_X3_heirOf_18_9b k9 r1 x2 x3 x4 x5 x6 S) := by
  have F := M0.1
  unfold f_X3_heirOf_18_9b
  refine a_iload F dX3_heirOf_9 rfl ?_
  refine a_aload_n F dX3_heirOf_11 rfl rfl ?_
  refine a_getI (k := 3) F cfX1 dX3_heirOf_12 fl_X3_43 (by decide) fi_1_3 (zcl_0 h1) (zck_0 h1) ?_
  refine a_icmp_ge F 62 dX3_heirOf_15 (by decide) ?_ ?_
  · refine a_iload F dX3_heirOf_62 rfl ?_
    exact a_iret F M0.2.2.1 M0.2.2.2 dX3_heirOf_64
  · refine a_aload_n F dX3_heirOf_18 rfl rfl ?_
    refine a_iload F dX3_heirOf_19 rfl ?_
    refine a_callVI F (As := [.int x6]) cfX1 rfl (c_X1_lives X h1 x6 S) mw_X1_lives ml_X3_48 im_X1_lives se_X1_lives M0.2.1 (Nat.le_of_ble_eq_true rfl) ⟨Nat.zero_le _, Nat.zero_le _⟩ rfl rfl (Nat.le_of_ble_eq_true rfl) (zcl_0 h1) (zck_0 h1) dX3_heirOf_21 rfl (fun q_1 => ?_)
    refine a_if_ne F 30 dX3_heirOf_24 (by decide) ?_ ?_
    · refine a_goto F 56 dX3_heirOf_27 (by decide) ?_
      exact b_X3_heirOf_18_56 M0 h1 hk9 x2 x3 x4 x5 x6 q_1.2
    · refine a_aload_n F dX3_heirOf_30 rfl rfl ?_
      refine a_aload_n F dX3_heirOf_31 rfl rfl ?_
      refine a_iload_n F dX3_heirOf_32 rfl rfl ?_
      refine a_iload F dX3_heirOf_33 rfl ?_
      refine a_iload_n F dX3_heirOf_35 rfl rfl ?_
      refine a_callVI F (As := [.ref r1, .int x2, .int x6, .int x3]) cfX3 rfl (c_X3_worthOf_18 X h1 x2 x6 x3 q_1.2) mw_X3_worthOf ml_X3_52 im_X3_worthOf se_X3_worthOf M0.2.1 (Nat.le_of_ble_eq_true rfl) ⟨Nat.zero_le _, Nat.zero_le _⟩ rfl rfl (Nat.le_of_ble_eq_true rfl) zl_18 zk_18 dX3_heirOf_36 rfl (fun q_2 => ?_)
      refine a_istore (L' := [some (.ref 18), some (.ref r1), some (.int x2), some (.int x3), some (.int x4), some (.int x5), some (.int x6), some (.int q_2.1)]) F dX3_heirOf_39 (lt_b rfl) rfl ?_
      refine a_iload F dX3_heirOf_41 rfl ?_
      refine a_iload F dX3_heirOf_43 rfl ?_
      refine a_icmp_le F 56 dX3_heirOf_45 (by decide) ?_ ?_
      · refine a_mask [true, true, true, true, true, true, true, false] (L' := [some (.ref 18), some (.ref r1), some (.int x2), some (.int x3), some (.int x4), some (.int x5), some (.int x6), none]) rfl rfl ?_
        exact b_X3_heirOf_18_56 M0 h1 hk9 x2 x3 x4 x5 x6 q_2.2
      · refine a_iload F dX3_heirOf_48 rfl ?_
        refine a_istore (L' := [some (.ref 18), some (.ref r1), some (.int x2), some (.int x3), some (.int x4), some (.int q_2.1), some (.int x6), some (.int q_2.1)]) F dX3_heirOf_50 (lt_b rfl) rfl ?_
        refine a_iload F dX3_heirOf_52 rfl ?_
        refine a_istore (L' := [some (.ref 18), some (.ref r1), some (.int x2), some (.int x3), some (.int x6), some (.int q_2.1), some (.int x6), some (.int q_2.1)]) F dX3_heirOf_54 (lt_b rfl) rfl ?_
        refine a_mask [true, true, true, true, true, true, true, false] (L' := [some (.ref 18), some (.ref r1), some (.int x2), some (.int x3), some (.int x6), some (.int q_2.1), some (.int x6), none]) rfl rfl ?_
        exact b_X3_heirOf_18_56 M0 h1 hk9 x2 x3 x6 q_2.1 x6 q_2.2
def f_X3_heirOf_18_9 (r1 : Nat) : Nat → Int32 → Int32 → Int32 → Int32 → Int32 → Mm → Option (Int32 × Mm) :=
  itr (fun _ _ _ _ _ _ => none) (fun k => f_X3_heirOf_18_9b k r1)
theorem b_X3_heirOf_18_9 {X : CX} {E : FE} (M0 : MF X E RX3 cX3_heirOf 8 4 (some .int)) {r1 : Nat} (h1 : isClan r1) : ∀ (n : Nat) (x2 x3 x4 x5 x6 : Int32) (S : Mm), At X E false (mQi X Z1 E) 9 [some (.ref 18), some (.ref r1), some (.int x2), some (.int x3), some (.int x4), some (.int x5), some (.int x6), none] [] Z1 S 0 0 (f_X3_heirOf_18_9 r1 n x2 x3 x4 x5 x6 S) := by
  intro n
  induction n with
  | zero => intros; exact a_none
  | succ n ih => intro x2 x3 x4 x5 x6 S; exact b_X3_heirOf_18_9b M0 h1 ih x2 x3 x4 x5 x6 S
def f_X3_heirOf_18 (r1 : Nat) (p2 p3 : Int32) (S : Mm) : Option (Int32 × Mm) :=
  f_X3_heirOf_18_9 r1 FU p2 p3 (-1 : Int32) (0 : Int32) (0 : Int32) S
set_option maxRecDepth 20000 in
theorem b_X3_heirOf_18 {X : CX} {E : FE} (M0 : MF X E RX3 cX3_heirOf 8 4 (some .int)) {r1 : Nat} (h1 : isClan r1) (p2 p3 : Int32) (S : Mm) : At X E false (mQi X Z1 E) 0 [some (.ref 18), some (.ref r1), some (.int p2), some (.int p3), none, none, none, none] [] Z1 S 0 0 (f_X3_heirOf_18 r1 p2 p3 S) := by
  have F := M0.1
  unfold f_X3_heirOf_18
  refine a_iconst F dX3_heirOf_0 ki_m1 ?_
  refine a_istore (L' := [some (.ref 18), some (.ref r1), some (.int p2), some (.int p3), some (.int (-1 : Int32)), none, none, none]) F dX3_heirOf_1 (lt_b rfl) rfl ?_
  refine a_iconst F dX3_heirOf_3 ki_0 ?_
  refine a_istore (L' := [some (.ref 18), some (.ref r1), some (.int p2), some (.int p3), some (.int (-1 : Int32)), some (.int (0 : Int32)), none, none]) F dX3_heirOf_4 (lt_b rfl) rfl ?_
  refine a_iconst F dX3_heirOf_6 ki_0 ?_
  refine a_istore (L' := [some (.ref 18), some (.ref r1), some (.int p2), some (.int p3), some (.int (-1 : Int32)), some (.int (0 : Int32)), some (.int (0 : Int32)), none]) F dX3_heirOf_7 (lt_b rfl) rfl ?_
  exact b_X3_heirOf_18_9 M0 h1 FU p2 p3 (-1 : Int32) (0 : Int32) (0 : Int32) S
theorem c_X3_heirOf_18 (X : CX) {r1 : Nat} (h1 : isClan r1) (p2 p3 : Int32) (S : Mm) : CtI X Z1 yX3_heirOf cX3_heirOf 8 (some .int) 4 [.ref 18, .ref r1, .int p2, .int p3] S (f_X3_heirOf_18 r1 p2 p3 S) :=
  ctI_of (by decide +kernel) rfl (Nat.le_of_ble_eq_true rfl) (by simp [Value.category]) z1len fun E F R hra hlk => b_X3_heirOf_18 ⟨F, R, hra, hlk⟩ h1 p2 p3 S
def f_X0_write_32 (p1 p2 p3 p4 p5 : Int32) (S : Mm) : Option Mm :=
  if (S 32 1) < (200 : Int32) then (
   nm (((S 32 1) * (5 : Int32))) fun x6_1 =>
   gd (inB x6_1 1000 = true) <|
   nm (uM S 33 (ix x6_1) p1) fun S_2 =>
   gd (inB (x6_1 + (1 : Int32)) 1000 = true) <|
   nm (uM S_2 33 (ix (x6_1 + (1 : Int32))) p2) fun S_3 =>
   gd (inB (x6_1 + (2 : Int32)) 1000 = true) <|
   nm (uM S_3 33 (ix (x6_1 + (2 : Int32))) p3) fun S_4 =>
   gd (inB (x6_1 + (3 : Int32)) 1000 = true) <|
   nm (uM S_4 33 (ix (x6_1 + (3 : Int32))) p4) fun S_5 =>
   gd (inB (x6_1 + (4 : Int32)) 1000 = true) <|
   nm (uM S_5 33 (ix (x6_1 + (4 : Int32))) p5) fun S_6 =>
   nm (uM S_6 32 1 ((S_6 32 1) + (1 : Int32))) fun S_7 =>
   some S_7
  ) else (
   some S
  )
set_option maxRecDepth 20000 in
theorem b_X0_write_32 {X : CX} {E : FE} (M0 : MF X E RX0 cX0_write 7 1 none) (p1 p2 p3 p4 p5 : Int32) (S : Mm) : At X E false (mQv X Z1 E) 0 [some (.ref 32), some (.int p1), some (.int p2), some (.int p3), some (.int p4), some (.int p5), none] [] Z1 S 0 0 (f_X0_write_32 p1 p2 p3 p4 p5 S) := by
  have F := M0.1
  unfold f_X0_write_32
  refine a_aload_n F dX0_write_0 rfl rfl ?_
  refine a_getI (k := 1) F cfX0 dX0_write_1 fl_X0_15 (by decide) fi_0_1 zl_32 zk_32 ?_
  refine a_sipush F dX0_write_4 ks_200 ?_
  refine a_icmp_lt F 11 dX0_write_7 (by decide) ?_ ?_
  · refine a_aload_n F dX0_write_11 rfl rfl ?_
    refine a_getI (k := 1) F cfX0 dX0_write_12 fl_X0_15 (by decide) fi_0_1 zl_32 zk_32 ?_
    refine a_iconst F dX0_write_15 ki_5 ?_
    refine a_imul F dX0_write_16 ?_
    refine a_istoreN (L' := fun x6_1 => [some (.ref 32), some (.int p1), some (.int p2), some (.int p3), some (.int p4), some (.int p5), some (.int x6_1)]) F dX0_write_17 (lt_b rfl) (fun _ => rfl) (fun x6_1 => ?_)
    refine a_aload_n F dX0_write_19 rfl rfl ?_
    refine a_getR (k := 0) F cfX0 dX0_write_20 fl_X0_11 (by decide) fi_0_0 zl_32 zk_32 zr_32_0 ?_
    refine a_iload F dX0_write_23 rfl ?_
    refine a_iload_n F dX0_write_25 rfl rfl ?_
    refine a_gd (a_iast F dX0_write_26 zl_33 zk_33 ?_)
    refine a_nmS (fun S_2 => ?_)
    refine a_aload_n F dX0_write_27 rfl rfl ?_
    refine a_getR (k := 0) F cfX0 dX0_write_28 fl_X0_11 (by decide) fi_0_0 zl_32 zk_32 zr_32_0 ?_
    refine a_iload F dX0_write_31 rfl ?_
    refine a_iconst F dX0_write_33 ki_1 ?_
    refine a_iadd F dX0_write_34 ?_
    refine a_iload_n F dX0_write_35 rfl rfl ?_
    refine a_gd (a_iast F dX0_write_36 zl_33 zk_33 ?_)
    refine a_nmS (fun S_3 => ?_)
    refine a_aload_n F dX0_write_37 rfl rfl ?_
    refine a_getR (k := 0) F cfX0 dX0_write_38 fl_X0_11 (by decide) fi_0_0 zl_32 zk_32 zr_32_0 ?_
    refine a_iload F dX0_write_41 rfl ?_
    refine a_iconst F dX0_write_43 ki_2 ?_
    refine a_iadd F dX0_write_44 ?_
    refine a_iload_n F dX0_write_45 rfl rfl ?_
    refine a_gd (a_iast F dX0_write_46 zl_33 zk_33 ?_)
    refine a_nmS (fun S_4 => ?_)
    refine a_aload_n F dX0_write_47 rfl rfl ?_
    refine a_getR (k := 0) F cfX0 dX0_write_48 fl_X0_11 (by decide) fi_0_0 zl_32 zk_32 zr_32_0 ?_
    refine a_iload F dX0_write_51 rfl ?_
    refine a_iconst F dX0_write_53 ki_3 ?_
    refine a_iadd F dX0_write_54 ?_
    refine a_iload F dX0_write_55 rfl ?_
    refine a_gd (a_iast F dX0_write_57 zl_33 zk_33 ?_)
    refine a_nmS (fun S_5 => ?_)
    refine a_aload_n F dX0_write_58 rfl rfl ?_
    refine a_getR (k := 0) F cfX0 dX0_write_59 fl_X0_11 (by decide) fi_0_0 zl_32 zk_32 zr_32_0 ?_
    refine a_iload F dX0_write_62 rfl ?_
    refine a_iconst F dX0_write_64 ki_4 ?_
    refine a_iadd F dX0_write_65 ?_
    refine a_iload F dX0_write_66 rfl ?_
    refine a_gd (a_iast F dX0_write_68 zl_33 zk_33 ?_)
    refine a_nmS (fun S_6 => ?_)
    refine a_aload_n F dX0_write_69 rfl rfl ?_
    refine a_dup F dX0_write_70 rfl ?_
    refine a_getI (k := 1) F cfX0 dX0_write_71 fl_X0_15 (by decide) fi_0_1 zl_32 zk_32 ?_
    refine a_iconst F dX0_write_74 ki_1 ?_
    refine a_iadd F dX0_write_75 ?_
    refine a_putI (k := 1) F cfX0 dX0_write_76 fl_X0_15 (by decide) fi_0_1 rfl rfl zl_32 zk_32 ?_
    refine a_nmS (fun S_7 => ?_)
    exact a_vret F M0.2.2.1 M0.2.2.2 dX0_write_79
  · exact a_vret F M0.2.2.1 M0.2.2.2 dX0_write_10
theorem c_X0_write_32 (X : CX) (p1 p2 p3 p4 p5 : Int32) (S : Mm) : CtV X Z1 yX0_write cX0_write 7 1 [.ref 32, .int p1, .int p2, .int p3, .int p4, .int p5] S (f_X0_write_32 p1 p2 p3 p4 p5 S) :=
  ctV_of (by decide +kernel) rfl (Nat.le_of_ble_eq_true rfl) (by simp [Value.category]) z1len fun E F R hra hlk => b_X0_write_32 ⟨F, R, hra, hlk⟩ p1 p2 p3 p4 p5 S
def f_X1_pass_32_33 (r0 : Nat) (x1 x2 : Int32) (S : Mm) : Option Mm :=
  gd (inB x1 28 = true) <|
  nm (uM S (r0 + 10) (ix x1) x2) fun S_1 =>
  some S_1
set_option maxRecDepth 20000 in
theorem b_X1_pass_32_33 {X : CX} {E : FE} (M0 : MF X E RX1 cX1_pass 5 2 none) {r0 : Nat} (h0 : isClan r0) (x1 x2 : Int32) (S : Mm) : At X E false (mQv X Z1 E) 33 [some (.ref r0), some (.int x1), some (.int x2), none, none] [] Z1 S 0 0 (f_X1_pass_32_33 r0 x1 x2 S) := by
  have F := M0.1
  unfold f_X1_pass_32_33
  refine a_aload_n F dX1_pass_33 rfl rfl ?_
  refine a_getR (k := 14) F cfX1 dX1_pass_34 fl_X1_55 (by decide) fi_1_14 (zcl_0 h0) (zck_0 h0) (zcr_14 h0) ?_
  refine a_iload_n F dX1_pass_37 rfl rfl ?_
  refine a_iload_n F dX1_pass_38 rfl rfl ?_
  refine a_gd (a_iast F dX1_pass_39 (zcl_10 h0) (zck_10 h0) ?_)
  refine a_nmS (fun S_1 => ?_)
  exact a_vret F M0.2.2.1 M0.2.2.2 dX1_pass_40
def f_X1_pass_32 (r0 : Nat) (p1 p2 p3 : Int32) (S : Mm) : Option Mm :=
  gd (inB p1 28 = true) <|
  if (S (r0 + 10) (ix p1)) = p2 then (
   f_X1_pass_32_33 r0 p1 p2 S
  ) else (
   gd (inB p1 28 = true) <|
   (f_X0_write_32 p1 (S (r0 + 10) (ix p1)) p2 (S r0 1) p3 S).bind fun S_1 =>
   f_X1_pass_32_33 r0 p1 p2 S_1
  )
set_option maxRecDepth 20000 in
theorem b_X1_pass_32 {X : CX} {E : FE} (M0 : MF X E RX1 cX1_pass 5 2 none) {r0 : Nat} (h0 : isClan r0) (p1 p2 p3 : Int32) (S : Mm) : At X E false (mQv X Z1 E) 0 [some (.ref r0), some (.int p1), some (.int p2), some (.int p3), some (.ref 32)] [] Z1 S 0 0 (f_X1_pass_32 r0 p1 p2 p3 S) := by
  have F := M0.1
  unfold f_X1_pass_32
  refine a_aload F dX1_pass_0 rfl ?_
  refine a_ifnull F dX1_pass_2 ?_
  refine a_aload_n F dX1_pass_5 rfl rfl ?_
  refine a_getR (k := 14) F cfX1 dX1_pass_6 fl_X1_55 (by decide) fi_1_14 (zcl_0 h0) (zck_0 h0) (zcr_14 h0) ?_
  refine a_iload_n F dX1_pass_9 rfl rfl ?_
  refine a_gd (a_iald F dX1_pass_10 (zcl_10 h0) (zck_10 h0) ?_)
  refine a_iload_n F dX1_pass_11 rfl rfl ?_
  refine a_icmp_eq F 33 dX1_pass_12 (by decide) ?_ ?_
  · refine a_mask [true, true, true, false, false] (L' := [some (.ref r0), some (.int p1), some (.int p2), none, none]) rfl rfl ?_
    exact b_X1_pass_32_33 M0 h0 p1 p2 S
  · refine a_aload F dX1_pass_15 rfl ?_
    refine a_iload_n F dX1_pass_17 rfl rfl ?_
    refine a_aload_n F dX1_pass_18 rfl rfl ?_
    refine a_getR (k := 14) F cfX1 dX1_pass_19 fl_X1_55 (by decide) fi_1_14 (zcl_0 h0) (zck_0 h0) (zcr_14 h0) ?_
    refine a_iload_n F dX1_pass_22 rfl rfl ?_
    refine a_gd (a_iald F dX1_pass_23 (zcl_10 h0) (zck_10 h0) ?_)
    refine a_iload_n F dX1_pass_24 rfl rfl ?_
    refine a_aload_n F dX1_pass_25 rfl rfl ?_
    refine a_getI (k := 1) F cfX1 dX1_pass_26 fl_X1_15 (by decide) fi_1_1 (zcl_0 h0) (zck_0 h0) ?_
    refine a_iload_n F dX1_pass_29 rfl rfl ?_
    refine a_callVV F (As := [.int p1, .int (S (r0 + 10) (ix p1)), .int p2, .int (S r0 1), .int p3]) cfX0 rfl (c_X0_write_32 X p1 (S (r0 + 10) (ix p1)) p2 (S r0 1) p3 S) mw_X0_write ml_X1_101 im_X0_write se_X0_write M0.2.1 (Nat.le_of_ble_eq_true rfl) ⟨Nat.zero_le _, Nat.zero_le _⟩ rfl rfl (Nat.le_of_ble_eq_true rfl) zl_32 zk_32 dX1_pass_30 rfl (fun S_1 => ?_)
    refine a_mask [true, true, true, false, false] (L' := [some (.ref r0), some (.int p1), some (.int p2), none, none]) rfl rfl ?_
    exact b_X1_pass_32_33 M0 h0 p1 p2 S_1
theorem c_X1_pass_32 (X : CX) {r0 : Nat} (h0 : isClan r0) (p1 p2 p3 : Int32) (S : Mm) : CtV X Z1 yX1_pass cX1_pass 5 2 [.ref r0, .int p1, .int p2, .int p3, .ref 32] S (f_X1_pass_32 r0 p1 p2 p3 S) :=
  ctV_of (by decide +kernel) rfl (Nat.le_of_ble_eq_true rfl) (by simp [Value.category]) z1len fun E F R hra hlk => b_X1_pass_32 ⟨F, R, hra, hlk⟩ h0 p1 p2 p3 S
def f_X1_die_17_32_108 (k17 : Int32 → Int32 → Mm → Option Mm) (r0 : Nat) (x1 x4 : Int32) (S : Mm) : Option Mm :=
  nm (x4 + (1 : Int32)) fun x4_1 =>
  k17 x1 x4_1 S
set_option maxRecDepth 20000 in
theorem b_X1_die_17_32_108 {X : CX} {E : FE} (M0 : MF X E RX1 cX1_die 7 5 none) {r0 : Nat} (h0 : isClan r0) {k17 : Int32 → Int32 → Mm → Option Mm} (hk17 : ∀ (x1 x4 : Int32) (S : Mm), At X E false (mQv X Z1 E) 17 [some (.ref r0), some (.int x1), some (.ref 17), some (.ref 32), some (.int x4), none, none] [] Z1 S 0 0 (k17 x1 x4 S)) (x1 x4 : Int32) (S : Mm) : At X E false (mQv X Z1 E) 108 [some (.ref r0), some (.int x1), some (.ref 17), some (.ref 32), some (.int x4), none, none] [] Z1 S 0 0 (f_X1_die_17_32_108 k17 r0 x1 x4 S) := by
  have F := M0.1
  unfold f_X1_die_17_32_108
  refine a_iincN (L' := fun x4_1 => [some (.ref r0), some (.int x1), some (.ref 17), some (.ref 32), some (.int x4_1), none, none]) F dX1_die_108 rfl ki_1 (lt_b rfl) (fun _ => rfl) (fun x4_1 => ?_)
  refine a_goto F 17 dX1_die_111 (by decide) ?_
  exact hk17 x1 x4_1 S
def f_X1_die_17_32_91 (k17 : Int32 → Int32 → Mm → Option Mm) (r0 : Nat) (x1 x4 : Int32) (S : Mm) : Option Mm :=
  gd (inB x4 28 = true) <|
  if (S (r0 + 11) (ix x4)) = x1 then (
   (f_X1_endLoan r0 x4 S).bind fun S_1 =>
   f_X1_die_17_32_108 k17 r0 x1 x4 S_1
  ) else (
   f_X1_die_17_32_108 k17 r0 x1 x4 S
  )
set_option maxRecDepth 20000 in
theorem b_X1_die_17_32_91 {X : CX} {E : FE} (M0 : MF X E RX1 cX1_die 7 5 none) {r0 : Nat} (h0 : isClan r0) {k17 : Int32 → Int32 → Mm → Option Mm} (hk17 : ∀ (x1 x4 : Int32) (S : Mm), At X E false (mQv X Z1 E) 17 [some (.ref r0), some (.int x1), some (.ref 17), some (.ref 32), some (.int x4), none, none] [] Z1 S 0 0 (k17 x1 x4 S)) (x1 x4 : Int32) (S : Mm) : At X E false (mQv X Z1 E) 91 [some (.ref r0), some (.int x1), some (.ref 17), some (.ref 32), some (.int x4), none, none] [] Z1 S 0 0 (f_X1_die_17_32_91 k17 r0 x1 x4 S) := by
  have F := M0.1
  unfold f_X1_die_17_32_91
  refine a_aload_n F dX1_die_91 rfl rfl ?_
  refine a_getR (k := 15) F cfX1 dX1_die_92 fl_X1_58 (by decide) fi_1_15 (zcl_0 h0) (zck_0 h0) (zcr_15 h0) ?_
  refine a_iload F dX1_die_95 rfl ?_
  refine a_gd (a_iald F dX1_die_97 (zcl_11 h0) (zck_11 h0) ?_)
  refine a_iload_n F dX1_die_98 rfl rfl ?_
  refine a_icmp_ne F 108 dX1_die_99 (by decide) ?_ ?_
  · refine a_aload_n F dX1_die_102 rfl rfl ?_
    refine a_iload F dX1_die_103 rfl ?_
    refine a_callVV F (As := [.int x4]) cfX1 rfl (c_X1_endLoan X h0 x4 S) mw_X1_endLoan ml_X1_109 im_X1_endLoan se_X1_endLoan M0.2.1 (Nat.le_of_ble_eq_true rfl) ⟨Nat.zero_le _, Nat.zero_le _⟩ rfl rfl (Nat.le_of_ble_eq_true rfl) (zcl_0 h0) (zck_0 h0) dX1_die_105 rfl (fun S_1 => ?_)
    exact b_X1_die_17_32_108 M0 h0 hk17 x1 x4 S_1
  · exact b_X1_die_17_32_108 M0 h0 hk17 x1 x4 S
def f_X1_die_17_32_80 (k17 : Int32 → Int32 → Mm → Option Mm) (r0 : Nat) (x1 x4 x5 x6 : Int32) (S : Mm) : Option Mm :=
  (f_X1_pass_32 r0 x4 x5 x6 S).bind fun S_1 =>
  f_X1_die_17_32_91 k17 r0 x1 x4 S_1
set_option maxRecDepth 20000 in
theorem b_X1_die_17_32_80 {X : CX} {E : FE} (M0 : MF X E RX1 cX1_die 7 5 none) {r0 : Nat} (h0 : isClan r0) {k17 : Int32 → Int32 → Mm → Option Mm} (hk17 : ∀ (x1 x4 : Int32) (S : Mm), At X E false (mQv X Z1 E) 17 [some (.ref r0), some (.int x1), some (.ref 17), some (.ref 32), some (.int x4), none, none] [] Z1 S 0 0 (k17 x1 x4 S)) (x1 x4 x5 x6 : Int32) (S : Mm) : At X E false (mQv X Z1 E) 80 [some (.ref r0), some (.int x1), some (.ref 17), some (.ref 32), some (.int x4), some (.int x5), some (.int x6)] [] Z1 S 0 0 (f_X1_die_17_32_80 k17 r0 x1 x4 x5 x6 S) := by
  have F := M0.1
  unfold f_X1_die_17_32_80
  refine a_aload_n F dX1_die_80 rfl rfl ?_
  refine a_iload F dX1_die_81 rfl ?_
  refine a_iload F dX1_die_83 rfl ?_
  refine a_iload F dX1_die_85 rfl ?_
  refine a_aload_n F dX1_die_87 rfl rfl ?_
  refine a_callVV F (As := [.int x4, .int x5, .int x6, .ref 32]) cfX1 rfl (c_X1_pass_32 X h0 x4 x5 x6 S) mw_X1_pass ml_X1_137 im_X1_pass se_X1_pass M0.2.1 (Nat.le_of_ble_eq_true rfl) ⟨Nat.zero_le _, Nat.zero_le _⟩ rfl rfl (Nat.le_of_ble_eq_true rfl) (zcl_0 h0) (zck_0 h0) dX1_die_88 rfl (fun S_1 => ?_)
  refine a_mask [true, true, true, true, true, false, false] (L' := [some (.ref r0), some (.int x1), some (.ref 17), some (.ref 32), some (.int x4), none, none]) rfl rfl ?_
  exact b_X1_die_17_32_91 M0 h0 hk17 x1 x4 S_1
def f_X1_die_17_32_59 (k17 : Int32 → Int32 → Mm → Option Mm) (r0 : Nat) (x1 x4 x5 t0 : Int32) (S : Mm) : Option Mm :=
  if x5 = (-1 : Int32) then (
   (f_X3_heirOf_18 r0 x1 x4 S).bind fun q_1 =>
   f_X1_die_17_32_80 k17 r0 x1 x4 q_1.1 t0 q_1.2
  ) else (
   f_X1_die_17_32_80 k17 r0 x1 x4 x5 t0 S
  )
set_option maxRecDepth 20000 in
theorem b_X1_die_17_32_59 {X : CX} {E : FE} (M0 : MF X E RX1 cX1_die 7 5 none) {r0 : Nat} (h0 : isClan r0) {k17 : Int32 → Int32 → Mm → Option Mm} (hk17 : ∀ (x1 x4 : Int32) (S : Mm), At X E false (mQv X Z1 E) 17 [some (.ref r0), some (.int x1), some (.ref 17), some (.ref 32), some (.int x4), none, none] [] Z1 S 0 0 (k17 x1 x4 S)) (x1 x4 x5 t0 : Int32) (S : Mm) : At X E false (mQv X Z1 E) 59 [some (.ref r0), some (.int x1), some (.ref 17), some (.ref 32), some (.int x4), some (.int x5), none] [.int t0] Z1 S 0 0 (f_X1_die_17_32_59 k17 r0 x1 x4 x5 t0 S) := by
  have F := M0.1
  unfold f_X1_die_17_32_59
  refine a_istore (L' := [some (.ref r0), some (.int x1), some (.ref 17), some (.ref 32), some (.int x4), some (.int x5), some (.int t0)]) F dX1_die_59 (lt_b rfl) rfl ?_
  refine a_iload F dX1_die_61 rfl ?_
  refine a_iconst F dX1_die_63 ki_m1 ?_
  refine a_icmp_ne F 80 dX1_die_64 (by decide) ?_ ?_
  · refine a_aload_n F dX1_die_67 rfl rfl ?_
    refine a_getR (k := 0) F cfX6 dX1_die_68 fl_X1_127 (by decide) fi_6_0 zl_17 zk_17 zr_17_0 ?_
    refine a_aload_n F dX1_die_71 rfl rfl ?_
    refine a_iload_n F dX1_die_72 rfl rfl ?_
    refine a_iload F dX1_die_73 rfl ?_
    refine a_callVI F (As := [.ref r0, .int x1, .int x4]) cfX3 rfl (c_X3_heirOf_18 X h0 x1 x4 S) mw_X3_heirOf ml_X1_131 im_X3_heirOf se_X3_heirOf M0.2.1 (Nat.le_of_ble_eq_true rfl) ⟨Nat.zero_le _, Nat.zero_le _⟩ rfl rfl (Nat.le_of_ble_eq_true rfl) zl_18 zk_18 dX1_die_75 rfl (fun q_1 => ?_)
    refine a_istore (L' := [some (.ref r0), some (.int x1), some (.ref 17), some (.ref 32), some (.int x4), some (.int q_1.1), some (.int t0)]) F dX1_die_78 (lt_b rfl) rfl ?_
    exact b_X1_die_17_32_80 M0 h0 hk17 x1 x4 q_1.1 t0 q_1.2
  · exact b_X1_die_17_32_80 M0 h0 hk17 x1 x4 x5 t0 S
def f_X1_die_17_32_17b (k17 : Int32 → Int32 → Mm → Option Mm) (r0 : Nat) (x1 x4 : Int32) (S : Mm) : Option Mm :=
  if (28 : Int32) ≤ x4 then (
   gd (inB x1 12 = true) <|
   if (S (r0 + 8) (ix x1)) = (-1 : Int32) then (
    some S
   ) else (
    gd (inB x1 12 = true) <|
    gd (inB (S (r0 + 8) (ix x1)) 12 = true) <|
    nm (uM S (r0 + 8) (ix (S (r0 + 8) (ix x1))) (-1 : Int32)) fun S_1 =>
    some S_1
   )
  ) else (
   gd (inB x4 28 = true) <|
   if (S (r0 + 10) (ix x4)) = x1 then (
    (f_X6_heirByWill_17 x1 x4 (S r0 4) S).bind fun q_2 =>
    if q_2.1 = (-1 : Int32) then (
     f_X1_die_17_32_59 k17 r0 x1 x4 q_2.1 (4 : Int32) q_2.2
    ) else (
     f_X1_die_17_32_59 k17 r0 x1 x4 q_2.1 (3 : Int32) q_2.2
    )
   ) else (
    f_X1_die_17_32_91 k17 r0 x1 x4 S
   )
  )
set_option maxRecDepth 20000 in
theorem b_X1_die_17_32_17b {X : CX} {E : FE} (M0 : MF X E RX1 cX1_die 7 5 none) {r0 : Nat} (h0 : isClan r0) {k17 : Int32 → Int32 → Mm → Option Mm} (hk17 : ∀ (x1 x4 : Int32) (S : Mm), At X E false (mQv X Z1 E) 17 [some (.ref r0), some (.int x1), some (.ref 17), some (.ref 32), some (.int x4), none, none] [] Z1 S 0 0 (k17 x1 x4 S)) (x1 x4 : Int32) (S : Mm) : At X E false (mQv X Z1 E) 17 [some (.ref r0), some (.int x1), some (.ref 17), some (.ref 32), some (.int x4), none, none] [] Z1 S 0 0 (f_X1_die_17_32_17b k17 r0 x1 x4 S) := by
  have F := M0.1
  unfold f_X1_die_17_32_17b
  refine a_iload F dX1_die_17 rfl ?_
  refine a_bipush F dX1_die_19 kb_28 ?_
  refine a_icmp_ge F 114 dX1_die_21 (by decide) ?_ ?_
  · refine a_aload_n F dX1_die_114 rfl rfl ?_
    refine a_getR (k := 12) F cfX1 dX1_die_115 fl_X1_49 (by decide) fi_1_12 (zcl_0 h0) (zck_0 h0) (zcr_12 h0) ?_
    refine a_iload_n F dX1_die_118 rfl rfl ?_
    refine a_gd (a_iald F dX1_die_119 (zcl_8 h0) (zck_8 h0) ?_)
    refine a_iconst F dX1_die_120 ki_m1 ?_
    refine a_icmp_eq F 136 dX1_die_121 (by decide) ?_ ?_
    · exact a_vret F M0.2.2.1 M0.2.2.2 dX1_die_136
    · refine a_aload_n F dX1_die_124 rfl rfl ?_
      refine a_getR (k := 12) F cfX1 dX1_die_125 fl_X1_49 (by decide) fi_1_12 (zcl_0 h0) (zck_0 h0) (zcr_12 h0) ?_
      refine a_aload_n F dX1_die_128 rfl rfl ?_
      refine a_getR (k := 12) F cfX1 dX1_die_129 fl_X1_49 (by decide) fi_1_12 (zcl_0 h0) (zck_0 h0) (zcr_12 h0) ?_
      refine a_iload_n F dX1_die_132 rfl rfl ?_
      refine a_gd (a_iald F dX1_die_133 (zcl_8 h0) (zck_8 h0) ?_)
      refine a_iconst F dX1_die_134 ki_m1 ?_
      refine a_gd (a_iast F dX1_die_135 (zcl_8 h0) (zck_8 h0) ?_)
      refine a_nmS (fun S_1 => ?_)
      exact a_vret F M0.2.2.1 M0.2.2.2 dX1_die_136
  · refine a_aload_n F dX1_die_24 rfl rfl ?_
    refine a_getR (k := 14) F cfX1 dX1_die_25 fl_X1_55 (by decide) fi_1_14 (zcl_0 h0) (zck_0 h0) (zcr_14 h0) ?_
    refine a_iload F dX1_die_28 rfl ?_
    refine a_gd (a_iald F dX1_die_30 (zcl_10 h0) (zck_10 h0) ?_)
    refine a_iload_n F dX1_die_31 rfl rfl ?_
    refine a_icmp_ne F 91 dX1_die_32 (by decide) ?_ ?_
    · refine a_aload_n F dX1_die_35 rfl rfl ?_
      refine a_iload_n F dX1_die_36 rfl rfl ?_
      refine a_iload F dX1_die_37 rfl ?_
      refine a_aload_n F dX1_die_39 rfl rfl ?_
      refine a_getI (k := 4) F cfX1 dX1_die_40 fl_X1_24 (by decide) fi_1_4 (zcl_0 h0) (zck_0 h0) ?_
      refine a_callVI F (As := [.int x1, .int x4, .int (S r0 4)]) cfX6 rfl (c_X6_heirByWill_17 X x1 x4 (S r0 4) S) mw_X6_heirByWill ml_X1_121 im_X6_heirByWill se_X6_heirByWill M0.2.1 (Nat.le_of_ble_eq_true rfl) ⟨Nat.zero_le _, Nat.zero_le _⟩ rfl rfl (Nat.le_of_ble_eq_true rfl) zl_17 zk_17 dX1_die_43 rfl (fun q_2 => ?_)
      refine a_istore (L' := [some (.ref r0), some (.int x1), some (.ref 17), some (.ref 32), some (.int x4), some (.int q_2.1), none]) F dX1_die_46 (lt_b rfl) rfl ?_
      refine a_iload F dX1_die_48 rfl ?_
      refine a_iconst F dX1_die_50 ki_m1 ?_
      refine a_icmp_ne F 58 dX1_die_51 (by decide) ?_ ?_
      · refine a_iconst F dX1_die_54 ki_4 ?_
        refine a_goto F 59 dX1_die_55 (by decide) ?_
        exact b_X1_die_17_32_59 M0 h0 hk17 x1 x4 q_2.1 (4 : Int32) q_2.2
      · refine a_iconst F dX1_die_58 ki_3 ?_
        exact b_X1_die_17_32_59 M0 h0 hk17 x1 x4 q_2.1 (3 : Int32) q_2.2
    · exact b_X1_die_17_32_91 M0 h0 hk17 x1 x4 S
def f_X1_die_17_32_17 (r0 : Nat) : Nat → Int32 → Int32 → Mm → Option Mm :=
  itr (fun _ _ _ => none) (fun k => f_X1_die_17_32_17b k r0)
theorem b_X1_die_17_32_17 {X : CX} {E : FE} (M0 : MF X E RX1 cX1_die 7 5 none) {r0 : Nat} (h0 : isClan r0) : ∀ (n : Nat) (x1 x4 : Int32) (S : Mm), At X E false (mQv X Z1 E) 17 [some (.ref r0), some (.int x1), some (.ref 17), some (.ref 32), some (.int x4), none, none] [] Z1 S 0 0 (f_X1_die_17_32_17 r0 n x1 x4 S) := by
  intro n
  induction n with
  | zero => intros; exact a_none
  | succ n ih => intro x1 x4 S; exact b_X1_die_17_32_17b M0 h0 ih x1 x4 S
def f_X1_die_17_32 (r0 : Nat) (p1 : Int32) (S : Mm) : Option Mm :=
  nm (uM S r0 4 ((S r0 4) &&& ((shl (1 : Int32) p1) ^^^ (-1 : Int32)))) fun S_1 =>
  f_X1_die_17_32_17 r0 FU p1 (0 : Int32) S_1
set_option maxRecDepth 20000 in
theorem b_X1_die_17_32 {X : CX} {E : FE} (M0 : MF X E RX1 cX1_die 7 5 none) {r0 : Nat} (h0 : isClan r0) (p1 : Int32) (S : Mm) : At X E false (mQv X Z1 E) 0 [some (.ref r0), some (.int p1), some (.ref 17), some (.ref 32), none, none, none] [] Z1 S 0 0 (f_X1_die_17_32 r0 p1 S) := by
  have F := M0.1
  unfold f_X1_die_17_32
  refine a_aload_n F dX1_die_0 rfl rfl ?_
  refine a_dup F dX1_die_1 rfl ?_
  refine a_getI (k := 4) F cfX1 dX1_die_2 fl_X1_24 (by decide) fi_1_4 (zcl_0 h0) (zck_0 h0) ?_
  refine a_iconst F dX1_die_5 ki_1 ?_
  refine a_iload_n F dX1_die_6 rfl rfl ?_
  refine a_ishl F dX1_die_7 ?_
  refine a_iconst F dX1_die_8 ki_m1 ?_
  refine a_ixor F dX1_die_9 ?_
  refine a_iand F dX1_die_10 ?_
  refine a_putI (k := 4) F cfX1 dX1_die_11 fl_X1_24 (by decide) fi_1_4 rfl rfl (zcl_0 h0) (zck_0 h0) ?_
  refine a_nmS (fun S_1 => ?_)
  refine a_iconst F dX1_die_14 ki_0 ?_
  refine a_istore (L' := [some (.ref r0), some (.int p1), some (.ref 17), some (.ref 32), some (.int (0 : Int32)), none, none]) F dX1_die_15 (lt_b rfl) rfl ?_
  exact b_X1_die_17_32_17 M0 h0 FU p1 (0 : Int32) S_1
theorem c_X1_die_17_32 (X : CX) {r0 : Nat} (h0 : isClan r0) (p1 : Int32) (S : Mm) : CtV X Z1 yX1_die cX1_die 7 5 [.ref r0, .int p1, .ref 17, .ref 32] S (f_X1_die_17_32 r0 p1 S) :=
  ctV_of (by decide +kernel) rfl (Nat.le_of_ble_eq_true rfl) (by simp [Value.category]) z1len fun E F R hra hlk => b_X1_die_17_32 ⟨F, R, hra, hlk⟩ h0 p1 S
def f_X1_endDay_17_32_178 (k63 : Int32 → Int32 → Int32 → Mm → Option (Int32 × Mm)) (r0 : Nat) (x3 x4 x5 : Int32) (S : Mm) : Option (Int32 × Mm) :=
  nm (x5 + (1 : Int32)) fun x5_1 =>
  k63 x3 x4 x5_1 S
set_option maxRecDepth 20000 in
theorem b_X1_endDay_17_32_178 {X : CX} {E : FE} (M0 : MF X E RX1 cX1_endDay 7 6 (some .int)) {r0 : Nat} (h0 : isClan r0) {k63 : Int32 → Int32 → Int32 → Mm → Option (Int32 × Mm)} (hk63 : ∀ (x3 x4 x5 : Int32) (S : Mm), At X E false (mQi X Z1 E) 63 [some (.ref r0), some (.ref 17), some (.ref 32), some (.int x3), some (.int x4), some (.int x5), none] [] Z1 S 0 0 (k63 x3 x4 x5 S)) (x3 x4 x5 : Int32) (S : Mm) : At X E false (mQi X Z1 E) 178 [some (.ref r0), some (.ref 17), some (.ref 32), some (.int x3), some (.int x4), some (.int x5), none] [] Z1 S 0 0 (f_X1_endDay_17_32_178 k63 r0 x3 x4 x5 S) := by
  have F := M0.1
  unfold f_X1_endDay_17_32_178
  refine a_iincN (L' := fun x5_1 => [some (.ref r0), some (.ref 17), some (.ref 32), some (.int x3), some (.int x4), some (.int x5_1), none]) F dX1_endDay_178 rfl ki_1 (lt_b rfl) (fun _ => rfl) (fun x5_1 => ?_)
  refine a_goto F 63 dX1_endDay_181 (by decide) ?_
  exact hk63 x3 x4 x5_1 S
def f_X1_endDay_17_32_148 (k63 : Int32 → Int32 → Int32 → Mm → Option (Int32 × Mm)) (r0 : Nat) (x3 x4 x5 x6 : Int32) (S : Mm) : Option (Int32 × Mm) :=
  if x6 = 0 then (
   f_X1_endDay_17_32_178 k63 r0 x3 x4 x5 S
  ) else (
   gd (inB x5 12 = true) <|
   nm (uM S (r0 + 4) (ix x5) (S r0 1)) fun S_1 =>
   (f_X1_die_17_32 r0 x5 S_1).bind fun S_2 =>
   nm (x4 + (1 : Int32)) fun x4_3 =>
   f_X1_endDay_17_32_178 k63 r0 x3 x4_3 x5 S_2
  )
set_option maxRecDepth 20000 in
theorem b_X1_endDay_17_32_148 {X : CX} {E : FE} (M0 : MF X E RX1 cX1_endDay 7 6 (some .int)) {r0 : Nat} (h0 : isClan r0) {k63 : Int32 → Int32 → Int32 → Mm → Option (Int32 × Mm)} (hk63 : ∀ (x3 x4 x5 : Int32) (S : Mm), At X E false (mQi X Z1 E) 63 [some (.ref r0), some (.ref 17), some (.ref 32), some (.int x3), some (.int x4), some (.int x5), none] [] Z1 S 0 0 (k63 x3 x4 x5 S)) (x3 x4 x5 x6 : Int32) (S : Mm) : At X E false (mQi X Z1 E) 148 [some (.ref r0), some (.ref 17), some (.ref 32), some (.int x3), some (.int x4), some (.int x5), some (.int x6)] [] Z1 S 0 0 (f_X1_endDay_17_32_148 k63 r0 x3 x4 x5 x6 S) := by
  have F := M0.1
  unfold f_X1_endDay_17_32_148
  refine a_iload F dX1_endDay_148 rfl ?_
  refine a_if_ne F 156 dX1_endDay_150 (by decide) ?_ ?_
  · refine a_goto F 178 dX1_endDay_153 (by decide) ?_
    refine a_mask [true, true, true, true, true, true, false] (L' := [some (.ref r0), some (.ref 17), some (.ref 32), some (.int x3), some (.int x4), some (.int x5), none]) rfl rfl ?_
    exact b_X1_endDay_17_32_178 M0 h0 hk63 x3 x4 x5 S
  · refine a_aload_n F dX1_endDay_156 rfl rfl ?_
    refine a_getR (k := 8) F cfX1 dX1_endDay_157 fl_X1_37 (by decide) fi_1_8 (zcl_0 h0) (zck_0 h0) (zcr_8 h0) ?_
    refine a_iload F dX1_endDay_160 rfl ?_
    refine a_aload_n F dX1_endDay_162 rfl rfl ?_
    refine a_getI (k := 1) F cfX1 dX1_endDay_163 fl_X1_15 (by decide) fi_1_1 (zcl_0 h0) (zck_0 h0) ?_
    refine a_gd (a_iast F dX1_endDay_166 (zcl_4 h0) (zck_4 h0) ?_)
    refine a_nmS (fun S_1 => ?_)
    refine a_aload_n F dX1_endDay_167 rfl rfl ?_
    refine a_iload F dX1_endDay_168 rfl ?_
    refine a_aload_n F dX1_endDay_170 rfl rfl ?_
    refine a_aload_n F dX1_endDay_171 rfl rfl ?_
    refine a_callVV F (As := [.int x5, .ref 17, .ref 32]) cfX1 rfl (c_X1_die_17_32 X h0 x5 S_1) mw_X1_die ml_X1_117 im_X1_die se_X1_die M0.2.1 (Nat.le_of_ble_eq_true rfl) ⟨Nat.zero_le _, Nat.zero_le _⟩ rfl rfl (Nat.le_of_ble_eq_true rfl) (zcl_0 h0) (zck_0 h0) dX1_endDay_172 rfl (fun S_2 => ?_)
    refine a_iincN (L' := fun x4_3 => [some (.ref r0), some (.ref 17), some (.ref 32), some (.int x3), some (.int x4_3), some (.int x5), some (.int x6)]) F dX1_endDay_175 rfl ki_1 (lt_b rfl) (fun _ => rfl) (fun x4_3 => ?_)
    refine a_mask [true, true, true, true, true, true, false] (L' := [some (.ref r0), some (.ref 17), some (.ref 32), some (.int x3), some (.int x4_3), some (.int x5), none]) rfl rfl ?_
    exact b_X1_endDay_17_32_178 M0 h0 hk63 x3 x4_3 x5 S_2
def f_X1_endDay_17_32_146 (k63 : Int32 → Int32 → Int32 → Mm → Option (Int32 × Mm)) (r0 : Nat) (x3 x4 x5 t0 : Int32) (S : Mm) : Option (Int32 × Mm) :=
  f_X1_endDay_17_32_148 k63 r0 x3 x4 x5 t0 S
set_option maxRecDepth 20000 in
theorem b_X1_endDay_17_32_146 {X : CX} {E : FE} (M0 : MF X E RX1 cX1_endDay 7 6 (some .int)) {r0 : Nat} (h0 : isClan r0) {k63 : Int32 → Int32 → Int32 → Mm → Option (Int32 × Mm)} (hk63 : ∀ (x3 x4 x5 : Int32) (S : Mm), At X E false (mQi X Z1 E) 63 [some (.ref r0), some (.ref 17), some (.ref 32), some (.int x3), some (.int x4), some (.int x5), none] [] Z1 S 0 0 (k63 x3 x4 x5 S)) (x3 x4 x5 t0 : Int32) (S : Mm) : At X E false (mQi X Z1 E) 146 [some (.ref r0), some (.ref 17), some (.ref 32), some (.int x3), some (.int x4), some (.int x5), none] [.int t0] Z1 S 0 0 (f_X1_endDay_17_32_146 k63 r0 x3 x4 x5 t0 S) := by
  have F := M0.1
  unfold f_X1_endDay_17_32_146
  refine a_istore (L' := [some (.ref r0), some (.ref 17), some (.ref 32), some (.int x3), some (.int x4), some (.int x5), some (.int t0)]) F dX1_endDay_146 (lt_b rfl) rfl ?_
  exact b_X1_endDay_17_32_148 M0 h0 hk63 x3 x4 x5 t0 S
def f_X1_endDay_17_32_103 (k63 : Int32 → Int32 → Int32 → Mm → Option (Int32 × Mm)) (r0 : Nat) (x3 x4 x5 t0 : Int32) (S : Mm) : Option (Int32 × Mm) :=
  if t0 = 0 then (
   if x3 = 0 then (
    f_X1_endDay_17_32_148 k63 r0 x3 x4 x5 t0 S
   ) else (
    gd (inB x5 12 = true) <|
    if (S (r0 + 5) (ix x5)) ≤ 0 then (
     f_X1_endDay_17_32_148 k63 r0 x3 x4 x5 t0 S
    ) else (
     (f_X1_draw r0 (10000 : Int32) S).bind fun q_1 =>
     gd (inB x5 12 = true) <|
     if (q_1.2 (r0 + 5) (ix x5)) ≤ q_1.1 then (
      f_X1_endDay_17_32_146 k63 r0 x3 x4 x5 (0 : Int32) q_1.2
     ) else (
      f_X1_endDay_17_32_146 k63 r0 x3 x4 x5 (1 : Int32) q_1.2
     )
    )
   )
  ) else (
   f_X1_endDay_17_32_148 k63 r0 x3 x4 x5 t0 S
  )
set_option maxRecDepth 20000 in
theorem b_X1_endDay_17_32_103 {X : CX} {E : FE} (M0 : MF X E RX1 cX1_endDay 7 6 (some .int)) {r0 : Nat} (h0 : isClan r0) {k63 : Int32 → Int32 → Int32 → Mm → Option (Int32 × Mm)} (hk63 : ∀ (x3 x4 x5 : Int32) (S : Mm), At X E false (mQi X Z1 E) 63 [some (.ref r0), some (.ref 17), some (.ref 32), some (.int x3), some (.int x4), some (.int x5), none] [] Z1 S 0 0 (k63 x3 x4 x5 S)) (x3 x4 x5 t0 : Int32) (S : Mm) : At X E false (mQi X Z1 E) 103 [some (.ref r0), some (.ref 17), some (.ref 32), some (.int x3), some (.int x4), some (.int x5), none] [.int t0] Z1 S 0 0 (f_X1_endDay_17_32_103 k63 r0 x3 x4 x5 t0 S) := by
  have F := M0.1
  unfold f_X1_endDay_17_32_103
  refine a_istore (L' := [some (.ref r0), some (.ref 17), some (.ref 32), some (.int x3), some (.int x4), some (.int x5), some (.int t0)]) F dX1_endDay_103 (lt_b rfl) rfl ?_
  refine a_iload F dX1_endDay_105 rfl ?_
  refine a_if_ne F 148 dX1_endDay_107 (by decide) ?_ ?_
  · refine a_iload_n F dX1_endDay_110 rfl rfl ?_
    refine a_if_eq F 148 dX1_endDay_111 (by decide) ?_ ?_
    · exact b_X1_endDay_17_32_148 M0 h0 hk63 x3 x4 x5 t0 S
    · refine a_aload_n F dX1_endDay_114 rfl rfl ?_
      refine a_getR (k := 9) F cfX1 dX1_endDay_115 fl_X1_40 (by decide) fi_1_9 (zcl_0 h0) (zck_0 h0) (zcr_9 h0) ?_
      refine a_iload F dX1_endDay_118 rfl ?_
      refine a_gd (a_iald F dX1_endDay_120 (zcl_5 h0) (zck_5 h0) ?_)
      refine a_if_le F 148 dX1_endDay_121 (by decide) ?_ ?_
      · exact b_X1_endDay_17_32_148 M0 h0 hk63 x3 x4 x5 t0 S
      · refine a_aload_n F dX1_endDay_124 rfl rfl ?_
        refine a_sipush F dX1_endDay_125 ks_10000 ?_
        refine a_callVI F (As := [.int (10000 : Int32)]) cfX1 rfl (c_X1_draw X h0 (10000 : Int32) S) mw_X1_draw ml_X1_113 im_X1_draw se_X1_draw M0.2.1 (Nat.le_of_ble_eq_true rfl) ⟨Nat.zero_le _, Nat.zero_le _⟩ rfl rfl (Nat.le_of_ble_eq_true rfl) (zcl_0 h0) (zck_0 h0) dX1_endDay_128 rfl (fun q_1 => ?_)
        refine a_aload_n F dX1_endDay_131 rfl rfl ?_
        refine a_getR (k := 9) F cfX1 dX1_endDay_132 fl_X1_40 (by decide) fi_1_9 (zcl_0 h0) (zck_0 h0) (zcr_9 h0) ?_
        refine a_iload F dX1_endDay_135 rfl ?_
        refine a_gd (a_iald F dX1_endDay_137 (zcl_5 h0) (zck_5 h0) ?_)
        refine a_icmp_ge F 145 dX1_endDay_138 (by decide) ?_ ?_
        · refine a_iconst F dX1_endDay_145 ki_0 ?_
          refine a_mask [true, true, true, true, true, true, false] (L' := [some (.ref r0), some (.ref 17), some (.ref 32), some (.int x3), some (.int x4), some (.int x5), none]) rfl rfl ?_
          exact b_X1_endDay_17_32_146 M0 h0 hk63 x3 x4 x5 (0 : Int32) q_1.2
        · refine a_iconst F dX1_endDay_141 ki_1 ?_
          refine a_goto F 146 dX1_endDay_142 (by decide) ?_
          refine a_mask [true, true, true, true, true, true, false] (L' := [some (.ref r0), some (.ref 17), some (.ref 32), some (.int x3), some (.int x4), some (.int x5), none]) rfl rfl ?_
          exact b_X1_endDay_17_32_146 M0 h0 hk63 x3 x4 x5 (1 : Int32) q_1.2
  · exact b_X1_endDay_17_32_148 M0 h0 hk63 x3 x4 x5 t0 S
def f_X1_endDay_17_32_63b (k63 : Int32 → Int32 → Int32 → Mm → Option (Int32 × Mm)) (r0 : Nat) (x3 x4 x5 : Int32) (S : Mm) : Option (Int32 × Mm) :=
  if (S r0 3) ≤ x5 then (
   some (x4, S)
  ) else (
   (f_X1_lives r0 x5 S).bind fun q_1 =>
   if q_1.1 = 0 then (
    f_X1_endDay_17_32_178 k63 r0 x3 x4 x5 q_1.2
   ) else (
    gd (inB x5 12 = true) <|
    if (q_1.2 (r0 + 4) (ix x5)) = (q_1.2 r0 1) then (
     f_X1_endDay_17_32_103 k63 r0 x3 x4 x5 (1 : Int32) q_1.2
    ) else (
     f_X1_endDay_17_32_103 k63 r0 x3 x4 x5 (0 : Int32) q_1.2
    )
   )
  )
set_option maxRecDepth 20000 in
theorem b_X1_endDay_17_32_63b {X : CX} {E : FE} (M0 : MF X E RX1 cX1_endDay 7 6 (some .int)) {r0 : Nat} (h0 : isClan r0) {k63 : Int32 → Int32 → Int32 → Mm → Option (Int32 × Mm)} (hk63 : ∀ (x3 x4 x5 : Int32) (S : Mm), At X E false (mQi X Z1 E) 63 [some (.ref r0), some (.ref 17), some (.ref 32), some (.int x3), some (.int x4), some (.int x5), none] [] Z1 S 0 0 (k63 x3 x4 x5 S)) (x3 x4 x5 : Int32) (S : Mm) : At X E false (mQi X Z1 E) 63 [some (.ref r0), some (.ref 17), some (.ref 32), some (.int x3), some (.int x4), some (.int x5), none] [] Z1 S 0 0 (f_X1_endDay_17_32_63b k63 r0 x3 x4 x5 S) := by
  have F := M0.1
  unfold f_X1_endDay_17_32_63b
  refine a_iload F dX1_endDay_63 rfl ?_
  refine a_aload_n F dX1_endDay_65 rfl rfl ?_
  refine a_getI (k := 3) F cfX1 dX1_endDay_66 fl_X1_21 (by decide) fi_1_3 (zcl_0 h0) (zck_0 h0) ?_
  refine a_icmp_ge F 184 dX1_endDay_69 (by decide) ?_ ?_
  · refine a_iload F dX1_endDay_184 rfl ?_
    exact a_iret F M0.2.2.1 M0.2.2.2 dX1_endDay_186
  · refine a_aload_n F dX1_endDay_72 rfl rfl ?_
    refine a_iload F dX1_endDay_73 rfl ?_
    refine a_callVI F (As := [.int x5]) cfX1 rfl (c_X1_lives X h0 x5 S) mw_X1_lives ml_X1_87 im_X1_lives se_X1_lives M0.2.1 (Nat.le_of_ble_eq_true rfl) ⟨Nat.zero_le _, Nat.zero_le _⟩ rfl rfl (Nat.le_of_ble_eq_true rfl) (zcl_0 h0) (zck_0 h0) dX1_endDay_75 rfl (fun q_1 => ?_)
    refine a_if_ne F 84 dX1_endDay_78 (by decide) ?_ ?_
    · refine a_goto F 178 dX1_endDay_81 (by decide) ?_
      exact b_X1_endDay_17_32_178 M0 h0 hk63 x3 x4 x5 q_1.2
    · refine a_aload_n F dX1_endDay_84 rfl rfl ?_
      refine a_getR (k := 8) F cfX1 dX1_endDay_85 fl_X1_37 (by decide) fi_1_8 (zcl_0 h0) (zck_0 h0) (zcr_8 h0) ?_
      refine a_iload F dX1_endDay_88 rfl ?_
      refine a_gd (a_iald F dX1_endDay_90 (zcl_4 h0) (zck_4 h0) ?_)
      refine a_aload_n F dX1_endDay_91 rfl rfl ?_
      refine a_getI (k := 1) F cfX1 dX1_endDay_92 fl_X1_15 (by decide) fi_1_1 (zcl_0 h0) (zck_0 h0) ?_
      refine a_icmp_ne F 102 dX1_endDay_95 (by decide) ?_ ?_
      · refine a_iconst F dX1_endDay_98 ki_1 ?_
        refine a_goto F 103 dX1_endDay_99 (by decide) ?_
        exact b_X1_endDay_17_32_103 M0 h0 hk63 x3 x4 x5 (1 : Int32) q_1.2
      · refine a_iconst F dX1_endDay_102 ki_0 ?_
        exact b_X1_endDay_17_32_103 M0 h0 hk63 x3 x4 x5 (0 : Int32) q_1.2
def f_X1_endDay_17_32_63 (r0 : Nat) : Nat → Int32 → Int32 → Int32 → Mm → Option (Int32 × Mm) :=
  itr (fun _ _ _ _ => none) (fun k => f_X1_endDay_17_32_63b k r0)
theorem b_X1_endDay_17_32_63 {X : CX} {E : FE} (M0 : MF X E RX1 cX1_endDay 7 6 (some .int)) {r0 : Nat} (h0 : isClan r0) : ∀ (n : Nat) (x3 x4 x5 : Int32) (S : Mm), At X E false (mQi X Z1 E) 63 [some (.ref r0), some (.ref 17), some (.ref 32), some (.int x3), some (.int x4), some (.int x5), none] [] Z1 S 0 0 (f_X1_endDay_17_32_63 r0 n x3 x4 x5 S) := by
  intro n
  induction n with
  | zero => intros; exact a_none
  | succ n ih => intro x3 x4 x5 S; exact b_X1_endDay_17_32_63b M0 h0 ih x3 x4 x5 S
def f_X1_endDay_17_32_51 (k13 : Int32 → Int32 → Mm → Option (Int32 × Mm)) (r0 : Nat) (x3 x4 : Int32) (S : Mm) : Option (Int32 × Mm) :=
  nm (x4 + (1 : Int32)) fun x4_1 =>
  k13 x3 x4_1 S
set_option maxRecDepth 20000 in
theorem b_X1_endDay_17_32_51 {X : CX} {E : FE} (M0 : MF X E RX1 cX1_endDay 7 6 (some .int)) {r0 : Nat} (h0 : isClan r0) {k13 : Int32 → Int32 → Mm → Option (Int32 × Mm)} (hk13 : ∀ (x3 x4 : Int32) (S : Mm), At X E false (mQi X Z1 E) 13 [some (.ref r0), some (.ref 17), some (.ref 32), some (.int x3), some (.int x4), none, none] [] Z1 S 0 0 (k13 x3 x4 S)) (x3 x4 : Int32) (S : Mm) : At X E false (mQi X Z1 E) 51 [some (.ref r0), some (.ref 17), some (.ref 32), some (.int x3), some (.int x4), none, none] [] Z1 S 0 0 (f_X1_endDay_17_32_51 k13 r0 x3 x4 S) := by
  have F := M0.1
  unfold f_X1_endDay_17_32_51
  refine a_iincN (L' := fun x4_1 => [some (.ref r0), some (.ref 17), some (.ref 32), some (.int x3), some (.int x4_1), none, none]) F dX1_endDay_51 rfl ki_1 (lt_b rfl) (fun _ => rfl) (fun x4_1 => ?_)
  refine a_goto F 13 dX1_endDay_54 (by decide) ?_
  exact hk13 x3 x4_1 S
def f_X1_endDay_17_32_13b (k13 : Int32 → Int32 → Mm → Option (Int32 × Mm)) (r0 : Nat) (x3 x4 : Int32) (S : Mm) : Option (Int32 × Mm) :=
  if (28 : Int32) ≤ x4 then (
   f_X1_endDay_17_32_63 r0 FU x3 (0 : Int32) (0 : Int32) S
  ) else (
   gd (inB x4 28 = true) <|
   if (S (r0 + 11) (ix x4)) = (-1 : Int32) then (
    f_X1_endDay_17_32_51 k13 r0 x3 x4 S
   ) else (
    gd (inB x4 28 = true) <|
    if (S r0 1) ≤ (S (r0 + 12) (ix x4)) then (
     f_X1_endDay_17_32_51 k13 r0 x3 x4 S
    ) else (
     (f_X1_endLoan r0 x4 S).bind fun S_1 =>
     f_X1_endDay_17_32_51 k13 r0 x3 x4 S_1
    )
   )
  )
set_option maxRecDepth 20000 in
theorem b_X1_endDay_17_32_13b {X : CX} {E : FE} (M0 : MF X E RX1 cX1_endDay 7 6 (some .int)) {r0 : Nat} (h0 : isClan r0) {k13 : Int32 → Int32 → Mm → Option (Int32 × Mm)} (hk13 : ∀ (x3 x4 : Int32) (S : Mm), At X E false (mQi X Z1 E) 13 [some (.ref r0), some (.ref 17), some (.ref 32), some (.int x3), some (.int x4), none, none] [] Z1 S 0 0 (k13 x3 x4 S)) (x3 x4 : Int32) (S : Mm) : At X E false (mQi X Z1 E) 13 [some (.ref r0), some (.ref 17), some (.ref 32), some (.int x3), some (.int x4), none, none] [] Z1 S 0 0 (f_X1_endDay_17_32_13b k13 r0 x3 x4 S) := by
  have F := M0.1
  unfold f_X1_endDay_17_32_13b
  refine a_iload F dX1_endDay_13 rfl ?_
  refine a_bipush F dX1_endDay_15 kb_28 ?_
  refine a_icmp_ge F 57 dX1_endDay_17 (by decide) ?_ ?_
  · refine a_iconst F dX1_endDay_57 ki_0 ?_
    refine a_istore (L' := [some (.ref r0), some (.ref 17), some (.ref 32), some (.int x3), some (.int (0 : Int32)), none, none]) F dX1_endDay_58 (lt_b rfl) rfl ?_
    refine a_iconst F dX1_endDay_60 ki_0 ?_
    refine a_istore (L' := [some (.ref r0), some (.ref 17), some (.ref 32), some (.int x3), some (.int (0 : Int32)), some (.int (0 : Int32)), none]) F dX1_endDay_61 (lt_b rfl) rfl ?_
    exact b_X1_endDay_17_32_63 M0 h0 FU x3 (0 : Int32) (0 : Int32) S
  · refine a_aload_n F dX1_endDay_20 rfl rfl ?_
    refine a_getR (k := 15) F cfX1 dX1_endDay_21 fl_X1_58 (by decide) fi_1_15 (zcl_0 h0) (zck_0 h0) (zcr_15 h0) ?_
    refine a_iload F dX1_endDay_24 rfl ?_
    refine a_gd (a_iald F dX1_endDay_26 (zcl_11 h0) (zck_11 h0) ?_)
    refine a_iconst F dX1_endDay_27 ki_m1 ?_
    refine a_icmp_eq F 51 dX1_endDay_28 (by decide) ?_ ?_
    · exact b_X1_endDay_17_32_51 M0 h0 hk13 x3 x4 S
    · refine a_aload_n F dX1_endDay_31 rfl rfl ?_
      refine a_getR (k := 16) F cfX1 dX1_endDay_32 fl_X1_61 (by decide) fi_1_16 (zcl_0 h0) (zck_0 h0) (zcr_16 h0) ?_
      refine a_iload F dX1_endDay_35 rfl ?_
      refine a_gd (a_iald F dX1_endDay_37 (zcl_12 h0) (zck_12 h0) ?_)
      refine a_aload_n F dX1_endDay_38 rfl rfl ?_
      refine a_getI (k := 1) F cfX1 dX1_endDay_39 fl_X1_15 (by decide) fi_1_1 (zcl_0 h0) (zck_0 h0) ?_
      refine a_icmp_ge F 51 dX1_endDay_42 (by decide) ?_ ?_
      · exact b_X1_endDay_17_32_51 M0 h0 hk13 x3 x4 S
      · refine a_aload_n F dX1_endDay_45 rfl rfl ?_
        refine a_iload F dX1_endDay_46 rfl ?_
        refine a_callVV F (As := [.int x4]) cfX1 rfl (c_X1_endLoan X h0 x4 S) mw_X1_endLoan ml_X1_109 im_X1_endLoan se_X1_endLoan M0.2.1 (Nat.le_of_ble_eq_true rfl) ⟨Nat.zero_le _, Nat.zero_le _⟩ rfl rfl (Nat.le_of_ble_eq_true rfl) (zcl_0 h0) (zck_0 h0) dX1_endDay_48 rfl (fun S_1 => ?_)
        exact b_X1_endDay_17_32_51 M0 h0 hk13 x3 x4 S_1
def f_X1_endDay_17_32_13 (r0 : Nat) : Nat → Int32 → Int32 → Mm → Option (Int32 × Mm) :=
  itr (fun _ _ _ => none) (fun k => f_X1_endDay_17_32_13b k r0)
theorem b_X1_endDay_17_32_13 {X : CX} {E : FE} (M0 : MF X E RX1 cX1_endDay 7 6 (some .int)) {r0 : Nat} (h0 : isClan r0) : ∀ (n : Nat) (x3 x4 : Int32) (S : Mm), At X E false (mQi X Z1 E) 13 [some (.ref r0), some (.ref 17), some (.ref 32), some (.int x3), some (.int x4), none, none] [] Z1 S 0 0 (f_X1_endDay_17_32_13 r0 n x3 x4 S) := by
  intro n
  induction n with
  | zero => intros; exact a_none
  | succ n ih => intro x3 x4 S; exact b_X1_endDay_17_32_13b M0 h0 ih x3 x4 S
def f_X1_endDay_17_32 (r0 : Nat) (p3 : Int32) (S : Mm) : Option (Int32 × Mm) :=
  nm (uM S r0 1 ((S r0 1) + (1 : Int32))) fun S_1 =>
  f_X1_endDay_17_32_13 r0 FU p3 (0 : Int32) S_1
set_option maxRecDepth 20000 in
theorem b_X1_endDay_17_32 {X : CX} {E : FE} (M0 : MF X E RX1 cX1_endDay 7 6 (some .int)) {r0 : Nat} (h0 : isClan r0) (p3 : Int32) (S : Mm) : At X E false (mQi X Z1 E) 0 [some (.ref r0), some (.ref 17), some (.ref 32), some (.int p3), none, none, none] [] Z1 S 0 0 (f_X1_endDay_17_32 r0 p3 S) := by
  have F := M0.1
  unfold f_X1_endDay_17_32
  refine a_aload_n F dX1_endDay_0 rfl rfl ?_
  refine a_dup F dX1_endDay_1 rfl ?_
  refine a_getI (k := 1) F cfX1 dX1_endDay_2 fl_X1_15 (by decide) fi_1_1 (zcl_0 h0) (zck_0 h0) ?_
  refine a_iconst F dX1_endDay_5 ki_1 ?_
  refine a_iadd F dX1_endDay_6 ?_
  refine a_putI (k := 1) F cfX1 dX1_endDay_7 fl_X1_15 (by decide) fi_1_1 rfl rfl (zcl_0 h0) (zck_0 h0) ?_
  refine a_nmS (fun S_1 => ?_)
  refine a_iconst F dX1_endDay_10 ki_0 ?_
  refine a_istore (L' := [some (.ref r0), some (.ref 17), some (.ref 32), some (.int p3), some (.int (0 : Int32)), none, none]) F dX1_endDay_11 (lt_b rfl) rfl ?_
  exact b_X1_endDay_17_32_13 M0 h0 FU p3 (0 : Int32) S_1
theorem c_X1_endDay_17_32 (X : CX) {r0 : Nat} (h0 : isClan r0) (p3 : Int32) (S : Mm) : CtI X Z1 yX1_endDay cX1_endDay 7 (some .int) 6 [.ref r0, .ref 17, .ref 32, .int p3] S (f_X1_endDay_17_32 r0 p3 S) :=
  ctI_of (by decide +kernel) rfl (Nat.le_of_ble_eq_true rfl) (by simp [Value.category]) z1len fun E F R hra hlk => b_X1_endDay_17_32 ⟨F, R, hra, hlk⟩ h0 p3 S
def f_X10_days_32b (k32 : Int32 → Int32 → Int32 → Mm → Option (Int32 × Mm)) (x1 x2 x3 : Int32) (S : Mm) : Option (Int32 × Mm) :=
  if x1 ≤ x3 then (
   some (x2, S)
  ) else (
   (f_X2_keep_32 1 S).bind fun S_1 =>
   (f_X1_endDay_17_32 1 (1 : Int32) S_1).bind fun q_2 =>
   nm ((x2 + q_2.1)) fun x2_3 =>
   nm (x3 + (1 : Int32)) fun x3_4 =>
   k32 x1 x2_3 x3_4 q_2.2
  )
set_option maxRecDepth 20000 in
theorem b_X10_days_32b {X : CX} {E : FE} (M0 : MF X E RX10 cX10_days 4 7 (some .int)) {k32 : Int32 → Int32 → Int32 → Mm → Option (Int32 × Mm)} (hk32 : ∀ (x1 x2 x3 : Int32) (S : Mm), At X E false (mQi X Z1 E) 32 [some (.ref 0), some (.int x1), some (.int x2), some (.int x3)] [] Z1 S 0 0 (k32 x1 x2 x3 S)) (x1 x2 x3 : Int32) (S : Mm) : At X E false (mQi X Z1 E) 32 [some (.ref 0), some (.int x1), some (.int x2), some (.int x3)] [] Z1 S 0 0 (f_X10_days_32b k32 x1 x2 x3 S) := by
  have F := M0.1
  unfold f_X10_days_32b
  refine a_iload_n F dX10_days_32 rfl rfl ?_
  refine a_iload_n F dX10_days_33 rfl rfl ?_
  refine a_icmp_ge F 77 dX10_days_34 (by decide) ?_ ?_
  · refine a_iload_n F dX10_days_77 rfl rfl ?_
    exact a_iret F M0.2.2.1 M0.2.2.2 dX10_days_78
  · refine a_aload_n F dX10_days_37 rfl rfl ?_
    refine a_getR (k := 3) F cfX10 dX10_days_38 fl_X10_33 (by decide) fi_10_3 zl_0 zk_0 zr_0_3 ?_
    refine a_aload_n F dX10_days_41 rfl rfl ?_
    refine a_getR (k := 0) F cfX10 dX10_days_42 fl_X10_12 (by decide) fi_10_0 zl_0 zk_0 zr_0_0 ?_
    refine a_aload_n F dX10_days_45 rfl rfl ?_
    refine a_getR (k := 2) F cfX10 dX10_days_46 fl_X10_26 (by decide) fi_10_2 zl_0 zk_0 zr_0_2 ?_
    refine a_callVV F (As := [.ref 1, .ref 32]) cfX2 rfl (c_X2_keep_32 X icl_1 S) mw_X2_keep ml_X10_175 im_X2_keep se_X2_keep M0.2.1 (Nat.le_of_ble_eq_true rfl) ⟨Nat.zero_le _, Nat.zero_le _⟩ rfl rfl (Nat.le_of_ble_eq_true rfl) zl_34 zk_34 dX10_days_49 rfl (fun S_1 => ?_)
    refine a_iload_n F dX10_days_52 rfl rfl ?_
    refine a_aload_n F dX10_days_53 rfl rfl ?_
    refine a_getR (k := 0) F cfX10 dX10_days_54 fl_X10_12 (by decide) fi_10_0 zl_0 zk_0 zr_0_0 ?_
    refine a_aload_n F dX10_days_57 rfl rfl ?_
    refine a_getR (k := 1) F cfX10 dX10_days_58 fl_X10_19 (by decide) fi_10_1 zl_0 zk_0 zr_0_1 ?_
    refine a_aload_n F dX10_days_61 rfl rfl ?_
    refine a_getR (k := 2) F cfX10 dX10_days_62 fl_X10_26 (by decide) fi_10_2 zl_0 zk_0 zr_0_2 ?_
    refine a_iconst F dX10_days_65 ki_1 ?_
    refine a_callVI F (As := [.ref 17, .ref 32, .int (1 : Int32)]) cfX1 rfl (c_X1_endDay_17_32 X icl_1 (1 : Int32) S_1) mw_X1_endDay ml_X10_226 im_X1_endDay se_X1_endDay M0.2.1 (Nat.le_of_ble_eq_true rfl) ⟨Nat.zero_le _, Nat.zero_le _⟩ rfl rfl (Nat.le_of_ble_eq_true rfl) zl_1 zk_1 dX10_days_66 rfl (fun q_2 => ?_)
    refine a_iadd F dX10_days_69 ?_
    refine a_istore_nN (L' := fun x2_3 => [some (.ref 0), some (.int x1), some (.int x2_3), some (.int x3)]) F dX10_days_70 rfl (lt_b rfl) (fun _ => rfl) (fun x2_3 => ?_)
    refine a_iincN (L' := fun x3_4 => [some (.ref 0), some (.int x1), some (.int x2_3), some (.int x3_4)]) F dX10_days_71 rfl ki_1 (lt_b rfl) (fun _ => rfl) (fun x3_4 => ?_)
    refine a_goto F 32 dX10_days_74 (by decide) ?_
    exact hk32 x1 x2_3 x3_4 q_2.2
def f_X10_days_32 : Nat → Int32 → Int32 → Int32 → Mm → Option (Int32 × Mm) :=
  itr (fun _ _ _ _ => none) (fun k => f_X10_days_32b k)
theorem b_X10_days_32 {X : CX} {E : FE} (M0 : MF X E RX10 cX10_days 4 7 (some .int)) : ∀ (n : Nat) (x1 x2 x3 : Int32) (S : Mm), At X E false (mQi X Z1 E) 32 [some (.ref 0), some (.int x1), some (.int x2), some (.int x3)] [] Z1 S 0 0 (f_X10_days_32  n x1 x2 x3 S) := by
  intro n
  induction n with
  | zero => intros; exact a_none
  | succ n ih => intro x1 x2 x3 S; exact b_X10_days_32b M0 ih x1 x2 x3 S
def f_X10_days (p1 : Int32) (S : Mm) : Option (Int32 × Mm) :=
  if p1 < (1 : Int32) then (
   some ((-1 : Int32), S)
  ) else (
   if (100 : Int32) < p1 then (
    some ((-1 : Int32), S)
   ) else (
    if ((S 1 1) + p1) ≤ (9999 : Int32) then (
     f_X10_days_32 FU p1 (0 : Int32) (0 : Int32) S
    ) else (
     some ((-1 : Int32), S)
    )
   )
  )
set_option maxRecDepth 20000 in
theorem b_X10_days {X : CX} {E : FE} (M0 : MF X E RX10 cX10_days 4 7 (some .int)) (p1 : Int32) (S : Mm) : At X E false (mQi X Z1 E) 0 [some (.ref 0), some (.int p1), none, none] [] Z1 S 0 0 (f_X10_days p1 S) := by
  have F := M0.1
  unfold f_X10_days
  refine a_iload_n F dX10_days_0 rfl rfl ?_
  refine a_iconst F dX10_days_1 ki_1 ?_
  refine a_icmp_lt F 26 dX10_days_2 (by decide) ?_ ?_
  · refine a_iconst F dX10_days_26 ki_m1 ?_
    exact a_iret F M0.2.2.1 M0.2.2.2 dX10_days_27
  · refine a_iload_n F dX10_days_5 rfl rfl ?_
    refine a_bipush F dX10_days_6 kb_100 ?_
    refine a_icmp_gt F 26 dX10_days_8 (by decide) ?_ ?_
    · refine a_iconst F dX10_days_26 ki_m1 ?_
      exact a_iret F M0.2.2.1 M0.2.2.2 dX10_days_27
    · refine a_aload_n F dX10_days_11 rfl rfl ?_
      refine a_getR (k := 0) F cfX10 dX10_days_12 fl_X10_12 (by decide) fi_10_0 zl_0 zk_0 zr_0_0 ?_
      refine a_getI (k := 1) F cfX1 dX10_days_15 fl_X10_111 (by decide) fi_1_1 zl_1 zk_1 ?_
      refine a_iload_n F dX10_days_18 rfl rfl ?_
      refine a_iadd F dX10_days_19 ?_
      refine a_sipush F dX10_days_20 ks_9999 ?_
      refine a_icmp_le F 28 dX10_days_23 (by decide) ?_ ?_
      · refine a_iconst F dX10_days_28 ki_0 ?_
        refine a_istore_n (L' := [some (.ref 0), some (.int p1), some (.int (0 : Int32)), none]) F dX10_days_29 rfl (lt_b rfl) rfl ?_
        refine a_iconst F dX10_days_30 ki_0 ?_
        refine a_istore_n (L' := [some (.ref 0), some (.int p1), some (.int (0 : Int32)), some (.int (0 : Int32))]) F dX10_days_31 rfl (lt_b rfl) rfl ?_
        exact b_X10_days_32 M0 FU p1 (0 : Int32) (0 : Int32) S
      · refine a_iconst F dX10_days_26 ki_m1 ?_
        exact a_iret F M0.2.2.1 M0.2.2.2 dX10_days_27
theorem c_X10_days (X : CX) (p1 : Int32) (S : Mm) : CtI X Z1 yX10_days cX10_days 4 (some .int) 7 [.ref 0, .int p1] S (f_X10_days p1 S) :=
  ctI_of (by decide +kernel) rfl (Nat.le_of_ble_eq_true rfl) (by simp [Value.category]) z1len fun E F R hra hlk => b_X10_days ⟨F, R, hra, hlk⟩ p1 S
def f_X7_together_28 (k4 : Int32 → Int32 → Int32 → Mm → Option (Int32 × Mm)) (x1 x2 x3 : Int32) (S : Mm) : Option (Int32 × Mm) :=
  nm (x3 + (1 : Int32)) fun x3_1 =>
  k4 x1 x2 x3_1 S
set_option maxRecDepth 20000 in
theorem b_X7_together_28 {X : CX} {E : FE} (M0 : MF X E RX7 cX7_together 4 1 (some .int)) {k4 : Int32 → Int32 → Int32 → Mm → Option (Int32 × Mm)} (hk4 : ∀ (x1 x2 x3 : Int32) (S : Mm), At X E false (mQi X Z1 E) 4 [some (.ref 165), some (.int x1), some (.int x2), some (.int x3)] [] Z1 S 0 0 (k4 x1 x2 x3 S)) (x1 x2 x3 : Int32) (S : Mm) : At X E false (mQi X Z1 E) 28 [some (.ref 165), some (.int x1), some (.int x2), some (.int x3)] [] Z1 S 0 0 (f_X7_together_28 k4 x1 x2 x3 S) := by
  have F := M0.1
  unfold f_X7_together_28
  refine a_iincN (L' := fun x3_1 => [some (.ref 165), some (.int x1), some (.int x2), some (.int x3_1)]) F dX7_together_28 rfl ki_1 (lt_b rfl) (fun _ => rfl) (fun x3_1 => ?_)
  refine a_goto F 4 dX7_together_31 (by decide) ?_
  exact hk4 x1 x2 x3_1 S
def f_X7_together_4b (k4 : Int32 → Int32 → Int32 → Mm → Option (Int32 × Mm)) (x1 x2 x3 : Int32) (S : Mm) : Option (Int32 × Mm) :=
  if (12 : Int32) ≤ x3 then (
   some (x2, S)
  ) else (
   if ((shr x1 x3) &&& (1 : Int32)) = (1 : Int32) then (
    gd (inB x3 12 = true) <|
    nm ((x2 ||| (S 182 (ix x3)))) fun x2_1 =>
    f_X7_together_28 k4 x1 x2_1 x3 S
   ) else (
    f_X7_together_28 k4 x1 x2 x3 S
   )
  )
set_option maxRecDepth 20000 in
theorem b_X7_together_4b {X : CX} {E : FE} (M0 : MF X E RX7 cX7_together 4 1 (some .int)) {k4 : Int32 → Int32 → Int32 → Mm → Option (Int32 × Mm)} (hk4 : ∀ (x1 x2 x3 : Int32) (S : Mm), At X E false (mQi X Z1 E) 4 [some (.ref 165), some (.int x1), some (.int x2), some (.int x3)] [] Z1 S 0 0 (k4 x1 x2 x3 S)) (x1 x2 x3 : Int32) (S : Mm) : At X E false (mQi X Z1 E) 4 [some (.ref 165), some (.int x1), some (.int x2), some (.int x3)] [] Z1 S 0 0 (f_X7_together_4b k4 x1 x2 x3 S) := by
  have F := M0.1
  unfold f_X7_together_4b
  refine a_iload_n F dX7_together_4 rfl rfl ?_
  refine a_bipush F dX7_together_5 kb_12 ?_
  refine a_icmp_ge F 34 dX7_together_7 (by decide) ?_ ?_
  · refine a_iload_n F dX7_together_34 rfl rfl ?_
    exact a_iret F M0.2.2.1 M0.2.2.2 dX7_together_35
  · refine a_iload_n F dX7_together_10 rfl rfl ?_
    refine a_iload_n F dX7_together_11 rfl rfl ?_
    refine a_ishr F dX7_together_12 ?_
    refine a_iconst F dX7_together_13 ki_1 ?_
    refine a_iand F dX7_together_14 ?_
    refine a_iconst F dX7_together_15 ki_1 ?_
    refine a_icmp_ne F 28 dX7_together_16 (by decide) ?_ ?_
    · refine a_iload_n F dX7_together_19 rfl rfl ?_
      refine a_aload_n F dX7_together_20 rfl rfl ?_
      refine a_getR (k := 3) F cfX7 dX7_together_21 fl_X7_18 (by decide) fi_7_3 zl_165 zk_165 zr_165_3 ?_
      refine a_iload_n F dX7_together_24 rfl rfl ?_
      refine a_gd (a_iald F dX7_together_25 zl_182 zk_182 ?_)
      refine a_ior F dX7_together_26 ?_
      refine a_istore_nN (L' := fun x2_1 => [some (.ref 165), some (.int x1), some (.int x2_1), some (.int x3)]) F dX7_together_27 rfl (lt_b rfl) (fun _ => rfl) (fun x2_1 => ?_)
      exact b_X7_together_28 M0 hk4 x1 x2_1 x3 S
    · exact b_X7_together_28 M0 hk4 x1 x2 x3 S
def f_X7_together_4 : Nat → Int32 → Int32 → Int32 → Mm → Option (Int32 × Mm) :=
  itr (fun _ _ _ _ => none) (fun k => f_X7_together_4b k)
theorem b_X7_together_4 {X : CX} {E : FE} (M0 : MF X E RX7 cX7_together 4 1 (some .int)) : ∀ (n : Nat) (x1 x2 x3 : Int32) (S : Mm), At X E false (mQi X Z1 E) 4 [some (.ref 165), some (.int x1), some (.int x2), some (.int x3)] [] Z1 S 0 0 (f_X7_together_4  n x1 x2 x3 S) := by
  intro n
  induction n with
  | zero => intros; exact a_none
  | succ n ih => intro x1 x2 x3 S; exact b_X7_together_4b M0 ih x1 x2 x3 S
def f_X7_together (p1 : Int32) (S : Mm) : Option (Int32 × Mm) :=
  f_X7_together_4 FU p1 (0 : Int32) (0 : Int32) S
set_option maxRecDepth 20000 in
theorem b_X7_together {X : CX} {E : FE} (M0 : MF X E RX7 cX7_together 4 1 (some .int)) (p1 : Int32) (S : Mm) : At X E false (mQi X Z1 E) 0 [some (.ref 165), some (.int p1), none, none] [] Z1 S 0 0 (f_X7_together p1 S) := by
  have F := M0.1
  unfold f_X7_together
  refine a_iconst F dX7_together_0 ki_0 ?_
  refine a_istore_n (L' := [some (.ref 165), some (.int p1), some (.int (0 : Int32)), none]) F dX7_together_1 rfl (lt_b rfl) rfl ?_
  refine a_iconst F dX7_together_2 ki_0 ?_
  refine a_istore_n (L' := [some (.ref 165), some (.int p1), some (.int (0 : Int32)), some (.int (0 : Int32))]) F dX7_together_3 rfl (lt_b rfl) rfl ?_
  exact b_X7_together_4 M0 FU p1 (0 : Int32) (0 : Int32) S
theorem c_X7_together (X : CX) (p1 : Int32) (S : Mm) : CtI X Z1 yX7_together cX7_together 4 (some .int) 1 [.ref 165, .int p1] S (f_X7_together p1 S) :=
  ctI_of (by decide +kernel) rfl (Nat.le_of_ble_eq_true rfl) (by simp [Value.category]) z1len fun E F R hra hlk => b_X7_together ⟨F, R, hra, hlk⟩ p1 S
def f_X7_signers_79 (k16 : Int32 → Int32 → Int32 → Int32 → Mm → Option (Int32 × Mm)) (x1 x2 x3 x4 : Int32) (S : Mm) : Option (Int32 × Mm) :=
  nm (x4 + (1 : Int32)) fun x4_1 =>
  k16 x1 x2 x3 x4_1 S
set_option maxRecDepth 20000 in
theorem b_X7_signers_79 {X : CX} {E : FE} (M0 : MF X E RX7 cX7_signers 5 5 (some .int)) {k16 : Int32 → Int32 → Int32 → Int32 → Mm → Option (Int32 × Mm)} (hk16 : ∀ (x1 x2 x3 x4 : Int32) (S : Mm), At X E false (mQi X Z1 E) 16 [some (.ref 165), some (.int x1), some (.int x2), some (.int x3), some (.int x4)] [] Z1 S 0 0 (k16 x1 x2 x3 x4 S)) (x1 x2 x3 x4 : Int32) (S : Mm) : At X E false (mQi X Z1 E) 79 [some (.ref 165), some (.int x1), some (.int x2), some (.int x3), some (.int x4)] [] Z1 S 0 0 (f_X7_signers_79 k16 x1 x2 x3 x4 S) := by
  have F := M0.1
  unfold f_X7_signers_79
  refine a_iincN (L' := fun x4_1 => [some (.ref 165), some (.int x1), some (.int x2), some (.int x3), some (.int x4_1)]) F dX7_signers_79 rfl ki_1 (lt_b rfl) (fun _ => rfl) (fun x4_1 => ?_)
  refine a_goto F 16 dX7_signers_82 (by decide) ?_
  exact hk16 x1 x2 x3 x4_1 S
def f_X7_signers_16b (k16 : Int32 → Int32 → Int32 → Int32 → Mm → Option (Int32 × Mm)) (x1 x2 x3 x4 : Int32) (S : Mm) : Option (Int32 × Mm) :=
  if (shl (1 : Int32) (S 1 3)) ≤ x4 then (
   some (x2, S)
  ) else (
   if (x4 &&& ((S 1 4) ^^^ (-1 : Int32))) = 0 then (
    (f_J6_bitCount_0f7a4 x4 S).bind fun q_1 =>
    if q_1.1 < x3 then (
     (f_X7_together x4 q_1.2).bind fun q_2 =>
     if (x1 &&& (q_2.1 ^^^ (-1 : Int32))) = 0 then (
      (f_J6_bitCount_0f7a4 x4 q_2.2).bind fun q_3 =>
      f_X7_signers_79 k16 x1 x4 q_3.1 x4 q_3.2
     ) else (
      f_X7_signers_79 k16 x1 x2 x3 x4 q_2.2
     )
    ) else (
     f_X7_signers_79 k16 x1 x2 x3 x4 q_1.2
    )
   ) else (
    f_X7_signers_79 k16 x1 x2 x3 x4 S
   )
  )
set_option maxRecDepth 20000 in
theorem b_X7_signers_16b {X : CX} {E : FE} (M0 : MF X E RX7 cX7_signers 5 5 (some .int)) {k16 : Int32 → Int32 → Int32 → Int32 → Mm → Option (Int32 × Mm)} (hk16 : ∀ (x1 x2 x3 x4 : Int32) (S : Mm), At X E false (mQi X Z1 E) 16 [some (.ref 165), some (.int x1), some (.int x2), some (.int x3), some (.int x4)] [] Z1 S 0 0 (k16 x1 x2 x3 x4 S)) (x1 x2 x3 x4 : Int32) (S : Mm) : At X E false (mQi X Z1 E) 16 [some (.ref 165), some (.int x1), some (.int x2), some (.int x3), some (.int x4)] [] Z1 S 0 0 (f_X7_signers_16b k16 x1 x2 x3 x4 S) := by
  have F := M0.1
  unfold f_X7_signers_16b
  refine a_iload F dX7_signers_16 rfl ?_
  refine a_iconst F dX7_signers_18 ki_1 ?_
  refine a_aload_n F dX7_signers_19 rfl rfl ?_
  refine a_getR (k := 0) F cfX7 dX7_signers_20 fl_X7_25 (by decide) fi_7_0 zl_165 zk_165 zr_165_0 ?_
  refine a_getI (k := 3) F cfX1 dX7_signers_23 fl_X7_43 (by decide) fi_1_3 zl_1 zk_1 ?_
  refine a_ishl F dX7_signers_26 ?_
  refine a_icmp_ge F 85 dX7_signers_27 (by decide) ?_ ?_
  · refine a_iload_n F dX7_signers_85 rfl rfl ?_
    exact a_iret F M0.2.2.1 M0.2.2.2 dX7_signers_86
  · refine a_iload F dX7_signers_30 rfl ?_
    refine a_aload_n F dX7_signers_32 rfl rfl ?_
    refine a_getR (k := 0) F cfX7 dX7_signers_33 fl_X7_25 (by decide) fi_7_0 zl_165 zk_165 zr_165_0 ?_
    refine a_getI (k := 4) F cfX1 dX7_signers_36 fl_X7_47 (by decide) fi_1_4 zl_1 zk_1 ?_
    refine a_iconst F dX7_signers_39 ki_m1 ?_
    refine a_ixor F dX7_signers_40 ?_
    refine a_iand F dX7_signers_41 ?_
    refine a_if_ne F 79 dX7_signers_42 (by decide) ?_ ?_
    · refine a_iload F dX7_signers_45 rfl ?_
      refine a_callSI F (As := [.int x4]) (c_J6_bitCount_0f7a4 X x4 S) mw_J6_bitCount_0f7a4 ml_X7_50 st_J6_bitCount_0f7a4 M0.2.1 (Nat.le_of_ble_eq_true rfl) ⟨Nat.zero_le _, Nat.zero_le _⟩ rfl rfl (Nat.le_of_ble_eq_true rfl) dX7_signers_47 rfl (fun q_1 => ?_)
      refine a_iload_n F dX7_signers_50 rfl rfl ?_
      refine a_icmp_lt F 57 dX7_signers_51 (by decide) ?_ ?_
      · refine a_iload_n F dX7_signers_57 rfl rfl ?_
        refine a_aload_n F dX7_signers_58 rfl rfl ?_
        refine a_iload F dX7_signers_59 rfl ?_
        refine a_callVI F (As := [.int x4]) cfX7 rfl (c_X7_together X x4 q_1.2) mw_X7_together ml_X7_40 im_X7_together se_X7_together M0.2.1 (Nat.le_of_ble_eq_true rfl) ⟨Nat.zero_le _, Nat.zero_le _⟩ rfl rfl (Nat.le_of_ble_eq_true rfl) zl_165 zk_165 dX7_signers_61 rfl (fun q_2 => ?_)
        refine a_iconst F dX7_signers_64 ki_m1 ?_
        refine a_ixor F dX7_signers_65 ?_
        refine a_iand F dX7_signers_66 ?_
        refine a_if_ne F 79 dX7_signers_67 (by decide) ?_ ?_
        · refine a_iload F dX7_signers_70 rfl ?_
          refine a_istore_n (L' := [some (.ref 165), some (.int x1), some (.int x4), some (.int x3), some (.int x4)]) F dX7_signers_72 rfl (lt_b rfl) rfl ?_
          refine a_iload F dX7_signers_73 rfl ?_
          refine a_callSI F (As := [.int x4]) (c_J6_bitCount_0f7a4 X x4 q_2.2) mw_J6_bitCount_0f7a4 ml_X7_50 st_J6_bitCount_0f7a4 M0.2.1 (Nat.le_of_ble_eq_true rfl) ⟨Nat.zero_le _, Nat.zero_le _⟩ rfl rfl (Nat.le_of_ble_eq_true rfl) dX7_signers_75 rfl (fun q_3 => ?_)
          refine a_istore_n (L' := [some (.ref 165), some (.int x1), some (.int x4), some (.int q_3.1), some (.int x4)]) F dX7_signers_78 rfl (lt_b rfl) rfl ?_
          exact b_X7_signers_79 M0 hk16 x1 x4 q_3.1 x4 q_3.2
        · exact b_X7_signers_79 M0 hk16 x1 x2 x3 x4 q_2.2
      · refine a_goto F 79 dX7_signers_54 (by decide) ?_
        exact b_X7_signers_79 M0 hk16 x1 x2 x3 x4 q_1.2
    · exact b_X7_signers_79 M0 hk16 x1 x2 x3 x4 S
def f_X7_signers_16 : Nat → Int32 → Int32 → Int32 → Int32 → Mm → Option (Int32 × Mm) :=
  itr (fun _ _ _ _ _ => none) (fun k => f_X7_signers_16b k)
theorem b_X7_signers_16 {X : CX} {E : FE} (M0 : MF X E RX7 cX7_signers 5 5 (some .int)) : ∀ (n : Nat) (x1 x2 x3 x4 : Int32) (S : Mm), At X E false (mQi X Z1 E) 16 [some (.ref 165), some (.int x1), some (.int x2), some (.int x3), some (.int x4)] [] Z1 S 0 0 (f_X7_signers_16  n x1 x2 x3 x4 S) := by
  intro n
  induction n with
  | zero => intros; exact a_none
  | succ n ih => intro x1 x2 x3 x4 S; exact b_X7_signers_16b M0 ih x1 x2 x3 x4 S
def f_X7_signers (p1 : Int32) (S : Mm) : Option (Int32 × Mm) :=
  (f_X7_ask 1 S).bind fun S_1 =>
  f_X7_signers_16 FU p1 (-1 : Int32) (13 : Int32) (1 : Int32) S_1
set_option maxRecDepth 20000 in
theorem b_X7_signers {X : CX} {E : FE} (M0 : MF X E RX7 cX7_signers 5 5 (some .int)) (p1 : Int32) (S : Mm) : At X E false (mQi X Z1 E) 0 [some (.ref 165), some (.int p1), none, none, none] [] Z1 S 0 0 (f_X7_signers p1 S) := by
  have F := M0.1
  unfold f_X7_signers
  refine a_aload_n F dX7_signers_0 rfl rfl ?_
  refine a_aload_n F dX7_signers_1 rfl rfl ?_
  refine a_getR (k := 0) F cfX7 dX7_signers_2 fl_X7_25 (by decide) fi_7_0 zl_165 zk_165 zr_165_0 ?_
  refine a_callVV F (As := [.ref 1]) cfX7 rfl (c_X7_ask X icl_1 S) mw_X7_ask ml_X7_36 im_X7_ask se_X7_ask M0.2.1 (Nat.le_of_ble_eq_true rfl) ⟨Nat.zero_le _, Nat.zero_le _⟩ rfl rfl (Nat.le_of_ble_eq_true rfl) zl_165 zk_165 dX7_signers_5 rfl (fun S_1 => ?_)
  refine a_iconst F dX7_signers_8 ki_m1 ?_
  refine a_istore_n (L' := [some (.ref 165), some (.int p1), some (.int (-1 : Int32)), none, none]) F dX7_signers_9 rfl (lt_b rfl) rfl ?_
  refine a_bipush F dX7_signers_10 kb_13 ?_
  refine a_istore_n (L' := [some (.ref 165), some (.int p1), some (.int (-1 : Int32)), some (.int (13 : Int32)), none]) F dX7_signers_12 rfl (lt_b rfl) rfl ?_
  refine a_iconst F dX7_signers_13 ki_1 ?_
  refine a_istore (L' := [some (.ref 165), some (.int p1), some (.int (-1 : Int32)), some (.int (13 : Int32)), some (.int (1 : Int32))]) F dX7_signers_14 (lt_b rfl) rfl ?_
  exact b_X7_signers_16 M0 FU p1 (-1 : Int32) (13 : Int32) (1 : Int32) S_1
theorem c_X7_signers (X : CX) (p1 : Int32) (S : Mm) : CtI X Z1 yX7_signers cX7_signers 5 (some .int) 5 [.ref 165, .int p1] S (f_X7_signers p1 S) :=
  ctI_of (by decide +kernel) rfl (Nat.le_of_ble_eq_true rfl) (by simp [Value.category]) z1len fun E F R hra hlk => b_X7_signers ⟨F, R, hra, hlk⟩ p1 S
def f_X7_writers_42 (k12 : Int32 → Int32 → Int32 → Mm → Option (Int32 × Mm)) (x1 x2 x3 : Int32) (S : Mm) : Option (Int32 × Mm) :=
  nm (x3 + (1 : Int32)) fun x3_1 =>
  k12 x1 x2 x3_1 S
set_option maxRecDepth 20000 in
theorem b_X7_writers_42 {X : CX} {E : FE} (M0 : MF X E RX7 cX7_writers 4 5 (some .int)) {k12 : Int32 → Int32 → Int32 → Mm → Option (Int32 × Mm)} (hk12 : ∀ (x1 x2 x3 : Int32) (S : Mm), At X E false (mQi X Z1 E) 12 [some (.ref 165), some (.int x1), some (.int x2), some (.int x3)] [] Z1 S 0 0 (k12 x1 x2 x3 S)) (x1 x2 x3 : Int32) (S : Mm) : At X E false (mQi X Z1 E) 42 [some (.ref 165), some (.int x1), some (.int x2), some (.int x3)] [] Z1 S 0 0 (f_X7_writers_42 k12 x1 x2 x3 S) := by
  have F := M0.1
  unfold f_X7_writers_42
  refine a_iincN (L' := fun x3_1 => [some (.ref 165), some (.int x1), some (.int x2), some (.int x3_1)]) F dX7_writers_42 rfl ki_1 (lt_b rfl) (fun _ => rfl) (fun x3_1 => ?_)
  refine a_goto F 12 dX7_writers_45 (by decide) ?_
  exact hk12 x1 x2 x3_1 S
def f_X7_writers_12b (k12 : Int32 → Int32 → Int32 → Mm → Option (Int32 × Mm)) (x1 x2 x3 : Int32) (S : Mm) : Option (Int32 × Mm) :=
  if (S 1 3) ≤ x3 then (
   some (x2, S)
  ) else (
   gd (inB x3 12 = true) <|
   if (x1 &&& ((S 182 (ix x3)) ^^^ (-1 : Int32))) = 0 then (
    nm ((x2 ||| (shl (1 : Int32) x3))) fun x2_1 =>
    f_X7_writers_42 k12 x1 x2_1 x3 S
   ) else (
    f_X7_writers_42 k12 x1 x2 x3 S
   )
  )
set_option maxRecDepth 20000 in
theorem b_X7_writers_12b {X : CX} {E : FE} (M0 : MF X E RX7 cX7_writers 4 5 (some .int)) {k12 : Int32 → Int32 → Int32 → Mm → Option (Int32 × Mm)} (hk12 : ∀ (x1 x2 x3 : Int32) (S : Mm), At X E false (mQi X Z1 E) 12 [some (.ref 165), some (.int x1), some (.int x2), some (.int x3)] [] Z1 S 0 0 (k12 x1 x2 x3 S)) (x1 x2 x3 : Int32) (S : Mm) : At X E false (mQi X Z1 E) 12 [some (.ref 165), some (.int x1), some (.int x2), some (.int x3)] [] Z1 S 0 0 (f_X7_writers_12b k12 x1 x2 x3 S) := by
  have F := M0.1
  unfold f_X7_writers_12b
  refine a_iload_n F dX7_writers_12 rfl rfl ?_
  refine a_aload_n F dX7_writers_13 rfl rfl ?_
  refine a_getR (k := 0) F cfX7 dX7_writers_14 fl_X7_25 (by decide) fi_7_0 zl_165 zk_165 zr_165_0 ?_
  refine a_getI (k := 3) F cfX1 dX7_writers_17 fl_X7_43 (by decide) fi_1_3 zl_1 zk_1 ?_
  refine a_icmp_ge F 48 dX7_writers_20 (by decide) ?_ ?_
  · refine a_iload_n F dX7_writers_48 rfl rfl ?_
    exact a_iret F M0.2.2.1 M0.2.2.2 dX7_writers_49
  · refine a_iload_n F dX7_writers_23 rfl rfl ?_
    refine a_aload_n F dX7_writers_24 rfl rfl ?_
    refine a_getR (k := 3) F cfX7 dX7_writers_25 fl_X7_18 (by decide) fi_7_3 zl_165 zk_165 zr_165_3 ?_
    refine a_iload_n F dX7_writers_28 rfl rfl ?_
    refine a_gd (a_iald F dX7_writers_29 zl_182 zk_182 ?_)
    refine a_iconst F dX7_writers_30 ki_m1 ?_
    refine a_ixor F dX7_writers_31 ?_
    refine a_iand F dX7_writers_32 ?_
    refine a_if_ne F 42 dX7_writers_33 (by decide) ?_ ?_
    · refine a_iload_n F dX7_writers_36 rfl rfl ?_
      refine a_iconst F dX7_writers_37 ki_1 ?_
      refine a_iload_n F dX7_writers_38 rfl rfl ?_
      refine a_ishl F dX7_writers_39 ?_
      refine a_ior F dX7_writers_40 ?_
      refine a_istore_nN (L' := fun x2_1 => [some (.ref 165), some (.int x1), some (.int x2_1), some (.int x3)]) F dX7_writers_41 rfl (lt_b rfl) (fun _ => rfl) (fun x2_1 => ?_)
      exact b_X7_writers_42 M0 hk12 x1 x2_1 x3 S
    · exact b_X7_writers_42 M0 hk12 x1 x2 x3 S
def f_X7_writers_12 : Nat → Int32 → Int32 → Int32 → Mm → Option (Int32 × Mm) :=
  itr (fun _ _ _ _ => none) (fun k => f_X7_writers_12b k)
theorem b_X7_writers_12 {X : CX} {E : FE} (M0 : MF X E RX7 cX7_writers 4 5 (some .int)) : ∀ (n : Nat) (x1 x2 x3 : Int32) (S : Mm), At X E false (mQi X Z1 E) 12 [some (.ref 165), some (.int x1), some (.int x2), some (.int x3)] [] Z1 S 0 0 (f_X7_writers_12  n x1 x2 x3 S) := by
  intro n
  induction n with
  | zero => intros; exact a_none
  | succ n ih => intro x1 x2 x3 S; exact b_X7_writers_12b M0 ih x1 x2 x3 S
def f_X7_writers (p1 : Int32) (S : Mm) : Option (Int32 × Mm) :=
  (f_X7_ask 1 S).bind fun S_1 =>
  f_X7_writers_12 FU p1 (0 : Int32) (0 : Int32) S_1
set_option maxRecDepth 20000 in
theorem b_X7_writers {X : CX} {E : FE} (M0 : MF X E RX7 cX7_writers 4 5 (some .int)) (p1 : Int32) (S : Mm) : At X E false (mQi X Z1 E) 0 [some (.ref 165), some (.int p1), none, none] [] Z1 S 0 0 (f_X7_writers p1 S) := by
  have F := M0.1
  unfold f_X7_writers
  refine a_aload_n F dX7_writers_0 rfl rfl ?_
  refine a_aload_n F dX7_writers_1 rfl rfl ?_
  refine a_getR (k := 0) F cfX7 dX7_writers_2 fl_X7_25 (by decide) fi_7_0 zl_165 zk_165 zr_165_0 ?_
  refine a_callVV F (As := [.ref 1]) cfX7 rfl (c_X7_ask X icl_1 S) mw_X7_ask ml_X7_36 im_X7_ask se_X7_ask M0.2.1 (Nat.le_of_ble_eq_true rfl) ⟨Nat.zero_le _, Nat.zero_le _⟩ rfl rfl (Nat.le_of_ble_eq_true rfl) zl_165 zk_165 dX7_writers_5 rfl (fun S_1 => ?_)
  refine a_iconst F dX7_writers_8 ki_0 ?_
  refine a_istore_n (L' := [some (.ref 165), some (.int p1), some (.int (0 : Int32)), none]) F dX7_writers_9 rfl (lt_b rfl) rfl ?_
  refine a_iconst F dX7_writers_10 ki_0 ?_
  refine a_istore_n (L' := [some (.ref 165), some (.int p1), some (.int (0 : Int32)), some (.int (0 : Int32))]) F dX7_writers_11 rfl (lt_b rfl) rfl ?_
  exact b_X7_writers_12 M0 FU p1 (0 : Int32) (0 : Int32) S_1
theorem c_X7_writers (X : CX) (p1 : Int32) (S : Mm) : CtI X Z1 yX7_writers cX7_writers 4 (some .int) 5 [.ref 165, .int p1] S (f_X7_writers p1 S) :=
  ctI_of (by decide +kernel) rfl (Nat.le_of_ble_eq_true rfl) (by simp [Value.category]) z1len fun E F R hra hlk => b_X7_writers ⟨F, R, hra, hlk⟩ p1 S
def f_X7_needed_77 (k32 : Int32 → Int32 → Int32 → Mm → Option (Int32 × Mm)) (x1 x2 x3 : Int32) (S : Mm) : Option (Int32 × Mm) :=
  nm (x3 + (1 : Int32)) fun x3_1 =>
  k32 x1 x2 x3_1 S
set_option maxRecDepth 20000 in
theorem b_X7_needed_77 {X : CX} {E : FE} (M0 : MF X E RX7 cX7_needed 5 5 (some .int)) {k32 : Int32 → Int32 → Int32 → Mm → Option (Int32 × Mm)} (hk32 : ∀ (x1 x2 x3 : Int32) (S : Mm), At X E false (mQi X Z1 E) 32 [some (.ref 165), some (.int x1), some (.int x2), some (.int x3), none] [] Z1 S 0 0 (k32 x1 x2 x3 S)) (x1 x2 x3 : Int32) (S : Mm) : At X E false (mQi X Z1 E) 77 [some (.ref 165), some (.int x1), some (.int x2), some (.int x3), none] [] Z1 S 0 0 (f_X7_needed_77 k32 x1 x2 x3 S) := by
  have F := M0.1
  unfold f_X7_needed_77
  refine a_iincN (L' := fun x3_1 => [some (.ref 165), some (.int x1), some (.int x2), some (.int x3_1), none]) F dX7_needed_77 rfl ki_1 (lt_b rfl) (fun _ => rfl) (fun x3_1 => ?_)
  refine a_goto F 32 dX7_needed_80 (by decide) ?_
  exact hk32 x1 x2 x3_1 S
def f_X7_needed_32b (k32 : Int32 → Int32 → Int32 → Mm → Option (Int32 × Mm)) (x1 x2 x3 : Int32) (S : Mm) : Option (Int32 × Mm) :=
  if (S 1 3) ≤ x3 then (
   some (x2, S)
  ) else (
   nm (((S 1 4) &&& ((shl (1 : Int32) x3) ^^^ (-1 : Int32)))) fun x4_1 =>
   (f_X7_together x4_1 S).bind fun q_2 =>
   if (x1 &&& (q_2.1 ^^^ (-1 : Int32))) = 0 then (
    f_X7_needed_77 k32 x1 x2 x3 q_2.2
   ) else (
    nm ((x2 ||| (shl (1 : Int32) x3))) fun x2_3 =>
    f_X7_needed_77 k32 x1 x2_3 x3 q_2.2
   )
  )
set_option maxRecDepth 20000 in
theorem b_X7_needed_32b {X : CX} {E : FE} (M0 : MF X E RX7 cX7_needed 5 5 (some .int)) {k32 : Int32 → Int32 → Int32 → Mm → Option (Int32 × Mm)} (hk32 : ∀ (x1 x2 x3 : Int32) (S : Mm), At X E false (mQi X Z1 E) 32 [some (.ref 165), some (.int x1), some (.int x2), some (.int x3), none] [] Z1 S 0 0 (k32 x1 x2 x3 S)) (x1 x2 x3 : Int32) (S : Mm) : At X E false (mQi X Z1 E) 32 [some (.ref 165), some (.int x1), some (.int x2), some (.int x3), none] [] Z1 S 0 0 (f_X7_needed_32b k32 x1 x2 x3 S) := by
  have F := M0.1
  unfold f_X7_needed_32b
  refine a_iload_n F dX7_needed_32 rfl rfl ?_
  refine a_aload_n F dX7_needed_33 rfl rfl ?_
  refine a_getR (k := 0) F cfX7 dX7_needed_34 fl_X7_25 (by decide) fi_7_0 zl_165 zk_165 zr_165_0 ?_
  refine a_getI (k := 3) F cfX1 dX7_needed_37 fl_X7_43 (by decide) fi_1_3 zl_1 zk_1 ?_
  refine a_icmp_ge F 83 dX7_needed_40 (by decide) ?_ ?_
  · refine a_iload_n F dX7_needed_83 rfl rfl ?_
    exact a_iret F M0.2.2.1 M0.2.2.2 dX7_needed_84
  · refine a_aload_n F dX7_needed_43 rfl rfl ?_
    refine a_getR (k := 0) F cfX7 dX7_needed_44 fl_X7_25 (by decide) fi_7_0 zl_165 zk_165 zr_165_0 ?_
    refine a_getI (k := 4) F cfX1 dX7_needed_47 fl_X7_47 (by decide) fi_1_4 zl_1 zk_1 ?_
    refine a_iconst F dX7_needed_50 ki_1 ?_
    refine a_iload_n F dX7_needed_51 rfl rfl ?_
    refine a_ishl F dX7_needed_52 ?_
    refine a_iconst F dX7_needed_53 ki_m1 ?_
    refine a_ixor F dX7_needed_54 ?_
    refine a_iand F dX7_needed_55 ?_
    refine a_istoreN (L' := fun x4_1 => [some (.ref 165), some (.int x1), some (.int x2), some (.int x3), some (.int x4_1)]) F dX7_needed_56 (lt_b rfl) (fun _ => rfl) (fun x4_1 => ?_)
    refine a_iload_n F dX7_needed_58 rfl rfl ?_
    refine a_aload_n F dX7_needed_59 rfl rfl ?_
    refine a_iload F dX7_needed_60 rfl ?_
    refine a_callVI F (As := [.int x4_1]) cfX7 rfl (c_X7_together X x4_1 S) mw_X7_together ml_X7_40 im_X7_together se_X7_together M0.2.1 (Nat.le_of_ble_eq_true rfl) ⟨Nat.zero_le _, Nat.zero_le _⟩ rfl rfl (Nat.le_of_ble_eq_true rfl) zl_165 zk_165 dX7_needed_62 rfl (fun q_2 => ?_)
    refine a_iconst F dX7_needed_65 ki_m1 ?_
    refine a_ixor F dX7_needed_66 ?_
    refine a_iand F dX7_needed_67 ?_
    refine a_if_eq F 77 dX7_needed_68 (by decide) ?_ ?_
    · refine a_mask [true, true, true, true, false] (L' := [some (.ref 165), some (.int x1), some (.int x2), some (.int x3), none]) rfl rfl ?_
      exact b_X7_needed_77 M0 hk32 x1 x2 x3 q_2.2
    · refine a_iload_n F dX7_needed_71 rfl rfl ?_
      refine a_iconst F dX7_needed_72 ki_1 ?_
      refine a_iload_n F dX7_needed_73 rfl rfl ?_
      refine a_ishl F dX7_needed_74 ?_
      refine a_ior F dX7_needed_75 ?_
      refine a_istore_nN (L' := fun x2_3 => [some (.ref 165), some (.int x1), some (.int x2_3), some (.int x3), some (.int x4_1)]) F dX7_needed_76 rfl (lt_b rfl) (fun _ => rfl) (fun x2_3 => ?_)
      refine a_mask [true, true, true, true, false] (L' := [some (.ref 165), some (.int x1), some (.int x2_3), some (.int x3), none]) rfl rfl ?_
      exact b_X7_needed_77 M0 hk32 x1 x2_3 x3 q_2.2
def f_X7_needed_32 : Nat → Int32 → Int32 → Int32 → Mm → Option (Int32 × Mm) :=
  itr (fun _ _ _ _ => none) (fun k => f_X7_needed_32b k)
theorem b_X7_needed_32 {X : CX} {E : FE} (M0 : MF X E RX7 cX7_needed 5 5 (some .int)) : ∀ (n : Nat) (x1 x2 x3 : Int32) (S : Mm), At X E false (mQi X Z1 E) 32 [some (.ref 165), some (.int x1), some (.int x2), some (.int x3), none] [] Z1 S 0 0 (f_X7_needed_32  n x1 x2 x3 S) := by
  intro n
  induction n with
  | zero => intros; exact a_none
  | succ n ih => intro x1 x2 x3 S; exact b_X7_needed_32b M0 ih x1 x2 x3 S
def f_X7_needed (p1 : Int32) (S : Mm) : Option (Int32 × Mm) :=
  (f_X7_ask 1 S).bind fun S_1 =>
  (f_X7_together (S_1 1 4) S_1).bind fun q_2 =>
  if (p1 &&& (q_2.1 ^^^ (-1 : Int32))) = 0 then (
   f_X7_needed_32 FU p1 (0 : Int32) (0 : Int32) q_2.2
  ) else (
   some ((0 : Int32), q_2.2)
  )
set_option maxRecDepth 20000 in
theorem b_X7_needed {X : CX} {E : FE} (M0 : MF X E RX7 cX7_needed 5 5 (some .int)) (p1 : Int32) (S : Mm) : At X E false (mQi X Z1 E) 0 [some (.ref 165), some (.int p1), none, none, none] [] Z1 S 0 0 (f_X7_needed p1 S) := by
  have F := M0.1
  unfold f_X7_needed
  refine a_aload_n F dX7_needed_0 rfl rfl ?_
  refine a_aload_n F dX7_needed_1 rfl rfl ?_
  refine a_getR (k := 0) F cfX7 dX7_needed_2 fl_X7_25 (by decide) fi_7_0 zl_165 zk_165 zr_165_0 ?_
  refine a_callVV F (As := [.ref 1]) cfX7 rfl (c_X7_ask X icl_1 S) mw_X7_ask ml_X7_36 im_X7_ask se_X7_ask M0.2.1 (Nat.le_of_ble_eq_true rfl) ⟨Nat.zero_le _, Nat.zero_le _⟩ rfl rfl (Nat.le_of_ble_eq_true rfl) zl_165 zk_165 dX7_needed_5 rfl (fun S_1 => ?_)
  refine a_iload_n F dX7_needed_8 rfl rfl ?_
  refine a_aload_n F dX7_needed_9 rfl rfl ?_
  refine a_aload_n F dX7_needed_10 rfl rfl ?_
  refine a_getR (k := 0) F cfX7 dX7_needed_11 fl_X7_25 (by decide) fi_7_0 zl_165 zk_165 zr_165_0 ?_
  refine a_getI (k := 4) F cfX1 dX7_needed_14 fl_X7_47 (by decide) fi_1_4 zl_1 zk_1 ?_
  refine a_callVI F (As := [.int (S_1 1 4)]) cfX7 rfl (c_X7_together X (S_1 1 4) S_1) mw_X7_together ml_X7_40 im_X7_together se_X7_together M0.2.1 (Nat.le_of_ble_eq_true rfl) ⟨Nat.zero_le _, Nat.zero_le _⟩ rfl rfl (Nat.le_of_ble_eq_true rfl) zl_165 zk_165 dX7_needed_17 rfl (fun q_2 => ?_)
  refine a_iconst F dX7_needed_20 ki_m1 ?_
  refine a_ixor F dX7_needed_21 ?_
  refine a_iand F dX7_needed_22 ?_
  refine a_if_eq F 28 dX7_needed_23 (by decide) ?_ ?_
  · refine a_iconst F dX7_needed_28 ki_0 ?_
    refine a_istore_n (L' := [some (.ref 165), some (.int p1), some (.int (0 : Int32)), none, none]) F dX7_needed_29 rfl (lt_b rfl) rfl ?_
    refine a_iconst F dX7_needed_30 ki_0 ?_
    refine a_istore_n (L' := [some (.ref 165), some (.int p1), some (.int (0 : Int32)), some (.int (0 : Int32)), none]) F dX7_needed_31 rfl (lt_b rfl) rfl ?_
    exact b_X7_needed_32 M0 FU p1 (0 : Int32) (0 : Int32) q_2.2
  · refine a_iconst F dX7_needed_26 ki_0 ?_
    exact a_iret F M0.2.2.1 M0.2.2.2 dX7_needed_27
theorem c_X7_needed (X : CX) (p1 : Int32) (S : Mm) : CtI X Z1 yX7_needed cX7_needed 5 (some .int) 5 [.ref 165, .int p1] S (f_X7_needed p1 S) :=
  ctI_of (by decide +kernel) rfl (Nat.le_of_ble_eq_true rfl) (by simp [Value.category]) z1len fun E F R hra hlk => b_X7_needed ⟨F, R, hra, hlk⟩ p1 S
def f_X10_deed (p1 p2 : Int32) (S : Mm) : Option (Int32 × Mm) :=
  (f_X10_isDeed p1 S).bind fun q_1 =>
  if q_1.1 = 0 then (
   some ((-2 : Int32), q_1.2)
  ) else (
   gd (inB p1 8 = true) <|
   nm ((q_1.2 31 (ix p1))) fun x3_2 =>
   tsw p2 0 [
    (
     some (x3_2, q_1.2)
    ),
    (
     gd (inB p1 8 = true) <|
     some ((q_1.2 30 (ix p1)), q_1.2)
    ),
    (
     gd (inB p1 8 = true) <|
     some ((q_1.2 14 (ix p1)), q_1.2)
    ),
    (
     gd (inB p1 8 = true) <|
     some ((q_1.2 15 (ix p1)), q_1.2)
    ),
    (
     gd (inB p1 8 = true) <|
     some ((q_1.2 16 (ix p1)), q_1.2)
    ),
    (
     (f_X7_signers x3_2 q_1.2).bind fun q_3 =>
     some (q_3.1, q_3.2)
    ),
    (
     (f_X7_writers x3_2 q_1.2).bind fun q_4 =>
     some (q_4.1, q_4.2)
    ),
    (
     (f_X7_needed x3_2 q_1.2).bind fun q_5 =>
     some (q_5.1, q_5.2)
    )
   ] (
    some ((-2 : Int32), q_1.2)
   )
  )
set_option maxRecDepth 20000 in
theorem b_X10_deed {X : CX} {E : FE} (M0 : MF X E RX10 cX10_deed 4 6 (some .int)) (p1 p2 : Int32) (S : Mm) : At X E false (mQi X Z1 E) 0 [some (.ref 0), some (.int p1), some (.int p2), none] [] Z1 S 0 0 (f_X10_deed p1 p2 S) := by
  have F := M0.1
  unfold f_X10_deed
  refine a_aload_n F dX10_deed_0 rfl rfl ?_
  refine a_iload_n F dX10_deed_1 rfl rfl ?_
  refine a_callVI F (As := [.int p1]) cfX10 rfl (c_X10_isDeed X p1 S) mw_X10_isDeed ml_X10_205 im_X10_isDeed se_X10_isDeed M0.2.1 (Nat.le_of_ble_eq_true rfl) ⟨Nat.zero_le _, Nat.zero_le _⟩ rfl rfl (Nat.le_of_ble_eq_true rfl) zl_0 zk_0 dX10_deed_2 rfl (fun q_1 => ?_)
  refine a_if_ne F 11 dX10_deed_5 (by decide) ?_ ?_
  · refine a_bipush F dX10_deed_8 kb_m2 ?_
    exact a_iret F M0.2.2.1 M0.2.2.2 dX10_deed_10
  · refine a_aload_n F dX10_deed_11 rfl rfl ?_
    refine a_getR (k := 1) F cfX10 dX10_deed_12 fl_X10_19 (by decide) fi_10_1 zl_0 zk_0 zr_0_1 ?_
    refine a_getR (k := 8) F cfX6 dX10_deed_15 fl_X10_217 (by decide) fi_6_8 zl_17 zk_17 zr_17_8 ?_
    refine a_iload_n F dX10_deed_18 rfl rfl ?_
    refine a_gd (a_iald F dX10_deed_19 zl_31 zk_31 ?_)
    refine a_istore_nN (L' := fun x3_2 => [some (.ref 0), some (.int p1), some (.int p2), some (.int x3_2)]) F dX10_deed_20 rfl (lt_b rfl) (fun _ => rfl) (fun x3_2 => ?_)
    refine a_iload_n F dX10_deed_21 rfl rfl ?_
    refine a_tsw F [68, 70, 80, 90, 100, 110, 119, 128] 137 dX10_deed_22 (by decide +kernel) (by decide +kernel) (by decide +kernel) ?_ ⟨?_, ?_, ?_, ?_, ?_, ?_, ?_, ?_, trivial⟩
    · refine a_bipush F dX10_deed_137 kb_m2 ?_
      exact a_iret F M0.2.2.1 M0.2.2.2 dX10_deed_139
    · refine a_iload_n F dX10_deed_68 rfl rfl ?_
      exact a_iret F M0.2.2.1 M0.2.2.2 dX10_deed_69
    · refine a_aload_n F dX10_deed_70 rfl rfl ?_
      refine a_getR (k := 1) F cfX10 dX10_deed_71 fl_X10_19 (by decide) fi_10_1 zl_0 zk_0 zr_0_1 ?_
      refine a_getR (k := 7) F cfX6 dX10_deed_74 fl_X10_261 (by decide) fi_6_7 zl_17 zk_17 zr_17_7 ?_
      refine a_iload_n F dX10_deed_77 rfl rfl ?_
      refine a_gd (a_iald F dX10_deed_78 zl_30 zk_30 ?_)
      exact a_iret F M0.2.2.1 M0.2.2.2 dX10_deed_79
    · refine a_aload_n F dX10_deed_80 rfl rfl ?_
      refine a_getR (k := 0) F cfX10 dX10_deed_81 fl_X10_12 (by decide) fi_10_0 zl_0 zk_0 zr_0_0 ?_
      refine a_getR (k := 17) F cfX1 dX10_deed_84 fl_X10_211 (by decide) fi_1_17 zl_1 zk_1 zr_1_17 ?_
      refine a_iload_n F dX10_deed_87 rfl rfl ?_
      refine a_gd (a_iald F dX10_deed_88 zl_14 zk_14 ?_)
      exact a_iret F M0.2.2.1 M0.2.2.2 dX10_deed_89
    · refine a_aload_n F dX10_deed_90 rfl rfl ?_
      refine a_getR (k := 0) F cfX10 dX10_deed_91 fl_X10_12 (by decide) fi_10_0 zl_0 zk_0 zr_0_0 ?_
      refine a_getR (k := 18) F cfX1 dX10_deed_94 fl_X10_214 (by decide) fi_1_18 zl_1 zk_1 zr_1_18 ?_
      refine a_iload_n F dX10_deed_97 rfl rfl ?_
      refine a_gd (a_iald F dX10_deed_98 zl_15 zk_15 ?_)
      exact a_iret F M0.2.2.1 M0.2.2.2 dX10_deed_99
    · refine a_aload_n F dX10_deed_100 rfl rfl ?_
      refine a_getR (k := 0) F cfX10 dX10_deed_101 fl_X10_12 (by decide) fi_10_0 zl_0 zk_0 zr_0_0 ?_
      refine a_getR (k := 19) F cfX1 dX10_deed_104 fl_X10_223 (by decide) fi_1_19 zl_1 zk_1 zr_1_19 ?_
      refine a_iload_n F dX10_deed_107 rfl rfl ?_
      refine a_gd (a_iald F dX10_deed_108 zl_16 zk_16 ?_)
      exact a_iret F M0.2.2.1 M0.2.2.2 dX10_deed_109
    · refine a_aload_n F dX10_deed_110 rfl rfl ?_
      refine a_getR (k := 4) F cfX10 dX10_deed_111 fl_X10_42 (by decide) fi_10_4 zl_0 zk_0 zr_0_4 ?_
      refine a_iload_n F dX10_deed_114 rfl rfl ?_
      refine a_callVI F (As := [.int x3_2]) cfX7 rfl (c_X7_signers X x3_2 q_1.2) mw_X7_signers ml_X10_264 im_X7_signers se_X7_signers M0.2.1 (Nat.le_of_ble_eq_true rfl) ⟨Nat.zero_le _, Nat.zero_le _⟩ rfl rfl (Nat.le_of_ble_eq_true rfl) zl_165 zk_165 dX10_deed_115 rfl (fun q_3 => ?_)
      exact a_iret F M0.2.2.1 M0.2.2.2 dX10_deed_118
    · refine a_aload_n F dX10_deed_119 rfl rfl ?_
      refine a_getR (k := 4) F cfX10 dX10_deed_120 fl_X10_42 (by decide) fi_10_4 zl_0 zk_0 zr_0_4 ?_
      refine a_iload_n F dX10_deed_123 rfl rfl ?_
      refine a_callVI F (As := [.int x3_2]) cfX7 rfl (c_X7_writers X x3_2 q_1.2) mw_X7_writers ml_X10_252 im_X7_writers se_X7_writers M0.2.1 (Nat.le_of_ble_eq_true rfl) ⟨Nat.zero_le _, Nat.zero_le _⟩ rfl rfl (Nat.le_of_ble_eq_true rfl) zl_165 zk_165 dX10_deed_124 rfl (fun q_4 => ?_)
      exact a_iret F M0.2.2.1 M0.2.2.2 dX10_deed_127
    · refine a_aload_n F dX10_deed_128 rfl rfl ?_
      refine a_getR (k := 4) F cfX10 dX10_deed_129 fl_X10_42 (by decide) fi_10_4 zl_0 zk_0 zr_0_4 ?_
      refine a_iload_n F dX10_deed_132 rfl rfl ?_
      refine a_callVI F (As := [.int x3_2]) cfX7 rfl (c_X7_needed X x3_2 q_1.2) mw_X7_needed ml_X10_267 im_X7_needed se_X7_needed M0.2.1 (Nat.le_of_ble_eq_true rfl) ⟨Nat.zero_le _, Nat.zero_le _⟩ rfl rfl (Nat.le_of_ble_eq_true rfl) zl_165 zk_165 dX10_deed_133 rfl (fun q_5 => ?_)
      exact a_iret F M0.2.2.1 M0.2.2.2 dX10_deed_136
theorem c_X10_deed (X : CX) (p1 p2 : Int32) (S : Mm) : CtI X Z1 yX10_deed cX10_deed 4 (some .int) 6 [.ref 0, .int p1, .int p2] S (f_X10_deed p1 p2 S) :=
  ctI_of (by decide +kernel) rfl (Nat.le_of_ble_eq_true rfl) (by simp [Value.category]) z1len fun E F R hra hlk => b_X10_deed ⟨F, R, hra, hlk⟩ p1 p2 S
def f_X10_isLetter_14 (S : Mm) : Option (Int32 × Mm) :=
  some ((0 : Int32), S)
set_option maxRecDepth 20000 in
theorem b_X10_isLetter_14 {X : CX} {E : FE} (M0 : MF X E RX10 cX10_isLetter 1 1 (some .boolean)) (S : Mm) : At X E false (mQi X Z1 E) 14 [none] [] Z1 S 0 0 (f_X10_isLetter_14 S) := by
  have F := M0.1
  unfold f_X10_isLetter_14
  refine a_iconst F dX10_isLetter_14 ki_0 ?_
  exact a_zretK F M0.2.2.1 M0.2.2.2 dX10_isLetter_15 (Or.inl rfl)
def f_X10_isLetter (p0 : Int32) (S : Mm) : Option (Int32 × Mm) :=
  if p0 < 0 then (
   f_X10_isLetter_14 S
  ) else (
   if (28 : Int32) ≤ p0 then (
    f_X10_isLetter_14 S
   ) else (
    some ((1 : Int32), S)
   )
  )
set_option maxRecDepth 20000 in
theorem b_X10_isLetter {X : CX} {E : FE} (M0 : MF X E RX10 cX10_isLetter 1 1 (some .boolean)) (p0 : Int32) (S : Mm) : At X E false (mQi X Z1 E) 0 [some (.int p0)] [] Z1 S 0 0 (f_X10_isLetter p0 S) := by
  have F := M0.1
  unfold f_X10_isLetter
  refine a_iload_n F dX10_isLetter_0 rfl rfl ?_
  refine a_if_lt F 14 dX10_isLetter_1 (by decide) ?_ ?_
  · refine a_mask [false] (L' := [none]) rfl rfl ?_
    exact b_X10_isLetter_14 M0 S
  · refine a_iload_n F dX10_isLetter_4 rfl rfl ?_
    refine a_bipush F dX10_isLetter_5 kb_28 ?_
    refine a_icmp_ge F 14 dX10_isLetter_7 (by decide) ?_ ?_
    · refine a_mask [false] (L' := [none]) rfl rfl ?_
      exact b_X10_isLetter_14 M0 S
    · refine a_iconst F dX10_isLetter_10 ki_1 ?_
      refine a_goto F 15 dX10_isLetter_11 (by decide) ?_
      exact a_zretK F M0.2.2.1 M0.2.2.2 dX10_isLetter_15 (Or.inr rfl)
theorem c_X10_isLetter (X : CX) (p0 : Int32) (S : Mm) : CtI X Z1 yX10_isLetter cX10_isLetter 1 (some .boolean) 1 [.int p0] S (f_X10_isLetter p0 S) :=
  ctI_of (by decide +kernel) rfl (Nat.le_of_ble_eq_true rfl) (by simp [Value.category]) z1len fun E F R hra hlk => b_X10_isLetter ⟨F, R, hra, hlk⟩ p0 S
def f_X10_duel_130 (x3 t0 : Int32) (S : Mm) : Option (Int32 × Mm) :=
  (f_X1_endLoan 1 x3 S).bind fun S_1 =>
  (f_X1_pass_32 1 x3 t0 (2 : Int32) S_1).bind fun S_2 =>
  some (t0, S_2)
set_option maxRecDepth 20000 in
theorem b_X10_duel_130 {X : CX} {E : FE} (M0 : MF X E RX10 cX10_duel 6 3 (some .int)) (x3 t0 : Int32) (S : Mm) : At X E false (mQi X Z1 E) 130 [some (.ref 0), none, none, some (.int x3), none, none] [.int t0] Z1 S 0 0 (f_X10_duel_130 x3 t0 S) := by
  have F := M0.1
  unfold f_X10_duel_130
  refine a_istore (L' := [some (.ref 0), none, none, some (.int x3), none, some (.int t0)]) F dX10_duel_130 (lt_b rfl) rfl ?_
  refine a_aload_n F dX10_duel_132 rfl rfl ?_
  refine a_getR (k := 0) F cfX10 dX10_duel_133 fl_X10_12 (by decide) fi_10_0 zl_0 zk_0 zr_0_0 ?_
  refine a_iload_n F dX10_duel_136 rfl rfl ?_
  refine a_callVV F (As := [.int x3]) cfX1 rfl (c_X1_endLoan X icl_1 x3 S) mw_X1_endLoan ml_X10_130 im_X1_endLoan se_X1_endLoan M0.2.1 (Nat.le_of_ble_eq_true rfl) ⟨Nat.zero_le _, Nat.zero_le _⟩ rfl rfl (Nat.le_of_ble_eq_true rfl) zl_1 zk_1 dX10_duel_137 rfl (fun S_1 => ?_)
  refine a_aload_n F dX10_duel_140 rfl rfl ?_
  refine a_getR (k := 0) F cfX10 dX10_duel_141 fl_X10_12 (by decide) fi_10_0 zl_0 zk_0 zr_0_0 ?_
  refine a_iload_n F dX10_duel_144 rfl rfl ?_
  refine a_iload F dX10_duel_145 rfl ?_
  refine a_iconst F dX10_duel_147 ki_2 ?_
  refine a_aload_n F dX10_duel_148 rfl rfl ?_
  refine a_getR (k := 2) F cfX10 dX10_duel_149 fl_X10_26 (by decide) fi_10_2 zl_0 zk_0 zr_0_2 ?_
  refine a_callVV F (As := [.int x3, .int t0, .int (2 : Int32), .ref 32]) cfX1 rfl (c_X1_pass_32 X icl_1 x3 t0 (2 : Int32) S_1) mw_X1_pass ml_X10_134 im_X1_pass se_X1_pass M0.2.1 (Nat.le_of_ble_eq_true rfl) ⟨Nat.zero_le _, Nat.zero_le _⟩ rfl rfl (Nat.le_of_ble_eq_true rfl) zl_1 zk_1 dX10_duel_152 rfl (fun S_2 => ?_)
  refine a_iload F dX10_duel_155 rfl ?_
  exact a_iret F M0.2.2.1 M0.2.2.2 dX10_duel_157
def f_X10_duel_64 (x1 x2 x3 : Int32) (S : Mm) : Option (Int32 × Mm) :=
  (f_X2_keep_32 1 S).bind fun S_1 =>
  gd (inB x1 12 = true) <|
  gd (inB x2 12 = true) <|
  (f_X1_draw 1 (((S_1 7 (ix x1)) + (S_1 7 (ix x2))) + (2 : Int32)) S_1).bind fun q_2 =>
  gd (inB x1 12 = true) <|
  if ((q_2.2 7 (ix x1)) + (1 : Int32)) ≤ q_2.1 then (
   f_X10_duel_130 x3 x2 q_2.2
  ) else (
   f_X10_duel_130 x3 x1 q_2.2
  )
set_option maxRecDepth 20000 in
theorem b_X10_duel_64 {X : CX} {E : FE} (M0 : MF X E RX10 cX10_duel 6 3 (some .int)) (x1 x2 x3 : Int32) (S : Mm) : At X E false (mQi X Z1 E) 64 [some (.ref 0), some (.int x1), some (.int x2), some (.int x3), none, none] [] Z1 S 0 0 (f_X10_duel_64 x1 x2 x3 S) := by
  have F := M0.1
  unfold f_X10_duel_64
  refine a_aload_n F dX10_duel_64 rfl rfl ?_
  refine a_getR (k := 3) F cfX10 dX10_duel_65 fl_X10_33 (by decide) fi_10_3 zl_0 zk_0 zr_0_3 ?_
  refine a_aload_n F dX10_duel_68 rfl rfl ?_
  refine a_getR (k := 0) F cfX10 dX10_duel_69 fl_X10_12 (by decide) fi_10_0 zl_0 zk_0 zr_0_0 ?_
  refine a_aload_n F dX10_duel_72 rfl rfl ?_
  refine a_getR (k := 2) F cfX10 dX10_duel_73 fl_X10_26 (by decide) fi_10_2 zl_0 zk_0 zr_0_2 ?_
  refine a_callVV F (As := [.ref 1, .ref 32]) cfX2 rfl (c_X2_keep_32 X icl_1 S) mw_X2_keep ml_X10_175 im_X2_keep se_X2_keep M0.2.1 (Nat.le_of_ble_eq_true rfl) ⟨Nat.zero_le _, Nat.zero_le _⟩ rfl rfl (Nat.le_of_ble_eq_true rfl) zl_34 zk_34 dX10_duel_76 rfl (fun S_1 => ?_)
  refine a_aload_n F dX10_duel_79 rfl rfl ?_
  refine a_getR (k := 0) F cfX10 dX10_duel_80 fl_X10_12 (by decide) fi_10_0 zl_0 zk_0 zr_0_0 ?_
  refine a_aload_n F dX10_duel_83 rfl rfl ?_
  refine a_getR (k := 0) F cfX10 dX10_duel_84 fl_X10_12 (by decide) fi_10_0 zl_0 zk_0 zr_0_0 ?_
  refine a_getR (k := 10) F cfX1 dX10_duel_87 fl_X10_121 (by decide) fi_1_10 zl_1 zk_1 zr_1_10 ?_
  refine a_iload_n F dX10_duel_90 rfl rfl ?_
  refine a_gd (a_iald F dX10_duel_91 zl_7 zk_7 ?_)
  refine a_aload_n F dX10_duel_92 rfl rfl ?_
  refine a_getR (k := 0) F cfX10 dX10_duel_93 fl_X10_12 (by decide) fi_10_0 zl_0 zk_0 zr_0_0 ?_
  refine a_getR (k := 10) F cfX1 dX10_duel_96 fl_X10_121 (by decide) fi_1_10 zl_1 zk_1 zr_1_10 ?_
  refine a_iload_n F dX10_duel_99 rfl rfl ?_
  refine a_gd (a_iald F dX10_duel_100 zl_7 zk_7 ?_)
  refine a_iadd F dX10_duel_101 ?_
  refine a_iconst F dX10_duel_102 ki_2 ?_
  refine a_iadd F dX10_duel_103 ?_
  refine a_callVI F (As := [.int (((S_1 7 (ix x1)) + (S_1 7 (ix x2))) + (2 : Int32))]) cfX1 rfl (c_X1_draw X icl_1 (((S_1 7 (ix x1)) + (S_1 7 (ix x2))) + (2 : Int32)) S_1) mw_X1_draw ml_X10_201 im_X1_draw se_X1_draw M0.2.1 (Nat.le_of_ble_eq_true rfl) ⟨Nat.zero_le _, Nat.zero_le _⟩ rfl rfl (Nat.le_of_ble_eq_true rfl) zl_1 zk_1 dX10_duel_104 rfl (fun q_2 => ?_)
  refine a_istore (L' := [some (.ref 0), some (.int x1), some (.int x2), some (.int x3), some (.int q_2.1), none]) F dX10_duel_107 (lt_b rfl) rfl ?_
  refine a_iload F dX10_duel_109 rfl ?_
  refine a_aload_n F dX10_duel_111 rfl rfl ?_
  refine a_getR (k := 0) F cfX10 dX10_duel_112 fl_X10_12 (by decide) fi_10_0 zl_0 zk_0 zr_0_0 ?_
  refine a_getR (k := 10) F cfX1 dX10_duel_115 fl_X10_121 (by decide) fi_1_10 zl_1 zk_1 zr_1_10 ?_
  refine a_iload_n F dX10_duel_118 rfl rfl ?_
  refine a_gd (a_iald F dX10_duel_119 zl_7 zk_7 ?_)
  refine a_iconst F dX10_duel_120 ki_1 ?_
  refine a_iadd F dX10_duel_121 ?_
  refine a_icmp_ge F 129 dX10_duel_122 (by decide) ?_ ?_
  · refine a_iload_n F dX10_duel_129 rfl rfl ?_
    refine a_mask [true, false, false, true, false, false] (L' := [some (.ref 0), none, none, some (.int x3), none, none]) rfl rfl ?_
    exact b_X10_duel_130 M0 x3 x2 q_2.2
  · refine a_iload_n F dX10_duel_125 rfl rfl ?_
    refine a_goto F 130 dX10_duel_126 (by decide) ?_
    refine a_mask [true, false, false, true, false, false] (L' := [some (.ref 0), none, none, some (.int x3), none, none]) rfl rfl ?_
    exact b_X10_duel_130 M0 x3 x1 q_2.2
def f_X10_duel (p1 p2 p3 : Int32) (S : Mm) : Option (Int32 × Mm) :=
  (f_X10_isLetter p3 S).bind fun q_1 =>
  if q_1.1 = 0 then (
   some ((-1 : Int32), q_1.2)
  ) else (
   if p1 = p2 then (
    some ((-1 : Int32), q_1.2)
   ) else (
    (f_X1_lives 1 p1 q_1.2).bind fun q_2 =>
    if q_2.1 = 0 then (
     some ((-1 : Int32), q_2.2)
    ) else (
     (f_X1_lives 1 p2 q_2.2).bind fun q_3 =>
     if q_3.1 = 0 then (
      some ((-1 : Int32), q_3.2)
     ) else (
      gd (inB p3 28 = true) <|
      if (q_3.2 11 (ix p3)) = p1 then (
       f_X10_duel_64 p1 p2 p3 q_3.2
      ) else (
       gd (inB p3 28 = true) <|
       if (q_3.2 11 (ix p3)) = p2 then (
        f_X10_duel_64 p1 p2 p3 q_3.2
       ) else (
        some ((-1 : Int32), q_3.2)
       )
      )
     )
    )
   )
  )
set_option maxRecDepth 20000 in
theorem b_X10_duel {X : CX} {E : FE} (M0 : MF X E RX10 cX10_duel 6 3 (some .int)) (p1 p2 p3 : Int32) (S : Mm) : At X E false (mQi X Z1 E) 0 [some (.ref 0), some (.int p1), some (.int p2), some (.int p3), none, none] [] Z1 S 0 0 (f_X10_duel p1 p2 p3 S) := by
  have F := M0.1
  unfold f_X10_duel
  refine a_iload_n F dX10_duel_0 rfl rfl ?_
  refine a_callSI F (As := [.int p3]) (c_X10_isLetter X p3 S) mw_X10_isLetter ml_X10_127 st_X10_isLetter M0.2.1 (Nat.le_of_ble_eq_true rfl) ⟨Nat.zero_le _, Nat.zero_le _⟩ rfl rfl (Nat.le_of_ble_eq_true rfl) dX10_duel_1 rfl (fun q_1 => ?_)
  refine a_if_eq F 34 dX10_duel_4 (by decide) ?_ ?_
  · refine a_iconst F dX10_duel_34 ki_m1 ?_
    exact a_iret F M0.2.2.1 M0.2.2.2 dX10_duel_35
  · refine a_iload_n F dX10_duel_7 rfl rfl ?_
    refine a_iload_n F dX10_duel_8 rfl rfl ?_
    refine a_icmp_eq F 34 dX10_duel_9 (by decide) ?_ ?_
    · refine a_iconst F dX10_duel_34 ki_m1 ?_
      exact a_iret F M0.2.2.1 M0.2.2.2 dX10_duel_35
    · refine a_aload_n F dX10_duel_12 rfl rfl ?_
      refine a_getR (k := 0) F cfX10 dX10_duel_13 fl_X10_12 (by decide) fi_10_0 zl_0 zk_0 zr_0_0 ?_
      refine a_iload_n F dX10_duel_16 rfl rfl ?_
      refine a_callVI F (As := [.int p1]) cfX1 rfl (c_X1_lives X icl_1 p1 q_1.2) mw_X1_lives ml_X10_104 im_X1_lives se_X1_lives M0.2.1 (Nat.le_of_ble_eq_true rfl) ⟨Nat.zero_le _, Nat.zero_le _⟩ rfl rfl (Nat.le_of_ble_eq_true rfl) zl_1 zk_1 dX10_duel_17 rfl (fun q_2 => ?_)
      refine a_if_eq F 34 dX10_duel_20 (by decide) ?_ ?_
      · refine a_iconst F dX10_duel_34 ki_m1 ?_
        exact a_iret F M0.2.2.1 M0.2.2.2 dX10_duel_35
      · refine a_aload_n F dX10_duel_23 rfl rfl ?_
        refine a_getR (k := 0) F cfX10 dX10_duel_24 fl_X10_12 (by decide) fi_10_0 zl_0 zk_0 zr_0_0 ?_
        refine a_iload_n F dX10_duel_27 rfl rfl ?_
        refine a_callVI F (As := [.int p2]) cfX1 rfl (c_X1_lives X icl_1 p2 q_2.2) mw_X1_lives ml_X10_104 im_X1_lives se_X1_lives M0.2.1 (Nat.le_of_ble_eq_true rfl) ⟨Nat.zero_le _, Nat.zero_le _⟩ rfl rfl (Nat.le_of_ble_eq_true rfl) zl_1 zk_1 dX10_duel_28 rfl (fun q_3 => ?_)
        refine a_if_ne F 36 dX10_duel_31 (by decide) ?_ ?_
        · refine a_iconst F dX10_duel_34 ki_m1 ?_
          exact a_iret F M0.2.2.1 M0.2.2.2 dX10_duel_35
        · refine a_aload_n F dX10_duel_36 rfl rfl ?_
          refine a_getR (k := 0) F cfX10 dX10_duel_37 fl_X10_12 (by decide) fi_10_0 zl_0 zk_0 zr_0_0 ?_
          refine a_getR (k := 14) F cfX1 dX10_duel_40 fl_X10_192 (by decide) fi_1_14 zl_1 zk_1 zr_1_14 ?_
          refine a_iload_n F dX10_duel_43 rfl rfl ?_
          refine a_gd (a_iald F dX10_duel_44 zl_11 zk_11 ?_)
          refine a_iload_n F dX10_duel_45 rfl rfl ?_
          refine a_icmp_eq F 64 dX10_duel_46 (by decide) ?_ ?_
          · exact b_X10_duel_64 M0 p1 p2 p3 q_3.2
          · refine a_aload_n F dX10_duel_49 rfl rfl ?_
            refine a_getR (k := 0) F cfX10 dX10_duel_50 fl_X10_12 (by decide) fi_10_0 zl_0 zk_0 zr_0_0 ?_
            refine a_getR (k := 14) F cfX1 dX10_duel_53 fl_X10_192 (by decide) fi_1_14 zl_1 zk_1 zr_1_14 ?_
            refine a_iload_n F dX10_duel_56 rfl rfl ?_
            refine a_gd (a_iald F dX10_duel_57 zl_11 zk_11 ?_)
            refine a_iload_n F dX10_duel_58 rfl rfl ?_
            refine a_icmp_eq F 64 dX10_duel_59 (by decide) ?_ ?_
            · exact b_X10_duel_64 M0 p1 p2 p3 q_3.2
            · refine a_iconst F dX10_duel_62 ki_m1 ?_
              exact a_iret F M0.2.2.1 M0.2.2.2 dX10_duel_63
theorem c_X10_duel (X : CX) (p1 p2 p3 : Int32) (S : Mm) : CtI X Z1 yX10_duel cX10_duel 6 (some .int) 3 [.ref 0, .int p1, .int p2, .int p3] S (f_X10_duel p1 p2 p3 S) :=
  ctI_of (by decide +kernel) rfl (Nat.le_of_ble_eq_true rfl) (by simp [Value.category]) z1len fun E F R hra hlk => b_X10_duel ⟨F, R, hra, hlk⟩ p1 p2 p3 S
def f_X7_speechless_49 (k12 : Int32 → Int32 → Mm → Option (Int32 × Mm)) (x1 x2 : Int32) (S : Mm) : Option (Int32 × Mm) :=
  nm (x2 + (1 : Int32)) fun x2_1 =>
  k12 x1 x2_1 S
set_option maxRecDepth 20000 in
theorem b_X7_speechless_49 {X : CX} {E : FE} (M0 : MF X E RX7 cX7_speechless 3 5 (some .int)) {k12 : Int32 → Int32 → Mm → Option (Int32 × Mm)} (hk12 : ∀ (x1 x2 : Int32) (S : Mm), At X E false (mQi X Z1 E) 12 [some (.ref 165), some (.int x1), some (.int x2)] [] Z1 S 0 0 (k12 x1 x2 S)) (x1 x2 : Int32) (S : Mm) : At X E false (mQi X Z1 E) 49 [some (.ref 165), some (.int x1), some (.int x2)] [] Z1 S 0 0 (f_X7_speechless_49 k12 x1 x2 S) := by
  have F := M0.1
  unfold f_X7_speechless_49
  refine a_iincN (L' := fun x2_1 => [some (.ref 165), some (.int x1), some (.int x2_1)]) F dX7_speechless_49 rfl ki_1 (lt_b rfl) (fun _ => rfl) (fun x2_1 => ?_)
  refine a_goto F 12 dX7_speechless_52 (by decide) ?_
  exact hk12 x1 x2_1 S
def f_X7_speechless_12b (k12 : Int32 → Int32 → Mm → Option (Int32 × Mm)) (x1 x2 : Int32) (S : Mm) : Option (Int32 × Mm) :=
  if (S 1 3) ≤ x2 then (
   some (x1, S)
  ) else (
   (f_X1_lives 1 x2 S).bind fun q_1 =>
   if q_1.1 = 0 then (
    f_X7_speechless_49 k12 x1 x2 q_1.2
   ) else (
    gd (inB x2 12 = true) <|
    if (q_1.2 182 (ix x2)) = 0 then (
     nm ((x1 ||| (shl (1 : Int32) x2))) fun x1_2 =>
     f_X7_speechless_49 k12 x1_2 x2 q_1.2
    ) else (
     f_X7_speechless_49 k12 x1 x2 q_1.2
    )
   )
  )
set_option maxRecDepth 20000 in
theorem b_X7_speechless_12b {X : CX} {E : FE} (M0 : MF X E RX7 cX7_speechless 3 5 (some .int)) {k12 : Int32 → Int32 → Mm → Option (Int32 × Mm)} (hk12 : ∀ (x1 x2 : Int32) (S : Mm), At X E false (mQi X Z1 E) 12 [some (.ref 165), some (.int x1), some (.int x2)] [] Z1 S 0 0 (k12 x1 x2 S)) (x1 x2 : Int32) (S : Mm) : At X E false (mQi X Z1 E) 12 [some (.ref 165), some (.int x1), some (.int x2)] [] Z1 S 0 0 (f_X7_speechless_12b k12 x1 x2 S) := by
  have F := M0.1
  unfold f_X7_speechless_12b
  refine a_iload_n F dX7_speechless_12 rfl rfl ?_
  refine a_aload_n F dX7_speechless_13 rfl rfl ?_
  refine a_getR (k := 0) F cfX7 dX7_speechless_14 fl_X7_25 (by decide) fi_7_0 zl_165 zk_165 zr_165_0 ?_
  refine a_getI (k := 3) F cfX1 dX7_speechless_17 fl_X7_43 (by decide) fi_1_3 zl_1 zk_1 ?_
  refine a_icmp_ge F 55 dX7_speechless_20 (by decide) ?_ ?_
  · refine a_iload_n F dX7_speechless_55 rfl rfl ?_
    exact a_iret F M0.2.2.1 M0.2.2.2 dX7_speechless_56
  · refine a_aload_n F dX7_speechless_23 rfl rfl ?_
    refine a_getR (k := 0) F cfX7 dX7_speechless_24 fl_X7_25 (by decide) fi_7_0 zl_165 zk_165 zr_165_0 ?_
    refine a_iload_n F dX7_speechless_27 rfl rfl ?_
    refine a_callVI F (As := [.int x2]) cfX1 rfl (c_X1_lives X icl_1 x2 S) mw_X1_lives ml_X7_55 im_X1_lives se_X1_lives M0.2.1 (Nat.le_of_ble_eq_true rfl) ⟨Nat.zero_le _, Nat.zero_le _⟩ rfl rfl (Nat.le_of_ble_eq_true rfl) zl_1 zk_1 dX7_speechless_28 rfl (fun q_1 => ?_)
    refine a_if_eq F 49 dX7_speechless_31 (by decide) ?_ ?_
    · exact b_X7_speechless_49 M0 hk12 x1 x2 q_1.2
    · refine a_aload_n F dX7_speechless_34 rfl rfl ?_
      refine a_getR (k := 3) F cfX7 dX7_speechless_35 fl_X7_18 (by decide) fi_7_3 zl_165 zk_165 zr_165_3 ?_
      refine a_iload_n F dX7_speechless_38 rfl rfl ?_
      refine a_gd (a_iald F dX7_speechless_39 zl_182 zk_182 ?_)
      refine a_if_ne F 49 dX7_speechless_40 (by decide) ?_ ?_
      · refine a_iload_n F dX7_speechless_43 rfl rfl ?_
        refine a_iconst F dX7_speechless_44 ki_1 ?_
        refine a_iload_n F dX7_speechless_45 rfl rfl ?_
        refine a_ishl F dX7_speechless_46 ?_
        refine a_ior F dX7_speechless_47 ?_
        refine a_istore_nN (L' := fun x1_2 => [some (.ref 165), some (.int x1_2), some (.int x2)]) F dX7_speechless_48 rfl (lt_b rfl) (fun _ => rfl) (fun x1_2 => ?_)
        exact b_X7_speechless_49 M0 hk12 x1_2 x2 q_1.2
      · exact b_X7_speechless_49 M0 hk12 x1 x2 q_1.2
def f_X7_speechless_12 : Nat → Int32 → Int32 → Mm → Option (Int32 × Mm) :=
  itr (fun _ _ _ => none) (fun k => f_X7_speechless_12b k)
theorem b_X7_speechless_12 {X : CX} {E : FE} (M0 : MF X E RX7 cX7_speechless 3 5 (some .int)) : ∀ (n : Nat) (x1 x2 : Int32) (S : Mm), At X E false (mQi X Z1 E) 12 [some (.ref 165), some (.int x1), some (.int x2)] [] Z1 S 0 0 (f_X7_speechless_12  n x1 x2 S) := by
  intro n
  induction n with
  | zero => intros; exact a_none
  | succ n ih => intro x1 x2 S; exact b_X7_speechless_12b M0 ih x1 x2 S
def f_X7_speechless (S : Mm) : Option (Int32 × Mm) :=
  (f_X7_ask 1 S).bind fun S_1 =>
  f_X7_speechless_12 FU (0 : Int32) (0 : Int32) S_1
set_option maxRecDepth 20000 in
theorem b_X7_speechless {X : CX} {E : FE} (M0 : MF X E RX7 cX7_speechless 3 5 (some .int)) (S : Mm) : At X E false (mQi X Z1 E) 0 [some (.ref 165), none, none] [] Z1 S 0 0 (f_X7_speechless S) := by
  have F := M0.1
  unfold f_X7_speechless
  refine a_aload_n F dX7_speechless_0 rfl rfl ?_
  refine a_aload_n F dX7_speechless_1 rfl rfl ?_
  refine a_getR (k := 0) F cfX7 dX7_speechless_2 fl_X7_25 (by decide) fi_7_0 zl_165 zk_165 zr_165_0 ?_
  refine a_callVV F (As := [.ref 1]) cfX7 rfl (c_X7_ask X icl_1 S) mw_X7_ask ml_X7_36 im_X7_ask se_X7_ask M0.2.1 (Nat.le_of_ble_eq_true rfl) ⟨Nat.zero_le _, Nat.zero_le _⟩ rfl rfl (Nat.le_of_ble_eq_true rfl) zl_165 zk_165 dX7_speechless_5 rfl (fun S_1 => ?_)
  refine a_iconst F dX7_speechless_8 ki_0 ?_
  refine a_istore_n (L' := [some (.ref 165), some (.int (0 : Int32)), none]) F dX7_speechless_9 rfl (lt_b rfl) rfl ?_
  refine a_iconst F dX7_speechless_10 ki_0 ?_
  refine a_istore_n (L' := [some (.ref 165), some (.int (0 : Int32)), some (.int (0 : Int32))]) F dX7_speechless_11 rfl (lt_b rfl) rfl ?_
  exact b_X7_speechless_12 M0 FU (0 : Int32) (0 : Int32) S_1
theorem c_X7_speechless (X : CX) (S : Mm) : CtI X Z1 yX7_speechless cX7_speechless 3 (some .int) 5 [.ref 165] S (f_X7_speechless S) :=
  ctI_of (by decide +kernel) rfl (Nat.le_of_ble_eq_true rfl) (by simp [Value.category]) z1len fun E F R hra hlk => b_X7_speechless ⟨F, R, hra, hlk⟩ S
def f_X10_dumb (S : Mm) : Option (Int32 × Mm) :=
  (f_X7_speechless S).bind fun q_1 =>
  some (q_1.1, q_1.2)
set_option maxRecDepth 20000 in
theorem b_X10_dumb {X : CX} {E : FE} (M0 : MF X E RX10 cX10_dumb 1 6 (some .int)) (S : Mm) : At X E false (mQi X Z1 E) 0 [some (.ref 0)] [] Z1 S 0 0 (f_X10_dumb S) := by
  have F := M0.1
  unfold f_X10_dumb
  refine a_aload_n F dX10_dumb_0 rfl rfl ?_
  refine a_getR (k := 4) F cfX10 dX10_dumb_1 fl_X10_42 (by decide) fi_10_4 zl_0 zk_0 zr_0_4 ?_
  refine a_callVI F (As := []) cfX7 rfl (c_X7_speechless X S) mw_X7_speechless ml_X10_315 im_X7_speechless se_X7_speechless M0.2.1 (Nat.le_of_ble_eq_true rfl) ⟨Nat.zero_le _, Nat.zero_le _⟩ rfl rfl (Nat.le_of_ble_eq_true rfl) zl_165 zk_165 dX10_dumb_4 rfl (fun q_1 => ?_)
  exact a_iret F M0.2.2.1 M0.2.2.2 dX10_dumb_7
theorem c_X10_dumb (X : CX) (S : Mm) : CtI X Z1 yX10_dumb cX10_dumb 1 (some .int) 6 [.ref 0] S (f_X10_dumb S) :=
  ctI_of (by decide +kernel) rfl (Nat.le_of_ble_eq_true rfl) (by simp [Value.category]) z1len fun E F R hra hlk => b_X10_dumb ⟨F, R, hra, hlk⟩ S
def f_X10_end (p1 : Int32) (S : Mm) : Option (Int32 × Mm) :=
  if p1 < 0 then (
   some ((0 : Int32), S)
  ) else (
   if p1 ≤ (S 184 1) then (
    nm (uM S 184 1 p1) fun S_1 =>
    some ((1 : Int32), S_1)
   ) else (
    some ((0 : Int32), S)
   )
  )
set_option maxRecDepth 20000 in
theorem b_X10_end {X : CX} {E : FE} (M0 : MF X E RX10 cX10_end 2 1 (some .boolean)) (p1 : Int32) (S : Mm) : At X E false (mQi X Z1 E) 0 [some (.ref 0), some (.int p1)] [] Z1 S 0 0 (f_X10_end p1 S) := by
  have F := M0.1
  unfold f_X10_end
  refine a_iload_n F dX10_end_0 rfl rfl ?_
  refine a_if_lt F 15 dX10_end_1 (by decide) ?_ ?_
  · refine a_iconst F dX10_end_15 ki_0 ?_
    exact a_zretK F M0.2.2.1 M0.2.2.2 dX10_end_16 (Or.inl rfl)
  · refine a_iload_n F dX10_end_4 rfl rfl ?_
    refine a_aload_n F dX10_end_5 rfl rfl ?_
    refine a_getR (k := 5) F cfX10 dX10_end_6 fl_X10_49 (by decide) fi_10_5 zl_0 zk_0 zr_0_5 ?_
    refine a_getI (k := 1) F cfX5 dX10_end_9 fl_X10_138 (by decide) fi_5_1 zl_184 zk_184 ?_
    refine a_icmp_le F 17 dX10_end_12 (by decide) ?_ ?_
    · refine a_aload_n F dX10_end_17 rfl rfl ?_
      refine a_getR (k := 5) F cfX10 dX10_end_18 fl_X10_49 (by decide) fi_10_5 zl_0 zk_0 zr_0_5 ?_
      refine a_iload_n F dX10_end_21 rfl rfl ?_
      refine a_putI (k := 1) F cfX5 dX10_end_22 fl_X10_138 (by decide) fi_5_1 rfl rfl zl_184 zk_184 ?_
      refine a_nmS (fun S_1 => ?_)
      refine a_iconst F dX10_end_25 ki_1 ?_
      exact a_zretK F M0.2.2.1 M0.2.2.2 dX10_end_26 (Or.inr rfl)
    · refine a_iconst F dX10_end_15 ki_0 ?_
      exact a_zretK F M0.2.2.1 M0.2.2.2 dX10_end_16 (Or.inl rfl)
theorem c_X10_end (X : CX) (p1 : Int32) (S : Mm) : CtI X Z1 yX10_end cX10_end 2 (some .boolean) 1 [.ref 0, .int p1] S (f_X10_end p1 S) :=
  ctI_of (by decide +kernel) rfl (Nat.le_of_ble_eq_true rfl) (by simp [Value.category]) z1len fun E F R hra hlk => b_X10_end ⟨F, R, hra, hlk⟩ p1 S
def f_X10_fault (p1 : Int32) (S : Mm) : Option (Int32 × Mm) :=
  if p1 = 0 then (
   some ((S 184 2), S)
  ) else (
   if p1 = (1 : Int32) then (
    some ((S 184 3), S)
   ) else (
    some ((-1 : Int32), S)
   )
  )
set_option maxRecDepth 20000 in
theorem b_X10_fault {X : CX} {E : FE} (M0 : MF X E RX10 cX10_fault 2 1 (some .int)) (p1 : Int32) (S : Mm) : At X E false (mQi X Z1 E) 0 [some (.ref 0), some (.int p1)] [] Z1 S 0 0 (f_X10_fault p1 S) := by
  have F := M0.1
  unfold f_X10_fault
  refine a_iload_n F dX10_fault_0 rfl rfl ?_
  refine a_if_ne F 12 dX10_fault_1 (by decide) ?_ ?_
  · refine a_aload_n F dX10_fault_4 rfl rfl ?_
    refine a_getR (k := 5) F cfX10 dX10_fault_5 fl_X10_49 (by decide) fi_10_5 zl_0 zk_0 zr_0_5 ?_
    refine a_getI (k := 2) F cfX5 dX10_fault_8 fl_X10_165 (by decide) fi_5_2 zl_184 zk_184 ?_
    exact a_iret F M0.2.2.1 M0.2.2.2 dX10_fault_11
  · refine a_iload_n F dX10_fault_12 rfl rfl ?_
    refine a_iconst F dX10_fault_13 ki_1 ?_
    refine a_icmp_ne F 25 dX10_fault_14 (by decide) ?_ ?_
    · refine a_aload_n F dX10_fault_17 rfl rfl ?_
      refine a_getR (k := 5) F cfX10 dX10_fault_18 fl_X10_49 (by decide) fi_10_5 zl_0 zk_0 zr_0_5 ?_
      refine a_getI (k := 3) F cfX5 dX10_fault_21 fl_X10_168 (by decide) fi_5_3 zl_184 zk_184 ?_
      exact a_iret F M0.2.2.1 M0.2.2.2 dX10_fault_24
    · refine a_iconst F dX10_fault_25 ki_m1 ?_
      exact a_iret F M0.2.2.1 M0.2.2.2 dX10_fault_26
theorem c_X10_fault (X : CX) (p1 : Int32) (S : Mm) : CtI X Z1 yX10_fault cX10_fault 2 (some .int) 1 [.ref 0, .int p1] S (f_X10_fault p1 S) :=
  ctI_of (by decide +kernel) rfl (Nat.le_of_ble_eq_true rfl) (by simp [Value.category]) z1len fun E F R hra hlk => b_X10_fault ⟨F, R, hra, hlk⟩ p1 S
def f_X5_add_3b (k3 : Int32 → Int32 → Mm → Option Mm) (x1 x2 : Int32) (S : Mm) : Option Mm :=
  if x2 < 0 then (
   some S
  ) else (
   if (S 184 1) < (400 : Int32) then (
    gd (inB (S 184 1) 400 = true) <|
    nm (uM S 185 (ix (S 184 1)) ((ushr x1 x2) &&& (255 : Int32))) fun S_1 =>
    nm (uM S_1 184 1 ((S_1 184 1) + (1 : Int32))) fun S_2 =>
    nm (x2 + (-8 : Int32)) fun x2_3 =>
    k3 x1 x2_3 S_2
   ) else (
    some S
   )
  )
set_option maxRecDepth 20000 in
theorem b_X5_add_3b {X : CX} {E : FE} (M0 : MF X E RX5 cX5_add 3 1 none) {k3 : Int32 → Int32 → Mm → Option Mm} (hk3 : ∀ (x1 x2 : Int32) (S : Mm), At X E false (mQv X Z1 E) 3 [some (.ref 184), some (.int x1), some (.int x2)] [] Z1 S 0 0 (k3 x1 x2 S)) (x1 x2 : Int32) (S : Mm) : At X E false (mQv X Z1 E) 3 [some (.ref 184), some (.int x1), some (.int x2)] [] Z1 S 0 0 (f_X5_add_3b k3 x1 x2 S) := by
  have F := M0.1
  unfold f_X5_add_3b
  refine a_iload_n F dX5_add_3 rfl rfl ?_
  refine a_if_lt F 50 dX5_add_4 (by decide) ?_ ?_
  · exact a_vret F M0.2.2.1 M0.2.2.2 dX5_add_50
  · refine a_aload_n F dX5_add_7 rfl rfl ?_
    refine a_getI (k := 1) F cfX5 dX5_add_8 fl_X5_15 (by decide) fi_5_1 zl_184 zk_184 ?_
    refine a_sipush F dX5_add_11 ks_400 ?_
    refine a_icmp_lt F 18 dX5_add_14 (by decide) ?_ ?_
    · refine a_aload_n F dX5_add_18 rfl rfl ?_
      refine a_getR (k := 0) F cfX5 dX5_add_19 fl_X5_9 (by decide) fi_5_0 zl_184 zk_184 zr_184_0 ?_
      refine a_aload_n F dX5_add_22 rfl rfl ?_
      refine a_getI (k := 1) F cfX5 dX5_add_23 fl_X5_15 (by decide) fi_5_1 zl_184 zk_184 ?_
      refine a_iload_n F dX5_add_26 rfl rfl ?_
      refine a_iload_n F dX5_add_27 rfl rfl ?_
      refine a_iushr F dX5_add_28 ?_
      refine a_sipush F dX5_add_29 ks_255 ?_
      refine a_iand F dX5_add_32 ?_
      refine a_gd (a_iast F dX5_add_33 zl_185 zk_185 ?_)
      refine a_nmS (fun S_1 => ?_)
      refine a_aload_n F dX5_add_34 rfl rfl ?_
      refine a_dup F dX5_add_35 rfl ?_
      refine a_getI (k := 1) F cfX5 dX5_add_36 fl_X5_15 (by decide) fi_5_1 zl_184 zk_184 ?_
      refine a_iconst F dX5_add_39 ki_1 ?_
      refine a_iadd F dX5_add_40 ?_
      refine a_putI (k := 1) F cfX5 dX5_add_41 fl_X5_15 (by decide) fi_5_1 rfl rfl zl_184 zk_184 ?_
      refine a_nmS (fun S_2 => ?_)
      refine a_iincN (L' := fun x2_3 => [some (.ref 184), some (.int x1), some (.int x2_3)]) F dX5_add_44 rfl ki_m8 (lt_b rfl) (fun _ => rfl) (fun x2_3 => ?_)
      refine a_goto F 3 dX5_add_47 (by decide) ?_
      exact hk3 x1 x2_3 S_2
    · exact a_vret F M0.2.2.1 M0.2.2.2 dX5_add_17
def f_X5_add_3 : Nat → Int32 → Int32 → Mm → Option Mm :=
  itr (fun _ _ _ => none) (fun k => f_X5_add_3b k)
theorem b_X5_add_3 {X : CX} {E : FE} (M0 : MF X E RX5 cX5_add 3 1 none) : ∀ (n : Nat) (x1 x2 : Int32) (S : Mm), At X E false (mQv X Z1 E) 3 [some (.ref 184), some (.int x1), some (.int x2)] [] Z1 S 0 0 (f_X5_add_3  n x1 x2 S) := by
  intro n
  induction n with
  | zero => intros; exact a_none
  | succ n ih => intro x1 x2 S; exact b_X5_add_3b M0 ih x1 x2 S
def f_X5_add (p1 : Int32) (S : Mm) : Option Mm :=
  f_X5_add_3 FU p1 (24 : Int32) S
set_option maxRecDepth 20000 in
theorem b_X5_add {X : CX} {E : FE} (M0 : MF X E RX5 cX5_add 3 1 none) (p1 : Int32) (S : Mm) : At X E false (mQv X Z1 E) 0 [some (.ref 184), some (.int p1), none] [] Z1 S 0 0 (f_X5_add p1 S) := by
  have F := M0.1
  unfold f_X5_add
  refine a_bipush F dX5_add_0 kb_24 ?_
  refine a_istore_n (L' := [some (.ref 184), some (.int p1), some (.int (24 : Int32))]) F dX5_add_2 rfl (lt_b rfl) rfl ?_
  exact b_X5_add_3 M0 FU p1 (24 : Int32) S
theorem c_X5_add (X : CX) (p1 : Int32) (S : Mm) : CtV X Z1 yX5_add cX5_add 3 1 [.ref 184, .int p1] S (f_X5_add p1 S) :=
  ctV_of (by decide +kernel) rfl (Nat.le_of_ble_eq_true rfl) (by simp [Value.category]) z1len fun E F R hra hlk => b_X5_add ⟨F, R, hra, hlk⟩ p1 S
def f_X10_feed (p1 p2 p3 p4 p5 : Int32) (S : Mm) : Option (Int32 × Mm) :=
  if ((S 184 1) + (20 : Int32)) ≤ (400 : Int32) then (
   (f_X5_add p1 S).bind fun S_1 =>
   (f_X5_add p2 S_1).bind fun S_2 =>
   (f_X5_add p3 S_2).bind fun S_3 =>
   (f_X5_add p4 S_3).bind fun S_4 =>
   (f_X5_add p5 S_4).bind fun S_5 =>
   some ((S_5 184 1), S_5)
  ) else (
   some ((-1 : Int32), S)
  )
set_option maxRecDepth 20000 in
theorem b_X10_feed {X : CX} {E : FE} (M0 : MF X E RX10 cX10_feed 6 2 (some .int)) (p1 p2 p3 p4 p5 : Int32) (S : Mm) : At X E false (mQi X Z1 E) 0 [some (.ref 0), some (.int p1), some (.int p2), some (.int p3), some (.int p4), some (.int p5)] [] Z1 S 0 0 (f_X10_feed p1 p2 p3 p4 p5 S) := by
  have F := M0.1
  unfold f_X10_feed
  refine a_aload_n F dX10_feed_0 rfl rfl ?_
  refine a_getR (k := 5) F cfX10 dX10_feed_1 fl_X10_49 (by decide) fi_10_5 zl_0 zk_0 zr_0_5 ?_
  refine a_getI (k := 1) F cfX5 dX10_feed_4 fl_X10_138 (by decide) fi_5_1 zl_184 zk_184 ?_
  refine a_bipush F dX10_feed_7 kb_20 ?_
  refine a_iadd F dX10_feed_9 ?_
  refine a_sipush F dX10_feed_10 ks_400 ?_
  refine a_icmp_le F 18 dX10_feed_13 (by decide) ?_ ?_
  · refine a_aload_n F dX10_feed_18 rfl rfl ?_
    refine a_getR (k := 5) F cfX10 dX10_feed_19 fl_X10_49 (by decide) fi_10_5 zl_0 zk_0 zr_0_5 ?_
    refine a_iload_n F dX10_feed_22 rfl rfl ?_
    refine a_callVV F (As := [.int p1]) cfX5 rfl (c_X5_add X p1 S) mw_X5_add ml_X10_141 im_X5_add se_X5_add M0.2.1 (Nat.le_of_ble_eq_true rfl) ⟨Nat.zero_le _, Nat.zero_le _⟩ rfl rfl (Nat.le_of_ble_eq_true rfl) zl_184 zk_184 dX10_feed_23 rfl (fun S_1 => ?_)
    refine a_aload_n F dX10_feed_26 rfl rfl ?_
    refine a_getR (k := 5) F cfX10 dX10_feed_27 fl_X10_49 (by decide) fi_10_5 zl_0 zk_0 zr_0_5 ?_
    refine a_iload_n F dX10_feed_30 rfl rfl ?_
    refine a_callVV F (As := [.int p2]) cfX5 rfl (c_X5_add X p2 S_1) mw_X5_add ml_X10_141 im_X5_add se_X5_add M0.2.1 (Nat.le_of_ble_eq_true rfl) ⟨Nat.zero_le _, Nat.zero_le _⟩ rfl rfl (Nat.le_of_ble_eq_true rfl) zl_184 zk_184 dX10_feed_31 rfl (fun S_2 => ?_)
    refine a_aload_n F dX10_feed_34 rfl rfl ?_
    refine a_getR (k := 5) F cfX10 dX10_feed_35 fl_X10_49 (by decide) fi_10_5 zl_0 zk_0 zr_0_5 ?_
    refine a_iload_n F dX10_feed_38 rfl rfl ?_
    refine a_callVV F (As := [.int p3]) cfX5 rfl (c_X5_add X p3 S_2) mw_X5_add ml_X10_141 im_X5_add se_X5_add M0.2.1 (Nat.le_of_ble_eq_true rfl) ⟨Nat.zero_le _, Nat.zero_le _⟩ rfl rfl (Nat.le_of_ble_eq_true rfl) zl_184 zk_184 dX10_feed_39 rfl (fun S_3 => ?_)
    refine a_aload_n F dX10_feed_42 rfl rfl ?_
    refine a_getR (k := 5) F cfX10 dX10_feed_43 fl_X10_49 (by decide) fi_10_5 zl_0 zk_0 zr_0_5 ?_
    refine a_iload F dX10_feed_46 rfl ?_
    refine a_callVV F (As := [.int p4]) cfX5 rfl (c_X5_add X p4 S_3) mw_X5_add ml_X10_141 im_X5_add se_X5_add M0.2.1 (Nat.le_of_ble_eq_true rfl) ⟨Nat.zero_le _, Nat.zero_le _⟩ rfl rfl (Nat.le_of_ble_eq_true rfl) zl_184 zk_184 dX10_feed_48 rfl (fun S_4 => ?_)
    refine a_aload_n F dX10_feed_51 rfl rfl ?_
    refine a_getR (k := 5) F cfX10 dX10_feed_52 fl_X10_49 (by decide) fi_10_5 zl_0 zk_0 zr_0_5 ?_
    refine a_iload F dX10_feed_55 rfl ?_
    refine a_callVV F (As := [.int p5]) cfX5 rfl (c_X5_add X p5 S_4) mw_X5_add ml_X10_141 im_X5_add se_X5_add M0.2.1 (Nat.le_of_ble_eq_true rfl) ⟨Nat.zero_le _, Nat.zero_le _⟩ rfl rfl (Nat.le_of_ble_eq_true rfl) zl_184 zk_184 dX10_feed_57 rfl (fun S_5 => ?_)
    refine a_aload_n F dX10_feed_60 rfl rfl ?_
    refine a_getR (k := 5) F cfX10 dX10_feed_61 fl_X10_49 (by decide) fi_10_5 zl_0 zk_0 zr_0_5 ?_
    refine a_getI (k := 1) F cfX5 dX10_feed_64 fl_X10_138 (by decide) fi_5_1 zl_184 zk_184 ?_
    exact a_iret F M0.2.2.1 M0.2.2.2 dX10_feed_67
  · refine a_iconst F dX10_feed_16 ki_m1 ?_
    exact a_iret F M0.2.2.1 M0.2.2.2 dX10_feed_17
theorem c_X10_feed (X : CX) (p1 p2 p3 p4 p5 : Int32) (S : Mm) : CtI X Z1 yX10_feed cX10_feed 6 (some .int) 2 [.ref 0, .int p1, .int p2, .int p3, .int p4, .int p5] S (f_X10_feed p1 p2 p3 p4 p5 S) :=
  ctI_of (by decide +kernel) rfl (Nat.le_of_ble_eq_true rfl) (by simp [Value.category]) z1len fun E F R hra hlk => b_X10_feed ⟨F, R, hra, hlk⟩ p1 p2 p3 p4 p5 S
def f_X10_mayHandOver_63 (S : Mm) : Option (Int32 × Mm) :=
  some ((0 : Int32), S)
set_option maxRecDepth 20000 in
theorem b_X10_mayHandOver_63 {X : CX} {E : FE} (M0 : MF X E RX10 cX10_mayHandOver 4 3 (some .boolean)) (S : Mm) : At X E false (mQi X Z1 E) 63 [none, none, none, none] [] Z1 S 0 0 (f_X10_mayHandOver_63 S) := by
  have F := M0.1
  unfold f_X10_mayHandOver_63
  refine a_iconst F dX10_mayHandOver_63 ki_0 ?_
  exact a_zretK F M0.2.2.1 M0.2.2.2 dX10_mayHandOver_64 (Or.inl rfl)
def f_X10_mayHandOver (p1 p2 : Int32) (S : Mm) : Option (Int32 × Mm) :=
  (f_X10_isLetter p1 S).bind fun q_1 =>
  if q_1.1 = 0 then (
   some ((0 : Int32), q_1.2)
  ) else (
   (f_X1_lives 1 p2 q_1.2).bind fun q_2 =>
   if q_2.1 = 0 then (
    some ((0 : Int32), q_2.2)
   ) else (
    gd (inB p1 28 = true) <|
    nm ((q_2.2 11 (ix p1))) fun x3_3 =>
    if x3_3 = p2 then (
     f_X10_mayHandOver_63 q_2.2
    ) else (
     (f_X1_lives 1 x3_3 q_2.2).bind fun q_4 =>
     if q_4.1 = 0 then (
      f_X10_mayHandOver_63 q_4.2
     ) else (
      gd (inB p1 28 = true) <|
      if (q_4.2 12 (ix p1)) = (-1 : Int32) then (
       some ((1 : Int32), q_4.2)
      ) else (
       f_X10_mayHandOver_63 q_4.2
      )
     )
    )
   )
  )
set_option maxRecDepth 20000 in
theorem b_X10_mayHandOver {X : CX} {E : FE} (M0 : MF X E RX10 cX10_mayHandOver 4 3 (some .boolean)) (p1 p2 : Int32) (S : Mm) : At X E false (mQi X Z1 E) 0 [some (.ref 0), some (.int p1), some (.int p2), none] [] Z1 S 0 0 (f_X10_mayHandOver p1 p2 S) := by
  have F := M0.1
  unfold f_X10_mayHandOver
  refine a_iload_n F dX10_mayHandOver_0 rfl rfl ?_
  refine a_callSI F (As := [.int p1]) (c_X10_isLetter X p1 S) mw_X10_isLetter ml_X10_127 st_X10_isLetter M0.2.1 (Nat.le_of_ble_eq_true rfl) ⟨Nat.zero_le _, Nat.zero_le _⟩ rfl rfl (Nat.le_of_ble_eq_true rfl) dX10_mayHandOver_1 rfl (fun q_1 => ?_)
  refine a_if_eq F 18 dX10_mayHandOver_4 (by decide) ?_ ?_
  · refine a_iconst F dX10_mayHandOver_18 ki_0 ?_
    exact a_zretK F M0.2.2.1 M0.2.2.2 dX10_mayHandOver_19 (Or.inl rfl)
  · refine a_aload_n F dX10_mayHandOver_7 rfl rfl ?_
    refine a_getR (k := 0) F cfX10 dX10_mayHandOver_8 fl_X10_12 (by decide) fi_10_0 zl_0 zk_0 zr_0_0 ?_
    refine a_iload_n F dX10_mayHandOver_11 rfl rfl ?_
    refine a_callVI F (As := [.int p2]) cfX1 rfl (c_X1_lives X icl_1 p2 q_1.2) mw_X1_lives ml_X10_104 im_X1_lives se_X1_lives M0.2.1 (Nat.le_of_ble_eq_true rfl) ⟨Nat.zero_le _, Nat.zero_le _⟩ rfl rfl (Nat.le_of_ble_eq_true rfl) zl_1 zk_1 dX10_mayHandOver_12 rfl (fun q_2 => ?_)
    refine a_if_ne F 20 dX10_mayHandOver_15 (by decide) ?_ ?_
    · refine a_iconst F dX10_mayHandOver_18 ki_0 ?_
      exact a_zretK F M0.2.2.1 M0.2.2.2 dX10_mayHandOver_19 (Or.inl rfl)
    · refine a_aload_n F dX10_mayHandOver_20 rfl rfl ?_
      refine a_getR (k := 0) F cfX10 dX10_mayHandOver_21 fl_X10_12 (by decide) fi_10_0 zl_0 zk_0 zr_0_0 ?_
      refine a_getR (k := 14) F cfX1 dX10_mayHandOver_24 fl_X10_192 (by decide) fi_1_14 zl_1 zk_1 zr_1_14 ?_
      refine a_iload_n F dX10_mayHandOver_27 rfl rfl ?_
      refine a_gd (a_iald F dX10_mayHandOver_28 zl_11 zk_11 ?_)
      refine a_istore_nN (L' := fun x3_3 => [some (.ref 0), some (.int p1), some (.int p2), some (.int x3_3)]) F dX10_mayHandOver_29 rfl (lt_b rfl) (fun _ => rfl) (fun x3_3 => ?_)
      refine a_iload_n F dX10_mayHandOver_30 rfl rfl ?_
      refine a_iload_n F dX10_mayHandOver_31 rfl rfl ?_
      refine a_icmp_eq F 63 dX10_mayHandOver_32 (by decide) ?_ ?_
      · refine a_mask [false, false, false, false] (L' := [none, none, none, none]) rfl rfl ?_
        exact b_X10_mayHandOver_63 M0 q_2.2
      · refine a_aload_n F dX10_mayHandOver_35 rfl rfl ?_
        refine a_getR (k := 0) F cfX10 dX10_mayHandOver_36 fl_X10_12 (by decide) fi_10_0 zl_0 zk_0 zr_0_0 ?_
        refine a_iload_n F dX10_mayHandOver_39 rfl rfl ?_
        refine a_callVI F (As := [.int x3_3]) cfX1 rfl (c_X1_lives X icl_1 x3_3 q_2.2) mw_X1_lives ml_X10_104 im_X1_lives se_X1_lives M0.2.1 (Nat.le_of_ble_eq_true rfl) ⟨Nat.zero_le _, Nat.zero_le _⟩ rfl rfl (Nat.le_of_ble_eq_true rfl) zl_1 zk_1 dX10_mayHandOver_40 rfl (fun q_4 => ?_)
        refine a_if_eq F 63 dX10_mayHandOver_43 (by decide) ?_ ?_
        · refine a_mask [false, false, false, false] (L' := [none, none, none, none]) rfl rfl ?_
          exact b_X10_mayHandOver_63 M0 q_4.2
        · refine a_aload_n F dX10_mayHandOver_46 rfl rfl ?_
          refine a_getR (k := 0) F cfX10 dX10_mayHandOver_47 fl_X10_12 (by decide) fi_10_0 zl_0 zk_0 zr_0_0 ?_
          refine a_getR (k := 15) F cfX1 dX10_mayHandOver_50 fl_X10_195 (by decide) fi_1_15 zl_1 zk_1 zr_1_15 ?_
          refine a_iload_n F dX10_mayHandOver_53 rfl rfl ?_
          refine a_gd (a_iald F dX10_mayHandOver_54 zl_12 zk_12 ?_)
          refine a_iconst F dX10_mayHandOver_55 ki_m1 ?_
          refine a_icmp_ne F 63 dX10_mayHandOver_56 (by decide) ?_ ?_
          · refine a_iconst F dX10_mayHandOver_59 ki_1 ?_
            refine a_goto F 64 dX10_mayHandOver_60 (by decide) ?_
            exact a_zretK F M0.2.2.1 M0.2.2.2 dX10_mayHandOver_64 (Or.inr rfl)
          · refine a_mask [false, false, false, false] (L' := [none, none, none, none]) rfl rfl ?_
            exact b_X10_mayHandOver_63 M0 q_4.2
theorem c_X10_mayHandOver (X : CX) (p1 p2 : Int32) (S : Mm) : CtI X Z1 yX10_mayHandOver cX10_mayHandOver 4 (some .boolean) 3 [.ref 0, .int p1, .int p2] S (f_X10_mayHandOver p1 p2 S) :=
  ctI_of (by decide +kernel) rfl (Nat.le_of_ble_eq_true rfl) (by simp [Value.category]) z1len fun E F R hra hlk => b_X10_mayHandOver ⟨F, R, hra, hlk⟩ p1 p2 S
def f_X10_give (p1 p2 : Int32) (S : Mm) : Option (Int32 × Mm) :=
  (f_X10_mayHandOver p1 p2 S).bind fun q_1 =>
  if q_1.1 = 0 then (
   some ((0 : Int32), q_1.2)
  ) else (
   (f_X2_keep_32 1 q_1.2).bind fun S_2 =>
   (f_X1_pass_32 1 p1 p2 (1 : Int32) S_2).bind fun S_3 =>
   some ((1 : Int32), S_3)
  )
set_option maxRecDepth 20000 in
theorem b_X10_give {X : CX} {E : FE} (M0 : MF X E RX10 cX10_give 3 4 (some .boolean)) (p1 p2 : Int32) (S : Mm) : At X E false (mQi X Z1 E) 0 [some (.ref 0), some (.int p1), some (.int p2)] [] Z1 S 0 0 (f_X10_give p1 p2 S) := by
  have F := M0.1
  unfold f_X10_give
  refine a_aload_n F dX10_give_0 rfl rfl ?_
  refine a_iload_n F dX10_give_1 rfl rfl ?_
  refine a_iload_n F dX10_give_2 rfl rfl ?_
  refine a_callVI F (As := [.int p1, .int p2]) cfX10 rfl (c_X10_mayHandOver X p1 p2 S) mw_X10_mayHandOver ml_X10_189 im_X10_mayHandOver se_X10_mayHandOver M0.2.1 (Nat.le_of_ble_eq_true rfl) ⟨Nat.zero_le _, Nat.zero_le _⟩ rfl rfl (Nat.le_of_ble_eq_true rfl) zl_0 zk_0 dX10_give_3 rfl (fun q_1 => ?_)
  refine a_if_ne F 11 dX10_give_6 (by decide) ?_ ?_
  · refine a_iconst F dX10_give_9 ki_0 ?_
    exact a_zretK F M0.2.2.1 M0.2.2.2 dX10_give_10 (Or.inl rfl)
  · refine a_aload_n F dX10_give_11 rfl rfl ?_
    refine a_getR (k := 3) F cfX10 dX10_give_12 fl_X10_33 (by decide) fi_10_3 zl_0 zk_0 zr_0_3 ?_
    refine a_aload_n F dX10_give_15 rfl rfl ?_
    refine a_getR (k := 0) F cfX10 dX10_give_16 fl_X10_12 (by decide) fi_10_0 zl_0 zk_0 zr_0_0 ?_
    refine a_aload_n F dX10_give_19 rfl rfl ?_
    refine a_getR (k := 2) F cfX10 dX10_give_20 fl_X10_26 (by decide) fi_10_2 zl_0 zk_0 zr_0_2 ?_
    refine a_callVV F (As := [.ref 1, .ref 32]) cfX2 rfl (c_X2_keep_32 X icl_1 q_1.2) mw_X2_keep ml_X10_175 im_X2_keep se_X2_keep M0.2.1 (Nat.le_of_ble_eq_true rfl) ⟨Nat.zero_le _, Nat.zero_le _⟩ rfl rfl (Nat.le_of_ble_eq_true rfl) zl_34 zk_34 dX10_give_23 rfl (fun S_2 => ?_)
    refine a_aload_n F dX10_give_26 rfl rfl ?_
    refine a_getR (k := 0) F cfX10 dX10_give_27 fl_X10_12 (by decide) fi_10_0 zl_0 zk_0 zr_0_0 ?_
    refine a_iload_n F dX10_give_30 rfl rfl ?_
    refine a_iload_n F dX10_give_31 rfl rfl ?_
    refine a_iconst F dX10_give_32 ki_1 ?_
    refine a_aload_n F dX10_give_33 rfl rfl ?_
    refine a_getR (k := 2) F cfX10 dX10_give_34 fl_X10_26 (by decide) fi_10_2 zl_0 zk_0 zr_0_2 ?_
    refine a_callVV F (As := [.int p1, .int p2, .int (1 : Int32), .ref 32]) cfX1 rfl (c_X1_pass_32 X icl_1 p1 p2 (1 : Int32) S_2) mw_X1_pass ml_X10_134 im_X1_pass se_X1_pass M0.2.1 (Nat.le_of_ble_eq_true rfl) ⟨Nat.zero_le _, Nat.zero_le _⟩ rfl rfl (Nat.le_of_ble_eq_true rfl) zl_1 zk_1 dX10_give_37 rfl (fun S_3 => ?_)
    refine a_iconst F dX10_give_40 ki_1 ?_
    exact a_zretK F M0.2.2.1 M0.2.2.2 dX10_give_41 (Or.inr rfl)
theorem c_X10_give (X : CX) (p1 p2 : Int32) (S : Mm) : CtI X Z1 yX10_give cX10_give 3 (some .boolean) 4 [.ref 0, .int p1, .int p2] S (f_X10_give p1 p2 S) :=
  ctI_of (by decide +kernel) rfl (Nat.le_of_ble_eq_true rfl) (by simp [Value.category]) z1len fun E F R hra hlk => b_X10_give ⟨F, R, hra, hlk⟩ p1 p2 S
def f_X10_hand (p1 : Int32) (S : Mm) : Option (Int32 × Mm) :=
  if p1 < (1 : Int32) then (
   some ((-1 : Int32), S)
  ) else (
   if p1 ≤ (268435455 : Int32) then (
    (f_X7_writers p1 S).bind fun q_1 =>
    some (q_1.1, q_1.2)
   ) else (
    some ((-1 : Int32), S)
   )
  )
set_option maxRecDepth 20000 in
theorem b_X10_hand {X : CX} {E : FE} (M0 : MF X E RX10 cX10_hand 2 6 (some .int)) (p1 : Int32) (S : Mm) : At X E false (mQi X Z1 E) 0 [some (.ref 0), some (.int p1)] [] Z1 S 0 0 (f_X10_hand p1 S) := by
  have F := M0.1
  unfold f_X10_hand
  refine a_iload_n F dX10_hand_0 rfl rfl ?_
  refine a_iconst F dX10_hand_1 ki_1 ?_
  refine a_icmp_lt F 12 dX10_hand_2 (by decide) ?_ ?_
  · refine a_iconst F dX10_hand_12 ki_m1 ?_
    exact a_iret F M0.2.2.1 M0.2.2.2 dX10_hand_13
  · refine a_iload_n F dX10_hand_5 rfl rfl ?_
    refine a_ldcw F dX10_hand_6 con_X10_298 ?_
    refine a_icmp_le F 14 dX10_hand_9 (by decide) ?_ ?_
    · refine a_aload_n F dX10_hand_14 rfl rfl ?_
      refine a_getR (k := 4) F cfX10 dX10_hand_15 fl_X10_42 (by decide) fi_10_4 zl_0 zk_0 zr_0_4 ?_
      refine a_iload_n F dX10_hand_18 rfl rfl ?_
      refine a_callVI F (As := [.int p1]) cfX7 rfl (c_X7_writers X p1 S) mw_X7_writers ml_X10_252 im_X7_writers se_X7_writers M0.2.1 (Nat.le_of_ble_eq_true rfl) ⟨Nat.zero_le _, Nat.zero_le _⟩ rfl rfl (Nat.le_of_ble_eq_true rfl) zl_165 zk_165 dX10_hand_19 rfl (fun q_1 => ?_)
      exact a_iret F M0.2.2.1 M0.2.2.2 dX10_hand_22
    · refine a_iconst F dX10_hand_12 ki_m1 ?_
      exact a_iret F M0.2.2.1 M0.2.2.2 dX10_hand_13
theorem c_X10_hand (X : CX) (p1 : Int32) (S : Mm) : CtI X Z1 yX10_hand cX10_hand 2 (some .int) 6 [.ref 0, .int p1] S (f_X10_hand p1 S) :=
  ctI_of (by decide +kernel) rfl (Nat.le_of_ble_eq_true rfl) (by simp [Value.category]) z1len fun E F R hra hlk => b_X10_hand ⟨F, R, hra, hlk⟩ p1 S
def f_X3_become_223_18 (S : Mm) : Option Mm :=
  nm (uM S 223 1 (S 18 1)) fun S_1 =>
  nm (uM S_1 223 2 (S_1 18 2)) fun S_2 =>
  nm (rM S_2 224 (va_cpy (S_2 19) (S_2 224) 0 0 400)) fun S_3 =>
  nm (rM S_3 225 (va_cpy (S_3 20) (S_3 225) 0 0 16)) fun S_4 =>
  nm (rM S_4 226 (va_cpy (S_4 21) (S_4 226) 0 0 16)) fun S_5 =>
  nm (rM S_5 227 (va_cpy (S_5 22) (S_5 227) 0 0 16)) fun S_6 =>
  some S_6
set_option maxRecDepth 20000 in
theorem b_X3_become_223_18 {X : CX} {E : FE} (M0 : MF X E RX3 cX3_become 2 1 none) (S : Mm) : At X E false (mQv X Z1 E) 0 [some (.ref 223), some (.ref 18)] [] Z1 S 0 0 (f_X3_become_223_18 S) := by
  have F := M0.1
  unfold f_X3_become_223_18
  refine a_aload_n F dX3_become_0 rfl rfl ?_
  refine a_aload_n F dX3_become_1 rfl rfl ?_
  refine a_getI (k := 1) F cfX3 dX3_become_2 fl_X3_15 (by decide) fi_3_1 zl_18 zk_18 ?_
  refine a_putI (k := 1) F cfX3 dX3_become_5 fl_X3_15 (by decide) fi_3_1 rfl rfl zl_223 zk_223 ?_
  refine a_nmS (fun S_1 => ?_)
  refine a_aload_n F dX3_become_8 rfl rfl ?_
  refine a_aload_n F dX3_become_9 rfl rfl ?_
  refine a_getI (k := 2) F cfX3 dX3_become_10 fl_X3_19 (by decide) fi_3_2 zl_18 zk_18 ?_
  refine a_putI (k := 2) F cfX3 dX3_become_13 fl_X3_19 (by decide) fi_3_2 rfl rfl zl_223 zk_223 ?_
  refine a_nmS (fun S_2 => ?_)
  refine a_aload_n F dX3_become_16 rfl rfl ?_
  refine a_getR (k := 0) F cfX3 dX3_become_17 fl_X3_9 (by decide) fi_3_0 zl_18 zk_18 zr_18_0 ?_
  refine a_iconst F dX3_become_20 ki_0 ?_
  refine a_aload_n F dX3_become_21 rfl rfl ?_
  refine a_getR (k := 0) F cfX3 dX3_become_22 fl_X3_9 (by decide) fi_3_0 zl_223 zk_223 zr_223_0 ?_
  refine a_iconst F dX3_become_25 ki_0 ?_
  refine a_aload_n F dX3_become_26 rfl rfl ?_
  refine a_getR (k := 0) F cfX3 dX3_become_27 fl_X3_9 (by decide) fi_3_0 zl_223 zk_223 zr_223_0 ?_
  refine a_alen F dX3_become_30 zl_224 zk_224 kn_400 ?_
  refine a_gd1 (by decide : ¬ (0 : Int32) < 0 ∧ ¬ (0 : Int32) < 0 ∧ ¬ (400 : Int32) < 0 ∧ ix (0 : Int32) + ix (400 : Int32) ≤ 400 ∧ ix (0 : Int32) + ix (400 : Int32) ≤ 400) (a_copy F rfl dX3_become_31 ml_X3_37 rfl zl_19 zk_19 zl_224 zk_224 (Nat.le_of_ble_eq_true rfl) (Nat.le_of_ble_eq_true rfl) (rm_fr M0.2.1 (by omega)) (rm_lo M0.2.1 (by omega)) sysN sysS sysI ?_)
  refine a_nmS (fun S_3 => ?_)
  refine a_aload_n F dX3_become_34 rfl rfl ?_
  refine a_getR (k := 3) F cfX3 dX3_become_35 fl_X3_22 (by decide) fi_3_3 zl_18 zk_18 zr_18_3 ?_
  refine a_iconst F dX3_become_38 ki_0 ?_
  refine a_aload_n F dX3_become_39 rfl rfl ?_
  refine a_getR (k := 3) F cfX3 dX3_become_40 fl_X3_22 (by decide) fi_3_3 zl_223 zk_223 zr_223_3 ?_
  refine a_iconst F dX3_become_43 ki_0 ?_
  refine a_bipush F dX3_become_44 kb_16 ?_
  refine a_gd1 (by decide : ¬ (0 : Int32) < 0 ∧ ¬ (0 : Int32) < 0 ∧ ¬ (16 : Int32) < 0 ∧ ix (0 : Int32) + ix (16 : Int32) ≤ 16 ∧ ix (0 : Int32) + ix (16 : Int32) ≤ 16) (a_copy F rfl dX3_become_46 ml_X3_37 rfl zl_20 zk_20 zl_225 zk_225 (Nat.le_of_ble_eq_true rfl) (Nat.le_of_ble_eq_true rfl) (rm_fr M0.2.1 (by omega)) (rm_lo M0.2.1 (by omega)) sysN sysS sysI ?_)
  refine a_nmS (fun S_4 => ?_)
  refine a_aload_n F dX3_become_49 rfl rfl ?_
  refine a_getR (k := 4) F cfX3 dX3_become_50 fl_X3_25 (by decide) fi_3_4 zl_18 zk_18 zr_18_4 ?_
  refine a_iconst F dX3_become_53 ki_0 ?_
  refine a_aload_n F dX3_become_54 rfl rfl ?_
  refine a_getR (k := 4) F cfX3 dX3_become_55 fl_X3_25 (by decide) fi_3_4 zl_223 zk_223 zr_223_4 ?_
  refine a_iconst F dX3_become_58 ki_0 ?_
  refine a_bipush F dX3_become_59 kb_16 ?_
  refine a_gd1 (by decide : ¬ (0 : Int32) < 0 ∧ ¬ (0 : Int32) < 0 ∧ ¬ (16 : Int32) < 0 ∧ ix (0 : Int32) + ix (16 : Int32) ≤ 16 ∧ ix (0 : Int32) + ix (16 : Int32) ≤ 16) (a_copy F rfl dX3_become_61 ml_X3_37 rfl zl_21 zk_21 zl_226 zk_226 (Nat.le_of_ble_eq_true rfl) (Nat.le_of_ble_eq_true rfl) (rm_fr M0.2.1 (by omega)) (rm_lo M0.2.1 (by omega)) sysN sysS sysI ?_)
  refine a_nmS (fun S_5 => ?_)
  refine a_aload_n F dX3_become_64 rfl rfl ?_
  refine a_getR (k := 5) F cfX3 dX3_become_65 fl_X3_28 (by decide) fi_3_5 zl_18 zk_18 zr_18_5 ?_
  refine a_iconst F dX3_become_68 ki_0 ?_
  refine a_aload_n F dX3_become_69 rfl rfl ?_
  refine a_getR (k := 5) F cfX3 dX3_become_70 fl_X3_28 (by decide) fi_3_5 zl_223 zk_223 zr_223_5 ?_
  refine a_iconst F dX3_become_73 ki_0 ?_
  refine a_bipush F dX3_become_74 kb_16 ?_
  refine a_gd1 (by decide : ¬ (0 : Int32) < 0 ∧ ¬ (0 : Int32) < 0 ∧ ¬ (16 : Int32) < 0 ∧ ix (0 : Int32) + ix (16 : Int32) ≤ 16 ∧ ix (0 : Int32) + ix (16 : Int32) ≤ 16) (a_copy F rfl dX3_become_76 ml_X3_37 rfl zl_22 zk_22 zl_227 zk_227 (Nat.le_of_ble_eq_true rfl) (Nat.le_of_ble_eq_true rfl) (rm_fr M0.2.1 (by omega)) (rm_lo M0.2.1 (by omega)) sysN sysS sysI ?_)
  refine a_nmS (fun S_6 => ?_)
  exact a_vret F M0.2.2.1 M0.2.2.2 dX3_become_79
theorem c_X3_become_223_18 (X : CX) (S : Mm) : CtV X Z1 yX3_become cX3_become 2 1 [.ref 223, .ref 18] S (f_X3_become_223_18 S) :=
  ctV_of (by decide +kernel) rfl (Nat.le_of_ble_eq_true rfl) (by simp [Value.category]) z1len fun E F R hra hlk => b_X3_become_223_18 ⟨F, R, hra, hlk⟩ S
def f_X6_become_222_17 (S : Mm) : Option Mm :=
  (f_X3_become_223_18 S).bind fun S_1 =>
  nm (rM S_1 230 (va_cpy (S_1 25) (S_1 230) 0 0 12)) fun S_2 =>
  nm (rM S_2 231 (va_cpy (S_2 26) (S_2 231) 0 0 144)) fun S_3 =>
  nm (rM S_3 232 (va_cpy (S_3 27) (S_3 232) 0 0 144)) fun S_4 =>
  nm (rM S_4 233 (va_cpy (S_4 28) (S_4 233) 0 0 144)) fun S_5 =>
  nm (uM S_5 222 5 (S_5 17 5)) fun S_6 =>
  nm (rM S_6 234 (va_cpy (S_6 29) (S_6 234) 0 0 320)) fun S_7 =>
  nm (rM S_7 235 (va_cpy (S_7 30) (S_7 235) 0 0 8)) fun S_8 =>
  nm (rM S_8 236 (va_cpy (S_8 31) (S_8 236) 0 0 8)) fun S_9 =>
  some S_9
set_option maxRecDepth 20000 in
theorem b_X6_become_222_17 {X : CX} {E : FE} (M0 : MF X E RX6 cX6_become 2 2 none) (S : Mm) : At X E false (mQv X Z1 E) 0 [some (.ref 222), some (.ref 17)] [] Z1 S 0 0 (f_X6_become_222_17 S) := by
  have F := M0.1
  unfold f_X6_become_222_17
  refine a_aload_n F dX6_become_0 rfl rfl ?_
  refine a_getR (k := 0) F cfX6 dX6_become_1 fl_X6_12 (by decide) fi_6_0 zl_222 zk_222 zr_222_0 ?_
  refine a_aload_n F dX6_become_4 rfl rfl ?_
  refine a_getR (k := 0) F cfX6 dX6_become_5 fl_X6_12 (by decide) fi_6_0 zl_17 zk_17 zr_17_0 ?_
  refine a_callVV F (As := [.ref 18]) cfX3 rfl (c_X3_become_223_18 X S) mw_X3_become ml_X6_44 im_X3_become se_X3_become M0.2.1 (Nat.le_of_ble_eq_true rfl) ⟨Nat.zero_le _, Nat.zero_le _⟩ rfl rfl (Nat.le_of_ble_eq_true rfl) zl_223 zk_223 dX6_become_8 rfl (fun S_1 => ?_)
  refine a_aload_n F dX6_become_11 rfl rfl ?_
  refine a_getR (k := 1) F cfX6 dX6_become_12 fl_X6_18 (by decide) fi_6_1 zl_17 zk_17 zr_17_1 ?_
  refine a_iconst F dX6_become_15 ki_0 ?_
  refine a_aload_n F dX6_become_16 rfl rfl ?_
  refine a_getR (k := 1) F cfX6 dX6_become_17 fl_X6_18 (by decide) fi_6_1 zl_222 zk_222 zr_222_1 ?_
  refine a_iconst F dX6_become_20 ki_0 ?_
  refine a_aload_n F dX6_become_21 rfl rfl ?_
  refine a_getR (k := 1) F cfX6 dX6_become_22 fl_X6_18 (by decide) fi_6_1 zl_222 zk_222 zr_222_1 ?_
  refine a_alen F dX6_become_25 zl_230 zk_230 kn_12 ?_
  refine a_gd1 (by decide : ¬ (0 : Int32) < 0 ∧ ¬ (0 : Int32) < 0 ∧ ¬ (12 : Int32) < 0 ∧ ix (0 : Int32) + ix (12 : Int32) ≤ 12 ∧ ix (0 : Int32) + ix (12 : Int32) ≤ 12) (a_copy F rfl dX6_become_26 ml_X6_48 rfl zl_25 zk_25 zl_230 zk_230 (Nat.le_of_ble_eq_true rfl) (Nat.le_of_ble_eq_true rfl) (rm_fr M0.2.1 (by omega)) (rm_lo M0.2.1 (by omega)) sysN sysS sysI ?_)
  refine a_nmS (fun S_2 => ?_)
  refine a_aload_n F dX6_become_29 rfl rfl ?_
  refine a_getR (k := 2) F cfX6 dX6_become_30 fl_X6_22 (by decide) fi_6_2 zl_17 zk_17 zr_17_2 ?_
  refine a_iconst F dX6_become_33 ki_0 ?_
  refine a_aload_n F dX6_become_34 rfl rfl ?_
  refine a_getR (k := 2) F cfX6 dX6_become_35 fl_X6_22 (by decide) fi_6_2 zl_222 zk_222 zr_222_2 ?_
  refine a_iconst F dX6_become_38 ki_0 ?_
  refine a_aload_n F dX6_become_39 rfl rfl ?_
  refine a_getR (k := 2) F cfX6 dX6_become_40 fl_X6_22 (by decide) fi_6_2 zl_222 zk_222 zr_222_2 ?_
  refine a_alen F dX6_become_43 zl_231 zk_231 kn_144 ?_
  refine a_gd1 (by decide : ¬ (0 : Int32) < 0 ∧ ¬ (0 : Int32) < 0 ∧ ¬ (144 : Int32) < 0 ∧ ix (0 : Int32) + ix (144 : Int32) ≤ 144 ∧ ix (0 : Int32) + ix (144 : Int32) ≤ 144) (a_copy F rfl dX6_become_44 ml_X6_48 rfl zl_26 zk_26 zl_231 zk_231 (Nat.le_of_ble_eq_true rfl) (Nat.le_of_ble_eq_true rfl) (rm_fr M0.2.1 (by omega)) (rm_lo M0.2.1 (by omega)) sysN sysS sysI ?_)
  refine a_nmS (fun S_3 => ?_)
  refine a_aload_n F dX6_become_47 rfl rfl ?_
  refine a_getR (k := 3) F cfX6 dX6_become_48 fl_X6_25 (by decide) fi_6_3 zl_17 zk_17 zr_17_3 ?_
  refine a_iconst F dX6_become_51 ki_0 ?_
  refine a_aload_n F dX6_become_52 rfl rfl ?_
  refine a_getR (k := 3) F cfX6 dX6_become_53 fl_X6_25 (by decide) fi_6_3 zl_222 zk_222 zr_222_3 ?_
  refine a_iconst F dX6_become_56 ki_0 ?_
  refine a_aload_n F dX6_become_57 rfl rfl ?_
  refine a_getR (k := 3) F cfX6 dX6_become_58 fl_X6_25 (by decide) fi_6_3 zl_222 zk_222 zr_222_3 ?_
  refine a_alen F dX6_become_61 zl_232 zk_232 kn_144 ?_
  refine a_gd1 (by decide : ¬ (0 : Int32) < 0 ∧ ¬ (0 : Int32) < 0 ∧ ¬ (144 : Int32) < 0 ∧ ix (0 : Int32) + ix (144 : Int32) ≤ 144 ∧ ix (0 : Int32) + ix (144 : Int32) ≤ 144) (a_copy F rfl dX6_become_62 ml_X6_48 rfl zl_27 zk_27 zl_232 zk_232 (Nat.le_of_ble_eq_true rfl) (Nat.le_of_ble_eq_true rfl) (rm_fr M0.2.1 (by omega)) (rm_lo M0.2.1 (by omega)) sysN sysS sysI ?_)
  refine a_nmS (fun S_4 => ?_)
  refine a_aload_n F dX6_become_65 rfl rfl ?_
  refine a_getR (k := 4) F cfX6 dX6_become_66 fl_X6_28 (by decide) fi_6_4 zl_17 zk_17 zr_17_4 ?_
  refine a_iconst F dX6_become_69 ki_0 ?_
  refine a_aload_n F dX6_become_70 rfl rfl ?_
  refine a_getR (k := 4) F cfX6 dX6_become_71 fl_X6_28 (by decide) fi_6_4 zl_222 zk_222 zr_222_4 ?_
  refine a_iconst F dX6_become_74 ki_0 ?_
  refine a_aload_n F dX6_become_75 rfl rfl ?_
  refine a_getR (k := 4) F cfX6 dX6_become_76 fl_X6_28 (by decide) fi_6_4 zl_222 zk_222 zr_222_4 ?_
  refine a_alen F dX6_become_79 zl_233 zk_233 kn_144 ?_
  refine a_gd1 (by decide : ¬ (0 : Int32) < 0 ∧ ¬ (0 : Int32) < 0 ∧ ¬ (144 : Int32) < 0 ∧ ix (0 : Int32) + ix (144 : Int32) ≤ 144 ∧ ix (0 : Int32) + ix (144 : Int32) ≤ 144) (a_copy F rfl dX6_become_80 ml_X6_48 rfl zl_28 zk_28 zl_233 zk_233 (Nat.le_of_ble_eq_true rfl) (Nat.le_of_ble_eq_true rfl) (rm_fr M0.2.1 (by omega)) (rm_lo M0.2.1 (by omega)) sysN sysS sysI ?_)
  refine a_nmS (fun S_5 => ?_)
  refine a_aload_n F dX6_become_83 rfl rfl ?_
  refine a_aload_n F dX6_become_84 rfl rfl ?_
  refine a_getI (k := 5) F cfX6 dX6_become_85 fl_X6_31 (by decide) fi_6_5 zl_17 zk_17 ?_
  refine a_putI (k := 5) F cfX6 dX6_become_88 fl_X6_31 (by decide) fi_6_5 rfl rfl zl_222 zk_222 ?_
  refine a_nmS (fun S_6 => ?_)
  refine a_aload_n F dX6_become_91 rfl rfl ?_
  refine a_getR (k := 6) F cfX6 dX6_become_92 fl_X6_35 (by decide) fi_6_6 zl_17 zk_17 zr_17_6 ?_
  refine a_iconst F dX6_become_95 ki_0 ?_
  refine a_aload_n F dX6_become_96 rfl rfl ?_
  refine a_getR (k := 6) F cfX6 dX6_become_97 fl_X6_35 (by decide) fi_6_6 zl_222 zk_222 zr_222_6 ?_
  refine a_iconst F dX6_become_100 ki_0 ?_
  refine a_aload_n F dX6_become_101 rfl rfl ?_
  refine a_getR (k := 6) F cfX6 dX6_become_102 fl_X6_35 (by decide) fi_6_6 zl_222 zk_222 zr_222_6 ?_
  refine a_alen F dX6_become_105 zl_234 zk_234 kn_320 ?_
  refine a_gd1 (by decide : ¬ (0 : Int32) < 0 ∧ ¬ (0 : Int32) < 0 ∧ ¬ (320 : Int32) < 0 ∧ ix (0 : Int32) + ix (320 : Int32) ≤ 320 ∧ ix (0 : Int32) + ix (320 : Int32) ≤ 320) (a_copy F rfl dX6_become_106 ml_X6_48 rfl zl_29 zk_29 zl_234 zk_234 (Nat.le_of_ble_eq_true rfl) (Nat.le_of_ble_eq_true rfl) (rm_fr M0.2.1 (by omega)) (rm_lo M0.2.1 (by omega)) sysN sysS sysI ?_)
  refine a_nmS (fun S_7 => ?_)
  refine a_aload_n F dX6_become_109 rfl rfl ?_
  refine a_getR (k := 7) F cfX6 dX6_become_110 fl_X6_38 (by decide) fi_6_7 zl_17 zk_17 zr_17_7 ?_
  refine a_iconst F dX6_become_113 ki_0 ?_
  refine a_aload_n F dX6_become_114 rfl rfl ?_
  refine a_getR (k := 7) F cfX6 dX6_become_115 fl_X6_38 (by decide) fi_6_7 zl_222 zk_222 zr_222_7 ?_
  refine a_iconst F dX6_become_118 ki_0 ?_
  refine a_aload_n F dX6_become_119 rfl rfl ?_
  refine a_getR (k := 7) F cfX6 dX6_become_120 fl_X6_38 (by decide) fi_6_7 zl_222 zk_222 zr_222_7 ?_
  refine a_alen F dX6_become_123 zl_235 zk_235 kn_8 ?_
  refine a_gd1 (by decide : ¬ (0 : Int32) < 0 ∧ ¬ (0 : Int32) < 0 ∧ ¬ (8 : Int32) < 0 ∧ ix (0 : Int32) + ix (8 : Int32) ≤ 8 ∧ ix (0 : Int32) + ix (8 : Int32) ≤ 8) (a_copy F rfl dX6_become_124 ml_X6_48 rfl zl_30 zk_30 zl_235 zk_235 (Nat.le_of_ble_eq_true rfl) (Nat.le_of_ble_eq_true rfl) (rm_fr M0.2.1 (by omega)) (rm_lo M0.2.1 (by omega)) sysN sysS sysI ?_)
  refine a_nmS (fun S_8 => ?_)
  refine a_aload_n F dX6_become_127 rfl rfl ?_
  refine a_getR (k := 8) F cfX6 dX6_become_128 fl_X6_41 (by decide) fi_6_8 zl_17 zk_17 zr_17_8 ?_
  refine a_iconst F dX6_become_131 ki_0 ?_
  refine a_aload_n F dX6_become_132 rfl rfl ?_
  refine a_getR (k := 8) F cfX6 dX6_become_133 fl_X6_41 (by decide) fi_6_8 zl_222 zk_222 zr_222_8 ?_
  refine a_iconst F dX6_become_136 ki_0 ?_
  refine a_aload_n F dX6_become_137 rfl rfl ?_
  refine a_getR (k := 8) F cfX6 dX6_become_138 fl_X6_41 (by decide) fi_6_8 zl_222 zk_222 zr_222_8 ?_
  refine a_alen F dX6_become_141 zl_236 zk_236 kn_8 ?_
  refine a_gd1 (by decide : ¬ (0 : Int32) < 0 ∧ ¬ (0 : Int32) < 0 ∧ ¬ (8 : Int32) < 0 ∧ ix (0 : Int32) + ix (8 : Int32) ≤ 8 ∧ ix (0 : Int32) + ix (8 : Int32) ≤ 8) (a_copy F rfl dX6_become_142 ml_X6_48 rfl zl_31 zk_31 zl_236 zk_236 (Nat.le_of_ble_eq_true rfl) (Nat.le_of_ble_eq_true rfl) (rm_fr M0.2.1 (by omega)) (rm_lo M0.2.1 (by omega)) sysN sysS sysI ?_)
  refine a_nmS (fun S_9 => ?_)
  exact a_vret F M0.2.2.1 M0.2.2.2 dX6_become_145
theorem c_X6_become_222_17 (X : CX) (S : Mm) : CtV X Z1 yX6_become cX6_become 2 2 [.ref 222, .ref 17] S (f_X6_become_222_17 S) :=
  ctV_of (by decide +kernel) rfl (Nat.le_of_ble_eq_true rfl) (by simp [Value.category]) z1len fun E F R hra hlk => b_X6_become_222_17 ⟨F, R, hra, hlk⟩ S
def f_X0_become_237_32 (S : Mm) : Option Mm :=
  nm (uM S 237 1 (S 32 1)) fun S_1 =>
  nm (rM S_1 238 (va_cpy (S_1 33) (S_1 238) 0 0 1000)) fun S_2 =>
  some S_2
set_option maxRecDepth 20000 in
theorem b_X0_become_237_32 {X : CX} {E : FE} (M0 : MF X E RX0 cX0_become 2 1 none) (S : Mm) : At X E false (mQv X Z1 E) 0 [some (.ref 237), some (.ref 32)] [] Z1 S 0 0 (f_X0_become_237_32 S) := by
  have F := M0.1
  unfold f_X0_become_237_32
  refine a_aload_n F dX0_become_0 rfl rfl ?_
  refine a_aload_n F dX0_become_1 rfl rfl ?_
  refine a_getI (k := 1) F cfX0 dX0_become_2 fl_X0_15 (by decide) fi_0_1 zl_32 zk_32 ?_
  refine a_putI (k := 1) F cfX0 dX0_become_5 fl_X0_15 (by decide) fi_0_1 rfl rfl zl_237 zk_237 ?_
  refine a_nmS (fun S_1 => ?_)
  refine a_aload_n F dX0_become_8 rfl rfl ?_
  refine a_getR (k := 0) F cfX0 dX0_become_9 fl_X0_11 (by decide) fi_0_0 zl_32 zk_32 zr_32_0 ?_
  refine a_iconst F dX0_become_12 ki_0 ?_
  refine a_aload_n F dX0_become_13 rfl rfl ?_
  refine a_getR (k := 0) F cfX0 dX0_become_14 fl_X0_11 (by decide) fi_0_0 zl_237 zk_237 zr_237_0 ?_
  refine a_iconst F dX0_become_17 ki_0 ?_
  refine a_aload_n F dX0_become_18 rfl rfl ?_
  refine a_getR (k := 0) F cfX0 dX0_become_19 fl_X0_11 (by decide) fi_0_0 zl_237 zk_237 zr_237_0 ?_
  refine a_alen F dX0_become_22 zl_238 zk_238 kn_1000 ?_
  refine a_gd1 (by decide : ¬ (0 : Int32) < 0 ∧ ¬ (0 : Int32) < 0 ∧ ¬ (1000 : Int32) < 0 ∧ ix (0 : Int32) + ix (1000 : Int32) ≤ 1000 ∧ ix (0 : Int32) + ix (1000 : Int32) ≤ 1000) (a_copy F rfl dX0_become_23 ml_X0_19 rfl zl_33 zk_33 zl_238 zk_238 (Nat.le_of_ble_eq_true rfl) (Nat.le_of_ble_eq_true rfl) (rm_fr M0.2.1 (by omega)) (rm_lo M0.2.1 (by omega)) sysN sysS sysI ?_)
  refine a_nmS (fun S_2 => ?_)
  exact a_vret F M0.2.2.1 M0.2.2.2 dX0_become_26
theorem c_X0_become_237_32 (X : CX) (S : Mm) : CtV X Z1 yX0_become cX0_become 2 1 [.ref 237, .ref 32] S (f_X0_become_237_32 S) :=
  ctV_of (by decide +kernel) rfl (Nat.le_of_ble_eq_true rfl) (by simp [Value.category]) z1len fun E F R hra hlk => b_X0_become_237_32 ⟨F, R, hra, hlk⟩ S
def f_X3_become_18_223 (S : Mm) : Option Mm :=
  nm (uM S 18 1 (S 223 1)) fun S_1 =>
  nm (uM S_1 18 2 (S_1 223 2)) fun S_2 =>
  nm (rM S_2 19 (va_cpy (S_2 224) (S_2 19) 0 0 400)) fun S_3 =>
  nm (rM S_3 20 (va_cpy (S_3 225) (S_3 20) 0 0 16)) fun S_4 =>
  nm (rM S_4 21 (va_cpy (S_4 226) (S_4 21) 0 0 16)) fun S_5 =>
  nm (rM S_5 22 (va_cpy (S_5 227) (S_5 22) 0 0 16)) fun S_6 =>
  some S_6
set_option maxRecDepth 20000 in
theorem b_X3_become_18_223 {X : CX} {E : FE} (M0 : MF X E RX3 cX3_become 2 1 none) (S : Mm) : At X E false (mQv X Z1 E) 0 [some (.ref 18), some (.ref 223)] [] Z1 S 0 0 (f_X3_become_18_223 S) := by
  have F := M0.1
  unfold f_X3_become_18_223
  refine a_aload_n F dX3_become_0 rfl rfl ?_
  refine a_aload_n F dX3_become_1 rfl rfl ?_
  refine a_getI (k := 1) F cfX3 dX3_become_2 fl_X3_15 (by decide) fi_3_1 zl_223 zk_223 ?_
  refine a_putI (k := 1) F cfX3 dX3_become_5 fl_X3_15 (by decide) fi_3_1 rfl rfl zl_18 zk_18 ?_
  refine a_nmS (fun S_1 => ?_)
  refine a_aload_n F dX3_become_8 rfl rfl ?_
  refine a_aload_n F dX3_become_9 rfl rfl ?_
  refine a_getI (k := 2) F cfX3 dX3_become_10 fl_X3_19 (by decide) fi_3_2 zl_223 zk_223 ?_
  refine a_putI (k := 2) F cfX3 dX3_become_13 fl_X3_19 (by decide) fi_3_2 rfl rfl zl_18 zk_18 ?_
  refine a_nmS (fun S_2 => ?_)
  refine a_aload_n F dX3_become_16 rfl rfl ?_
  refine a_getR (k := 0) F cfX3 dX3_become_17 fl_X3_9 (by decide) fi_3_0 zl_223 zk_223 zr_223_0 ?_
  refine a_iconst F dX3_become_20 ki_0 ?_
  refine a_aload_n F dX3_become_21 rfl rfl ?_
  refine a_getR (k := 0) F cfX3 dX3_become_22 fl_X3_9 (by decide) fi_3_0 zl_18 zk_18 zr_18_0 ?_
  refine a_iconst F dX3_become_25 ki_0 ?_
  refine a_aload_n F dX3_become_26 rfl rfl ?_
  refine a_getR (k := 0) F cfX3 dX3_become_27 fl_X3_9 (by decide) fi_3_0 zl_18 zk_18 zr_18_0 ?_
  refine a_alen F dX3_become_30 zl_19 zk_19 kn_400 ?_
  refine a_gd1 (by decide : ¬ (0 : Int32) < 0 ∧ ¬ (0 : Int32) < 0 ∧ ¬ (400 : Int32) < 0 ∧ ix (0 : Int32) + ix (400 : Int32) ≤ 400 ∧ ix (0 : Int32) + ix (400 : Int32) ≤ 400) (a_copy F rfl dX3_become_31 ml_X3_37 rfl zl_224 zk_224 zl_19 zk_19 (Nat.le_of_ble_eq_true rfl) (Nat.le_of_ble_eq_true rfl) (rm_fr M0.2.1 (by omega)) (rm_lo M0.2.1 (by omega)) sysN sysS sysI ?_)
  refine a_nmS (fun S_3 => ?_)
  refine a_aload_n F dX3_become_34 rfl rfl ?_
  refine a_getR (k := 3) F cfX3 dX3_become_35 fl_X3_22 (by decide) fi_3_3 zl_223 zk_223 zr_223_3 ?_
  refine a_iconst F dX3_become_38 ki_0 ?_
  refine a_aload_n F dX3_become_39 rfl rfl ?_
  refine a_getR (k := 3) F cfX3 dX3_become_40 fl_X3_22 (by decide) fi_3_3 zl_18 zk_18 zr_18_3 ?_
  refine a_iconst F dX3_become_43 ki_0 ?_
  refine a_bipush F dX3_become_44 kb_16 ?_
  refine a_gd1 (by decide : ¬ (0 : Int32) < 0 ∧ ¬ (0 : Int32) < 0 ∧ ¬ (16 : Int32) < 0 ∧ ix (0 : Int32) + ix (16 : Int32) ≤ 16 ∧ ix (0 : Int32) + ix (16 : Int32) ≤ 16) (a_copy F rfl dX3_become_46 ml_X3_37 rfl zl_225 zk_225 zl_20 zk_20 (Nat.le_of_ble_eq_true rfl) (Nat.le_of_ble_eq_true rfl) (rm_fr M0.2.1 (by omega)) (rm_lo M0.2.1 (by omega)) sysN sysS sysI ?_)
  refine a_nmS (fun S_4 => ?_)
  refine a_aload_n F dX3_become_49 rfl rfl ?_
  refine a_getR (k := 4) F cfX3 dX3_become_50 fl_X3_25 (by decide) fi_3_4 zl_223 zk_223 zr_223_4 ?_
  refine a_iconst F dX3_become_53 ki_0 ?_
  refine a_aload_n F dX3_become_54 rfl rfl ?_
  refine a_getR (k := 4) F cfX3 dX3_become_55 fl_X3_25 (by decide) fi_3_4 zl_18 zk_18 zr_18_4 ?_
  refine a_iconst F dX3_become_58 ki_0 ?_
  refine a_bipush F dX3_become_59 kb_16 ?_
  refine a_gd1 (by decide : ¬ (0 : Int32) < 0 ∧ ¬ (0 : Int32) < 0 ∧ ¬ (16 : Int32) < 0 ∧ ix (0 : Int32) + ix (16 : Int32) ≤ 16 ∧ ix (0 : Int32) + ix (16 : Int32) ≤ 16) (a_copy F rfl dX3_become_61 ml_X3_37 rfl zl_226 zk_226 zl_21 zk_21 (Nat.le_of_ble_eq_true rfl) (Nat.le_of_ble_eq_true rfl) (rm_fr M0.2.1 (by omega)) (rm_lo M0.2.1 (by omega)) sysN sysS sysI ?_)
  refine a_nmS (fun S_5 => ?_)
  refine a_aload_n F dX3_become_64 rfl rfl ?_
  refine a_getR (k := 5) F cfX3 dX3_become_65 fl_X3_28 (by decide) fi_3_5 zl_223 zk_223 zr_223_5 ?_
  refine a_iconst F dX3_become_68 ki_0 ?_
  refine a_aload_n F dX3_become_69 rfl rfl ?_
  refine a_getR (k := 5) F cfX3 dX3_become_70 fl_X3_28 (by decide) fi_3_5 zl_18 zk_18 zr_18_5 ?_
  refine a_iconst F dX3_become_73 ki_0 ?_
  refine a_bipush F dX3_become_74 kb_16 ?_
  refine a_gd1 (by decide : ¬ (0 : Int32) < 0 ∧ ¬ (0 : Int32) < 0 ∧ ¬ (16 : Int32) < 0 ∧ ix (0 : Int32) + ix (16 : Int32) ≤ 16 ∧ ix (0 : Int32) + ix (16 : Int32) ≤ 16) (a_copy F rfl dX3_become_76 ml_X3_37 rfl zl_227 zk_227 zl_22 zk_22 (Nat.le_of_ble_eq_true rfl) (Nat.le_of_ble_eq_true rfl) (rm_fr M0.2.1 (by omega)) (rm_lo M0.2.1 (by omega)) sysN sysS sysI ?_)
  refine a_nmS (fun S_6 => ?_)
  exact a_vret F M0.2.2.1 M0.2.2.2 dX3_become_79
theorem c_X3_become_18_223 (X : CX) (S : Mm) : CtV X Z1 yX3_become cX3_become 2 1 [.ref 18, .ref 223] S (f_X3_become_18_223 S) :=
  ctV_of (by decide +kernel) rfl (Nat.le_of_ble_eq_true rfl) (by simp [Value.category]) z1len fun E F R hra hlk => b_X3_become_18_223 ⟨F, R, hra, hlk⟩ S
def f_X6_become_17_222 (S : Mm) : Option Mm :=
  (f_X3_become_18_223 S).bind fun S_1 =>
  nm (rM S_1 25 (va_cpy (S_1 230) (S_1 25) 0 0 12)) fun S_2 =>
  nm (rM S_2 26 (va_cpy (S_2 231) (S_2 26) 0 0 144)) fun S_3 =>
  nm (rM S_3 27 (va_cpy (S_3 232) (S_3 27) 0 0 144)) fun S_4 =>
  nm (rM S_4 28 (va_cpy (S_4 233) (S_4 28) 0 0 144)) fun S_5 =>
  nm (uM S_5 17 5 (S_5 222 5)) fun S_6 =>
  nm (rM S_6 29 (va_cpy (S_6 234) (S_6 29) 0 0 320)) fun S_7 =>
  nm (rM S_7 30 (va_cpy (S_7 235) (S_7 30) 0 0 8)) fun S_8 =>
  nm (rM S_8 31 (va_cpy (S_8 236) (S_8 31) 0 0 8)) fun S_9 =>
  some S_9
set_option maxRecDepth 20000 in
theorem b_X6_become_17_222 {X : CX} {E : FE} (M0 : MF X E RX6 cX6_become 2 2 none) (S : Mm) : At X E false (mQv X Z1 E) 0 [some (.ref 17), some (.ref 222)] [] Z1 S 0 0 (f_X6_become_17_222 S) := by
  have F := M0.1
  unfold f_X6_become_17_222
  refine a_aload_n F dX6_become_0 rfl rfl ?_
  refine a_getR (k := 0) F cfX6 dX6_become_1 fl_X6_12 (by decide) fi_6_0 zl_17 zk_17 zr_17_0 ?_
  refine a_aload_n F dX6_become_4 rfl rfl ?_
  refine a_getR (k := 0) F cfX6 dX6_become_5 fl_X6_12 (by decide) fi_6_0 zl_222 zk_222 zr_222_0 ?_
  refine a_callVV F (As := [.ref 223]) cfX3 rfl (c_X3_become_18_223 X S) mw_X3_become ml_X6_44 im_X3_become se_X3_become M0.2.1 (Nat.le_of_ble_eq_true rfl) ⟨Nat.zero_le _, Nat.zero_le _⟩ rfl rfl (Nat.le_of_ble_eq_true rfl) zl_18 zk_18 dX6_become_8 rfl (fun S_1 => ?_)
  refine a_aload_n F dX6_become_11 rfl rfl ?_
  refine a_getR (k := 1) F cfX6 dX6_become_12 fl_X6_18 (by decide) fi_6_1 zl_222 zk_222 zr_222_1 ?_
  refine a_iconst F dX6_become_15 ki_0 ?_
  refine a_aload_n F dX6_become_16 rfl rfl ?_
  refine a_getR (k := 1) F cfX6 dX6_become_17 fl_X6_18 (by decide) fi_6_1 zl_17 zk_17 zr_17_1 ?_
  refine a_iconst F dX6_become_20 ki_0 ?_
  refine a_aload_n F dX6_become_21 rfl rfl ?_
  refine a_getR (k := 1) F cfX6 dX6_become_22 fl_X6_18 (by decide) fi_6_1 zl_17 zk_17 zr_17_1 ?_
  refine a_alen F dX6_become_25 zl_25 zk_25 kn_12 ?_
  refine a_gd1 (by decide : ¬ (0 : Int32) < 0 ∧ ¬ (0 : Int32) < 0 ∧ ¬ (12 : Int32) < 0 ∧ ix (0 : Int32) + ix (12 : Int32) ≤ 12 ∧ ix (0 : Int32) + ix (12 : Int32) ≤ 12) (a_copy F rfl dX6_become_26 ml_X6_48 rfl zl_230 zk_230 zl_25 zk_25 (Nat.le_of_ble_eq_true rfl) (Nat.le_of_ble_eq_true rfl) (rm_fr M0.2.1 (by omega)) (rm_lo M0.2.1 (by omega)) sysN sysS sysI ?_)
  refine a_nmS (fun S_2 => ?_)
  refine a_aload_n F dX6_become_29 rfl rfl ?_
  refine a_getR (k := 2) F cfX6 dX6_become_30 fl_X6_22 (by decide) fi_6_2 zl_222 zk_222 zr_222_2 ?_
  refine a_iconst F dX6_become_33 ki_0 ?_
  refine a_aload_n F dX6_become_34 rfl rfl ?_
  refine a_getR (k := 2) F cfX6 dX6_become_35 fl_X6_22 (by decide) fi_6_2 zl_17 zk_17 zr_17_2 ?_
  refine a_iconst F dX6_become_38 ki_0 ?_
  refine a_aload_n F dX6_become_39 rfl rfl ?_
  refine a_getR (k := 2) F cfX6 dX6_become_40 fl_X6_22 (by decide) fi_6_2 zl_17 zk_17 zr_17_2 ?_
  refine a_alen F dX6_become_43 zl_26 zk_26 kn_144 ?_
  refine a_gd1 (by decide : ¬ (0 : Int32) < 0 ∧ ¬ (0 : Int32) < 0 ∧ ¬ (144 : Int32) < 0 ∧ ix (0 : Int32) + ix (144 : Int32) ≤ 144 ∧ ix (0 : Int32) + ix (144 : Int32) ≤ 144) (a_copy F rfl dX6_become_44 ml_X6_48 rfl zl_231 zk_231 zl_26 zk_26 (Nat.le_of_ble_eq_true rfl) (Nat.le_of_ble_eq_true rfl) (rm_fr M0.2.1 (by omega)) (rm_lo M0.2.1 (by omega)) sysN sysS sysI ?_)
  refine a_nmS (fun S_3 => ?_)
  refine a_aload_n F dX6_become_47 rfl rfl ?_
  refine a_getR (k := 3) F cfX6 dX6_become_48 fl_X6_25 (by decide) fi_6_3 zl_222 zk_222 zr_222_3 ?_
  refine a_iconst F dX6_become_51 ki_0 ?_
  refine a_aload_n F dX6_become_52 rfl rfl ?_
  refine a_getR (k := 3) F cfX6 dX6_become_53 fl_X6_25 (by decide) fi_6_3 zl_17 zk_17 zr_17_3 ?_
  refine a_iconst F dX6_become_56 ki_0 ?_
  refine a_aload_n F dX6_become_57 rfl rfl ?_
  refine a_getR (k := 3) F cfX6 dX6_become_58 fl_X6_25 (by decide) fi_6_3 zl_17 zk_17 zr_17_3 ?_
  refine a_alen F dX6_become_61 zl_27 zk_27 kn_144 ?_
  refine a_gd1 (by decide : ¬ (0 : Int32) < 0 ∧ ¬ (0 : Int32) < 0 ∧ ¬ (144 : Int32) < 0 ∧ ix (0 : Int32) + ix (144 : Int32) ≤ 144 ∧ ix (0 : Int32) + ix (144 : Int32) ≤ 144) (a_copy F rfl dX6_become_62 ml_X6_48 rfl zl_232 zk_232 zl_27 zk_27 (Nat.le_of_ble_eq_true rfl) (Nat.le_of_ble_eq_true rfl) (rm_fr M0.2.1 (by omega)) (rm_lo M0.2.1 (by omega)) sysN sysS sysI ?_)
  refine a_nmS (fun S_4 => ?_)
  refine a_aload_n F dX6_become_65 rfl rfl ?_
  refine a_getR (k := 4) F cfX6 dX6_become_66 fl_X6_28 (by decide) fi_6_4 zl_222 zk_222 zr_222_4 ?_
  refine a_iconst F dX6_become_69 ki_0 ?_
  refine a_aload_n F dX6_become_70 rfl rfl ?_
  refine a_getR (k := 4) F cfX6 dX6_become_71 fl_X6_28 (by decide) fi_6_4 zl_17 zk_17 zr_17_4 ?_
  refine a_iconst F dX6_become_74 ki_0 ?_
  refine a_aload_n F dX6_become_75 rfl rfl ?_
  refine a_getR (k := 4) F cfX6 dX6_become_76 fl_X6_28 (by decide) fi_6_4 zl_17 zk_17 zr_17_4 ?_
  refine a_alen F dX6_become_79 zl_28 zk_28 kn_144 ?_
  refine a_gd1 (by decide : ¬ (0 : Int32) < 0 ∧ ¬ (0 : Int32) < 0 ∧ ¬ (144 : Int32) < 0 ∧ ix (0 : Int32) + ix (144 : Int32) ≤ 144 ∧ ix (0 : Int32) + ix (144 : Int32) ≤ 144) (a_copy F rfl dX6_become_80 ml_X6_48 rfl zl_233 zk_233 zl_28 zk_28 (Nat.le_of_ble_eq_true rfl) (Nat.le_of_ble_eq_true rfl) (rm_fr M0.2.1 (by omega)) (rm_lo M0.2.1 (by omega)) sysN sysS sysI ?_)
  refine a_nmS (fun S_5 => ?_)
  refine a_aload_n F dX6_become_83 rfl rfl ?_
  refine a_aload_n F dX6_become_84 rfl rfl ?_
  refine a_getI (k := 5) F cfX6 dX6_become_85 fl_X6_31 (by decide) fi_6_5 zl_222 zk_222 ?_
  refine a_putI (k := 5) F cfX6 dX6_become_88 fl_X6_31 (by decide) fi_6_5 rfl rfl zl_17 zk_17 ?_
  refine a_nmS (fun S_6 => ?_)
  refine a_aload_n F dX6_become_91 rfl rfl ?_
  refine a_getR (k := 6) F cfX6 dX6_become_92 fl_X6_35 (by decide) fi_6_6 zl_222 zk_222 zr_222_6 ?_
  refine a_iconst F dX6_become_95 ki_0 ?_
  refine a_aload_n F dX6_become_96 rfl rfl ?_
  refine a_getR (k := 6) F cfX6 dX6_become_97 fl_X6_35 (by decide) fi_6_6 zl_17 zk_17 zr_17_6 ?_
  refine a_iconst F dX6_become_100 ki_0 ?_
  refine a_aload_n F dX6_become_101 rfl rfl ?_
  refine a_getR (k := 6) F cfX6 dX6_become_102 fl_X6_35 (by decide) fi_6_6 zl_17 zk_17 zr_17_6 ?_
  refine a_alen F dX6_become_105 zl_29 zk_29 kn_320 ?_
  refine a_gd1 (by decide : ¬ (0 : Int32) < 0 ∧ ¬ (0 : Int32) < 0 ∧ ¬ (320 : Int32) < 0 ∧ ix (0 : Int32) + ix (320 : Int32) ≤ 320 ∧ ix (0 : Int32) + ix (320 : Int32) ≤ 320) (a_copy F rfl dX6_become_106 ml_X6_48 rfl zl_234 zk_234 zl_29 zk_29 (Nat.le_of_ble_eq_true rfl) (Nat.le_of_ble_eq_true rfl) (rm_fr M0.2.1 (by omega)) (rm_lo M0.2.1 (by omega)) sysN sysS sysI ?_)
  refine a_nmS (fun S_7 => ?_)
  refine a_aload_n F dX6_become_109 rfl rfl ?_
  refine a_getR (k := 7) F cfX6 dX6_become_110 fl_X6_38 (by decide) fi_6_7 zl_222 zk_222 zr_222_7 ?_
  refine a_iconst F dX6_become_113 ki_0 ?_
  refine a_aload_n F dX6_become_114 rfl rfl ?_
  refine a_getR (k := 7) F cfX6 dX6_become_115 fl_X6_38 (by decide) fi_6_7 zl_17 zk_17 zr_17_7 ?_
  refine a_iconst F dX6_become_118 ki_0 ?_
  refine a_aload_n F dX6_become_119 rfl rfl ?_
  refine a_getR (k := 7) F cfX6 dX6_become_120 fl_X6_38 (by decide) fi_6_7 zl_17 zk_17 zr_17_7 ?_
  refine a_alen F dX6_become_123 zl_30 zk_30 kn_8 ?_
  refine a_gd1 (by decide : ¬ (0 : Int32) < 0 ∧ ¬ (0 : Int32) < 0 ∧ ¬ (8 : Int32) < 0 ∧ ix (0 : Int32) + ix (8 : Int32) ≤ 8 ∧ ix (0 : Int32) + ix (8 : Int32) ≤ 8) (a_copy F rfl dX6_become_124 ml_X6_48 rfl zl_235 zk_235 zl_30 zk_30 (Nat.le_of_ble_eq_true rfl) (Nat.le_of_ble_eq_true rfl) (rm_fr M0.2.1 (by omega)) (rm_lo M0.2.1 (by omega)) sysN sysS sysI ?_)
  refine a_nmS (fun S_8 => ?_)
  refine a_aload_n F dX6_become_127 rfl rfl ?_
  refine a_getR (k := 8) F cfX6 dX6_become_128 fl_X6_41 (by decide) fi_6_8 zl_222 zk_222 zr_222_8 ?_
  refine a_iconst F dX6_become_131 ki_0 ?_
  refine a_aload_n F dX6_become_132 rfl rfl ?_
  refine a_getR (k := 8) F cfX6 dX6_become_133 fl_X6_41 (by decide) fi_6_8 zl_17 zk_17 zr_17_8 ?_
  refine a_iconst F dX6_become_136 ki_0 ?_
  refine a_aload_n F dX6_become_137 rfl rfl ?_
  refine a_getR (k := 8) F cfX6 dX6_become_138 fl_X6_41 (by decide) fi_6_8 zl_17 zk_17 zr_17_8 ?_
  refine a_alen F dX6_become_141 zl_31 zk_31 kn_8 ?_
  refine a_gd1 (by decide : ¬ (0 : Int32) < 0 ∧ ¬ (0 : Int32) < 0 ∧ ¬ (8 : Int32) < 0 ∧ ix (0 : Int32) + ix (8 : Int32) ≤ 8 ∧ ix (0 : Int32) + ix (8 : Int32) ≤ 8) (a_copy F rfl dX6_become_142 ml_X6_48 rfl zl_236 zk_236 zl_31 zk_31 (Nat.le_of_ble_eq_true rfl) (Nat.le_of_ble_eq_true rfl) (rm_fr M0.2.1 (by omega)) (rm_lo M0.2.1 (by omega)) sysN sysS sysI ?_)
  refine a_nmS (fun S_9 => ?_)
  exact a_vret F M0.2.2.1 M0.2.2.2 dX6_become_145
theorem c_X6_become_17_222 (X : CX) (S : Mm) : CtV X Z1 yX6_become cX6_become 2 2 [.ref 17, .ref 222] S (f_X6_become_17_222 S) :=
  ctV_of (by decide +kernel) rfl (Nat.le_of_ble_eq_true rfl) (by simp [Value.category]) z1len fun E F R hra hlk => b_X6_become_17_222 ⟨F, R, hra, hlk⟩ S
def f_X0_become_32_237 (S : Mm) : Option Mm :=
  nm (uM S 32 1 (S 237 1)) fun S_1 =>
  nm (rM S_1 33 (va_cpy (S_1 238) (S_1 33) 0 0 1000)) fun S_2 =>
  some S_2
set_option maxRecDepth 20000 in
theorem b_X0_become_32_237 {X : CX} {E : FE} (M0 : MF X E RX0 cX0_become 2 1 none) (S : Mm) : At X E false (mQv X Z1 E) 0 [some (.ref 32), some (.ref 237)] [] Z1 S 0 0 (f_X0_become_32_237 S) := by
  have F := M0.1
  unfold f_X0_become_32_237
  refine a_aload_n F dX0_become_0 rfl rfl ?_
  refine a_aload_n F dX0_become_1 rfl rfl ?_
  refine a_getI (k := 1) F cfX0 dX0_become_2 fl_X0_15 (by decide) fi_0_1 zl_237 zk_237 ?_
  refine a_putI (k := 1) F cfX0 dX0_become_5 fl_X0_15 (by decide) fi_0_1 rfl rfl zl_32 zk_32 ?_
  refine a_nmS (fun S_1 => ?_)
  refine a_aload_n F dX0_become_8 rfl rfl ?_
  refine a_getR (k := 0) F cfX0 dX0_become_9 fl_X0_11 (by decide) fi_0_0 zl_237 zk_237 zr_237_0 ?_
  refine a_iconst F dX0_become_12 ki_0 ?_
  refine a_aload_n F dX0_become_13 rfl rfl ?_
  refine a_getR (k := 0) F cfX0 dX0_become_14 fl_X0_11 (by decide) fi_0_0 zl_32 zk_32 zr_32_0 ?_
  refine a_iconst F dX0_become_17 ki_0 ?_
  refine a_aload_n F dX0_become_18 rfl rfl ?_
  refine a_getR (k := 0) F cfX0 dX0_become_19 fl_X0_11 (by decide) fi_0_0 zl_32 zk_32 zr_32_0 ?_
  refine a_alen F dX0_become_22 zl_33 zk_33 kn_1000 ?_
  refine a_gd1 (by decide : ¬ (0 : Int32) < 0 ∧ ¬ (0 : Int32) < 0 ∧ ¬ (1000 : Int32) < 0 ∧ ix (0 : Int32) + ix (1000 : Int32) ≤ 1000 ∧ ix (0 : Int32) + ix (1000 : Int32) ≤ 1000) (a_copy F rfl dX0_become_23 ml_X0_19 rfl zl_238 zk_238 zl_33 zk_33 (Nat.le_of_ble_eq_true rfl) (Nat.le_of_ble_eq_true rfl) (rm_fr M0.2.1 (by omega)) (rm_lo M0.2.1 (by omega)) sysN sysS sysI ?_)
  refine a_nmS (fun S_2 => ?_)
  exact a_vret F M0.2.2.1 M0.2.2.2 dX0_become_26
theorem c_X0_become_32_237 (X : CX) (S : Mm) : CtV X Z1 yX0_become cX0_become 2 1 [.ref 32, .ref 237] S (f_X0_become_32_237 S) :=
  ctV_of (by decide +kernel) rfl (Nat.le_of_ble_eq_true rfl) (by simp [Value.category]) z1len fun E F R hra hlk => b_X0_become_32_237 ⟨F, R, hra, hlk⟩ S
def f_X2_forget (S : Mm) : Option Mm :=
  nm (uM S 34 3 (0 : Int32)) fun S_1 =>
  some S_1
set_option maxRecDepth 20000 in
theorem b_X2_forget {X : CX} {E : FE} (M0 : MF X E RX2 cX2_forget 1 1 none) (S : Mm) : At X E false (mQv X Z1 E) 0 [some (.ref 34)] [] Z1 S 0 0 (f_X2_forget S) := by
  have F := M0.1
  unfold f_X2_forget
  refine a_aload_n F dX2_forget_0 rfl rfl ?_
  refine a_iconst F dX2_forget_1 ki_0 ?_
  refine a_putI (k := 3) F cfX2 dX2_forget_2 fl_X2_23 (by decide) fi_2_3 rfl rfl zl_34 zk_34 ?_
  refine a_nmS (fun S_1 => ?_)
  exact a_vret F M0.2.2.1 M0.2.2.2 dX2_forget_5
theorem c_X2_forget (X : CX) (S : Mm) : CtV X Z1 yX2_forget cX2_forget 1 1 [.ref 34] S (f_X2_forget S) :=
  ctV_of (by decide +kernel) rfl (Nat.le_of_ble_eq_true rfl) (by simp [Value.category]) z1len fun E F R hra hlk => b_X2_forget ⟨F, R, hra, hlk⟩ S
def f_X10_image (p1 : Int32) (S : Mm) : Option (Int32 × Mm) :=
  if p1 = 0 then (
   if (S 0 11) = 0 then (
    some ((0 : Int32), S)
   ) else (
    (f_X1_become 1 206 S).bind fun S_1 =>
    (f_X6_become_17_222 S_1).bind fun S_2 =>
    (f_X0_become_32_237 S_2).bind fun S_3 =>
    (f_X2_forget S_3).bind fun S_4 =>
    some ((1 : Int32), S_4)
   )
  ) else (
   (f_X1_become 206 1 S).bind fun S_5 =>
   (f_X6_become_222_17 S_5).bind fun S_6 =>
   (f_X0_become_237_32 S_6).bind fun S_7 =>
   nm (uM S_7 0 11 (1 : Int32)) fun S_8 =>
   some ((1 : Int32), S_8)
  )
set_option maxRecDepth 20000 in
theorem b_X10_image {X : CX} {E : FE} (M0 : MF X E RX10 cX10_image 2 3 (some .boolean)) (p1 : Int32) (S : Mm) : At X E false (mQi X Z1 E) 0 [some (.ref 0), some (.int p1)] [] Z1 S 0 0 (f_X10_image p1 S) := by
  have F := M0.1
  unfold f_X10_image
  refine a_iload_n F dX10_image_0 rfl rfl ?_
  refine a_if_eq F 44 dX10_image_1 (by decide) ?_ ?_
  · refine a_aload_n F dX10_image_44 rfl rfl ?_
    refine a_getI (k := 11) F cfX10 dX10_image_45 fl_X10_78 (by decide) fi_10_11 zl_0 zk_0 ?_
    refine a_if_ne F 53 dX10_image_48 (by decide) ?_ ?_
    · refine a_iconst F dX10_image_51 ki_0 ?_
      exact a_zretK F M0.2.2.1 M0.2.2.2 dX10_image_52 (Or.inl rfl)
    · refine a_aload_n F dX10_image_53 rfl rfl ?_
      refine a_getR (k := 0) F cfX10 dX10_image_54 fl_X10_12 (by decide) fi_10_0 zl_0 zk_0 zr_0_0 ?_
      refine a_aload_n F dX10_image_57 rfl rfl ?_
      refine a_getR (k := 8) F cfX10 dX10_image_58 fl_X10_69 (by decide) fi_10_8 zl_0 zk_0 zr_0_8 ?_
      refine a_callVV F (As := [.ref 206]) cfX1 rfl (c_X1_become X icl_1 icl_206 S) mw_X1_become ml_X10_322 im_X1_become se_X1_become M0.2.1 (Nat.le_of_ble_eq_true rfl) ⟨Nat.zero_le _, Nat.zero_le _⟩ rfl rfl (Nat.le_of_ble_eq_true rfl) zl_1 zk_1 dX10_image_61 rfl (fun S_1 => ?_)
      refine a_aload_n F dX10_image_64 rfl rfl ?_
      refine a_getR (k := 1) F cfX10 dX10_image_65 fl_X10_19 (by decide) fi_10_1 zl_0 zk_0 zr_0_1 ?_
      refine a_aload_n F dX10_image_68 rfl rfl ?_
      refine a_getR (k := 9) F cfX10 dX10_image_69 fl_X10_72 (by decide) fi_10_9 zl_0 zk_0 zr_0_9 ?_
      refine a_callVV F (As := [.ref 222]) cfX6 rfl (c_X6_become_17_222 X S_1) mw_X6_become ml_X10_326 im_X6_become se_X6_become M0.2.1 (Nat.le_of_ble_eq_true rfl) ⟨Nat.zero_le _, Nat.zero_le _⟩ rfl rfl (Nat.le_of_ble_eq_true rfl) zl_17 zk_17 dX10_image_72 rfl (fun S_2 => ?_)
      refine a_aload_n F dX10_image_75 rfl rfl ?_
      refine a_getR (k := 2) F cfX10 dX10_image_76 fl_X10_26 (by decide) fi_10_2 zl_0 zk_0 zr_0_2 ?_
      refine a_aload_n F dX10_image_79 rfl rfl ?_
      refine a_getR (k := 10) F cfX10 dX10_image_80 fl_X10_75 (by decide) fi_10_10 zl_0 zk_0 zr_0_10 ?_
      refine a_callVV F (As := [.ref 237]) cfX0 rfl (c_X0_become_32_237 X S_2) mw_X0_become ml_X10_329 im_X0_become se_X0_become M0.2.1 (Nat.le_of_ble_eq_true rfl) ⟨Nat.zero_le _, Nat.zero_le _⟩ rfl rfl (Nat.le_of_ble_eq_true rfl) zl_32 zk_32 dX10_image_83 rfl (fun S_3 => ?_)
      refine a_aload_n F dX10_image_86 rfl rfl ?_
      refine a_getR (k := 3) F cfX10 dX10_image_87 fl_X10_33 (by decide) fi_10_3 zl_0 zk_0 zr_0_3 ?_
      refine a_callVV F (As := []) cfX2 rfl (c_X2_forget X S_3) mw_X2_forget ml_X10_86 im_X2_forget se_X2_forget M0.2.1 (Nat.le_of_ble_eq_true rfl) ⟨Nat.zero_le _, Nat.zero_le _⟩ rfl rfl (Nat.le_of_ble_eq_true rfl) zl_34 zk_34 dX10_image_90 rfl (fun S_4 => ?_)
      refine a_iconst F dX10_image_93 ki_1 ?_
      exact a_zretK F M0.2.2.1 M0.2.2.2 dX10_image_94 (Or.inr rfl)
  · refine a_aload_n F dX10_image_4 rfl rfl ?_
    refine a_getR (k := 8) F cfX10 dX10_image_5 fl_X10_69 (by decide) fi_10_8 zl_0 zk_0 zr_0_8 ?_
    refine a_aload_n F dX10_image_8 rfl rfl ?_
    refine a_getR (k := 0) F cfX10 dX10_image_9 fl_X10_12 (by decide) fi_10_0 zl_0 zk_0 zr_0_0 ?_
    refine a_callVV F (As := [.ref 1]) cfX1 rfl (c_X1_become X icl_206 icl_1 S) mw_X1_become ml_X10_322 im_X1_become se_X1_become M0.2.1 (Nat.le_of_ble_eq_true rfl) ⟨Nat.zero_le _, Nat.zero_le _⟩ rfl rfl (Nat.le_of_ble_eq_true rfl) zl_206 zk_206 dX10_image_12 rfl (fun S_5 => ?_)
    refine a_aload_n F dX10_image_15 rfl rfl ?_
    refine a_getR (k := 9) F cfX10 dX10_image_16 fl_X10_72 (by decide) fi_10_9 zl_0 zk_0 zr_0_9 ?_
    refine a_aload_n F dX10_image_19 rfl rfl ?_
    refine a_getR (k := 1) F cfX10 dX10_image_20 fl_X10_19 (by decide) fi_10_1 zl_0 zk_0 zr_0_1 ?_
    refine a_callVV F (As := [.ref 17]) cfX6 rfl (c_X6_become_222_17 X S_5) mw_X6_become ml_X10_326 im_X6_become se_X6_become M0.2.1 (Nat.le_of_ble_eq_true rfl) ⟨Nat.zero_le _, Nat.zero_le _⟩ rfl rfl (Nat.le_of_ble_eq_true rfl) zl_222 zk_222 dX10_image_23 rfl (fun S_6 => ?_)
    refine a_aload_n F dX10_image_26 rfl rfl ?_
    refine a_getR (k := 10) F cfX10 dX10_image_27 fl_X10_75 (by decide) fi_10_10 zl_0 zk_0 zr_0_10 ?_
    refine a_aload_n F dX10_image_30 rfl rfl ?_
    refine a_getR (k := 2) F cfX10 dX10_image_31 fl_X10_26 (by decide) fi_10_2 zl_0 zk_0 zr_0_2 ?_
    refine a_callVV F (As := [.ref 32]) cfX0 rfl (c_X0_become_237_32 X S_6) mw_X0_become ml_X10_329 im_X0_become se_X0_become M0.2.1 (Nat.le_of_ble_eq_true rfl) ⟨Nat.zero_le _, Nat.zero_le _⟩ rfl rfl (Nat.le_of_ble_eq_true rfl) zl_237 zk_237 dX10_image_34 rfl (fun S_7 => ?_)
    refine a_aload_n F dX10_image_37 rfl rfl ?_
    refine a_iconst F dX10_image_38 ki_1 ?_
    refine a_putZK (k := 11) F cfX10 dX10_image_39 fl_X10_78 (by decide) fi_10_11 rfl rfl zl_0 zk_0 (Or.inr rfl) ?_
    refine a_nmS (fun S_8 => ?_)
    refine a_iconst F dX10_image_42 ki_1 ?_
    exact a_zretK F M0.2.2.1 M0.2.2.2 dX10_image_43 (Or.inr rfl)
theorem c_X10_image (X : CX) (p1 : Int32) (S : Mm) : CtI X Z1 yX10_image cX10_image 2 (some .boolean) 3 [.ref 0, .int p1] S (f_X10_image p1 S) :=
  ctI_of (by decide +kernel) rfl (Nat.le_of_ble_eq_true rfl) (by simp [Value.category]) z1len fun E F R hra hlk => b_X10_image ⟨F, R, hra, hlk⟩ p1 S
def f_X1_pass_n (r0 : Nat) (p1 p2 p3 : Int32) (S : Mm) : Option Mm :=
  gd (inB p1 28 = true) <|
  nm (uM S (r0 + 10) (ix p1) p2) fun S_1 =>
  some S_1
set_option maxRecDepth 20000 in
theorem b_X1_pass_n {X : CX} {E : FE} (M0 : MF X E RX1 cX1_pass 5 1 none) {r0 : Nat} (h0 : isClan r0) (p1 p2 p3 : Int32) (S : Mm) : At X E false (mQv X Z1 E) 0 [some (.ref r0), some (.int p1), some (.int p2), some (.int p3), some (.null)] [] Z1 S 0 0 (f_X1_pass_n r0 p1 p2 p3 S) := by
  have F := M0.1
  unfold f_X1_pass_n
  refine a_aloadN F dX1_pass_0 rfl ?_
  refine a_ifnullN F 33 dX1_pass_2 (by decide) ?_
  refine a_aload_n F dX1_pass_33 rfl rfl ?_
  refine a_getR (k := 14) F cfX1 dX1_pass_34 fl_X1_55 (by decide) fi_1_14 (zcl_0 h0) (zck_0 h0) (zcr_14 h0) ?_
  refine a_iload_n F dX1_pass_37 rfl rfl ?_
  refine a_iload_n F dX1_pass_38 rfl rfl ?_
  refine a_gd (a_iast F dX1_pass_39 (zcl_10 h0) (zck_10 h0) ?_)
  refine a_nmS (fun S_1 => ?_)
  exact a_vret F M0.2.2.1 M0.2.2.2 dX1_pass_40
theorem c_X1_pass_n (X : CX) {r0 : Nat} (h0 : isClan r0) (p1 p2 p3 : Int32) (S : Mm) : CtV X Z1 yX1_pass cX1_pass 5 1 [.ref r0, .int p1, .int p2, .int p3, .null] S (f_X1_pass_n r0 p1 p2 p3 S) :=
  ctV_of (by decide +kernel) rfl (Nat.le_of_ble_eq_true rfl) (by simp [Value.category]) z1len fun E F R hra hlk => b_X1_pass_n ⟨F, R, hra, hlk⟩ h0 p1 p2 p3 S
def f_X1_die_17_n_108 (k17 : Int32 → Int32 → Mm → Option Mm) (r0 : Nat) (x1 x4 : Int32) (S : Mm) : Option Mm :=
  nm (x4 + (1 : Int32)) fun x4_1 =>
  k17 x1 x4_1 S
set_option maxRecDepth 20000 in
theorem b_X1_die_17_n_108 {X : CX} {E : FE} (M0 : MF X E RX1 cX1_die 7 5 none) {r0 : Nat} (h0 : isClan r0) {k17 : Int32 → Int32 → Mm → Option Mm} (hk17 : ∀ (x1 x4 : Int32) (S : Mm), At X E false (mQv X Z1 E) 17 [some (.ref r0), some (.int x1), some (.ref 17), some (.null), some (.int x4), none, none] [] Z1 S 0 0 (k17 x1 x4 S)) (x1 x4 : Int32) (S : Mm) : At X E false (mQv X Z1 E) 108 [some (.ref r0), some (.int x1), some (.ref 17), some (.null), some (.int x4), none, none] [] Z1 S 0 0 (f_X1_die_17_n_108 k17 r0 x1 x4 S) := by
  have F := M0.1
  unfold f_X1_die_17_n_108
  refine a_iincN (L' := fun x4_1 => [some (.ref r0), some (.int x1), some (.ref 17), some (.null), some (.int x4_1), none, none]) F dX1_die_108 rfl ki_1 (lt_b rfl) (fun _ => rfl) (fun x4_1 => ?_)
  refine a_goto F 17 dX1_die_111 (by decide) ?_
  exact hk17 x1 x4_1 S
def f_X1_die_17_n_91 (k17 : Int32 → Int32 → Mm → Option Mm) (r0 : Nat) (x1 x4 : Int32) (S : Mm) : Option Mm :=
  gd (inB x4 28 = true) <|
  if (S (r0 + 11) (ix x4)) = x1 then (
   (f_X1_endLoan r0 x4 S).bind fun S_1 =>
   f_X1_die_17_n_108 k17 r0 x1 x4 S_1
  ) else (
   f_X1_die_17_n_108 k17 r0 x1 x4 S
  )
set_option maxRecDepth 20000 in
theorem b_X1_die_17_n_91 {X : CX} {E : FE} (M0 : MF X E RX1 cX1_die 7 5 none) {r0 : Nat} (h0 : isClan r0) {k17 : Int32 → Int32 → Mm → Option Mm} (hk17 : ∀ (x1 x4 : Int32) (S : Mm), At X E false (mQv X Z1 E) 17 [some (.ref r0), some (.int x1), some (.ref 17), some (.null), some (.int x4), none, none] [] Z1 S 0 0 (k17 x1 x4 S)) (x1 x4 : Int32) (S : Mm) : At X E false (mQv X Z1 E) 91 [some (.ref r0), some (.int x1), some (.ref 17), some (.null), some (.int x4), none, none] [] Z1 S 0 0 (f_X1_die_17_n_91 k17 r0 x1 x4 S) := by
  have F := M0.1
  unfold f_X1_die_17_n_91
  refine a_aload_n F dX1_die_91 rfl rfl ?_
  refine a_getR (k := 15) F cfX1 dX1_die_92 fl_X1_58 (by decide) fi_1_15 (zcl_0 h0) (zck_0 h0) (zcr_15 h0) ?_
  refine a_iload F dX1_die_95 rfl ?_
  refine a_gd (a_iald F dX1_die_97 (zcl_11 h0) (zck_11 h0) ?_)
  refine a_iload_n F dX1_die_98 rfl rfl ?_
  refine a_icmp_ne F 108 dX1_die_99 (by decide) ?_ ?_
  · refine a_aload_n F dX1_die_102 rfl rfl ?_
    refine a_iload F dX1_die_103 rfl ?_
    refine a_callVV F (As := [.int x4]) cfX1 rfl (c_X1_endLoan X h0 x4 S) mw_X1_endLoan ml_X1_109 im_X1_endLoan se_X1_endLoan M0.2.1 (Nat.le_of_ble_eq_true rfl) ⟨Nat.zero_le _, Nat.zero_le _⟩ rfl rfl (Nat.le_of_ble_eq_true rfl) (zcl_0 h0) (zck_0 h0) dX1_die_105 rfl (fun S_1 => ?_)
    exact b_X1_die_17_n_108 M0 h0 hk17 x1 x4 S_1
  · exact b_X1_die_17_n_108 M0 h0 hk17 x1 x4 S
def f_X1_die_17_n_80 (k17 : Int32 → Int32 → Mm → Option Mm) (r0 : Nat) (x1 x4 x5 x6 : Int32) (S : Mm) : Option Mm :=
  (f_X1_pass_n r0 x4 x5 x6 S).bind fun S_1 =>
  f_X1_die_17_n_91 k17 r0 x1 x4 S_1
set_option maxRecDepth 20000 in
theorem b_X1_die_17_n_80 {X : CX} {E : FE} (M0 : MF X E RX1 cX1_die 7 5 none) {r0 : Nat} (h0 : isClan r0) {k17 : Int32 → Int32 → Mm → Option Mm} (hk17 : ∀ (x1 x4 : Int32) (S : Mm), At X E false (mQv X Z1 E) 17 [some (.ref r0), some (.int x1), some (.ref 17), some (.null), some (.int x4), none, none] [] Z1 S 0 0 (k17 x1 x4 S)) (x1 x4 x5 x6 : Int32) (S : Mm) : At X E false (mQv X Z1 E) 80 [some (.ref r0), some (.int x1), some (.ref 17), some (.null), some (.int x4), some (.int x5), some (.int x6)] [] Z1 S 0 0 (f_X1_die_17_n_80 k17 r0 x1 x4 x5 x6 S) := by
  have F := M0.1
  unfold f_X1_die_17_n_80
  refine a_aload_n F dX1_die_80 rfl rfl ?_
  refine a_iload F dX1_die_81 rfl ?_
  refine a_iload F dX1_die_83 rfl ?_
  refine a_iload F dX1_die_85 rfl ?_
  refine a_aload_nN F dX1_die_87 rfl rfl ?_
  refine a_callVV F (As := [.int x4, .int x5, .int x6, .null]) cfX1 rfl (c_X1_pass_n X h0 x4 x5 x6 S) mw_X1_pass ml_X1_137 im_X1_pass se_X1_pass M0.2.1 (Nat.le_of_ble_eq_true rfl) ⟨Nat.zero_le _, Nat.zero_le _⟩ rfl rfl (Nat.le_of_ble_eq_true rfl) (zcl_0 h0) (zck_0 h0) dX1_die_88 rfl (fun S_1 => ?_)
  refine a_mask [true, true, true, true, true, false, false] (L' := [some (.ref r0), some (.int x1), some (.ref 17), some (.null), some (.int x4), none, none]) rfl rfl ?_
  exact b_X1_die_17_n_91 M0 h0 hk17 x1 x4 S_1
def f_X1_die_17_n_59 (k17 : Int32 → Int32 → Mm → Option Mm) (r0 : Nat) (x1 x4 x5 t0 : Int32) (S : Mm) : Option Mm :=
  if x5 = (-1 : Int32) then (
   (f_X3_heirOf_18 r0 x1 x4 S).bind fun q_1 =>
   f_X1_die_17_n_80 k17 r0 x1 x4 q_1.1 t0 q_1.2
  ) else (
   f_X1_die_17_n_80 k17 r0 x1 x4 x5 t0 S
  )
set_option maxRecDepth 20000 in
theorem b_X1_die_17_n_59 {X : CX} {E : FE} (M0 : MF X E RX1 cX1_die 7 5 none) {r0 : Nat} (h0 : isClan r0) {k17 : Int32 → Int32 → Mm → Option Mm} (hk17 : ∀ (x1 x4 : Int32) (S : Mm), At X E false (mQv X Z1 E) 17 [some (.ref r0), some (.int x1), some (.ref 17), some (.null), some (.int x4), none, none] [] Z1 S 0 0 (k17 x1 x4 S)) (x1 x4 x5 t0 : Int32) (S : Mm) : At X E false (mQv X Z1 E) 59 [some (.ref r0), some (.int x1), some (.ref 17), some (.null), some (.int x4), some (.int x5), none] [.int t0] Z1 S 0 0 (f_X1_die_17_n_59 k17 r0 x1 x4 x5 t0 S) := by
  have F := M0.1
  unfold f_X1_die_17_n_59
  refine a_istore (L' := [some (.ref r0), some (.int x1), some (.ref 17), some (.null), some (.int x4), some (.int x5), some (.int t0)]) F dX1_die_59 (lt_b rfl) rfl ?_
  refine a_iload F dX1_die_61 rfl ?_
  refine a_iconst F dX1_die_63 ki_m1 ?_
  refine a_icmp_ne F 80 dX1_die_64 (by decide) ?_ ?_
  · refine a_aload_n F dX1_die_67 rfl rfl ?_
    refine a_getR (k := 0) F cfX6 dX1_die_68 fl_X1_127 (by decide) fi_6_0 zl_17 zk_17 zr_17_0 ?_
    refine a_aload_n F dX1_die_71 rfl rfl ?_
    refine a_iload_n F dX1_die_72 rfl rfl ?_
    refine a_iload F dX1_die_73 rfl ?_
    refine a_callVI F (As := [.ref r0, .int x1, .int x4]) cfX3 rfl (c_X3_heirOf_18 X h0 x1 x4 S) mw_X3_heirOf ml_X1_131 im_X3_heirOf se_X3_heirOf M0.2.1 (Nat.le_of_ble_eq_true rfl) ⟨Nat.zero_le _, Nat.zero_le _⟩ rfl rfl (Nat.le_of_ble_eq_true rfl) zl_18 zk_18 dX1_die_75 rfl (fun q_1 => ?_)
    refine a_istore (L' := [some (.ref r0), some (.int x1), some (.ref 17), some (.null), some (.int x4), some (.int q_1.1), some (.int t0)]) F dX1_die_78 (lt_b rfl) rfl ?_
    exact b_X1_die_17_n_80 M0 h0 hk17 x1 x4 q_1.1 t0 q_1.2
  · exact b_X1_die_17_n_80 M0 h0 hk17 x1 x4 x5 t0 S
def f_X1_die_17_n_17b (k17 : Int32 → Int32 → Mm → Option Mm) (r0 : Nat) (x1 x4 : Int32) (S : Mm) : Option Mm :=
  if (28 : Int32) ≤ x4 then (
   gd (inB x1 12 = true) <|
   if (S (r0 + 8) (ix x1)) = (-1 : Int32) then (
    some S
   ) else (
    gd (inB x1 12 = true) <|
    gd (inB (S (r0 + 8) (ix x1)) 12 = true) <|
    nm (uM S (r0 + 8) (ix (S (r0 + 8) (ix x1))) (-1 : Int32)) fun S_1 =>
    some S_1
   )
  ) else (
   gd (inB x4 28 = true) <|
   if (S (r0 + 10) (ix x4)) = x1 then (
    (f_X6_heirByWill_17 x1 x4 (S r0 4) S).bind fun q_2 =>
    if q_2.1 = (-1 : Int32) then (
     f_X1_die_17_n_59 k17 r0 x1 x4 q_2.1 (4 : Int32) q_2.2
    ) else (
     f_X1_die_17_n_59 k17 r0 x1 x4 q_2.1 (3 : Int32) q_2.2
    )
   ) else (
    f_X1_die_17_n_91 k17 r0 x1 x4 S
   )
  )
set_option maxRecDepth 20000 in
theorem b_X1_die_17_n_17b {X : CX} {E : FE} (M0 : MF X E RX1 cX1_die 7 5 none) {r0 : Nat} (h0 : isClan r0) {k17 : Int32 → Int32 → Mm → Option Mm} (hk17 : ∀ (x1 x4 : Int32) (S : Mm), At X E false (mQv X Z1 E) 17 [some (.ref r0), some (.int x1), some (.ref 17), some (.null), some (.int x4), none, none] [] Z1 S 0 0 (k17 x1 x4 S)) (x1 x4 : Int32) (S : Mm) : At X E false (mQv X Z1 E) 17 [some (.ref r0), some (.int x1), some (.ref 17), some (.null), some (.int x4), none, none] [] Z1 S 0 0 (f_X1_die_17_n_17b k17 r0 x1 x4 S) := by
  have F := M0.1
  unfold f_X1_die_17_n_17b
  refine a_iload F dX1_die_17 rfl ?_
  refine a_bipush F dX1_die_19 kb_28 ?_
  refine a_icmp_ge F 114 dX1_die_21 (by decide) ?_ ?_
  · refine a_aload_n F dX1_die_114 rfl rfl ?_
    refine a_getR (k := 12) F cfX1 dX1_die_115 fl_X1_49 (by decide) fi_1_12 (zcl_0 h0) (zck_0 h0) (zcr_12 h0) ?_
    refine a_iload_n F dX1_die_118 rfl rfl ?_
    refine a_gd (a_iald F dX1_die_119 (zcl_8 h0) (zck_8 h0) ?_)
    refine a_iconst F dX1_die_120 ki_m1 ?_
    refine a_icmp_eq F 136 dX1_die_121 (by decide) ?_ ?_
    · exact a_vret F M0.2.2.1 M0.2.2.2 dX1_die_136
    · refine a_aload_n F dX1_die_124 rfl rfl ?_
      refine a_getR (k := 12) F cfX1 dX1_die_125 fl_X1_49 (by decide) fi_1_12 (zcl_0 h0) (zck_0 h0) (zcr_12 h0) ?_
      refine a_aload_n F dX1_die_128 rfl rfl ?_
      refine a_getR (k := 12) F cfX1 dX1_die_129 fl_X1_49 (by decide) fi_1_12 (zcl_0 h0) (zck_0 h0) (zcr_12 h0) ?_
      refine a_iload_n F dX1_die_132 rfl rfl ?_
      refine a_gd (a_iald F dX1_die_133 (zcl_8 h0) (zck_8 h0) ?_)
      refine a_iconst F dX1_die_134 ki_m1 ?_
      refine a_gd (a_iast F dX1_die_135 (zcl_8 h0) (zck_8 h0) ?_)
      refine a_nmS (fun S_1 => ?_)
      exact a_vret F M0.2.2.1 M0.2.2.2 dX1_die_136
  · refine a_aload_n F dX1_die_24 rfl rfl ?_
    refine a_getR (k := 14) F cfX1 dX1_die_25 fl_X1_55 (by decide) fi_1_14 (zcl_0 h0) (zck_0 h0) (zcr_14 h0) ?_
    refine a_iload F dX1_die_28 rfl ?_
    refine a_gd (a_iald F dX1_die_30 (zcl_10 h0) (zck_10 h0) ?_)
    refine a_iload_n F dX1_die_31 rfl rfl ?_
    refine a_icmp_ne F 91 dX1_die_32 (by decide) ?_ ?_
    · refine a_aload_n F dX1_die_35 rfl rfl ?_
      refine a_iload_n F dX1_die_36 rfl rfl ?_
      refine a_iload F dX1_die_37 rfl ?_
      refine a_aload_n F dX1_die_39 rfl rfl ?_
      refine a_getI (k := 4) F cfX1 dX1_die_40 fl_X1_24 (by decide) fi_1_4 (zcl_0 h0) (zck_0 h0) ?_
      refine a_callVI F (As := [.int x1, .int x4, .int (S r0 4)]) cfX6 rfl (c_X6_heirByWill_17 X x1 x4 (S r0 4) S) mw_X6_heirByWill ml_X1_121 im_X6_heirByWill se_X6_heirByWill M0.2.1 (Nat.le_of_ble_eq_true rfl) ⟨Nat.zero_le _, Nat.zero_le _⟩ rfl rfl (Nat.le_of_ble_eq_true rfl) zl_17 zk_17 dX1_die_43 rfl (fun q_2 => ?_)
      refine a_istore (L' := [some (.ref r0), some (.int x1), some (.ref 17), some (.null), some (.int x4), some (.int q_2.1), none]) F dX1_die_46 (lt_b rfl) rfl ?_
      refine a_iload F dX1_die_48 rfl ?_
      refine a_iconst F dX1_die_50 ki_m1 ?_
      refine a_icmp_ne F 58 dX1_die_51 (by decide) ?_ ?_
      · refine a_iconst F dX1_die_54 ki_4 ?_
        refine a_goto F 59 dX1_die_55 (by decide) ?_
        exact b_X1_die_17_n_59 M0 h0 hk17 x1 x4 q_2.1 (4 : Int32) q_2.2
      · refine a_iconst F dX1_die_58 ki_3 ?_
        exact b_X1_die_17_n_59 M0 h0 hk17 x1 x4 q_2.1 (3 : Int32) q_2.2
    · exact b_X1_die_17_n_91 M0 h0 hk17 x1 x4 S
def f_X1_die_17_n_17 (r0 : Nat) : Nat → Int32 → Int32 → Mm → Option Mm :=
  itr (fun _ _ _ => none) (fun k => f_X1_die_17_n_17b k r0)
theorem b_X1_die_17_n_17 {X : CX} {E : FE} (M0 : MF X E RX1 cX1_die 7 5 none) {r0 : Nat} (h0 : isClan r0) : ∀ (n : Nat) (x1 x4 : Int32) (S : Mm), At X E false (mQv X Z1 E) 17 [some (.ref r0), some (.int x1), some (.ref 17), some (.null), some (.int x4), none, none] [] Z1 S 0 0 (f_X1_die_17_n_17 r0 n x1 x4 S) := by
  intro n
  induction n with
  | zero => intros; exact a_none
  | succ n ih => intro x1 x4 S; exact b_X1_die_17_n_17b M0 h0 ih x1 x4 S
def f_X1_die_17_n (r0 : Nat) (p1 : Int32) (S : Mm) : Option Mm :=
  nm (uM S r0 4 ((S r0 4) &&& ((shl (1 : Int32) p1) ^^^ (-1 : Int32)))) fun S_1 =>
  f_X1_die_17_n_17 r0 FU p1 (0 : Int32) S_1
set_option maxRecDepth 20000 in
theorem b_X1_die_17_n {X : CX} {E : FE} (M0 : MF X E RX1 cX1_die 7 5 none) {r0 : Nat} (h0 : isClan r0) (p1 : Int32) (S : Mm) : At X E false (mQv X Z1 E) 0 [some (.ref r0), some (.int p1), some (.ref 17), some (.null), none, none, none] [] Z1 S 0 0 (f_X1_die_17_n r0 p1 S) := by
  have F := M0.1
  unfold f_X1_die_17_n
  refine a_aload_n F dX1_die_0 rfl rfl ?_
  refine a_dup F dX1_die_1 rfl ?_
  refine a_getI (k := 4) F cfX1 dX1_die_2 fl_X1_24 (by decide) fi_1_4 (zcl_0 h0) (zck_0 h0) ?_
  refine a_iconst F dX1_die_5 ki_1 ?_
  refine a_iload_n F dX1_die_6 rfl rfl ?_
  refine a_ishl F dX1_die_7 ?_
  refine a_iconst F dX1_die_8 ki_m1 ?_
  refine a_ixor F dX1_die_9 ?_
  refine a_iand F dX1_die_10 ?_
  refine a_putI (k := 4) F cfX1 dX1_die_11 fl_X1_24 (by decide) fi_1_4 rfl rfl (zcl_0 h0) (zck_0 h0) ?_
  refine a_nmS (fun S_1 => ?_)
  refine a_iconst F dX1_die_14 ki_0 ?_
  refine a_istore (L' := [some (.ref r0), some (.int p1), some (.ref 17), some (.null), some (.int (0 : Int32)), none, none]) F dX1_die_15 (lt_b rfl) rfl ?_
  exact b_X1_die_17_n_17 M0 h0 FU p1 (0 : Int32) S_1
theorem c_X1_die_17_n (X : CX) {r0 : Nat} (h0 : isClan r0) (p1 : Int32) (S : Mm) : CtV X Z1 yX1_die cX1_die 7 5 [.ref r0, .int p1, .ref 17, .null] S (f_X1_die_17_n r0 p1 S) :=
  ctV_of (by decide +kernel) rfl (Nat.le_of_ble_eq_true rfl) (by simp [Value.category]) z1len fun E F R hra hlk => b_X1_die_17_n ⟨F, R, hra, hlk⟩ h0 p1 S
def f_X7_heirOf (p1 p2 : Int32) (S : Mm) : Option (Int32 × Mm) :=
  (f_X1_become 166 1 S).bind fun S_1 =>
  (f_X1_die_17_n 166 p1 S_1).bind fun S_2 =>
  gd (inB p2 28 = true) <|
  some ((S_2 176 (ix p2)), S_2)
set_option maxRecDepth 20000 in
theorem b_X7_heirOf {X : CX} {E : FE} (M0 : MF X E RX7 cX7_heirOf 3 6 (some .int)) (p1 p2 : Int32) (S : Mm) : At X E false (mQi X Z1 E) 0 [some (.ref 165), some (.int p1), some (.int p2)] [] Z1 S 0 0 (f_X7_heirOf p1 p2 S) := by
  have F := M0.1
  unfold f_X7_heirOf
  refine a_aload_n F dX7_heirOf_0 rfl rfl ?_
  refine a_getR (k := 2) F cfX7 dX7_heirOf_1 fl_X7_12 (by decide) fi_7_2 zl_165 zk_165 zr_165_2 ?_
  refine a_aload_n F dX7_heirOf_4 rfl rfl ?_
  refine a_getR (k := 0) F cfX7 dX7_heirOf_5 fl_X7_25 (by decide) fi_7_0 zl_165 zk_165 zr_165_0 ?_
  refine a_callVV F (As := [.ref 1]) cfX1 rfl (c_X1_become X icl_166 icl_1 S) mw_X1_become ml_X7_70 im_X1_become se_X1_become M0.2.1 (Nat.le_of_ble_eq_true rfl) ⟨Nat.zero_le _, Nat.zero_le _⟩ rfl rfl (Nat.le_of_ble_eq_true rfl) zl_166 zk_166 dX7_heirOf_8 rfl (fun S_1 => ?_)
  refine a_aload_n F dX7_heirOf_11 rfl rfl ?_
  refine a_getR (k := 2) F cfX7 dX7_heirOf_12 fl_X7_12 (by decide) fi_7_2 zl_165 zk_165 zr_165_2 ?_
  refine a_iload_n F dX7_heirOf_15 rfl rfl ?_
  refine a_aload_n F dX7_heirOf_16 rfl rfl ?_
  refine a_getR (k := 1) F cfX7 dX7_heirOf_17 fl_X7_28 (by decide) fi_7_1 zl_165 zk_165 zr_165_1 ?_
  refine a_null F dX7_heirOf_20 ?_
  refine a_callVV F (As := [.int p1, .ref 17, .null]) cfX1 rfl (c_X1_die_17_n X icl_166 p1 S_1) mw_X1_die ml_X7_73 im_X1_die se_X1_die M0.2.1 (Nat.le_of_ble_eq_true rfl) ⟨Nat.zero_le _, Nat.zero_le _⟩ rfl rfl (Nat.le_of_ble_eq_true rfl) zl_166 zk_166 dX7_heirOf_21 rfl (fun S_2 => ?_)
  refine a_aload_n F dX7_heirOf_24 rfl rfl ?_
  refine a_getR (k := 2) F cfX7 dX7_heirOf_25 fl_X7_12 (by decide) fi_7_2 zl_165 zk_165 zr_165_2 ?_
  refine a_getR (k := 14) F cfX1 dX7_heirOf_28 fl_X7_81 (by decide) fi_1_14 zl_166 zk_166 zr_166_14 ?_
  refine a_iload_n F dX7_heirOf_31 rfl rfl ?_
  refine a_gd (a_iald F dX7_heirOf_32 zl_176 zk_176 ?_)
  exact a_iret F M0.2.2.1 M0.2.2.2 dX7_heirOf_33
theorem c_X7_heirOf (X : CX) (p1 p2 : Int32) (S : Mm) : CtI X Z1 yX7_heirOf cX7_heirOf 3 (some .int) 6 [.ref 165, .int p1, .int p2] S (f_X7_heirOf p1 p2 S) :=
  ctI_of (by decide +kernel) rfl (Nat.le_of_ble_eq_true rfl) (by simp [Value.category]) z1len fun E F R hra hlk => b_X7_heirOf ⟨F, R, hra, hlk⟩ p1 p2 S
def f_X10_inherit (p1 p2 p3 : Int32) (S : Mm) : Option (Int32 × Mm) :=
  (f_X10_isLetter p2 S).bind fun q_1 =>
  if q_1.1 = 0 then (
   some ((-2 : Int32), q_1.2)
  ) else (
   (f_X1_lives 1 p1 q_1.2).bind fun q_2 =>
   if q_2.1 = 0 then (
    some ((-2 : Int32), q_2.2)
   ) else (
    gd (inB p2 28 = true) <|
    if (q_2.2 11 (ix p2)) = p1 then (
     if p3 = 0 then (
      (f_X7_heirOf p1 p2 q_2.2).bind fun q_3 =>
      some (q_3.1, q_3.2)
     ) else (
      if p3 = (1 : Int32) then (
       (f_X6_heirByWill_17 p1 p2 (q_2.2 1 4) q_2.2).bind fun q_4 =>
       if q_4.1 = (-1 : Int32) then (
        some ((0 : Int32), q_4.2)
       ) else (
        some ((1 : Int32), q_4.2)
       )
      ) else (
       some ((-2 : Int32), q_2.2)
      )
     )
    ) else (
     some ((-2 : Int32), q_2.2)
    )
   )
  )
set_option maxRecDepth 20000 in
theorem b_X10_inherit {X : CX} {E : FE} (M0 : MF X E RX10 cX10_inherit 4 7 (some .int)) (p1 p2 p3 : Int32) (S : Mm) : At X E false (mQi X Z1 E) 0 [some (.ref 0), some (.int p1), some (.int p2), some (.int p3)] [] Z1 S 0 0 (f_X10_inherit p1 p2 p3 S) := by
  have F := M0.1
  unfold f_X10_inherit
  refine a_iload_n F dX10_inherit_0 rfl rfl ?_
  refine a_callSI F (As := [.int p2]) (c_X10_isLetter X p2 S) mw_X10_isLetter ml_X10_127 st_X10_isLetter M0.2.1 (Nat.le_of_ble_eq_true rfl) ⟨Nat.zero_le _, Nat.zero_le _⟩ rfl rfl (Nat.le_of_ble_eq_true rfl) dX10_inherit_1 rfl (fun q_1 => ?_)
  refine a_if_eq F 31 dX10_inherit_4 (by decide) ?_ ?_
  · refine a_bipush F dX10_inherit_31 kb_m2 ?_
    exact a_iret F M0.2.2.1 M0.2.2.2 dX10_inherit_33
  · refine a_aload_n F dX10_inherit_7 rfl rfl ?_
    refine a_getR (k := 0) F cfX10 dX10_inherit_8 fl_X10_12 (by decide) fi_10_0 zl_0 zk_0 zr_0_0 ?_
    refine a_iload_n F dX10_inherit_11 rfl rfl ?_
    refine a_callVI F (As := [.int p1]) cfX1 rfl (c_X1_lives X icl_1 p1 q_1.2) mw_X1_lives ml_X10_104 im_X1_lives se_X1_lives M0.2.1 (Nat.le_of_ble_eq_true rfl) ⟨Nat.zero_le _, Nat.zero_le _⟩ rfl rfl (Nat.le_of_ble_eq_true rfl) zl_1 zk_1 dX10_inherit_12 rfl (fun q_2 => ?_)
    refine a_if_eq F 31 dX10_inherit_15 (by decide) ?_ ?_
    · refine a_bipush F dX10_inherit_31 kb_m2 ?_
      exact a_iret F M0.2.2.1 M0.2.2.2 dX10_inherit_33
    · refine a_aload_n F dX10_inherit_18 rfl rfl ?_
      refine a_getR (k := 0) F cfX10 dX10_inherit_19 fl_X10_12 (by decide) fi_10_0 zl_0 zk_0 zr_0_0 ?_
      refine a_getR (k := 14) F cfX1 dX10_inherit_22 fl_X10_192 (by decide) fi_1_14 zl_1 zk_1 zr_1_14 ?_
      refine a_iload_n F dX10_inherit_25 rfl rfl ?_
      refine a_gd (a_iald F dX10_inherit_26 zl_11 zk_11 ?_)
      refine a_iload_n F dX10_inherit_27 rfl rfl ?_
      refine a_icmp_eq F 34 dX10_inherit_28 (by decide) ?_ ?_
      · refine a_iload_n F dX10_inherit_34 rfl rfl ?_
        refine a_if_ne F 48 dX10_inherit_35 (by decide) ?_ ?_
        · refine a_aload_n F dX10_inherit_38 rfl rfl ?_
          refine a_getR (k := 4) F cfX10 dX10_inherit_39 fl_X10_42 (by decide) fi_10_4 zl_0 zk_0 zr_0_4 ?_
          refine a_iload_n F dX10_inherit_42 rfl rfl ?_
          refine a_iload_n F dX10_inherit_43 rfl rfl ?_
          refine a_callVI F (As := [.int p1, .int p2]) cfX7 rfl (c_X7_heirOf X p1 p2 q_2.2) mw_X7_heirOf ml_X10_299 im_X7_heirOf se_X7_heirOf M0.2.1 (Nat.le_of_ble_eq_true rfl) ⟨Nat.zero_le _, Nat.zero_le _⟩ rfl rfl (Nat.le_of_ble_eq_true rfl) zl_165 zk_165 dX10_inherit_44 rfl (fun q_3 => ?_)
          exact a_iret F M0.2.2.1 M0.2.2.2 dX10_inherit_47
        · refine a_iload_n F dX10_inherit_48 rfl rfl ?_
          refine a_iconst F dX10_inherit_49 ki_1 ?_
          refine a_icmp_ne F 79 dX10_inherit_50 (by decide) ?_ ?_
          · refine a_aload_n F dX10_inherit_53 rfl rfl ?_
            refine a_getR (k := 1) F cfX10 dX10_inherit_54 fl_X10_19 (by decide) fi_10_1 zl_0 zk_0 zr_0_1 ?_
            refine a_iload_n F dX10_inherit_57 rfl rfl ?_
            refine a_iload_n F dX10_inherit_58 rfl rfl ?_
            refine a_aload_n F dX10_inherit_59 rfl rfl ?_
            refine a_getR (k := 0) F cfX10 dX10_inherit_60 fl_X10_12 (by decide) fi_10_0 zl_0 zk_0 zr_0_0 ?_
            refine a_getI (k := 4) F cfX1 dX10_inherit_63 fl_X10_208 (by decide) fi_1_4 zl_1 zk_1 ?_
            refine a_callVI F (As := [.int p1, .int p2, .int (q_2.2 1 4)]) cfX6 rfl (c_X6_heirByWill_17 X p1 p2 (q_2.2 1 4) q_2.2) mw_X6_heirByWill ml_X10_302 im_X6_heirByWill se_X6_heirByWill M0.2.1 (Nat.le_of_ble_eq_true rfl) ⟨Nat.zero_le _, Nat.zero_le _⟩ rfl rfl (Nat.le_of_ble_eq_true rfl) zl_17 zk_17 dX10_inherit_66 rfl (fun q_4 => ?_)
            refine a_iconst F dX10_inherit_69 ki_m1 ?_
            refine a_icmp_ne F 77 dX10_inherit_70 (by decide) ?_ ?_
            · refine a_iconst F dX10_inherit_73 ki_0 ?_
              refine a_goto F 78 dX10_inherit_74 (by decide) ?_
              exact a_iret F M0.2.2.1 M0.2.2.2 dX10_inherit_78
            · refine a_iconst F dX10_inherit_77 ki_1 ?_
              exact a_iret F M0.2.2.1 M0.2.2.2 dX10_inherit_78
          · refine a_bipush F dX10_inherit_79 kb_m2 ?_
            exact a_iret F M0.2.2.1 M0.2.2.2 dX10_inherit_81
      · refine a_bipush F dX10_inherit_31 kb_m2 ?_
        exact a_iret F M0.2.2.1 M0.2.2.2 dX10_inherit_33
theorem c_X10_inherit (X : CX) (p1 p2 p3 : Int32) (S : Mm) : CtI X Z1 yX10_inherit cX10_inherit 4 (some .int) 7 [.ref 0, .int p1, .int p2, .int p3] S (f_X10_inherit p1 p2 p3 S) :=
  ctI_of (by decide +kernel) rfl (Nat.le_of_ble_eq_true rfl) (by simp [Value.category]) z1len fun E F R hra hlk => b_X10_inherit ⟨F, R, hra, hlk⟩ p1 p2 p3 S
def f_X10_kin (p1 p2 : Int32) (S : Mm) : Option (Int32 × Mm) :=
  (f_X1_isThere 1 p1 S).bind fun q_1 =>
  if q_1.1 = 0 then (
   some ((-1 : Int32), q_1.2)
  ) else (
   (f_X1_isThere 1 p2 q_1.2).bind fun q_2 =>
   if q_2.1 = 0 then (
    some ((-1 : Int32), q_2.2)
   ) else (
    (f_X1_stepsBetween 1 p1 p2 q_2.2).bind fun q_3 =>
    some (q_3.1, q_3.2)
   )
  )
set_option maxRecDepth 20000 in
theorem b_X10_kin {X : CX} {E : FE} (M0 : MF X E RX10 cX10_kin 3 3 (some .int)) (p1 p2 : Int32) (S : Mm) : At X E false (mQi X Z1 E) 0 [some (.ref 0), some (.int p1), some (.int p2)] [] Z1 S 0 0 (f_X10_kin p1 p2 S) := by
  have F := M0.1
  unfold f_X10_kin
  refine a_aload_n F dX10_kin_0 rfl rfl ?_
  refine a_getR (k := 0) F cfX10 dX10_kin_1 fl_X10_12 (by decide) fi_10_0 zl_0 zk_0 zr_0_0 ?_
  refine a_iload_n F dX10_kin_4 rfl rfl ?_
  refine a_callVI F (As := [.int p1]) cfX1 rfl (c_X1_isThere X icl_1 p1 S) mw_X1_isThere ml_X10_93 im_X1_isThere se_X1_isThere M0.2.1 (Nat.le_of_ble_eq_true rfl) ⟨Nat.zero_le _, Nat.zero_le _⟩ rfl rfl (Nat.le_of_ble_eq_true rfl) zl_1 zk_1 dX10_kin_5 rfl (fun q_1 => ?_)
  refine a_if_eq F 22 dX10_kin_8 (by decide) ?_ ?_
  · refine a_iconst F dX10_kin_22 ki_m1 ?_
    exact a_iret F M0.2.2.1 M0.2.2.2 dX10_kin_23
  · refine a_aload_n F dX10_kin_11 rfl rfl ?_
    refine a_getR (k := 0) F cfX10 dX10_kin_12 fl_X10_12 (by decide) fi_10_0 zl_0 zk_0 zr_0_0 ?_
    refine a_iload_n F dX10_kin_15 rfl rfl ?_
    refine a_callVI F (As := [.int p2]) cfX1 rfl (c_X1_isThere X icl_1 p2 q_1.2) mw_X1_isThere ml_X10_93 im_X1_isThere se_X1_isThere M0.2.1 (Nat.le_of_ble_eq_true rfl) ⟨Nat.zero_le _, Nat.zero_le _⟩ rfl rfl (Nat.le_of_ble_eq_true rfl) zl_1 zk_1 dX10_kin_16 rfl (fun q_2 => ?_)
    refine a_if_ne F 24 dX10_kin_19 (by decide) ?_ ?_
    · refine a_iconst F dX10_kin_22 ki_m1 ?_
      exact a_iret F M0.2.2.1 M0.2.2.2 dX10_kin_23
    · refine a_aload_n F dX10_kin_24 rfl rfl ?_
      refine a_getR (k := 0) F cfX10 dX10_kin_25 fl_X10_12 (by decide) fi_10_0 zl_0 zk_0 zr_0_0 ?_
      refine a_iload_n F dX10_kin_28 rfl rfl ?_
      refine a_iload_n F dX10_kin_29 rfl rfl ?_
      refine a_callVI F (As := [.int p1, .int p2]) cfX1 rfl (c_X1_stepsBetween X icl_1 p1 p2 q_2.2) mw_X1_stepsBetween ml_X10_248 im_X1_stepsBetween se_X1_stepsBetween M0.2.1 (Nat.le_of_ble_eq_true rfl) ⟨Nat.zero_le _, Nat.zero_le _⟩ rfl rfl (Nat.le_of_ble_eq_true rfl) zl_1 zk_1 dX10_kin_30 rfl (fun q_3 => ?_)
      exact a_iret F M0.2.2.1 M0.2.2.2 dX10_kin_33
theorem c_X10_kin (X : CX) (p1 p2 : Int32) (S : Mm) : CtI X Z1 yX10_kin cX10_kin 3 (some .int) 3 [.ref 0, .int p1, .int p2] S (f_X10_kin p1 p2 S) :=
  ctI_of (by decide +kernel) rfl (Nat.le_of_ble_eq_true rfl) (by simp [Value.category]) z1len fun E F R hra hlk => b_X10_kin ⟨F, R, hra, hlk⟩ p1 p2 S
def f_X10_lend (p1 p2 p3 p4 : Int32) (S : Mm) : Option (Int32 × Mm) :=
  (f_X10_mayHandOver p1 p2 S).bind fun q_1 =>
  if q_1.1 = 0 then (
   some ((0 : Int32), q_1.2)
  ) else (
   if p3 < (1 : Int32) then (
    some ((0 : Int32), q_1.2)
   ) else (
    if p3 ≤ (99 : Int32) then (
     gd (inB p1 28 = true) <|
     nm ((q_1.2 11 (ix p1))) fun x5_2 =>
     if p4 < 0 then (
      some ((0 : Int32), q_1.2)
     ) else (
      gd (inB p2 12 = true) <|
      if (q_1.2 8 (ix p2)) < p4 then (
       some ((0 : Int32), q_1.2)
      ) else (
       gd (inB x5_2 12 = true) <|
       if p4 ≤ ((99999 : Int32) - (q_1.2 8 (ix x5_2))) then (
        (f_X2_keep_32 1 q_1.2).bind fun S_3 =>
        gd (inB p2 12 = true) <|
        gd (inB p2 12 = true) <|
        nm (uM S_3 8 (ix p2) ((S_3 8 (ix p2)) - p4)) fun S_4 =>
        gd (inB x5_2 12 = true) <|
        gd (inB x5_2 12 = true) <|
        nm (uM S_4 8 (ix x5_2) ((S_4 8 (ix x5_2)) + p4)) fun S_5 =>
        gd (inB p1 28 = true) <|
        nm (uM S_5 12 (ix p1) p2) fun S_6 =>
        gd (inB p1 28 = true) <|
        nm (uM S_6 13 (ix p1) ((S_6 1 1) + p3)) fun S_7 =>
        some ((1 : Int32), S_7)
       ) else (
        some ((0 : Int32), q_1.2)
       )
      )
     )
    ) else (
     some ((0 : Int32), q_1.2)
    )
   )
  )
set_option maxRecDepth 20000 in
theorem b_X10_lend {X : CX} {E : FE} (M0 : MF X E RX10 cX10_lend 6 4 (some .boolean)) (p1 p2 p3 p4 : Int32) (S : Mm) : At X E false (mQi X Z1 E) 0 [some (.ref 0), some (.int p1), some (.int p2), some (.int p3), some (.int p4), none] [] Z1 S 0 0 (f_X10_lend p1 p2 p3 p4 S) := by
  have F := M0.1
  unfold f_X10_lend
  refine a_aload_n F dX10_lend_0 rfl rfl ?_
  refine a_iload_n F dX10_lend_1 rfl rfl ?_
  refine a_iload_n F dX10_lend_2 rfl rfl ?_
  refine a_callVI F (As := [.int p1, .int p2]) cfX10 rfl (c_X10_mayHandOver X p1 p2 S) mw_X10_mayHandOver ml_X10_189 im_X10_mayHandOver se_X10_mayHandOver M0.2.1 (Nat.le_of_ble_eq_true rfl) ⟨Nat.zero_le _, Nat.zero_le _⟩ rfl rfl (Nat.le_of_ble_eq_true rfl) zl_0 zk_0 dX10_lend_3 rfl (fun q_1 => ?_)
  refine a_if_eq F 20 dX10_lend_6 (by decide) ?_ ?_
  · refine a_iconst F dX10_lend_20 ki_0 ?_
    exact a_zretK F M0.2.2.1 M0.2.2.2 dX10_lend_21 (Or.inl rfl)
  · refine a_iload_n F dX10_lend_9 rfl rfl ?_
    refine a_iconst F dX10_lend_10 ki_1 ?_
    refine a_icmp_lt F 20 dX10_lend_11 (by decide) ?_ ?_
    · refine a_iconst F dX10_lend_20 ki_0 ?_
      exact a_zretK F M0.2.2.1 M0.2.2.2 dX10_lend_21 (Or.inl rfl)
    · refine a_iload_n F dX10_lend_14 rfl rfl ?_
      refine a_bipush F dX10_lend_15 kb_99 ?_
      refine a_icmp_le F 22 dX10_lend_17 (by decide) ?_ ?_
      · refine a_aload_n F dX10_lend_22 rfl rfl ?_
        refine a_getR (k := 0) F cfX10 dX10_lend_23 fl_X10_12 (by decide) fi_10_0 zl_0 zk_0 zr_0_0 ?_
        refine a_getR (k := 14) F cfX1 dX10_lend_26 fl_X10_192 (by decide) fi_1_14 zl_1 zk_1 zr_1_14 ?_
        refine a_iload_n F dX10_lend_29 rfl rfl ?_
        refine a_gd (a_iald F dX10_lend_30 zl_11 zk_11 ?_)
        refine a_istoreN (L' := fun x5_2 => [some (.ref 0), some (.int p1), some (.int p2), some (.int p3), some (.int p4), some (.int x5_2)]) F dX10_lend_31 (lt_b rfl) (fun _ => rfl) (fun x5_2 => ?_)
        refine a_iload F dX10_lend_33 rfl ?_
        refine a_if_lt F 70 dX10_lend_35 (by decide) ?_ ?_
        · refine a_iconst F dX10_lend_70 ki_0 ?_
          exact a_zretK F M0.2.2.1 M0.2.2.2 dX10_lend_71 (Or.inl rfl)
        · refine a_iload F dX10_lend_38 rfl ?_
          refine a_aload_n F dX10_lend_40 rfl rfl ?_
          refine a_getR (k := 0) F cfX10 dX10_lend_41 fl_X10_12 (by decide) fi_10_0 zl_0 zk_0 zr_0_0 ?_
          refine a_getR (k := 11) F cfX1 dX10_lend_44 fl_X10_124 (by decide) fi_1_11 zl_1 zk_1 zr_1_11 ?_
          refine a_iload_n F dX10_lend_47 rfl rfl ?_
          refine a_gd (a_iald F dX10_lend_48 zl_8 zk_8 ?_)
          refine a_icmp_gt F 70 dX10_lend_49 (by decide) ?_ ?_
          · refine a_iconst F dX10_lend_70 ki_0 ?_
            exact a_zretK F M0.2.2.1 M0.2.2.2 dX10_lend_71 (Or.inl rfl)
          · refine a_iload F dX10_lend_52 rfl ?_
            refine a_ldc F dX10_lend_54 con_X10_92 ?_
            refine a_aload_n F dX10_lend_56 rfl rfl ?_
            refine a_getR (k := 0) F cfX10 dX10_lend_57 fl_X10_12 (by decide) fi_10_0 zl_0 zk_0 zr_0_0 ?_
            refine a_getR (k := 11) F cfX1 dX10_lend_60 fl_X10_124 (by decide) fi_1_11 zl_1 zk_1 zr_1_11 ?_
            refine a_iload F dX10_lend_63 rfl ?_
            refine a_gd (a_iald F dX10_lend_65 zl_8 zk_8 ?_)
            refine a_isub F dX10_lend_66 ?_
            refine a_icmp_le F 72 dX10_lend_67 (by decide) ?_ ?_
            · refine a_aload_n F dX10_lend_72 rfl rfl ?_
              refine a_getR (k := 3) F cfX10 dX10_lend_73 fl_X10_33 (by decide) fi_10_3 zl_0 zk_0 zr_0_3 ?_
              refine a_aload_n F dX10_lend_76 rfl rfl ?_
              refine a_getR (k := 0) F cfX10 dX10_lend_77 fl_X10_12 (by decide) fi_10_0 zl_0 zk_0 zr_0_0 ?_
              refine a_aload_n F dX10_lend_80 rfl rfl ?_
              refine a_getR (k := 2) F cfX10 dX10_lend_81 fl_X10_26 (by decide) fi_10_2 zl_0 zk_0 zr_0_2 ?_
              refine a_callVV F (As := [.ref 1, .ref 32]) cfX2 rfl (c_X2_keep_32 X icl_1 q_1.2) mw_X2_keep ml_X10_175 im_X2_keep se_X2_keep M0.2.1 (Nat.le_of_ble_eq_true rfl) ⟨Nat.zero_le _, Nat.zero_le _⟩ rfl rfl (Nat.le_of_ble_eq_true rfl) zl_34 zk_34 dX10_lend_84 rfl (fun S_3 => ?_)
              refine a_aload_n F dX10_lend_87 rfl rfl ?_
              refine a_getR (k := 0) F cfX10 dX10_lend_88 fl_X10_12 (by decide) fi_10_0 zl_0 zk_0 zr_0_0 ?_
              refine a_getR (k := 11) F cfX1 dX10_lend_91 fl_X10_124 (by decide) fi_1_11 zl_1 zk_1 zr_1_11 ?_
              refine a_iload_n F dX10_lend_94 rfl rfl ?_
              refine a_dup2 F dX10_lend_95 rfl rfl ?_
              refine a_gd (a_iald F dX10_lend_96 zl_8 zk_8 ?_)
              refine a_iload F dX10_lend_97 rfl ?_
              refine a_isub F dX10_lend_99 ?_
              refine a_gd (a_iast F dX10_lend_100 zl_8 zk_8 ?_)
              refine a_nmS (fun S_4 => ?_)
              refine a_aload_n F dX10_lend_101 rfl rfl ?_
              refine a_getR (k := 0) F cfX10 dX10_lend_102 fl_X10_12 (by decide) fi_10_0 zl_0 zk_0 zr_0_0 ?_
              refine a_getR (k := 11) F cfX1 dX10_lend_105 fl_X10_124 (by decide) fi_1_11 zl_1 zk_1 zr_1_11 ?_
              refine a_iload F dX10_lend_108 rfl ?_
              refine a_dup2 F dX10_lend_110 rfl rfl ?_
              refine a_gd (a_iald F dX10_lend_111 zl_8 zk_8 ?_)
              refine a_iload F dX10_lend_112 rfl ?_
              refine a_iadd F dX10_lend_114 ?_
              refine a_gd (a_iast F dX10_lend_115 zl_8 zk_8 ?_)
              refine a_nmS (fun S_5 => ?_)
              refine a_aload_n F dX10_lend_116 rfl rfl ?_
              refine a_getR (k := 0) F cfX10 dX10_lend_117 fl_X10_12 (by decide) fi_10_0 zl_0 zk_0 zr_0_0 ?_
              refine a_getR (k := 15) F cfX1 dX10_lend_120 fl_X10_195 (by decide) fi_1_15 zl_1 zk_1 zr_1_15 ?_
              refine a_iload_n F dX10_lend_123 rfl rfl ?_
              refine a_iload_n F dX10_lend_124 rfl rfl ?_
              refine a_gd (a_iast F dX10_lend_125 zl_12 zk_12 ?_)
              refine a_nmS (fun S_6 => ?_)
              refine a_aload_n F dX10_lend_126 rfl rfl ?_
              refine a_getR (k := 0) F cfX10 dX10_lend_127 fl_X10_12 (by decide) fi_10_0 zl_0 zk_0 zr_0_0 ?_
              refine a_getR (k := 16) F cfX1 dX10_lend_130 fl_X10_198 (by decide) fi_1_16 zl_1 zk_1 zr_1_16 ?_
              refine a_iload_n F dX10_lend_133 rfl rfl ?_
              refine a_aload_n F dX10_lend_134 rfl rfl ?_
              refine a_getR (k := 0) F cfX10 dX10_lend_135 fl_X10_12 (by decide) fi_10_0 zl_0 zk_0 zr_0_0 ?_
              refine a_getI (k := 1) F cfX1 dX10_lend_138 fl_X10_111 (by decide) fi_1_1 zl_1 zk_1 ?_
              refine a_iload_n F dX10_lend_141 rfl rfl ?_
              refine a_iadd F dX10_lend_142 ?_
              refine a_gd (a_iast F dX10_lend_143 zl_13 zk_13 ?_)
              refine a_nmS (fun S_7 => ?_)
              refine a_iconst F dX10_lend_144 ki_1 ?_
              exact a_zretK F M0.2.2.1 M0.2.2.2 dX10_lend_145 (Or.inr rfl)
            · refine a_iconst F dX10_lend_70 ki_0 ?_
              exact a_zretK F M0.2.2.1 M0.2.2.2 dX10_lend_71 (Or.inl rfl)
      · refine a_iconst F dX10_lend_20 ki_0 ?_
        exact a_zretK F M0.2.2.1 M0.2.2.2 dX10_lend_21 (Or.inl rfl)
theorem c_X10_lend (X : CX) (p1 p2 p3 p4 : Int32) (S : Mm) : CtI X Z1 yX10_lend cX10_lend 6 (some .boolean) 4 [.ref 0, .int p1, .int p2, .int p3, .int p4] S (f_X10_lend p1 p2 p3 p4 S) :=
  ctI_of (by decide +kernel) rfl (Nat.le_of_ble_eq_true rfl) (by simp [Value.category]) z1len fun E F R hra hlk => b_X10_lend ⟨F, R, hra, hlk⟩ p1 p2 p3 p4 S
def f_X0_changesOf_32_27 (k4 : Int32 → Int32 → Int32 → Mm → Option (Int32 × Mm)) (x1 x2 x3 : Int32) (S : Mm) : Option (Int32 × Mm) :=
  nm (x3 + (1 : Int32)) fun x3_1 =>
  k4 x1 x2 x3_1 S
set_option maxRecDepth 20000 in
theorem b_X0_changesOf_32_27 {X : CX} {E : FE} (M0 : MF X E RX0 cX0_changesOf 4 1 (some .int)) {k4 : Int32 → Int32 → Int32 → Mm → Option (Int32 × Mm)} (hk4 : ∀ (x1 x2 x3 : Int32) (S : Mm), At X E false (mQi X Z1 E) 4 [some (.ref 32), some (.int x1), some (.int x2), some (.int x3)] [] Z1 S 0 0 (k4 x1 x2 x3 S)) (x1 x2 x3 : Int32) (S : Mm) : At X E false (mQi X Z1 E) 27 [some (.ref 32), some (.int x1), some (.int x2), some (.int x3)] [] Z1 S 0 0 (f_X0_changesOf_32_27 k4 x1 x2 x3 S) := by
  have F := M0.1
  unfold f_X0_changesOf_32_27
  refine a_iincN (L' := fun x3_1 => [some (.ref 32), some (.int x1), some (.int x2), some (.int x3_1)]) F dX0_changesOf_27 rfl ki_1 (lt_b rfl) (fun _ => rfl) (fun x3_1 => ?_)
  refine a_goto F 4 dX0_changesOf_30 (by decide) ?_
  exact hk4 x1 x2 x3_1 S
def f_X0_changesOf_32_4b (k4 : Int32 → Int32 → Int32 → Mm → Option (Int32 × Mm)) (x1 x2 x3 : Int32) (S : Mm) : Option (Int32 × Mm) :=
  if (S 32 1) ≤ x3 then (
   some (x2, S)
  ) else (
   gd (inB (x3 * (5 : Int32)) 1000 = true) <|
   if (S 33 (ix (x3 * (5 : Int32)))) = x1 then (
    nm (x2 + (1 : Int32)) fun x2_1 =>
    f_X0_changesOf_32_27 k4 x1 x2_1 x3 S
   ) else (
    f_X0_changesOf_32_27 k4 x1 x2 x3 S
   )
  )
set_option maxRecDepth 20000 in
theorem b_X0_changesOf_32_4b {X : CX} {E : FE} (M0 : MF X E RX0 cX0_changesOf 4 1 (some .int)) {k4 : Int32 → Int32 → Int32 → Mm → Option (Int32 × Mm)} (hk4 : ∀ (x1 x2 x3 : Int32) (S : Mm), At X E false (mQi X Z1 E) 4 [some (.ref 32), some (.int x1), some (.int x2), some (.int x3)] [] Z1 S 0 0 (k4 x1 x2 x3 S)) (x1 x2 x3 : Int32) (S : Mm) : At X E false (mQi X Z1 E) 4 [some (.ref 32), some (.int x1), some (.int x2), some (.int x3)] [] Z1 S 0 0 (f_X0_changesOf_32_4b k4 x1 x2 x3 S) := by
  have F := M0.1
  unfold f_X0_changesOf_32_4b
  refine a_iload_n F dX0_changesOf_4 rfl rfl ?_
  refine a_aload_n F dX0_changesOf_5 rfl rfl ?_
  refine a_getI (k := 1) F cfX0 dX0_changesOf_6 fl_X0_15 (by decide) fi_0_1 zl_32 zk_32 ?_
  refine a_icmp_ge F 33 dX0_changesOf_9 (by decide) ?_ ?_
  · refine a_iload_n F dX0_changesOf_33 rfl rfl ?_
    exact a_iret F M0.2.2.1 M0.2.2.2 dX0_changesOf_34
  · refine a_aload_n F dX0_changesOf_12 rfl rfl ?_
    refine a_getR (k := 0) F cfX0 dX0_changesOf_13 fl_X0_11 (by decide) fi_0_0 zl_32 zk_32 zr_32_0 ?_
    refine a_iload_n F dX0_changesOf_16 rfl rfl ?_
    refine a_iconst F dX0_changesOf_17 ki_5 ?_
    refine a_imul F dX0_changesOf_18 ?_
    refine a_gd (a_iald F dX0_changesOf_19 zl_33 zk_33 ?_)
    refine a_iload_n F dX0_changesOf_20 rfl rfl ?_
    refine a_icmp_ne F 27 dX0_changesOf_21 (by decide) ?_ ?_
    · refine a_iincN (L' := fun x2_1 => [some (.ref 32), some (.int x1), some (.int x2_1), some (.int x3)]) F dX0_changesOf_24 rfl ki_1 (lt_b rfl) (fun _ => rfl) (fun x2_1 => ?_)
      exact b_X0_changesOf_32_27 M0 hk4 x1 x2_1 x3 S
    · exact b_X0_changesOf_32_27 M0 hk4 x1 x2 x3 S
def f_X0_changesOf_32_4 : Nat → Int32 → Int32 → Int32 → Mm → Option (Int32 × Mm) :=
  itr (fun _ _ _ _ => none) (fun k => f_X0_changesOf_32_4b k)
theorem b_X0_changesOf_32_4 {X : CX} {E : FE} (M0 : MF X E RX0 cX0_changesOf 4 1 (some .int)) : ∀ (n : Nat) (x1 x2 x3 : Int32) (S : Mm), At X E false (mQi X Z1 E) 4 [some (.ref 32), some (.int x1), some (.int x2), some (.int x3)] [] Z1 S 0 0 (f_X0_changesOf_32_4  n x1 x2 x3 S) := by
  intro n
  induction n with
  | zero => intros; exact a_none
  | succ n ih => intro x1 x2 x3 S; exact b_X0_changesOf_32_4b M0 ih x1 x2 x3 S
def f_X0_changesOf_32 (p1 : Int32) (S : Mm) : Option (Int32 × Mm) :=
  f_X0_changesOf_32_4 FU p1 (0 : Int32) (0 : Int32) S
set_option maxRecDepth 20000 in
theorem b_X0_changesOf_32 {X : CX} {E : FE} (M0 : MF X E RX0 cX0_changesOf 4 1 (some .int)) (p1 : Int32) (S : Mm) : At X E false (mQi X Z1 E) 0 [some (.ref 32), some (.int p1), none, none] [] Z1 S 0 0 (f_X0_changesOf_32 p1 S) := by
  have F := M0.1
  unfold f_X0_changesOf_32
  refine a_iconst F dX0_changesOf_0 ki_0 ?_
  refine a_istore_n (L' := [some (.ref 32), some (.int p1), some (.int (0 : Int32)), none]) F dX0_changesOf_1 rfl (lt_b rfl) rfl ?_
  refine a_iconst F dX0_changesOf_2 ki_0 ?_
  refine a_istore_n (L' := [some (.ref 32), some (.int p1), some (.int (0 : Int32)), some (.int (0 : Int32))]) F dX0_changesOf_3 rfl (lt_b rfl) rfl ?_
  exact b_X0_changesOf_32_4 M0 FU p1 (0 : Int32) (0 : Int32) S
theorem c_X0_changesOf_32 (X : CX) (p1 : Int32) (S : Mm) : CtI X Z1 yX0_changesOf cX0_changesOf 4 (some .int) 1 [.ref 32, .int p1] S (f_X0_changesOf_32 p1 S) :=
  ctI_of (by decide +kernel) rfl (Nat.le_of_ble_eq_true rfl) (by simp [Value.category]) z1len fun E F R hra hlk => b_X0_changesOf_32 ⟨F, R, hra, hlk⟩ p1 S
def f_X7_pairs_77 (k4 : Int32 → Int32 → Int32 → Mm → Option (Int32 × Mm)) (x1 x2 x3 : Int32) (S : Mm) : Option (Int32 × Mm) :=
  nm (x3 + (1 : Int32)) fun x3_1 =>
  k4 x1 x2 x3_1 S
set_option maxRecDepth 20000 in
theorem b_X7_pairs_77 {X : CX} {E : FE} (M0 : MF X E RX7 cX7_pairs 5 3 (some .int)) {k4 : Int32 → Int32 → Int32 → Mm → Option (Int32 × Mm)} (hk4 : ∀ (x1 x2 x3 : Int32) (S : Mm), At X E false (mQi X Z1 E) 4 [some (.ref 165), some (.int x1), some (.int x2), some (.int x3), none] [] Z1 S 0 0 (k4 x1 x2 x3 S)) (x1 x2 x3 : Int32) (S : Mm) : At X E false (mQi X Z1 E) 77 [some (.ref 165), some (.int x1), some (.int x2), some (.int x3), none] [] Z1 S 0 0 (f_X7_pairs_77 k4 x1 x2 x3 S) := by
  have F := M0.1
  unfold f_X7_pairs_77
  refine a_iincN (L' := fun x3_1 => [some (.ref 165), some (.int x1), some (.int x2), some (.int x3_1), none]) F dX7_pairs_77 rfl ki_1 (lt_b rfl) (fun _ => rfl) (fun x3_1 => ?_)
  refine a_goto F 4 dX7_pairs_80 (by decide) ?_
  exact hk4 x1 x2 x3_1 S
def f_X7_pairs_71 (k4 : Int32 → Int32 → Int32 → Mm → Option (Int32 × Mm)) (k32 : Int32 → Int32 → Int32 → Int32 → Mm → Option (Int32 × Mm)) (x1 x2 x3 x4 : Int32) (S : Mm) : Option (Int32 × Mm) :=
  nm (x4 + (1 : Int32)) fun x4_1 =>
  k32 x1 x2 x3 x4_1 S
set_option maxRecDepth 20000 in
theorem b_X7_pairs_71 {X : CX} {E : FE} (M0 : MF X E RX7 cX7_pairs 5 3 (some .int)) {k4 : Int32 → Int32 → Int32 → Mm → Option (Int32 × Mm)} (hk4 : ∀ (x1 x2 x3 : Int32) (S : Mm), At X E false (mQi X Z1 E) 4 [some (.ref 165), some (.int x1), some (.int x2), some (.int x3), none] [] Z1 S 0 0 (k4 x1 x2 x3 S)) {k32 : Int32 → Int32 → Int32 → Int32 → Mm → Option (Int32 × Mm)} (hk32 : ∀ (x1 x2 x3 x4 : Int32) (S : Mm), At X E false (mQi X Z1 E) 32 [some (.ref 165), some (.int x1), some (.int x2), some (.int x3), some (.int x4)] [] Z1 S 0 0 (k32 x1 x2 x3 x4 S)) (x1 x2 x3 x4 : Int32) (S : Mm) : At X E false (mQi X Z1 E) 71 [some (.ref 165), some (.int x1), some (.int x2), some (.int x3), some (.int x4)] [] Z1 S 0 0 (f_X7_pairs_71 k4 k32 x1 x2 x3 x4 S) := by
  have F := M0.1
  unfold f_X7_pairs_71
  refine a_iincN (L' := fun x4_1 => [some (.ref 165), some (.int x1), some (.int x2), some (.int x3), some (.int x4_1)]) F dX7_pairs_71 rfl ki_1 (lt_b rfl) (fun _ => rfl) (fun x4_1 => ?_)
  refine a_goto F 32 dX7_pairs_74 (by decide) ?_
  exact hk32 x1 x2 x3 x4_1 S
def f_X7_pairs_32b (k4 : Int32 → Int32 → Int32 → Mm → Option (Int32 × Mm)) (k32 : Int32 → Int32 → Int32 → Int32 → Mm → Option (Int32 × Mm)) (x1 x2 x3 x4 : Int32) (S : Mm) : Option (Int32 × Mm) :=
  if (S 17 5) ≤ x4 then (
   f_X7_pairs_77 k4 x1 x2 x3 S
  ) else (
   gd (inB x4 8 = true) <|
   gd (inB x3 12 = true) <|
   if ((S 31 (ix x4)) &&& (((S 182 (ix x3)) ||| x1) ^^^ (-1 : Int32))) = 0 then (
    nm (x2 + (1 : Int32)) fun x2_1 =>
    f_X7_pairs_71 k4 k32 x1 x2_1 x3 x4 S
   ) else (
    f_X7_pairs_71 k4 k32 x1 x2 x3 x4 S
   )
  )
set_option maxRecDepth 20000 in
theorem b_X7_pairs_32b {X : CX} {E : FE} (M0 : MF X E RX7 cX7_pairs 5 3 (some .int)) {k4 : Int32 → Int32 → Int32 → Mm → Option (Int32 × Mm)} (hk4 : ∀ (x1 x2 x3 : Int32) (S : Mm), At X E false (mQi X Z1 E) 4 [some (.ref 165), some (.int x1), some (.int x2), some (.int x3), none] [] Z1 S 0 0 (k4 x1 x2 x3 S)) {k32 : Int32 → Int32 → Int32 → Int32 → Mm → Option (Int32 × Mm)} (hk32 : ∀ (x1 x2 x3 x4 : Int32) (S : Mm), At X E false (mQi X Z1 E) 32 [some (.ref 165), some (.int x1), some (.int x2), some (.int x3), some (.int x4)] [] Z1 S 0 0 (k32 x1 x2 x3 x4 S)) (x1 x2 x3 x4 : Int32) (S : Mm) : At X E false (mQi X Z1 E) 32 [some (.ref 165), some (.int x1), some (.int x2), some (.int x3), some (.int x4)] [] Z1 S 0 0 (f_X7_pairs_32b k4 k32 x1 x2 x3 x4 S) := by
  have F := M0.1
  unfold f_X7_pairs_32b
  refine a_iload F dX7_pairs_32 rfl ?_
  refine a_aload_n F dX7_pairs_34 rfl rfl ?_
  refine a_getR (k := 1) F cfX7 dX7_pairs_35 fl_X7_28 (by decide) fi_7_1 zl_165 zk_165 zr_165_1 ?_
  refine a_getI (k := 5) F cfX6 dX7_pairs_38 fl_X7_62 (by decide) fi_6_5 zl_17 zk_17 ?_
  refine a_icmp_ge F 77 dX7_pairs_41 (by decide) ?_ ?_
  · refine a_mask [true, true, true, true, false] (L' := [some (.ref 165), some (.int x1), some (.int x2), some (.int x3), none]) rfl rfl ?_
    exact b_X7_pairs_77 M0 hk4 x1 x2 x3 S
  · refine a_aload_n F dX7_pairs_44 rfl rfl ?_
    refine a_getR (k := 1) F cfX7 dX7_pairs_45 fl_X7_28 (by decide) fi_7_1 zl_165 zk_165 zr_165_1 ?_
    refine a_getR (k := 8) F cfX6 dX7_pairs_48 fl_X7_67 (by decide) fi_6_8 zl_17 zk_17 zr_17_8 ?_
    refine a_iload F dX7_pairs_51 rfl ?_
    refine a_gd (a_iald F dX7_pairs_53 zl_31 zk_31 ?_)
    refine a_aload_n F dX7_pairs_54 rfl rfl ?_
    refine a_getR (k := 3) F cfX7 dX7_pairs_55 fl_X7_18 (by decide) fi_7_3 zl_165 zk_165 zr_165_3 ?_
    refine a_iload_n F dX7_pairs_58 rfl rfl ?_
    refine a_gd (a_iald F dX7_pairs_59 zl_182 zk_182 ?_)
    refine a_iload_n F dX7_pairs_60 rfl rfl ?_
    refine a_ior F dX7_pairs_61 ?_
    refine a_iconst F dX7_pairs_62 ki_m1 ?_
    refine a_ixor F dX7_pairs_63 ?_
    refine a_iand F dX7_pairs_64 ?_
    refine a_if_ne F 71 dX7_pairs_65 (by decide) ?_ ?_
    · refine a_iincN (L' := fun x2_1 => [some (.ref 165), some (.int x1), some (.int x2_1), some (.int x3), some (.int x4)]) F dX7_pairs_68 rfl ki_1 (lt_b rfl) (fun _ => rfl) (fun x2_1 => ?_)
      exact b_X7_pairs_71 M0 hk4 hk32 x1 x2_1 x3 x4 S
    · exact b_X7_pairs_71 M0 hk4 hk32 x1 x2 x3 x4 S
def f_X7_pairs_32 (k4 : Int32 → Int32 → Int32 → Mm → Option (Int32 × Mm)) : Nat → Int32 → Int32 → Int32 → Int32 → Mm → Option (Int32 × Mm) :=
  itr (fun _ _ _ _ _ => none) (fun k => f_X7_pairs_32b k4 k)
theorem b_X7_pairs_32 {X : CX} {E : FE} (M0 : MF X E RX7 cX7_pairs 5 3 (some .int)) {k4 : Int32 → Int32 → Int32 → Mm → Option (Int32 × Mm)} (hk4 : ∀ (x1 x2 x3 : Int32) (S : Mm), At X E false (mQi X Z1 E) 4 [some (.ref 165), some (.int x1), some (.int x2), some (.int x3), none] [] Z1 S 0 0 (k4 x1 x2 x3 S)) : ∀ (n : Nat) (x1 x2 x3 x4 : Int32) (S : Mm), At X E false (mQi X Z1 E) 32 [some (.ref 165), some (.int x1), some (.int x2), some (.int x3), some (.int x4)] [] Z1 S 0 0 (f_X7_pairs_32 k4 n x1 x2 x3 x4 S) := by
  intro n
  induction n with
  | zero => intros; exact a_none
  | succ n ih => intro x1 x2 x3 x4 S; exact b_X7_pairs_32b M0 hk4 ih x1 x2 x3 x4 S
def f_X7_pairs_4b (k4 : Int32 → Int32 → Int32 → Mm → Option (Int32 × Mm)) (x1 x2 x3 : Int32) (S : Mm) : Option (Int32 × Mm) :=
  if (S 1 3) ≤ x3 then (
   some (x2, S)
  ) else (
   (f_X1_lives 1 x3 S).bind fun q_1 =>
   if q_1.1 = 0 then (
    f_X7_pairs_77 k4 x1 x2 x3 q_1.2
   ) else (
    f_X7_pairs_32 k4 FU x1 x2 x3 (0 : Int32) q_1.2
   )
  )
set_option maxRecDepth 20000 in
theorem b_X7_pairs_4b {X : CX} {E : FE} (M0 : MF X E RX7 cX7_pairs 5 3 (some .int)) {k4 : Int32 → Int32 → Int32 → Mm → Option (Int32 × Mm)} (hk4 : ∀ (x1 x2 x3 : Int32) (S : Mm), At X E false (mQi X Z1 E) 4 [some (.ref 165), some (.int x1), some (.int x2), some (.int x3), none] [] Z1 S 0 0 (k4 x1 x2 x3 S)) (x1 x2 x3 : Int32) (S : Mm) : At X E false (mQi X Z1 E) 4 [some (.ref 165), some (.int x1), some (.int x2), some (.int x3), none] [] Z1 S 0 0 (f_X7_pairs_4b k4 x1 x2 x3 S) := by
  have F := M0.1
  unfold f_X7_pairs_4b
  refine a_iload_n F dX7_pairs_4 rfl rfl ?_
  refine a_aload_n F dX7_pairs_5 rfl rfl ?_
  refine a_getR (k := 0) F cfX7 dX7_pairs_6 fl_X7_25 (by decide) fi_7_0 zl_165 zk_165 zr_165_0 ?_
  refine a_getI (k := 3) F cfX1 dX7_pairs_9 fl_X7_43 (by decide) fi_1_3 zl_1 zk_1 ?_
  refine a_icmp_ge F 83 dX7_pairs_12 (by decide) ?_ ?_
  · refine a_iload_n F dX7_pairs_83 rfl rfl ?_
    exact a_iret F M0.2.2.1 M0.2.2.2 dX7_pairs_84
  · refine a_aload_n F dX7_pairs_15 rfl rfl ?_
    refine a_getR (k := 0) F cfX7 dX7_pairs_16 fl_X7_25 (by decide) fi_7_0 zl_165 zk_165 zr_165_0 ?_
    refine a_iload_n F dX7_pairs_19 rfl rfl ?_
    refine a_callVI F (As := [.int x3]) cfX1 rfl (c_X1_lives X icl_1 x3 S) mw_X1_lives ml_X7_55 im_X1_lives se_X1_lives M0.2.1 (Nat.le_of_ble_eq_true rfl) ⟨Nat.zero_le _, Nat.zero_le _⟩ rfl rfl (Nat.le_of_ble_eq_true rfl) zl_1 zk_1 dX7_pairs_20 rfl (fun q_1 => ?_)
    refine a_if_ne F 29 dX7_pairs_23 (by decide) ?_ ?_
    · refine a_goto F 77 dX7_pairs_26 (by decide) ?_
      exact b_X7_pairs_77 M0 hk4 x1 x2 x3 q_1.2
    · refine a_iconst F dX7_pairs_29 ki_0 ?_
      refine a_istore (L' := [some (.ref 165), some (.int x1), some (.int x2), some (.int x3), some (.int (0 : Int32))]) F dX7_pairs_30 (lt_b rfl) rfl ?_
      exact b_X7_pairs_32 M0 hk4 FU x1 x2 x3 (0 : Int32) q_1.2
def f_X7_pairs_4 : Nat → Int32 → Int32 → Int32 → Mm → Option (Int32 × Mm) :=
  itr (fun _ _ _ _ => none) (fun k => f_X7_pairs_4b k)
theorem b_X7_pairs_4 {X : CX} {E : FE} (M0 : MF X E RX7 cX7_pairs 5 3 (some .int)) : ∀ (n : Nat) (x1 x2 x3 : Int32) (S : Mm), At X E false (mQi X Z1 E) 4 [some (.ref 165), some (.int x1), some (.int x2), some (.int x3), none] [] Z1 S 0 0 (f_X7_pairs_4  n x1 x2 x3 S) := by
  intro n
  induction n with
  | zero => intros; exact a_none
  | succ n ih => intro x1 x2 x3 S; exact b_X7_pairs_4b M0 ih x1 x2 x3 S
def f_X7_pairs (p1 : Int32) (S : Mm) : Option (Int32 × Mm) :=
  f_X7_pairs_4 FU p1 (0 : Int32) (0 : Int32) S
set_option maxRecDepth 20000 in
theorem b_X7_pairs {X : CX} {E : FE} (M0 : MF X E RX7 cX7_pairs 5 3 (some .int)) (p1 : Int32) (S : Mm) : At X E false (mQi X Z1 E) 0 [some (.ref 165), some (.int p1), none, none, none] [] Z1 S 0 0 (f_X7_pairs p1 S) := by
  have F := M0.1
  unfold f_X7_pairs
  refine a_iconst F dX7_pairs_0 ki_0 ?_
  refine a_istore_n (L' := [some (.ref 165), some (.int p1), some (.int (0 : Int32)), none, none]) F dX7_pairs_1 rfl (lt_b rfl) rfl ?_
  refine a_iconst F dX7_pairs_2 ki_0 ?_
  refine a_istore_n (L' := [some (.ref 165), some (.int p1), some (.int (0 : Int32)), some (.int (0 : Int32)), none]) F dX7_pairs_3 rfl (lt_b rfl) rfl ?_
  exact b_X7_pairs_4 M0 FU p1 (0 : Int32) (0 : Int32) S
theorem c_X7_pairs (X : CX) (p1 : Int32) (S : Mm) : CtI X Z1 yX7_pairs cX7_pairs 5 (some .int) 3 [.ref 165, .int p1] S (f_X7_pairs p1 S) :=
  ctI_of (by decide +kernel) rfl (Nat.le_of_ble_eq_true rfl) (by simp [Value.category]) z1len fun E F R hra hlk => b_X7_pairs ⟨F, R, hra, hlk⟩ p1 S
def f_X7_valueOf (p1 : Int32) (S : Mm) : Option (Int32 × Mm) :=
  (f_X7_ask 1 S).bind fun S_1 =>
  (f_X7_pairs (shl (1 : Int32) p1) S_1).bind fun q_2 =>
  (f_X7_pairs (0 : Int32) q_2.2).bind fun q_3 =>
  some ((q_2.1 - q_3.1), q_3.2)
set_option maxRecDepth 20000 in
theorem b_X7_valueOf {X : CX} {E : FE} (M0 : MF X E RX7 cX7_valueOf 2 5 (some .int)) (p1 : Int32) (S : Mm) : At X E false (mQi X Z1 E) 0 [some (.ref 165), some (.int p1)] [] Z1 S 0 0 (f_X7_valueOf p1 S) := by
  have F := M0.1
  unfold f_X7_valueOf
  refine a_aload_n F dX7_valueOf_0 rfl rfl ?_
  refine a_aload_n F dX7_valueOf_1 rfl rfl ?_
  refine a_getR (k := 0) F cfX7 dX7_valueOf_2 fl_X7_25 (by decide) fi_7_0 zl_165 zk_165 zr_165_0 ?_
  refine a_callVV F (As := [.ref 1]) cfX7 rfl (c_X7_ask X icl_1 S) mw_X7_ask ml_X7_36 im_X7_ask se_X7_ask M0.2.1 (Nat.le_of_ble_eq_true rfl) ⟨Nat.zero_le _, Nat.zero_le _⟩ rfl rfl (Nat.le_of_ble_eq_true rfl) zl_165 zk_165 dX7_valueOf_5 rfl (fun S_1 => ?_)
  refine a_aload_n F dX7_valueOf_8 rfl rfl ?_
  refine a_iconst F dX7_valueOf_9 ki_1 ?_
  refine a_iload_n F dX7_valueOf_10 rfl rfl ?_
  refine a_ishl F dX7_valueOf_11 ?_
  refine a_callVI F (As := [.int (shl (1 : Int32) p1)]) cfX7 rfl (c_X7_pairs X (shl (1 : Int32) p1) S_1) mw_X7_pairs ml_X7_59 im_X7_pairs se_X7_pairs M0.2.1 (Nat.le_of_ble_eq_true rfl) ⟨Nat.zero_le _, Nat.zero_le _⟩ rfl rfl (Nat.le_of_ble_eq_true rfl) zl_165 zk_165 dX7_valueOf_12 rfl (fun q_2 => ?_)
  refine a_aload_n F dX7_valueOf_15 rfl rfl ?_
  refine a_iconst F dX7_valueOf_16 ki_0 ?_
  refine a_callVI F (As := [.int (0 : Int32)]) cfX7 rfl (c_X7_pairs X (0 : Int32) q_2.2) mw_X7_pairs ml_X7_59 im_X7_pairs se_X7_pairs M0.2.1 (Nat.le_of_ble_eq_true rfl) ⟨Nat.zero_le _, Nat.zero_le _⟩ rfl rfl (Nat.le_of_ble_eq_true rfl) zl_165 zk_165 dX7_valueOf_17 rfl (fun q_3 => ?_)
  refine a_isub F dX7_valueOf_20 ?_
  exact a_iret F M0.2.2.1 M0.2.2.2 dX7_valueOf_21
theorem c_X7_valueOf (X : CX) (p1 : Int32) (S : Mm) : CtI X Z1 yX7_valueOf cX7_valueOf 2 (some .int) 5 [.ref 165, .int p1] S (f_X7_valueOf p1 S) :=
  ctI_of (by decide +kernel) rfl (Nat.le_of_ble_eq_true rfl) (by simp [Value.category]) z1len fun E F R hra hlk => b_X7_valueOf ⟨F, R, hra, hlk⟩ p1 S
def f_X10_letter (p1 p2 : Int32) (S : Mm) : Option (Int32 × Mm) :=
  (f_X10_isLetter p1 S).bind fun q_1 =>
  if q_1.1 = 0 then (
   some ((-2 : Int32), q_1.2)
  ) else (
   tsw p2 0 [
    (
     gd (inB p1 28 = true) <|
     some ((q_1.2 11 (ix p1)), q_1.2)
    ),
    (
     gd (inB p1 28 = true) <|
     some ((q_1.2 12 (ix p1)), q_1.2)
    ),
    (
     gd (inB p1 28 = true) <|
     some ((q_1.2 13 (ix p1)), q_1.2)
    ),
    (
     (f_X7_writers (shl (1 : Int32) p1) q_1.2).bind fun q_2 =>
     some (q_2.1, q_2.2)
    ),
    (
     (f_X0_changesOf_32 p1 q_1.2).bind fun q_3 =>
     some (q_3.1, q_3.2)
    ),
    (
     (f_X7_valueOf p1 q_1.2).bind fun q_4 =>
     some (q_4.1, q_4.2)
    )
   ] (
    some ((-2 : Int32), q_1.2)
   )
  )
set_option maxRecDepth 20000 in
theorem b_X10_letter {X : CX} {E : FE} (M0 : MF X E RX10 cX10_letter 3 6 (some .int)) (p1 p2 : Int32) (S : Mm) : At X E false (mQi X Z1 E) 0 [some (.ref 0), some (.int p1), some (.int p2)] [] Z1 S 0 0 (f_X10_letter p1 p2 S) := by
  have F := M0.1
  unfold f_X10_letter
  refine a_iload_n F dX10_letter_0 rfl rfl ?_
  refine a_callSI F (As := [.int p1]) (c_X10_isLetter X p1 S) mw_X10_isLetter ml_X10_127 st_X10_isLetter M0.2.1 (Nat.le_of_ble_eq_true rfl) ⟨Nat.zero_le _, Nat.zero_le _⟩ rfl rfl (Nat.le_of_ble_eq_true rfl) dX10_letter_1 rfl (fun q_1 => ?_)
  refine a_if_ne F 10 dX10_letter_4 (by decide) ?_ ?_
  · refine a_bipush F dX10_letter_7 kb_m2 ?_
    exact a_iret F M0.2.2.1 M0.2.2.2 dX10_letter_9
  · refine a_iload_n F dX10_letter_10 rfl rfl ?_
    refine a_tsw F [48, 58, 68, 78, 89, 98] 107 dX10_letter_11 (by decide +kernel) (by decide +kernel) (by decide +kernel) ?_ ⟨?_, ?_, ?_, ?_, ?_, ?_, trivial⟩
    · refine a_bipush F dX10_letter_107 kb_m2 ?_
      exact a_iret F M0.2.2.1 M0.2.2.2 dX10_letter_109
    · refine a_aload_n F dX10_letter_48 rfl rfl ?_
      refine a_getR (k := 0) F cfX10 dX10_letter_49 fl_X10_12 (by decide) fi_10_0 zl_0 zk_0 zr_0_0 ?_
      refine a_getR (k := 14) F cfX1 dX10_letter_52 fl_X10_192 (by decide) fi_1_14 zl_1 zk_1 zr_1_14 ?_
      refine a_iload_n F dX10_letter_55 rfl rfl ?_
      refine a_gd (a_iald F dX10_letter_56 zl_11 zk_11 ?_)
      exact a_iret F M0.2.2.1 M0.2.2.2 dX10_letter_57
    · refine a_aload_n F dX10_letter_58 rfl rfl ?_
      refine a_getR (k := 0) F cfX10 dX10_letter_59 fl_X10_12 (by decide) fi_10_0 zl_0 zk_0 zr_0_0 ?_
      refine a_getR (k := 15) F cfX1 dX10_letter_62 fl_X10_195 (by decide) fi_1_15 zl_1 zk_1 zr_1_15 ?_
      refine a_iload_n F dX10_letter_65 rfl rfl ?_
      refine a_gd (a_iald F dX10_letter_66 zl_12 zk_12 ?_)
      exact a_iret F M0.2.2.1 M0.2.2.2 dX10_letter_67
    · refine a_aload_n F dX10_letter_68 rfl rfl ?_
      refine a_getR (k := 0) F cfX10 dX10_letter_69 fl_X10_12 (by decide) fi_10_0 zl_0 zk_0 zr_0_0 ?_
      refine a_getR (k := 16) F cfX1 dX10_letter_72 fl_X10_198 (by decide) fi_1_16 zl_1 zk_1 zr_1_16 ?_
      refine a_iload_n F dX10_letter_75 rfl rfl ?_
      refine a_gd (a_iald F dX10_letter_76 zl_13 zk_13 ?_)
      exact a_iret F M0.2.2.1 M0.2.2.2 dX10_letter_77
    · refine a_aload_n F dX10_letter_78 rfl rfl ?_
      refine a_getR (k := 4) F cfX10 dX10_letter_79 fl_X10_42 (by decide) fi_10_4 zl_0 zk_0 zr_0_4 ?_
      refine a_iconst F dX10_letter_82 ki_1 ?_
      refine a_iload_n F dX10_letter_83 rfl rfl ?_
      refine a_ishl F dX10_letter_84 ?_
      refine a_callVI F (As := [.int (shl (1 : Int32) p1)]) cfX7 rfl (c_X7_writers X (shl (1 : Int32) p1) q_1.2) mw_X7_writers ml_X10_252 im_X7_writers se_X7_writers M0.2.1 (Nat.le_of_ble_eq_true rfl) ⟨Nat.zero_le _, Nat.zero_le _⟩ rfl rfl (Nat.le_of_ble_eq_true rfl) zl_165 zk_165 dX10_letter_85 rfl (fun q_2 => ?_)
      exact a_iret F M0.2.2.1 M0.2.2.2 dX10_letter_88
    · refine a_aload_n F dX10_letter_89 rfl rfl ?_
      refine a_getR (k := 2) F cfX10 dX10_letter_90 fl_X10_26 (by decide) fi_10_2 zl_0 zk_0 zr_0_2 ?_
      refine a_iload_n F dX10_letter_93 rfl rfl ?_
      refine a_callVI F (As := [.int p1]) cfX0 rfl (c_X0_changesOf_32 X p1 q_1.2) mw_X0_changesOf ml_X10_255 im_X0_changesOf se_X0_changesOf M0.2.1 (Nat.le_of_ble_eq_true rfl) ⟨Nat.zero_le _, Nat.zero_le _⟩ rfl rfl (Nat.le_of_ble_eq_true rfl) zl_32 zk_32 dX10_letter_94 rfl (fun q_3 => ?_)
      exact a_iret F M0.2.2.1 M0.2.2.2 dX10_letter_97
    · refine a_aload_n F dX10_letter_98 rfl rfl ?_
      refine a_getR (k := 4) F cfX10 dX10_letter_99 fl_X10_42 (by decide) fi_10_4 zl_0 zk_0 zr_0_4 ?_
      refine a_iload_n F dX10_letter_102 rfl rfl ?_
      refine a_callVI F (As := [.int p1]) cfX7 rfl (c_X7_valueOf X p1 q_1.2) mw_X7_valueOf ml_X10_258 im_X7_valueOf se_X7_valueOf M0.2.1 (Nat.le_of_ble_eq_true rfl) ⟨Nat.zero_le _, Nat.zero_le _⟩ rfl rfl (Nat.le_of_ble_eq_true rfl) zl_165 zk_165 dX10_letter_103 rfl (fun q_4 => ?_)
      exact a_iret F M0.2.2.1 M0.2.2.2 dX10_letter_106
theorem c_X10_letter (X : CX) (p1 p2 : Int32) (S : Mm) : CtI X Z1 yX10_letter cX10_letter 3 (some .int) 6 [.ref 0, .int p1, .int p2] S (f_X10_letter p1 p2 S) :=
  ctI_of (by decide +kernel) rfl (Nat.le_of_ble_eq_true rfl) (by simp [Value.category]) z1len fun E F R hra hlk => b_X10_letter ⟨F, R, hra, hlk⟩ p1 p2 S
def f_X1_loans_23 (k4 : Int32 → Int32 → Mm → Option (Int32 × Mm)) (r0 : Nat) (x1 x2 : Int32) (S : Mm) : Option (Int32 × Mm) :=
  nm (x2 + (1 : Int32)) fun x2_1 =>
  k4 x1 x2_1 S
set_option maxRecDepth 20000 in
theorem b_X1_loans_23 {X : CX} {E : FE} (M0 : MF X E RX1 cX1_loans 3 1 (some .int)) {r0 : Nat} (h0 : isClan r0) {k4 : Int32 → Int32 → Mm → Option (Int32 × Mm)} (hk4 : ∀ (x1 x2 : Int32) (S : Mm), At X E false (mQi X Z1 E) 4 [some (.ref r0), some (.int x1), some (.int x2)] [] Z1 S 0 0 (k4 x1 x2 S)) (x1 x2 : Int32) (S : Mm) : At X E false (mQi X Z1 E) 23 [some (.ref r0), some (.int x1), some (.int x2)] [] Z1 S 0 0 (f_X1_loans_23 k4 r0 x1 x2 S) := by
  have F := M0.1
  unfold f_X1_loans_23
  refine a_iincN (L' := fun x2_1 => [some (.ref r0), some (.int x1), some (.int x2_1)]) F dX1_loans_23 rfl ki_1 (lt_b rfl) (fun _ => rfl) (fun x2_1 => ?_)
  refine a_goto F 4 dX1_loans_26 (by decide) ?_
  exact hk4 x1 x2_1 S
def f_X1_loans_4b (k4 : Int32 → Int32 → Mm → Option (Int32 × Mm)) (r0 : Nat) (x1 x2 : Int32) (S : Mm) : Option (Int32 × Mm) :=
  if (28 : Int32) ≤ x2 then (
   some (x1, S)
  ) else (
   gd (inB x2 28 = true) <|
   if (S (r0 + 11) (ix x2)) = (-1 : Int32) then (
    f_X1_loans_23 k4 r0 x1 x2 S
   ) else (
    nm (x1 + (1 : Int32)) fun x1_1 =>
    f_X1_loans_23 k4 r0 x1_1 x2 S
   )
  )
set_option maxRecDepth 20000 in
theorem b_X1_loans_4b {X : CX} {E : FE} (M0 : MF X E RX1 cX1_loans 3 1 (some .int)) {r0 : Nat} (h0 : isClan r0) {k4 : Int32 → Int32 → Mm → Option (Int32 × Mm)} (hk4 : ∀ (x1 x2 : Int32) (S : Mm), At X E false (mQi X Z1 E) 4 [some (.ref r0), some (.int x1), some (.int x2)] [] Z1 S 0 0 (k4 x1 x2 S)) (x1 x2 : Int32) (S : Mm) : At X E false (mQi X Z1 E) 4 [some (.ref r0), some (.int x1), some (.int x2)] [] Z1 S 0 0 (f_X1_loans_4b k4 r0 x1 x2 S) := by
  have F := M0.1
  unfold f_X1_loans_4b
  refine a_iload_n F dX1_loans_4 rfl rfl ?_
  refine a_bipush F dX1_loans_5 kb_28 ?_
  refine a_icmp_ge F 29 dX1_loans_7 (by decide) ?_ ?_
  · refine a_iload_n F dX1_loans_29 rfl rfl ?_
    exact a_iret F M0.2.2.1 M0.2.2.2 dX1_loans_30
  · refine a_aload_n F dX1_loans_10 rfl rfl ?_
    refine a_getR (k := 15) F cfX1 dX1_loans_11 fl_X1_58 (by decide) fi_1_15 (zcl_0 h0) (zck_0 h0) (zcr_15 h0) ?_
    refine a_iload_n F dX1_loans_14 rfl rfl ?_
    refine a_gd (a_iald F dX1_loans_15 (zcl_11 h0) (zck_11 h0) ?_)
    refine a_iconst F dX1_loans_16 ki_m1 ?_
    refine a_icmp_eq F 23 dX1_loans_17 (by decide) ?_ ?_
    · exact b_X1_loans_23 M0 h0 hk4 x1 x2 S
    · refine a_iincN (L' := fun x1_1 => [some (.ref r0), some (.int x1_1), some (.int x2)]) F dX1_loans_20 rfl ki_1 (lt_b rfl) (fun _ => rfl) (fun x1_1 => ?_)
      exact b_X1_loans_23 M0 h0 hk4 x1_1 x2 S
def f_X1_loans_4 (r0 : Nat) : Nat → Int32 → Int32 → Mm → Option (Int32 × Mm) :=
  itr (fun _ _ _ => none) (fun k => f_X1_loans_4b k r0)
theorem b_X1_loans_4 {X : CX} {E : FE} (M0 : MF X E RX1 cX1_loans 3 1 (some .int)) {r0 : Nat} (h0 : isClan r0) : ∀ (n : Nat) (x1 x2 : Int32) (S : Mm), At X E false (mQi X Z1 E) 4 [some (.ref r0), some (.int x1), some (.int x2)] [] Z1 S 0 0 (f_X1_loans_4 r0 n x1 x2 S) := by
  intro n
  induction n with
  | zero => intros; exact a_none
  | succ n ih => intro x1 x2 S; exact b_X1_loans_4b M0 h0 ih x1 x2 S
def f_X1_loans (r0 : Nat) (S : Mm) : Option (Int32 × Mm) :=
  f_X1_loans_4 r0 FU (0 : Int32) (0 : Int32) S
set_option maxRecDepth 20000 in
theorem b_X1_loans {X : CX} {E : FE} (M0 : MF X E RX1 cX1_loans 3 1 (some .int)) {r0 : Nat} (h0 : isClan r0) (S : Mm) : At X E false (mQi X Z1 E) 0 [some (.ref r0), none, none] [] Z1 S 0 0 (f_X1_loans r0 S) := by
  have F := M0.1
  unfold f_X1_loans
  refine a_iconst F dX1_loans_0 ki_0 ?_
  refine a_istore_n (L' := [some (.ref r0), some (.int (0 : Int32)), none]) F dX1_loans_1 rfl (lt_b rfl) rfl ?_
  refine a_iconst F dX1_loans_2 ki_0 ?_
  refine a_istore_n (L' := [some (.ref r0), some (.int (0 : Int32)), some (.int (0 : Int32))]) F dX1_loans_3 rfl (lt_b rfl) rfl ?_
  exact b_X1_loans_4 M0 h0 FU (0 : Int32) (0 : Int32) S
theorem c_X1_loans (X : CX) {r0 : Nat} (h0 : isClan r0) (S : Mm) : CtI X Z1 yX1_loans cX1_loans 3 (some .int) 1 [.ref r0] S (f_X1_loans r0 S) :=
  ctI_of (by decide +kernel) rfl (Nat.le_of_ble_eq_true rfl) (by simp [Value.category]) z1len fun E F R hra hlk => b_X1_loans ⟨F, R, hra, hlk⟩ h0 S
def f_X10_look (p1 : Int32) (S : Mm) : Option (Int32 × Mm) :=
  tsw p1 0 [
   (
    some ((S 1 3), S)
   ),
   (
    some ((S 1 4), S)
   ),
   (
    some ((S 1 1), S)
   ),
   (
    some ((S 1 2), S)
   ),
   (
    some ((S 17 5), S)
   ),
   (
    some ((S 32 1), S)
   ),
   (
    some ((S 1 0), S)
   ),
   (
    some ((S 18 2), S)
   ),
   (
    some ((S 34 3), S)
   ),
   (
    (f_X1_ownedBy 1 (-1 : Int32) S).bind fun q_1 =>
    some (q_1.1, q_1.2)
   ),
   (
    (f_X1_loans 1 S).bind fun q_2 =>
    some (q_2.1, q_2.2)
   )
  ] (
   some ((-2 : Int32), S)
  )
set_option maxRecDepth 20000 in
theorem b_X10_look {X : CX} {E : FE} (M0 : MF X E RX10 cX10_look 2 2 (some .int)) (p1 : Int32) (S : Mm) : At X E false (mQi X Z1 E) 0 [some (.ref 0), some (.int p1)] [] Z1 S 0 0 (f_X10_look p1 S) := by
  have F := M0.1
  unfold f_X10_look
  refine a_iload_n F dX10_look_0 rfl rfl ?_
  refine a_tsw F [60, 68, 76, 84, 92, 100, 108, 116, 127, 135, 144] 152 dX10_look_1 (by decide +kernel) (by decide +kernel) (by decide +kernel) ?_ ⟨?_, ?_, ?_, ?_, ?_, ?_, ?_, ?_, ?_, ?_, ?_, trivial⟩
  · refine a_bipush F dX10_look_152 kb_m2 ?_
    exact a_iret F M0.2.2.1 M0.2.2.2 dX10_look_154
  · refine a_aload_n F dX10_look_60 rfl rfl ?_
    refine a_getR (k := 0) F cfX10 dX10_look_61 fl_X10_12 (by decide) fi_10_0 zl_0 zk_0 zr_0_0 ?_
    refine a_getI (k := 3) F cfX1 dX10_look_64 fl_X10_89 (by decide) fi_1_3 zl_1 zk_1 ?_
    exact a_iret F M0.2.2.1 M0.2.2.2 dX10_look_67
  · refine a_aload_n F dX10_look_68 rfl rfl ?_
    refine a_getR (k := 0) F cfX10 dX10_look_69 fl_X10_12 (by decide) fi_10_0 zl_0 zk_0 zr_0_0 ?_
    refine a_getI (k := 4) F cfX1 dX10_look_72 fl_X10_208 (by decide) fi_1_4 zl_1 zk_1 ?_
    exact a_iret F M0.2.2.1 M0.2.2.2 dX10_look_75
  · refine a_aload_n F dX10_look_76 rfl rfl ?_
    refine a_getR (k := 0) F cfX10 dX10_look_77 fl_X10_12 (by decide) fi_10_0 zl_0 zk_0 zr_0_0 ?_
    refine a_getI (k := 1) F cfX1 dX10_look_80 fl_X10_111 (by decide) fi_1_1 zl_1 zk_1 ?_
    exact a_iret F M0.2.2.1 M0.2.2.2 dX10_look_83
  · refine a_aload_n F dX10_look_84 rfl rfl ?_
    refine a_getR (k := 0) F cfX10 dX10_look_85 fl_X10_12 (by decide) fi_10_0 zl_0 zk_0 zr_0_0 ?_
    refine a_getI (k := 2) F cfX1 dX10_look_88 fl_X10_101 (by decide) fi_1_2 zl_1 zk_1 ?_
    exact a_iret F M0.2.2.1 M0.2.2.2 dX10_look_91
  · refine a_aload_n F dX10_look_92 rfl rfl ?_
    refine a_getR (k := 1) F cfX10 dX10_look_93 fl_X10_19 (by decide) fi_10_1 zl_0 zk_0 zr_0_1 ?_
    refine a_getI (k := 5) F cfX6 dX10_look_96 fl_X10_158 (by decide) fi_6_5 zl_17 zk_17 ?_
    exact a_iret F M0.2.2.1 M0.2.2.2 dX10_look_99
  · refine a_aload_n F dX10_look_100 rfl rfl ?_
    refine a_getR (k := 2) F cfX10 dX10_look_101 fl_X10_26 (by decide) fi_10_2 zl_0 zk_0 zr_0_2 ?_
    refine a_getI (k := 1) F cfX0 dX10_look_104 fl_X10_273 (by decide) fi_0_1 zl_32 zk_32 ?_
    exact a_iret F M0.2.2.1 M0.2.2.2 dX10_look_107
  · refine a_aload_n F dX10_look_108 rfl rfl ?_
    refine a_getR (k := 0) F cfX10 dX10_look_109 fl_X10_12 (by decide) fi_10_0 zl_0 zk_0 zr_0_0 ?_
    refine a_getI (k := 0) F cfX1 dX10_look_112 fl_X10_82 (by decide) fi_1_0 zl_1 zk_1 ?_
    exact a_iret F M0.2.2.1 M0.2.2.2 dX10_look_115
  · refine a_aload_n F dX10_look_116 rfl rfl ?_
    refine a_getR (k := 1) F cfX10 dX10_look_117 fl_X10_19 (by decide) fi_10_1 zl_0 zk_0 zr_0_1 ?_
    refine a_getR (k := 0) F cfX6 dX10_look_120 fl_X10_147 (by decide) fi_6_0 zl_17 zk_17 zr_17_0 ?_
    refine a_getI (k := 2) F cfX3 dX10_look_123 fl_X10_282 (by decide) fi_3_2 zl_18 zk_18 ?_
    exact a_iret F M0.2.2.1 M0.2.2.2 dX10_look_126
  · refine a_aload_n F dX10_look_127 rfl rfl ?_
    refine a_getR (k := 3) F cfX10 dX10_look_128 fl_X10_33 (by decide) fi_10_3 zl_0 zk_0 zr_0_3 ?_
    refine a_getI (k := 3) F cfX2 dX10_look_131 fl_X10_285 (by decide) fi_2_3 zl_34 zk_34 ?_
    exact a_iret F M0.2.2.1 M0.2.2.2 dX10_look_134
  · refine a_aload_n F dX10_look_135 rfl rfl ?_
    refine a_getR (k := 0) F cfX10 dX10_look_136 fl_X10_12 (by decide) fi_10_0 zl_0 zk_0 zr_0_0 ?_
    refine a_iconst F dX10_look_139 ki_m1 ?_
    refine a_callVI F (As := [.int (-1 : Int32)]) cfX1 rfl (c_X1_ownedBy X icl_1 (-1 : Int32) S) mw_X1_ownedBy ml_X10_239 im_X1_ownedBy se_X1_ownedBy M0.2.1 (Nat.le_of_ble_eq_true rfl) ⟨Nat.zero_le _, Nat.zero_le _⟩ rfl rfl (Nat.le_of_ble_eq_true rfl) zl_1 zk_1 dX10_look_140 rfl (fun q_1 => ?_)
    exact a_iret F M0.2.2.1 M0.2.2.2 dX10_look_143
  · refine a_aload_n F dX10_look_144 rfl rfl ?_
    refine a_getR (k := 0) F cfX10 dX10_look_145 fl_X10_12 (by decide) fi_10_0 zl_0 zk_0 zr_0_0 ?_
    refine a_callVI F (As := []) cfX1 rfl (c_X1_loans X icl_1 S) mw_X1_loans ml_X10_288 im_X1_loans se_X1_loans M0.2.1 (Nat.le_of_ble_eq_true rfl) ⟨Nat.zero_le _, Nat.zero_le _⟩ rfl rfl (Nat.le_of_ble_eq_true rfl) zl_1 zk_1 dX10_look_148 rfl (fun q_2 => ?_)
    exact a_iret F M0.2.2.1 M0.2.2.2 dX10_look_151
theorem c_X10_look (X : CX) (p1 : Int32) (S : Mm) : CtI X Z1 yX10_look cX10_look 2 (some .int) 2 [.ref 0, .int p1] S (f_X10_look p1 S) :=
  ctI_of (by decide +kernel) rfl (Nat.le_of_ble_eq_true rfl) (by simp [Value.category]) z1len fun E F R hra hlk => b_X10_look ⟨F, R, hra, hlk⟩ p1 S
def f_X10_of (p1 p2 : Int32) (S : Mm) : Option (Int32 × Mm) :=
  (f_X1_isThere 1 p1 S).bind fun q_1 =>
  if q_1.1 = 0 then (
   some ((-2 : Int32), q_1.2)
  ) else (
   tsw p2 0 [
    (
     gd (inB p1 12 = true) <|
     some ((q_1.2 2 (ix p1)), q_1.2)
    ),
    (
     gd (inB p1 12 = true) <|
     some ((q_1.2 3 (ix p1)), q_1.2)
    ),
    (
     gd (inB p1 12 = true) <|
     some ((q_1.2 4 (ix p1)), q_1.2)
    ),
    (
     gd (inB p1 12 = true) <|
     some ((q_1.2 5 (ix p1)), q_1.2)
    ),
    (
     gd (inB p1 12 = true) <|
     some ((q_1.2 6 (ix p1)), q_1.2)
    ),
    (
     gd (inB p1 12 = true) <|
     some ((q_1.2 7 (ix p1)), q_1.2)
    ),
    (
     gd (inB p1 12 = true) <|
     some ((q_1.2 8 (ix p1)), q_1.2)
    ),
    (
     gd (inB p1 12 = true) <|
     some ((q_1.2 9 (ix p1)), q_1.2)
    ),
    (
     (f_X1_lives 1 p1 q_1.2).bind fun q_2 =>
     if q_2.1 = 0 then (
      some ((0 : Int32), q_2.2)
     ) else (
      some ((1 : Int32), q_2.2)
     )
    ),
    (
     (f_X1_ownedBy 1 p1 q_1.2).bind fun q_3 =>
     some (q_3.1, q_3.2)
    ),
    (
     (f_X1_writableBy 1 p1 q_1.2).bind fun q_4 =>
     some (q_4.1, q_4.2)
    ),
    (
     gd (inB p1 12 = true) <|
     some ((q_1.2 25 (ix p1)), q_1.2)
    )
   ] (
    some ((-2 : Int32), q_1.2)
   )
  )
set_option maxRecDepth 20000 in
theorem b_X10_of {X : CX} {E : FE} (M0 : MF X E RX10 cX10_of 3 4 (some .int)) (p1 p2 : Int32) (S : Mm) : At X E false (mQi X Z1 E) 0 [some (.ref 0), some (.int p1), some (.int p2)] [] Z1 S 0 0 (f_X10_of p1 p2 S) := by
  have F := M0.1
  unfold f_X10_of
  refine a_aload_n F dX10_of_0 rfl rfl ?_
  refine a_getR (k := 0) F cfX10 dX10_of_1 fl_X10_12 (by decide) fi_10_0 zl_0 zk_0 zr_0_0 ?_
  refine a_iload_n F dX10_of_4 rfl rfl ?_
  refine a_callVI F (As := [.int p1]) cfX1 rfl (c_X1_isThere X icl_1 p1 S) mw_X1_isThere ml_X10_93 im_X1_isThere se_X1_isThere M0.2.1 (Nat.le_of_ble_eq_true rfl) ⟨Nat.zero_le _, Nat.zero_le _⟩ rfl rfl (Nat.le_of_ble_eq_true rfl) zl_1 zk_1 dX10_of_5 rfl (fun q_1 => ?_)
  refine a_if_ne F 14 dX10_of_8 (by decide) ?_ ?_
  · refine a_bipush F dX10_of_11 kb_m2 ?_
    exact a_iret F M0.2.2.1 M0.2.2.2 dX10_of_13
  · refine a_iload_n F dX10_of_14 rfl rfl ?_
    refine a_tsw F [76, 86, 96, 106, 116, 126, 136, 146, 156, 173, 182, 191] 201 dX10_of_15 (by decide +kernel) (by decide +kernel) (by decide +kernel) ?_ ⟨?_, ?_, ?_, ?_, ?_, ?_, ?_, ?_, ?_, ?_, ?_, ?_, trivial⟩
    · refine a_bipush F dX10_of_201 kb_m2 ?_
      exact a_iret F M0.2.2.1 M0.2.2.2 dX10_of_203
    · refine a_aload_n F dX10_of_76 rfl rfl ?_
      refine a_getR (k := 0) F cfX10 dX10_of_77 fl_X10_12 (by decide) fi_10_0 zl_0 zk_0 zr_0_0 ?_
      refine a_getR (k := 5) F cfX1 dX10_of_80 fl_X10_230 (by decide) fi_1_5 zl_1 zk_1 zr_1_5 ?_
      refine a_iload_n F dX10_of_83 rfl rfl ?_
      refine a_gd (a_iald F dX10_of_84 zl_2 zk_2 ?_)
      exact a_iret F M0.2.2.1 M0.2.2.2 dX10_of_85
    · refine a_aload_n F dX10_of_86 rfl rfl ?_
      refine a_getR (k := 0) F cfX10 dX10_of_87 fl_X10_12 (by decide) fi_10_0 zl_0 zk_0 zr_0_0 ?_
      refine a_getR (k := 6) F cfX1 dX10_of_90 fl_X10_233 (by decide) fi_1_6 zl_1 zk_1 zr_1_6 ?_
      refine a_iload_n F dX10_of_93 rfl rfl ?_
      refine a_gd (a_iald F dX10_of_94 zl_3 zk_3 ?_)
      exact a_iret F M0.2.2.1 M0.2.2.2 dX10_of_95
    · refine a_aload_n F dX10_of_96 rfl rfl ?_
      refine a_getR (k := 0) F cfX10 dX10_of_97 fl_X10_12 (by decide) fi_10_0 zl_0 zk_0 zr_0_0 ?_
      refine a_getR (k := 7) F cfX1 dX10_of_100 fl_X10_236 (by decide) fi_1_7 zl_1 zk_1 zr_1_7 ?_
      refine a_iload_n F dX10_of_103 rfl rfl ?_
      refine a_gd (a_iald F dX10_of_104 zl_4 zk_4 ?_)
      exact a_iret F M0.2.2.1 M0.2.2.2 dX10_of_105
    · refine a_aload_n F dX10_of_106 rfl rfl ?_
      refine a_getR (k := 0) F cfX10 dX10_of_107 fl_X10_12 (by decide) fi_10_0 zl_0 zk_0 zr_0_0 ?_
      refine a_getR (k := 8) F cfX1 dX10_of_110 fl_X10_114 (by decide) fi_1_8 zl_1 zk_1 zr_1_8 ?_
      refine a_iload_n F dX10_of_113 rfl rfl ?_
      refine a_gd (a_iald F dX10_of_114 zl_5 zk_5 ?_)
      exact a_iret F M0.2.2.1 M0.2.2.2 dX10_of_115
    · refine a_aload_n F dX10_of_116 rfl rfl ?_
      refine a_getR (k := 0) F cfX10 dX10_of_117 fl_X10_12 (by decide) fi_10_0 zl_0 zk_0 zr_0_0 ?_
      refine a_getR (k := 9) F cfX1 dX10_of_120 fl_X10_118 (by decide) fi_1_9 zl_1 zk_1 zr_1_9 ?_
      refine a_iload_n F dX10_of_123 rfl rfl ?_
      refine a_gd (a_iald F dX10_of_124 zl_6 zk_6 ?_)
      exact a_iret F M0.2.2.1 M0.2.2.2 dX10_of_125
    · refine a_aload_n F dX10_of_126 rfl rfl ?_
      refine a_getR (k := 0) F cfX10 dX10_of_127 fl_X10_12 (by decide) fi_10_0 zl_0 zk_0 zr_0_0 ?_
      refine a_getR (k := 10) F cfX1 dX10_of_130 fl_X10_121 (by decide) fi_1_10 zl_1 zk_1 zr_1_10 ?_
      refine a_iload_n F dX10_of_133 rfl rfl ?_
      refine a_gd (a_iald F dX10_of_134 zl_7 zk_7 ?_)
      exact a_iret F M0.2.2.1 M0.2.2.2 dX10_of_135
    · refine a_aload_n F dX10_of_136 rfl rfl ?_
      refine a_getR (k := 0) F cfX10 dX10_of_137 fl_X10_12 (by decide) fi_10_0 zl_0 zk_0 zr_0_0 ?_
      refine a_getR (k := 11) F cfX1 dX10_of_140 fl_X10_124 (by decide) fi_1_11 zl_1 zk_1 zr_1_11 ?_
      refine a_iload_n F dX10_of_143 rfl rfl ?_
      refine a_gd (a_iald F dX10_of_144 zl_8 zk_8 ?_)
      exact a_iret F M0.2.2.1 M0.2.2.2 dX10_of_145
    · refine a_aload_n F dX10_of_146 rfl rfl ?_
      refine a_getR (k := 0) F cfX10 dX10_of_147 fl_X10_12 (by decide) fi_10_0 zl_0 zk_0 zr_0_0 ?_
      refine a_getR (k := 12) F cfX1 dX10_of_150 fl_X10_183 (by decide) fi_1_12 zl_1 zk_1 zr_1_12 ?_
      refine a_iload_n F dX10_of_153 rfl rfl ?_
      refine a_gd (a_iald F dX10_of_154 zl_9 zk_9 ?_)
      exact a_iret F M0.2.2.1 M0.2.2.2 dX10_of_155
    · refine a_aload_n F dX10_of_156 rfl rfl ?_
      refine a_getR (k := 0) F cfX10 dX10_of_157 fl_X10_12 (by decide) fi_10_0 zl_0 zk_0 zr_0_0 ?_
      refine a_iload_n F dX10_of_160 rfl rfl ?_
      refine a_callVI F (As := [.int p1]) cfX1 rfl (c_X1_lives X icl_1 p1 q_1.2) mw_X1_lives ml_X10_104 im_X1_lives se_X1_lives M0.2.1 (Nat.le_of_ble_eq_true rfl) ⟨Nat.zero_le _, Nat.zero_le _⟩ rfl rfl (Nat.le_of_ble_eq_true rfl) zl_1 zk_1 dX10_of_161 rfl (fun q_2 => ?_)
      refine a_if_eq F 171 dX10_of_164 (by decide) ?_ ?_
      · refine a_iconst F dX10_of_171 ki_0 ?_
        exact a_iret F M0.2.2.1 M0.2.2.2 dX10_of_172
      · refine a_iconst F dX10_of_167 ki_1 ?_
        refine a_goto F 172 dX10_of_168 (by decide) ?_
        exact a_iret F M0.2.2.1 M0.2.2.2 dX10_of_172
    · refine a_aload_n F dX10_of_173 rfl rfl ?_
      refine a_getR (k := 0) F cfX10 dX10_of_174 fl_X10_12 (by decide) fi_10_0 zl_0 zk_0 zr_0_0 ?_
      refine a_iload_n F dX10_of_177 rfl rfl ?_
      refine a_callVI F (As := [.int p1]) cfX1 rfl (c_X1_ownedBy X icl_1 p1 q_1.2) mw_X1_ownedBy ml_X10_239 im_X1_ownedBy se_X1_ownedBy M0.2.1 (Nat.le_of_ble_eq_true rfl) ⟨Nat.zero_le _, Nat.zero_le _⟩ rfl rfl (Nat.le_of_ble_eq_true rfl) zl_1 zk_1 dX10_of_178 rfl (fun q_3 => ?_)
      exact a_iret F M0.2.2.1 M0.2.2.2 dX10_of_181
    · refine a_aload_n F dX10_of_182 rfl rfl ?_
      refine a_getR (k := 0) F cfX10 dX10_of_183 fl_X10_12 (by decide) fi_10_0 zl_0 zk_0 zr_0_0 ?_
      refine a_iload_n F dX10_of_186 rfl rfl ?_
      refine a_callVI F (As := [.int p1]) cfX1 rfl (c_X1_writableBy X icl_1 p1 q_1.2) mw_X1_writableBy ml_X10_242 im_X1_writableBy se_X1_writableBy M0.2.1 (Nat.le_of_ble_eq_true rfl) ⟨Nat.zero_le _, Nat.zero_le _⟩ rfl rfl (Nat.le_of_ble_eq_true rfl) zl_1 zk_1 dX10_of_187 rfl (fun q_4 => ?_)
      exact a_iret F M0.2.2.1 M0.2.2.2 dX10_of_190
    · refine a_aload_n F dX10_of_191 rfl rfl ?_
      refine a_getR (k := 1) F cfX10 dX10_of_192 fl_X10_19 (by decide) fi_10_1 zl_0 zk_0 zr_0_1 ?_
      refine a_getR (k := 1) F cfX6 dX10_of_195 fl_X10_245 (by decide) fi_6_1 zl_17 zk_17 zr_17_1 ?_
      refine a_iload_n F dX10_of_198 rfl rfl ?_
      refine a_gd (a_iald F dX10_of_199 zl_25 zk_25 ?_)
      exact a_iret F M0.2.2.1 M0.2.2.2 dX10_of_200
theorem c_X10_of (X : CX) (p1 p2 : Int32) (S : Mm) : CtI X Z1 yX10_of cX10_of 3 (some .int) 4 [.ref 0, .int p1, .int p2] S (f_X10_of p1 p2 S) :=
  ctI_of (by decide +kernel) rfl (Nat.le_of_ble_eq_true rfl) (by simp [Value.category]) z1len fun E F R hra hlk => b_X10_of ⟨F, R, hra, hlk⟩ p1 p2 S
def f_X10_own_27 (x1 x2 : Int32) (S : Mm) : Option (Int32 × Mm) :=
  (f_X2_forget S).bind fun S_1 =>
  (f_X1_endLoan 1 x1 S_1).bind fun S_2 =>
  (f_X1_pass_32 1 x1 x2 (0 : Int32) S_2).bind fun S_3 =>
  some ((1 : Int32), S_3)
set_option maxRecDepth 20000 in
theorem b_X10_own_27 {X : CX} {E : FE} (M0 : MF X E RX10 cX10_own 3 3 (some .boolean)) (x1 x2 : Int32) (S : Mm) : At X E false (mQi X Z1 E) 27 [some (.ref 0), some (.int x1), some (.int x2)] [] Z1 S 0 0 (f_X10_own_27 x1 x2 S) := by
  have F := M0.1
  unfold f_X10_own_27
  refine a_aload_n F dX10_own_27 rfl rfl ?_
  refine a_getR (k := 3) F cfX10 dX10_own_28 fl_X10_33 (by decide) fi_10_3 zl_0 zk_0 zr_0_3 ?_
  refine a_callVV F (As := []) cfX2 rfl (c_X2_forget X S) mw_X2_forget ml_X10_86 im_X2_forget se_X2_forget M0.2.1 (Nat.le_of_ble_eq_true rfl) ⟨Nat.zero_le _, Nat.zero_le _⟩ rfl rfl (Nat.le_of_ble_eq_true rfl) zl_34 zk_34 dX10_own_31 rfl (fun S_1 => ?_)
  refine a_aload_n F dX10_own_34 rfl rfl ?_
  refine a_getR (k := 0) F cfX10 dX10_own_35 fl_X10_12 (by decide) fi_10_0 zl_0 zk_0 zr_0_0 ?_
  refine a_iload_n F dX10_own_38 rfl rfl ?_
  refine a_callVV F (As := [.int x1]) cfX1 rfl (c_X1_endLoan X icl_1 x1 S_1) mw_X1_endLoan ml_X10_130 im_X1_endLoan se_X1_endLoan M0.2.1 (Nat.le_of_ble_eq_true rfl) ⟨Nat.zero_le _, Nat.zero_le _⟩ rfl rfl (Nat.le_of_ble_eq_true rfl) zl_1 zk_1 dX10_own_39 rfl (fun S_2 => ?_)
  refine a_aload_n F dX10_own_42 rfl rfl ?_
  refine a_getR (k := 0) F cfX10 dX10_own_43 fl_X10_12 (by decide) fi_10_0 zl_0 zk_0 zr_0_0 ?_
  refine a_iload_n F dX10_own_46 rfl rfl ?_
  refine a_iload_n F dX10_own_47 rfl rfl ?_
  refine a_iconst F dX10_own_48 ki_0 ?_
  refine a_aload_n F dX10_own_49 rfl rfl ?_
  refine a_getR (k := 2) F cfX10 dX10_own_50 fl_X10_26 (by decide) fi_10_2 zl_0 zk_0 zr_0_2 ?_
  refine a_callVV F (As := [.int x1, .int x2, .int (0 : Int32), .ref 32]) cfX1 rfl (c_X1_pass_32 X icl_1 x1 x2 (0 : Int32) S_2) mw_X1_pass ml_X10_134 im_X1_pass se_X1_pass M0.2.1 (Nat.le_of_ble_eq_true rfl) ⟨Nat.zero_le _, Nat.zero_le _⟩ rfl rfl (Nat.le_of_ble_eq_true rfl) zl_1 zk_1 dX10_own_53 rfl (fun S_3 => ?_)
  refine a_iconst F dX10_own_56 ki_1 ?_
  exact a_zretK F M0.2.2.1 M0.2.2.2 dX10_own_57 (Or.inr rfl)
def f_X10_own (p1 p2 : Int32) (S : Mm) : Option (Int32 × Mm) :=
  (f_X10_isLetter p1 S).bind fun q_1 =>
  if q_1.1 = 0 then (
   some ((0 : Int32), q_1.2)
  ) else (
   if p2 = (-1 : Int32) then (
    f_X10_own_27 p1 p2 q_1.2
   ) else (
    (f_X1_lives 1 p2 q_1.2).bind fun q_2 =>
    if q_2.1 = 0 then (
     some ((0 : Int32), q_2.2)
    ) else (
     f_X10_own_27 p1 p2 q_2.2
    )
   )
  )
set_option maxRecDepth 20000 in
theorem b_X10_own {X : CX} {E : FE} (M0 : MF X E RX10 cX10_own 3 3 (some .boolean)) (p1 p2 : Int32) (S : Mm) : At X E false (mQi X Z1 E) 0 [some (.ref 0), some (.int p1), some (.int p2)] [] Z1 S 0 0 (f_X10_own p1 p2 S) := by
  have F := M0.1
  unfold f_X10_own
  refine a_iload_n F dX10_own_0 rfl rfl ?_
  refine a_callSI F (As := [.int p1]) (c_X10_isLetter X p1 S) mw_X10_isLetter ml_X10_127 st_X10_isLetter M0.2.1 (Nat.le_of_ble_eq_true rfl) ⟨Nat.zero_le _, Nat.zero_le _⟩ rfl rfl (Nat.le_of_ble_eq_true rfl) dX10_own_1 rfl (fun q_1 => ?_)
  refine a_if_ne F 9 dX10_own_4 (by decide) ?_ ?_
  · refine a_iconst F dX10_own_7 ki_0 ?_
    exact a_zretK F M0.2.2.1 M0.2.2.2 dX10_own_8 (Or.inl rfl)
  · refine a_iload_n F dX10_own_9 rfl rfl ?_
    refine a_iconst F dX10_own_10 ki_m1 ?_
    refine a_icmp_eq F 27 dX10_own_11 (by decide) ?_ ?_
    · exact b_X10_own_27 M0 p1 p2 q_1.2
    · refine a_aload_n F dX10_own_14 rfl rfl ?_
      refine a_getR (k := 0) F cfX10 dX10_own_15 fl_X10_12 (by decide) fi_10_0 zl_0 zk_0 zr_0_0 ?_
      refine a_iload_n F dX10_own_18 rfl rfl ?_
      refine a_callVI F (As := [.int p2]) cfX1 rfl (c_X1_lives X icl_1 p2 q_1.2) mw_X1_lives ml_X10_104 im_X1_lives se_X1_lives M0.2.1 (Nat.le_of_ble_eq_true rfl) ⟨Nat.zero_le _, Nat.zero_le _⟩ rfl rfl (Nat.le_of_ble_eq_true rfl) zl_1 zk_1 dX10_own_19 rfl (fun q_2 => ?_)
      refine a_if_ne F 27 dX10_own_22 (by decide) ?_ ?_
      · refine a_iconst F dX10_own_25 ki_0 ?_
        exact a_zretK F M0.2.2.1 M0.2.2.2 dX10_own_26 (Or.inl rfl)
      · exact b_X10_own_27 M0 p1 p2 q_2.2
theorem c_X10_own (X : CX) (p1 p2 : Int32) (S : Mm) : CtI X Z1 yX10_own cX10_own 3 (some .boolean) 3 [.ref 0, .int p1, .int p2] S (f_X10_own p1 p2 S) :=
  ctI_of (by decide +kernel) rfl (Nat.le_of_ble_eq_true rfl) (by simp [Value.category]) z1len fun E F R hra hlk => b_X10_own ⟨F, R, hra, hlk⟩ p1 p2 S
def f_X1_unlink (r0 : Nat) (p1 p2 : Int32) (S : Mm) : Option Mm :=
  gd (inB p1 12 = true) <|
  gd (inB p1 12 = true) <|
  nm (uM S (r0 + 9) (ix p1) ((S (r0 + 9) (ix p1)) &&& ((shl (1 : Int32) p2) ^^^ (-1 : Int32)))) fun S_1 =>
  gd (inB p2 12 = true) <|
  gd (inB p2 12 = true) <|
  nm (uM S_1 (r0 + 9) (ix p2) ((S_1 (r0 + 9) (ix p2)) &&& ((shl (1 : Int32) p1) ^^^ (-1 : Int32)))) fun S_2 =>
  some S_2
set_option maxRecDepth 20000 in
theorem b_X1_unlink {X : CX} {E : FE} (M0 : MF X E RX1 cX1_unlink 3 1 none) {r0 : Nat} (h0 : isClan r0) (p1 p2 : Int32) (S : Mm) : At X E false (mQv X Z1 E) 0 [some (.ref r0), some (.int p1), some (.int p2)] [] Z1 S 0 0 (f_X1_unlink r0 p1 p2 S) := by
  have F := M0.1
  unfold f_X1_unlink
  refine a_aload_n F dX1_unlink_0 rfl rfl ?_
  refine a_getR (k := 13) F cfX1 dX1_unlink_1 fl_X1_52 (by decide) fi_1_13 (zcl_0 h0) (zck_0 h0) (zcr_13 h0) ?_
  refine a_iload_n F dX1_unlink_4 rfl rfl ?_
  refine a_dup2 F dX1_unlink_5 rfl rfl ?_
  refine a_gd (a_iald F dX1_unlink_6 (zcl_9 h0) (zck_9 h0) ?_)
  refine a_iconst F dX1_unlink_7 ki_1 ?_
  refine a_iload_n F dX1_unlink_8 rfl rfl ?_
  refine a_ishl F dX1_unlink_9 ?_
  refine a_iconst F dX1_unlink_10 ki_m1 ?_
  refine a_ixor F dX1_unlink_11 ?_
  refine a_iand F dX1_unlink_12 ?_
  refine a_gd (a_iast F dX1_unlink_13 (zcl_9 h0) (zck_9 h0) ?_)
  refine a_nmS (fun S_1 => ?_)
  refine a_aload_n F dX1_unlink_14 rfl rfl ?_
  refine a_getR (k := 13) F cfX1 dX1_unlink_15 fl_X1_52 (by decide) fi_1_13 (zcl_0 h0) (zck_0 h0) (zcr_13 h0) ?_
  refine a_iload_n F dX1_unlink_18 rfl rfl ?_
  refine a_dup2 F dX1_unlink_19 rfl rfl ?_
  refine a_gd (a_iald F dX1_unlink_20 (zcl_9 h0) (zck_9 h0) ?_)
  refine a_iconst F dX1_unlink_21 ki_1 ?_
  refine a_iload_n F dX1_unlink_22 rfl rfl ?_
  refine a_ishl F dX1_unlink_23 ?_
  refine a_iconst F dX1_unlink_24 ki_m1 ?_
  refine a_ixor F dX1_unlink_25 ?_
  refine a_iand F dX1_unlink_26 ?_
  refine a_gd (a_iast F dX1_unlink_27 (zcl_9 h0) (zck_9 h0) ?_)
  refine a_nmS (fun S_2 => ?_)
  exact a_vret F M0.2.2.1 M0.2.2.2 dX1_unlink_28
theorem c_X1_unlink (X : CX) {r0 : Nat} (h0 : isClan r0) (p1 p2 : Int32) (S : Mm) : CtV X Z1 yX1_unlink cX1_unlink 3 1 [.ref r0, .int p1, .int p2] S (f_X1_unlink r0 p1 p2 S) :=
  ctV_of (by decide +kernel) rfl (Nat.le_of_ble_eq_true rfl) (by simp [Value.category]) z1len fun E F R hra hlk => b_X1_unlink ⟨F, R, hra, hlk⟩ h0 p1 p2 S
def f_X1_separate (r0 : Nat) (p1 p2 : Int32) (S : Mm) : Option Mm :=
  gd (inB p1 12 = true) <|
  nm (uM S (r0 + 8) (ix p1) (-1 : Int32)) fun S_1 =>
  gd (inB p2 12 = true) <|
  nm (uM S_1 (r0 + 8) (ix p2) (-1 : Int32)) fun S_2 =>
  (f_X1_unlink r0 p1 p2 S_2).bind fun S_3 =>
  some S_3
set_option maxRecDepth 20000 in
theorem b_X1_separate {X : CX} {E : FE} (M0 : MF X E RX1 cX1_separate 3 2 none) {r0 : Nat} (h0 : isClan r0) (p1 p2 : Int32) (S : Mm) : At X E false (mQv X Z1 E) 0 [some (.ref r0), some (.int p1), some (.int p2)] [] Z1 S 0 0 (f_X1_separate r0 p1 p2 S) := by
  have F := M0.1
  unfold f_X1_separate
  refine a_aload_n F dX1_separate_0 rfl rfl ?_
  refine a_getR (k := 12) F cfX1 dX1_separate_1 fl_X1_49 (by decide) fi_1_12 (zcl_0 h0) (zck_0 h0) (zcr_12 h0) ?_
  refine a_iload_n F dX1_separate_4 rfl rfl ?_
  refine a_iconst F dX1_separate_5 ki_m1 ?_
  refine a_gd (a_iast F dX1_separate_6 (zcl_8 h0) (zck_8 h0) ?_)
  refine a_nmS (fun S_1 => ?_)
  refine a_aload_n F dX1_separate_7 rfl rfl ?_
  refine a_getR (k := 12) F cfX1 dX1_separate_8 fl_X1_49 (by decide) fi_1_12 (zcl_0 h0) (zck_0 h0) (zcr_12 h0) ?_
  refine a_iload_n F dX1_separate_11 rfl rfl ?_
  refine a_iconst F dX1_separate_12 ki_m1 ?_
  refine a_gd (a_iast F dX1_separate_13 (zcl_8 h0) (zck_8 h0) ?_)
  refine a_nmS (fun S_2 => ?_)
  refine a_aload_n F dX1_separate_14 rfl rfl ?_
  refine a_iload_n F dX1_separate_15 rfl rfl ?_
  refine a_iload_n F dX1_separate_16 rfl rfl ?_
  refine a_callVV F (As := [.int p1, .int p2]) cfX1 rfl (c_X1_unlink X h0 p1 p2 S_2) mw_X1_unlink ml_X1_94 im_X1_unlink se_X1_unlink M0.2.1 (Nat.le_of_ble_eq_true rfl) ⟨Nat.zero_le _, Nat.zero_le _⟩ rfl rfl (Nat.le_of_ble_eq_true rfl) (zcl_0 h0) (zck_0 h0) dX1_separate_17 rfl (fun S_3 => ?_)
  exact a_vret F M0.2.2.1 M0.2.2.2 dX1_separate_20
theorem c_X1_separate (X : CX) {r0 : Nat} (h0 : isClan r0) (p1 p2 : Int32) (S : Mm) : CtV X Z1 yX1_separate cX1_separate 3 2 [.ref r0, .int p1, .int p2] S (f_X1_separate r0 p1 p2 S) :=
  ctV_of (by decide +kernel) rfl (Nat.le_of_ble_eq_true rfl) (by simp [Value.category]) z1len fun E F R hra hlk => b_X1_separate ⟨F, R, hra, hlk⟩ h0 p1 p2 S
def f_X10_part (p1 p2 : Int32) (S : Mm) : Option (Int32 × Mm) :=
  (f_X1_isThere 1 p1 S).bind fun q_1 =>
  if q_1.1 = 0 then (
   some ((0 : Int32), q_1.2)
  ) else (
   (f_X1_isThere 1 p2 q_1.2).bind fun q_2 =>
   if q_2.1 = 0 then (
    some ((0 : Int32), q_2.2)
   ) else (
    gd (inB p1 12 = true) <|
    if (q_2.2 9 (ix p1)) = p2 then (
     gd (inB p2 12 = true) <|
     if (q_2.2 9 (ix p2)) = p1 then (
      (f_X2_keep_32 1 q_2.2).bind fun S_3 =>
      (f_X1_separate 1 p1 p2 S_3).bind fun S_4 =>
      some ((1 : Int32), S_4)
     ) else (
      some ((0 : Int32), q_2.2)
     )
    ) else (
     some ((0 : Int32), q_2.2)
    )
   )
  )
set_option maxRecDepth 20000 in
theorem b_X10_part {X : CX} {E : FE} (M0 : MF X E RX10 cX10_part 3 3 (some .boolean)) (p1 p2 : Int32) (S : Mm) : At X E false (mQi X Z1 E) 0 [some (.ref 0), some (.int p1), some (.int p2)] [] Z1 S 0 0 (f_X10_part p1 p2 S) := by
  have F := M0.1
  unfold f_X10_part
  refine a_aload_n F dX10_part_0 rfl rfl ?_
  refine a_getR (k := 0) F cfX10 dX10_part_1 fl_X10_12 (by decide) fi_10_0 zl_0 zk_0 zr_0_0 ?_
  refine a_iload_n F dX10_part_4 rfl rfl ?_
  refine a_callVI F (As := [.int p1]) cfX1 rfl (c_X1_isThere X icl_1 p1 S) mw_X1_isThere ml_X10_93 im_X1_isThere se_X1_isThere M0.2.1 (Nat.le_of_ble_eq_true rfl) ⟨Nat.zero_le _, Nat.zero_le _⟩ rfl rfl (Nat.le_of_ble_eq_true rfl) zl_1 zk_1 dX10_part_5 rfl (fun q_1 => ?_)
  refine a_if_eq F 22 dX10_part_8 (by decide) ?_ ?_
  · refine a_iconst F dX10_part_22 ki_0 ?_
    exact a_zretK F M0.2.2.1 M0.2.2.2 dX10_part_23 (Or.inl rfl)
  · refine a_aload_n F dX10_part_11 rfl rfl ?_
    refine a_getR (k := 0) F cfX10 dX10_part_12 fl_X10_12 (by decide) fi_10_0 zl_0 zk_0 zr_0_0 ?_
    refine a_iload_n F dX10_part_15 rfl rfl ?_
    refine a_callVI F (As := [.int p2]) cfX1 rfl (c_X1_isThere X icl_1 p2 q_1.2) mw_X1_isThere ml_X10_93 im_X1_isThere se_X1_isThere M0.2.1 (Nat.le_of_ble_eq_true rfl) ⟨Nat.zero_le _, Nat.zero_le _⟩ rfl rfl (Nat.le_of_ble_eq_true rfl) zl_1 zk_1 dX10_part_16 rfl (fun q_2 => ?_)
    refine a_if_ne F 24 dX10_part_19 (by decide) ?_ ?_
    · refine a_iconst F dX10_part_22 ki_0 ?_
      exact a_zretK F M0.2.2.1 M0.2.2.2 dX10_part_23 (Or.inl rfl)
    · refine a_aload_n F dX10_part_24 rfl rfl ?_
      refine a_getR (k := 0) F cfX10 dX10_part_25 fl_X10_12 (by decide) fi_10_0 zl_0 zk_0 zr_0_0 ?_
      refine a_getR (k := 12) F cfX1 dX10_part_28 fl_X10_183 (by decide) fi_1_12 zl_1 zk_1 zr_1_12 ?_
      refine a_iload_n F dX10_part_31 rfl rfl ?_
      refine a_gd (a_iald F dX10_part_32 zl_9 zk_9 ?_)
      refine a_iload_n F dX10_part_33 rfl rfl ?_
      refine a_icmp_ne F 50 dX10_part_34 (by decide) ?_ ?_
      · refine a_aload_n F dX10_part_37 rfl rfl ?_
        refine a_getR (k := 0) F cfX10 dX10_part_38 fl_X10_12 (by decide) fi_10_0 zl_0 zk_0 zr_0_0 ?_
        refine a_getR (k := 12) F cfX1 dX10_part_41 fl_X10_183 (by decide) fi_1_12 zl_1 zk_1 zr_1_12 ?_
        refine a_iload_n F dX10_part_44 rfl rfl ?_
        refine a_gd (a_iald F dX10_part_45 zl_9 zk_9 ?_)
        refine a_iload_n F dX10_part_46 rfl rfl ?_
        refine a_icmp_eq F 52 dX10_part_47 (by decide) ?_ ?_
        · refine a_aload_n F dX10_part_52 rfl rfl ?_
          refine a_getR (k := 3) F cfX10 dX10_part_53 fl_X10_33 (by decide) fi_10_3 zl_0 zk_0 zr_0_3 ?_
          refine a_aload_n F dX10_part_56 rfl rfl ?_
          refine a_getR (k := 0) F cfX10 dX10_part_57 fl_X10_12 (by decide) fi_10_0 zl_0 zk_0 zr_0_0 ?_
          refine a_aload_n F dX10_part_60 rfl rfl ?_
          refine a_getR (k := 2) F cfX10 dX10_part_61 fl_X10_26 (by decide) fi_10_2 zl_0 zk_0 zr_0_2 ?_
          refine a_callVV F (As := [.ref 1, .ref 32]) cfX2 rfl (c_X2_keep_32 X icl_1 q_2.2) mw_X2_keep ml_X10_175 im_X2_keep se_X2_keep M0.2.1 (Nat.le_of_ble_eq_true rfl) ⟨Nat.zero_le _, Nat.zero_le _⟩ rfl rfl (Nat.le_of_ble_eq_true rfl) zl_34 zk_34 dX10_part_64 rfl (fun S_3 => ?_)
          refine a_aload_n F dX10_part_67 rfl rfl ?_
          refine a_getR (k := 0) F cfX10 dX10_part_68 fl_X10_12 (by decide) fi_10_0 zl_0 zk_0 zr_0_0 ?_
          refine a_iload_n F dX10_part_71 rfl rfl ?_
          refine a_iload_n F dX10_part_72 rfl rfl ?_
          refine a_callVV F (As := [.int p1, .int p2]) cfX1 rfl (c_X1_separate X icl_1 p1 p2 S_3) mw_X1_separate ml_X10_186 im_X1_separate se_X1_separate M0.2.1 (Nat.le_of_ble_eq_true rfl) ⟨Nat.zero_le _, Nat.zero_le _⟩ rfl rfl (Nat.le_of_ble_eq_true rfl) zl_1 zk_1 dX10_part_73 rfl (fun S_4 => ?_)
          refine a_iconst F dX10_part_76 ki_1 ?_
          exact a_zretK F M0.2.2.1 M0.2.2.2 dX10_part_77 (Or.inr rfl)
        · refine a_iconst F dX10_part_50 ki_0 ?_
          exact a_zretK F M0.2.2.1 M0.2.2.2 dX10_part_51 (Or.inl rfl)
      · refine a_iconst F dX10_part_50 ki_0 ?_
        exact a_zretK F M0.2.2.1 M0.2.2.2 dX10_part_51 (Or.inl rfl)
theorem c_X10_part (X : CX) (p1 p2 : Int32) (S : Mm) : CtI X Z1 yX10_part cX10_part 3 (some .boolean) 3 [.ref 0, .int p1, .int p2] S (f_X10_part p1 p2 S) :=
  ctI_of (by decide +kernel) rfl (Nat.le_of_ble_eq_true rfl) (by simp [Value.category]) z1len fun E F R hra hlk => b_X10_part ⟨F, R, hra, hlk⟩ p1 p2 S
def f_X1_link (r0 : Nat) (p1 p2 : Int32) (S : Mm) : Option Mm :=
  gd (inB p1 12 = true) <|
  gd (inB p1 12 = true) <|
  nm (uM S (r0 + 9) (ix p1) ((S (r0 + 9) (ix p1)) ||| (shl (1 : Int32) p2))) fun S_1 =>
  gd (inB p2 12 = true) <|
  gd (inB p2 12 = true) <|
  nm (uM S_1 (r0 + 9) (ix p2) ((S_1 (r0 + 9) (ix p2)) ||| (shl (1 : Int32) p1))) fun S_2 =>
  some S_2
set_option maxRecDepth 20000 in
theorem b_X1_link {X : CX} {E : FE} (M0 : MF X E RX1 cX1_link 3 1 none) {r0 : Nat} (h0 : isClan r0) (p1 p2 : Int32) (S : Mm) : At X E false (mQv X Z1 E) 0 [some (.ref r0), some (.int p1), some (.int p2)] [] Z1 S 0 0 (f_X1_link r0 p1 p2 S) := by
  have F := M0.1
  unfold f_X1_link
  refine a_aload_n F dX1_link_0 rfl rfl ?_
  refine a_getR (k := 13) F cfX1 dX1_link_1 fl_X1_52 (by decide) fi_1_13 (zcl_0 h0) (zck_0 h0) (zcr_13 h0) ?_
  refine a_iload_n F dX1_link_4 rfl rfl ?_
  refine a_dup2 F dX1_link_5 rfl rfl ?_
  refine a_gd (a_iald F dX1_link_6 (zcl_9 h0) (zck_9 h0) ?_)
  refine a_iconst F dX1_link_7 ki_1 ?_
  refine a_iload_n F dX1_link_8 rfl rfl ?_
  refine a_ishl F dX1_link_9 ?_
  refine a_ior F dX1_link_10 ?_
  refine a_gd (a_iast F dX1_link_11 (zcl_9 h0) (zck_9 h0) ?_)
  refine a_nmS (fun S_1 => ?_)
  refine a_aload_n F dX1_link_12 rfl rfl ?_
  refine a_getR (k := 13) F cfX1 dX1_link_13 fl_X1_52 (by decide) fi_1_13 (zcl_0 h0) (zck_0 h0) (zcr_13 h0) ?_
  refine a_iload_n F dX1_link_16 rfl rfl ?_
  refine a_dup2 F dX1_link_17 rfl rfl ?_
  refine a_gd (a_iald F dX1_link_18 (zcl_9 h0) (zck_9 h0) ?_)
  refine a_iconst F dX1_link_19 ki_1 ?_
  refine a_iload_n F dX1_link_20 rfl rfl ?_
  refine a_ishl F dX1_link_21 ?_
  refine a_ior F dX1_link_22 ?_
  refine a_gd (a_iast F dX1_link_23 (zcl_9 h0) (zck_9 h0) ?_)
  refine a_nmS (fun S_2 => ?_)
  exact a_vret F M0.2.2.1 M0.2.2.2 dX1_link_24
theorem c_X1_link (X : CX) {r0 : Nat} (h0 : isClan r0) (p1 p2 : Int32) (S : Mm) : CtV X Z1 yX1_link cX1_link 3 1 [.ref r0, .int p1, .int p2] S (f_X1_link r0 p1 p2 S) :=
  ctV_of (by decide +kernel) rfl (Nat.le_of_ble_eq_true rfl) (by simp [Value.category]) z1len fun E F R hra hlk => b_X1_link ⟨F, R, hra, hlk⟩ h0 p1 p2 S
def f_X1_addPerson_116 (r0 : Nat) (x2 x4 : Int32) (S : Mm) : Option (Int32 × Mm) :=
  if x2 = (-1 : Int32) then (
   some (x4, S)
  ) else (
   (f_X1_link r0 x4 x2 S).bind fun S_1 =>
   some (x4, S_1)
  )
set_option maxRecDepth 20000 in
theorem b_X1_addPerson_116 {X : CX} {E : FE} (M0 : MF X E RX1 cX1_addPerson 5 2 (some .int)) {r0 : Nat} (h0 : isClan r0) (x2 x4 : Int32) (S : Mm) : At X E false (mQi X Z1 E) 116 [some (.ref r0), none, some (.int x2), none, some (.int x4)] [] Z1 S 0 0 (f_X1_addPerson_116 r0 x2 x4 S) := by
  have F := M0.1
  unfold f_X1_addPerson_116
  refine a_iload_n F dX1_addPerson_116 rfl rfl ?_
  refine a_iconst F dX1_addPerson_117 ki_m1 ?_
  refine a_icmp_eq F 128 dX1_addPerson_118 (by decide) ?_ ?_
  · refine a_iload F dX1_addPerson_128 rfl ?_
    exact a_iret F M0.2.2.1 M0.2.2.2 dX1_addPerson_130
  · refine a_aload_n F dX1_addPerson_121 rfl rfl ?_
    refine a_iload F dX1_addPerson_122 rfl ?_
    refine a_iload_n F dX1_addPerson_124 rfl rfl ?_
    refine a_callVV F (As := [.int x4, .int x2]) cfX1 rfl (c_X1_link X h0 x4 x2 S) mw_X1_link ml_X1_83 im_X1_link se_X1_link M0.2.1 (Nat.le_of_ble_eq_true rfl) ⟨Nat.zero_le _, Nat.zero_le _⟩ rfl rfl (Nat.le_of_ble_eq_true rfl) (zcl_0 h0) (zck_0 h0) dX1_addPerson_125 rfl (fun S_1 => ?_)
    refine a_iload F dX1_addPerson_128 rfl ?_
    exact a_iret F M0.2.2.1 M0.2.2.2 dX1_addPerson_130
def f_X1_addPerson (r0 : Nat) (p1 p2 p3 : Int32) (S : Mm) : Option (Int32 × Mm) :=
  nm ((S r0 3)) fun x4_1 =>
  nm (uM S r0 3 ((S r0 3) + (1 : Int32))) fun S_2 =>
  nm (uM S_2 r0 4 ((S_2 r0 4) ||| (shl (1 : Int32) x4_1))) fun S_3 =>
  gd (inB x4_1 12 = true) <|
  nm (uM S_3 (r0 + 1) (ix x4_1) p1) fun S_4 =>
  gd (inB x4_1 12 = true) <|
  nm (uM S_4 (r0 + 2) (ix x4_1) p2) fun S_5 =>
  gd (inB x4_1 12 = true) <|
  nm (uM S_5 (r0 + 3) (ix x4_1) (S_5 r0 1)) fun S_6 =>
  gd (inB x4_1 12 = true) <|
  nm (uM S_6 (r0 + 4) (ix x4_1) (-1 : Int32)) fun S_7 =>
  gd (inB x4_1 12 = true) <|
  nm (uM S_7 (r0 + 5) (ix x4_1) (0 : Int32)) fun S_8 =>
  gd (inB x4_1 12 = true) <|
  nm (uM S_8 (r0 + 6) (ix x4_1) (0 : Int32)) fun S_9 =>
  gd (inB x4_1 12 = true) <|
  nm (uM S_9 (r0 + 7) (ix x4_1) p3) fun S_10 =>
  gd (inB x4_1 12 = true) <|
  nm (uM S_10 (r0 + 8) (ix x4_1) (-1 : Int32)) fun S_11 =>
  gd (inB x4_1 12 = true) <|
  nm (uM S_11 (r0 + 9) (ix x4_1) (0 : Int32)) fun S_12 =>
  if p1 = (-1 : Int32) then (
   f_X1_addPerson_116 r0 p2 x4_1 S_12
  ) else (
   (f_X1_link r0 x4_1 p1 S_12).bind fun S_13 =>
   f_X1_addPerson_116 r0 p2 x4_1 S_13
  )
set_option maxRecDepth 20000 in
theorem b_X1_addPerson {X : CX} {E : FE} (M0 : MF X E RX1 cX1_addPerson 5 2 (some .int)) {r0 : Nat} (h0 : isClan r0) (p1 p2 p3 : Int32) (S : Mm) : At X E false (mQi X Z1 E) 0 [some (.ref r0), some (.int p1), some (.int p2), some (.int p3), none] [] Z1 S 0 0 (f_X1_addPerson r0 p1 p2 p3 S) := by
  have F := M0.1
  unfold f_X1_addPerson
  refine a_aload_n F dX1_addPerson_0 rfl rfl ?_
  refine a_getI (k := 3) F cfX1 dX1_addPerson_1 fl_X1_21 (by decide) fi_1_3 (zcl_0 h0) (zck_0 h0) ?_
  refine a_istoreN (L' := fun x4_1 => [some (.ref r0), some (.int p1), some (.int p2), some (.int p3), some (.int x4_1)]) F dX1_addPerson_4 (lt_b rfl) (fun _ => rfl) (fun x4_1 => ?_)
  refine a_aload_n F dX1_addPerson_6 rfl rfl ?_
  refine a_dup F dX1_addPerson_7 rfl ?_
  refine a_getI (k := 3) F cfX1 dX1_addPerson_8 fl_X1_21 (by decide) fi_1_3 (zcl_0 h0) (zck_0 h0) ?_
  refine a_iconst F dX1_addPerson_11 ki_1 ?_
  refine a_iadd F dX1_addPerson_12 ?_
  refine a_putI (k := 3) F cfX1 dX1_addPerson_13 fl_X1_21 (by decide) fi_1_3 rfl rfl (zcl_0 h0) (zck_0 h0) ?_
  refine a_nmS (fun S_2 => ?_)
  refine a_aload_n F dX1_addPerson_16 rfl rfl ?_
  refine a_dup F dX1_addPerson_17 rfl ?_
  refine a_getI (k := 4) F cfX1 dX1_addPerson_18 fl_X1_24 (by decide) fi_1_4 (zcl_0 h0) (zck_0 h0) ?_
  refine a_iconst F dX1_addPerson_21 ki_1 ?_
  refine a_iload F dX1_addPerson_22 rfl ?_
  refine a_ishl F dX1_addPerson_24 ?_
  refine a_ior F dX1_addPerson_25 ?_
  refine a_putI (k := 4) F cfX1 dX1_addPerson_26 fl_X1_24 (by decide) fi_1_4 rfl rfl (zcl_0 h0) (zck_0 h0) ?_
  refine a_nmS (fun S_3 => ?_)
  refine a_aload_n F dX1_addPerson_29 rfl rfl ?_
  refine a_getR (k := 5) F cfX1 dX1_addPerson_30 fl_X1_27 (by decide) fi_1_5 (zcl_0 h0) (zck_0 h0) (zcr_5 h0) ?_
  refine a_iload F dX1_addPerson_33 rfl ?_
  refine a_iload_n F dX1_addPerson_35 rfl rfl ?_
  refine a_gd (a_iast F dX1_addPerson_36 (zcl_1 h0) (zck_1 h0) ?_)
  refine a_nmS (fun S_4 => ?_)
  refine a_aload_n F dX1_addPerson_37 rfl rfl ?_
  refine a_getR (k := 6) F cfX1 dX1_addPerson_38 fl_X1_31 (by decide) fi_1_6 (zcl_0 h0) (zck_0 h0) (zcr_6 h0) ?_
  refine a_iload F dX1_addPerson_41 rfl ?_
  refine a_iload_n F dX1_addPerson_43 rfl rfl ?_
  refine a_gd (a_iast F dX1_addPerson_44 (zcl_2 h0) (zck_2 h0) ?_)
  refine a_nmS (fun S_5 => ?_)
  refine a_aload_n F dX1_addPerson_45 rfl rfl ?_
  refine a_getR (k := 7) F cfX1 dX1_addPerson_46 fl_X1_34 (by decide) fi_1_7 (zcl_0 h0) (zck_0 h0) (zcr_7 h0) ?_
  refine a_iload F dX1_addPerson_49 rfl ?_
  refine a_aload_n F dX1_addPerson_51 rfl rfl ?_
  refine a_getI (k := 1) F cfX1 dX1_addPerson_52 fl_X1_15 (by decide) fi_1_1 (zcl_0 h0) (zck_0 h0) ?_
  refine a_gd (a_iast F dX1_addPerson_55 (zcl_3 h0) (zck_3 h0) ?_)
  refine a_nmS (fun S_6 => ?_)
  refine a_aload_n F dX1_addPerson_56 rfl rfl ?_
  refine a_getR (k := 8) F cfX1 dX1_addPerson_57 fl_X1_37 (by decide) fi_1_8 (zcl_0 h0) (zck_0 h0) (zcr_8 h0) ?_
  refine a_iload F dX1_addPerson_60 rfl ?_
  refine a_iconst F dX1_addPerson_62 ki_m1 ?_
  refine a_gd (a_iast F dX1_addPerson_63 (zcl_4 h0) (zck_4 h0) ?_)
  refine a_nmS (fun S_7 => ?_)
  refine a_aload_n F dX1_addPerson_64 rfl rfl ?_
  refine a_getR (k := 9) F cfX1 dX1_addPerson_65 fl_X1_40 (by decide) fi_1_9 (zcl_0 h0) (zck_0 h0) (zcr_9 h0) ?_
  refine a_iload F dX1_addPerson_68 rfl ?_
  refine a_iconst F dX1_addPerson_70 ki_0 ?_
  refine a_gd (a_iast F dX1_addPerson_71 (zcl_5 h0) (zck_5 h0) ?_)
  refine a_nmS (fun S_8 => ?_)
  refine a_aload_n F dX1_addPerson_72 rfl rfl ?_
  refine a_getR (k := 10) F cfX1 dX1_addPerson_73 fl_X1_43 (by decide) fi_1_10 (zcl_0 h0) (zck_0 h0) (zcr_10 h0) ?_
  refine a_iload F dX1_addPerson_76 rfl ?_
  refine a_iconst F dX1_addPerson_78 ki_0 ?_
  refine a_gd (a_iast F dX1_addPerson_79 (zcl_6 h0) (zck_6 h0) ?_)
  refine a_nmS (fun S_9 => ?_)
  refine a_aload_n F dX1_addPerson_80 rfl rfl ?_
  refine a_getR (k := 11) F cfX1 dX1_addPerson_81 fl_X1_46 (by decide) fi_1_11 (zcl_0 h0) (zck_0 h0) (zcr_11 h0) ?_
  refine a_iload F dX1_addPerson_84 rfl ?_
  refine a_iload_n F dX1_addPerson_86 rfl rfl ?_
  refine a_gd (a_iast F dX1_addPerson_87 (zcl_7 h0) (zck_7 h0) ?_)
  refine a_nmS (fun S_10 => ?_)
  refine a_aload_n F dX1_addPerson_88 rfl rfl ?_
  refine a_getR (k := 12) F cfX1 dX1_addPerson_89 fl_X1_49 (by decide) fi_1_12 (zcl_0 h0) (zck_0 h0) (zcr_12 h0) ?_
  refine a_iload F dX1_addPerson_92 rfl ?_
  refine a_iconst F dX1_addPerson_94 ki_m1 ?_
  refine a_gd (a_iast F dX1_addPerson_95 (zcl_8 h0) (zck_8 h0) ?_)
  refine a_nmS (fun S_11 => ?_)
  refine a_aload_n F dX1_addPerson_96 rfl rfl ?_
  refine a_getR (k := 13) F cfX1 dX1_addPerson_97 fl_X1_52 (by decide) fi_1_13 (zcl_0 h0) (zck_0 h0) (zcr_13 h0) ?_
  refine a_iload F dX1_addPerson_100 rfl ?_
  refine a_iconst F dX1_addPerson_102 ki_0 ?_
  refine a_gd (a_iast F dX1_addPerson_103 (zcl_9 h0) (zck_9 h0) ?_)
  refine a_nmS (fun S_12 => ?_)
  refine a_iload_n F dX1_addPerson_104 rfl rfl ?_
  refine a_iconst F dX1_addPerson_105 ki_m1 ?_
  refine a_icmp_eq F 116 dX1_addPerson_106 (by decide) ?_ ?_
  · refine a_mask [true, false, true, false, true] (L' := [some (.ref r0), none, some (.int p2), none, some (.int x4_1)]) rfl rfl ?_
    exact b_X1_addPerson_116 M0 h0 p2 x4_1 S_12
  · refine a_aload_n F dX1_addPerson_109 rfl rfl ?_
    refine a_iload F dX1_addPerson_110 rfl ?_
    refine a_iload_n F dX1_addPerson_112 rfl rfl ?_
    refine a_callVV F (As := [.int x4_1, .int p1]) cfX1 rfl (c_X1_link X h0 x4_1 p1 S_12) mw_X1_link ml_X1_83 im_X1_link se_X1_link M0.2.1 (Nat.le_of_ble_eq_true rfl) ⟨Nat.zero_le _, Nat.zero_le _⟩ rfl rfl (Nat.le_of_ble_eq_true rfl) (zcl_0 h0) (zck_0 h0) dX1_addPerson_113 rfl (fun S_13 => ?_)
    refine a_mask [true, false, true, false, true] (L' := [some (.ref r0), none, some (.int p2), none, some (.int x4_1)]) rfl rfl ?_
    exact b_X1_addPerson_116 M0 h0 p2 x4_1 S_13
theorem c_X1_addPerson (X : CX) {r0 : Nat} (h0 : isClan r0) (p1 p2 p3 : Int32) (S : Mm) : CtI X Z1 yX1_addPerson cX1_addPerson 5 (some .int) 2 [.ref r0, .int p1, .int p2, .int p3] S (f_X1_addPerson r0 p1 p2 p3 S) :=
  ctI_of (by decide +kernel) rfl (Nat.le_of_ble_eq_true rfl) (by simp [Value.category]) z1len fun E F R hra hlk => b_X1_addPerson ⟨F, R, hra, hlk⟩ h0 p1 p2 p3 S
