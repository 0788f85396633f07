def f_X11_thinks_2b (k2 : Int32 → Mm → Option Mm) (x1 : Int32) (S : Mm) : Option Mm :=
  if (148 : Int32) ≤ x1 then (
   nm (uM S 239 5 (1 : Int32)) fun S_1 =>
   some S_1
  ) else (
   gd (inB x1 148 = true) <|
   gd (inB x1 148 = true) <|
   nm (uM S 242 (ix x1) (S 240 (ix x1))) fun S_2 =>
   nm (x1 + (1 : Int32)) fun x1_3 =>
   k2 x1_3 S_2
  )
set_option maxRecDepth 20000 in
theorem b_X11_thinks_2b {X : CX} {E : FE} (M0 : MF X E RX11 cX11_thinks 2 1 none) {k2 : Int32 → Mm → Option Mm} (hk2 : ∀ (x1 : Int32) (S : Mm), At X E false (mQv X Z1 E) 2 [some (.ref 239), some (.int x1)] [] Z1 S 0 0 (k2 x1 S)) (x1 : Int32) (S : Mm) : At X E false (mQv X Z1 E) 2 [some (.ref 239), some (.int x1)] [] Z1 S 0 0 (f_X11_thinks_2b k2 x1 S) := by
  have F := M0.1
  unfold f_X11_thinks_2b
  refine a_iload_n F dX11_thinks_2 rfl rfl ?_
  refine a_sipush F dX11_thinks_3 ks_148 ?_
  refine a_icmp_ge F 27 dX11_thinks_6 (by decide) ?_ ?_
  · refine a_aload_n F dX11_thinks_27 rfl rfl ?_
    refine a_iconst F dX11_thinks_28 ki_1 ?_
    refine a_putZK (k := 5) F cfX11 dX11_thinks_29 fl_X11_116 (by decide) fi_11_5 rfl rfl zl_239 zk_239 (Or.inr rfl) ?_
    refine a_nmS (fun S_1 => ?_)
    exact a_vret F M0.2.2.1 M0.2.2.2 dX11_thinks_32
  · refine a_aload_n F dX11_thinks_9 rfl rfl ?_
    refine a_getR (k := 4) F cfX11 dX11_thinks_10 fl_X11_16 (by decide) fi_11_4 zl_239 zk_239 zr_239_4 ?_
    refine a_iload_n F dX11_thinks_13 rfl rfl ?_
    refine a_aload_n F dX11_thinks_14 rfl rfl ?_
    refine a_getR (k := 1) F cfX11 dX11_thinks_15 fl_X11_7 (by decide) fi_11_1 zl_239 zk_239 zr_239_1 ?_
    refine a_iload_n F dX11_thinks_18 rfl rfl ?_
    refine a_gd (a_iald F dX11_thinks_19 zl_240 zk_240 ?_)
    refine a_gd (a_iast F dX11_thinks_20 zl_242 zk_242 ?_)
    refine a_nmS (fun S_2 => ?_)
    refine a_iincN (L' := fun x1_3 => [some (.ref 239), some (.int x1_3)]) F dX11_thinks_21 rfl ki_1 (lt_b rfl) (fun _ => rfl) (fun x1_3 => ?_)
    refine a_goto F 2 dX11_thinks_24 (by decide) ?_
    exact hk2 x1_3 S_2
def f_X11_thinks_2 : Nat → Int32 → Mm → Option Mm :=
  itr (fun _ _ => none) (fun k => f_X11_thinks_2b k)
theorem b_X11_thinks_2 {X : CX} {E : FE} (M0 : MF X E RX11 cX11_thinks 2 1 none) : ∀ (n : Nat) (x1 : Int32) (S : Mm), At X E false (mQv X Z1 E) 2 [some (.ref 239), some (.int x1)] [] Z1 S 0 0 (f_X11_thinks_2  n x1 S) := by
  intro n
  induction n with
  | zero => intros; exact a_none
  | succ n ih => intro x1 S; exact b_X11_thinks_2b M0 ih x1 S
def f_X11_thinks (S : Mm) : Option Mm :=
  f_X11_thinks_2 FU (0 : Int32) S
set_option maxRecDepth 20000 in
theorem b_X11_thinks {X : CX} {E : FE} (M0 : MF X E RX11 cX11_thinks 2 1 none) (S : Mm) : At X E false (mQv X Z1 E) 0 [some (.ref 239), none] [] Z1 S 0 0 (f_X11_thinks S) := by
  have F := M0.1
  unfold f_X11_thinks
  refine a_iconst F dX11_thinks_0 ki_0 ?_
  refine a_istore_n (L' := [some (.ref 239), some (.int (0 : Int32))]) F dX11_thinks_1 rfl (lt_b rfl) rfl ?_
  exact b_X11_thinks_2 M0 FU (0 : Int32) S
theorem c_X11_thinks (X : CX) (S : Mm) : CtV X Z1 yX11_thinks cX11_thinks 2 1 [.ref 239] S (f_X11_thinks S) :=
  ctV_of (by decide +kernel) rfl (Nat.le_of_ble_eq_true rfl) (by simp [Value.category]) z1len fun E F R hra hlk => b_X11_thinks ⟨F, R, hra, hlk⟩ S
def f_X11_ownerOf (p1 : Int32) (S : Mm) : Option (Int32 × Mm) :=
  gd (inB ((4 : Int32) + p1) 148 = true) <|
  some (((S 240 (ix ((4 : Int32) + p1))) - (1 : Int32)), S)
set_option maxRecDepth 20000 in
theorem b_X11_ownerOf {X : CX} {E : FE} (M0 : MF X E RX11 cX11_ownerOf 2 1 (some .int)) (p1 : Int32) (S : Mm) : At X E false (mQi X Z1 E) 0 [some (.ref 239), some (.int p1)] [] Z1 S 0 0 (f_X11_ownerOf p1 S) := by
  have F := M0.1
  unfold f_X11_ownerOf
  refine a_aload_n F dX11_ownerOf_0 rfl rfl ?_
  refine a_getR (k := 1) F cfX11 dX11_ownerOf_1 fl_X11_7 (by decide) fi_11_1 zl_239 zk_239 zr_239_1 ?_
  refine a_iconst F dX11_ownerOf_4 ki_4 ?_
  refine a_iload_n F dX11_ownerOf_5 rfl rfl ?_
  refine a_iadd F dX11_ownerOf_6 ?_
  refine a_gd (a_iald F dX11_ownerOf_7 zl_240 zk_240 ?_)
  refine a_iconst F dX11_ownerOf_8 ki_1 ?_
  refine a_isub F dX11_ownerOf_9 ?_
  exact a_iret F M0.2.2.1 M0.2.2.2 dX11_ownerOf_10
theorem c_X11_ownerOf (X : CX) (p1 : Int32) (S : Mm) : CtI X Z1 yX11_ownerOf cX11_ownerOf 2 (some .int) 1 [.ref 239, .int p1] S (f_X11_ownerOf p1 S) :=
  ctI_of (by decide +kernel) rfl (Nat.le_of_ble_eq_true rfl) (by simp [Value.category]) z1len fun E F R hra hlk => b_X11_ownerOf ⟨F, R, hra, hlk⟩ p1 S
def f_X11_borrowerOf (p1 : Int32) (S : Mm) : Option (Int32 × Mm) :=
  gd (inB ((32 : Int32) + p1) 148 = true) <|
  some (((S 240 (ix ((32 : Int32) + p1))) - (1 : Int32)), S)
set_option maxRecDepth 20000 in
theorem b_X11_borrowerOf {X : CX} {E : FE} (M0 : MF X E RX11 cX11_borrowerOf 2 1 (some .int)) (p1 : Int32) (S : Mm) : At X E false (mQi X Z1 E) 0 [some (.ref 239), some (.int p1)] [] Z1 S 0 0 (f_X11_borrowerOf p1 S) := by
  have F := M0.1
  unfold f_X11_borrowerOf
  refine a_aload_n F dX11_borrowerOf_0 rfl rfl ?_
  refine a_getR (k := 1) F cfX11 dX11_borrowerOf_1 fl_X11_7 (by decide) fi_11_1 zl_239 zk_239 zr_239_1 ?_
  refine a_bipush F dX11_borrowerOf_4 kb_32 ?_
  refine a_iload_n F dX11_borrowerOf_6 rfl rfl ?_
  refine a_iadd F dX11_borrowerOf_7 ?_
  refine a_gd (a_iald F dX11_borrowerOf_8 zl_240 zk_240 ?_)
  refine a_iconst F dX11_borrowerOf_9 ki_1 ?_
  refine a_isub F dX11_borrowerOf_10 ?_
  exact a_iret F M0.2.2.1 M0.2.2.2 dX11_borrowerOf_11
theorem c_X11_borrowerOf (X : CX) (p1 : Int32) (S : Mm) : CtI X Z1 yX11_borrowerOf cX11_borrowerOf 2 (some .int) 1 [.ref 239, .int p1] S (f_X11_borrowerOf p1 S) :=
  ctI_of (by decide +kernel) rfl (Nat.le_of_ble_eq_true rfl) (by simp [Value.category]) z1len fun E F R hra hlk => b_X11_borrowerOf ⟨F, R, hra, hlk⟩ p1 S
def f_X11_canWrite_77 (S : Mm) : Option (Int32 × Mm) :=
  some ((0 : Int32), S)
set_option maxRecDepth 20000 in
theorem b_X11_canWrite_77 {X : CX} {E : FE} (M0 : MF X E RX11 cX11_canWrite 4 2 (some .boolean)) (S : Mm) : At X E false (mQi X Z1 E) 77 [none, none, none, none] [] Z1 S 0 0 (f_X11_canWrite_77 S) := by
  have F := M0.1
  unfold f_X11_canWrite_77
  refine a_iconst F dX11_canWrite_77 ki_0 ?_
  exact a_zretK F M0.2.2.1 M0.2.2.2 dX11_canWrite_78 (Or.inl rfl)
def f_X11_canWrite (p1 p2 : Int32) (S : Mm) : Option (Int32 × Mm) :=
  (f_X11_doesLive p1 S).bind fun q_1 =>
  if q_1.1 = 0 then (
   some ((0 : Int32), q_1.2)
  ) else (
   (f_X11_borrowerOf p2 q_1.2).bind fun q_2 =>
   if q_2.1 = (-1 : Int32) then (
    (f_X11_ownerOf p2 q_2.2).bind fun q_3 =>
    if q_3.1 = (-1 : Int32) then (
     f_X11_canWrite_77 q_3.2
    ) else (
     (f_X11_doesLive q_3.1 q_3.2).bind fun q_4 =>
     if q_4.1 = 0 then (
      f_X11_canWrite_77 q_4.2
     ) else (
      gd (inB (((12 : Int32) * p1) + q_3.1) 144 = true) <|
      if ((q_4.2 239 12) + (1 : Int32)) < (q_4.2 249 (ix (((12 : Int32) * p1) + q_3.1))) then (
       f_X11_canWrite_77 q_4.2
      ) else (
       some ((1 : Int32), q_4.2)
      )
     )
    )
   ) else (
    (f_X11_borrowerOf p2 q_2.2).bind fun q_5 =>
    if q_5.1 = p1 then (
     some ((1 : Int32), q_5.2)
    ) else (
     some ((0 : Int32), q_5.2)
    )
   )
  )
set_option maxRecDepth 20000 in
theorem b_X11_canWrite {X : CX} {E : FE} (M0 : MF X E RX11 cX11_canWrite 4 2 (some .boolean)) (p1 p2 : Int32) (S : Mm) : At X E false (mQi X Z1 E) 0 [some (.ref 239), some (.int p1), some (.int p2), none] [] Z1 S 0 0 (f_X11_canWrite p1 p2 S) := by
  have F := M0.1
  unfold f_X11_canWrite
  refine a_aload_n F dX11_canWrite_0 rfl rfl ?_
  refine a_iload_n F dX11_canWrite_1 rfl rfl ?_
  refine a_callVI F (As := [.int p1]) cfX11 rfl (c_X11_doesLive X p1 S) mw_X11_doesLive ml_X11_132 im_X11_doesLive se_X11_doesLive M0.2.1 (Nat.le_of_ble_eq_true rfl) ⟨Nat.zero_le _, Nat.zero_le _⟩ rfl rfl (Nat.le_of_ble_eq_true rfl) zl_239 zk_239 dX11_canWrite_2 rfl (fun q_1 => ?_)
  refine a_if_ne F 10 dX11_canWrite_5 (by decide) ?_ ?_
  · refine a_iconst F dX11_canWrite_8 ki_0 ?_
    exact a_zretK F M0.2.2.1 M0.2.2.2 dX11_canWrite_9 (Or.inl rfl)
  · refine a_aload_n F dX11_canWrite_10 rfl rfl ?_
    refine a_iload_n F dX11_canWrite_11 rfl rfl ?_
    refine a_callVI F (As := [.int p2]) cfX11 rfl (c_X11_borrowerOf X p2 q_1.2) mw_X11_borrowerOf ml_X11_315 im_X11_borrowerOf se_X11_borrowerOf M0.2.1 (Nat.le_of_ble_eq_true rfl) ⟨Nat.zero_le _, Nat.zero_le _⟩ rfl rfl (Nat.le_of_ble_eq_true rfl) zl_239 zk_239 dX11_canWrite_12 rfl (fun q_2 => ?_)
    refine a_iconst F dX11_canWrite_15 ki_m1 ?_
    refine a_icmp_eq F 34 dX11_canWrite_16 (by decide) ?_ ?_
    · refine a_aload_n F dX11_canWrite_34 rfl rfl ?_
      refine a_iload_n F dX11_canWrite_35 rfl rfl ?_
      refine a_callVI F (As := [.int p2]) cfX11 rfl (c_X11_ownerOf X p2 q_2.2) mw_X11_ownerOf ml_X11_160 im_X11_ownerOf se_X11_ownerOf M0.2.1 (Nat.le_of_ble_eq_true rfl) ⟨Nat.zero_le _, Nat.zero_le _⟩ rfl rfl (Nat.le_of_ble_eq_true rfl) zl_239 zk_239 dX11_canWrite_36 rfl (fun q_3 => ?_)
      refine a_istore_n (L' := [some (.ref 239), some (.int p1), some (.int p2), some (.int q_3.1)]) F dX11_canWrite_39 rfl (lt_b rfl) rfl ?_
      refine a_iload_n F dX11_canWrite_40 rfl rfl ?_
      refine a_iconst F dX11_canWrite_41 ki_m1 ?_
      refine a_icmp_eq F 77 dX11_canWrite_42 (by decide) ?_ ?_
      · refine a_mask [false, false, false, false] (L' := [none, none, none, none]) rfl rfl ?_
        exact b_X11_canWrite_77 M0 q_3.2
      · refine a_aload_n F dX11_canWrite_45 rfl rfl ?_
        refine a_iload_n F dX11_canWrite_46 rfl rfl ?_
        refine a_callVI F (As := [.int q_3.1]) cfX11 rfl (c_X11_doesLive X q_3.1 q_3.2) mw_X11_doesLive ml_X11_132 im_X11_doesLive se_X11_doesLive M0.2.1 (Nat.le_of_ble_eq_true rfl) ⟨Nat.zero_le _, Nat.zero_le _⟩ rfl rfl (Nat.le_of_ble_eq_true rfl) zl_239 zk_239 dX11_canWrite_47 rfl (fun q_4 => ?_)
        refine a_if_eq F 77 dX11_canWrite_50 (by decide) ?_ ?_
        · refine a_mask [false, false, false, false] (L' := [none, none, none, none]) rfl rfl ?_
          exact b_X11_canWrite_77 M0 q_4.2
        · refine a_aload_n F dX11_canWrite_53 rfl rfl ?_
          refine a_getR (k := 14) F cfX11 dX11_canWrite_54 fl_X11_37 (by decide) fi_11_14 zl_239 zk_239 zr_239_14 ?_
          refine a_bipush F dX11_canWrite_57 kb_12 ?_
          refine a_iload_n F dX11_canWrite_59 rfl rfl ?_
          refine a_imul F dX11_canWrite_60 ?_
          refine a_iload_n F dX11_canWrite_61 rfl rfl ?_
          refine a_iadd F dX11_canWrite_62 ?_
          refine a_gd (a_iald F dX11_canWrite_63 zl_249 zk_249 ?_)
          refine a_aload_n F dX11_canWrite_64 rfl rfl ?_
          refine a_getI (k := 12) F cfX11 dX11_canWrite_65 fl_X11_157 (by decide) fi_11_12 zl_239 zk_239 ?_
          refine a_iconst F dX11_canWrite_68 ki_1 ?_
          refine a_iadd F dX11_canWrite_69 ?_
          refine a_icmp_gt F 77 dX11_canWrite_70 (by decide) ?_ ?_
          · refine a_mask [false, false, false, false] (L' := [none, none, none, none]) rfl rfl ?_
            exact b_X11_canWrite_77 M0 q_4.2
          · refine a_iconst F dX11_canWrite_73 ki_1 ?_
            refine a_goto F 78 dX11_canWrite_74 (by decide) ?_
            exact a_zretK F M0.2.2.1 M0.2.2.2 dX11_canWrite_78 (Or.inr rfl)
    · refine a_aload_n F dX11_canWrite_19 rfl rfl ?_
      refine a_iload_n F dX11_canWrite_20 rfl rfl ?_
      refine a_callVI F (As := [.int p2]) cfX11 rfl (c_X11_borrowerOf X p2 q_2.2) mw_X11_borrowerOf ml_X11_315 im_X11_borrowerOf se_X11_borrowerOf M0.2.1 (Nat.le_of_ble_eq_true rfl) ⟨Nat.zero_le _, Nat.zero_le _⟩ rfl rfl (Nat.le_of_ble_eq_true rfl) zl_239 zk_239 dX11_canWrite_21 rfl (fun q_5 => ?_)
      refine a_iload_n F dX11_canWrite_24 rfl rfl ?_
      refine a_icmp_ne F 32 dX11_canWrite_25 (by decide) ?_ ?_
      · refine a_iconst F dX11_canWrite_28 ki_1 ?_
        refine a_goto F 33 dX11_canWrite_29 (by decide) ?_
        exact a_zretK F M0.2.2.1 M0.2.2.2 dX11_canWrite_33 (Or.inr rfl)
      · refine a_iconst F dX11_canWrite_32 ki_0 ?_
        exact a_zretK F M0.2.2.1 M0.2.2.2 dX11_canWrite_33 (Or.inl rfl)
theorem c_X11_canWrite (X : CX) (p1 p2 : Int32) (S : Mm) : CtI X Z1 yX11_canWrite cX11_canWrite 4 (some .boolean) 2 [.ref 239, .int p1, .int p2] S (f_X11_canWrite p1 p2 S) :=
  ctI_of (by decide +kernel) rfl (Nat.le_of_ble_eq_true rfl) (by simp [Value.category]) z1len fun E F R hra hlk => b_X11_canWrite ⟨F, R, hra, hlk⟩ p1 p2 S
def f_X11_lettersOf_25 (k4 : Int32 → Int32 → Int32 → Mm → Option (Int32 × Mm)) (x1 x2 x3 : Int32) (S : Mm) : Option (Int32 × Mm) :=
  nm (x3 + (1 : Int32)) fun x3_1 =>
  k4 x1 x2 x3_1 S
set_option maxRecDepth 20000 in
theorem b_X11_lettersOf_25 {X : CX} {E : FE} (M0 : MF X E RX11 cX11_lettersOf 4 3 (some .int)) {k4 : Int32 → Int32 → Int32 → Mm → Option (Int32 × Mm)} (hk4 : ∀ (x1 x2 x3 : Int32) (S : Mm), At X E false (mQi X Z1 E) 4 [some (.ref 239), some (.int x1), some (.int x2), some (.int x3)] [] Z1 S 0 0 (k4 x1 x2 x3 S)) (x1 x2 x3 : Int32) (S : Mm) : At X E false (mQi X Z1 E) 25 [some (.ref 239), some (.int x1), some (.int x2), some (.int x3)] [] Z1 S 0 0 (f_X11_lettersOf_25 k4 x1 x2 x3 S) := by
  have F := M0.1
  unfold f_X11_lettersOf_25
  refine a_iincN (L' := fun x3_1 => [some (.ref 239), some (.int x1), some (.int x2), some (.int x3_1)]) F dX11_lettersOf_25 rfl ki_1 (lt_b rfl) (fun _ => rfl) (fun x3_1 => ?_)
  refine a_goto F 4 dX11_lettersOf_28 (by decide) ?_
  exact hk4 x1 x2 x3_1 S
def f_X11_lettersOf_4b (k4 : Int32 → Int32 → Int32 → Mm → Option (Int32 × Mm)) (x1 x2 x3 : Int32) (S : Mm) : Option (Int32 × Mm) :=
  if (28 : Int32) ≤ x3 then (
   some (x2, S)
  ) else (
   (f_X11_canWrite x1 x3 S).bind fun q_1 =>
   if q_1.1 = 0 then (
    f_X11_lettersOf_25 k4 x1 x2 x3 q_1.2
   ) else (
    nm ((x2 ||| (shl (1 : Int32) x3))) fun x2_2 =>
    f_X11_lettersOf_25 k4 x1 x2_2 x3 q_1.2
   )
  )
set_option maxRecDepth 20000 in
theorem b_X11_lettersOf_4b {X : CX} {E : FE} (M0 : MF X E RX11 cX11_lettersOf 4 3 (some .int)) {k4 : Int32 → Int32 → Int32 → Mm → Option (Int32 × Mm)} (hk4 : ∀ (x1 x2 x3 : Int32) (S : Mm), At X E false (mQi X Z1 E) 4 [some (.ref 239), some (.int x1), some (.int x2), some (.int x3)] [] Z1 S 0 0 (k4 x1 x2 x3 S)) (x1 x2 x3 : Int32) (S : Mm) : At X E false (mQi X Z1 E) 4 [some (.ref 239), some (.int x1), some (.int x2), some (.int x3)] [] Z1 S 0 0 (f_X11_lettersOf_4b k4 x1 x2 x3 S) := by
  have F := M0.1
  unfold f_X11_lettersOf_4b
  refine a_iload_n F dX11_lettersOf_4 rfl rfl ?_
  refine a_bipush F dX11_lettersOf_5 kb_28 ?_
  refine a_icmp_ge F 31 dX11_lettersOf_7 (by decide) ?_ ?_
  · refine a_iload_n F dX11_lettersOf_31 rfl rfl ?_
    exact a_iret F M0.2.2.1 M0.2.2.2 dX11_lettersOf_32
  · refine a_aload_n F dX11_lettersOf_10 rfl rfl ?_
    refine a_iload_n F dX11_lettersOf_11 rfl rfl ?_
    refine a_iload_n F dX11_lettersOf_12 rfl rfl ?_
    refine a_callVI F (As := [.int x1, .int x3]) cfX11 rfl (c_X11_canWrite X x1 x3 S) mw_X11_canWrite ml_X11_318 im_X11_canWrite se_X11_canWrite M0.2.1 (Nat.le_of_ble_eq_true rfl) ⟨Nat.zero_le _, Nat.zero_le _⟩ rfl rfl (Nat.le_of_ble_eq_true rfl) zl_239 zk_239 dX11_lettersOf_13 rfl (fun q_1 => ?_)
    refine a_if_eq F 25 dX11_lettersOf_16 (by decide) ?_ ?_
    · exact b_X11_lettersOf_25 M0 hk4 x1 x2 x3 q_1.2
    · refine a_iload_n F dX11_lettersOf_19 rfl rfl ?_
      refine a_iconst F dX11_lettersOf_20 ki_1 ?_
      refine a_iload_n F dX11_lettersOf_21 rfl rfl ?_
      refine a_ishl F dX11_lettersOf_22 ?_
      refine a_ior F dX11_lettersOf_23 ?_
      refine a_istore_nN (L' := fun x2_2 => [some (.ref 239), some (.int x1), some (.int x2_2), some (.int x3)]) F dX11_lettersOf_24 rfl (lt_b rfl) (fun _ => rfl) (fun x2_2 => ?_)
      exact b_X11_lettersOf_25 M0 hk4 x1 x2_2 x3 q_1.2
def f_X11_lettersOf_4 : Nat → Int32 → Int32 → Int32 → Mm → Option (Int32 × Mm) :=
  itr (fun _ _ _ _ => none) (fun k => f_X11_lettersOf_4b k)
theorem b_X11_lettersOf_4 {X : CX} {E : FE} (M0 : MF X E RX11 cX11_lettersOf 4 3 (some .int)) : ∀ (n : Nat) (x1 x2 x3 : Int32) (S : Mm), At X E false (mQi X Z1 E) 4 [some (.ref 239), some (.int x1), some (.int x2), some (.int x3)] [] Z1 S 0 0 (f_X11_lettersOf_4  n x1 x2 x3 S) := by
  intro n
  induction n with
  | zero => intros; exact a_none
  | succ n ih => intro x1 x2 x3 S; exact b_X11_lettersOf_4b M0 ih x1 x2 x3 S
def f_X11_lettersOf (p1 : Int32) (S : Mm) : Option (Int32 × Mm) :=
  f_X11_lettersOf_4 FU p1 (0 : Int32) (0 : Int32) S
set_option maxRecDepth 20000 in
theorem b_X11_lettersOf {X : CX} {E : FE} (M0 : MF X E RX11 cX11_lettersOf 4 3 (some .int)) (p1 : Int32) (S : Mm) : At X E false (mQi X Z1 E) 0 [some (.ref 239), some (.int p1), none, none] [] Z1 S 0 0 (f_X11_lettersOf p1 S) := by
  have F := M0.1
  unfold f_X11_lettersOf
  refine a_iconst F dX11_lettersOf_0 ki_0 ?_
  refine a_istore_n (L' := [some (.ref 239), some (.int p1), some (.int (0 : Int32)), none]) F dX11_lettersOf_1 rfl (lt_b rfl) rfl ?_
  refine a_iconst F dX11_lettersOf_2 ki_0 ?_
  refine a_istore_n (L' := [some (.ref 239), some (.int p1), some (.int (0 : Int32)), some (.int (0 : Int32))]) F dX11_lettersOf_3 rfl (lt_b rfl) rfl ?_
  exact b_X11_lettersOf_4 M0 FU p1 (0 : Int32) (0 : Int32) S
theorem c_X11_lettersOf (X : CX) (p1 : Int32) (S : Mm) : CtI X Z1 yX11_lettersOf cX11_lettersOf 4 (some .int) 3 [.ref 239, .int p1] S (f_X11_lettersOf p1 S) :=
  ctI_of (by decide +kernel) rfl (Nat.le_of_ble_eq_true rfl) (by simp [Value.category]) z1len fun E F R hra hlk => b_X11_lettersOf ⟨F, R, hra, hlk⟩ p1 S
def f_X11_findsHands_30 (k2 : Int32 → Mm → Option Mm) (x1 t1 t2 : Int32) (S : Mm) : Option Mm :=
  gd (inB t1 12 = true) <|
  nm (uM S 267 (ix t1) t2) fun S_1 =>
  nm (x1 + (1 : Int32)) fun x1_2 =>
  k2 x1_2 S_1
set_option maxRecDepth 20000 in
theorem b_X11_findsHands_30 {X : CX} {E : FE} (M0 : MF X E RX11 cX11_findsHands 2 4 none) {k2 : Int32 → Mm → Option Mm} (hk2 : ∀ (x1 : Int32) (S : Mm), At X E false (mQv X Z1 E) 2 [some (.ref 239), some (.int x1)] [] Z1 S 0 0 (k2 x1 S)) (x1 t1 t2 : Int32) (S : Mm) : At X E false (mQv X Z1 E) 30 [some (.ref 239), some (.int x1)] [.int t2, .int t1, .ref 267] Z1 S 0 0 (f_X11_findsHands_30 k2 x1 t1 t2 S) := by
  have F := M0.1
  unfold f_X11_findsHands_30
  refine a_gd (a_iast F dX11_findsHands_30 zl_267 zk_267 ?_)
  refine a_nmS (fun S_1 => ?_)
  refine a_iincN (L' := fun x1_2 => [some (.ref 239), some (.int x1_2)]) F dX11_findsHands_31 rfl ki_1 (lt_b rfl) (fun _ => rfl) (fun x1_2 => ?_)
  refine a_goto F 2 dX11_findsHands_34 (by decide) ?_
  exact hk2 x1_2 S_1
def f_X11_findsHands_2b (k2 : Int32 → Mm → Option Mm) (x1 : Int32) (S : Mm) : Option Mm :=
  if (12 : Int32) ≤ x1 then (
   some S
  ) else (
   if (S 239 6) ≤ x1 then (
    f_X11_findsHands_30 k2 x1 x1 (0 : Int32) S
   ) else (
    (f_X11_lettersOf x1 S).bind fun q_1 =>
    f_X11_findsHands_30 k2 x1 x1 q_1.1 q_1.2
   )
  )
set_option maxRecDepth 20000 in
theorem b_X11_findsHands_2b {X : CX} {E : FE} (M0 : MF X E RX11 cX11_findsHands 2 4 none) {k2 : Int32 → Mm → Option Mm} (hk2 : ∀ (x1 : Int32) (S : Mm), At X E false (mQv X Z1 E) 2 [some (.ref 239), some (.int x1)] [] Z1 S 0 0 (k2 x1 S)) (x1 : Int32) (S : Mm) : At X E false (mQv X Z1 E) 2 [some (.ref 239), some (.int x1)] [] Z1 S 0 0 (f_X11_findsHands_2b k2 x1 S) := by
  have F := M0.1
  unfold f_X11_findsHands_2b
  refine a_iload_n F dX11_findsHands_2 rfl rfl ?_
  refine a_bipush F dX11_findsHands_3 kb_12 ?_
  refine a_icmp_ge F 37 dX11_findsHands_5 (by decide) ?_ ?_
  · exact a_vret F M0.2.2.1 M0.2.2.2 dX11_findsHands_37
  · refine a_aload_n F dX11_findsHands_8 rfl rfl ?_
    refine a_getR (k := 46) F cfX11 dX11_findsHands_9 fl_X11_95 (by decide) fi_11_46 zl_239 zk_239 zr_239_46 ?_
    refine a_iload_n F dX11_findsHands_12 rfl rfl ?_
    refine a_iload_n F dX11_findsHands_13 rfl rfl ?_
    refine a_aload_n F dX11_findsHands_14 rfl rfl ?_
    refine a_getI (k := 6) F cfX11 dX11_findsHands_15 fl_X11_122 (by decide) fi_11_6 zl_239 zk_239 ?_
    refine a_icmp_ge F 29 dX11_findsHands_18 (by decide) ?_ ?_
    · refine a_iconst F dX11_findsHands_29 ki_0 ?_
      exact b_X11_findsHands_30 M0 hk2 x1 x1 (0 : Int32) S
    · refine a_aload_n F dX11_findsHands_21 rfl rfl ?_
      refine a_iload_n F dX11_findsHands_22 rfl rfl ?_
      refine a_callVI F (As := [.int x1]) cfX11 rfl (c_X11_lettersOf X x1 S) mw_X11_lettersOf ml_X11_321 im_X11_lettersOf se_X11_lettersOf M0.2.1 (Nat.le_of_ble_eq_true rfl) ⟨Nat.zero_le _, Nat.zero_le _⟩ rfl rfl (Nat.le_of_ble_eq_true rfl) zl_239 zk_239 dX11_findsHands_23 rfl (fun q_1 => ?_)
      refine a_goto F 30 dX11_findsHands_26 (by decide) ?_
      exact b_X11_findsHands_30 M0 hk2 x1 x1 q_1.1 q_1.2
def f_X11_findsHands_2 : Nat → Int32 → Mm → Option Mm :=
  itr (fun _ _ => none) (fun k => f_X11_findsHands_2b k)
theorem b_X11_findsHands_2 {X : CX} {E : FE} (M0 : MF X E RX11 cX11_findsHands 2 4 none) : ∀ (n : Nat) (x1 : Int32) (S : Mm), At X E false (mQv X Z1 E) 2 [some (.ref 239), some (.int x1)] [] Z1 S 0 0 (f_X11_findsHands_2  n x1 S) := by
  intro n
  induction n with
  | zero => intros; exact a_none
  | succ n ih => intro x1 S; exact b_X11_findsHands_2b M0 ih x1 S
def f_X11_findsHands (S : Mm) : Option Mm :=
  f_X11_findsHands_2 FU (0 : Int32) S
set_option maxRecDepth 20000 in
theorem b_X11_findsHands {X : CX} {E : FE} (M0 : MF X E RX11 cX11_findsHands 2 4 none) (S : Mm) : At X E false (mQv X Z1 E) 0 [some (.ref 239), none] [] Z1 S 0 0 (f_X11_findsHands S) := by
  have F := M0.1
  unfold f_X11_findsHands
  refine a_iconst F dX11_findsHands_0 ki_0 ?_
  refine a_istore_n (L' := [some (.ref 239), some (.int (0 : Int32))]) F dX11_findsHands_1 rfl (lt_b rfl) rfl ?_
  exact b_X11_findsHands_2 M0 FU (0 : Int32) S
theorem c_X11_findsHands (X : CX) (S : Mm) : CtV X Z1 yX11_findsHands cX11_findsHands 2 4 [.ref 239] S (f_X11_findsHands S) :=
  ctV_of (by decide +kernel) rfl (Nat.le_of_ble_eq_true rfl) (by simp [Value.category]) z1len fun E F R hra hlk => b_X11_findsHands ⟨F, R, hra, hlk⟩ S
def f_X11_aloneOf_31 (k4 : Int32 → Int32 → Int32 → Mm → Option (Int32 × Mm)) (x1 x2 x3 : Int32) (S : Mm) : Option (Int32 × Mm) :=
  nm (x3 + (1 : Int32)) fun x3_1 =>
  k4 x1 x2 x3_1 S
set_option maxRecDepth 20000 in
theorem b_X11_aloneOf_31 {X : CX} {E : FE} (M0 : MF X E RX11 cX11_aloneOf 4 1 (some .int)) {k4 : Int32 → Int32 → Int32 → Mm → Option (Int32 × Mm)} (hk4 : ∀ (x1 x2 x3 : Int32) (S : Mm), At X E false (mQi X Z1 E) 4 [some (.ref 239), some (.int x1), some (.int x2), some (.int x3)] [] Z1 S 0 0 (k4 x1 x2 x3 S)) (x1 x2 x3 : Int32) (S : Mm) : At X E false (mQi X Z1 E) 31 [some (.ref 239), some (.int x1), some (.int x2), some (.int x3)] [] Z1 S 0 0 (f_X11_aloneOf_31 k4 x1 x2 x3 S) := by
  have F := M0.1
  unfold f_X11_aloneOf_31
  refine a_iincN (L' := fun x3_1 => [some (.ref 239), some (.int x1), some (.int x2), some (.int x3_1)]) F dX11_aloneOf_31 rfl ki_1 (lt_b rfl) (fun _ => rfl) (fun x3_1 => ?_)
  refine a_goto F 4 dX11_aloneOf_34 (by decide) ?_
  exact hk4 x1 x2 x3_1 S
def f_X11_aloneOf_4b (k4 : Int32 → Int32 → Int32 → Mm → Option (Int32 × Mm)) (x1 x2 x3 : Int32) (S : Mm) : Option (Int32 × Mm) :=
  if (S 239 6) ≤ x3 then (
   some (x2, S)
  ) else (
   gd (inB x3 12 = true) <|
   if (x1 &&& ((S 267 (ix x3)) ^^^ (-1 : Int32))) = 0 then (
    nm ((x2 ||| (shl (1 : Int32) x3))) fun x2_1 =>
    f_X11_aloneOf_31 k4 x1 x2_1 x3 S
   ) else (
    f_X11_aloneOf_31 k4 x1 x2 x3 S
   )
  )
set_option maxRecDepth 20000 in
theorem b_X11_aloneOf_4b {X : CX} {E : FE} (M0 : MF X E RX11 cX11_aloneOf 4 1 (some .int)) {k4 : Int32 → Int32 → Int32 → Mm → Option (Int32 × Mm)} (hk4 : ∀ (x1 x2 x3 : Int32) (S : Mm), At X E false (mQi X Z1 E) 4 [some (.ref 239), some (.int x1), some (.int x2), some (.int x3)] [] Z1 S 0 0 (k4 x1 x2 x3 S)) (x1 x2 x3 : Int32) (S : Mm) : At X E false (mQi X Z1 E) 4 [some (.ref 239), some (.int x1), some (.int x2), some (.int x3)] [] Z1 S 0 0 (f_X11_aloneOf_4b k4 x1 x2 x3 S) := by
  have F := M0.1
  unfold f_X11_aloneOf_4b
  refine a_iload_n F dX11_aloneOf_4 rfl rfl ?_
  refine a_aload_n F dX11_aloneOf_5 rfl rfl ?_
  refine a_getI (k := 6) F cfX11 dX11_aloneOf_6 fl_X11_122 (by decide) fi_11_6 zl_239 zk_239 ?_
  refine a_icmp_ge F 37 dX11_aloneOf_9 (by decide) ?_ ?_
  · refine a_iload_n F dX11_aloneOf_37 rfl rfl ?_
    exact a_iret F M0.2.2.1 M0.2.2.2 dX11_aloneOf_38
  · refine a_iload_n F dX11_aloneOf_12 rfl rfl ?_
    refine a_aload_n F dX11_aloneOf_13 rfl rfl ?_
    refine a_getR (k := 46) F cfX11 dX11_aloneOf_14 fl_X11_95 (by decide) fi_11_46 zl_239 zk_239 zr_239_46 ?_
    refine a_iload_n F dX11_aloneOf_17 rfl rfl ?_
    refine a_gd (a_iald F dX11_aloneOf_18 zl_267 zk_267 ?_)
    refine a_iconst F dX11_aloneOf_19 ki_m1 ?_
    refine a_ixor F dX11_aloneOf_20 ?_
    refine a_iand F dX11_aloneOf_21 ?_
    refine a_if_ne F 31 dX11_aloneOf_22 (by decide) ?_ ?_
    · refine a_iload_n F dX11_aloneOf_25 rfl rfl ?_
      refine a_iconst F dX11_aloneOf_26 ki_1 ?_
      refine a_iload_n F dX11_aloneOf_27 rfl rfl ?_
      refine a_ishl F dX11_aloneOf_28 ?_
      refine a_ior F dX11_aloneOf_29 ?_
      refine a_istore_nN (L' := fun x2_1 => [some (.ref 239), some (.int x1), some (.int x2_1), some (.int x3)]) F dX11_aloneOf_30 rfl (lt_b rfl) (fun _ => rfl) (fun x2_1 => ?_)
      exact b_X11_aloneOf_31 M0 hk4 x1 x2_1 x3 S
    · exact b_X11_aloneOf_31 M0 hk4 x1 x2 x3 S
def f_X11_aloneOf_4 : Nat → Int32 → Int32 → Int32 → Mm → Option (Int32 × Mm) :=
  itr (fun _ _ _ _ => none) (fun k => f_X11_aloneOf_4b k)
theorem b_X11_aloneOf_4 {X : CX} {E : FE} (M0 : MF X E RX11 cX11_aloneOf 4 1 (some .int)) : ∀ (n : Nat) (x1 x2 x3 : Int32) (S : Mm), At X E false (mQi X Z1 E) 4 [some (.ref 239), some (.int x1), some (.int x2), some (.int x3)] [] Z1 S 0 0 (f_X11_aloneOf_4  n x1 x2 x3 S) := by
  intro n
  induction n with
  | zero => intros; exact a_none
  | succ n ih => intro x1 x2 x3 S; exact b_X11_aloneOf_4b M0 ih x1 x2 x3 S
def f_X11_aloneOf (p1 : Int32) (S : Mm) : Option (Int32 × Mm) :=
  f_X11_aloneOf_4 FU p1 (0 : Int32) (0 : Int32) S
set_option maxRecDepth 20000 in
theorem b_X11_aloneOf {X : CX} {E : FE} (M0 : MF X E RX11 cX11_aloneOf 4 1 (some .int)) (p1 : Int32) (S : Mm) : At X E false (mQi X Z1 E) 0 [some (.ref 239), some (.int p1), none, none] [] Z1 S 0 0 (f_X11_aloneOf p1 S) := by
  have F := M0.1
  unfold f_X11_aloneOf
  refine a_iconst F dX11_aloneOf_0 ki_0 ?_
  refine a_istore_n (L' := [some (.ref 239), some (.int p1), some (.int (0 : Int32)), none]) F dX11_aloneOf_1 rfl (lt_b rfl) rfl ?_
  refine a_iconst F dX11_aloneOf_2 ki_0 ?_
  refine a_istore_n (L' := [some (.ref 239), some (.int p1), some (.int (0 : Int32)), some (.int (0 : Int32))]) F dX11_aloneOf_3 rfl (lt_b rfl) rfl ?_
  exact b_X11_aloneOf_4 M0 FU p1 (0 : Int32) (0 : Int32) S
theorem c_X11_aloneOf (X : CX) (p1 : Int32) (S : Mm) : CtI X Z1 yX11_aloneOf cX11_aloneOf 4 (some .int) 1 [.ref 239, .int p1] S (f_X11_aloneOf p1 S) :=
  ctI_of (by decide +kernel) rfl (Nat.le_of_ble_eq_true rfl) (by simp [Value.category]) z1len fun E F R hra hlk => b_X11_aloneOf ⟨F, R, hra, hlk⟩ p1 S
def f_X11_spokenDeeds_35 (k8 : Int32 → Int32 → Mm → Option (Int32 × Mm)) (x1 x2 : Int32) (S : Mm) : Option (Int32 × Mm) :=
  nm (x2 + (1 : Int32)) fun x2_1 =>
  k8 x1 x2_1 S
set_option maxRecDepth 20000 in
theorem b_X11_spokenDeeds_35 {X : CX} {E : FE} (M0 : MF X E RX11 cX11_spokenDeeds 3 5 (some .int)) {k8 : Int32 → Int32 → Mm → Option (Int32 × Mm)} (hk8 : ∀ (x1 x2 : Int32) (S : Mm), At X E false (mQi X Z1 E) 8 [some (.ref 239), some (.int x1), some (.int x2)] [] Z1 S 0 0 (k8 x1 x2 S)) (x1 x2 : Int32) (S : Mm) : At X E false (mQi X Z1 E) 35 [some (.ref 239), some (.int x1), some (.int x2)] [] Z1 S 0 0 (f_X11_spokenDeeds_35 k8 x1 x2 S) := by
  have F := M0.1
  unfold f_X11_spokenDeeds_35
  refine a_iincN (L' := fun x2_1 => [some (.ref 239), some (.int x1), some (.int x2_1)]) F dX11_spokenDeeds_35 rfl ki_1 (lt_b rfl) (fun _ => rfl) (fun x2_1 => ?_)
  refine a_goto F 8 dX11_spokenDeeds_38 (by decide) ?_
  exact hk8 x1 x2_1 S
def f_X11_spokenDeeds_8b (k8 : Int32 → Int32 → Mm → Option (Int32 × Mm)) (x1 x2 : Int32) (S : Mm) : Option (Int32 × Mm) :=
  if (S 239 40) ≤ x2 then (
   some (x1, S)
  ) else (
   gd (inB x2 8 = true) <|
   (f_X11_aloneOf (S 263 (ix x2)) S).bind fun q_1 =>
   if q_1.1 = 0 then (
    f_X11_spokenDeeds_35 k8 x1 x2 q_1.2
   ) else (
    nm ((x1 ||| (shl (1 : Int32) x2))) fun x1_2 =>
    f_X11_spokenDeeds_35 k8 x1_2 x2 q_1.2
   )
  )
set_option maxRecDepth 20000 in
theorem b_X11_spokenDeeds_8b {X : CX} {E : FE} (M0 : MF X E RX11 cX11_spokenDeeds 3 5 (some .int)) {k8 : Int32 → Int32 → Mm → Option (Int32 × Mm)} (hk8 : ∀ (x1 x2 : Int32) (S : Mm), At X E false (mQi X Z1 E) 8 [some (.ref 239), some (.int x1), some (.int x2)] [] Z1 S 0 0 (k8 x1 x2 S)) (x1 x2 : Int32) (S : Mm) : At X E false (mQi X Z1 E) 8 [some (.ref 239), some (.int x1), some (.int x2)] [] Z1 S 0 0 (f_X11_spokenDeeds_8b k8 x1 x2 S) := by
  have F := M0.1
  unfold f_X11_spokenDeeds_8b
  refine a_iload_n F dX11_spokenDeeds_8 rfl rfl ?_
  refine a_aload_n F dX11_spokenDeeds_9 rfl rfl ?_
  refine a_getI (k := 40) F cfX11 dX11_spokenDeeds_10 fl_X11_125 (by decide) fi_11_40 zl_239 zk_239 ?_
  refine a_icmp_ge F 41 dX11_spokenDeeds_13 (by decide) ?_ ?_
  · refine a_iload_n F dX11_spokenDeeds_41 rfl rfl ?_
    exact a_iret F M0.2.2.1 M0.2.2.2 dX11_spokenDeeds_42
  · refine a_aload_n F dX11_spokenDeeds_16 rfl rfl ?_
    refine a_aload_n F dX11_spokenDeeds_17 rfl rfl ?_
    refine a_getR (k := 42) F cfX11 dX11_spokenDeeds_18 fl_X11_83 (by decide) fi_11_42 zl_239 zk_239 zr_239_42 ?_
    refine a_iload_n F dX11_spokenDeeds_21 rfl rfl ?_
    refine a_gd (a_iald F dX11_spokenDeeds_22 zl_263 zk_263 ?_)
    refine a_callVI F (As := [.int (S 263 (ix x2))]) cfX11 rfl (c_X11_aloneOf X (S 263 (ix x2)) S) mw_X11_aloneOf ml_X11_405 im_X11_aloneOf se_X11_aloneOf M0.2.1 (Nat.le_of_ble_eq_true rfl) ⟨Nat.zero_le _, Nat.zero_le _⟩ rfl rfl (Nat.le_of_ble_eq_true rfl) zl_239 zk_239 dX11_spokenDeeds_23 rfl (fun q_1 => ?_)
    refine a_if_eq F 35 dX11_spokenDeeds_26 (by decide) ?_ ?_
    · exact b_X11_spokenDeeds_35 M0 hk8 x1 x2 q_1.2
    · refine a_iload_n F dX11_spokenDeeds_29 rfl rfl ?_
      refine a_iconst F dX11_spokenDeeds_30 ki_1 ?_
      refine a_iload_n F dX11_spokenDeeds_31 rfl rfl ?_
      refine a_ishl F dX11_spokenDeeds_32 ?_
      refine a_ior F dX11_spokenDeeds_33 ?_
      refine a_istore_nN (L' := fun x1_2 => [some (.ref 239), some (.int x1_2), some (.int x2)]) F dX11_spokenDeeds_34 rfl (lt_b rfl) (fun _ => rfl) (fun x1_2 => ?_)
      exact b_X11_spokenDeeds_35 M0 hk8 x1_2 x2 q_1.2
def f_X11_spokenDeeds_8 : Nat → Int32 → Int32 → Mm → Option (Int32 × Mm) :=
  itr (fun _ _ _ => none) (fun k => f_X11_spokenDeeds_8b k)
theorem b_X11_spokenDeeds_8 {X : CX} {E : FE} (M0 : MF X E RX11 cX11_spokenDeeds 3 5 (some .int)) : ∀ (n : Nat) (x1 x2 : Int32) (S : Mm), At X E false (mQi X Z1 E) 8 [some (.ref 239), some (.int x1), some (.int x2)] [] Z1 S 0 0 (f_X11_spokenDeeds_8  n x1 x2 S) := by
  intro n
  induction n with
  | zero => intros; exact a_none
  | succ n ih => intro x1 x2 S; exact b_X11_spokenDeeds_8b M0 ih x1 x2 S
def f_X11_spokenDeeds (S : Mm) : Option (Int32 × Mm) :=
  (f_X11_findsHands S).bind fun S_1 =>
  f_X11_spokenDeeds_8 FU (0 : Int32) (0 : Int32) S_1
set_option maxRecDepth 20000 in
theorem b_X11_spokenDeeds {X : CX} {E : FE} (M0 : MF X E RX11 cX11_spokenDeeds 3 5 (some .int)) (S : Mm) : At X E false (mQi X Z1 E) 0 [some (.ref 239), none, none] [] Z1 S 0 0 (f_X11_spokenDeeds S) := by
  have F := M0.1
  unfold f_X11_spokenDeeds
  refine a_aload_n F dX11_spokenDeeds_0 rfl rfl ?_
  refine a_callVV F (As := []) cfX11 rfl (c_X11_findsHands X S) mw_X11_findsHands ml_X11_375 im_X11_findsHands se_X11_findsHands M0.2.1 (Nat.le_of_ble_eq_true rfl) ⟨Nat.zero_le _, Nat.zero_le _⟩ rfl rfl (Nat.le_of_ble_eq_true rfl) zl_239 zk_239 dX11_spokenDeeds_1 rfl (fun S_1 => ?_)
  refine a_iconst F dX11_spokenDeeds_4 ki_0 ?_
  refine a_istore_n (L' := [some (.ref 239), some (.int (0 : Int32)), none]) F dX11_spokenDeeds_5 rfl (lt_b rfl) rfl ?_
  refine a_iconst F dX11_spokenDeeds_6 ki_0 ?_
  refine a_istore_n (L' := [some (.ref 239), some (.int (0 : Int32)), some (.int (0 : Int32))]) F dX11_spokenDeeds_7 rfl (lt_b rfl) rfl ?_
  exact b_X11_spokenDeeds_8 M0 FU (0 : Int32) (0 : Int32) S_1
theorem c_X11_spokenDeeds (X : CX) (S : Mm) : CtI X Z1 yX11_spokenDeeds cX11_spokenDeeds 3 (some .int) 5 [.ref 239] S (f_X11_spokenDeeds S) :=
  ctI_of (by decide +kernel) rfl (Nat.le_of_ble_eq_true rfl) (by simp [Value.category]) z1len fun E F R hra hlk => b_X11_spokenDeeds ⟨F, R, hra, hlk⟩ S
def f_X11_ones_4b (k4 : Int32 → Int32 → Mm → Option (Int32 × Mm)) (x2 x3 : Int32) (S : Mm) : Option (Int32 × Mm) :=
  if x3 = 0 then (
   some (x2, S)
  ) else (
   nm ((x2 + (1 : Int32))) fun x2_1 =>
   nm ((x3 &&& (x3 - (1 : Int32)))) fun x3_2 =>
   k4 x2_1 x3_2 S
  )
set_option maxRecDepth 20000 in
theorem b_X11_ones_4b {X : CX} {E : FE} (M0 : MF X E RX11 cX11_ones 4 1 (some .int)) {k4 : Int32 → Int32 → Mm → Option (Int32 × Mm)} (hk4 : ∀ (x2 x3 : Int32) (S : Mm), At X E false (mQi X Z1 E) 4 [none, none, some (.int x2), some (.int x3)] [] Z1 S 0 0 (k4 x2 x3 S)) (x2 x3 : Int32) (S : Mm) : At X E false (mQi X Z1 E) 4 [none, none, some (.int x2), some (.int x3)] [] Z1 S 0 0 (f_X11_ones_4b k4 x2 x3 S) := by
  have F := M0.1
  unfold f_X11_ones_4b
  refine a_iload_n F dX11_ones_4 rfl rfl ?_
  refine a_if_eq F 21 dX11_ones_5 (by decide) ?_ ?_
  · refine a_iload_n F dX11_ones_21 rfl rfl ?_
    exact a_iret F M0.2.2.1 M0.2.2.2 dX11_ones_22
  · refine a_iload_n F dX11_ones_8 rfl rfl ?_
    refine a_iconst F dX11_ones_9 ki_1 ?_
    refine a_iadd F dX11_ones_10 ?_
    refine a_istore_nN (L' := fun x2_1 => [none, none, some (.int x2_1), some (.int x3)]) F dX11_ones_11 rfl (lt_b rfl) (fun _ => rfl) (fun x2_1 => ?_)
    refine a_iload_n F dX11_ones_12 rfl rfl ?_
    refine a_iload_n F dX11_ones_13 rfl rfl ?_
    refine a_iconst F dX11_ones_14 ki_1 ?_
    refine a_isub F dX11_ones_15 ?_
    refine a_iand F dX11_ones_16 ?_
    refine a_istore_nN (L' := fun x3_2 => [none, none, some (.int x2_1), some (.int x3_2)]) F dX11_ones_17 rfl (lt_b rfl) (fun _ => rfl) (fun x3_2 => ?_)
    refine a_goto F 4 dX11_ones_18 (by decide) ?_
    exact hk4 x2_1 x3_2 S
def f_X11_ones_4 : Nat → Int32 → Int32 → Mm → Option (Int32 × Mm) :=
  itr (fun _ _ _ => none) (fun k => f_X11_ones_4b k)
theorem b_X11_ones_4 {X : CX} {E : FE} (M0 : MF X E RX11 cX11_ones 4 1 (some .int)) : ∀ (n : Nat) (x2 x3 : Int32) (S : Mm), At X E false (mQi X Z1 E) 4 [none, none, some (.int x2), some (.int x3)] [] Z1 S 0 0 (f_X11_ones_4  n x2 x3 S) := by
  intro n
  induction n with
  | zero => intros; exact a_none
  | succ n ih => intro x2 x3 S; exact b_X11_ones_4b M0 ih x2 x3 S
def f_X11_ones (p1 : Int32) (S : Mm) : Option (Int32 × Mm) :=
  f_X11_ones_4 FU (0 : Int32) p1 S
set_option maxRecDepth 20000 in
theorem b_X11_ones {X : CX} {E : FE} (M0 : MF X E RX11 cX11_ones 4 1 (some .int)) (p1 : Int32) (S : Mm) : At X E false (mQi X Z1 E) 0 [some (.ref 239), some (.int p1), none, none] [] Z1 S 0 0 (f_X11_ones p1 S) := by
  have F := M0.1
  unfold f_X11_ones
  refine a_iconst F dX11_ones_0 ki_0 ?_
  refine a_istore_n (L' := [some (.ref 239), some (.int p1), some (.int (0 : Int32)), none]) F dX11_ones_1 rfl (lt_b rfl) rfl ?_
  refine a_iload_n F dX11_ones_2 rfl rfl ?_
  refine a_istore_n (L' := [some (.ref 239), some (.int p1), some (.int (0 : Int32)), some (.int p1)]) F dX11_ones_3 rfl (lt_b rfl) rfl ?_
  refine a_mask [false, false, true, true] (L' := [none, none, some (.int (0 : Int32)), some (.int p1)]) rfl rfl ?_
  exact b_X11_ones_4 M0 FU (0 : Int32) p1 S
theorem c_X11_ones (X : CX) (p1 : Int32) (S : Mm) : CtI X Z1 yX11_ones cX11_ones 4 (some .int) 1 [.ref 239, .int p1] S (f_X11_ones p1 S) :=
  ctI_of (by decide +kernel) rfl (Nat.le_of_ble_eq_true rfl) (by simp [Value.category]) z1len fun E F R hra hlk => b_X11_ones ⟨F, R, hra, hlk⟩ p1 S
def f_X11_areNear (p1 p2 : Int32) (S : Mm) : Option Mm :=
  if p1 = (-1 : Int32) then (
   some S
  ) else (
   if p2 = (-1 : Int32) then (
    some S
   ) else (
    gd (inB (((12 : Int32) * p1) + p2) 144 = true) <|
    nm (uM S 249 (ix (((12 : Int32) * p1) + p2)) (1 : Int32)) fun S_1 =>
    gd (inB (((12 : Int32) * p2) + p1) 144 = true) <|
    nm (uM S_1 249 (ix (((12 : Int32) * p2) + p1)) (1 : Int32)) fun S_2 =>
    some S_2
   )
  )
set_option maxRecDepth 20000 in
theorem b_X11_areNear {X : CX} {E : FE} (M0 : MF X E RX11 cX11_areNear 3 1 none) (p1 p2 : Int32) (S : Mm) : At X E false (mQv X Z1 E) 0 [some (.ref 239), some (.int p1), some (.int p2)] [] Z1 S 0 0 (f_X11_areNear p1 p2 S) := by
  have F := M0.1
  unfold f_X11_areNear
  refine a_iload_n F dX11_areNear_0 rfl rfl ?_
  refine a_iconst F dX11_areNear_1 ki_m1 ?_
  refine a_icmp_eq F 10 dX11_areNear_2 (by decide) ?_ ?_
  · exact a_vret F M0.2.2.1 M0.2.2.2 dX11_areNear_10
  · refine a_iload_n F dX11_areNear_5 rfl rfl ?_
    refine a_iconst F dX11_areNear_6 ki_m1 ?_
    refine a_icmp_ne F 11 dX11_areNear_7 (by decide) ?_ ?_
    · exact a_vret F M0.2.2.1 M0.2.2.2 dX11_areNear_10
    · refine a_aload_n F dX11_areNear_11 rfl rfl ?_
      refine a_getR (k := 14) F cfX11 dX11_areNear_12 fl_X11_37 (by decide) fi_11_14 zl_239 zk_239 zr_239_14 ?_
      refine a_bipush F dX11_areNear_15 kb_12 ?_
      refine a_iload_n F dX11_areNear_17 rfl rfl ?_
      refine a_imul F dX11_areNear_18 ?_
      refine a_iload_n F dX11_areNear_19 rfl rfl ?_
      refine a_iadd F dX11_areNear_20 ?_
      refine a_iconst F dX11_areNear_21 ki_1 ?_
      refine a_gd (a_iast F dX11_areNear_22 zl_249 zk_249 ?_)
      refine a_nmS (fun S_1 => ?_)
      refine a_aload_n F dX11_areNear_23 rfl rfl ?_
      refine a_getR (k := 14) F cfX11 dX11_areNear_24 fl_X11_37 (by decide) fi_11_14 zl_239 zk_239 zr_239_14 ?_
      refine a_bipush F dX11_areNear_27 kb_12 ?_
      refine a_iload_n F dX11_areNear_29 rfl rfl ?_
      refine a_imul F dX11_areNear_30 ?_
      refine a_iload_n F dX11_areNear_31 rfl rfl ?_
      refine a_iadd F dX11_areNear_32 ?_
      refine a_iconst F dX11_areNear_33 ki_1 ?_
      refine a_gd (a_iast F dX11_areNear_34 zl_249 zk_249 ?_)
      refine a_nmS (fun S_2 => ?_)
      exact a_vret F M0.2.2.1 M0.2.2.2 dX11_areNear_35
theorem c_X11_areNear (X : CX) (p1 p2 : Int32) (S : Mm) : CtV X Z1 yX11_areNear cX11_areNear 3 1 [.ref 239, .int p1, .int p2] S (f_X11_areNear p1 p2 S) :=
  ctV_of (by decide +kernel) rfl (Nat.le_of_ble_eq_true rfl) (by simp [Value.category]) z1len fun E F R hra hlk => b_X11_areNear ⟨F, R, hra, hlk⟩ p1 p2 S
def f_X11_spouseOf (p1 : Int32) (S : Mm) : Option (Int32 × Mm) :=
  gd (inB ((112 : Int32) + p1) 148 = true) <|
  some (((S 240 (ix ((112 : Int32) + p1))) - (1 : Int32)), S)
set_option maxRecDepth 20000 in
theorem b_X11_spouseOf {X : CX} {E : FE} (M0 : MF X E RX11 cX11_spouseOf 2 1 (some .int)) (p1 : Int32) (S : Mm) : At X E false (mQi X Z1 E) 0 [some (.ref 239), some (.int p1)] [] Z1 S 0 0 (f_X11_spouseOf p1 S) := by
  have F := M0.1
  unfold f_X11_spouseOf
  refine a_aload_n F dX11_spouseOf_0 rfl rfl ?_
  refine a_getR (k := 1) F cfX11 dX11_spouseOf_1 fl_X11_7 (by decide) fi_11_1 zl_239 zk_239 zr_239_1 ?_
  refine a_bipush F dX11_spouseOf_4 kb_112 ?_
  refine a_iload_n F dX11_spouseOf_6 rfl rfl ?_
  refine a_iadd F dX11_spouseOf_7 ?_
  refine a_gd (a_iald F dX11_spouseOf_8 zl_240 zk_240 ?_)
  refine a_iconst F dX11_spouseOf_9 ki_1 ?_
  refine a_isub F dX11_spouseOf_10 ?_
  exact a_iret F M0.2.2.1 M0.2.2.2 dX11_spouseOf_11
theorem c_X11_spouseOf (X : CX) (p1 : Int32) (S : Mm) : CtI X Z1 yX11_spouseOf cX11_spouseOf 2 (some .int) 1 [.ref 239, .int p1] S (f_X11_spouseOf p1 S) :=
  ctI_of (by decide +kernel) rfl (Nat.le_of_ble_eq_true rfl) (by simp [Value.category]) z1len fun E F R hra hlk => b_X11_spouseOf ⟨F, R, hra, hlk⟩ p1 S
def f_X11_findsKin_174 (k92 : Int32 → Mm → Option Mm) (k102 : Int32 → Int32 → Mm → Option Mm) (k112 : Int32 → Int32 → Int32 → Mm → Option Mm) (x1 x2 x3 : Int32) (S : Mm) : Option Mm :=
  nm (x3 + (1 : Int32)) fun x3_1 =>
  k112 x1 x2 x3_1 S
set_option maxRecDepth 20000 in
theorem b_X11_findsKin_174 {X : CX} {E : FE} (M0 : MF X E RX11 cX11_findsKin 5 2 none) {k92 : Int32 → Mm → Option Mm} (hk92 : ∀ (x1 : Int32) (S : Mm), At X E false (mQv X Z1 E) 92 [some (.ref 239), some (.int x1), none, none, none] [] Z1 S 0 0 (k92 x1 S)) {k102 : Int32 → Int32 → Mm → Option Mm} (hk102 : ∀ (x1 x2 : Int32) (S : Mm), At X E false (mQv X Z1 E) 102 [some (.ref 239), some (.int x1), some (.int x2), none, none] [] Z1 S 0 0 (k102 x1 x2 S)) {k112 : Int32 → Int32 → Int32 → Mm → Option Mm} (hk112 : ∀ (x1 x2 x3 : Int32) (S : Mm), At X E false (mQv X Z1 E) 112 [some (.ref 239), some (.int x1), some (.int x2), some (.int x3), none] [] Z1 S 0 0 (k112 x1 x2 x3 S)) (x1 x2 x3 : Int32) (S : Mm) : At X E false (mQv X Z1 E) 174 [some (.ref 239), some (.int x1), some (.int x2), some (.int x3), none] [] Z1 S 0 0 (f_X11_findsKin_174 k92 k102 k112 x1 x2 x3 S) := by
  have F := M0.1
  unfold f_X11_findsKin_174
  refine a_iincN (L' := fun x3_1 => [some (.ref 239), some (.int x1), some (.int x2), some (.int x3_1), none]) F dX11_findsKin_174 rfl ki_1 (lt_b rfl) (fun _ => rfl) (fun x3_1 => ?_)
  refine a_goto F 112 dX11_findsKin_177 (by decide) ?_
  exact hk112 x1 x2 x3_1 S
def f_X11_findsKin_112b (k92 : Int32 → Mm → Option Mm) (k102 : Int32 → Int32 → Mm → Option Mm) (k112 : Int32 → Int32 → Int32 → Mm → Option Mm) (x1 x2 x3 : Int32) (S : Mm) : Option Mm :=
  if (S 239 6) ≤ x3 then (
   nm (x2 + (1 : Int32)) fun x2_1 =>
   k102 x1 x2_1 S
  ) else (
   gd (inB (((12 : Int32) * x2) + x1) 144 = true) <|
   gd (inB (((12 : Int32) * x1) + x3) 144 = true) <|
   nm (((S 249 (ix (((12 : Int32) * x2) + x1))) + (S 249 (ix (((12 : Int32) * x1) + x3))))) fun x4_2 =>
   gd (inB (((12 : Int32) * x2) + x3) 144 = true) <|
   if (S 249 (ix (((12 : Int32) * x2) + x3))) ≤ x4_2 then (
    f_X11_findsKin_174 k92 k102 k112 x1 x2 x3 S
   ) else (
    gd (inB (((12 : Int32) * x2) + x3) 144 = true) <|
    nm (uM S 249 (ix (((12 : Int32) * x2) + x3)) x4_2) fun S_3 =>
    f_X11_findsKin_174 k92 k102 k112 x1 x2 x3 S_3
   )
  )
set_option maxRecDepth 20000 in
theorem b_X11_findsKin_112b {X : CX} {E : FE} (M0 : MF X E RX11 cX11_findsKin 5 2 none) {k92 : Int32 → Mm → Option Mm} (hk92 : ∀ (x1 : Int32) (S : Mm), At X E false (mQv X Z1 E) 92 [some (.ref 239), some (.int x1), none, none, none] [] Z1 S 0 0 (k92 x1 S)) {k102 : Int32 → Int32 → Mm → Option Mm} (hk102 : ∀ (x1 x2 : Int32) (S : Mm), At X E false (mQv X Z1 E) 102 [some (.ref 239), some (.int x1), some (.int x2), none, none] [] Z1 S 0 0 (k102 x1 x2 S)) {k112 : Int32 → Int32 → Int32 → Mm → Option Mm} (hk112 : ∀ (x1 x2 x3 : Int32) (S : Mm), At X E false (mQv X Z1 E) 112 [some (.ref 239), some (.int x1), some (.int x2), some (.int x3), none] [] Z1 S 0 0 (k112 x1 x2 x3 S)) (x1 x2 x3 : Int32) (S : Mm) : At X E false (mQv X Z1 E) 112 [some (.ref 239), some (.int x1), some (.int x2), some (.int x3), none] [] Z1 S 0 0 (f_X11_findsKin_112b k92 k102 k112 x1 x2 x3 S) := by
  have F := M0.1
  unfold f_X11_findsKin_112b
  refine a_iload_n F dX11_findsKin_112 rfl rfl ?_
  refine a_aload_n F dX11_findsKin_113 rfl rfl ?_
  refine a_getI (k := 6) F cfX11 dX11_findsKin_114 fl_X11_122 (by decide) fi_11_6 zl_239 zk_239 ?_
  refine a_icmp_ge F 180 dX11_findsKin_117 (by decide) ?_ ?_
  · refine a_iincN (L' := fun x2_1 => [some (.ref 239), some (.int x1), some (.int x2_1), some (.int x3), none]) F dX11_findsKin_180 rfl ki_1 (lt_b rfl) (fun _ => rfl) (fun x2_1 => ?_)
    refine a_goto F 102 dX11_findsKin_183 (by decide) ?_
    refine a_mask [true, true, true, false, false] (L' := [some (.ref 239), some (.int x1), some (.int x2_1), none, none]) rfl rfl ?_
    exact hk102 x1 x2_1 S
  · refine a_aload_n F dX11_findsKin_120 rfl rfl ?_
    refine a_getR (k := 14) F cfX11 dX11_findsKin_121 fl_X11_37 (by decide) fi_11_14 zl_239 zk_239 zr_239_14 ?_
    refine a_bipush F dX11_findsKin_124 kb_12 ?_
    refine a_iload_n F dX11_findsKin_126 rfl rfl ?_
    refine a_imul F dX11_findsKin_127 ?_
    refine a_iload_n F dX11_findsKin_128 rfl rfl ?_
    refine a_iadd F dX11_findsKin_129 ?_
    refine a_gd (a_iald F dX11_findsKin_130 zl_249 zk_249 ?_)
    refine a_aload_n F dX11_findsKin_131 rfl rfl ?_
    refine a_getR (k := 14) F cfX11 dX11_findsKin_132 fl_X11_37 (by decide) fi_11_14 zl_239 zk_239 zr_239_14 ?_
    refine a_bipush F dX11_findsKin_135 kb_12 ?_
    refine a_iload_n F dX11_findsKin_137 rfl rfl ?_
    refine a_imul F dX11_findsKin_138 ?_
    refine a_iload_n F dX11_findsKin_139 rfl rfl ?_
    refine a_iadd F dX11_findsKin_140 ?_
    refine a_gd (a_iald F dX11_findsKin_141 zl_249 zk_249 ?_)
    refine a_iadd F dX11_findsKin_142 ?_
    refine a_istoreN (L' := fun x4_2 => [some (.ref 239), some (.int x1), some (.int x2), some (.int x3), some (.int x4_2)]) F dX11_findsKin_143 (lt_b rfl) (fun _ => rfl) (fun x4_2 => ?_)
    refine a_iload F dX11_findsKin_145 rfl ?_
    refine a_aload_n F dX11_findsKin_147 rfl rfl ?_
    refine a_getR (k := 14) F cfX11 dX11_findsKin_148 fl_X11_37 (by decide) fi_11_14 zl_239 zk_239 zr_239_14 ?_
    refine a_bipush F dX11_findsKin_151 kb_12 ?_
    refine a_iload_n F dX11_findsKin_153 rfl rfl ?_
    refine a_imul F dX11_findsKin_154 ?_
    refine a_iload_n F dX11_findsKin_155 rfl rfl ?_
    refine a_iadd F dX11_findsKin_156 ?_
    refine a_gd (a_iald F dX11_findsKin_157 zl_249 zk_249 ?_)
    refine a_icmp_ge F 174 dX11_findsKin_158 (by decide) ?_ ?_
    · refine a_mask [true, true, true, true, false] (L' := [some (.ref 239), some (.int x1), some (.int x2), some (.int x3), none]) rfl rfl ?_
      exact b_X11_findsKin_174 M0 hk92 hk102 hk112 x1 x2 x3 S
    · refine a_aload_n F dX11_findsKin_161 rfl rfl ?_
      refine a_getR (k := 14) F cfX11 dX11_findsKin_162 fl_X11_37 (by decide) fi_11_14 zl_239 zk_239 zr_239_14 ?_
      refine a_bipush F dX11_findsKin_165 kb_12 ?_
      refine a_iload_n F dX11_findsKin_167 rfl rfl ?_
      refine a_imul F dX11_findsKin_168 ?_
      refine a_iload_n F dX11_findsKin_169 rfl rfl ?_
      refine a_iadd F dX11_findsKin_170 ?_
      refine a_iload F dX11_findsKin_171 rfl ?_
      refine a_gd (a_iast F dX11_findsKin_173 zl_249 zk_249 ?_)
      refine a_nmS (fun S_3 => ?_)
      refine a_mask [true, true, true, true, false] (L' := [some (.ref 239), some (.int x1), some (.int x2), some (.int x3), none]) rfl rfl ?_
      exact b_X11_findsKin_174 M0 hk92 hk102 hk112 x1 x2 x3 S_3
def f_X11_findsKin_112 (k92 : Int32 → Mm → Option Mm) (k102 : Int32 → Int32 → Mm → Option Mm) : Nat → Int32 → Int32 → Int32 → Mm → Option Mm :=
  itr (fun _ _ _ _ => none) (fun k => f_X11_findsKin_112b k92 k102 k)
theorem b_X11_findsKin_112 {X : CX} {E : FE} (M0 : MF X E RX11 cX11_findsKin 5 2 none) {k92 : Int32 → Mm → Option Mm} (hk92 : ∀ (x1 : Int32) (S : Mm), At X E false (mQv X Z1 E) 92 [some (.ref 239), some (.int x1), none, none, none] [] Z1 S 0 0 (k92 x1 S)) {k102 : Int32 → Int32 → Mm → Option Mm} (hk102 : ∀ (x1 x2 : Int32) (S : Mm), At X E false (mQv X Z1 E) 102 [some (.ref 239), some (.int x1), some (.int x2), none, none] [] Z1 S 0 0 (k102 x1 x2 S)) : ∀ (n : Nat) (x1 x2 x3 : Int32) (S : Mm), At X E false (mQv X Z1 E) 112 [some (.ref 239), some (.int x1), some (.int x2), some (.int x3), none] [] Z1 S 0 0 (f_X11_findsKin_112 k92 k102 n x1 x2 x3 S) := by
  intro n
  induction n with
  | zero => intros; exact a_none
  | succ n ih => intro x1 x2 x3 S; exact b_X11_findsKin_112b M0 hk92 hk102 ih x1 x2 x3 S
def f_X11_findsKin_102b (k92 : Int32 → Mm → Option Mm) (k102 : Int32 → Int32 → Mm → Option Mm) (x1 x2 : Int32) (S : Mm) : Option Mm :=
  if (S 239 6) ≤ x2 then (
   nm (x1 + (1 : Int32)) fun x1_1 =>
   k92 x1_1 S
  ) else (
   f_X11_findsKin_112 k92 k102 FU x1 x2 (0 : Int32) S
  )
set_option maxRecDepth 20000 in
theorem b_X11_findsKin_102b {X : CX} {E : FE} (M0 : MF X E RX11 cX11_findsKin 5 2 none) {k92 : Int32 → Mm → Option Mm} (hk92 : ∀ (x1 : Int32) (S : Mm), At X E false (mQv X Z1 E) 92 [some (.ref 239), some (.int x1), none, none, none] [] Z1 S 0 0 (k92 x1 S)) {k102 : Int32 → Int32 → Mm → Option Mm} (hk102 : ∀ (x1 x2 : Int32) (S : Mm), At X E false (mQv X Z1 E) 102 [some (.ref 239), some (.int x1), some (.int x2), none, none] [] Z1 S 0 0 (k102 x1 x2 S)) (x1 x2 : Int32) (S : Mm) : At X E false (mQv X Z1 E) 102 [some (.ref 239), some (.int x1), some (.int x2), none, none] [] Z1 S 0 0 (f_X11_findsKin_102b k92 k102 x1 x2 S) := by
  have F := M0.1
  unfold f_X11_findsKin_102b
  refine a_iload_n F dX11_findsKin_102 rfl rfl ?_
  refine a_aload_n F dX11_findsKin_103 rfl rfl ?_
  refine a_getI (k := 6) F cfX11 dX11_findsKin_104 fl_X11_122 (by decide) fi_11_6 zl_239 zk_239 ?_
  refine a_icmp_ge F 186 dX11_findsKin_107 (by decide) ?_ ?_
  · refine a_iincN (L' := fun x1_1 => [some (.ref 239), some (.int x1_1), some (.int x2), none, none]) F dX11_findsKin_186 rfl ki_1 (lt_b rfl) (fun _ => rfl) (fun x1_1 => ?_)
    refine a_goto F 92 dX11_findsKin_189 (by decide) ?_
    refine a_mask [true, true, false, false, false] (L' := [some (.ref 239), some (.int x1_1), none, none, none]) rfl rfl ?_
    exact hk92 x1_1 S
  · refine a_iconst F dX11_findsKin_110 ki_0 ?_
    refine a_istore_n (L' := [some (.ref 239), some (.int x1), some (.int x2), some (.int (0 : Int32)), none]) F dX11_findsKin_111 rfl (lt_b rfl) rfl ?_
    exact b_X11_findsKin_112 M0 hk92 hk102 FU x1 x2 (0 : Int32) S
def f_X11_findsKin_102 (k92 : Int32 → Mm → Option Mm) : Nat → Int32 → Int32 → Mm → Option Mm :=
  itr (fun _ _ _ => none) (fun k => f_X11_findsKin_102b k92 k)
theorem b_X11_findsKin_102 {X : CX} {E : FE} (M0 : MF X E RX11 cX11_findsKin 5 2 none) {k92 : Int32 → Mm → Option Mm} (hk92 : ∀ (x1 : Int32) (S : Mm), At X E false (mQv X Z1 E) 92 [some (.ref 239), some (.int x1), none, none, none] [] Z1 S 0 0 (k92 x1 S)) : ∀ (n : Nat) (x1 x2 : Int32) (S : Mm), At X E false (mQv X Z1 E) 102 [some (.ref 239), some (.int x1), some (.int x2), none, none] [] Z1 S 0 0 (f_X11_findsKin_102 k92 n x1 x2 S) := by
  intro n
  induction n with
  | zero => intros; exact a_none
  | succ n ih => intro x1 x2 S; exact b_X11_findsKin_102b M0 hk92 ih x1 x2 S
def f_X11_findsKin_92b (k92 : Int32 → Mm → Option Mm) (x1 : Int32) (S : Mm) : Option Mm :=
  if (S 239 6) ≤ x1 then (
   some S
  ) else (
   f_X11_findsKin_102 k92 FU x1 (0 : Int32) S
  )
set_option maxRecDepth 20000 in
theorem b_X11_findsKin_92b {X : CX} {E : FE} (M0 : MF X E RX11 cX11_findsKin 5 2 none) {k92 : Int32 → Mm → Option Mm} (hk92 : ∀ (x1 : Int32) (S : Mm), At X E false (mQv X Z1 E) 92 [some (.ref 239), some (.int x1), none, none, none] [] Z1 S 0 0 (k92 x1 S)) (x1 : Int32) (S : Mm) : At X E false (mQv X Z1 E) 92 [some (.ref 239), some (.int x1), none, none, none] [] Z1 S 0 0 (f_X11_findsKin_92b k92 x1 S) := by
  have F := M0.1
  unfold f_X11_findsKin_92b
  refine a_iload_n F dX11_findsKin_92 rfl rfl ?_
  refine a_aload_n F dX11_findsKin_93 rfl rfl ?_
  refine a_getI (k := 6) F cfX11 dX11_findsKin_94 fl_X11_122 (by decide) fi_11_6 zl_239 zk_239 ?_
  refine a_icmp_ge F 192 dX11_findsKin_97 (by decide) ?_ ?_
  · exact a_vret F M0.2.2.1 M0.2.2.2 dX11_findsKin_192
  · refine a_iconst F dX11_findsKin_100 ki_0 ?_
    refine a_istore_n (L' := [some (.ref 239), some (.int x1), some (.int (0 : Int32)), none, none]) F dX11_findsKin_101 rfl (lt_b rfl) rfl ?_
    exact b_X11_findsKin_102 M0 hk92 FU x1 (0 : Int32) S
def f_X11_findsKin_92 : Nat → Int32 → Mm → Option Mm :=
  itr (fun _ _ => none) (fun k => f_X11_findsKin_92b k)
theorem b_X11_findsKin_92 {X : CX} {E : FE} (M0 : MF X E RX11 cX11_findsKin 5 2 none) : ∀ (n : Nat) (x1 : Int32) (S : Mm), At X E false (mQv X Z1 E) 92 [some (.ref 239), some (.int x1), none, none, none] [] Z1 S 0 0 (f_X11_findsKin_92  n x1 S) := by
  intro n
  induction n with
  | zero => intros; exact a_none
  | succ n ih => intro x1 S; exact b_X11_findsKin_92b M0 ih x1 S
def f_X11_findsKin_40b (k40 : Int32 → Mm → Option Mm) (x1 : Int32) (S : Mm) : Option Mm :=
  if (S 239 6) ≤ x1 then (
   f_X11_findsKin_92 FU (0 : Int32) S
  ) else (
   gd (inB x1 12 = true) <|
   (f_X11_areNear x1 ((S 243 (ix x1)) - (1 : Int32)) S).bind fun S_1 =>
   gd (inB x1 12 = true) <|
   (f_X11_areNear x1 ((S_1 244 (ix x1)) - (1 : Int32)) S_1).bind fun S_2 =>
   (f_X11_spouseOf x1 S_2).bind fun q_3 =>
   (f_X11_areNear x1 q_3.1 q_3.2).bind fun S_4 =>
   nm (x1 + (1 : Int32)) fun x1_5 =>
   k40 x1_5 S_4
  )
set_option maxRecDepth 20000 in
theorem b_X11_findsKin_40b {X : CX} {E : FE} (M0 : MF X E RX11 cX11_findsKin 5 2 none) {k40 : Int32 → Mm → Option Mm} (hk40 : ∀ (x1 : Int32) (S : Mm), At X E false (mQv X Z1 E) 40 [some (.ref 239), some (.int x1), none, none, none] [] Z1 S 0 0 (k40 x1 S)) (x1 : Int32) (S : Mm) : At X E false (mQv X Z1 E) 40 [some (.ref 239), some (.int x1), none, none, none] [] Z1 S 0 0 (f_X11_findsKin_40b k40 x1 S) := by
  have F := M0.1
  unfold f_X11_findsKin_40b
  refine a_iload_n F dX11_findsKin_40 rfl rfl ?_
  refine a_aload_n F dX11_findsKin_41 rfl rfl ?_
  refine a_getI (k := 6) F cfX11 dX11_findsKin_42 fl_X11_122 (by decide) fi_11_6 zl_239 zk_239 ?_
  refine a_icmp_ge F 90 dX11_findsKin_45 (by decide) ?_ ?_
  · refine a_iconst F dX11_findsKin_90 ki_0 ?_
    refine a_istore_n (L' := [some (.ref 239), some (.int (0 : Int32)), none, none, none]) F dX11_findsKin_91 rfl (lt_b rfl) rfl ?_
    exact b_X11_findsKin_92 M0 FU (0 : Int32) S
  · refine a_aload_n F dX11_findsKin_48 rfl rfl ?_
    refine a_iload_n F dX11_findsKin_49 rfl rfl ?_
    refine a_aload_n F dX11_findsKin_50 rfl rfl ?_
    refine a_getR (k := 7) F cfX11 dX11_findsKin_51 fl_X11_19 (by decide) fi_11_7 zl_239 zk_239 zr_239_7 ?_
    refine a_iload_n F dX11_findsKin_54 rfl rfl ?_
    refine a_gd (a_iald F dX11_findsKin_55 zl_243 zk_243 ?_)
    refine a_iconst F dX11_findsKin_56 ki_1 ?_
    refine a_isub F dX11_findsKin_57 ?_
    refine a_callVV F (As := [.int x1, .int ((S 243 (ix x1)) - (1 : Int32))]) cfX11 rfl (c_X11_areNear X x1 ((S 243 (ix x1)) - (1 : Int32)) S) mw_X11_areNear ml_X11_135 im_X11_areNear se_X11_areNear M0.2.1 (Nat.le_of_ble_eq_true rfl) ⟨Nat.zero_le _, Nat.zero_le _⟩ rfl rfl (Nat.le_of_ble_eq_true rfl) zl_239 zk_239 dX11_findsKin_58 rfl (fun S_1 => ?_)
    refine a_aload_n F dX11_findsKin_61 rfl rfl ?_
    refine a_iload_n F dX11_findsKin_62 rfl rfl ?_
    refine a_aload_n F dX11_findsKin_63 rfl rfl ?_
    refine a_getR (k := 8) F cfX11 dX11_findsKin_64 fl_X11_22 (by decide) fi_11_8 zl_239 zk_239 zr_239_8 ?_
    refine a_iload_n F dX11_findsKin_67 rfl rfl ?_
    refine a_gd (a_iald F dX11_findsKin_68 zl_244 zk_244 ?_)
    refine a_iconst F dX11_findsKin_69 ki_1 ?_
    refine a_isub F dX11_findsKin_70 ?_
    refine a_callVV F (As := [.int x1, .int ((S_1 244 (ix x1)) - (1 : Int32))]) cfX11 rfl (c_X11_areNear X x1 ((S_1 244 (ix x1)) - (1 : Int32)) S_1) mw_X11_areNear ml_X11_135 im_X11_areNear se_X11_areNear M0.2.1 (Nat.le_of_ble_eq_true rfl) ⟨Nat.zero_le _, Nat.zero_le _⟩ rfl rfl (Nat.le_of_ble_eq_true rfl) zl_239 zk_239 dX11_findsKin_71 rfl (fun S_2 => ?_)
    refine a_aload_n F dX11_findsKin_74 rfl rfl ?_
    refine a_iload_n F dX11_findsKin_75 rfl rfl ?_
    refine a_aload_n F dX11_findsKin_76 rfl rfl ?_
    refine a_iload_n F dX11_findsKin_77 rfl rfl ?_
    refine a_callVI F (As := [.int x1]) cfX11 rfl (c_X11_spouseOf X x1 S_2) mw_X11_spouseOf ml_X11_139 im_X11_spouseOf se_X11_spouseOf M0.2.1 (Nat.le_of_ble_eq_true rfl) ⟨Nat.zero_le _, Nat.zero_le _⟩ rfl rfl (Nat.le_of_ble_eq_true rfl) zl_239 zk_239 dX11_findsKin_78 rfl (fun q_3 => ?_)
    refine a_callVV F (As := [.int x1, .int q_3.1]) cfX11 rfl (c_X11_areNear X x1 q_3.1 q_3.2) mw_X11_areNear ml_X11_135 im_X11_areNear se_X11_areNear M0.2.1 (Nat.le_of_ble_eq_true rfl) ⟨Nat.zero_le _, Nat.zero_le _⟩ rfl rfl (Nat.le_of_ble_eq_true rfl) zl_239 zk_239 dX11_findsKin_81 rfl (fun S_4 => ?_)
    refine a_iincN (L' := fun x1_5 => [some (.ref 239), some (.int x1_5), none, none, none]) F dX11_findsKin_84 rfl ki_1 (lt_b rfl) (fun _ => rfl) (fun x1_5 => ?_)
    refine a_goto F 40 dX11_findsKin_87 (by decide) ?_
    exact hk40 x1_5 S_4
def f_X11_findsKin_40 : Nat → Int32 → Mm → Option Mm :=
  itr (fun _ _ => none) (fun k => f_X11_findsKin_40b k)
theorem b_X11_findsKin_40 {X : CX} {E : FE} (M0 : MF X E RX11 cX11_findsKin 5 2 none) : ∀ (n : Nat) (x1 : Int32) (S : Mm), At X E false (mQv X Z1 E) 40 [some (.ref 239), some (.int x1), none, none, none] [] Z1 S 0 0 (f_X11_findsKin_40  n x1 S) := by
  intro n
  induction n with
  | zero => intros; exact a_none
  | succ n ih => intro x1 S; exact b_X11_findsKin_40b M0 ih x1 S
def f_X11_findsKin_31 (k2 : Int32 → Mm → Option Mm) (x1 t1 t2 : Int32) (S : Mm) : Option Mm :=
  gd (inB t1 144 = true) <|
  nm (uM S 249 (ix t1) t2) fun S_1 =>
  nm (x1 + (1 : Int32)) fun x1_2 =>
  k2 x1_2 S_1
set_option maxRecDepth 20000 in
theorem b_X11_findsKin_31 {X : CX} {E : FE} (M0 : MF X E RX11 cX11_findsKin 5 2 none) {k2 : Int32 → Mm → Option Mm} (hk2 : ∀ (x1 : Int32) (S : Mm), At X E false (mQv X Z1 E) 2 [some (.ref 239), some (.int x1), none, none, none] [] Z1 S 0 0 (k2 x1 S)) (x1 t1 t2 : Int32) (S : Mm) : At X E false (mQv X Z1 E) 31 [some (.ref 239), some (.int x1), none, none, none] [.int t2, .int t1, .ref 249] Z1 S 0 0 (f_X11_findsKin_31 k2 x1 t1 t2 S) := by
  have F := M0.1
  unfold f_X11_findsKin_31
  refine a_gd (a_iast F dX11_findsKin_31 zl_249 zk_249 ?_)
  refine a_nmS (fun S_1 => ?_)
  refine a_iincN (L' := fun x1_2 => [some (.ref 239), some (.int x1_2), none, none, none]) F dX11_findsKin_32 rfl ki_1 (lt_b rfl) (fun _ => rfl) (fun x1_2 => ?_)
  refine a_goto F 2 dX11_findsKin_35 (by decide) ?_
  exact hk2 x1_2 S_1
def f_X11_findsKin_2b (k2 : Int32 → Mm → Option Mm) (x1 : Int32) (S : Mm) : Option Mm :=
  if (144 : Int32) ≤ x1 then (
   f_X11_findsKin_40 FU (0 : Int32) S
  ) else (
   if (x1 / (12 : Int32)) = (irem x1 (12 : Int32)) then (
    f_X11_findsKin_31 k2 x1 x1 (0 : Int32) S
   ) else (
    f_X11_findsKin_31 k2 x1 x1 (99 : Int32) S
   )
  )
set_option maxRecDepth 20000 in
theorem b_X11_findsKin_2b {X : CX} {E : FE} (M0 : MF X E RX11 cX11_findsKin 5 2 none) {k2 : Int32 → Mm → Option Mm} (hk2 : ∀ (x1 : Int32) (S : Mm), At X E false (mQv X Z1 E) 2 [some (.ref 239), some (.int x1), none, none, none] [] Z1 S 0 0 (k2 x1 S)) (x1 : Int32) (S : Mm) : At X E false (mQv X Z1 E) 2 [some (.ref 239), some (.int x1), none, none, none] [] Z1 S 0 0 (f_X11_findsKin_2b k2 x1 S) := by
  have F := M0.1
  unfold f_X11_findsKin_2b
  refine a_iload_n F dX11_findsKin_2 rfl rfl ?_
  refine a_sipush F dX11_findsKin_3 ks_144 ?_
  refine a_icmp_ge F 38 dX11_findsKin_6 (by decide) ?_ ?_
  · refine a_iconst F dX11_findsKin_38 ki_0 ?_
    refine a_istore_n (L' := [some (.ref 239), some (.int (0 : Int32)), none, none, none]) F dX11_findsKin_39 rfl (lt_b rfl) rfl ?_
    exact b_X11_findsKin_40 M0 FU (0 : Int32) S
  · refine a_aload_n F dX11_findsKin_9 rfl rfl ?_
    refine a_getR (k := 14) F cfX11 dX11_findsKin_10 fl_X11_37 (by decide) fi_11_14 zl_239 zk_239 zr_239_14 ?_
    refine a_iload_n F dX11_findsKin_13 rfl rfl ?_
    refine a_iload_n F dX11_findsKin_14 rfl rfl ?_
    refine a_bipush F dX11_findsKin_15 kb_12 ?_
    refine a_ifF (o2 := none) nz_12 (a_idiv F dX11_findsKin_17 ?_)
    refine a_iload_n F dX11_findsKin_18 rfl rfl ?_
    refine a_bipush F dX11_findsKin_19 kb_12 ?_
    refine a_ifF (o2 := none) nz_12 (a_irem F dX11_findsKin_21 ?_)
    refine a_icmp_ne F 29 dX11_findsKin_22 (by decide) ?_ ?_
    · refine a_iconst F dX11_findsKin_25 ki_0 ?_
      refine a_goto F 31 dX11_findsKin_26 (by decide) ?_
      exact b_X11_findsKin_31 M0 hk2 x1 x1 (0 : Int32) S
    · refine a_bipush F dX11_findsKin_29 kb_99 ?_
      exact b_X11_findsKin_31 M0 hk2 x1 x1 (99 : Int32) S
def f_X11_findsKin_2 : Nat → Int32 → Mm → Option Mm :=
  itr (fun _ _ => none) (fun k => f_X11_findsKin_2b k)
theorem b_X11_findsKin_2 {X : CX} {E : FE} (M0 : MF X E RX11 cX11_findsKin 5 2 none) : ∀ (n : Nat) (x1 : Int32) (S : Mm), At X E false (mQv X Z1 E) 2 [some (.ref 239), some (.int x1), none, none, none] [] Z1 S 0 0 (f_X11_findsKin_2  n x1 S) := by
  intro n
  induction n with
  | zero => intros; exact a_none
  | succ n ih => intro x1 S; exact b_X11_findsKin_2b M0 ih x1 S
def f_X11_findsKin (S : Mm) : Option Mm :=
  f_X11_findsKin_2 FU (0 : Int32) S
set_option maxRecDepth 20000 in
theorem b_X11_findsKin {X : CX} {E : FE} (M0 : MF X E RX11 cX11_findsKin 5 2 none) (S : Mm) : At X E false (mQv X Z1 E) 0 [some (.ref 239), none, none, none, none] [] Z1 S 0 0 (f_X11_findsKin S) := by
  have F := M0.1
  unfold f_X11_findsKin
  refine a_iconst F dX11_findsKin_0 ki_0 ?_
  refine a_istore_n (L' := [some (.ref 239), some (.int (0 : Int32)), none, none, none]) F dX11_findsKin_1 rfl (lt_b rfl) rfl ?_
  exact b_X11_findsKin_2 M0 FU (0 : Int32) S
theorem c_X11_findsKin (X : CX) (S : Mm) : CtV X Z1 yX11_findsKin cX11_findsKin 5 2 [.ref 239] S (f_X11_findsKin S) :=
  ctV_of (by decide +kernel) rfl (Nat.le_of_ble_eq_true rfl) (by simp [Value.category]) z1len fun E F R hra hlk => b_X11_findsKin ⟨F, R, hra, hlk⟩ S
def f_X11_endsThought_2b (k2 : Int32 → Mm → Option Mm) (x1 : Int32) (S : Mm) : Option Mm :=
  if (148 : Int32) ≤ x1 then (
   nm (uM S 239 5 (0 : Int32)) fun S_1 =>
   (f_X11_findsKin S_1).bind fun S_2 =>
   some S_2
  ) else (
   gd (inB x1 148 = true) <|
   gd (inB x1 148 = true) <|
   nm (uM S 240 (ix x1) (S 242 (ix x1))) fun S_3 =>
   nm (x1 + (1 : Int32)) fun x1_4 =>
   k2 x1_4 S_3
  )
set_option maxRecDepth 20000 in
theorem b_X11_endsThought_2b {X : CX} {E : FE} (M0 : MF X E RX11 cX11_endsThought 2 3 none) {k2 : Int32 → Mm → Option Mm} (hk2 : ∀ (x1 : Int32) (S : Mm), At X E false (mQv X Z1 E) 2 [some (.ref 239), some (.int x1)] [] Z1 S 0 0 (k2 x1 S)) (x1 : Int32) (S : Mm) : At X E false (mQv X Z1 E) 2 [some (.ref 239), some (.int x1)] [] Z1 S 0 0 (f_X11_endsThought_2b k2 x1 S) := by
  have F := M0.1
  unfold f_X11_endsThought_2b
  refine a_iload_n F dX11_endsThought_2 rfl rfl ?_
  refine a_sipush F dX11_endsThought_3 ks_148 ?_
  refine a_icmp_ge F 27 dX11_endsThought_6 (by decide) ?_ ?_
  · refine a_aload_n F dX11_endsThought_27 rfl rfl ?_
    refine a_iconst F dX11_endsThought_28 ki_0 ?_
    refine a_putZK (k := 5) F cfX11 dX11_endsThought_29 fl_X11_116 (by decide) fi_11_5 rfl rfl zl_239 zk_239 (Or.inl rfl) ?_
    refine a_nmS (fun S_1 => ?_)
    refine a_aload_n F dX11_endsThought_32 rfl rfl ?_
    refine a_callVV F (As := []) cfX11 rfl (c_X11_findsKin X S_1) mw_X11_findsKin ml_X11_113 im_X11_findsKin se_X11_findsKin M0.2.1 (Nat.le_of_ble_eq_true rfl) ⟨Nat.zero_le _, Nat.zero_le _⟩ rfl rfl (Nat.le_of_ble_eq_true rfl) zl_239 zk_239 dX11_endsThought_33 rfl (fun S_2 => ?_)
    exact a_vret F M0.2.2.1 M0.2.2.2 dX11_endsThought_36
  · refine a_aload_n F dX11_endsThought_9 rfl rfl ?_
    refine a_getR (k := 1) F cfX11 dX11_endsThought_10 fl_X11_7 (by decide) fi_11_1 zl_239 zk_239 zr_239_1 ?_
    refine a_iload_n F dX11_endsThought_13 rfl rfl ?_
    refine a_aload_n F dX11_endsThought_14 rfl rfl ?_
    refine a_getR (k := 4) F cfX11 dX11_endsThought_15 fl_X11_16 (by decide) fi_11_4 zl_239 zk_239 zr_239_4 ?_
    refine a_iload_n F dX11_endsThought_18 rfl rfl ?_
    refine a_gd (a_iald F dX11_endsThought_19 zl_242 zk_242 ?_)
    refine a_gd (a_iast F dX11_endsThought_20 zl_240 zk_240 ?_)
    refine a_nmS (fun S_3 => ?_)
    refine a_iincN (L' := fun x1_4 => [some (.ref 239), some (.int x1_4)]) F dX11_endsThought_21 rfl ki_1 (lt_b rfl) (fun _ => rfl) (fun x1_4 => ?_)
    refine a_goto F 2 dX11_endsThought_24 (by decide) ?_
    exact hk2 x1_4 S_3
def f_X11_endsThought_2 : Nat → Int32 → Mm → Option Mm :=
  itr (fun _ _ => none) (fun k => f_X11_endsThought_2b k)
theorem b_X11_endsThought_2 {X : CX} {E : FE} (M0 : MF X E RX11 cX11_endsThought 2 3 none) : ∀ (n : Nat) (x1 : Int32) (S : Mm), At X E false (mQv X Z1 E) 2 [some (.ref 239), some (.int x1)] [] Z1 S 0 0 (f_X11_endsThought_2  n x1 S) := by
  intro n
  induction n with
  | zero => intros; exact a_none
  | succ n ih => intro x1 S; exact b_X11_endsThought_2b M0 ih x1 S
def f_X11_endsThought (S : Mm) : Option Mm :=
  f_X11_endsThought_2 FU (0 : Int32) S
set_option maxRecDepth 20000 in
theorem b_X11_endsThought {X : CX} {E : FE} (M0 : MF X E RX11 cX11_endsThought 2 3 none) (S : Mm) : At X E false (mQv X Z1 E) 0 [some (.ref 239), none] [] Z1 S 0 0 (f_X11_endsThought S) := by
  have F := M0.1
  unfold f_X11_endsThought
  refine a_iconst F dX11_endsThought_0 ki_0 ?_
  refine a_istore_n (L' := [some (.ref 239), some (.int (0 : Int32))]) F dX11_endsThought_1 rfl (lt_b rfl) rfl ?_
  exact b_X11_endsThought_2 M0 FU (0 : Int32) S
theorem c_X11_endsThought (X : CX) (S : Mm) : CtV X Z1 yX11_endsThought cX11_endsThought 2 3 [.ref 239] S (f_X11_endsThought S) :=
  ctV_of (by decide +kernel) rfl (Nat.le_of_ble_eq_true rfl) (by simp [Value.category]) z1len fun E F R hra hlk => b_X11_endsThought ⟨F, R, hra, hlk⟩ S
def f_X11_deedsBy_32 (k6 : Int32 → Int32 → Int32 → Mm → Option (Int32 × Mm)) (x1 x2 x3 : Int32) (S : Mm) : Option (Int32 × Mm) :=
  nm (x3 + (1 : Int32)) fun x3_1 =>
  k6 x1 x2 x3_1 S
set_option maxRecDepth 20000 in
theorem b_X11_deedsBy_32 {X : CX} {E : FE} (M0 : MF X E RX11 cX11_deedsBy 4 6 (some .int)) {k6 : Int32 → Int32 → Int32 → Mm → Option (Int32 × Mm)} (hk6 : ∀ (x1 x2 x3 : Int32) (S : Mm), At X E false (mQi X Z1 E) 6 [some (.ref 239), some (.int x1), some (.int x2), some (.int x3)] [] Z1 S 0 0 (k6 x1 x2 x3 S)) (x1 x2 x3 : Int32) (S : Mm) : At X E false (mQi X Z1 E) 32 [some (.ref 239), some (.int x1), some (.int x2), some (.int x3)] [] Z1 S 0 0 (f_X11_deedsBy_32 k6 x1 x2 x3 S) := by
  have F := M0.1
  unfold f_X11_deedsBy_32
  refine a_iincN (L' := fun x3_1 => [some (.ref 239), some (.int x1), some (.int x2), some (.int x3_1)]) F dX11_deedsBy_32 rfl ki_1 (lt_b rfl) (fun _ => rfl) (fun x3_1 => ?_)
  refine a_goto F 6 dX11_deedsBy_35 (by decide) ?_
  exact hk6 x1 x2 x3_1 S
def f_X11_deedsBy_6b (k6 : Int32 → Int32 → Int32 → Mm → Option (Int32 × Mm)) (x1 x2 x3 : Int32) (S : Mm) : Option (Int32 × Mm) :=
  if (28 : Int32) ≤ x3 then (
   (f_X11_spokenDeeds S).bind fun q_1 =>
   (f_X11_ones q_1.1 q_1.2).bind fun q_2 =>
   (f_X11_endsThought q_2.2).bind fun S_3 =>
   some (q_2.1, S_3)
  ) else (
   (f_X11_ownerOf x3 S).bind fun q_4 =>
   if q_4.1 = x1 then (
    gd (inB ((4 : Int32) + x3) 148 = true) <|
    nm (uM q_4.2 240 (ix ((4 : Int32) + x3)) (x2 + (1 : Int32))) fun S_5 =>
    f_X11_deedsBy_32 k6 x1 x2 x3 S_5
   ) else (
    f_X11_deedsBy_32 k6 x1 x2 x3 q_4.2
   )
  )
set_option maxRecDepth 20000 in
theorem b_X11_deedsBy_6b {X : CX} {E : FE} (M0 : MF X E RX11 cX11_deedsBy 4 6 (some .int)) {k6 : Int32 → Int32 → Int32 → Mm → Option (Int32 × Mm)} (hk6 : ∀ (x1 x2 x3 : Int32) (S : Mm), At X E false (mQi X Z1 E) 6 [some (.ref 239), some (.int x1), some (.int x2), some (.int x3)] [] Z1 S 0 0 (k6 x1 x2 x3 S)) (x1 x2 x3 : Int32) (S : Mm) : At X E false (mQi X Z1 E) 6 [some (.ref 239), some (.int x1), some (.int x2), some (.int x3)] [] Z1 S 0 0 (f_X11_deedsBy_6b k6 x1 x2 x3 S) := by
  have F := M0.1
  unfold f_X11_deedsBy_6b
  refine a_iload_n F dX11_deedsBy_6 rfl rfl ?_
  refine a_bipush F dX11_deedsBy_7 kb_28 ?_
  refine a_icmp_ge F 38 dX11_deedsBy_9 (by decide) ?_ ?_
  · refine a_aload_n F dX11_deedsBy_38 rfl rfl ?_
    refine a_aload_n F dX11_deedsBy_39 rfl rfl ?_
    refine a_callVI F (As := []) cfX11 rfl (c_X11_spokenDeeds X S) mw_X11_spokenDeeds ml_X11_435 im_X11_spokenDeeds se_X11_spokenDeeds M0.2.1 (Nat.le_of_ble_eq_true rfl) ⟨Nat.zero_le _, Nat.zero_le _⟩ rfl rfl (Nat.le_of_ble_eq_true rfl) zl_239 zk_239 dX11_deedsBy_40 rfl (fun q_1 => ?_)
    refine a_callVI F (As := [.int q_1.1]) cfX11 rfl (c_X11_ones X q_1.1 q_1.2) mw_X11_ones ml_X11_333 im_X11_ones se_X11_ones M0.2.1 (Nat.le_of_ble_eq_true rfl) ⟨Nat.zero_le _, Nat.zero_le _⟩ rfl rfl (Nat.le_of_ble_eq_true rfl) zl_239 zk_239 dX11_deedsBy_43 rfl (fun q_2 => ?_)
    refine a_istore_n (L' := [some (.ref 239), some (.int x1), some (.int x2), some (.int q_2.1)]) F dX11_deedsBy_46 rfl (lt_b rfl) rfl ?_
    refine a_aload_n F dX11_deedsBy_47 rfl rfl ?_
    refine a_callVV F (As := []) cfX11 rfl (c_X11_endsThought X q_2.2) mw_X11_endsThought ml_X11_432 im_X11_endsThought se_X11_endsThought M0.2.1 (Nat.le_of_ble_eq_true rfl) ⟨Nat.zero_le _, Nat.zero_le _⟩ rfl rfl (Nat.le_of_ble_eq_true rfl) zl_239 zk_239 dX11_deedsBy_48 rfl (fun S_3 => ?_)
    refine a_iload_n F dX11_deedsBy_51 rfl rfl ?_
    exact a_iret F M0.2.2.1 M0.2.2.2 dX11_deedsBy_52
  · refine a_aload_n F dX11_deedsBy_12 rfl rfl ?_
    refine a_iload_n F dX11_deedsBy_13 rfl rfl ?_
    refine a_callVI F (As := [.int x3]) cfX11 rfl (c_X11_ownerOf X x3 S) mw_X11_ownerOf ml_X11_160 im_X11_ownerOf se_X11_ownerOf M0.2.1 (Nat.le_of_ble_eq_true rfl) ⟨Nat.zero_le _, Nat.zero_le _⟩ rfl rfl (Nat.le_of_ble_eq_true rfl) zl_239 zk_239 dX11_deedsBy_14 rfl (fun q_4 => ?_)
    refine a_iload_n F dX11_deedsBy_17 rfl rfl ?_
    refine a_icmp_ne F 32 dX11_deedsBy_18 (by decide) ?_ ?_
    · refine a_aload_n F dX11_deedsBy_21 rfl rfl ?_
      refine a_getR (k := 1) F cfX11 dX11_deedsBy_22 fl_X11_7 (by decide) fi_11_1 zl_239 zk_239 zr_239_1 ?_
      refine a_iconst F dX11_deedsBy_25 ki_4 ?_
      refine a_iload_n F dX11_deedsBy_26 rfl rfl ?_
      refine a_iadd F dX11_deedsBy_27 ?_
      refine a_iload_n F dX11_deedsBy_28 rfl rfl ?_
      refine a_iconst F dX11_deedsBy_29 ki_1 ?_
      refine a_iadd F dX11_deedsBy_30 ?_
      refine a_gd (a_iast F dX11_deedsBy_31 zl_240 zk_240 ?_)
      refine a_nmS (fun S_5 => ?_)
      exact b_X11_deedsBy_32 M0 hk6 x1 x2 x3 S_5
    · exact b_X11_deedsBy_32 M0 hk6 x1 x2 x3 q_4.2
def f_X11_deedsBy_6 : Nat → Int32 → Int32 → Int32 → Mm → Option (Int32 × Mm) :=
  itr (fun _ _ _ _ => none) (fun k => f_X11_deedsBy_6b k)
theorem b_X11_deedsBy_6 {X : CX} {E : FE} (M0 : MF X E RX11 cX11_deedsBy 4 6 (some .int)) : ∀ (n : Nat) (x1 x2 x3 : Int32) (S : Mm), At X E false (mQi X Z1 E) 6 [some (.ref 239), some (.int x1), some (.int x2), some (.int x3)] [] Z1 S 0 0 (f_X11_deedsBy_6  n x1 x2 x3 S) := by
  intro n
  induction n with
  | zero => intros; exact a_none
  | succ n ih => intro x1 x2 x3 S; exact b_X11_deedsBy_6b M0 ih x1 x2 x3 S
def f_X11_deedsBy (p1 p2 : Int32) (S : Mm) : Option (Int32 × Mm) :=
  (f_X11_thinks S).bind fun S_1 =>
  f_X11_deedsBy_6 FU p1 p2 (0 : Int32) S_1
set_option maxRecDepth 20000 in
theorem b_X11_deedsBy {X : CX} {E : FE} (M0 : MF X E RX11 cX11_deedsBy 4 6 (some .int)) (p1 p2 : Int32) (S : Mm) : At X E false (mQi X Z1 E) 0 [some (.ref 239), some (.int p1), some (.int p2), none] [] Z1 S 0 0 (f_X11_deedsBy p1 p2 S) := by
  have F := M0.1
  unfold f_X11_deedsBy
  refine a_aload_n F dX11_deedsBy_0 rfl rfl ?_
  refine a_callVV F (As := []) cfX11 rfl (c_X11_thinks X S) mw_X11_thinks ml_X11_429 im_X11_thinks se_X11_thinks M0.2.1 (Nat.le_of_ble_eq_true rfl) ⟨Nat.zero_le _, Nat.zero_le _⟩ rfl rfl (Nat.le_of_ble_eq_true rfl) zl_239 zk_239 dX11_deedsBy_1 rfl (fun S_1 => ?_)
  refine a_iconst F dX11_deedsBy_4 ki_0 ?_
  refine a_istore_n (L' := [some (.ref 239), some (.int p1), some (.int p2), some (.int (0 : Int32))]) F dX11_deedsBy_5 rfl (lt_b rfl) rfl ?_
  exact b_X11_deedsBy_6 M0 FU p1 p2 (0 : Int32) S_1
theorem c_X11_deedsBy (X : CX) (p1 p2 : Int32) (S : Mm) : CtI X Z1 yX11_deedsBy cX11_deedsBy 4 (some .int) 6 [.ref 239, .int p1, .int p2] S (f_X11_deedsBy p1 p2 S) :=
  ctI_of (by decide +kernel) rfl (Nat.le_of_ble_eq_true rfl) (by simp [Value.category]) z1len fun E F R hra hlk => b_X11_deedsBy ⟨F, R, hra, hlk⟩ p1 p2 S
def f_X11_best_99 (k33 : Int32 → Int32 → Int32 → Int32 → Int32 → Mm → Option (Int32 × Mm)) (x1 x2 x3 x4 x5 : Int32) (S : Mm) : Option (Int32 × Mm) :=
  nm (x5 + (1 : Int32)) fun x5_1 =>
  k33 x1 x2 x3 x4 x5_1 S
set_option maxRecDepth 20000 in
theorem b_X11_best_99 {X : CX} {E : FE} (M0 : MF X E RX11 cX11_best 7 7 (some .int)) {k33 : Int32 → Int32 → Int32 → Int32 → Int32 → Mm → Option (Int32 × Mm)} (hk33 : ∀ (x1 x2 x3 x4 x5 : Int32) (S : Mm), At X E false (mQi X Z1 E) 33 [some (.ref 239), some (.int x1), some (.int x2), some (.int x3), some (.int x4), some (.int x5), none] [] Z1 S 0 0 (k33 x1 x2 x3 x4 x5 S)) (x1 x2 x3 x4 x5 : Int32) (S : Mm) : At X E false (mQi X Z1 E) 99 [some (.ref 239), some (.int x1), some (.int x2), some (.int x3), some (.int x4), some (.int x5), none] [] Z1 S 0 0 (f_X11_best_99 k33 x1 x2 x3 x4 x5 S) := by
  have F := M0.1
  unfold f_X11_best_99
  refine a_iincN (L' := fun x5_1 => [some (.ref 239), some (.int x1), some (.int x2), some (.int x3), some (.int x4), some (.int x5_1), none]) F dX11_best_99 rfl ki_1 (lt_b rfl) (fun _ => rfl) (fun x5_1 => ?_)
  refine a_goto F 33 dX11_best_102 (by decide) ?_
  exact hk33 x1 x2 x3 x4 x5_1 S
def f_X11_best_97 (k33 : Int32 → Int32 → Int32 → Int32 → Int32 → Mm → Option (Int32 × Mm)) (x1 x2 x3 x5 t0 : Int32) (S : Mm) : Option (Int32 × Mm) :=
  f_X11_best_99 k33 x1 x2 x3 t0 x5 S
set_option maxRecDepth 20000 in
theorem b_X11_best_97 {X : CX} {E : FE} (M0 : MF X E RX11 cX11_best 7 7 (some .int)) {k33 : Int32 → Int32 → Int32 → Int32 → Int32 → Mm → Option (Int32 × Mm)} (hk33 : ∀ (x1 x2 x3 x4 x5 : Int32) (S : Mm), At X E false (mQi X Z1 E) 33 [some (.ref 239), some (.int x1), some (.int x2), some (.int x3), some (.int x4), some (.int x5), none] [] Z1 S 0 0 (k33 x1 x2 x3 x4 x5 S)) (x1 x2 x3 x5 t0 : Int32) (S : Mm) : At X E false (mQi X Z1 E) 97 [some (.ref 239), some (.int x1), some (.int x2), some (.int x3), none, some (.int x5), none] [.int t0] Z1 S 0 0 (f_X11_best_97 k33 x1 x2 x3 x5 t0 S) := by
  have F := M0.1
  unfold f_X11_best_97
  refine a_istore (L' := [some (.ref 239), some (.int x1), some (.int x2), some (.int x3), some (.int t0), some (.int x5), none]) F dX11_best_97 (lt_b rfl) rfl ?_
  exact b_X11_best_99 M0 hk33 x1 x2 x3 t0 x5 S
def f_X11_best_82 (k33 : Int32 → Int32 → Int32 → Int32 → Int32 → Mm → Option (Int32 × Mm)) (x1 x2 x4 x5 x6 t0 : Int32) (S : Mm) : Option (Int32 × Mm) :=
  if x6 ≤ x4 then (
   f_X11_best_97 k33 x1 x2 t0 x5 x4 S
  ) else (
   f_X11_best_97 k33 x1 x2 t0 x5 x6 S
  )
set_option maxRecDepth 20000 in
theorem b_X11_best_82 {X : CX} {E : FE} (M0 : MF X E RX11 cX11_best 7 7 (some .int)) {k33 : Int32 → Int32 → Int32 → Int32 → Int32 → Mm → Option (Int32 × Mm)} (hk33 : ∀ (x1 x2 x3 x4 x5 : Int32) (S : Mm), At X E false (mQi X Z1 E) 33 [some (.ref 239), some (.int x1), some (.int x2), some (.int x3), some (.int x4), some (.int x5), none] [] Z1 S 0 0 (k33 x1 x2 x3 x4 x5 S)) (x1 x2 x4 x5 x6 t0 : Int32) (S : Mm) : At X E false (mQi X Z1 E) 82 [some (.ref 239), some (.int x1), some (.int x2), none, some (.int x4), some (.int x5), some (.int x6)] [.int t0] Z1 S 0 0 (f_X11_best_82 k33 x1 x2 x4 x5 x6 t0 S) := by
  have F := M0.1
  unfold f_X11_best_82
  refine a_istore_n (L' := [some (.ref 239), some (.int x1), some (.int x2), some (.int t0), some (.int x4), some (.int x5), some (.int x6)]) F dX11_best_82 rfl (lt_b rfl) rfl ?_
  refine a_iload F dX11_best_83 rfl ?_
  refine a_iload F dX11_best_85 rfl ?_
  refine a_icmp_le F 95 dX11_best_87 (by decide) ?_ ?_
  · refine a_iload F dX11_best_95 rfl ?_
    refine a_mask [true, true, true, true, false, true, false] (L' := [some (.ref 239), some (.int x1), some (.int x2), some (.int t0), none, some (.int x5), none]) rfl rfl ?_
    exact b_X11_best_97 M0 hk33 x1 x2 t0 x5 x4 S
  · refine a_iload F dX11_best_90 rfl ?_
    refine a_goto F 97 dX11_best_92 (by decide) ?_
    refine a_mask [true, true, true, true, false, true, false] (L' := [some (.ref 239), some (.int x1), some (.int x2), some (.int t0), none, some (.int x5), none]) rfl rfl ?_
    exact b_X11_best_97 M0 hk33 x1 x2 t0 x5 x6 S
def f_X11_best_33b (k33 : Int32 → Int32 → Int32 → Int32 → Int32 → Mm → Option (Int32 × Mm)) (x1 x2 x3 x4 x5 : Int32) (S : Mm) : Option (Int32 × Mm) :=
  if (S 239 6) ≤ x5 then (
   if x2 = 0 then (
    some (x3, S)
   ) else (
    some (x4, S)
   )
  ) else (
   if x5 = x1 then (
    f_X11_best_99 k33 x1 x2 x3 x4 x5 S
   ) else (
    (f_X11_doesLive x5 S).bind fun q_1 =>
    if q_1.1 = 0 then (
     f_X11_best_99 k33 x1 x2 x3 x4 x5 q_1.2
    ) else (
     (f_X11_deedsBy x1 x5 q_1.2).bind fun q_2 =>
     if q_2.1 ≤ x4 then (
      f_X11_best_82 k33 x1 x2 x4 x5 q_2.1 x3 q_2.2
     ) else (
      f_X11_best_82 k33 x1 x2 x4 x5 q_2.1 x5 q_2.2
     )
    )
   )
  )
set_option maxRecDepth 20000 in
theorem b_X11_best_33b {X : CX} {E : FE} (M0 : MF X E RX11 cX11_best 7 7 (some .int)) {k33 : Int32 → Int32 → Int32 → Int32 → Int32 → Mm → Option (Int32 × Mm)} (hk33 : ∀ (x1 x2 x3 x4 x5 : Int32) (S : Mm), At X E false (mQi X Z1 E) 33 [some (.ref 239), some (.int x1), some (.int x2), some (.int x3), some (.int x4), some (.int x5), none] [] Z1 S 0 0 (k33 x1 x2 x3 x4 x5 S)) (x1 x2 x3 x4 x5 : Int32) (S : Mm) : At X E false (mQi X Z1 E) 33 [some (.ref 239), some (.int x1), some (.int x2), some (.int x3), some (.int x4), some (.int x5), none] [] Z1 S 0 0 (f_X11_best_33b k33 x1 x2 x3 x4 x5 S) := by
  have F := M0.1
  unfold f_X11_best_33b
  refine a_iload F dX11_best_33 rfl ?_
  refine a_aload_n F dX11_best_35 rfl rfl ?_
  refine a_getI (k := 6) F cfX11 dX11_best_36 fl_X11_122 (by decide) fi_11_6 zl_239 zk_239 ?_
  refine a_icmp_ge F 105 dX11_best_39 (by decide) ?_ ?_
  · refine a_iload_n F dX11_best_105 rfl rfl ?_
    refine a_if_ne F 113 dX11_best_106 (by decide) ?_ ?_
    · refine a_iload_n F dX11_best_109 rfl rfl ?_
      refine a_goto F 115 dX11_best_110 (by decide) ?_
      exact a_iret F M0.2.2.1 M0.2.2.2 dX11_best_115
    · refine a_iload F dX11_best_113 rfl ?_
      exact a_iret F M0.2.2.1 M0.2.2.2 dX11_best_115
  · refine a_iload F dX11_best_42 rfl ?_
    refine a_iload_n F dX11_best_44 rfl rfl ?_
    refine a_icmp_eq F 99 dX11_best_45 (by decide) ?_ ?_
    · exact b_X11_best_99 M0 hk33 x1 x2 x3 x4 x5 S
    · refine a_aload_n F dX11_best_48 rfl rfl ?_
      refine a_iload F dX11_best_49 rfl ?_
      refine a_callVI F (As := [.int x5]) cfX11 rfl (c_X11_doesLive X x5 S) mw_X11_doesLive ml_X11_132 im_X11_doesLive se_X11_doesLive M0.2.1 (Nat.le_of_ble_eq_true rfl) ⟨Nat.zero_le _, Nat.zero_le _⟩ rfl rfl (Nat.le_of_ble_eq_true rfl) zl_239 zk_239 dX11_best_51 rfl (fun q_1 => ?_)
      refine a_if_ne F 60 dX11_best_54 (by decide) ?_ ?_
      · refine a_goto F 99 dX11_best_57 (by decide) ?_
        exact b_X11_best_99 M0 hk33 x1 x2 x3 x4 x5 q_1.2
      · refine a_aload_n F dX11_best_60 rfl rfl ?_
        refine a_iload_n F dX11_best_61 rfl rfl ?_
        refine a_iload F dX11_best_62 rfl ?_
        refine a_callVI F (As := [.int x1, .int x5]) cfX11 rfl (c_X11_deedsBy X x1 x5 q_1.2) mw_X11_deedsBy ml_X11_438 im_X11_deedsBy se_X11_deedsBy M0.2.1 (Nat.le_of_ble_eq_true rfl) ⟨Nat.zero_le _, Nat.zero_le _⟩ rfl rfl (Nat.le_of_ble_eq_true rfl) zl_239 zk_239 dX11_best_64 rfl (fun q_2 => ?_)
        refine a_istore (L' := [some (.ref 239), some (.int x1), some (.int x2), some (.int x3), some (.int x4), some (.int x5), some (.int q_2.1)]) F dX11_best_67 (lt_b rfl) rfl ?_
        refine a_iload F dX11_best_69 rfl ?_
        refine a_iload F dX11_best_71 rfl ?_
        refine a_icmp_le F 81 dX11_best_73 (by decide) ?_ ?_
        · refine a_iload_n F dX11_best_81 rfl rfl ?_
          refine a_mask [true, true, true, false, true, true, true] (L' := [some (.ref 239), some (.int x1), some (.int x2), none, some (.int x4), some (.int x5), some (.int q_2.1)]) rfl rfl ?_
          exact b_X11_best_82 M0 hk33 x1 x2 x4 x5 q_2.1 x3 q_2.2
        · refine a_iload F dX11_best_76 rfl ?_
          refine a_goto F 82 dX11_best_78 (by decide) ?_
          refine a_mask [true, true, true, false, true, true, true] (L' := [some (.ref 239), some (.int x1), some (.int x2), none, some (.int x4), some (.int x5), some (.int q_2.1)]) rfl rfl ?_
          exact b_X11_best_82 M0 hk33 x1 x2 x4 x5 q_2.1 x5 q_2.2
def f_X11_best_33 : Nat → Int32 → Int32 → Int32 → Int32 → Int32 → Mm → Option (Int32 × Mm) :=
  itr (fun _ _ _ _ _ _ => none) (fun k => f_X11_best_33b k)
theorem b_X11_best_33 {X : CX} {E : FE} (M0 : MF X E RX11 cX11_best 7 7 (some .int)) : ∀ (n : Nat) (x1 x2 x3 x4 x5 : Int32) (S : Mm), At X E false (mQi X Z1 E) 33 [some (.ref 239), some (.int x1), some (.int x2), some (.int x3), some (.int x4), some (.int x5), none] [] Z1 S 0 0 (f_X11_best_33  n x1 x2 x3 x4 x5 S) := by
  intro n
  induction n with
  | zero => intros; exact a_none
  | succ n ih => intro x1 x2 x3 x4 x5 S; exact b_X11_best_33b M0 ih x1 x2 x3 x4 x5 S
def f_X11_best (p1 p2 : Int32) (S : Mm) : Option (Int32 × Mm) :=
  nm (uM S 239 0 (0 : Int32)) fun S_1 =>
  (f_X11_isLiving p1 S_1).bind fun q_2 =>
  if q_2.1 = 0 then (
   some ((-1 : Int32), q_2.2)
  ) else (
   (f_X11_isIn p2 (0 : Int32) (1 : Int32) q_2.2).bind fun q_3 =>
   if q_3.1 = 0 then (
    some ((-1 : Int32), q_3.2)
   ) else (
    f_X11_best_33 FU p1 p2 (-1 : Int32) (-1 : Int32) (0 : Int32) q_3.2
   )
  )
set_option maxRecDepth 20000 in
theorem b_X11_best {X : CX} {E : FE} (M0 : MF X E RX11 cX11_best 7 7 (some .int)) (p1 p2 : Int32) (S : Mm) : At X E false (mQi X Z1 E) 0 [some (.ref 239), some (.int p1), some (.int p2), none, none, none, none] [] Z1 S 0 0 (f_X11_best p1 p2 S) := by
  have F := M0.1
  unfold f_X11_best
  refine a_aload_n F dX11_best_0 rfl rfl ?_
  refine a_iconst F dX11_best_1 ki_0 ?_
  refine a_putI (k := 0) F cfX11 dX11_best_2 fl_X11_107 (by decide) fi_11_0 rfl rfl zl_239 zk_239 ?_
  refine a_nmS (fun S_1 => ?_)
  refine a_aload_n F dX11_best_5 rfl rfl ?_
  refine a_iload_n F dX11_best_6 rfl rfl ?_
  refine a_callVI F (As := [.int p1]) cfX11 rfl (c_X11_isLiving X p1 S_1) mw_X11_isLiving ml_X11_151 im_X11_isLiving se_X11_isLiving M0.2.1 (Nat.le_of_ble_eq_true rfl) ⟨Nat.zero_le _, Nat.zero_le _⟩ rfl rfl (Nat.le_of_ble_eq_true rfl) zl_239 zk_239 dX11_best_7 rfl (fun q_2 => ?_)
  refine a_if_eq F 23 dX11_best_10 (by decide) ?_ ?_
  · refine a_iconst F dX11_best_23 ki_m1 ?_
    exact a_iret F M0.2.2.1 M0.2.2.2 dX11_best_24
  · refine a_aload_n F dX11_best_13 rfl rfl ?_
    refine a_iload_n F dX11_best_14 rfl rfl ?_
    refine a_iconst F dX11_best_15 ki_0 ?_
    refine a_iconst F dX11_best_16 ki_1 ?_
    refine a_callVI F (As := [.int p2, .int (0 : Int32), .int (1 : Int32)]) cfX11 rfl (c_X11_isIn X p2 (0 : Int32) (1 : Int32) q_2.2) mw_X11_isIn ml_X11_147 im_X11_isIn se_X11_isIn M0.2.1 (Nat.le_of_ble_eq_true rfl) ⟨Nat.zero_le _, Nat.zero_le _⟩ rfl rfl (Nat.le_of_ble_eq_true rfl) zl_239 zk_239 dX11_best_17 rfl (fun q_3 => ?_)
    refine a_if_ne F 25 dX11_best_20 (by decide) ?_ ?_
    · refine a_iconst F dX11_best_23 ki_m1 ?_
      exact a_iret F M0.2.2.1 M0.2.2.2 dX11_best_24
    · refine a_iconst F dX11_best_25 ki_m1 ?_
      refine a_istore_n (L' := [some (.ref 239), some (.int p1), some (.int p2), some (.int (-1 : Int32)), none, none, none]) F dX11_best_26 rfl (lt_b rfl) rfl ?_
      refine a_iconst F dX11_best_27 ki_m1 ?_
      refine a_istore (L' := [some (.ref 239), some (.int p1), some (.int p2), some (.int (-1 : Int32)), some (.int (-1 : Int32)), none, none]) F dX11_best_28 (lt_b rfl) rfl ?_
      refine a_iconst F dX11_best_30 ki_0 ?_
      refine a_istore (L' := [some (.ref 239), some (.int p1), some (.int p2), some (.int (-1 : Int32)), some (.int (-1 : Int32)), some (.int (0 : Int32)), none]) F dX11_best_31 (lt_b rfl) rfl ?_
      exact b_X11_best_33 M0 FU p1 p2 (-1 : Int32) (-1 : Int32) (0 : Int32) q_3.2
theorem c_X11_best (X : CX) (p1 p2 : Int32) (S : Mm) : CtI X Z1 yX11_best cX11_best 7 (some .int) 7 [.ref 239, .int p1, .int p2] S (f_X11_best p1 p2 S) :=
  ctI_of (by decide +kernel) rfl (Nat.le_of_ble_eq_true rfl) (by simp [Value.category]) z1len fun E F R hra hlk => b_X11_best ⟨F, R, hra, hlk⟩ p1 p2 S
def f_X11_book_45 (S : Mm) : Option (Int32 × Mm) :=
  some ((-2 : Int32), S)
set_option maxRecDepth 20000 in
theorem b_X11_book_45 {X : CX} {E : FE} (M0 : MF X E RX11 cX11_book 3 2 (some .int)) (S : Mm) : At X E false (mQi X Z1 E) 45 [none, none, none] [] Z1 S 0 0 (f_X11_book_45 S) := by
  have F := M0.1
  unfold f_X11_book_45
  refine a_bipush F dX11_book_45 kb_m2 ?_
  exact a_iret F M0.2.2.1 M0.2.2.2 dX11_book_47
def f_X11_book (p1 p2 : Int32) (S : Mm) : Option (Int32 × Mm) :=
  nm (uM S 239 0 (0 : Int32)) fun S_1 =>
  (f_X11_isIn p1 (0 : Int32) ((S_1 240 2) - (1 : Int32)) S_1).bind fun q_2 =>
  if q_2.1 = 0 then (
   f_X11_book_45 q_2.2
  ) else (
   (f_X11_isIn p2 (0 : Int32) (4 : Int32) q_2.2).bind fun q_3 =>
   if q_3.1 = 0 then (
    f_X11_book_45 q_3.2
   ) else (
    gd (inB (((5 : Int32) * p1) + p2) 1000 = true) <|
    some ((q_3.2 248 (ix (((5 : Int32) * p1) + p2))), q_3.2)
   )
  )
set_option maxRecDepth 20000 in
theorem b_X11_book {X : CX} {E : FE} (M0 : MF X E RX11 cX11_book 3 2 (some .int)) (p1 p2 : Int32) (S : Mm) : At X E false (mQi X Z1 E) 0 [some (.ref 239), some (.int p1), some (.int p2)] [] Z1 S 0 0 (f_X11_book p1 p2 S) := by
  have F := M0.1
  unfold f_X11_book
  refine a_aload_n F dX11_book_0 rfl rfl ?_
  refine a_iconst F dX11_book_1 ki_0 ?_
  refine a_putI (k := 0) F cfX11 dX11_book_2 fl_X11_107 (by decide) fi_11_0 rfl rfl zl_239 zk_239 ?_
  refine a_nmS (fun S_1 => ?_)
  refine a_aload_n F dX11_book_5 rfl rfl ?_
  refine a_iload_n F dX11_book_6 rfl rfl ?_
  refine a_iconst F dX11_book_7 ki_0 ?_
  refine a_aload_n F dX11_book_8 rfl rfl ?_
  refine a_getR (k := 1) F cfX11 dX11_book_9 fl_X11_7 (by decide) fi_11_1 zl_239 zk_239 zr_239_1 ?_
  refine a_iconst F dX11_book_12 ki_2 ?_
  refine a_ialdK F 2 dX11_book_13 zl_240 zk_240 ib_2_148 ix_2 ?_
  refine a_iconst F dX11_book_14 ki_1 ?_
  refine a_isub F dX11_book_15 ?_
  refine a_callVI F (As := [.int p1, .int (0 : Int32), .int ((S_1 240 2) - (1 : Int32))]) cfX11 rfl (c_X11_isIn X p1 (0 : Int32) ((S_1 240 2) - (1 : Int32)) S_1) mw_X11_isIn ml_X11_147 im_X11_isIn se_X11_isIn M0.2.1 (Nat.le_of_ble_eq_true rfl) ⟨Nat.zero_le _, Nat.zero_le _⟩ rfl rfl (Nat.le_of_ble_eq_true rfl) zl_239 zk_239 dX11_book_16 rfl (fun q_2 => ?_)
  refine a_if_eq F 45 dX11_book_19 (by decide) ?_ ?_
  · refine a_mask [false, false, false] (L' := [none, none, none]) rfl rfl ?_
    exact b_X11_book_45 M0 q_2.2
  · refine a_aload_n F dX11_book_22 rfl rfl ?_
    refine a_iload_n F dX11_book_23 rfl rfl ?_
    refine a_iconst F dX11_book_24 ki_0 ?_
    refine a_iconst F dX11_book_25 ki_4 ?_
    refine a_callVI F (As := [.int p2, .int (0 : Int32), .int (4 : Int32)]) cfX11 rfl (c_X11_isIn X p2 (0 : Int32) (4 : Int32) q_2.2) mw_X11_isIn ml_X11_147 im_X11_isIn se_X11_isIn M0.2.1 (Nat.le_of_ble_eq_true rfl) ⟨Nat.zero_le _, Nat.zero_le _⟩ rfl rfl (Nat.le_of_ble_eq_true rfl) zl_239 zk_239 dX11_book_26 rfl (fun q_3 => ?_)
    refine a_if_eq F 45 dX11_book_29 (by decide) ?_ ?_
    · refine a_mask [false, false, false] (L' := [none, none, none]) rfl rfl ?_
      exact b_X11_book_45 M0 q_3.2
    · refine a_aload_n F dX11_book_32 rfl rfl ?_
      refine a_getR (k := 13) F cfX11 dX11_book_33 fl_X11_34 (by decide) fi_11_13 zl_239 zk_239 zr_239_13 ?_
      refine a_iconst F dX11_book_36 ki_5 ?_
      refine a_iload_n F dX11_book_37 rfl rfl ?_
      refine a_imul F dX11_book_38 ?_
      refine a_iload_n F dX11_book_39 rfl rfl ?_
      refine a_iadd F dX11_book_40 ?_
      refine a_gd (a_iald F dX11_book_41 zl_248 zk_248 ?_)
      refine a_goto F 47 dX11_book_42 (by decide) ?_
      exact a_iret F M0.2.2.1 M0.2.2.2 dX11_book_47
theorem c_X11_book (X : CX) (p1 p2 : Int32) (S : Mm) : CtI X Z1 yX11_book cX11_book 3 (some .int) 2 [.ref 239, .int p1, .int p2] S (f_X11_book p1 p2 S) :=
  ctI_of (by decide +kernel) rfl (Nat.le_of_ble_eq_true rfl) (by simp [Value.category]) z1len fun E F R hra hlk => b_X11_book ⟨F, R, hra, hlk⟩ p1 p2 S
def f_X11_keepsAhead_57b (k57 : Int32 → Mm → Option Mm) (x1 : Int32) (S : Mm) : Option Mm :=
  if (148 : Int32) ≤ x1 then (
   nm (uM S 239 3 ((S 239 3) + (1 : Int32))) fun S_1 =>
   some S_1
  ) else (
   gd (inB x1 148 = true) <|
   gd (inB (((148 : Int32) * (S 239 3)) + x1) 1184 = true) <|
   nm (uM S 241 (ix (((148 : Int32) * (S 239 3)) + x1)) (S 240 (ix x1))) fun S_2 =>
   nm (x1 + (1 : Int32)) fun x1_3 =>
   k57 x1_3 S_2
  )
set_option maxRecDepth 20000 in
theorem b_X11_keepsAhead_57b {X : CX} {E : FE} (M0 : MF X E RX11 cX11_keepsAhead 2 1 none) {k57 : Int32 → Mm → Option Mm} (hk57 : ∀ (x1 : Int32) (S : Mm), At X E false (mQv X Z1 E) 57 [some (.ref 239), some (.int x1)] [] Z1 S 0 0 (k57 x1 S)) (x1 : Int32) (S : Mm) : At X E false (mQv X Z1 E) 57 [some (.ref 239), some (.int x1)] [] Z1 S 0 0 (f_X11_keepsAhead_57b k57 x1 S) := by
  have F := M0.1
  unfold f_X11_keepsAhead_57b
  refine a_iload_n F dX11_keepsAhead_57 rfl rfl ?_
  refine a_sipush F dX11_keepsAhead_58 ks_148 ?_
  refine a_icmp_ge F 91 dX11_keepsAhead_61 (by decide) ?_ ?_
  · refine a_aload_n F dX11_keepsAhead_91 rfl rfl ?_
    refine a_aload_n F dX11_keepsAhead_92 rfl rfl ?_
    refine a_getI (k := 3) F cfX11 dX11_keepsAhead_93 fl_X11_110 (by decide) fi_11_3 zl_239 zk_239 ?_
    refine a_iconst F dX11_keepsAhead_96 ki_1 ?_
    refine a_iadd F dX11_keepsAhead_97 ?_
    refine a_putI (k := 3) F cfX11 dX11_keepsAhead_98 fl_X11_110 (by decide) fi_11_3 rfl rfl zl_239 zk_239 ?_
    refine a_nmS (fun S_1 => ?_)
    exact a_vret F M0.2.2.1 M0.2.2.2 dX11_keepsAhead_101
  · refine a_aload_n F dX11_keepsAhead_64 rfl rfl ?_
    refine a_getR (k := 2) F cfX11 dX11_keepsAhead_65 fl_X11_13 (by decide) fi_11_2 zl_239 zk_239 zr_239_2 ?_
    refine a_sipush F dX11_keepsAhead_68 ks_148 ?_
    refine a_aload_n F dX11_keepsAhead_71 rfl rfl ?_
    refine a_getI (k := 3) F cfX11 dX11_keepsAhead_72 fl_X11_110 (by decide) fi_11_3 zl_239 zk_239 ?_
    refine a_imul F dX11_keepsAhead_75 ?_
    refine a_iload_n F dX11_keepsAhead_76 rfl rfl ?_
    refine a_iadd F dX11_keepsAhead_77 ?_
    refine a_aload_n F dX11_keepsAhead_78 rfl rfl ?_
    refine a_getR (k := 1) F cfX11 dX11_keepsAhead_79 fl_X11_7 (by decide) fi_11_1 zl_239 zk_239 zr_239_1 ?_
    refine a_iload_n F dX11_keepsAhead_82 rfl rfl ?_
    refine a_gd (a_iald F dX11_keepsAhead_83 zl_240 zk_240 ?_)
    refine a_gd (a_iast F dX11_keepsAhead_84 zl_241 zk_241 ?_)
    refine a_nmS (fun S_2 => ?_)
    refine a_iincN (L' := fun x1_3 => [some (.ref 239), some (.int x1_3)]) F dX11_keepsAhead_85 rfl ki_1 (lt_b rfl) (fun _ => rfl) (fun x1_3 => ?_)
    refine a_goto F 57 dX11_keepsAhead_88 (by decide) ?_
    exact hk57 x1_3 S_2
def f_X11_keepsAhead_57 : Nat → Int32 → Mm → Option Mm :=
  itr (fun _ _ => none) (fun k => f_X11_keepsAhead_57b k)
theorem b_X11_keepsAhead_57 {X : CX} {E : FE} (M0 : MF X E RX11 cX11_keepsAhead 2 1 none) : ∀ (n : Nat) (x1 : Int32) (S : Mm), At X E false (mQv X Z1 E) 57 [some (.ref 239), some (.int x1)] [] Z1 S 0 0 (f_X11_keepsAhead_57  n x1 S) := by
  intro n
  induction n with
  | zero => intros; exact a_none
  | succ n ih => intro x1 S; exact b_X11_keepsAhead_57b M0 ih x1 S
def f_X11_keepsAhead_55 (S : Mm) : Option Mm :=
  f_X11_keepsAhead_57 FU (0 : Int32) S
set_option maxRecDepth 20000 in
theorem b_X11_keepsAhead_55 {X : CX} {E : FE} (M0 : MF X E RX11 cX11_keepsAhead 2 1 none) (S : Mm) : At X E false (mQv X Z1 E) 55 [some (.ref 239), none] [] Z1 S 0 0 (f_X11_keepsAhead_55 S) := by
  have F := M0.1
  unfold f_X11_keepsAhead_55
  refine a_iconst F dX11_keepsAhead_55 ki_0 ?_
  refine a_istore_n (L' := [some (.ref 239), some (.int (0 : Int32))]) F dX11_keepsAhead_56 rfl (lt_b rfl) rfl ?_
  exact b_X11_keepsAhead_57 M0 FU (0 : Int32) S
def f_X11_keepsAhead_21b (k21 : Int32 → Mm → Option Mm) (x1 : Int32) (S : Mm) : Option Mm :=
  if ((148 : Int32) * (S 239 3)) ≤ x1 then (
   f_X11_keepsAhead_55 S
  ) else (
   gd (inB (x1 + (148 : Int32)) 1184 = true) <|
   gd (inB x1 1184 = true) <|
   nm (uM S 241 (ix x1) (S 241 (ix (x1 + (148 : Int32))))) fun S_1 =>
   nm (x1 + (1 : Int32)) fun x1_2 =>
   k21 x1_2 S_1
  )
set_option maxRecDepth 20000 in
theorem b_X11_keepsAhead_21b {X : CX} {E : FE} (M0 : MF X E RX11 cX11_keepsAhead 2 1 none) {k21 : Int32 → Mm → Option Mm} (hk21 : ∀ (x1 : Int32) (S : Mm), At X E false (mQv X Z1 E) 21 [some (.ref 239), some (.int x1)] [] Z1 S 0 0 (k21 x1 S)) (x1 : Int32) (S : Mm) : At X E false (mQv X Z1 E) 21 [some (.ref 239), some (.int x1)] [] Z1 S 0 0 (f_X11_keepsAhead_21b k21 x1 S) := by
  have F := M0.1
  unfold f_X11_keepsAhead_21b
  refine a_iload_n F dX11_keepsAhead_21 rfl rfl ?_
  refine a_sipush F dX11_keepsAhead_22 ks_148 ?_
  refine a_aload_n F dX11_keepsAhead_25 rfl rfl ?_
  refine a_getI (k := 3) F cfX11 dX11_keepsAhead_26 fl_X11_110 (by decide) fi_11_3 zl_239 zk_239 ?_
  refine a_imul F dX11_keepsAhead_29 ?_
  refine a_icmp_ge F 55 dX11_keepsAhead_30 (by decide) ?_ ?_
  · refine a_mask [true, false] (L' := [some (.ref 239), none]) rfl rfl ?_
    exact b_X11_keepsAhead_55 M0 S
  · refine a_aload_n F dX11_keepsAhead_33 rfl rfl ?_
    refine a_getR (k := 2) F cfX11 dX11_keepsAhead_34 fl_X11_13 (by decide) fi_11_2 zl_239 zk_239 zr_239_2 ?_
    refine a_iload_n F dX11_keepsAhead_37 rfl rfl ?_
    refine a_aload_n F dX11_keepsAhead_38 rfl rfl ?_
    refine a_getR (k := 2) F cfX11 dX11_keepsAhead_39 fl_X11_13 (by decide) fi_11_2 zl_239 zk_239 zr_239_2 ?_
    refine a_iload_n F dX11_keepsAhead_42 rfl rfl ?_
    refine a_sipush F dX11_keepsAhead_43 ks_148 ?_
    refine a_iadd F dX11_keepsAhead_46 ?_
    refine a_gd (a_iald F dX11_keepsAhead_47 zl_241 zk_241 ?_)
    refine a_gd (a_iast F dX11_keepsAhead_48 zl_241 zk_241 ?_)
    refine a_nmS (fun S_1 => ?_)
    refine a_iincN (L' := fun x1_2 => [some (.ref 239), some (.int x1_2)]) F dX11_keepsAhead_49 rfl ki_1 (lt_b rfl) (fun _ => rfl) (fun x1_2 => ?_)
    refine a_goto F 21 dX11_keepsAhead_52 (by decide) ?_
    exact hk21 x1_2 S_1
def f_X11_keepsAhead_21 : Nat → Int32 → Mm → Option Mm :=
  itr (fun _ _ => none) (fun k => f_X11_keepsAhead_21b k)
theorem b_X11_keepsAhead_21 {X : CX} {E : FE} (M0 : MF X E RX11 cX11_keepsAhead 2 1 none) : ∀ (n : Nat) (x1 : Int32) (S : Mm), At X E false (mQv X Z1 E) 21 [some (.ref 239), some (.int x1)] [] Z1 S 0 0 (f_X11_keepsAhead_21  n x1 S) := by
  intro n
  induction n with
  | zero => intros; exact a_none
  | succ n ih => intro x1 S; exact b_X11_keepsAhead_21b M0 ih x1 S
def f_X11_keepsAhead (S : Mm) : Option Mm :=
  if (S 239 3) = (8 : Int32) then (
   nm (uM S 239 3 ((S 239 3) - (1 : Int32))) fun S_1 =>
   f_X11_keepsAhead_21 FU (0 : Int32) S_1
  ) else (
   f_X11_keepsAhead_55 S
  )
set_option maxRecDepth 20000 in
theorem b_X11_keepsAhead {X : CX} {E : FE} (M0 : MF X E RX11 cX11_keepsAhead 2 1 none) (S : Mm) : At X E false (mQv X Z1 E) 0 [some (.ref 239), none] [] Z1 S 0 0 (f_X11_keepsAhead S) := by
  have F := M0.1
  unfold f_X11_keepsAhead
  refine a_aload_n F dX11_keepsAhead_0 rfl rfl ?_
  refine a_getI (k := 3) F cfX11 dX11_keepsAhead_1 fl_X11_110 (by decide) fi_11_3 zl_239 zk_239 ?_
  refine a_bipush F dX11_keepsAhead_4 kb_8 ?_
  refine a_icmp_ne F 55 dX11_keepsAhead_6 (by decide) ?_ ?_
  · refine a_aload_n F dX11_keepsAhead_9 rfl rfl ?_
    refine a_aload_n F dX11_keepsAhead_10 rfl rfl ?_
    refine a_getI (k := 3) F cfX11 dX11_keepsAhead_11 fl_X11_110 (by decide) fi_11_3 zl_239 zk_239 ?_
    refine a_iconst F dX11_keepsAhead_14 ki_1 ?_
    refine a_isub F dX11_keepsAhead_15 ?_
    refine a_putI (k := 3) F cfX11 dX11_keepsAhead_16 fl_X11_110 (by decide) fi_11_3 rfl rfl zl_239 zk_239 ?_
    refine a_nmS (fun S_1 => ?_)
    refine a_iconst F dX11_keepsAhead_19 ki_0 ?_
    refine a_istore_n (L' := [some (.ref 239), some (.int (0 : Int32))]) F dX11_keepsAhead_20 rfl (lt_b rfl) rfl ?_
    exact b_X11_keepsAhead_21 M0 FU (0 : Int32) S_1
  · exact b_X11_keepsAhead_55 M0 S
theorem c_X11_keepsAhead (X : CX) (S : Mm) : CtV X Z1 yX11_keepsAhead cX11_keepsAhead 2 1 [.ref 239] S (f_X11_keepsAhead S) :=
  ctV_of (by decide +kernel) rfl (Nat.le_of_ble_eq_true rfl) (by simp [Value.category]) z1len fun E F R hra hlk => b_X11_keepsAhead ⟨F, R, hra, hlk⟩ S
def f_X11_endsLoan (p1 : Int32) (S : Mm) : Option Mm :=
  gd (inB ((32 : Int32) + p1) 148 = true) <|
  nm (uM S 240 (ix ((32 : Int32) + p1)) (0 : Int32)) fun S_1 =>
  gd (inB ((60 : Int32) + p1) 148 = true) <|
  nm (uM S_1 240 (ix ((60 : Int32) + p1)) (0 : Int32)) fun S_2 =>
  some S_2
set_option maxRecDepth 20000 in
theorem b_X11_endsLoan {X : CX} {E : FE} (M0 : MF X E RX11 cX11_endsLoan 2 1 none) (p1 : Int32) (S : Mm) : At X E false (mQv X Z1 E) 0 [some (.ref 239), some (.int p1)] [] Z1 S 0 0 (f_X11_endsLoan p1 S) := by
  have F := M0.1
  unfold f_X11_endsLoan
  refine a_aload_n F dX11_endsLoan_0 rfl rfl ?_
  refine a_getR (k := 1) F cfX11 dX11_endsLoan_1 fl_X11_7 (by decide) fi_11_1 zl_239 zk_239 zr_239_1 ?_
  refine a_bipush F dX11_endsLoan_4 kb_32 ?_
  refine a_iload_n F dX11_endsLoan_6 rfl rfl ?_
  refine a_iadd F dX11_endsLoan_7 ?_
  refine a_iconst F dX11_endsLoan_8 ki_0 ?_
  refine a_gd (a_iast F dX11_endsLoan_9 zl_240 zk_240 ?_)
  refine a_nmS (fun S_1 => ?_)
  refine a_aload_n F dX11_endsLoan_10 rfl rfl ?_
  refine a_getR (k := 1) F cfX11 dX11_endsLoan_11 fl_X11_7 (by decide) fi_11_1 zl_239 zk_239 zr_239_1 ?_
  refine a_bipush F dX11_endsLoan_14 kb_60 ?_
  refine a_iload_n F dX11_endsLoan_16 rfl rfl ?_
  refine a_iadd F dX11_endsLoan_17 ?_
  refine a_iconst F dX11_endsLoan_18 ki_0 ?_
  refine a_gd (a_iast F dX11_endsLoan_19 zl_240 zk_240 ?_)
  refine a_nmS (fun S_2 => ?_)
  exact a_vret F M0.2.2.1 M0.2.2.2 dX11_endsLoan_20
theorem c_X11_endsLoan (X : CX) (p1 : Int32) (S : Mm) : CtV X Z1 yX11_endsLoan cX11_endsLoan 2 1 [.ref 239, .int p1] S (f_X11_endsLoan p1 S) :=
  ctV_of (by decide +kernel) rfl (Nat.le_of_ble_eq_true rfl) (by simp [Value.category]) z1len fun E F R hra hlk => b_X11_endsLoan ⟨F, R, hra, hlk⟩ p1 S
def f_X11_endsLoans_40 (k2 : Int32 → Mm → Option Mm) (x1 : Int32) (S : Mm) : Option Mm :=
  nm (x1 + (1 : Int32)) fun x1_1 =>
  k2 x1_1 S
set_option maxRecDepth 20000 in
theorem b_X11_endsLoans_40 {X : CX} {E : FE} (M0 : MF X E RX11 cX11_endsLoans 2 2 none) {k2 : Int32 → Mm → Option Mm} (hk2 : ∀ (x1 : Int32) (S : Mm), At X E false (mQv X Z1 E) 2 [some (.ref 239), some (.int x1)] [] Z1 S 0 0 (k2 x1 S)) (x1 : Int32) (S : Mm) : At X E false (mQv X Z1 E) 40 [some (.ref 239), some (.int x1)] [] Z1 S 0 0 (f_X11_endsLoans_40 k2 x1 S) := by
  have F := M0.1
  unfold f_X11_endsLoans_40
  refine a_iincN (L' := fun x1_1 => [some (.ref 239), some (.int x1_1)]) F dX11_endsLoans_40 rfl ki_1 (lt_b rfl) (fun _ => rfl) (fun x1_1 => ?_)
  refine a_goto F 2 dX11_endsLoans_43 (by decide) ?_
  exact hk2 x1_1 S
def f_X11_endsLoans_2b (k2 : Int32 → Mm → Option Mm) (x1 : Int32) (S : Mm) : Option Mm :=
  if (28 : Int32) ≤ x1 then (
   some S
  ) else (
   (f_X11_borrowerOf x1 S).bind fun q_1 =>
   if q_1.1 = (-1 : Int32) then (
    f_X11_endsLoans_40 k2 x1 q_1.2
   ) else (
    gd (inB ((60 : Int32) + x1) 148 = true) <|
    if (q_1.2 240 0) ≤ (q_1.2 240 (ix ((60 : Int32) + x1))) then (
     f_X11_endsLoans_40 k2 x1 q_1.2
    ) else (
     (f_X11_endsLoan x1 q_1.2).bind fun S_2 =>
     f_X11_endsLoans_40 k2 x1 S_2
    )
   )
  )
set_option maxRecDepth 20000 in
theorem b_X11_endsLoans_2b {X : CX} {E : FE} (M0 : MF X E RX11 cX11_endsLoans 2 2 none) {k2 : Int32 → Mm → Option Mm} (hk2 : ∀ (x1 : Int32) (S : Mm), At X E false (mQv X Z1 E) 2 [some (.ref 239), some (.int x1)] [] Z1 S 0 0 (k2 x1 S)) (x1 : Int32) (S : Mm) : At X E false (mQv X Z1 E) 2 [some (.ref 239), some (.int x1)] [] Z1 S 0 0 (f_X11_endsLoans_2b k2 x1 S) := by
  have F := M0.1
  unfold f_X11_endsLoans_2b
  refine a_iload_n F dX11_endsLoans_2 rfl rfl ?_
  refine a_bipush F dX11_endsLoans_3 kb_28 ?_
  refine a_icmp_ge F 46 dX11_endsLoans_5 (by decide) ?_ ?_
  · exact a_vret F M0.2.2.1 M0.2.2.2 dX11_endsLoans_46
  · refine a_aload_n F dX11_endsLoans_8 rfl rfl ?_
    refine a_iload_n F dX11_endsLoans_9 rfl rfl ?_
    refine a_callVI F (As := [.int x1]) cfX11 rfl (c_X11_borrowerOf X x1 S) mw_X11_borrowerOf ml_X11_315 im_X11_borrowerOf se_X11_borrowerOf M0.2.1 (Nat.le_of_ble_eq_true rfl) ⟨Nat.zero_le _, Nat.zero_le _⟩ rfl rfl (Nat.le_of_ble_eq_true rfl) zl_239 zk_239 dX11_endsLoans_10 rfl (fun q_1 => ?_)
    refine a_iconst F dX11_endsLoans_13 ki_m1 ?_
    refine a_icmp_eq F 40 dX11_endsLoans_14 (by decide) ?_ ?_
    · exact b_X11_endsLoans_40 M0 hk2 x1 q_1.2
    · refine a_aload_n F dX11_endsLoans_17 rfl rfl ?_
      refine a_getR (k := 1) F cfX11 dX11_endsLoans_18 fl_X11_7 (by decide) fi_11_1 zl_239 zk_239 zr_239_1 ?_
      refine a_bipush F dX11_endsLoans_21 kb_60 ?_
      refine a_iload_n F dX11_endsLoans_23 rfl rfl ?_
      refine a_iadd F dX11_endsLoans_24 ?_
      refine a_gd (a_iald F dX11_endsLoans_25 zl_240 zk_240 ?_)
      refine a_aload_n F dX11_endsLoans_26 rfl rfl ?_
      refine a_getR (k := 1) F cfX11 dX11_endsLoans_27 fl_X11_7 (by decide) fi_11_1 zl_239 zk_239 zr_239_1 ?_
      refine a_iconst F dX11_endsLoans_30 ki_0 ?_
      refine a_ialdK F 0 dX11_endsLoans_31 zl_240 zk_240 ib_0_148 ix_0 ?_
      refine a_icmp_ge F 40 dX11_endsLoans_32 (by decide) ?_ ?_
      · exact b_X11_endsLoans_40 M0 hk2 x1 q_1.2
      · refine a_aload_n F dX11_endsLoans_35 rfl rfl ?_
        refine a_iload_n F dX11_endsLoans_36 rfl rfl ?_
        refine a_callVV F (As := [.int x1]) cfX11 rfl (c_X11_endsLoan X x1 q_1.2) mw_X11_endsLoan ml_X11_170 im_X11_endsLoan se_X11_endsLoan M0.2.1 (Nat.le_of_ble_eq_true rfl) ⟨Nat.zero_le _, Nat.zero_le _⟩ rfl rfl (Nat.le_of_ble_eq_true rfl) zl_239 zk_239 dX11_endsLoans_37 rfl (fun S_2 => ?_)
        exact b_X11_endsLoans_40 M0 hk2 x1 S_2
def f_X11_endsLoans_2 : Nat → Int32 → Mm → Option Mm :=
  itr (fun _ _ => none) (fun k => f_X11_endsLoans_2b k)
theorem b_X11_endsLoans_2 {X : CX} {E : FE} (M0 : MF X E RX11 cX11_endsLoans 2 2 none) : ∀ (n : Nat) (x1 : Int32) (S : Mm), At X E false (mQv X Z1 E) 2 [some (.ref 239), some (.int x1)] [] Z1 S 0 0 (f_X11_endsLoans_2  n x1 S) := by
  intro n
  induction n with
  | zero => intros; exact a_none
  | succ n ih => intro x1 S; exact b_X11_endsLoans_2b M0 ih x1 S
def f_X11_endsLoans (S : Mm) : Option Mm :=
  f_X11_endsLoans_2 FU (0 : Int32) S
set_option maxRecDepth 20000 in
theorem b_X11_endsLoans {X : CX} {E : FE} (M0 : MF X E RX11 cX11_endsLoans 2 2 none) (S : Mm) : At X E false (mQv X Z1 E) 0 [some (.ref 239), none] [] Z1 S 0 0 (f_X11_endsLoans S) := by
  have F := M0.1
  unfold f_X11_endsLoans
  refine a_iconst F dX11_endsLoans_0 ki_0 ?_
  refine a_istore_n (L' := [some (.ref 239), some (.int (0 : Int32))]) F dX11_endsLoans_1 rfl (lt_b rfl) rfl ?_
  exact b_X11_endsLoans_2 M0 FU (0 : Int32) S
theorem c_X11_endsLoans (X : CX) (S : Mm) : CtV X Z1 yX11_endsLoans cX11_endsLoans 2 2 [.ref 239] S (f_X11_endsLoans S) :=
  ctV_of (by decide +kernel) rfl (Nat.le_of_ble_eq_true rfl) (by simp [Value.category]) z1len fun E F R hra hlk => b_X11_endsLoans ⟨F, R, hra, hlk⟩ S
def f_X11_draw (p1 : Int32) (S : Mm) : Option (Int32 × Mm) :=
  nm (uM S 240 1 (((1664525 : Int32) * (S 240 1)) + (1013904223 : Int32))) fun S_1 =>
  if p1 = 0 then none else
  some ((irem (ushr (S_1 240 1) (8 : Int32)) p1), S_1)
set_option maxRecDepth 20000 in
theorem b_X11_draw {X : CX} {E : FE} (M0 : MF X E RX11 cX11_draw 2 1 (some .int)) (p1 : Int32) (S : Mm) : At X E false (mQi X Z1 E) 0 [some (.ref 239), some (.int p1)] [] Z1 S 0 0 (f_X11_draw p1 S) := by
  have F := M0.1
  unfold f_X11_draw
  refine a_aload_n F dX11_draw_0 rfl rfl ?_
  refine a_getR (k := 1) F cfX11 dX11_draw_1 fl_X11_7 (by decide) fi_11_1 zl_239 zk_239 zr_239_1 ?_
  refine a_iconst F dX11_draw_4 ki_1 ?_
  refine a_ldc F dX11_draw_5 con_X11_120 ?_
  refine a_aload_n F dX11_draw_7 rfl rfl ?_
  refine a_getR (k := 1) F cfX11 dX11_draw_8 fl_X11_7 (by decide) fi_11_1 zl_239 zk_239 zr_239_1 ?_
  refine a_iconst F dX11_draw_11 ki_1 ?_
  refine a_ialdK F 1 dX11_draw_12 zl_240 zk_240 ib_1_148 ix_1 ?_
  refine a_imul F dX11_draw_13 ?_
  refine a_ldc F dX11_draw_14 con_X11_121 ?_
  refine a_iadd F dX11_draw_16 ?_
  refine a_iastK F 1 dX11_draw_17 zl_240 zk_240 ib_1_148 ix_1 ?_
  refine a_nmS (fun S_1 => ?_)
  refine a_aload_n F dX11_draw_18 rfl rfl ?_
  refine a_getR (k := 1) F cfX11 dX11_draw_19 fl_X11_7 (by decide) fi_11_1 zl_239 zk_239 zr_239_1 ?_
  refine a_iconst F dX11_draw_22 ki_1 ?_
  refine a_ialdK F 1 dX11_draw_23 zl_240 zk_240 ib_1_148 ix_1 ?_
  refine a_bipush F dX11_draw_24 kb_8 ?_
  refine a_iushr F dX11_draw_26 ?_
  refine a_iload_n F dX11_draw_27 rfl rfl ?_
  refine a_irem F dX11_draw_28 ?_
  exact a_iret F M0.2.2.1 M0.2.2.2 dX11_draw_29
theorem c_X11_draw (X : CX) (p1 : Int32) (S : Mm) : CtI X Z1 yX11_draw cX11_draw 2 (some .int) 1 [.ref 239, .int p1] S (f_X11_draw p1 S) :=
  ctI_of (by decide +kernel) rfl (Nat.le_of_ble_eq_true rfl) (by simp [Value.category]) z1len fun E F R hra hlk => b_X11_draw ⟨F, R, hra, hlk⟩ p1 S
def f_X11_isFrailToday_36 (S : Mm) : Option (Int32 × Mm) :=
  some ((0 : Int32), S)
set_option maxRecDepth 20000 in
theorem b_X11_isFrailToday_36 {X : CX} {E : FE} (M0 : MF X E RX11 cX11_isFrailToday 2 2 (some .boolean)) (S : Mm) : At X E false (mQi X Z1 E) 36 [none, none] [] Z1 S 0 0 (f_X11_isFrailToday_36 S) := by
  have F := M0.1
  unfold f_X11_isFrailToday_36
  refine a_iconst F dX11_isFrailToday_36 ki_0 ?_
  exact a_zretK F M0.2.2.1 M0.2.2.2 dX11_isFrailToday_37 (Or.inl rfl)
def f_X11_isFrailToday (p1 : Int32) (S : Mm) : Option (Int32 × Mm) :=
  if (S 239 5) = 0 then (
   gd (inB p1 12 = true) <|
   if (S 246 (ix p1)) ≤ 0 then (
    f_X11_isFrailToday_36 S
   ) else (
    (f_X11_draw (10000 : Int32) S).bind fun q_1 =>
    gd (inB p1 12 = true) <|
    if (q_1.2 246 (ix p1)) ≤ q_1.1 then (
     f_X11_isFrailToday_36 q_1.2
    ) else (
     some ((1 : Int32), q_1.2)
    )
   )
  ) else (
   f_X11_isFrailToday_36 S
  )
set_option maxRecDepth 20000 in
theorem b_X11_isFrailToday {X : CX} {E : FE} (M0 : MF X E RX11 cX11_isFrailToday 2 2 (some .boolean)) (p1 : Int32) (S : Mm) : At X E false (mQi X Z1 E) 0 [some (.ref 239), some (.int p1)] [] Z1 S 0 0 (f_X11_isFrailToday p1 S) := by
  have F := M0.1
  unfold f_X11_isFrailToday
  refine a_aload_n F dX11_isFrailToday_0 rfl rfl ?_
  refine a_getI (k := 5) F cfX11 dX11_isFrailToday_1 fl_X11_116 (by decide) fi_11_5 zl_239 zk_239 ?_
  refine a_if_ne F 36 dX11_isFrailToday_4 (by decide) ?_ ?_
  · refine a_aload_n F dX11_isFrailToday_7 rfl rfl ?_
    refine a_getR (k := 10) F cfX11 dX11_isFrailToday_8 fl_X11_28 (by decide) fi_11_10 zl_239 zk_239 zr_239_10 ?_
    refine a_iload_n F dX11_isFrailToday_11 rfl rfl ?_
    refine a_gd (a_iald F dX11_isFrailToday_12 zl_246 zk_246 ?_)
    refine a_if_le F 36 dX11_isFrailToday_13 (by decide) ?_ ?_
    · refine a_mask [false, false] (L' := [none, none]) rfl rfl ?_
      exact b_X11_isFrailToday_36 M0 S
    · refine a_aload_n F dX11_isFrailToday_16 rfl rfl ?_
      refine a_sipush F dX11_isFrailToday_17 ks_10000 ?_
      refine a_callVI F (As := [.int (10000 : Int32)]) cfX11 rfl (c_X11_draw X (10000 : Int32) S) mw_X11_draw ml_X11_366 im_X11_draw se_X11_draw M0.2.1 (Nat.le_of_ble_eq_true rfl) ⟨Nat.zero_le _, Nat.zero_le _⟩ rfl rfl (Nat.le_of_ble_eq_true rfl) zl_239 zk_239 dX11_isFrailToday_20 rfl (fun q_1 => ?_)
      refine a_aload_n F dX11_isFrailToday_23 rfl rfl ?_
      refine a_getR (k := 10) F cfX11 dX11_isFrailToday_24 fl_X11_28 (by decide) fi_11_10 zl_239 zk_239 zr_239_10 ?_
      refine a_iload_n F dX11_isFrailToday_27 rfl rfl ?_
      refine a_gd (a_iald F dX11_isFrailToday_28 zl_246 zk_246 ?_)
      refine a_icmp_ge F 36 dX11_isFrailToday_29 (by decide) ?_ ?_
      · refine a_mask [false, false] (L' := [none, none]) rfl rfl ?_
        exact b_X11_isFrailToday_36 M0 q_1.2
      · refine a_iconst F dX11_isFrailToday_32 ki_1 ?_
        refine a_goto F 37 dX11_isFrailToday_33 (by decide) ?_
        exact a_zretK F M0.2.2.1 M0.2.2.2 dX11_isFrailToday_37 (Or.inr rfl)
  · refine a_mask [false, false] (L' := [none, none]) rfl rfl ?_
    exact b_X11_isFrailToday_36 M0 S
theorem c_X11_isFrailToday (X : CX) (p1 : Int32) (S : Mm) : CtI X Z1 yX11_isFrailToday cX11_isFrailToday 2 (some .boolean) 2 [.ref 239, .int p1] S (f_X11_isFrailToday p1 S) :=
  ctI_of (by decide +kernel) rfl (Nat.le_of_ble_eq_true rfl) (by simp [Value.category]) z1len fun E F R hra hlk => b_X11_isFrailToday ⟨F, R, hra, hlk⟩ p1 S
def f_X11_heirByWill_76 (k5 : Int32 → Int32 → Int32 → Mm → Option (Int32 × Mm)) (x1 x2 x3 t0 : Int32) (S : Mm) : Option (Int32 × Mm) :=
  if t0 = 0 then (
   nm (x3 + (1 : Int32)) fun x3_1 =>
   k5 x1 x2 x3_1 S
  ) else (
   gd (inB x3 156 = true) <|
   some ((S 260 (ix x3)), S)
  )
set_option maxRecDepth 20000 in
theorem b_X11_heirByWill_76 {X : CX} {E : FE} (M0 : MF X E RX11 cX11_heirByWill 5 2 (some .int)) {k5 : Int32 → Int32 → Int32 → Mm → Option (Int32 × Mm)} (hk5 : ∀ (x1 x2 x3 : Int32) (S : Mm), At X E false (mQi X Z1 E) 5 [some (.ref 239), some (.int x1), some (.int x2), some (.int x3), none] [] Z1 S 0 0 (k5 x1 x2 x3 S)) (x1 x2 x3 t0 : Int32) (S : Mm) : At X E false (mQi X Z1 E) 76 [some (.ref 239), some (.int x1), some (.int x2), some (.int x3), none] [.int t0] Z1 S 0 0 (f_X11_heirByWill_76 k5 x1 x2 x3 t0 S) := by
  have F := M0.1
  unfold f_X11_heirByWill_76
  refine a_istore (L' := [some (.ref 239), some (.int x1), some (.int x2), some (.int x3), some (.int t0)]) F dX11_heirByWill_76 (lt_b rfl) rfl ?_
  refine a_iload F dX11_heirByWill_78 rfl ?_
  refine a_if_eq F 90 dX11_heirByWill_80 (by decide) ?_ ?_
  · refine a_iincN (L' := fun x3_1 => [some (.ref 239), some (.int x1), some (.int x2), some (.int x3_1), some (.int t0)]) F dX11_heirByWill_90 rfl ki_1 (lt_b rfl) (fun _ => rfl) (fun x3_1 => ?_)
    refine a_goto F 5 dX11_heirByWill_93 (by decide) ?_
    refine a_mask [true, true, true, true, false] (L' := [some (.ref 239), some (.int x1), some (.int x2), some (.int x3_1), none]) rfl rfl ?_
    exact hk5 x1 x2 x3_1 S
  · refine a_aload_n F dX11_heirByWill_83 rfl rfl ?_
    refine a_getR (k := 38) F cfX11 dX11_heirByWill_84 fl_X11_74 (by decide) fi_11_38 zl_239 zk_239 zr_239_38 ?_
    refine a_iload_n F dX11_heirByWill_87 rfl rfl ?_
    refine a_gd (a_iald F dX11_heirByWill_88 zl_260 zk_260 ?_)
    exact a_iret F M0.2.2.1 M0.2.2.2 dX11_heirByWill_89
def f_X11_heirByWill_75 (k5 : Int32 → Int32 → Int32 → Mm → Option (Int32 × Mm)) (x1 x2 x3 : Int32) (S : Mm) : Option (Int32 × Mm) :=
  f_X11_heirByWill_76 k5 x1 x2 x3 (0 : Int32) S
set_option maxRecDepth 20000 in
theorem b_X11_heirByWill_75 {X : CX} {E : FE} (M0 : MF X E RX11 cX11_heirByWill 5 2 (some .int)) {k5 : Int32 → Int32 → Int32 → Mm → Option (Int32 × Mm)} (hk5 : ∀ (x1 x2 x3 : Int32) (S : Mm), At X E false (mQi X Z1 E) 5 [some (.ref 239), some (.int x1), some (.int x2), some (.int x3), none] [] Z1 S 0 0 (k5 x1 x2 x3 S)) (x1 x2 x3 : Int32) (S : Mm) : At X E false (mQi X Z1 E) 75 [some (.ref 239), some (.int x1), some (.int x2), some (.int x3), none] [] Z1 S 0 0 (f_X11_heirByWill_75 k5 x1 x2 x3 S) := by
  have F := M0.1
  unfold f_X11_heirByWill_75
  refine a_iconst F dX11_heirByWill_75 ki_0 ?_
  exact b_X11_heirByWill_76 M0 hk5 x1 x2 x3 (0 : Int32) S
def f_X11_heirByWill_71 (k5 : Int32 → Int32 → Int32 → Mm → Option (Int32 × Mm)) (x1 x2 x3 : Int32) (S : Mm) : Option (Int32 × Mm) :=
  f_X11_heirByWill_76 k5 x1 x2 x3 (1 : Int32) S
set_option maxRecDepth 20000 in
theorem b_X11_heirByWill_71 {X : CX} {E : FE} (M0 : MF X E RX11 cX11_heirByWill 5 2 (some .int)) {k5 : Int32 → Int32 → Int32 → Mm → Option (Int32 × Mm)} (hk5 : ∀ (x1 x2 x3 : Int32) (S : Mm), At X E false (mQi X Z1 E) 5 [some (.ref 239), some (.int x1), some (.int x2), some (.int x3), none] [] Z1 S 0 0 (k5 x1 x2 x3 S)) (x1 x2 x3 : Int32) (S : Mm) : At X E false (mQi X Z1 E) 71 [some (.ref 239), some (.int x1), some (.int x2), some (.int x3), none] [] Z1 S 0 0 (f_X11_heirByWill_71 k5 x1 x2 x3 S) := by
  have F := M0.1
  unfold f_X11_heirByWill_71
  refine a_iconst F dX11_heirByWill_71 ki_1 ?_
  refine a_goto F 76 dX11_heirByWill_72 (by decide) ?_
  exact b_X11_heirByWill_76 M0 hk5 x1 x2 x3 (1 : Int32) S
def f_X11_heirByWill_5b (k5 : Int32 → Int32 → Int32 → Mm → Option (Int32 × Mm)) (x1 x2 x3 : Int32) (S : Mm) : Option (Int32 × Mm) :=
  gd (inB x1 12 = true) <|
  if (((12 : Int32) * x1) + (S 258 (ix x1))) ≤ x3 then (
   some ((-1 : Int32), S)
  ) else (
   gd (inB x3 156 = true) <|
   if ((shr (S 259 (ix x3)) x2) &&& (1 : Int32)) = (1 : Int32) then (
    gd (inB x3 156 = true) <|
    (f_X11_doesLive (S 260 (ix x3)) S).bind fun q_1 =>
    if q_1.1 = 0 then (
     f_X11_heirByWill_75 k5 x1 x2 x3 q_1.2
    ) else (
     gd (inB x3 156 = true) <|
     if (q_1.2 261 (ix x3)) = 0 then (
      f_X11_heirByWill_71 k5 x1 x2 x3 q_1.2
     ) else (
      gd (inB x3 156 = true) <|
      (f_X11_doesLive ((q_1.2 261 (ix x3)) - (1 : Int32)) q_1.2).bind fun q_2 =>
      if q_2.1 = 0 then (
       f_X11_heirByWill_75 k5 x1 x2 x3 q_2.2
      ) else (
       f_X11_heirByWill_71 k5 x1 x2 x3 q_2.2
      )
     )
    )
   ) else (
    f_X11_heirByWill_75 k5 x1 x2 x3 S
   )
  )
set_option maxRecDepth 20000 in
theorem b_X11_heirByWill_5b {X : CX} {E : FE} (M0 : MF X E RX11 cX11_heirByWill 5 2 (some .int)) {k5 : Int32 → Int32 → Int32 → Mm → Option (Int32 × Mm)} (hk5 : ∀ (x1 x2 x3 : Int32) (S : Mm), At X E false (mQi X Z1 E) 5 [some (.ref 239), some (.int x1), some (.int x2), some (.int x3), none] [] Z1 S 0 0 (k5 x1 x2 x3 S)) (x1 x2 x3 : Int32) (S : Mm) : At X E false (mQi X Z1 E) 5 [some (.ref 239), some (.int x1), some (.int x2), some (.int x3), none] [] Z1 S 0 0 (f_X11_heirByWill_5b k5 x1 x2 x3 S) := by
  have F := M0.1
  unfold f_X11_heirByWill_5b
  refine a_iload_n F dX11_heirByWill_5 rfl rfl ?_
  refine a_bipush F dX11_heirByWill_6 kb_12 ?_
  refine a_iload_n F dX11_heirByWill_8 rfl rfl ?_
  refine a_imul F dX11_heirByWill_9 ?_
  refine a_aload_n F dX11_heirByWill_10 rfl rfl ?_
  refine a_getR (k := 36) F cfX11 dX11_heirByWill_11 fl_X11_68 (by decide) fi_11_36 zl_239 zk_239 zr_239_36 ?_
  refine a_iload_n F dX11_heirByWill_14 rfl rfl ?_
  refine a_gd (a_iald F dX11_heirByWill_15 zl_258 zk_258 ?_)
  refine a_iadd F dX11_heirByWill_16 ?_
  refine a_icmp_ge F 96 dX11_heirByWill_17 (by decide) ?_ ?_
  · refine a_iconst F dX11_heirByWill_96 ki_m1 ?_
    exact a_iret F M0.2.2.1 M0.2.2.2 dX11_heirByWill_97
  · refine a_aload_n F dX11_heirByWill_20 rfl rfl ?_
    refine a_getR (k := 37) F cfX11 dX11_heirByWill_21 fl_X11_71 (by decide) fi_11_37 zl_239 zk_239 zr_239_37 ?_
    refine a_iload_n F dX11_heirByWill_24 rfl rfl ?_
    refine a_gd (a_iald F dX11_heirByWill_25 zl_259 zk_259 ?_)
    refine a_iload_n F dX11_heirByWill_26 rfl rfl ?_
    refine a_ishr F dX11_heirByWill_27 ?_
    refine a_iconst F dX11_heirByWill_28 ki_1 ?_
    refine a_iand F dX11_heirByWill_29 ?_
    refine a_iconst F dX11_heirByWill_30 ki_1 ?_
    refine a_icmp_ne F 75 dX11_heirByWill_31 (by decide) ?_ ?_
    · refine a_aload_n F dX11_heirByWill_34 rfl rfl ?_
      refine a_aload_n F dX11_heirByWill_35 rfl rfl ?_
      refine a_getR (k := 38) F cfX11 dX11_heirByWill_36 fl_X11_74 (by decide) fi_11_38 zl_239 zk_239 zr_239_38 ?_
      refine a_iload_n F dX11_heirByWill_39 rfl rfl ?_
      refine a_gd (a_iald F dX11_heirByWill_40 zl_260 zk_260 ?_)
      refine a_callVI F (As := [.int (S 260 (ix x3))]) cfX11 rfl (c_X11_doesLive X (S 260 (ix x3)) S) mw_X11_doesLive ml_X11_132 im_X11_doesLive se_X11_doesLive M0.2.1 (Nat.le_of_ble_eq_true rfl) ⟨Nat.zero_le _, Nat.zero_le _⟩ rfl rfl (Nat.le_of_ble_eq_true rfl) zl_239 zk_239 dX11_heirByWill_41 rfl (fun q_1 => ?_)
      refine a_if_eq F 75 dX11_heirByWill_44 (by decide) ?_ ?_
      · exact b_X11_heirByWill_75 M0 hk5 x1 x2 x3 q_1.2
      · refine a_aload_n F dX11_heirByWill_47 rfl rfl ?_
        refine a_getR (k := 39) F cfX11 dX11_heirByWill_48 fl_X11_77 (by decide) fi_11_39 zl_239 zk_239 zr_239_39 ?_
        refine a_iload_n F dX11_heirByWill_51 rfl rfl ?_
        refine a_gd (a_iald F dX11_heirByWill_52 zl_261 zk_261 ?_)
        refine a_if_eq F 71 dX11_heirByWill_53 (by decide) ?_ ?_
        · exact b_X11_heirByWill_71 M0 hk5 x1 x2 x3 q_1.2
        · refine a_aload_n F dX11_heirByWill_56 rfl rfl ?_
          refine a_aload_n F dX11_heirByWill_57 rfl rfl ?_
          refine a_getR (k := 39) F cfX11 dX11_heirByWill_58 fl_X11_77 (by decide) fi_11_39 zl_239 zk_239 zr_239_39 ?_
          refine a_iload_n F dX11_heirByWill_61 rfl rfl ?_
          refine a_gd (a_iald F dX11_heirByWill_62 zl_261 zk_261 ?_)
          refine a_iconst F dX11_heirByWill_63 ki_1 ?_
          refine a_isub F dX11_heirByWill_64 ?_
          refine a_callVI F (As := [.int ((q_1.2 261 (ix x3)) - (1 : Int32))]) cfX11 rfl (c_X11_doesLive X ((q_1.2 261 (ix x3)) - (1 : Int32)) q_1.2) mw_X11_doesLive ml_X11_132 im_X11_doesLive se_X11_doesLive M0.2.1 (Nat.le_of_ble_eq_true rfl) ⟨Nat.zero_le _, Nat.zero_le _⟩ rfl rfl (Nat.le_of_ble_eq_true rfl) zl_239 zk_239 dX11_heirByWill_65 rfl (fun q_2 => ?_)
          refine a_if_eq F 75 dX11_heirByWill_68 (by decide) ?_ ?_
          · exact b_X11_heirByWill_75 M0 hk5 x1 x2 x3 q_2.2
          · exact b_X11_heirByWill_71 M0 hk5 x1 x2 x3 q_2.2
    · exact b_X11_heirByWill_75 M0 hk5 x1 x2 x3 S
def f_X11_heirByWill_5 : Nat → Int32 → Int32 → Int32 → Mm → Option (Int32 × Mm) :=
  itr (fun _ _ _ _ => none) (fun k => f_X11_heirByWill_5b k)
theorem b_X11_heirByWill_5 {X : CX} {E : FE} (M0 : MF X E RX11 cX11_heirByWill 5 2 (some .int)) : ∀ (n : Nat) (x1 x2 x3 : Int32) (S : Mm), At X E false (mQi X Z1 E) 5 [some (.ref 239), some (.int x1), some (.int x2), some (.int x3), none] [] Z1 S 0 0 (f_X11_heirByWill_5  n x1 x2 x3 S) := by
  intro n
  induction n with
  | zero => intros; exact a_none
  | succ n ih => intro x1 x2 x3 S; exact b_X11_heirByWill_5b M0 ih x1 x2 x3 S
def f_X11_heirByWill (p1 p2 : Int32) (S : Mm) : Option (Int32 × Mm) :=
  nm (((12 : Int32) * p1)) fun x3_1 =>
  f_X11_heirByWill_5 FU p1 p2 x3_1 S
set_option maxRecDepth 20000 in
theorem b_X11_heirByWill {X : CX} {E : FE} (M0 : MF X E RX11 cX11_heirByWill 5 2 (some .int)) (p1 p2 : Int32) (S : Mm) : At X E false (mQi X Z1 E) 0 [some (.ref 239), some (.int p1), some (.int p2), none, none] [] Z1 S 0 0 (f_X11_heirByWill p1 p2 S) := by
  have F := M0.1
  unfold f_X11_heirByWill
  refine a_bipush F dX11_heirByWill_0 kb_12 ?_
  refine a_iload_n F dX11_heirByWill_2 rfl rfl ?_
  refine a_imul F dX11_heirByWill_3 ?_
  refine a_istore_nN (L' := fun x3_1 => [some (.ref 239), some (.int p1), some (.int p2), some (.int x3_1), none]) F dX11_heirByWill_4 rfl (lt_b rfl) (fun _ => rfl) (fun x3_1 => ?_)
  exact b_X11_heirByWill_5 M0 FU p1 p2 x3_1 S
theorem c_X11_heirByWill (X : CX) (p1 p2 : Int32) (S : Mm) : CtI X Z1 yX11_heirByWill cX11_heirByWill 5 (some .int) 2 [.ref 239, .int p1, .int p2] S (f_X11_heirByWill p1 p2 S) :=
  ctI_of (by decide +kernel) rfl (Nat.le_of_ble_eq_true rfl) (by simp [Value.category]) z1len fun E F R hra hlk => b_X11_heirByWill ⟨F, R, hra, hlk⟩ p1 p2 S
def f_X11_isVowel_27 (S : Mm) : Option (Int32 × Mm) :=
  some ((1 : Int32), S)
set_option maxRecDepth 20000 in
theorem b_X11_isVowel_27 {X : CX} {E : FE} (M0 : MF X E RX11 cX11_isVowel 2 1 (some .boolean)) (S : Mm) : At X E false (mQi X Z1 E) 27 [none, none] [] Z1 S 0 0 (f_X11_isVowel_27 S) := by
  have F := M0.1
  unfold f_X11_isVowel_27
  refine a_iconst F dX11_isVowel_27 ki_1 ?_
  refine a_goto F 32 dX11_isVowel_28 (by decide) ?_
  exact a_zretK F M0.2.2.1 M0.2.2.2 dX11_isVowel_32 (Or.inr rfl)
def f_X11_isVowel (p1 : Int32) (S : Mm) : Option (Int32 × Mm) :=
  if p1 = 0 then (
   f_X11_isVowel_27 S
  ) else (
   if p1 = (4 : Int32) then (
    f_X11_isVowel_27 S
   ) else (
    if p1 = (8 : Int32) then (
     f_X11_isVowel_27 S
    ) else (
     if p1 = (14 : Int32) then (
      f_X11_isVowel_27 S
     ) else (
      if p1 = (20 : Int32) then (
       f_X11_isVowel_27 S
      ) else (
       some ((0 : Int32), S)
      )
     )
    )
   )
  )
set_option maxRecDepth 20000 in
theorem b_X11_isVowel {X : CX} {E : FE} (M0 : MF X E RX11 cX11_isVowel 2 1 (some .boolean)) (p1 : Int32) (S : Mm) : At X E false (mQi X Z1 E) 0 [some (.ref 239), some (.int p1)] [] Z1 S 0 0 (f_X11_isVowel p1 S) := by
  have F := M0.1
  unfold f_X11_isVowel
  refine a_iload_n F dX11_isVowel_0 rfl rfl ?_
  refine a_if_eq F 27 dX11_isVowel_1 (by decide) ?_ ?_
  · refine a_mask [false, false] (L' := [none, none]) rfl rfl ?_
    exact b_X11_isVowel_27 M0 S
  · refine a_iload_n F dX11_isVowel_4 rfl rfl ?_
    refine a_iconst F dX11_isVowel_5 ki_4 ?_
    refine a_icmp_eq F 27 dX11_isVowel_6 (by decide) ?_ ?_
    · refine a_mask [false, false] (L' := [none, none]) rfl rfl ?_
      exact b_X11_isVowel_27 M0 S
    · refine a_iload_n F dX11_isVowel_9 rfl rfl ?_
      refine a_bipush F dX11_isVowel_10 kb_8 ?_
      refine a_icmp_eq F 27 dX11_isVowel_12 (by decide) ?_ ?_
      · refine a_mask [false, false] (L' := [none, none]) rfl rfl ?_
        exact b_X11_isVowel_27 M0 S
      · refine a_iload_n F dX11_isVowel_15 rfl rfl ?_
        refine a_bipush F dX11_isVowel_16 kb_14 ?_
        refine a_icmp_eq F 27 dX11_isVowel_18 (by decide) ?_ ?_
        · refine a_mask [false, false] (L' := [none, none]) rfl rfl ?_
          exact b_X11_isVowel_27 M0 S
        · refine a_iload_n F dX11_isVowel_21 rfl rfl ?_
          refine a_bipush F dX11_isVowel_22 kb_20 ?_
          refine a_icmp_ne F 31 dX11_isVowel_24 (by decide) ?_ ?_
          · refine a_mask [false, false] (L' := [none, none]) rfl rfl ?_
            exact b_X11_isVowel_27 M0 S
          · refine a_iconst F dX11_isVowel_31 ki_0 ?_
            exact a_zretK F M0.2.2.1 M0.2.2.2 dX11_isVowel_32 (Or.inl rfl)
theorem c_X11_isVowel (X : CX) (p1 : Int32) (S : Mm) : CtI X Z1 yX11_isVowel cX11_isVowel 2 (some .boolean) 1 [.ref 239, .int p1] S (f_X11_isVowel p1 S) :=
  ctI_of (by decide +kernel) rfl (Nat.le_of_ble_eq_true rfl) (by simp [Value.category]) z1len fun E F R hra hlk => b_X11_isVowel ⟨F, R, hra, hlk⟩ p1 S
def f_X11_isChild_24 (S : Mm) : Option (Int32 × Mm) :=
  some ((1 : Int32), S)
set_option maxRecDepth 20000 in
theorem b_X11_isChild_24 {X : CX} {E : FE} (M0 : MF X E RX11 cX11_isChild 3 1 (some .boolean)) (S : Mm) : At X E false (mQi X Z1 E) 24 [none, none, none] [] Z1 S 0 0 (f_X11_isChild_24 S) := by
  have F := M0.1
  unfold f_X11_isChild_24
  refine a_iconst F dX11_isChild_24 ki_1 ?_
  refine a_goto F 29 dX11_isChild_25 (by decide) ?_
  exact a_zretK F M0.2.2.1 M0.2.2.2 dX11_isChild_29 (Or.inr rfl)
def f_X11_isChild (p1 p2 : Int32) (S : Mm) : Option (Int32 × Mm) :=
  gd (inB p1 12 = true) <|
  if ((S 243 (ix p1)) - (1 : Int32)) = p2 then (
   f_X11_isChild_24 S
  ) else (
   gd (inB p1 12 = true) <|
   if ((S 244 (ix p1)) - (1 : Int32)) = p2 then (
    f_X11_isChild_24 S
   ) else (
    some ((0 : Int32), S)
   )
  )
set_option maxRecDepth 20000 in
theorem b_X11_isChild {X : CX} {E : FE} (M0 : MF X E RX11 cX11_isChild 3 1 (some .boolean)) (p1 p2 : Int32) (S : Mm) : At X E false (mQi X Z1 E) 0 [some (.ref 239), some (.int p1), some (.int p2)] [] Z1 S 0 0 (f_X11_isChild p1 p2 S) := by
  have F := M0.1
  unfold f_X11_isChild
  refine a_aload_n F dX11_isChild_0 rfl rfl ?_
  refine a_getR (k := 7) F cfX11 dX11_isChild_1 fl_X11_19 (by decide) fi_11_7 zl_239 zk_239 zr_239_7 ?_
  refine a_iload_n F dX11_isChild_4 rfl rfl ?_
  refine a_gd (a_iald F dX11_isChild_5 zl_243 zk_243 ?_)
  refine a_iconst F dX11_isChild_6 ki_1 ?_
  refine a_isub F dX11_isChild_7 ?_
  refine a_iload_n F dX11_isChild_8 rfl rfl ?_
  refine a_icmp_eq F 24 dX11_isChild_9 (by decide) ?_ ?_
  · refine a_mask [false, false, false] (L' := [none, none, none]) rfl rfl ?_
    exact b_X11_isChild_24 M0 S
  · refine a_aload_n F dX11_isChild_12 rfl rfl ?_
    refine a_getR (k := 8) F cfX11 dX11_isChild_13 fl_X11_22 (by decide) fi_11_8 zl_239 zk_239 zr_239_8 ?_
    refine a_iload_n F dX11_isChild_16 rfl rfl ?_
    refine a_gd (a_iald F dX11_isChild_17 zl_244 zk_244 ?_)
    refine a_iconst F dX11_isChild_18 ki_1 ?_
    refine a_isub F dX11_isChild_19 ?_
    refine a_iload_n F dX11_isChild_20 rfl rfl ?_
    refine a_icmp_ne F 28 dX11_isChild_21 (by decide) ?_ ?_
    · refine a_mask [false, false, false] (L' := [none, none, none]) rfl rfl ?_
      exact b_X11_isChild_24 M0 S
    · refine a_iconst F dX11_isChild_28 ki_0 ?_
      exact a_zretK F M0.2.2.1 M0.2.2.2 dX11_isChild_29 (Or.inl rfl)
theorem c_X11_isChild (X : CX) (p1 p2 : Int32) (S : Mm) : CtI X Z1 yX11_isChild cX11_isChild 3 (some .boolean) 1 [.ref 239, .int p1, .int p2] S (f_X11_isChild p1 p2 S) :=
  ctI_of (by decide +kernel) rfl (Nat.le_of_ble_eq_true rfl) (by simp [Value.category]) z1len fun E F R hra hlk => b_X11_isChild ⟨F, R, hra, hlk⟩ p1 p2 S
def f_X11_ownedBy_25 (k4 : Int32 → Int32 → Int32 → Mm → Option (Int32 × Mm)) (x1 x2 x3 : Int32) (S : Mm) : Option (Int32 × Mm) :=
  nm (x3 + (1 : Int32)) fun x3_1 =>
  k4 x1 x2 x3_1 S
set_option maxRecDepth 20000 in
theorem b_X11_ownedBy_25 {X : CX} {E : FE} (M0 : MF X E RX11 cX11_ownedBy 4 2 (some .int)) {k4 : Int32 → Int32 → Int32 → Mm → Option (Int32 × Mm)} (hk4 : ∀ (x1 x2 x3 : Int32) (S : Mm), At X E false (mQi X Z1 E) 4 [some (.ref 239), some (.int x1), some (.int x2), some (.int x3)] [] Z1 S 0 0 (k4 x1 x2 x3 S)) (x1 x2 x3 : Int32) (S : Mm) : At X E false (mQi X Z1 E) 25 [some (.ref 239), some (.int x1), some (.int x2), some (.int x3)] [] Z1 S 0 0 (f_X11_ownedBy_25 k4 x1 x2 x3 S) := by
  have F := M0.1
  unfold f_X11_ownedBy_25
  refine a_iincN (L' := fun x3_1 => [some (.ref 239), some (.int x1), some (.int x2), some (.int x3_1)]) F dX11_ownedBy_25 rfl ki_1 (lt_b rfl) (fun _ => rfl) (fun x3_1 => ?_)
  refine a_goto F 4 dX11_ownedBy_28 (by decide) ?_
  exact hk4 x1 x2 x3_1 S
def f_X11_ownedBy_4b (k4 : Int32 → Int32 → Int32 → Mm → Option (Int32 × Mm)) (x1 x2 x3 : Int32) (S : Mm) : Option (Int32 × Mm) :=
  if (28 : Int32) ≤ x3 then (
   some (x2, S)
  ) else (
   (f_X11_ownerOf x3 S).bind fun q_1 =>
   if q_1.1 = x1 then (
    nm ((x2 ||| (shl (1 : Int32) x3))) fun x2_2 =>
    f_X11_ownedBy_25 k4 x1 x2_2 x3 q_1.2
   ) else (
    f_X11_ownedBy_25 k4 x1 x2 x3 q_1.2
   )
  )
set_option maxRecDepth 20000 in
theorem b_X11_ownedBy_4b {X : CX} {E : FE} (M0 : MF X E RX11 cX11_ownedBy 4 2 (some .int)) {k4 : Int32 → Int32 → Int32 → Mm → Option (Int32 × Mm)} (hk4 : ∀ (x1 x2 x3 : Int32) (S : Mm), At X E false (mQi X Z1 E) 4 [some (.ref 239), some (.int x1), some (.int x2), some (.int x3)] [] Z1 S 0 0 (k4 x1 x2 x3 S)) (x1 x2 x3 : Int32) (S : Mm) : At X E false (mQi X Z1 E) 4 [some (.ref 239), some (.int x1), some (.int x2), some (.int x3)] [] Z1 S 0 0 (f_X11_ownedBy_4b k4 x1 x2 x3 S) := by
  have F := M0.1
  unfold f_X11_ownedBy_4b
  refine a_iload_n F dX11_ownedBy_4 rfl rfl ?_
  refine a_bipush F dX11_ownedBy_5 kb_28 ?_
  refine a_icmp_ge F 31 dX11_ownedBy_7 (by decide) ?_ ?_
  · refine a_iload_n F dX11_ownedBy_31 rfl rfl ?_
    exact a_iret F M0.2.2.1 M0.2.2.2 dX11_ownedBy_32
  · refine a_aload_n F dX11_ownedBy_10 rfl rfl ?_
    refine a_iload_n F dX11_ownedBy_11 rfl rfl ?_
    refine a_callVI F (As := [.int x3]) cfX11 rfl (c_X11_ownerOf X x3 S) mw_X11_ownerOf ml_X11_160 im_X11_ownerOf se_X11_ownerOf M0.2.1 (Nat.le_of_ble_eq_true rfl) ⟨Nat.zero_le _, Nat.zero_le _⟩ rfl rfl (Nat.le_of_ble_eq_true rfl) zl_239 zk_239 dX11_ownedBy_12 rfl (fun q_1 => ?_)
    refine a_iload_n F dX11_ownedBy_15 rfl rfl ?_
    refine a_icmp_ne F 25 dX11_ownedBy_16 (by decide) ?_ ?_
    · refine a_iload_n F dX11_ownedBy_19 rfl rfl ?_
      refine a_iconst F dX11_ownedBy_20 ki_1 ?_
      refine a_iload_n F dX11_ownedBy_21 rfl rfl ?_
      refine a_ishl F dX11_ownedBy_22 ?_
      refine a_ior F dX11_ownedBy_23 ?_
      refine a_istore_nN (L' := fun x2_2 => [some (.ref 239), some (.int x1), some (.int x2_2), some (.int x3)]) F dX11_ownedBy_24 rfl (lt_b rfl) (fun _ => rfl) (fun x2_2 => ?_)
      exact b_X11_ownedBy_25 M0 hk4 x1 x2_2 x3 q_1.2
    · exact b_X11_ownedBy_25 M0 hk4 x1 x2 x3 q_1.2
def f_X11_ownedBy_4 : Nat → Int32 → Int32 → Int32 → Mm → Option (Int32 × Mm) :=
  itr (fun _ _ _ _ => none) (fun k => f_X11_ownedBy_4b k)
theorem b_X11_ownedBy_4 {X : CX} {E : FE} (M0 : MF X E RX11 cX11_ownedBy 4 2 (some .int)) : ∀ (n : Nat) (x1 x2 x3 : Int32) (S : Mm), At X E false (mQi X Z1 E) 4 [some (.ref 239), some (.int x1), some (.int x2), some (.int x3)] [] Z1 S 0 0 (f_X11_ownedBy_4  n x1 x2 x3 S) := by
  intro n
  induction n with
  | zero => intros; exact a_none
  | succ n ih => intro x1 x2 x3 S; exact b_X11_ownedBy_4b M0 ih x1 x2 x3 S
def f_X11_ownedBy (p1 : Int32) (S : Mm) : Option (Int32 × Mm) :=
  f_X11_ownedBy_4 FU p1 (0 : Int32) (0 : Int32) S
set_option maxRecDepth 20000 in
theorem b_X11_ownedBy {X : CX} {E : FE} (M0 : MF X E RX11 cX11_ownedBy 4 2 (some .int)) (p1 : Int32) (S : Mm) : At X E false (mQi X Z1 E) 0 [some (.ref 239), some (.int p1), none, none] [] Z1 S 0 0 (f_X11_ownedBy p1 S) := by
  have F := M0.1
  unfold f_X11_ownedBy
  refine a_iconst F dX11_ownedBy_0 ki_0 ?_
  refine a_istore_n (L' := [some (.ref 239), some (.int p1), some (.int (0 : Int32)), none]) F dX11_ownedBy_1 rfl (lt_b rfl) rfl ?_
  refine a_iconst F dX11_ownedBy_2 ki_0 ?_
  refine a_istore_n (L' := [some (.ref 239), some (.int p1), some (.int (0 : Int32)), some (.int (0 : Int32))]) F dX11_ownedBy_3 rfl (lt_b rfl) rfl ?_
  exact b_X11_ownedBy_4 M0 FU p1 (0 : Int32) (0 : Int32) S
theorem c_X11_ownedBy (X : CX) (p1 : Int32) (S : Mm) : CtI X Z1 yX11_ownedBy cX11_ownedBy 4 (some .int) 2 [.ref 239, .int p1] S (f_X11_ownedBy p1 S) :=
  ctI_of (by decide +kernel) rfl (Nat.le_of_ble_eq_true rfl) (by simp [Value.category]) z1len fun E F R hra hlk => b_X11_ownedBy ⟨F, R, hra, hlk⟩ p1 S
def f_X11_twoOf (p1 p2 p3 : Int32) (S : Mm) : Option (Int32 × Mm) :=
  if p1 = (2 : Int32) then (
   some ((p2 + p3), S)
  ) else (
   if p1 = (3 : Int32) then (
    some ((p2 - p3), S)
   ) else (
    if p1 = (4 : Int32) then (
     some ((p2 * p3), S)
    ) else (
     if p1 = (5 : Int32) then (
      if p3 = 0 then none else
      some ((p2 / p3), S)
     ) else (
      if p1 = (6 : Int32) then (
       if p3 ≤ p2 then (
        some ((0 : Int32), S)
       ) else (
        some ((1 : Int32), S)
       )
      ) else (
       if p1 = (7 : Int32) then (
        if p2 = p3 then (
         some ((1 : Int32), S)
        ) else (
         some ((0 : Int32), S)
        )
       ) else (
        if p1 = (8 : Int32) then (
         if p2 ≤ p3 then (
          some ((0 : Int32), S)
         ) else (
          some ((1 : Int32), S)
         )
        ) else (
         if p1 = (10 : Int32) then (
          some ((p2 * p3), S)
         ) else (
          if (p2 + p3) ≤ 0 then (
           some ((0 : Int32), S)
          ) else (
           some ((1 : Int32), S)
          )
         )
        )
       )
      )
     )
    )
   )
  )
set_option maxRecDepth 20000 in
theorem b_X11_twoOf {X : CX} {E : FE} (M0 : MF X E RX11 cX11_twoOf 4 1 (some .int)) (p1 p2 p3 : Int32) (S : Mm) : At X E false (mQi X Z1 E) 0 [some (.ref 239), some (.int p1), some (.int p2), some (.int p3)] [] Z1 S 0 0 (f_X11_twoOf p1 p2 p3 S) := by
  have F := M0.1
  unfold f_X11_twoOf
  refine a_iload_n F dX11_twoOf_0 rfl rfl ?_
  refine a_iconst F dX11_twoOf_1 ki_2 ?_
  refine a_icmp_ne F 9 dX11_twoOf_2 (by decide) ?_ ?_
  · refine a_iload_n F dX11_twoOf_5 rfl rfl ?_
    refine a_iload_n F dX11_twoOf_6 rfl rfl ?_
    refine a_iadd F dX11_twoOf_7 ?_
    exact a_iret F M0.2.2.1 M0.2.2.2 dX11_twoOf_8
  · refine a_iload_n F dX11_twoOf_9 rfl rfl ?_
    refine a_iconst F dX11_twoOf_10 ki_3 ?_
    refine a_icmp_ne F 18 dX11_twoOf_11 (by decide) ?_ ?_
    · refine a_iload_n F dX11_twoOf_14 rfl rfl ?_
      refine a_iload_n F dX11_twoOf_15 rfl rfl ?_
      refine a_isub F dX11_twoOf_16 ?_
      exact a_iret F M0.2.2.1 M0.2.2.2 dX11_twoOf_17
    · refine a_iload_n F dX11_twoOf_18 rfl rfl ?_
      refine a_iconst F dX11_twoOf_19 ki_4 ?_
      refine a_icmp_ne F 27 dX11_twoOf_20 (by decide) ?_ ?_
      · refine a_iload_n F dX11_twoOf_23 rfl rfl ?_
        refine a_iload_n F dX11_twoOf_24 rfl rfl ?_
        refine a_imul F dX11_twoOf_25 ?_
        exact a_iret F M0.2.2.1 M0.2.2.2 dX11_twoOf_26
      · refine a_iload_n F dX11_twoOf_27 rfl rfl ?_
        refine a_iconst F dX11_twoOf_28 ki_5 ?_
        refine a_icmp_ne F 36 dX11_twoOf_29 (by decide) ?_ ?_
        · refine a_iload_n F dX11_twoOf_32 rfl rfl ?_
          refine a_iload_n F dX11_twoOf_33 rfl rfl ?_
          refine a_idiv F dX11_twoOf_34 ?_
          exact a_iret F M0.2.2.1 M0.2.2.2 dX11_twoOf_35
        · refine a_iload_n F dX11_twoOf_36 rfl rfl ?_
          refine a_bipush F dX11_twoOf_37 kb_6 ?_
          refine a_icmp_ne F 53 dX11_twoOf_39 (by decide) ?_ ?_
          · refine a_iload_n F dX11_twoOf_42 rfl rfl ?_
            refine a_iload_n F dX11_twoOf_43 rfl rfl ?_
            refine a_icmp_ge F 51 dX11_twoOf_44 (by decide) ?_ ?_
            · refine a_iconst F dX11_twoOf_51 ki_0 ?_
              exact a_iret F M0.2.2.1 M0.2.2.2 dX11_twoOf_52
            · refine a_iconst F dX11_twoOf_47 ki_1 ?_
              refine a_goto F 52 dX11_twoOf_48 (by decide) ?_
              exact a_iret F M0.2.2.1 M0.2.2.2 dX11_twoOf_52
          · refine a_iload_n F dX11_twoOf_53 rfl rfl ?_
            refine a_bipush F dX11_twoOf_54 kb_7 ?_
            refine a_icmp_ne F 70 dX11_twoOf_56 (by decide) ?_ ?_
            · refine a_iload_n F dX11_twoOf_59 rfl rfl ?_
              refine a_iload_n F dX11_twoOf_60 rfl rfl ?_
              refine a_icmp_ne F 68 dX11_twoOf_61 (by decide) ?_ ?_
              · refine a_iconst F dX11_twoOf_64 ki_1 ?_
                refine a_goto F 69 dX11_twoOf_65 (by decide) ?_
                exact a_iret F M0.2.2.1 M0.2.2.2 dX11_twoOf_69
              · refine a_iconst F dX11_twoOf_68 ki_0 ?_
                exact a_iret F M0.2.2.1 M0.2.2.2 dX11_twoOf_69
            · refine a_iload_n F dX11_twoOf_70 rfl rfl ?_
              refine a_bipush F dX11_twoOf_71 kb_8 ?_
              refine a_icmp_ne F 87 dX11_twoOf_73 (by decide) ?_ ?_
              · refine a_iload_n F dX11_twoOf_76 rfl rfl ?_
                refine a_iload_n F dX11_twoOf_77 rfl rfl ?_
                refine a_icmp_le F 85 dX11_twoOf_78 (by decide) ?_ ?_
                · refine a_iconst F dX11_twoOf_85 ki_0 ?_
                  exact a_iret F M0.2.2.1 M0.2.2.2 dX11_twoOf_86
                · refine a_iconst F dX11_twoOf_81 ki_1 ?_
                  refine a_goto F 86 dX11_twoOf_82 (by decide) ?_
                  exact a_iret F M0.2.2.1 M0.2.2.2 dX11_twoOf_86
              · refine a_iload_n F dX11_twoOf_87 rfl rfl ?_
                refine a_bipush F dX11_twoOf_88 kb_10 ?_
                refine a_icmp_ne F 99 dX11_twoOf_90 (by decide) ?_ ?_
                · refine a_iload_n F dX11_twoOf_93 rfl rfl ?_
                  refine a_iload_n F dX11_twoOf_94 rfl rfl ?_
                  refine a_imul F dX11_twoOf_95 ?_
                  refine a_goto F 110 dX11_twoOf_96 (by decide) ?_
                  exact a_iret F M0.2.2.1 M0.2.2.2 dX11_twoOf_110
                · refine a_iload_n F dX11_twoOf_99 rfl rfl ?_
                  refine a_iload_n F dX11_twoOf_100 rfl rfl ?_
                  refine a_iadd F dX11_twoOf_101 ?_
                  refine a_if_le F 109 dX11_twoOf_102 (by decide) ?_ ?_
                  · refine a_iconst F dX11_twoOf_109 ki_0 ?_
                    exact a_iret F M0.2.2.1 M0.2.2.2 dX11_twoOf_110
                  · refine a_iconst F dX11_twoOf_105 ki_1 ?_
                    refine a_goto F 110 dX11_twoOf_106 (by decide) ?_
                    exact a_iret F M0.2.2.1 M0.2.2.2 dX11_twoOf_110
theorem c_X11_twoOf (X : CX) (p1 p2 p3 : Int32) (S : Mm) : CtI X Z1 yX11_twoOf cX11_twoOf 4 (some .int) 1 [.ref 239, .int p1, .int p2, .int p3] S (f_X11_twoOf p1 p2 p3 S) :=
  ctI_of (by decide +kernel) rfl (Nat.le_of_ble_eq_true rfl) (by simp [Value.category]) z1len fun E F R hra hlk => b_X11_twoOf ⟨F, R, hra, hlk⟩ p1 p2 p3 S
def f_X11_runs_147 (k5 : Int32 → Int32 → Int32 → Mm → Option (Int32 × Mm)) (x2 x3 x4 : Int32) (S : Mm) : Option (Int32 × Mm) :=
  nm (x4 + (1 : Int32)) fun x4_1 =>
  k5 x2 x3 x4_1 S
set_option maxRecDepth 20000 in
theorem b_X11_runs_147 {X : CX} {E : FE} (M0 : MF X E RX11 cX11_runs 5 2 (some .int)) {k5 : Int32 → Int32 → Int32 → Mm → Option (Int32 × Mm)} (hk5 : ∀ (x2 x3 x4 : Int32) (S : Mm), At X E false (mQi X Z1 E) 5 [some (.ref 239), none, some (.int x2), some (.int x3), some (.int x4)] [] Z1 S 0 0 (k5 x2 x3 x4 S)) (x2 x3 x4 : Int32) (S : Mm) : At X E false (mQi X Z1 E) 147 [some (.ref 239), none, some (.int x2), some (.int x3), some (.int x4)] [] Z1 S 0 0 (f_X11_runs_147 k5 x2 x3 x4 S) := by
  have F := M0.1
  unfold f_X11_runs_147
  refine a_iincN (L' := fun x4_1 => [some (.ref 239), none, some (.int x2), some (.int x3), some (.int x4_1)]) F dX11_runs_147 rfl ki_1 (lt_b rfl) (fun _ => rfl) (fun x4_1 => ?_)
  refine a_goto F 5 dX11_runs_150 (by decide) ?_
  exact hk5 x2 x3 x4_1 S
def f_X11_runs_69 (k5 : Int32 → Int32 → Int32 → Mm → Option (Int32 × Mm)) (x2 x3 x4 t1 t2 : Int32) (S : Mm) : Option (Int32 × Mm) :=
  gd (inB t1 420 = true) <|
  nm (uM S 266 (ix t1) t2) fun S_1 =>
  nm ((x3 + (1 : Int32))) fun x3_2 =>
  f_X11_runs_147 k5 x2 x3_2 x4 S_1
set_option maxRecDepth 20000 in
theorem b_X11_runs_69 {X : CX} {E : FE} (M0 : MF X E RX11 cX11_runs 5 2 (some .int)) {k5 : Int32 → Int32 → Int32 → Mm → Option (Int32 × Mm)} (hk5 : ∀ (x2 x3 x4 : Int32) (S : Mm), At X E false (mQi X Z1 E) 5 [some (.ref 239), none, some (.int x2), some (.int x3), some (.int x4)] [] Z1 S 0 0 (k5 x2 x3 x4 S)) (x2 x3 x4 t1 t2 : Int32) (S : Mm) : At X E false (mQi X Z1 E) 69 [some (.ref 239), none, some (.int x2), some (.int x3), some (.int x4)] [.int t2, .int t1, .ref 266] Z1 S 0 0 (f_X11_runs_69 k5 x2 x3 x4 t1 t2 S) := by
  have F := M0.1
  unfold f_X11_runs_69
  refine a_gd (a_iast F dX11_runs_69 zl_266 zk_266 ?_)
  refine a_nmS (fun S_1 => ?_)
  refine a_iload_n F dX11_runs_70 rfl rfl ?_
  refine a_iconst F dX11_runs_71 ki_1 ?_
  refine a_iadd F dX11_runs_72 ?_
  refine a_istore_nN (L' := fun x3_2 => [some (.ref 239), none, some (.int x2), some (.int x3_2), some (.int x4)]) F dX11_runs_73 rfl (lt_b rfl) (fun _ => rfl) (fun x3_2 => ?_)
  refine a_goto F 147 dX11_runs_74 (by decide) ?_
  exact b_X11_runs_147 M0 hk5 x2 x3_2 x4 S_1
def f_X11_runs_32 (k5 : Int32 → Int32 → Int32 → Mm → Option (Int32 × Mm)) (x2 x3 x4 : Int32) (S : Mm) : Option (Int32 × Mm) :=
  gd (inB x4 800 = true) <|
  if (S 255 (ix x4)) = 0 then (
   gd (inB x4 800 = true) <|
   f_X11_runs_69 k5 x2 x3 x4 x3 (S 256 (ix x4)) S
  ) else (
   gd (inB x4 800 = true) <|
   gd (inB (S 256 (ix x4)) 10 = true) <|
   f_X11_runs_69 k5 x2 x3 x4 x3 (S 265 (ix (S 256 (ix x4)))) S
  )
set_option maxRecDepth 20000 in
theorem b_X11_runs_32 {X : CX} {E : FE} (M0 : MF X E RX11 cX11_runs 5 2 (some .int)) {k5 : Int32 → Int32 → Int32 → Mm → Option (Int32 × Mm)} (hk5 : ∀ (x2 x3 x4 : Int32) (S : Mm), At X E false (mQi X Z1 E) 5 [some (.ref 239), none, some (.int x2), some (.int x3), some (.int x4)] [] Z1 S 0 0 (k5 x2 x3 x4 S)) (x2 x3 x4 : Int32) (S : Mm) : At X E false (mQi X Z1 E) 32 [some (.ref 239), none, some (.int x2), some (.int x3), some (.int x4)] [] Z1 S 0 0 (f_X11_runs_32 k5 x2 x3 x4 S) := by
  have F := M0.1
  unfold f_X11_runs_32
  refine a_aload_n F dX11_runs_32 rfl rfl ?_
  refine a_getR (k := 45) F cfX11 dX11_runs_33 fl_X11_92 (by decide) fi_11_45 zl_239 zk_239 zr_239_45 ?_
  refine a_iload_n F dX11_runs_36 rfl rfl ?_
  refine a_aload_n F dX11_runs_37 rfl rfl ?_
  refine a_getR (k := 26) F cfX11 dX11_runs_38 fl_X11_55 (by decide) fi_11_26 zl_239 zk_239 zr_239_26 ?_
  refine a_iload F dX11_runs_41 rfl ?_
  refine a_gd (a_iald F dX11_runs_43 zl_255 zk_255 ?_)
  refine a_if_ne F 57 dX11_runs_44 (by decide) ?_ ?_
  · refine a_aload_n F dX11_runs_47 rfl rfl ?_
    refine a_getR (k := 27) F cfX11 dX11_runs_48 fl_X11_58 (by decide) fi_11_27 zl_239 zk_239 zr_239_27 ?_
    refine a_iload F dX11_runs_51 rfl ?_
    refine a_gd (a_iald F dX11_runs_53 zl_256 zk_256 ?_)
    refine a_goto F 69 dX11_runs_54 (by decide) ?_
    exact b_X11_runs_69 M0 hk5 x2 x3 x4 x3 (S 256 (ix x4)) S
  · refine a_aload_n F dX11_runs_57 rfl rfl ?_
    refine a_getR (k := 44) F cfX11 dX11_runs_58 fl_X11_89 (by decide) fi_11_44 zl_239 zk_239 zr_239_44 ?_
    refine a_aload_n F dX11_runs_61 rfl rfl ?_
    refine a_getR (k := 27) F cfX11 dX11_runs_62 fl_X11_58 (by decide) fi_11_27 zl_239 zk_239 zr_239_27 ?_
    refine a_iload F dX11_runs_65 rfl ?_
    refine a_gd (a_iald F dX11_runs_67 zl_256 zk_256 ?_)
    refine a_gd (a_iald F dX11_runs_68 zl_265 zk_265 ?_)
    exact b_X11_runs_69 M0 hk5 x2 x3 x4 x3 (S 265 (ix (S 256 (ix x4)))) S
def f_X11_runs_5b (k5 : Int32 → Int32 → Int32 → Mm → Option (Int32 × Mm)) (x2 x3 x4 : Int32) (S : Mm) : Option (Int32 × Mm) :=
  if x2 ≤ x4 then (
   some ((S 266 0), S)
  ) else (
   gd (inB x4 800 = true) <|
   if (S 255 (ix x4)) = 0 then (
    f_X11_runs_32 k5 x2 x3 x4 S
   ) else (
    gd (inB x4 800 = true) <|
    if (S 255 (ix x4)) = (1 : Int32) then (
     f_X11_runs_32 k5 x2 x3 x4 S
    ) else (
     gd (inB x4 800 = true) <|
     if (S 255 (ix x4)) = (9 : Int32) then (
      gd (inB (x3 - (1 : Int32)) 420 = true) <|
      gd (inB (x3 - (1 : Int32)) 420 = true) <|
      nm (uM S 266 (ix (x3 - (1 : Int32))) ((1 : Int32) - (S 266 (ix (x3 - (1 : Int32)))))) fun S_1 =>
      f_X11_runs_147 k5 x2 x3 x4 S_1
     ) else (
      nm ((x3 - (1 : Int32))) fun x3_2 =>
      gd (inB x4 800 = true) <|
      gd (inB (x3_2 - (1 : Int32)) 420 = true) <|
      gd (inB x3_2 420 = true) <|
      (f_X11_twoOf (S 255 (ix x4)) (S 266 (ix (x3_2 - (1 : Int32)))) (S 266 (ix x3_2)) S).bind fun q_3 =>
      gd (inB (x3_2 - (1 : Int32)) 420 = true) <|
      nm (uM q_3.2 266 (ix (x3_2 - (1 : Int32))) q_3.1) fun S_4 =>
      f_X11_runs_147 k5 x2 x3_2 x4 S_4
     )
    )
   )
  )
set_option maxRecDepth 20000 in
theorem b_X11_runs_5b {X : CX} {E : FE} (M0 : MF X E RX11 cX11_runs 5 2 (some .int)) {k5 : Int32 → Int32 → Int32 → Mm → Option (Int32 × Mm)} (hk5 : ∀ (x2 x3 x4 : Int32) (S : Mm), At X E false (mQi X Z1 E) 5 [some (.ref 239), none, some (.int x2), some (.int x3), some (.int x4)] [] Z1 S 0 0 (k5 x2 x3 x4 S)) (x2 x3 x4 : Int32) (S : Mm) : At X E false (mQi X Z1 E) 5 [some (.ref 239), none, some (.int x2), some (.int x3), some (.int x4)] [] Z1 S 0 0 (f_X11_runs_5b k5 x2 x3 x4 S) := by
  have F := M0.1
  unfold f_X11_runs_5b
  refine a_iload F dX11_runs_5 rfl ?_
  refine a_iload_n F dX11_runs_7 rfl rfl ?_
  refine a_icmp_ge F 153 dX11_runs_8 (by decide) ?_ ?_
  · refine a_aload_n F dX11_runs_153 rfl rfl ?_
    refine a_getR (k := 45) F cfX11 dX11_runs_154 fl_X11_92 (by decide) fi_11_45 zl_239 zk_239 zr_239_45 ?_
    refine a_iconst F dX11_runs_157 ki_0 ?_
    refine a_ialdK F 0 dX11_runs_158 zl_266 zk_266 ib_0_420 ix_0 ?_
    exact a_iret F M0.2.2.1 M0.2.2.2 dX11_runs_159
  · refine a_aload_n F dX11_runs_11 rfl rfl ?_
    refine a_getR (k := 26) F cfX11 dX11_runs_12 fl_X11_55 (by decide) fi_11_26 zl_239 zk_239 zr_239_26 ?_
    refine a_iload F dX11_runs_15 rfl ?_
    refine a_gd (a_iald F dX11_runs_17 zl_255 zk_255 ?_)
    refine a_if_eq F 32 dX11_runs_18 (by decide) ?_ ?_
    · exact b_X11_runs_32 M0 hk5 x2 x3 x4 S
    · refine a_aload_n F dX11_runs_21 rfl rfl ?_
      refine a_getR (k := 26) F cfX11 dX11_runs_22 fl_X11_55 (by decide) fi_11_26 zl_239 zk_239 zr_239_26 ?_
      refine a_iload F dX11_runs_25 rfl ?_
      refine a_gd (a_iald F dX11_runs_27 zl_255 zk_255 ?_)
      refine a_iconst F dX11_runs_28 ki_1 ?_
      refine a_icmp_ne F 77 dX11_runs_29 (by decide) ?_ ?_
      · exact b_X11_runs_32 M0 hk5 x2 x3 x4 S
      · refine a_aload_n F dX11_runs_77 rfl rfl ?_
        refine a_getR (k := 26) F cfX11 dX11_runs_78 fl_X11_55 (by decide) fi_11_26 zl_239 zk_239 zr_239_26 ?_
        refine a_iload F dX11_runs_81 rfl ?_
        refine a_gd (a_iald F dX11_runs_83 zl_255 zk_255 ?_)
        refine a_bipush F dX11_runs_84 kb_9 ?_
        refine a_icmp_ne F 110 dX11_runs_86 (by decide) ?_ ?_
        · refine a_aload_n F dX11_runs_89 rfl rfl ?_
          refine a_getR (k := 45) F cfX11 dX11_runs_90 fl_X11_92 (by decide) fi_11_45 zl_239 zk_239 zr_239_45 ?_
          refine a_iload_n F dX11_runs_93 rfl rfl ?_
          refine a_iconst F dX11_runs_94 ki_1 ?_
          refine a_isub F dX11_runs_95 ?_
          refine a_iconst F dX11_runs_96 ki_1 ?_
          refine a_aload_n F dX11_runs_97 rfl rfl ?_
          refine a_getR (k := 45) F cfX11 dX11_runs_98 fl_X11_92 (by decide) fi_11_45 zl_239 zk_239 zr_239_45 ?_
          refine a_iload_n F dX11_runs_101 rfl rfl ?_
          refine a_iconst F dX11_runs_102 ki_1 ?_
          refine a_isub F dX11_runs_103 ?_
          refine a_gd (a_iald F dX11_runs_104 zl_266 zk_266 ?_)
          refine a_isub F dX11_runs_105 ?_
          refine a_gd (a_iast F dX11_runs_106 zl_266 zk_266 ?_)
          refine a_nmS (fun S_1 => ?_)
          refine a_goto F 147 dX11_runs_107 (by decide) ?_
          exact b_X11_runs_147 M0 hk5 x2 x3 x4 S_1
        · refine a_iload_n F dX11_runs_110 rfl rfl ?_
          refine a_iconst F dX11_runs_111 ki_1 ?_
          refine a_isub F dX11_runs_112 ?_
          refine a_istore_nN (L' := fun x3_2 => [some (.ref 239), none, some (.int x2), some (.int x3_2), some (.int x4)]) F dX11_runs_113 rfl (lt_b rfl) (fun _ => rfl) (fun x3_2 => ?_)
          refine a_aload_n F dX11_runs_114 rfl rfl ?_
          refine a_getR (k := 45) F cfX11 dX11_runs_115 fl_X11_92 (by decide) fi_11_45 zl_239 zk_239 zr_239_45 ?_
          refine a_iload_n F dX11_runs_118 rfl rfl ?_
          refine a_iconst F dX11_runs_119 ki_1 ?_
          refine a_isub F dX11_runs_120 ?_
          refine a_aload_n F dX11_runs_121 rfl rfl ?_
          refine a_aload_n F dX11_runs_122 rfl rfl ?_
          refine a_getR (k := 26) F cfX11 dX11_runs_123 fl_X11_55 (by decide) fi_11_26 zl_239 zk_239 zr_239_26 ?_
          refine a_iload F dX11_runs_126 rfl ?_
          refine a_gd (a_iald F dX11_runs_128 zl_255 zk_255 ?_)
          refine a_aload_n F dX11_runs_129 rfl rfl ?_
          refine a_getR (k := 45) F cfX11 dX11_runs_130 fl_X11_92 (by decide) fi_11_45 zl_239 zk_239 zr_239_45 ?_
          refine a_iload_n F dX11_runs_133 rfl rfl ?_
          refine a_iconst F dX11_runs_134 ki_1 ?_
          refine a_isub F dX11_runs_135 ?_
          refine a_gd (a_iald F dX11_runs_136 zl_266 zk_266 ?_)
          refine a_aload_n F dX11_runs_137 rfl rfl ?_
          refine a_getR (k := 45) F cfX11 dX11_runs_138 fl_X11_92 (by decide) fi_11_45 zl_239 zk_239 zr_239_45 ?_
          refine a_iload_n F dX11_runs_141 rfl rfl ?_
          refine a_gd (a_iald F dX11_runs_142 zl_266 zk_266 ?_)
          refine a_callVI F (As := [.int (S 255 (ix x4)), .int (S 266 (ix (x3_2 - (1 : Int32)))), .int (S 266 (ix x3_2))]) cfX11 rfl (c_X11_twoOf X (S 255 (ix x4)) (S 266 (ix (x3_2 - (1 : Int32)))) (S 266 (ix x3_2)) S) mw_X11_twoOf ml_X11_308 im_X11_twoOf se_X11_twoOf M0.2.1 (Nat.le_of_ble_eq_true rfl) ⟨Nat.zero_le _, Nat.zero_le _⟩ rfl rfl (Nat.le_of_ble_eq_true rfl) zl_239 zk_239 dX11_runs_143 rfl (fun q_3 => ?_)
          refine a_gd (a_iast F dX11_runs_146 zl_266 zk_266 ?_)
          refine a_nmS (fun S_4 => ?_)
          exact b_X11_runs_147 M0 hk5 x2 x3_2 x4 S_4
def f_X11_runs_5 : Nat → Int32 → Int32 → Int32 → Mm → Option (Int32 × Mm) :=
  itr (fun _ _ _ _ => none) (fun k => f_X11_runs_5b k)
theorem b_X11_runs_5 {X : CX} {E : FE} (M0 : MF X E RX11 cX11_runs 5 2 (some .int)) : ∀ (n : Nat) (x2 x3 x4 : Int32) (S : Mm), At X E false (mQi X Z1 E) 5 [some (.ref 239), none, some (.int x2), some (.int x3), some (.int x4)] [] Z1 S 0 0 (f_X11_runs_5  n x2 x3 x4 S) := by
  intro n
  induction n with
  | zero => intros; exact a_none
  | succ n ih => intro x2 x3 x4 S; exact b_X11_runs_5b M0 ih x2 x3 x4 S
def f_X11_runs (p1 p2 : Int32) (S : Mm) : Option (Int32 × Mm) :=
  f_X11_runs_5 FU p2 (0 : Int32) p1 S
set_option maxRecDepth 20000 in
theorem b_X11_runs {X : CX} {E : FE} (M0 : MF X E RX11 cX11_runs 5 2 (some .int)) (p1 p2 : Int32) (S : Mm) : At X E false (mQi X Z1 E) 0 [some (.ref 239), some (.int p1), some (.int p2), none, none] [] Z1 S 0 0 (f_X11_runs p1 p2 S) := by
  have F := M0.1
  unfold f_X11_runs
  refine a_iconst F dX11_runs_0 ki_0 ?_
  refine a_istore_n (L' := [some (.ref 239), some (.int p1), some (.int p2), some (.int (0 : Int32)), none]) F dX11_runs_1 rfl (lt_b rfl) rfl ?_
  refine a_iload_n F dX11_runs_2 rfl rfl ?_
  refine a_istore (L' := [some (.ref 239), some (.int p1), some (.int p2), some (.int (0 : Int32)), some (.int p1)]) F dX11_runs_3 (lt_b rfl) rfl ?_
  refine a_mask [true, false, true, true, true] (L' := [some (.ref 239), none, some (.int p2), some (.int (0 : Int32)), some (.int p1)]) rfl rfl ?_
  exact b_X11_runs_5 M0 FU p2 (0 : Int32) p1 S
theorem c_X11_runs (X : CX) (p1 p2 : Int32) (S : Mm) : CtI X Z1 yX11_runs cX11_runs 5 (some .int) 2 [.ref 239, .int p1, .int p2] S (f_X11_runs p1 p2 S) :=
  ctI_of (by decide +kernel) rfl (Nat.le_of_ble_eq_true rfl) (by simp [Value.category]) z1len fun E F R hra hlk => b_X11_runs ⟨F, R, hra, hlk⟩ p1 p2 S
def f_X11_isSo_34 (S : Mm) : Option (Int32 × Mm) :=
  some ((1 : Int32), S)
set_option maxRecDepth 20000 in
theorem b_X11_isSo_34 {X : CX} {E : FE} (M0 : MF X E RX11 cX11_isSo 2 3 (some .boolean)) (S : Mm) : At X E false (mQi X Z1 E) 34 [none, none] [] Z1 S 0 0 (f_X11_isSo_34 S) := by
  have F := M0.1
  unfold f_X11_isSo_34
  refine a_iconst F dX11_isSo_34 ki_1 ?_
  refine a_goto F 39 dX11_isSo_35 (by decide) ?_
  exact a_zretK F M0.2.2.1 M0.2.2.2 dX11_isSo_39 (Or.inr rfl)
def f_X11_isSo (p1 : Int32) (S : Mm) : Option (Int32 × Mm) :=
  gd (inB p1 32 = true) <|
  gd (inB p1 32 = true) <|
  if (S 252 (ix p1)) = (S 254 (ix p1)) then (
   f_X11_isSo_34 S
  ) else (
   gd (inB p1 32 = true) <|
   gd (inB p1 32 = true) <|
   (f_X11_runs (S 252 (ix p1)) (S 254 (ix p1)) S).bind fun q_1 =>
   if q_1.1 = 0 then (
    some ((0 : Int32), q_1.2)
   ) else (
    f_X11_isSo_34 q_1.2
   )
  )
set_option maxRecDepth 20000 in
theorem b_X11_isSo {X : CX} {E : FE} (M0 : MF X E RX11 cX11_isSo 2 3 (some .boolean)) (p1 : Int32) (S : Mm) : At X E false (mQi X Z1 E) 0 [some (.ref 239), some (.int p1)] [] Z1 S 0 0 (f_X11_isSo p1 S) := by
  have F := M0.1
  unfold f_X11_isSo
  refine a_aload_n F dX11_isSo_0 rfl rfl ?_
  refine a_getR (k := 23) F cfX11 dX11_isSo_1 fl_X11_46 (by decide) fi_11_23 zl_239 zk_239 zr_239_23 ?_
  refine a_iload_n F dX11_isSo_4 rfl rfl ?_
  refine a_gd (a_iald F dX11_isSo_5 zl_252 zk_252 ?_)
  refine a_aload_n F dX11_isSo_6 rfl rfl ?_
  refine a_getR (k := 25) F cfX11 dX11_isSo_7 fl_X11_52 (by decide) fi_11_25 zl_239 zk_239 zr_239_25 ?_
  refine a_iload_n F dX11_isSo_10 rfl rfl ?_
  refine a_gd (a_iald F dX11_isSo_11 zl_254 zk_254 ?_)
  refine a_icmp_eq F 34 dX11_isSo_12 (by decide) ?_ ?_
  · refine a_mask [false, false] (L' := [none, none]) rfl rfl ?_
    exact b_X11_isSo_34 M0 S
  · refine a_aload_n F dX11_isSo_15 rfl rfl ?_
    refine a_aload_n F dX11_isSo_16 rfl rfl ?_
    refine a_getR (k := 23) F cfX11 dX11_isSo_17 fl_X11_46 (by decide) fi_11_23 zl_239 zk_239 zr_239_23 ?_
    refine a_iload_n F dX11_isSo_20 rfl rfl ?_
    refine a_gd (a_iald F dX11_isSo_21 zl_252 zk_252 ?_)
    refine a_aload_n F dX11_isSo_22 rfl rfl ?_
    refine a_getR (k := 25) F cfX11 dX11_isSo_23 fl_X11_52 (by decide) fi_11_25 zl_239 zk_239 zr_239_25 ?_
    refine a_iload_n F dX11_isSo_26 rfl rfl ?_
    refine a_gd (a_iald F dX11_isSo_27 zl_254 zk_254 ?_)
    refine a_callVI F (As := [.int (S 252 (ix p1)), .int (S 254 (ix p1))]) cfX11 rfl (c_X11_runs X (S 252 (ix p1)) (S 254 (ix p1)) S) mw_X11_runs ml_X11_312 im_X11_runs se_X11_runs M0.2.1 (Nat.le_of_ble_eq_true rfl) ⟨Nat.zero_le _, Nat.zero_le _⟩ rfl rfl (Nat.le_of_ble_eq_true rfl) zl_239 zk_239 dX11_isSo_28 rfl (fun q_1 => ?_)
    refine a_if_eq F 38 dX11_isSo_31 (by decide) ?_ ?_
    · refine a_iconst F dX11_isSo_38 ki_0 ?_
      exact a_zretK F M0.2.2.1 M0.2.2.2 dX11_isSo_39 (Or.inl rfl)
    · refine a_mask [false, false] (L' := [none, none]) rfl rfl ?_
      exact b_X11_isSo_34 M0 q_1.2
theorem c_X11_isSo (X : CX) (p1 : Int32) (S : Mm) : CtI X Z1 yX11_isSo cX11_isSo 2 (some .boolean) 3 [.ref 239, .int p1] S (f_X11_isSo p1 S) :=
  ctI_of (by decide +kernel) rfl (Nat.le_of_ble_eq_true rfl) (by simp [Value.category]) z1len fun E F R hra hlk => b_X11_isSo ⟨F, R, hra, hlk⟩ p1 S
def f_X11_worthOf_163b (k163 : Int32 → Mm → Option (Int32 × Mm)) (x4 : Int32) (S : Mm) : Option (Int32 × Mm) :=
  if (S 239 22) ≤ x4 then (
   some ((0 : Int32), S)
  ) else (
   (f_X11_isSo x4 S).bind fun q_1 =>
   if q_1.1 = 0 then (
    nm (x4 + (1 : Int32)) fun x4_2 =>
    k163 x4_2 q_1.2
   ) else (
    gd (inB x4 32 = true) <|
    gd (inB x4 32 = true) <|
    (f_X11_runs (q_1.2 253 (ix x4)) (q_1.2 252 (ix x4)) q_1.2).bind fun q_3 =>
    some (q_3.1, q_3.2)
   )
  )
set_option maxRecDepth 20000 in
theorem b_X11_worthOf_163b {X : CX} {E : FE} (M0 : MF X E RX11 cX11_worthOf 5 4 (some .int)) {k163 : Int32 → Mm → Option (Int32 × Mm)} (hk163 : ∀ (x4 : Int32) (S : Mm), At X E false (mQi X Z1 E) 163 [some (.ref 239), none, none, none, some (.int x4)] [] Z1 S 0 0 (k163 x4 S)) (x4 : Int32) (S : Mm) : At X E false (mQi X Z1 E) 163 [some (.ref 239), none, none, none, some (.int x4)] [] Z1 S 0 0 (f_X11_worthOf_163b k163 x4 S) := by
  have F := M0.1
  unfold f_X11_worthOf_163b
  refine a_iload F dX11_worthOf_163 rfl ?_
  refine a_aload_n F dX11_worthOf_165 rfl rfl ?_
  refine a_getI (k := 22) F cfX11 dX11_worthOf_166 fl_X11_260 (by decide) fi_11_22 zl_239 zk_239 ?_
  refine a_icmp_ge F 206 dX11_worthOf_169 (by decide) ?_ ?_
  · refine a_iconst F dX11_worthOf_206 ki_0 ?_
    exact a_iret F M0.2.2.1 M0.2.2.2 dX11_worthOf_207
  · refine a_aload_n F dX11_worthOf_172 rfl rfl ?_
    refine a_iload F dX11_worthOf_173 rfl ?_
    refine a_callVI F (As := [.int x4]) cfX11 rfl (c_X11_isSo X x4 S) mw_X11_isSo ml_X11_336 im_X11_isSo se_X11_isSo M0.2.1 (Nat.le_of_ble_eq_true rfl) ⟨Nat.zero_le _, Nat.zero_le _⟩ rfl rfl (Nat.le_of_ble_eq_true rfl) zl_239 zk_239 dX11_worthOf_175 rfl (fun q_1 => ?_)
    refine a_if_eq F 200 dX11_worthOf_178 (by decide) ?_ ?_
    · refine a_iincN (L' := fun x4_2 => [some (.ref 239), none, none, none, some (.int x4_2)]) F dX11_worthOf_200 rfl ki_1 (lt_b rfl) (fun _ => rfl) (fun x4_2 => ?_)
      refine a_goto F 163 dX11_worthOf_203 (by decide) ?_
      exact hk163 x4_2 q_1.2
    · refine a_aload_n F dX11_worthOf_181 rfl rfl ?_
      refine a_aload_n F dX11_worthOf_182 rfl rfl ?_
      refine a_getR (k := 24) F cfX11 dX11_worthOf_183 fl_X11_49 (by decide) fi_11_24 zl_239 zk_239 zr_239_24 ?_
      refine a_iload F dX11_worthOf_186 rfl ?_
      refine a_gd (a_iald F dX11_worthOf_188 zl_253 zk_253 ?_)
      refine a_aload_n F dX11_worthOf_189 rfl rfl ?_
      refine a_getR (k := 23) F cfX11 dX11_worthOf_190 fl_X11_46 (by decide) fi_11_23 zl_239 zk_239 zr_239_23 ?_
      refine a_iload F dX11_worthOf_193 rfl ?_
      refine a_gd (a_iald F dX11_worthOf_195 zl_252 zk_252 ?_)
      refine a_callVI F (As := [.int (q_1.2 253 (ix x4)), .int (q_1.2 252 (ix x4))]) cfX11 rfl (c_X11_runs X (q_1.2 253 (ix x4)) (q_1.2 252 (ix x4)) q_1.2) mw_X11_runs ml_X11_312 im_X11_runs se_X11_runs M0.2.1 (Nat.le_of_ble_eq_true rfl) ⟨Nat.zero_le _, Nat.zero_le _⟩ rfl rfl (Nat.le_of_ble_eq_true rfl) zl_239 zk_239 dX11_worthOf_196 rfl (fun q_3 => ?_)
      exact a_iret F M0.2.2.1 M0.2.2.2 dX11_worthOf_199
def f_X11_worthOf_163 : Nat → Int32 → Mm → Option (Int32 × Mm) :=
  itr (fun _ _ => none) (fun k => f_X11_worthOf_163b k)
theorem b_X11_worthOf_163 {X : CX} {E : FE} (M0 : MF X E RX11 cX11_worthOf 5 4 (some .int)) : ∀ (n : Nat) (x4 : Int32) (S : Mm), At X E false (mQi X Z1 E) 163 [some (.ref 239), none, none, none, some (.int x4)] [] Z1 S 0 0 (f_X11_worthOf_163  n x4 S) := by
  intro n
  induction n with
  | zero => intros; exact a_none
  | succ n ih => intro x4 S; exact b_X11_worthOf_163b M0 ih x4 S
def f_X11_worthOf_101 (x2 t1 t2 : Int32) (S : Mm) : Option (Int32 × Mm) :=
  gd (inB t1 10 = true) <|
  nm (uM S 265 (ix t1) t2) fun S_1 =>
  (f_X11_ownedBy x2 S_1).bind fun q_2 =>
  (f_X11_ones q_2.1 q_2.2).bind fun q_3 =>
  nm (uM q_3.2 265 6 q_3.1) fun S_4 =>
  gd (inB x2 12 = true) <|
  nm (uM S_4 265 7 (S_4 247 (ix x2))) fun S_5 =>
  gd (inB ((100 : Int32) + x2) 148 = true) <|
  nm (uM S_5 265 8 (S_5 240 (ix ((100 : Int32) + x2)))) fun S_6 =>
  nm (uM S_6 265 9 (S_6 240 0)) fun S_7 =>
  f_X11_worthOf_163 FU (0 : Int32) S_7
set_option maxRecDepth 20000 in
theorem b_X11_worthOf_101 {X : CX} {E : FE} (M0 : MF X E RX11 cX11_worthOf 5 4 (some .int)) (x2 t1 t2 : Int32) (S : Mm) : At X E false (mQi X Z1 E) 101 [some (.ref 239), none, some (.int x2), none, none] [.int t2, .int t1, .ref 265] Z1 S 0 0 (f_X11_worthOf_101 x2 t1 t2 S) := by
  have F := M0.1
  unfold f_X11_worthOf_101
  refine a_gd (a_iast F dX11_worthOf_101 zl_265 zk_265 ?_)
  refine a_nmS (fun S_1 => ?_)
  refine a_aload_n F dX11_worthOf_102 rfl rfl ?_
  refine a_getR (k := 44) F cfX11 dX11_worthOf_103 fl_X11_89 (by decide) fi_11_44 zl_239 zk_239 zr_239_44 ?_
  refine a_bipush F dX11_worthOf_106 kb_6 ?_
  refine a_aload_n F dX11_worthOf_108 rfl rfl ?_
  refine a_aload_n F dX11_worthOf_109 rfl rfl ?_
  refine a_iload_n F dX11_worthOf_110 rfl rfl ?_
  refine a_callVI F (As := [.int x2]) cfX11 rfl (c_X11_ownedBy X x2 S_1) mw_X11_ownedBy ml_X11_330 im_X11_ownedBy se_X11_ownedBy M0.2.1 (Nat.le_of_ble_eq_true rfl) ⟨Nat.zero_le _, Nat.zero_le _⟩ rfl rfl (Nat.le_of_ble_eq_true rfl) zl_239 zk_239 dX11_worthOf_111 rfl (fun q_2 => ?_)
  refine a_callVI F (As := [.int q_2.1]) cfX11 rfl (c_X11_ones X q_2.1 q_2.2) mw_X11_ones ml_X11_333 im_X11_ones se_X11_ones M0.2.1 (Nat.le_of_ble_eq_true rfl) ⟨Nat.zero_le _, Nat.zero_le _⟩ rfl rfl (Nat.le_of_ble_eq_true rfl) zl_239 zk_239 dX11_worthOf_114 rfl (fun q_3 => ?_)
  refine a_iastK F 6 dX11_worthOf_117 zl_265 zk_265 ib_6_10 ix_6 ?_
  refine a_nmS (fun S_4 => ?_)
  refine a_aload_n F dX11_worthOf_118 rfl rfl ?_
  refine a_getR (k := 44) F cfX11 dX11_worthOf_119 fl_X11_89 (by decide) fi_11_44 zl_239 zk_239 zr_239_44 ?_
  refine a_bipush F dX11_worthOf_122 kb_7 ?_
  refine a_aload_n F dX11_worthOf_124 rfl rfl ?_
  refine a_getR (k := 11) F cfX11 dX11_worthOf_125 fl_X11_31 (by decide) fi_11_11 zl_239 zk_239 zr_239_11 ?_
  refine a_iload_n F dX11_worthOf_128 rfl rfl ?_
  refine a_gd (a_iald F dX11_worthOf_129 zl_247 zk_247 ?_)
  refine a_iastK F 7 dX11_worthOf_130 zl_265 zk_265 ib_7_10 ix_7 ?_
  refine a_nmS (fun S_5 => ?_)
  refine a_aload_n F dX11_worthOf_131 rfl rfl ?_
  refine a_getR (k := 44) F cfX11 dX11_worthOf_132 fl_X11_89 (by decide) fi_11_44 zl_239 zk_239 zr_239_44 ?_
  refine a_bipush F dX11_worthOf_135 kb_8 ?_
  refine a_aload_n F dX11_worthOf_137 rfl rfl ?_
  refine a_getR (k := 1) F cfX11 dX11_worthOf_138 fl_X11_7 (by decide) fi_11_1 zl_239 zk_239 zr_239_1 ?_
  refine a_bipush F dX11_worthOf_141 kb_100 ?_
  refine a_iload_n F dX11_worthOf_143 rfl rfl ?_
  refine a_iadd F dX11_worthOf_144 ?_
  refine a_gd (a_iald F dX11_worthOf_145 zl_240 zk_240 ?_)
  refine a_iastK F 8 dX11_worthOf_146 zl_265 zk_265 ib_8_10 ix_8 ?_
  refine a_nmS (fun S_6 => ?_)
  refine a_aload_n F dX11_worthOf_147 rfl rfl ?_
  refine a_getR (k := 44) F cfX11 dX11_worthOf_148 fl_X11_89 (by decide) fi_11_44 zl_239 zk_239 zr_239_44 ?_
  refine a_bipush F dX11_worthOf_151 kb_9 ?_
  refine a_aload_n F dX11_worthOf_153 rfl rfl ?_
  refine a_getR (k := 1) F cfX11 dX11_worthOf_154 fl_X11_7 (by decide) fi_11_1 zl_239 zk_239 zr_239_1 ?_
  refine a_iconst F dX11_worthOf_157 ki_0 ?_
  refine a_ialdK F 0 dX11_worthOf_158 zl_240 zk_240 ib_0_148 ix_0 ?_
  refine a_iastK F 9 dX11_worthOf_159 zl_265 zk_265 ib_9_10 ix_9 ?_
  refine a_nmS (fun S_7 => ?_)
  refine a_iconst F dX11_worthOf_160 ki_0 ?_
  refine a_istore (L' := [some (.ref 239), none, some (.int x2), none, some (.int (0 : Int32))]) F dX11_worthOf_161 (lt_b rfl) rfl ?_
  refine a_mask [true, false, false, false, true] (L' := [some (.ref 239), none, none, none, some (.int (0 : Int32))]) rfl rfl ?_
  exact b_X11_worthOf_163 M0 FU (0 : Int32) S_7
def f_X11_worthOf_81 (x1 x2 t1 t2 : Int32) (S : Mm) : Option (Int32 × Mm) :=
  gd (inB t1 10 = true) <|
  nm (uM S 265 (ix t1) t2) fun S_1 =>
  (f_X11_spouseOf x1 S_1).bind fun q_2 =>
  if q_2.1 = x2 then (
   f_X11_worthOf_101 x2 (5 : Int32) (1 : Int32) q_2.2
  ) else (
   f_X11_worthOf_101 x2 (5 : Int32) (0 : Int32) q_2.2
  )
set_option maxRecDepth 20000 in
theorem b_X11_worthOf_81 {X : CX} {E : FE} (M0 : MF X E RX11 cX11_worthOf 5 4 (some .int)) (x1 x2 t1 t2 : Int32) (S : Mm) : At X E false (mQi X Z1 E) 81 [some (.ref 239), some (.int x1), some (.int x2), none, none] [.int t2, .int t1, .ref 265] Z1 S 0 0 (f_X11_worthOf_81 x1 x2 t1 t2 S) := by
  have F := M0.1
  unfold f_X11_worthOf_81
  refine a_gd (a_iast F dX11_worthOf_81 zl_265 zk_265 ?_)
  refine a_nmS (fun S_1 => ?_)
  refine a_aload_n F dX11_worthOf_82 rfl rfl ?_
  refine a_getR (k := 44) F cfX11 dX11_worthOf_83 fl_X11_89 (by decide) fi_11_44 zl_239 zk_239 zr_239_44 ?_
  refine a_iconst F dX11_worthOf_86 ki_5 ?_
  refine a_aload_n F dX11_worthOf_87 rfl rfl ?_
  refine a_iload_n F dX11_worthOf_88 rfl rfl ?_
  refine a_callVI F (As := [.int x1]) cfX11 rfl (c_X11_spouseOf X x1 S_1) mw_X11_spouseOf ml_X11_139 im_X11_spouseOf se_X11_spouseOf M0.2.1 (Nat.le_of_ble_eq_true rfl) ⟨Nat.zero_le _, Nat.zero_le _⟩ rfl rfl (Nat.le_of_ble_eq_true rfl) zl_239 zk_239 dX11_worthOf_89 rfl (fun q_2 => ?_)
  refine a_iload_n F dX11_worthOf_92 rfl rfl ?_
  refine a_icmp_ne F 100 dX11_worthOf_93 (by decide) ?_ ?_
  · refine a_iconst F dX11_worthOf_96 ki_1 ?_
    refine a_goto F 101 dX11_worthOf_97 (by decide) ?_
    refine a_mask [true, false, true, false, false] (L' := [some (.ref 239), none, some (.int x2), none, none]) rfl rfl ?_
    exact b_X11_worthOf_101 M0 x2 (5 : Int32) (1 : Int32) q_2.2
  · refine a_iconst F dX11_worthOf_100 ki_0 ?_
    refine a_mask [true, false, true, false, false] (L' := [some (.ref 239), none, some (.int x2), none, none]) rfl rfl ?_
    exact b_X11_worthOf_101 M0 x2 (5 : Int32) (0 : Int32) q_2.2
def f_X11_worthOf_25 (x1 x2 t1 t2 : Int32) (S : Mm) : Option (Int32 × Mm) :=
  gd (inB t1 10 = true) <|
  nm (uM S 265 (ix t1) t2) fun S_1 =>
  gd (inB x2 12 = true) <|
  nm (uM S_1 265 2 ((S_1 240 0) - (S_1 245 (ix x2)))) fun S_2 =>
  gd (inB (((12 : Int32) * x1) + x2) 144 = true) <|
  nm (uM S_2 265 3 (S_2 249 (ix (((12 : Int32) * x1) + x2)))) fun S_3 =>
  (f_X11_isChild x2 x1 S_3).bind fun q_4 =>
  if q_4.1 = 0 then (
   f_X11_worthOf_81 x1 x2 (4 : Int32) (0 : Int32) q_4.2
  ) else (
   f_X11_worthOf_81 x1 x2 (4 : Int32) (1 : Int32) q_4.2
  )
set_option maxRecDepth 20000 in
theorem b_X11_worthOf_25 {X : CX} {E : FE} (M0 : MF X E RX11 cX11_worthOf 5 4 (some .int)) (x1 x2 t1 t2 : Int32) (S : Mm) : At X E false (mQi X Z1 E) 25 [some (.ref 239), some (.int x1), some (.int x2), none, none] [.int t2, .int t1, .ref 265] Z1 S 0 0 (f_X11_worthOf_25 x1 x2 t1 t2 S) := by
  have F := M0.1
  unfold f_X11_worthOf_25
  refine a_gd (a_iast F dX11_worthOf_25 zl_265 zk_265 ?_)
  refine a_nmS (fun S_1 => ?_)
  refine a_aload_n F dX11_worthOf_26 rfl rfl ?_
  refine a_getR (k := 44) F cfX11 dX11_worthOf_27 fl_X11_89 (by decide) fi_11_44 zl_239 zk_239 zr_239_44 ?_
  refine a_iconst F dX11_worthOf_30 ki_2 ?_
  refine a_aload_n F dX11_worthOf_31 rfl rfl ?_
  refine a_getR (k := 1) F cfX11 dX11_worthOf_32 fl_X11_7 (by decide) fi_11_1 zl_239 zk_239 zr_239_1 ?_
  refine a_iconst F dX11_worthOf_35 ki_0 ?_
  refine a_ialdK F 0 dX11_worthOf_36 zl_240 zk_240 ib_0_148 ix_0 ?_
  refine a_aload_n F dX11_worthOf_37 rfl rfl ?_
  refine a_getR (k := 9) F cfX11 dX11_worthOf_38 fl_X11_25 (by decide) fi_11_9 zl_239 zk_239 zr_239_9 ?_
  refine a_iload_n F dX11_worthOf_41 rfl rfl ?_
  refine a_gd (a_iald F dX11_worthOf_42 zl_245 zk_245 ?_)
  refine a_isub F dX11_worthOf_43 ?_
  refine a_iastK F 2 dX11_worthOf_44 zl_265 zk_265 ib_2_10 ix_2 ?_
  refine a_nmS (fun S_2 => ?_)
  refine a_aload_n F dX11_worthOf_45 rfl rfl ?_
  refine a_getR (k := 44) F cfX11 dX11_worthOf_46 fl_X11_89 (by decide) fi_11_44 zl_239 zk_239 zr_239_44 ?_
  refine a_iconst F dX11_worthOf_49 ki_3 ?_
  refine a_aload_n F dX11_worthOf_50 rfl rfl ?_
  refine a_getR (k := 14) F cfX11 dX11_worthOf_51 fl_X11_37 (by decide) fi_11_14 zl_239 zk_239 zr_239_14 ?_
  refine a_bipush F dX11_worthOf_54 kb_12 ?_
  refine a_iload_n F dX11_worthOf_56 rfl rfl ?_
  refine a_imul F dX11_worthOf_57 ?_
  refine a_iload_n F dX11_worthOf_58 rfl rfl ?_
  refine a_iadd F dX11_worthOf_59 ?_
  refine a_gd (a_iald F dX11_worthOf_60 zl_249 zk_249 ?_)
  refine a_iastK F 3 dX11_worthOf_61 zl_265 zk_265 ib_3_10 ix_3 ?_
  refine a_nmS (fun S_3 => ?_)
  refine a_aload_n F dX11_worthOf_62 rfl rfl ?_
  refine a_getR (k := 44) F cfX11 dX11_worthOf_63 fl_X11_89 (by decide) fi_11_44 zl_239 zk_239 zr_239_44 ?_
  refine a_iconst F dX11_worthOf_66 ki_4 ?_
  refine a_aload_n F dX11_worthOf_67 rfl rfl ?_
  refine a_iload_n F dX11_worthOf_68 rfl rfl ?_
  refine a_iload_n F dX11_worthOf_69 rfl rfl ?_
  refine a_callVI F (As := [.int x2, .int x1]) cfX11 rfl (c_X11_isChild X x2 x1 S_3) mw_X11_isChild ml_X11_327 im_X11_isChild se_X11_isChild M0.2.1 (Nat.le_of_ble_eq_true rfl) ⟨Nat.zero_le _, Nat.zero_le _⟩ rfl rfl (Nat.le_of_ble_eq_true rfl) zl_239 zk_239 dX11_worthOf_70 rfl (fun q_4 => ?_)
  refine a_if_eq F 80 dX11_worthOf_73 (by decide) ?_ ?_
  · refine a_iconst F dX11_worthOf_80 ki_0 ?_
    exact b_X11_worthOf_81 M0 x1 x2 (4 : Int32) (0 : Int32) q_4.2
  · refine a_iconst F dX11_worthOf_76 ki_1 ?_
    refine a_goto F 81 dX11_worthOf_77 (by decide) ?_
    exact b_X11_worthOf_81 M0 x1 x2 (4 : Int32) (1 : Int32) q_4.2
def f_X11_worthOf (p1 p2 p3 : Int32) (S : Mm) : Option (Int32 × Mm) :=
  nm (uM S 265 0 p3) fun S_1 =>
  (f_X11_isVowel p3 S_1).bind fun q_2 =>
  if q_2.1 = 0 then (
   f_X11_worthOf_25 p1 p2 (1 : Int32) (0 : Int32) q_2.2
  ) else (
   f_X11_worthOf_25 p1 p2 (1 : Int32) (1 : Int32) q_2.2
  )
set_option maxRecDepth 20000 in
theorem b_X11_worthOf {X : CX} {E : FE} (M0 : MF X E RX11 cX11_worthOf 5 4 (some .int)) (p1 p2 p3 : Int32) (S : Mm) : At X E false (mQi X Z1 E) 0 [some (.ref 239), some (.int p1), some (.int p2), some (.int p3), none] [] Z1 S 0 0 (f_X11_worthOf p1 p2 p3 S) := by
  have F := M0.1
  unfold f_X11_worthOf
  refine a_aload_n F dX11_worthOf_0 rfl rfl ?_
  refine a_getR (k := 44) F cfX11 dX11_worthOf_1 fl_X11_89 (by decide) fi_11_44 zl_239 zk_239 zr_239_44 ?_
  refine a_iconst F dX11_worthOf_4 ki_0 ?_
  refine a_iload_n F dX11_worthOf_5 rfl rfl ?_
  refine a_iastK F 0 dX11_worthOf_6 zl_265 zk_265 ib_0_10 ix_0 ?_
  refine a_nmS (fun S_1 => ?_)
  refine a_aload_n F dX11_worthOf_7 rfl rfl ?_
  refine a_getR (k := 44) F cfX11 dX11_worthOf_8 fl_X11_89 (by decide) fi_11_44 zl_239 zk_239 zr_239_44 ?_
  refine a_iconst F dX11_worthOf_11 ki_1 ?_
  refine a_aload_n F dX11_worthOf_12 rfl rfl ?_
  refine a_iload_n F dX11_worthOf_13 rfl rfl ?_
  refine a_callVI F (As := [.int p3]) cfX11 rfl (c_X11_isVowel X p3 S_1) mw_X11_isVowel ml_X11_324 im_X11_isVowel se_X11_isVowel M0.2.1 (Nat.le_of_ble_eq_true rfl) ⟨Nat.zero_le _, Nat.zero_le _⟩ rfl rfl (Nat.le_of_ble_eq_true rfl) zl_239 zk_239 dX11_worthOf_14 rfl (fun q_2 => ?_)
  refine a_if_eq F 24 dX11_worthOf_17 (by decide) ?_ ?_
  · refine a_iconst F dX11_worthOf_24 ki_0 ?_
    refine a_mask [true, true, true, false, false] (L' := [some (.ref 239), some (.int p1), some (.int p2), none, none]) rfl rfl ?_
    exact b_X11_worthOf_25 M0 p1 p2 (1 : Int32) (0 : Int32) q_2.2
  · refine a_iconst F dX11_worthOf_20 ki_1 ?_
    refine a_goto F 25 dX11_worthOf_21 (by decide) ?_
    refine a_mask [true, true, true, false, false] (L' := [some (.ref 239), some (.int p1), some (.int p2), none, none]) rfl rfl ?_
    exact b_X11_worthOf_25 M0 p1 p2 (1 : Int32) (1 : Int32) q_2.2
theorem c_X11_worthOf (X : CX) (p1 p2 p3 : Int32) (S : Mm) : CtI X Z1 yX11_worthOf cX11_worthOf 5 (some .int) 4 [.ref 239, .int p1, .int p2, .int p3] S (f_X11_worthOf p1 p2 p3 S) :=
  ctI_of (by decide +kernel) rfl (Nat.le_of_ble_eq_true rfl) (by simp [Value.category]) z1len fun E F R hra hlk => b_X11_worthOf ⟨F, R, hra, hlk⟩ p1 p2 p3 S
def f_X11_heirByLaw_69 (k8 : Int32 → Int32 → Int32 → Int32 → Int32 → Mm → Option (Int32 × Mm)) (x1 x2 x3 x4 x5 : Int32) (S : Mm) : Option (Int32 × Mm) :=
  nm (x5 + (1 : Int32)) fun x5_1 =>
  k8 x1 x2 x3 x4 x5_1 S
set_option maxRecDepth 20000 in
theorem b_X11_heirByLaw_69 {X : CX} {E : FE} (M0 : MF X E RX11 cX11_heirByLaw 7 5 (some .int)) {k8 : Int32 → Int32 → Int32 → Int32 → Int32 → Mm → Option (Int32 × Mm)} (hk8 : ∀ (x1 x2 x3 x4 x5 : Int32) (S : Mm), At X E false (mQi X Z1 E) 8 [some (.ref 239), some (.int x1), some (.int x2), some (.int x3), some (.int x4), some (.int x5), none] [] Z1 S 0 0 (k8 x1 x2 x3 x4 x5 S)) (x1 x2 x3 x4 x5 : Int32) (S : Mm) : At X E false (mQi X Z1 E) 69 [some (.ref 239), some (.int x1), some (.int x2), some (.int x3), some (.int x4), some (.int x5), none] [] Z1 S 0 0 (f_X11_heirByLaw_69 k8 x1 x2 x3 x4 x5 S) := by
  have F := M0.1
  unfold f_X11_heirByLaw_69
  refine a_iincN (L' := fun x5_1 => [some (.ref 239), some (.int x1), some (.int x2), some (.int x3), some (.int x4), some (.int x5_1), none]) F dX11_heirByLaw_69 rfl ki_1 (lt_b rfl) (fun _ => rfl) (fun x5_1 => ?_)
  refine a_goto F 8 dX11_heirByLaw_72 (by decide) ?_
  exact hk8 x1 x2 x3 x4 x5_1 S
def f_X11_heirByLaw_67 (k8 : Int32 → Int32 → Int32 → Int32 → Int32 → Mm → Option (Int32 × Mm)) (x1 x2 x3 x5 t0 : Int32) (S : Mm) : Option (Int32 × Mm) :=
  f_X11_heirByLaw_69 k8 x1 x2 x3 t0 x5 S
set_option maxRecDepth 20000 in
theorem b_X11_heirByLaw_67 {X : CX} {E : FE} (M0 : MF X E RX11 cX11_heirByLaw 7 5 (some .int)) {k8 : Int32 → Int32 → Int32 → Int32 → Int32 → Mm → Option (Int32 × Mm)} (hk8 : ∀ (x1 x2 x3 x4 x5 : Int32) (S : Mm), At X E false (mQi X Z1 E) 8 [some (.ref 239), some (.int x1), some (.int x2), some (.int x3), some (.int x4), some (.int x5), none] [] Z1 S 0 0 (k8 x1 x2 x3 x4 x5 S)) (x1 x2 x3 x5 t0 : Int32) (S : Mm) : At X E false (mQi X Z1 E) 67 [some (.ref 239), some (.int x1), some (.int x2), some (.int x3), none, some (.int x5), none] [.int t0] Z1 S 0 0 (f_X11_heirByLaw_67 k8 x1 x2 x3 x5 t0 S) := by
  have F := M0.1
  unfold f_X11_heirByLaw_67
  refine a_istore (L' := [some (.ref 239), some (.int x1), some (.int x2), some (.int x3), some (.int t0), some (.int x5), none]) F dX11_heirByLaw_67 (lt_b rfl) rfl ?_
  exact b_X11_heirByLaw_69 M0 hk8 x1 x2 x3 t0 x5 S
def f_X11_heirByLaw_52 (k8 : Int32 → Int32 → Int32 → Int32 → Int32 → Mm → Option (Int32 × Mm)) (x1 x2 x4 x5 x6 t0 : Int32) (S : Mm) : Option (Int32 × Mm) :=
  if x6 ≤ x4 then (
   f_X11_heirByLaw_67 k8 x1 x2 t0 x5 x4 S
  ) else (
   f_X11_heirByLaw_67 k8 x1 x2 t0 x5 x6 S
  )
set_option maxRecDepth 20000 in
theorem b_X11_heirByLaw_52 {X : CX} {E : FE} (M0 : MF X E RX11 cX11_heirByLaw 7 5 (some .int)) {k8 : Int32 → Int32 → Int32 → Int32 → Int32 → Mm → Option (Int32 × Mm)} (hk8 : ∀ (x1 x2 x3 x4 x5 : Int32) (S : Mm), At X E false (mQi X Z1 E) 8 [some (.ref 239), some (.int x1), some (.int x2), some (.int x3), some (.int x4), some (.int x5), none] [] Z1 S 0 0 (k8 x1 x2 x3 x4 x5 S)) (x1 x2 x4 x5 x6 t0 : Int32) (S : Mm) : At X E false (mQi X Z1 E) 52 [some (.ref 239), some (.int x1), some (.int x2), none, some (.int x4), some (.int x5), some (.int x6)] [.int t0] Z1 S 0 0 (f_X11_heirByLaw_52 k8 x1 x2 x4 x5 x6 t0 S) := by
  have F := M0.1
  unfold f_X11_heirByLaw_52
  refine a_istore_n (L' := [some (.ref 239), some (.int x1), some (.int x2), some (.int t0), some (.int x4), some (.int x5), some (.int x6)]) F dX11_heirByLaw_52 rfl (lt_b rfl) rfl ?_
  refine a_iload F dX11_heirByLaw_53 rfl ?_
  refine a_iload F dX11_heirByLaw_55 rfl ?_
  refine a_icmp_le F 65 dX11_heirByLaw_57 (by decide) ?_ ?_
  · refine a_iload F dX11_heirByLaw_65 rfl ?_
    refine a_mask [true, true, true, true, false, true, false] (L' := [some (.ref 239), some (.int x1), some (.int x2), some (.int t0), none, some (.int x5), none]) rfl rfl ?_
    exact b_X11_heirByLaw_67 M0 hk8 x1 x2 t0 x5 x4 S
  · refine a_iload F dX11_heirByLaw_60 rfl ?_
    refine a_goto F 67 dX11_heirByLaw_62 (by decide) ?_
    refine a_mask [true, true, true, true, false, true, false] (L' := [some (.ref 239), some (.int x1), some (.int x2), some (.int t0), none, some (.int x5), none]) rfl rfl ?_
    exact b_X11_heirByLaw_67 M0 hk8 x1 x2 t0 x5 x6 S
def f_X11_heirByLaw_8b (k8 : Int32 → Int32 → Int32 → Int32 → Int32 → Mm → Option (Int32 × Mm)) (x1 x2 x3 x4 x5 : Int32) (S : Mm) : Option (Int32 × Mm) :=
  if (S 239 6) ≤ x5 then (
   some (x3, S)
  ) else (
   (f_X11_doesLive x5 S).bind fun q_1 =>
   if q_1.1 = 0 then (
    f_X11_heirByLaw_69 k8 x1 x2 x3 x4 x5 q_1.2
   ) else (
    (f_X11_worthOf x1 x5 x2 q_1.2).bind fun q_2 =>
    if q_2.1 ≤ x4 then (
     f_X11_heirByLaw_52 k8 x1 x2 x4 x5 q_2.1 x3 q_2.2
    ) else (
     f_X11_heirByLaw_52 k8 x1 x2 x4 x5 q_2.1 x5 q_2.2
    )
   )
  )
set_option maxRecDepth 20000 in
theorem b_X11_heirByLaw_8b {X : CX} {E : FE} (M0 : MF X E RX11 cX11_heirByLaw 7 5 (some .int)) {k8 : Int32 → Int32 → Int32 → Int32 → Int32 → Mm → Option (Int32 × Mm)} (hk8 : ∀ (x1 x2 x3 x4 x5 : Int32) (S : Mm), At X E false (mQi X Z1 E) 8 [some (.ref 239), some (.int x1), some (.int x2), some (.int x3), some (.int x4), some (.int x5), none] [] Z1 S 0 0 (k8 x1 x2 x3 x4 x5 S)) (x1 x2 x3 x4 x5 : Int32) (S : Mm) : At X E false (mQi X Z1 E) 8 [some (.ref 239), some (.int x1), some (.int x2), some (.int x3), some (.int x4), some (.int x5), none] [] Z1 S 0 0 (f_X11_heirByLaw_8b k8 x1 x2 x3 x4 x5 S) := by
  have F := M0.1
  unfold f_X11_heirByLaw_8b
  refine a_iload F dX11_heirByLaw_8 rfl ?_
  refine a_aload_n F dX11_heirByLaw_10 rfl rfl ?_
  refine a_getI (k := 6) F cfX11 dX11_heirByLaw_11 fl_X11_122 (by decide) fi_11_6 zl_239 zk_239 ?_
  refine a_icmp_ge F 75 dX11_heirByLaw_14 (by decide) ?_ ?_
  · refine a_iload_n F dX11_heirByLaw_75 rfl rfl ?_
    exact a_iret F M0.2.2.1 M0.2.2.2 dX11_heirByLaw_76
  · refine a_aload_n F dX11_heirByLaw_17 rfl rfl ?_
    refine a_iload F dX11_heirByLaw_18 rfl ?_
    refine a_callVI F (As := [.int x5]) cfX11 rfl (c_X11_doesLive X x5 S) mw_X11_doesLive ml_X11_132 im_X11_doesLive se_X11_doesLive M0.2.1 (Nat.le_of_ble_eq_true rfl) ⟨Nat.zero_le _, Nat.zero_le _⟩ rfl rfl (Nat.le_of_ble_eq_true rfl) zl_239 zk_239 dX11_heirByLaw_20 rfl (fun q_1 => ?_)
    refine a_if_ne F 29 dX11_heirByLaw_23 (by decide) ?_ ?_
    · refine a_goto F 69 dX11_heirByLaw_26 (by decide) ?_
      exact b_X11_heirByLaw_69 M0 hk8 x1 x2 x3 x4 x5 q_1.2
    · refine a_aload_n F dX11_heirByLaw_29 rfl rfl ?_
      refine a_iload_n F dX11_heirByLaw_30 rfl rfl ?_
      refine a_iload F dX11_heirByLaw_31 rfl ?_
      refine a_iload_n F dX11_heirByLaw_33 rfl rfl ?_
      refine a_callVI F (As := [.int x1, .int x5, .int x2]) cfX11 rfl (c_X11_worthOf X x1 x5 x2 q_1.2) mw_X11_worthOf ml_X11_339 im_X11_worthOf se_X11_worthOf M0.2.1 (Nat.le_of_ble_eq_true rfl) ⟨Nat.zero_le _, Nat.zero_le _⟩ rfl rfl (Nat.le_of_ble_eq_true rfl) zl_239 zk_239 dX11_heirByLaw_34 rfl (fun q_2 => ?_)
      refine a_istore (L' := [some (.ref 239), some (.int x1), some (.int x2), some (.int x3), some (.int x4), some (.int x5), some (.int q_2.1)]) F dX11_heirByLaw_37 (lt_b rfl) rfl ?_
      refine a_iload F dX11_heirByLaw_39 rfl ?_
      refine a_iload F dX11_heirByLaw_41 rfl ?_
      refine a_icmp_le F 51 dX11_heirByLaw_43 (by decide) ?_ ?_
      · refine a_iload_n F dX11_heirByLaw_51 rfl rfl ?_
        refine a_mask [true, true, true, false, true, true, true] (L' := [some (.ref 239), some (.int x1), some (.int x2), none, some (.int x4), some (.int x5), some (.int q_2.1)]) rfl rfl ?_
        exact b_X11_heirByLaw_52 M0 hk8 x1 x2 x4 x5 q_2.1 x3 q_2.2
      · refine a_iload F dX11_heirByLaw_46 rfl ?_
        refine a_goto F 52 dX11_heirByLaw_48 (by decide) ?_
        refine a_mask [true, true, true, false, true, true, true] (L' := [some (.ref 239), some (.int x1), some (.int x2), none, some (.int x4), some (.int x5), some (.int q_2.1)]) rfl rfl ?_
        exact b_X11_heirByLaw_52 M0 hk8 x1 x2 x4 x5 q_2.1 x5 q_2.2
def f_X11_heirByLaw_8 : Nat → Int32 → Int32 → Int32 → Int32 → Int32 → Mm → Option (Int32 × Mm) :=
  itr (fun _ _ _ _ _ _ => none) (fun k => f_X11_heirByLaw_8b k)
theorem b_X11_heirByLaw_8 {X : CX} {E : FE} (M0 : MF X E RX11 cX11_heirByLaw 7 5 (some .int)) : ∀ (n : Nat) (x1 x2 x3 x4 x5 : Int32) (S : Mm), At X E false (mQi X Z1 E) 8 [some (.ref 239), some (.int x1), some (.int x2), some (.int x3), some (.int x4), some (.int x5), none] [] Z1 S 0 0 (f_X11_heirByLaw_8  n x1 x2 x3 x4 x5 S) := by
  intro n
  induction n with
  | zero => intros; exact a_none
  | succ n ih => intro x1 x2 x3 x4 x5 S; exact b_X11_heirByLaw_8b M0 ih x1 x2 x3 x4 x5 S
def f_X11_heirByLaw (p1 p2 : Int32) (S : Mm) : Option (Int32 × Mm) :=
  f_X11_heirByLaw_8 FU p1 p2 (-1 : Int32) (0 : Int32) (0 : Int32) S
set_option maxRecDepth 20000 in
theorem b_X11_heirByLaw {X : CX} {E : FE} (M0 : MF X E RX11 cX11_heirByLaw 7 5 (some .int)) (p1 p2 : Int32) (S : Mm) : At X E false (mQi X Z1 E) 0 [some (.ref 239), some (.int p1), some (.int p2), none, none, none, none] [] Z1 S 0 0 (f_X11_heirByLaw p1 p2 S) := by
  have F := M0.1
  unfold f_X11_heirByLaw
  refine a_iconst F dX11_heirByLaw_0 ki_m1 ?_
  refine a_istore_n (L' := [some (.ref 239), some (.int p1), some (.int p2), some (.int (-1 : Int32)), none, none, none]) F dX11_heirByLaw_1 rfl (lt_b rfl) rfl ?_
  refine a_iconst F dX11_heirByLaw_2 ki_0 ?_
  refine a_istore (L' := [some (.ref 239), some (.int p1), some (.int p2), some (.int (-1 : Int32)), some (.int (0 : Int32)), none, none]) F dX11_heirByLaw_3 (lt_b rfl) rfl ?_
  refine a_iconst F dX11_heirByLaw_5 ki_0 ?_
  refine a_istore (L' := [some (.ref 239), some (.int p1), some (.int p2), some (.int (-1 : Int32)), some (.int (0 : Int32)), some (.int (0 : Int32)), none]) F dX11_heirByLaw_6 (lt_b rfl) rfl ?_
  exact b_X11_heirByLaw_8 M0 FU p1 p2 (-1 : Int32) (0 : Int32) (0 : Int32) S
theorem c_X11_heirByLaw (X : CX) (p1 p2 : Int32) (S : Mm) : CtI X Z1 yX11_heirByLaw cX11_heirByLaw 7 (some .int) 5 [.ref 239, .int p1, .int p2] S (f_X11_heirByLaw p1 p2 S) :=
  ctI_of (by decide +kernel) rfl (Nat.le_of_ble_eq_true rfl) (by simp [Value.category]) z1len fun E F R hra hlk => b_X11_heirByLaw ⟨F, R, hra, hlk⟩ p1 p2 S
def f_X11_comesTo (p1 p2 p3 : Int32) (S : Mm) : Option Mm :=
  (f_X11_ownerOf p1 S).bind fun q_1 =>
  gd (inB ((4 : Int32) + p1) 148 = true) <|
  nm (uM q_1.2 240 (ix ((4 : Int32) + p1)) (p2 + (1 : Int32))) fun S_2 =>
  if (S_2 239 5) = 0 then (
   if q_1.1 = p2 then (
    some S_2
   ) else (
    if (S_2 240 2) = (200 : Int32) then (
     some S_2
    ) else (
     nm (((5 : Int32) * (S_2 240 2))) fun x5_3 =>
     gd (inB x5_3 1000 = true) <|
     nm (uM S_2 248 (ix x5_3) p1) fun S_4 =>
     gd (inB (x5_3 + (1 : Int32)) 1000 = true) <|
     nm (uM S_4 248 (ix (x5_3 + (1 : Int32))) q_1.1) fun S_5 =>
     gd (inB (x5_3 + (2 : Int32)) 1000 = true) <|
     nm (uM S_5 248 (ix (x5_3 + (2 : Int32))) p2) fun S_6 =>
     gd (inB (x5_3 + (3 : Int32)) 1000 = true) <|
     nm (uM S_6 248 (ix (x5_3 + (3 : Int32))) (S_6 240 0)) fun S_7 =>
     gd (inB (x5_3 + (4 : Int32)) 1000 = true) <|
     nm (uM S_7 248 (ix (x5_3 + (4 : Int32))) p3) fun S_8 =>
     nm (uM S_8 240 2 ((S_8 240 2) + (1 : Int32))) fun S_9 =>
     some S_9
    )
   )
  ) else (
   some S_2
  )
set_option maxRecDepth 20000 in
theorem b_X11_comesTo {X : CX} {E : FE} (M0 : MF X E RX11 cX11_comesTo 6 2 none) (p1 p2 p3 : Int32) (S : Mm) : At X E false (mQv X Z1 E) 0 [some (.ref 239), some (.int p1), some (.int p2), some (.int p3), none, none] [] Z1 S 0 0 (f_X11_comesTo p1 p2 p3 S) := by
  have F := M0.1
  unfold f_X11_comesTo
  refine a_aload_n F dX11_comesTo_0 rfl rfl ?_
  refine a_iload_n F dX11_comesTo_1 rfl rfl ?_
  refine a_callVI F (As := [.int p1]) cfX11 rfl (c_X11_ownerOf X p1 S) mw_X11_ownerOf ml_X11_160 im_X11_ownerOf se_X11_ownerOf M0.2.1 (Nat.le_of_ble_eq_true rfl) ⟨Nat.zero_le _, Nat.zero_le _⟩ rfl rfl (Nat.le_of_ble_eq_true rfl) zl_239 zk_239 dX11_comesTo_2 rfl (fun q_1 => ?_)
  refine a_istore (L' := [some (.ref 239), some (.int p1), some (.int p2), some (.int p3), some (.int q_1.1), none]) F dX11_comesTo_5 (lt_b rfl) rfl ?_
  refine a_aload_n F dX11_comesTo_7 rfl rfl ?_
  refine a_getR (k := 1) F cfX11 dX11_comesTo_8 fl_X11_7 (by decide) fi_11_1 zl_239 zk_239 zr_239_1 ?_
  refine a_iconst F dX11_comesTo_11 ki_4 ?_
  refine a_iload_n F dX11_comesTo_12 rfl rfl ?_
  refine a_iadd F dX11_comesTo_13 ?_
  refine a_iload_n F dX11_comesTo_14 rfl rfl ?_
  refine a_iconst F dX11_comesTo_15 ki_1 ?_
  refine a_iadd F dX11_comesTo_16 ?_
  refine a_gd (a_iast F dX11_comesTo_17 zl_240 zk_240 ?_)
  refine a_nmS (fun S_2 => ?_)
  refine a_aload_n F dX11_comesTo_18 rfl rfl ?_
  refine a_getI (k := 5) F cfX11 dX11_comesTo_19 fl_X11_116 (by decide) fi_11_5 zl_239 zk_239 ?_
  refine a_if_ne F 43 dX11_comesTo_22 (by decide) ?_ ?_
  · refine a_iload F dX11_comesTo_25 rfl ?_
    refine a_iload_n F dX11_comesTo_27 rfl rfl ?_
    refine a_icmp_eq F 43 dX11_comesTo_28 (by decide) ?_ ?_
    · exact a_vret F M0.2.2.1 M0.2.2.2 dX11_comesTo_43
    · refine a_aload_n F dX11_comesTo_31 rfl rfl ?_
      refine a_getR (k := 1) F cfX11 dX11_comesTo_32 fl_X11_7 (by decide) fi_11_1 zl_239 zk_239 zr_239_1 ?_
      refine a_iconst F dX11_comesTo_35 ki_2 ?_
      refine a_ialdK F 2 dX11_comesTo_36 zl_240 zk_240 ib_2_148 ix_2 ?_
      refine a_sipush F dX11_comesTo_37 ks_200 ?_
      refine a_icmp_ne F 44 dX11_comesTo_40 (by decide) ?_ ?_
      · exact a_vret F M0.2.2.1 M0.2.2.2 dX11_comesTo_43
      · refine a_iconst F dX11_comesTo_44 ki_5 ?_
        refine a_aload_n F dX11_comesTo_45 rfl rfl ?_
        refine a_getR (k := 1) F cfX11 dX11_comesTo_46 fl_X11_7 (by decide) fi_11_1 zl_239 zk_239 zr_239_1 ?_
        refine a_iconst F dX11_comesTo_49 ki_2 ?_
        refine a_ialdK F 2 dX11_comesTo_50 zl_240 zk_240 ib_2_148 ix_2 ?_
        refine a_imul F dX11_comesTo_51 ?_
        refine a_istoreN (L' := fun x5_3 => [some (.ref 239), some (.int p1), some (.int p2), some (.int p3), some (.int q_1.1), some (.int x5_3)]) F dX11_comesTo_52 (lt_b rfl) (fun _ => rfl) (fun x5_3 => ?_)
        refine a_aload_n F dX11_comesTo_54 rfl rfl ?_
        refine a_getR (k := 13) F cfX11 dX11_comesTo_55 fl_X11_34 (by decide) fi_11_13 zl_239 zk_239 zr_239_13 ?_
        refine a_iload F dX11_comesTo_58 rfl ?_
        refine a_iload_n F dX11_comesTo_60 rfl rfl ?_
        refine a_gd (a_iast F dX11_comesTo_61 zl_248 zk_248 ?_)
        refine a_nmS (fun S_4 => ?_)
        refine a_aload_n F dX11_comesTo_62 rfl rfl ?_
        refine a_getR (k := 13) F cfX11 dX11_comesTo_63 fl_X11_34 (by decide) fi_11_13 zl_239 zk_239 zr_239_13 ?_
        refine a_iload F dX11_comesTo_66 rfl ?_
        refine a_iconst F dX11_comesTo_68 ki_1 ?_
        refine a_iadd F dX11_comesTo_69 ?_
        refine a_iload F dX11_comesTo_70 rfl ?_
        refine a_gd (a_iast F dX11_comesTo_72 zl_248 zk_248 ?_)
        refine a_nmS (fun S_5 => ?_)
        refine a_aload_n F dX11_comesTo_73 rfl rfl ?_
        refine a_getR (k := 13) F cfX11 dX11_comesTo_74 fl_X11_34 (by decide) fi_11_13 zl_239 zk_239 zr_239_13 ?_
        refine a_iload F dX11_comesTo_77 rfl ?_
        refine a_iconst F dX11_comesTo_79 ki_2 ?_
        refine a_iadd F dX11_comesTo_80 ?_
        refine a_iload_n F dX11_comesTo_81 rfl rfl ?_
        refine a_gd (a_iast F dX11_comesTo_82 zl_248 zk_248 ?_)
        refine a_nmS (fun S_6 => ?_)
        refine a_aload_n F dX11_comesTo_83 rfl rfl ?_
        refine a_getR (k := 13) F cfX11 dX11_comesTo_84 fl_X11_34 (by decide) fi_11_13 zl_239 zk_239 zr_239_13 ?_
        refine a_iload F dX11_comesTo_87 rfl ?_
        refine a_iconst F dX11_comesTo_89 ki_3 ?_
        refine a_iadd F dX11_comesTo_90 ?_
        refine a_aload_n F dX11_comesTo_91 rfl rfl ?_
        refine a_getR (k := 1) F cfX11 dX11_comesTo_92 fl_X11_7 (by decide) fi_11_1 zl_239 zk_239 zr_239_1 ?_
        refine a_iconst F dX11_comesTo_95 ki_0 ?_
        refine a_ialdK F 0 dX11_comesTo_96 zl_240 zk_240 ib_0_148 ix_0 ?_
        refine a_gd (a_iast F dX11_comesTo_97 zl_248 zk_248 ?_)
        refine a_nmS (fun S_7 => ?_)
        refine a_aload_n F dX11_comesTo_98 rfl rfl ?_
        refine a_getR (k := 13) F cfX11 dX11_comesTo_99 fl_X11_34 (by decide) fi_11_13 zl_239 zk_239 zr_239_13 ?_
        refine a_iload F dX11_comesTo_102 rfl ?_
        refine a_iconst F dX11_comesTo_104 ki_4 ?_
        refine a_iadd F dX11_comesTo_105 ?_
        refine a_iload_n F dX11_comesTo_106 rfl rfl ?_
        refine a_gd (a_iast F dX11_comesTo_107 zl_248 zk_248 ?_)
        refine a_nmS (fun S_8 => ?_)
        refine a_aload_n F dX11_comesTo_108 rfl rfl ?_
        refine a_getR (k := 1) F cfX11 dX11_comesTo_109 fl_X11_7 (by decide) fi_11_1 zl_239 zk_239 zr_239_1 ?_
        refine a_iconst F dX11_comesTo_112 ki_2 ?_
        refine a_aload_n F dX11_comesTo_113 rfl rfl ?_
        refine a_getR (k := 1) F cfX11 dX11_comesTo_114 fl_X11_7 (by decide) fi_11_1 zl_239 zk_239 zr_239_1 ?_
        refine a_iconst F dX11_comesTo_117 ki_2 ?_
        refine a_ialdK F 2 dX11_comesTo_118 zl_240 zk_240 ib_2_148 ix_2 ?_
        refine a_iconst F dX11_comesTo_119 ki_1 ?_
        refine a_iadd F dX11_comesTo_120 ?_
        refine a_iastK F 2 dX11_comesTo_121 zl_240 zk_240 ib_2_148 ix_2 ?_
        refine a_nmS (fun S_9 => ?_)
        exact a_vret F M0.2.2.1 M0.2.2.2 dX11_comesTo_122
  · exact a_vret F M0.2.2.1 M0.2.2.2 dX11_comesTo_43
theorem c_X11_comesTo (X : CX) (p1 p2 p3 : Int32) (S : Mm) : CtV X Z1 yX11_comesTo cX11_comesTo 6 2 [.ref 239, .int p1, .int p2, .int p3] S (f_X11_comesTo p1 p2 p3 S) :=
  ctV_of (by decide +kernel) rfl (Nat.le_of_ble_eq_true rfl) (by simp [Value.category]) z1len fun E F R hra hlk => b_X11_comesTo ⟨F, R, hra, hlk⟩ p1 p2 p3 S
def f_X11_isDead_156 (S : Mm) : Option Mm :=
  (f_X11_findsKin S).bind fun S_1 =>
  some S_1
set_option maxRecDepth 20000 in
theorem b_X11_isDead_156 {X : CX} {E : FE} (M0 : MF X E RX11 cX11_isDead 5 6 none) (S : Mm) : At X E false (mQv X Z1 E) 156 [some (.ref 239), none, none, none, none] [] Z1 S 0 0 (f_X11_isDead_156 S) := by
  have F := M0.1
  unfold f_X11_isDead_156
  refine a_aload_n F dX11_isDead_156 rfl rfl ?_
  refine a_callVV F (As := []) cfX11 rfl (c_X11_findsKin X S) mw_X11_findsKin ml_X11_113 im_X11_findsKin se_X11_findsKin M0.2.1 (Nat.le_of_ble_eq_true rfl) ⟨Nat.zero_le _, Nat.zero_le _⟩ rfl rfl (Nat.le_of_ble_eq_true rfl) zl_239 zk_239 dX11_isDead_157 rfl (fun S_1 => ?_)
  exact a_vret F M0.2.2.1 M0.2.2.2 dX11_isDead_160
def f_X11_isDead_127 (k107 : Int32 → Int32 → Mm → Option Mm) (x1 x2 : Int32) (S : Mm) : Option Mm :=
  nm (x2 + (1 : Int32)) fun x2_1 =>
  k107 x1 x2_1 S
set_option maxRecDepth 20000 in
theorem b_X11_isDead_127 {X : CX} {E : FE} (M0 : MF X E RX11 cX11_isDead 5 6 none) {k107 : Int32 → Int32 → Mm → Option Mm} (hk107 : ∀ (x1 x2 : Int32) (S : Mm), At X E false (mQv X Z1 E) 107 [some (.ref 239), some (.int x1), some (.int x2), none, none] [] Z1 S 0 0 (k107 x1 x2 S)) (x1 x2 : Int32) (S : Mm) : At X E false (mQv X Z1 E) 127 [some (.ref 239), some (.int x1), some (.int x2), none, none] [] Z1 S 0 0 (f_X11_isDead_127 k107 x1 x2 S) := by
  have F := M0.1
  unfold f_X11_isDead_127
  refine a_iincN (L' := fun x2_1 => [some (.ref 239), some (.int x1), some (.int x2_1), none, none]) F dX11_isDead_127 rfl ki_1 (lt_b rfl) (fun _ => rfl) (fun x2_1 => ?_)
  refine a_goto F 107 dX11_isDead_130 (by decide) ?_
  exact hk107 x1 x2_1 S
def f_X11_isDead_107b (k107 : Int32 → Int32 → Mm → Option Mm) (x1 x2 : Int32) (S : Mm) : Option Mm :=
  if (28 : Int32) ≤ x2 then (
   (f_X11_spouseOf x1 S).bind fun q_1 =>
   if q_1.1 = (-1 : Int32) then (
    f_X11_isDead_156 q_1.2
   ) else (
    (f_X11_spouseOf x1 q_1.2).bind fun q_2 =>
    gd (inB ((112 : Int32) + q_2.1) 148 = true) <|
    nm (uM q_2.2 240 (ix ((112 : Int32) + q_2.1)) (0 : Int32)) fun S_3 =>
    f_X11_isDead_156 S_3
   )
  ) else (
   (f_X11_borrowerOf x2 S).bind fun q_4 =>
   if q_4.1 = x1 then (
    (f_X11_endsLoan x2 q_4.2).bind fun S_5 =>
    f_X11_isDead_127 k107 x1 x2 S_5
   ) else (
    f_X11_isDead_127 k107 x1 x2 q_4.2
   )
  )
set_option maxRecDepth 20000 in
theorem b_X11_isDead_107b {X : CX} {E : FE} (M0 : MF X E RX11 cX11_isDead 5 6 none) {k107 : Int32 → Int32 → Mm → Option Mm} (hk107 : ∀ (x1 x2 : Int32) (S : Mm), At X E false (mQv X Z1 E) 107 [some (.ref 239), some (.int x1), some (.int x2), none, none] [] Z1 S 0 0 (k107 x1 x2 S)) (x1 x2 : Int32) (S : Mm) : At X E false (mQv X Z1 E) 107 [some (.ref 239), some (.int x1), some (.int x2), none, none] [] Z1 S 0 0 (f_X11_isDead_107b k107 x1 x2 S) := by
  have F := M0.1
  unfold f_X11_isDead_107b
  refine a_iload_n F dX11_isDead_107 rfl rfl ?_
  refine a_bipush F dX11_isDead_108 kb_28 ?_
  refine a_icmp_ge F 133 dX11_isDead_110 (by decide) ?_ ?_
  · refine a_aload_n F dX11_isDead_133 rfl rfl ?_
    refine a_iload_n F dX11_isDead_134 rfl rfl ?_
    refine a_callVI F (As := [.int x1]) cfX11 rfl (c_X11_spouseOf X x1 S) mw_X11_spouseOf ml_X11_139 im_X11_spouseOf se_X11_spouseOf M0.2.1 (Nat.le_of_ble_eq_true rfl) ⟨Nat.zero_le _, Nat.zero_le _⟩ rfl rfl (Nat.le_of_ble_eq_true rfl) zl_239 zk_239 dX11_isDead_135 rfl (fun q_1 => ?_)
    refine a_iconst F dX11_isDead_138 ki_m1 ?_
    refine a_icmp_eq F 156 dX11_isDead_139 (by decide) ?_ ?_
    · refine a_mask [true, false, false, false, false] (L' := [some (.ref 239), none, none, none, none]) rfl rfl ?_
      exact b_X11_isDead_156 M0 q_1.2
    · refine a_aload_n F dX11_isDead_142 rfl rfl ?_
      refine a_getR (k := 1) F cfX11 dX11_isDead_143 fl_X11_7 (by decide) fi_11_1 zl_239 zk_239 zr_239_1 ?_
      refine a_bipush F dX11_isDead_146 kb_112 ?_
      refine a_aload_n F dX11_isDead_148 rfl rfl ?_
      refine a_iload_n F dX11_isDead_149 rfl rfl ?_
      refine a_callVI F (As := [.int x1]) cfX11 rfl (c_X11_spouseOf X x1 q_1.2) mw_X11_spouseOf ml_X11_139 im_X11_spouseOf se_X11_spouseOf M0.2.1 (Nat.le_of_ble_eq_true rfl) ⟨Nat.zero_le _, Nat.zero_le _⟩ rfl rfl (Nat.le_of_ble_eq_true rfl) zl_239 zk_239 dX11_isDead_150 rfl (fun q_2 => ?_)
      refine a_iadd F dX11_isDead_153 ?_
      refine a_iconst F dX11_isDead_154 ki_0 ?_
      refine a_gd (a_iast F dX11_isDead_155 zl_240 zk_240 ?_)
      refine a_nmS (fun S_3 => ?_)
      refine a_mask [true, false, false, false, false] (L' := [some (.ref 239), none, none, none, none]) rfl rfl ?_
      exact b_X11_isDead_156 M0 S_3
  · refine a_aload_n F dX11_isDead_113 rfl rfl ?_
    refine a_iload_n F dX11_isDead_114 rfl rfl ?_
    refine a_callVI F (As := [.int x2]) cfX11 rfl (c_X11_borrowerOf X x2 S) mw_X11_borrowerOf ml_X11_315 im_X11_borrowerOf se_X11_borrowerOf M0.2.1 (Nat.le_of_ble_eq_true rfl) ⟨Nat.zero_le _, Nat.zero_le _⟩ rfl rfl (Nat.le_of_ble_eq_true rfl) zl_239 zk_239 dX11_isDead_115 rfl (fun q_4 => ?_)
    refine a_iload_n F dX11_isDead_118 rfl rfl ?_
    refine a_icmp_ne F 127 dX11_isDead_119 (by decide) ?_ ?_
    · refine a_aload_n F dX11_isDead_122 rfl rfl ?_
      refine a_iload_n F dX11_isDead_123 rfl rfl ?_
      refine a_callVV F (As := [.int x2]) cfX11 rfl (c_X11_endsLoan X x2 q_4.2) mw_X11_endsLoan ml_X11_170 im_X11_endsLoan se_X11_endsLoan M0.2.1 (Nat.le_of_ble_eq_true rfl) ⟨Nat.zero_le _, Nat.zero_le _⟩ rfl rfl (Nat.le_of_ble_eq_true rfl) zl_239 zk_239 dX11_isDead_124 rfl (fun S_5 => ?_)
      exact b_X11_isDead_127 M0 hk107 x1 x2 S_5
    · exact b_X11_isDead_127 M0 hk107 x1 x2 q_4.2
def f_X11_isDead_107 : Nat → Int32 → Int32 → Mm → Option Mm :=
  itr (fun _ _ _ => none) (fun k => f_X11_isDead_107b k)
theorem b_X11_isDead_107 {X : CX} {E : FE} (M0 : MF X E RX11 cX11_isDead 5 6 none) : ∀ (n : Nat) (x1 x2 : Int32) (S : Mm), At X E false (mQv X Z1 E) 107 [some (.ref 239), some (.int x1), some (.int x2), none, none] [] Z1 S 0 0 (f_X11_isDead_107  n x1 x2 S) := by
  intro n
  induction n with
  | zero => intros; exact a_none
  | succ n ih => intro x1 x2 S; exact b_X11_isDead_107b M0 ih x1 x2 S
def f_X11_isDead_99 (k18 : Int32 → Int32 → Mm → Option Mm) (x1 x2 : Int32) (S : Mm) : Option Mm :=
  nm (x2 + (1 : Int32)) fun x2_1 =>
  k18 x1 x2_1 S
set_option maxRecDepth 20000 in
theorem b_X11_isDead_99 {X : CX} {E : FE} (M0 : MF X E RX11 cX11_isDead 5 6 none) {k18 : Int32 → Int32 → Mm → Option Mm} (hk18 : ∀ (x1 x2 : Int32) (S : Mm), At X E false (mQv X Z1 E) 18 [some (.ref 239), some (.int x1), some (.int x2), none, none] [] Z1 S 0 0 (k18 x1 x2 S)) (x1 x2 : Int32) (S : Mm) : At X E false (mQv X Z1 E) 99 [some (.ref 239), some (.int x1), some (.int x2), none, none] [] Z1 S 0 0 (f_X11_isDead_99 k18 x1 x2 S) := by
  have F := M0.1
  unfold f_X11_isDead_99
  refine a_iincN (L' := fun x2_1 => [some (.ref 239), some (.int x1), some (.int x2_1), none, none]) F dX11_isDead_99 rfl ki_1 (lt_b rfl) (fun _ => rfl) (fun x2_1 => ?_)
  refine a_goto F 18 dX11_isDead_102 (by decide) ?_
  exact hk18 x1 x2_1 S
def f_X11_isDead_96 (k18 : Int32 → Int32 → Mm → Option Mm) (x1 x2 t1 t2 t3 : Int32) (S : Mm) : Option Mm :=
  (f_X11_comesTo t1 t2 t3 S).bind fun S_1 =>
  f_X11_isDead_99 k18 x1 x2 S_1
set_option maxRecDepth 20000 in
theorem b_X11_isDead_96 {X : CX} {E : FE} (M0 : MF X E RX11 cX11_isDead 5 6 none) {k18 : Int32 → Int32 → Mm → Option Mm} (hk18 : ∀ (x1 x2 : Int32) (S : Mm), At X E false (mQv X Z1 E) 18 [some (.ref 239), some (.int x1), some (.int x2), none, none] [] Z1 S 0 0 (k18 x1 x2 S)) (x1 x2 t1 t2 t3 : Int32) (S : Mm) : At X E false (mQv X Z1 E) 96 [some (.ref 239), some (.int x1), some (.int x2), none, none] [.int t3, .int t2, .int t1, .ref 239] Z1 S 0 0 (f_X11_isDead_96 k18 x1 x2 t1 t2 t3 S) := by
  have F := M0.1
  unfold f_X11_isDead_96
  refine a_callVV F (As := [.int t1, .int t2, .int t3]) cfX11 rfl (c_X11_comesTo X t1 t2 t3 S) mw_X11_comesTo ml_X11_166 im_X11_comesTo se_X11_comesTo M0.2.1 (Nat.le_of_ble_eq_true rfl) ⟨Nat.zero_le _, Nat.zero_le _⟩ rfl rfl (Nat.le_of_ble_eq_true rfl) zl_239 zk_239 dX11_isDead_96 rfl (fun S_1 => ?_)
  exact b_X11_isDead_99 M0 hk18 x1 x2 S_1
def f_X11_isDead_86 (k18 : Int32 → Int32 → Mm → Option Mm) (x1 x2 x4 t1 t2 : Int32) (S : Mm) : Option Mm :=
  if x4 = 0 then (
   f_X11_isDead_96 k18 x1 x2 t1 t2 (4 : Int32) S
  ) else (
   f_X11_isDead_96 k18 x1 x2 t1 t2 (3 : Int32) S
  )
set_option maxRecDepth 20000 in
theorem b_X11_isDead_86 {X : CX} {E : FE} (M0 : MF X E RX11 cX11_isDead 5 6 none) {k18 : Int32 → Int32 → Mm → Option Mm} (hk18 : ∀ (x1 x2 : Int32) (S : Mm), At X E false (mQv X Z1 E) 18 [some (.ref 239), some (.int x1), some (.int x2), none, none] [] Z1 S 0 0 (k18 x1 x2 S)) (x1 x2 x4 t1 t2 : Int32) (S : Mm) : At X E false (mQv X Z1 E) 86 [some (.ref 239), some (.int x1), some (.int x2), none, some (.int x4)] [.int t2, .int t1, .ref 239] Z1 S 0 0 (f_X11_isDead_86 k18 x1 x2 x4 t1 t2 S) := by
  have F := M0.1
  unfold f_X11_isDead_86
  refine a_iload F dX11_isDead_86 rfl ?_
  refine a_if_eq F 95 dX11_isDead_88 (by decide) ?_ ?_
  · refine a_iconst F dX11_isDead_95 ki_4 ?_
    refine a_mask [true, true, true, false, false] (L' := [some (.ref 239), some (.int x1), some (.int x2), none, none]) rfl rfl ?_
    exact b_X11_isDead_96 M0 hk18 x1 x2 t1 t2 (4 : Int32) S
  · refine a_iconst F dX11_isDead_91 ki_3 ?_
    refine a_goto F 96 dX11_isDead_92 (by decide) ?_
    refine a_mask [true, true, true, false, false] (L' := [some (.ref 239), some (.int x1), some (.int x2), none, none]) rfl rfl ?_
    exact b_X11_isDead_96 M0 hk18 x1 x2 t1 t2 (3 : Int32) S
def f_X11_isDead_69 (k18 : Int32 → Int32 → Mm → Option Mm) (x1 x2 x3 x4 : Int32) (S : Mm) : Option Mm :=
  if x4 = 0 then (
   (f_X11_heirByLaw x1 x2 S).bind fun q_1 =>
   f_X11_isDead_86 k18 x1 x2 x4 x2 q_1.1 q_1.2
  ) else (
   f_X11_isDead_86 k18 x1 x2 x4 x2 x3 S
  )
set_option maxRecDepth 20000 in
theorem b_X11_isDead_69 {X : CX} {E : FE} (M0 : MF X E RX11 cX11_isDead 5 6 none) {k18 : Int32 → Int32 → Mm → Option Mm} (hk18 : ∀ (x1 x2 : Int32) (S : Mm), At X E false (mQv X Z1 E) 18 [some (.ref 239), some (.int x1), some (.int x2), none, none] [] Z1 S 0 0 (k18 x1 x2 S)) (x1 x2 x3 x4 : Int32) (S : Mm) : At X E false (mQv X Z1 E) 69 [some (.ref 239), some (.int x1), some (.int x2), some (.int x3), some (.int x4)] [] Z1 S 0 0 (f_X11_isDead_69 k18 x1 x2 x3 x4 S) := by
  have F := M0.1
  unfold f_X11_isDead_69
  refine a_aload_n F dX11_isDead_69 rfl rfl ?_
  refine a_iload_n F dX11_isDead_70 rfl rfl ?_
  refine a_iload F dX11_isDead_71 rfl ?_
  refine a_if_eq F 80 dX11_isDead_73 (by decide) ?_ ?_
  · refine a_aload_n F dX11_isDead_80 rfl rfl ?_
    refine a_iload_n F dX11_isDead_81 rfl rfl ?_
    refine a_iload_n F dX11_isDead_82 rfl rfl ?_
    refine a_callVI F (As := [.int x1, .int x2]) cfX11 rfl (c_X11_heirByLaw X x1 x2 S) mw_X11_heirByLaw ml_X11_348 im_X11_heirByLaw se_X11_heirByLaw M0.2.1 (Nat.le_of_ble_eq_true rfl) ⟨Nat.zero_le _, Nat.zero_le _⟩ rfl rfl (Nat.le_of_ble_eq_true rfl) zl_239 zk_239 dX11_isDead_83 rfl (fun q_1 => ?_)
    refine a_mask [true, true, true, false, true] (L' := [some (.ref 239), some (.int x1), some (.int x2), none, some (.int x4)]) rfl rfl ?_
    exact b_X11_isDead_86 M0 hk18 x1 x2 x4 x2 q_1.1 q_1.2
  · refine a_iload_n F dX11_isDead_76 rfl rfl ?_
    refine a_goto F 86 dX11_isDead_77 (by decide) ?_
    refine a_mask [true, true, true, false, true] (L' := [some (.ref 239), some (.int x1), some (.int x2), none, some (.int x4)]) rfl rfl ?_
    exact b_X11_isDead_86 M0 hk18 x1 x2 x4 x2 x3 S
def f_X11_isDead_53 (k18 : Int32 → Int32 → Mm → Option Mm) (x1 x2 x3 t0 : Int32) (S : Mm) : Option Mm :=
  if x2 = (S 239 47) then (
   gd (t0 = 0 ∨ t0 = 1) <|
   nm (uM S 239 48 t0) fun S_1 =>
   f_X11_isDead_69 k18 x1 x2 x3 t0 S_1
  ) else (
   f_X11_isDead_69 k18 x1 x2 x3 t0 S
  )
set_option maxRecDepth 20000 in
theorem b_X11_isDead_53 {X : CX} {E : FE} (M0 : MF X E RX11 cX11_isDead 5 6 none) {k18 : Int32 → Int32 → Mm → Option Mm} (hk18 : ∀ (x1 x2 : Int32) (S : Mm), At X E false (mQv X Z1 E) 18 [some (.ref 239), some (.int x1), some (.int x2), none, none] [] Z1 S 0 0 (k18 x1 x2 S)) (x1 x2 x3 t0 : Int32) (S : Mm) : At X E false (mQv X Z1 E) 53 [some (.ref 239), some (.int x1), some (.int x2), some (.int x3), none] [.int t0] Z1 S 0 0 (f_X11_isDead_53 k18 x1 x2 x3 t0 S) := by
  have F := M0.1
  unfold f_X11_isDead_53
  refine a_istore (L' := [some (.ref 239), some (.int x1), some (.int x2), some (.int x3), some (.int t0)]) F dX11_isDead_53 (lt_b rfl) rfl ?_
  refine a_iload_n F dX11_isDead_55 rfl rfl ?_
  refine a_aload_n F dX11_isDead_56 rfl rfl ?_
  refine a_getI (k := 47) F cfX11 dX11_isDead_57 fl_X11_98 (by decide) fi_11_47 zl_239 zk_239 ?_
  refine a_icmp_ne F 69 dX11_isDead_60 (by decide) ?_ ?_
  · refine a_aload_n F dX11_isDead_63 rfl rfl ?_
    refine a_iload F dX11_isDead_64 rfl ?_
    refine a_gd (a_putZ (k := 48) F cfX11 dX11_isDead_66 fl_X11_345 (by decide) fi_11_48 rfl rfl zl_239 zk_239 ?_)
    refine a_nmS (fun S_1 => ?_)
    exact b_X11_isDead_69 M0 hk18 x1 x2 x3 t0 S_1
  · exact b_X11_isDead_69 M0 hk18 x1 x2 x3 t0 S
def f_X11_isDead_18b (k18 : Int32 → Int32 → Mm → Option Mm) (x1 x2 : Int32) (S : Mm) : Option Mm :=
  if (28 : Int32) ≤ x2 then (
   f_X11_isDead_107 FU x1 (0 : Int32) S
  ) else (
   (f_X11_ownerOf x2 S).bind fun q_1 =>
   if q_1.1 = x1 then (
    (f_X11_heirByWill x1 x2 q_1.2).bind fun q_2 =>
    if q_2.1 = (-1 : Int32) then (
     f_X11_isDead_53 k18 x1 x2 q_2.1 (0 : Int32) q_2.2
    ) else (
     f_X11_isDead_53 k18 x1 x2 q_2.1 (1 : Int32) q_2.2
    )
   ) else (
    f_X11_isDead_99 k18 x1 x2 q_1.2
   )
  )
set_option maxRecDepth 20000 in
theorem b_X11_isDead_18b {X : CX} {E : FE} (M0 : MF X E RX11 cX11_isDead 5 6 none) {k18 : Int32 → Int32 → Mm → Option Mm} (hk18 : ∀ (x1 x2 : Int32) (S : Mm), At X E false (mQv X Z1 E) 18 [some (.ref 239), some (.int x1), some (.int x2), none, none] [] Z1 S 0 0 (k18 x1 x2 S)) (x1 x2 : Int32) (S : Mm) : At X E false (mQv X Z1 E) 18 [some (.ref 239), some (.int x1), some (.int x2), none, none] [] Z1 S 0 0 (f_X11_isDead_18b k18 x1 x2 S) := by
  have F := M0.1
  unfold f_X11_isDead_18b
  refine a_iload_n F dX11_isDead_18 rfl rfl ?_
  refine a_bipush F dX11_isDead_19 kb_28 ?_
  refine a_icmp_ge F 105 dX11_isDead_21 (by decide) ?_ ?_
  · refine a_iconst F dX11_isDead_105 ki_0 ?_
    refine a_istore_n (L' := [some (.ref 239), some (.int x1), some (.int (0 : Int32)), none, none]) F dX11_isDead_106 rfl (lt_b rfl) rfl ?_
    exact b_X11_isDead_107 M0 FU x1 (0 : Int32) S
  · refine a_aload_n F dX11_isDead_24 rfl rfl ?_
    refine a_iload_n F dX11_isDead_25 rfl rfl ?_
    refine a_callVI F (As := [.int x2]) cfX11 rfl (c_X11_ownerOf X x2 S) mw_X11_ownerOf ml_X11_160 im_X11_ownerOf se_X11_ownerOf M0.2.1 (Nat.le_of_ble_eq_true rfl) ⟨Nat.zero_le _, Nat.zero_le _⟩ rfl rfl (Nat.le_of_ble_eq_true rfl) zl_239 zk_239 dX11_isDead_26 rfl (fun q_1 => ?_)
    refine a_iload_n F dX11_isDead_29 rfl rfl ?_
    refine a_icmp_eq F 36 dX11_isDead_30 (by decide) ?_ ?_
    · refine a_aload_n F dX11_isDead_36 rfl rfl ?_
      refine a_iload_n F dX11_isDead_37 rfl rfl ?_
      refine a_iload_n F dX11_isDead_38 rfl rfl ?_
      refine a_callVI F (As := [.int x1, .int x2]) cfX11 rfl (c_X11_heirByWill X x1 x2 q_1.2) mw_X11_heirByWill ml_X11_342 im_X11_heirByWill se_X11_heirByWill M0.2.1 (Nat.le_of_ble_eq_true rfl) ⟨Nat.zero_le _, Nat.zero_le _⟩ rfl rfl (Nat.le_of_ble_eq_true rfl) zl_239 zk_239 dX11_isDead_39 rfl (fun q_2 => ?_)
      refine a_istore_n (L' := [some (.ref 239), some (.int x1), some (.int x2), some (.int q_2.1), none]) F dX11_isDead_42 rfl (lt_b rfl) rfl ?_
      refine a_iload_n F dX11_isDead_43 rfl rfl ?_
      refine a_iconst F dX11_isDead_44 ki_m1 ?_
      refine a_icmp_eq F 52 dX11_isDead_45 (by decide) ?_ ?_
      · refine a_iconst F dX11_isDead_52 ki_0 ?_
        exact b_X11_isDead_53 M0 hk18 x1 x2 q_2.1 (0 : Int32) q_2.2
      · refine a_iconst F dX11_isDead_48 ki_1 ?_
        refine a_goto F 53 dX11_isDead_49 (by decide) ?_
        exact b_X11_isDead_53 M0 hk18 x1 x2 q_2.1 (1 : Int32) q_2.2
    · refine a_goto F 99 dX11_isDead_33 (by decide) ?_
      exact b_X11_isDead_99 M0 hk18 x1 x2 q_1.2
def f_X11_isDead_18 : Nat → Int32 → Int32 → Mm → Option Mm :=
  itr (fun _ _ _ => none) (fun k => f_X11_isDead_18b k)
theorem b_X11_isDead_18 {X : CX} {E : FE} (M0 : MF X E RX11 cX11_isDead 5 6 none) : ∀ (n : Nat) (x1 x2 : Int32) (S : Mm), At X E false (mQv X Z1 E) 18 [some (.ref 239), some (.int x1), some (.int x2), none, none] [] Z1 S 0 0 (f_X11_isDead_18  n x1 x2 S) := by
  intro n
  induction n with
  | zero => intros; exact a_none
  | succ n ih => intro x1 x2 S; exact b_X11_isDead_18b M0 ih x1 x2 S
def f_X11_isDead (p1 : Int32) (S : Mm) : Option Mm :=
  nm (uM S 240 3 ((S 240 3) ||| (shl (1 : Int32) p1))) fun S_1 =>
  f_X11_isDead_18 FU p1 (0 : Int32) S_1
set_option maxRecDepth 20000 in
theorem b_X11_isDead {X : CX} {E : FE} (M0 : MF X E RX11 cX11_isDead 5 6 none) (p1 : Int32) (S : Mm) : At X E false (mQv X Z1 E) 0 [some (.ref 239), some (.int p1), none, none, none] [] Z1 S 0 0 (f_X11_isDead p1 S) := by
  have F := M0.1
  unfold f_X11_isDead
  refine a_aload_n F dX11_isDead_0 rfl rfl ?_
  refine a_getR (k := 1) F cfX11 dX11_isDead_1 fl_X11_7 (by decide) fi_11_1 zl_239 zk_239 zr_239_1 ?_
  refine a_iconst F dX11_isDead_4 ki_3 ?_
  refine a_aload_n F dX11_isDead_5 rfl rfl ?_
  refine a_getR (k := 1) F cfX11 dX11_isDead_6 fl_X11_7 (by decide) fi_11_1 zl_239 zk_239 zr_239_1 ?_
  refine a_iconst F dX11_isDead_9 ki_3 ?_
  refine a_ialdK F 3 dX11_isDead_10 zl_240 zk_240 ib_3_148 ix_3 ?_
  refine a_iconst F dX11_isDead_11 ki_1 ?_
  refine a_iload_n F dX11_isDead_12 rfl rfl ?_
  refine a_ishl F dX11_isDead_13 ?_
  refine a_ior F dX11_isDead_14 ?_
  refine a_iastK F 3 dX11_isDead_15 zl_240 zk_240 ib_3_148 ix_3 ?_
  refine a_nmS (fun S_1 => ?_)
  refine a_iconst F dX11_isDead_16 ki_0 ?_
  refine a_istore_n (L' := [some (.ref 239), some (.int p1), some (.int (0 : Int32)), none, none]) F dX11_isDead_17 rfl (lt_b rfl) rfl ?_
  exact b_X11_isDead_18 M0 FU p1 (0 : Int32) S_1
theorem c_X11_isDead (X : CX) (p1 : Int32) (S : Mm) : CtV X Z1 yX11_isDead cX11_isDead 5 6 [.ref 239, .int p1] S (f_X11_isDead p1 S) :=
  ctV_of (by decide +kernel) rfl (Nat.le_of_ble_eq_true rfl) (by simp [Value.category]) z1len fun E F R hra hlk => b_X11_isDead ⟨F, R, hra, hlk⟩ p1 S
def f_X11_ends_108 (k22 : Int32 → Int32 → Mm → Option (Int32 × Mm)) (x1 x2 : Int32) (S : Mm) : Option (Int32 × Mm) :=
  nm (x2 + (1 : Int32)) fun x2_1 =>
  k22 x1 x2_1 S
set_option maxRecDepth 20000 in
theorem b_X11_ends_108 {X : CX} {E : FE} (M0 : MF X E RX11 cX11_ends 4 7 (some .int)) {k22 : Int32 → Int32 → Mm → Option (Int32 × Mm)} (hk22 : ∀ (x1 x2 : Int32) (S : Mm), At X E false (mQi X Z1 E) 22 [some (.ref 239), some (.int x1), some (.int x2), none] [] Z1 S 0 0 (k22 x1 x2 S)) (x1 x2 : Int32) (S : Mm) : At X E false (mQi X Z1 E) 108 [some (.ref 239), some (.int x1), some (.int x2), none] [] Z1 S 0 0 (f_X11_ends_108 k22 x1 x2 S) := by
  have F := M0.1
  unfold f_X11_ends_108
  refine a_iincN (L' := fun x2_1 => [some (.ref 239), some (.int x1), some (.int x2_1), none]) F dX11_ends_108 rfl ki_1 (lt_b rfl) (fun _ => rfl) (fun x2_1 => ?_)
  refine a_goto F 22 dX11_ends_111 (by decide) ?_
  exact hk22 x1 x2_1 S
def f_X11_ends_82 (k22 : Int32 → Int32 → Mm → Option (Int32 × Mm)) (x1 x2 : Int32) (S : Mm) : Option (Int32 × Mm) :=
  gd (inB ((88 : Int32) + x2) 148 = true) <|
  nm (uM S 240 (ix ((88 : Int32) + x2)) ((S 240 0) + (1 : Int32))) fun S_1 =>
  (f_X11_isDead x2 S_1).bind fun S_2 =>
  nm ((x1 + (1 : Int32))) fun x1_3 =>
  f_X11_ends_108 k22 x1_3 x2 S_2
set_option maxRecDepth 20000 in
theorem b_X11_ends_82 {X : CX} {E : FE} (M0 : MF X E RX11 cX11_ends 4 7 (some .int)) {k22 : Int32 → Int32 → Mm → Option (Int32 × Mm)} (hk22 : ∀ (x1 x2 : Int32) (S : Mm), At X E false (mQi X Z1 E) 22 [some (.ref 239), some (.int x1), some (.int x2), none] [] Z1 S 0 0 (k22 x1 x2 S)) (x1 x2 : Int32) (S : Mm) : At X E false (mQi X Z1 E) 82 [some (.ref 239), some (.int x1), some (.int x2), none] [] Z1 S 0 0 (f_X11_ends_82 k22 x1 x2 S) := by
  have F := M0.1
  unfold f_X11_ends_82
  refine a_aload_n F dX11_ends_82 rfl rfl ?_
  refine a_getR (k := 1) F cfX11 dX11_ends_83 fl_X11_7 (by decide) fi_11_1 zl_239 zk_239 zr_239_1 ?_
  refine a_bipush F dX11_ends_86 kb_88 ?_
  refine a_iload_n F dX11_ends_88 rfl rfl ?_
  refine a_iadd F dX11_ends_89 ?_
  refine a_aload_n F dX11_ends_90 rfl rfl ?_
  refine a_getR (k := 1) F cfX11 dX11_ends_91 fl_X11_7 (by decide) fi_11_1 zl_239 zk_239 zr_239_1 ?_
  refine a_iconst F dX11_ends_94 ki_0 ?_
  refine a_ialdK F 0 dX11_ends_95 zl_240 zk_240 ib_0_148 ix_0 ?_
  refine a_iconst F dX11_ends_96 ki_1 ?_
  refine a_iadd F dX11_ends_97 ?_
  refine a_gd (a_iast F dX11_ends_98 zl_240 zk_240 ?_)
  refine a_nmS (fun S_1 => ?_)
  refine a_aload_n F dX11_ends_99 rfl rfl ?_
  refine a_iload_n F dX11_ends_100 rfl rfl ?_
  refine a_callVV F (As := [.int x2]) cfX11 rfl (c_X11_isDead X x2 S_1) mw_X11_isDead ml_X11_387 im_X11_isDead se_X11_isDead M0.2.1 (Nat.le_of_ble_eq_true rfl) ⟨Nat.zero_le _, Nat.zero_le _⟩ rfl rfl (Nat.le_of_ble_eq_true rfl) zl_239 zk_239 dX11_ends_101 rfl (fun S_2 => ?_)
  refine a_iload_n F dX11_ends_104 rfl rfl ?_
  refine a_iconst F dX11_ends_105 ki_1 ?_
  refine a_iadd F dX11_ends_106 ?_
  refine a_istore_nN (L' := fun x1_3 => [some (.ref 239), some (.int x1_3), some (.int x2), none]) F dX11_ends_107 rfl (lt_b rfl) (fun _ => rfl) (fun x1_3 => ?_)
  exact b_X11_ends_108 M0 hk22 x1_3 x2 S_2
def f_X11_ends_66 (k22 : Int32 → Int32 → Mm → Option (Int32 × Mm)) (x1 x2 t0 : Int32) (S : Mm) : Option (Int32 × Mm) :=
  if t0 = 0 then (
   (f_X11_isFrailToday x2 S).bind fun q_1 =>
   if q_1.1 = 0 then (
    f_X11_ends_108 k22 x1 x2 q_1.2
   ) else (
    f_X11_ends_82 k22 x1 x2 q_1.2
   )
  ) else (
   f_X11_ends_82 k22 x1 x2 S
  )
set_option maxRecDepth 20000 in
theorem b_X11_ends_66 {X : CX} {E : FE} (M0 : MF X E RX11 cX11_ends 4 7 (some .int)) {k22 : Int32 → Int32 → Mm → Option (Int32 × Mm)} (hk22 : ∀ (x1 x2 : Int32) (S : Mm), At X E false (mQi X Z1 E) 22 [some (.ref 239), some (.int x1), some (.int x2), none] [] Z1 S 0 0 (k22 x1 x2 S)) (x1 x2 t0 : Int32) (S : Mm) : At X E false (mQi X Z1 E) 66 [some (.ref 239), some (.int x1), some (.int x2), none] [.int t0] Z1 S 0 0 (f_X11_ends_66 k22 x1 x2 t0 S) := by
  have F := M0.1
  unfold f_X11_ends_66
  refine a_istore_n (L' := [some (.ref 239), some (.int x1), some (.int x2), some (.int t0)]) F dX11_ends_66 rfl (lt_b rfl) rfl ?_
  refine a_iload_n F dX11_ends_67 rfl rfl ?_
  refine a_if_ne F 82 dX11_ends_68 (by decide) ?_ ?_
  · refine a_aload_n F dX11_ends_71 rfl rfl ?_
    refine a_iload_n F dX11_ends_72 rfl rfl ?_
    refine a_callVI F (As := [.int x2]) cfX11 rfl (c_X11_isFrailToday X x2 S) mw_X11_isFrailToday ml_X11_384 im_X11_isFrailToday se_X11_isFrailToday M0.2.1 (Nat.le_of_ble_eq_true rfl) ⟨Nat.zero_le _, Nat.zero_le _⟩ rfl rfl (Nat.le_of_ble_eq_true rfl) zl_239 zk_239 dX11_ends_73 rfl (fun q_1 => ?_)
    refine a_if_ne F 82 dX11_ends_76 (by decide) ?_ ?_
    · refine a_goto F 108 dX11_ends_79 (by decide) ?_
      refine a_mask [true, true, true, false] (L' := [some (.ref 239), some (.int x1), some (.int x2), none]) rfl rfl ?_
      exact b_X11_ends_108 M0 hk22 x1 x2 q_1.2
    · refine a_mask [true, true, true, false] (L' := [some (.ref 239), some (.int x1), some (.int x2), none]) rfl rfl ?_
      exact b_X11_ends_82 M0 hk22 x1 x2 q_1.2
  · refine a_mask [true, true, true, false] (L' := [some (.ref 239), some (.int x1), some (.int x2), none]) rfl rfl ?_
    exact b_X11_ends_82 M0 hk22 x1 x2 S
def f_X11_ends_22b (k22 : Int32 → Int32 → Mm → Option (Int32 × Mm)) (x1 x2 : Int32) (S : Mm) : Option (Int32 × Mm) :=
  if (S 239 6) ≤ x2 then (
   some (x1, S)
  ) else (
   (f_X11_doesLive x2 S).bind fun q_1 =>
   if q_1.1 = 0 then (
    f_X11_ends_108 k22 x1 x2 q_1.2
   ) else (
    gd (inB ((88 : Int32) + x2) 148 = true) <|
    if (q_1.2 240 (ix ((88 : Int32) + x2))) = ((q_1.2 240 0) + (1 : Int32)) then (
     f_X11_ends_66 k22 x1 x2 (1 : Int32) q_1.2
    ) else (
     f_X11_ends_66 k22 x1 x2 (0 : Int32) q_1.2
    )
   )
  )
set_option maxRecDepth 20000 in
theorem b_X11_ends_22b {X : CX} {E : FE} (M0 : MF X E RX11 cX11_ends 4 7 (some .int)) {k22 : Int32 → Int32 → Mm → Option (Int32 × Mm)} (hk22 : ∀ (x1 x2 : Int32) (S : Mm), At X E false (mQi X Z1 E) 22 [some (.ref 239), some (.int x1), some (.int x2), none] [] Z1 S 0 0 (k22 x1 x2 S)) (x1 x2 : Int32) (S : Mm) : At X E false (mQi X Z1 E) 22 [some (.ref 239), some (.int x1), some (.int x2), none] [] Z1 S 0 0 (f_X11_ends_22b k22 x1 x2 S) := by
  have F := M0.1
  unfold f_X11_ends_22b
  refine a_iload_n F dX11_ends_22 rfl rfl ?_
  refine a_aload_n F dX11_ends_23 rfl rfl ?_
  refine a_getI (k := 6) F cfX11 dX11_ends_24 fl_X11_122 (by decide) fi_11_6 zl_239 zk_239 ?_
  refine a_icmp_ge F 114 dX11_ends_27 (by decide) ?_ ?_
  · refine a_iload_n F dX11_ends_114 rfl rfl ?_
    exact a_iret F M0.2.2.1 M0.2.2.2 dX11_ends_115
  · refine a_aload_n F dX11_ends_30 rfl rfl ?_
    refine a_iload_n F dX11_ends_31 rfl rfl ?_
    refine a_callVI F (As := [.int x2]) cfX11 rfl (c_X11_doesLive X x2 S) mw_X11_doesLive ml_X11_132 im_X11_doesLive se_X11_doesLive M0.2.1 (Nat.le_of_ble_eq_true rfl) ⟨Nat.zero_le _, Nat.zero_le _⟩ rfl rfl (Nat.le_of_ble_eq_true rfl) zl_239 zk_239 dX11_ends_32 rfl (fun q_1 => ?_)
    refine a_if_ne F 41 dX11_ends_35 (by decide) ?_ ?_
    · refine a_goto F 108 dX11_ends_38 (by decide) ?_
      exact b_X11_ends_108 M0 hk22 x1 x2 q_1.2
    · refine a_aload_n F dX11_ends_41 rfl rfl ?_
      refine a_getR (k := 1) F cfX11 dX11_ends_42 fl_X11_7 (by decide) fi_11_1 zl_239 zk_239 zr_239_1 ?_
      refine a_bipush F dX11_ends_45 kb_88 ?_
      refine a_iload_n F dX11_ends_47 rfl rfl ?_
      refine a_iadd F dX11_ends_48 ?_
      refine a_gd (a_iald F dX11_ends_49 zl_240 zk_240 ?_)
      refine a_aload_n F dX11_ends_50 rfl rfl ?_
      refine a_getR (k := 1) F cfX11 dX11_ends_51 fl_X11_7 (by decide) fi_11_1 zl_239 zk_239 zr_239_1 ?_
      refine a_iconst F dX11_ends_54 ki_0 ?_
      refine a_ialdK F 0 dX11_ends_55 zl_240 zk_240 ib_0_148 ix_0 ?_
      refine a_iconst F dX11_ends_56 ki_1 ?_
      refine a_iadd F dX11_ends_57 ?_
      refine a_icmp_ne F 65 dX11_ends_58 (by decide) ?_ ?_
      · refine a_iconst F dX11_ends_61 ki_1 ?_
        refine a_goto F 66 dX11_ends_62 (by decide) ?_
        exact b_X11_ends_66 M0 hk22 x1 x2 (1 : Int32) q_1.2
      · refine a_iconst F dX11_ends_65 ki_0 ?_
        exact b_X11_ends_66 M0 hk22 x1 x2 (0 : Int32) q_1.2
def f_X11_ends_22 : Nat → Int32 → Int32 → Mm → Option (Int32 × Mm) :=
  itr (fun _ _ _ => none) (fun k => f_X11_ends_22b k)
theorem b_X11_ends_22 {X : CX} {E : FE} (M0 : MF X E RX11 cX11_ends 4 7 (some .int)) : ∀ (n : Nat) (x1 x2 : Int32) (S : Mm), At X E false (mQi X Z1 E) 22 [some (.ref 239), some (.int x1), some (.int x2), none] [] Z1 S 0 0 (f_X11_ends_22  n x1 x2 S) := by
  intro n
  induction n with
  | zero => intros; exact a_none
  | succ n ih => intro x1 x2 S; exact b_X11_ends_22b M0 ih x1 x2 S
def f_X11_ends (S : Mm) : Option (Int32 × Mm) :=
  nm (uM S 240 0 ((S 240 0) + (1 : Int32))) fun S_1 =>
  (f_X11_endsLoans S_1).bind fun S_2 =>
  f_X11_ends_22 FU (0 : Int32) (0 : Int32) S_2
set_option maxRecDepth 20000 in
theorem b_X11_ends {X : CX} {E : FE} (M0 : MF X E RX11 cX11_ends 4 7 (some .int)) (S : Mm) : At X E false (mQi X Z1 E) 0 [some (.ref 239), none, none, none] [] Z1 S 0 0 (f_X11_ends S) := by
  have F := M0.1
  unfold f_X11_ends
  refine a_iconst F dX11_ends_0 ki_0 ?_
  refine a_istore_n (L' := [some (.ref 239), some (.int (0 : Int32)), none, none]) F dX11_ends_1 rfl (lt_b rfl) rfl ?_
  refine a_aload_n F dX11_ends_2 rfl rfl ?_
  refine a_getR (k := 1) F cfX11 dX11_ends_3 fl_X11_7 (by decide) fi_11_1 zl_239 zk_239 zr_239_1 ?_
  refine a_iconst F dX11_ends_6 ki_0 ?_
  refine a_aload_n F dX11_ends_7 rfl rfl ?_
  refine a_getR (k := 1) F cfX11 dX11_ends_8 fl_X11_7 (by decide) fi_11_1 zl_239 zk_239 zr_239_1 ?_
  refine a_iconst F dX11_ends_11 ki_0 ?_
  refine a_ialdK F 0 dX11_ends_12 zl_240 zk_240 ib_0_148 ix_0 ?_
  refine a_iconst F dX11_ends_13 ki_1 ?_
  refine a_iadd F dX11_ends_14 ?_
  refine a_iastK F 0 dX11_ends_15 zl_240 zk_240 ib_0_148 ix_0 ?_
  refine a_nmS (fun S_1 => ?_)
  refine a_aload_n F dX11_ends_16 rfl rfl ?_
  refine a_callVV F (As := []) cfX11 rfl (c_X11_endsLoans X S_1) mw_X11_endsLoans ml_X11_381 im_X11_endsLoans se_X11_endsLoans M0.2.1 (Nat.le_of_ble_eq_true rfl) ⟨Nat.zero_le _, Nat.zero_le _⟩ rfl rfl (Nat.le_of_ble_eq_true rfl) zl_239 zk_239 dX11_ends_17 rfl (fun S_2 => ?_)
  refine a_iconst F dX11_ends_20 ki_0 ?_
  refine a_istore_n (L' := [some (.ref 239), some (.int (0 : Int32)), some (.int (0 : Int32)), none]) F dX11_ends_21 rfl (lt_b rfl) rfl ?_
  exact b_X11_ends_22 M0 FU (0 : Int32) (0 : Int32) S_2
theorem c_X11_ends (X : CX) (S : Mm) : CtI X Z1 yX11_ends cX11_ends 4 (some .int) 7 [.ref 239] S (f_X11_ends S) :=
  ctI_of (by decide +kernel) rfl (Nat.le_of_ble_eq_true rfl) (by simp [Value.category]) z1len fun E F R hra hlk => b_X11_ends ⟨F, R, hra, hlk⟩ S
def f_X11_days_36b (k36 : Int32 → Int32 → Int32 → Mm → Option (Int32 × Mm)) (x1 x2 x3 : Int32) (S : Mm) : Option (Int32 × Mm) :=
  if x1 ≤ x3 then (
   some (x2, S)
  ) else (
   (f_X11_keepsAhead S).bind fun S_1 =>
   (f_X11_ends S_1).bind fun q_2 =>
   nm ((x2 + q_2.1)) fun x2_3 =>
   nm (x3 + (1 : Int32)) fun x3_4 =>
   k36 x1 x2_3 x3_4 q_2.2
  )
set_option maxRecDepth 20000 in
theorem b_X11_days_36b {X : CX} {E : FE} (M0 : MF X E RX11 cX11_days 4 8 (some .int)) {k36 : Int32 → Int32 → Int32 → Mm → Option (Int32 × Mm)} (hk36 : ∀ (x1 x2 x3 : Int32) (S : Mm), At X E false (mQi X Z1 E) 36 [some (.ref 239), some (.int x1), some (.int x2), some (.int x3)] [] Z1 S 0 0 (k36 x1 x2 x3 S)) (x1 x2 x3 : Int32) (S : Mm) : At X E false (mQi X Z1 E) 36 [some (.ref 239), some (.int x1), some (.int x2), some (.int x3)] [] Z1 S 0 0 (f_X11_days_36b k36 x1 x2 x3 S) := by
  have F := M0.1
  unfold f_X11_days_36b
  refine a_iload_n F dX11_days_36 rfl rfl ?_
  refine a_iload_n F dX11_days_37 rfl rfl ?_
  refine a_icmp_ge F 58 dX11_days_38 (by decide) ?_ ?_
  · refine a_iload_n F dX11_days_58 rfl rfl ?_
    exact a_iret F M0.2.2.1 M0.2.2.2 dX11_days_59
  · refine a_aload_n F dX11_days_41 rfl rfl ?_
    refine a_callVV F (As := []) cfX11 rfl (c_X11_keepsAhead X S) mw_X11_keepsAhead ml_X11_357 im_X11_keepsAhead se_X11_keepsAhead M0.2.1 (Nat.le_of_ble_eq_true rfl) ⟨Nat.zero_le _, Nat.zero_le _⟩ rfl rfl (Nat.le_of_ble_eq_true rfl) zl_239 zk_239 dX11_days_42 rfl (fun S_1 => ?_)
    refine a_iload_n F dX11_days_45 rfl rfl ?_
    refine a_aload_n F dX11_days_46 rfl rfl ?_
    refine a_callVI F (As := []) cfX11 rfl (c_X11_ends X S_1) mw_X11_ends ml_X11_390 im_X11_ends se_X11_ends M0.2.1 (Nat.le_of_ble_eq_true rfl) ⟨Nat.zero_le _, Nat.zero_le _⟩ rfl rfl (Nat.le_of_ble_eq_true rfl) zl_239 zk_239 dX11_days_47 rfl (fun q_2 => ?_)
    refine a_iadd F dX11_days_50 ?_
    refine a_istore_nN (L' := fun x2_3 => [some (.ref 239), some (.int x1), some (.int x2_3), some (.int x3)]) F dX11_days_51 rfl (lt_b rfl) (fun _ => rfl) (fun x2_3 => ?_)
    refine a_iincN (L' := fun x3_4 => [some (.ref 239), some (.int x1), some (.int x2_3), some (.int x3_4)]) F dX11_days_52 rfl ki_1 (lt_b rfl) (fun _ => rfl) (fun x3_4 => ?_)
    refine a_goto F 36 dX11_days_55 (by decide) ?_
    exact hk36 x1 x2_3 x3_4 q_2.2
def f_X11_days_36 : Nat → Int32 → Int32 → Int32 → Mm → Option (Int32 × Mm) :=
  itr (fun _ _ _ _ => none) (fun k => f_X11_days_36b k)
theorem b_X11_days_36 {X : CX} {E : FE} (M0 : MF X E RX11 cX11_days 4 8 (some .int)) : ∀ (n : Nat) (x1 x2 x3 : Int32) (S : Mm), At X E false (mQi X Z1 E) 36 [some (.ref 239), some (.int x1), some (.int x2), some (.int x3)] [] Z1 S 0 0 (f_X11_days_36  n x1 x2 x3 S) := by
  intro n
  induction n with
  | zero => intros; exact a_none
  | succ n ih => intro x1 x2 x3 S; exact b_X11_days_36b M0 ih x1 x2 x3 S
def f_X11_days (p1 : Int32) (S : Mm) : Option (Int32 × Mm) :=
  nm (uM S 239 0 (0 : Int32)) fun S_1 =>
  (f_X11_isIn p1 (1 : Int32) (100 : Int32) S_1).bind fun q_2 =>
  if q_2.1 = 0 then (
   some ((-1 : Int32), q_2.2)
  ) else (
   if ((q_2.2 240 0) + p1) ≤ (9999 : Int32) then (
    f_X11_days_36 FU p1 (0 : Int32) (0 : Int32) q_2.2
   ) else (
    some ((-1 : Int32), q_2.2)
   )
  )
set_option maxRecDepth 20000 in
theorem b_X11_days {X : CX} {E : FE} (M0 : MF X E RX11 cX11_days 4 8 (some .int)) (p1 : Int32) (S : Mm) : At X E false (mQi X Z1 E) 0 [some (.ref 239), some (.int p1), none, none] [] Z1 S 0 0 (f_X11_days p1 S) := by
  have F := M0.1
  unfold f_X11_days
  refine a_aload_n F dX11_days_0 rfl rfl ?_
  refine a_iconst F dX11_days_1 ki_0 ?_
  refine a_putI (k := 0) F cfX11 dX11_days_2 fl_X11_107 (by decide) fi_11_0 rfl rfl zl_239 zk_239 ?_
  refine a_nmS (fun S_1 => ?_)
  refine a_aload_n F dX11_days_5 rfl rfl ?_
  refine a_iload_n F dX11_days_6 rfl rfl ?_
  refine a_iconst F dX11_days_7 ki_1 ?_
  refine a_bipush F dX11_days_8 kb_100 ?_
  refine a_callVI F (As := [.int p1, .int (1 : Int32), .int (100 : Int32)]) cfX11 rfl (c_X11_isIn X p1 (1 : Int32) (100 : Int32) S_1) mw_X11_isIn ml_X11_147 im_X11_isIn se_X11_isIn M0.2.1 (Nat.le_of_ble_eq_true rfl) ⟨Nat.zero_le _, Nat.zero_le _⟩ rfl rfl (Nat.le_of_ble_eq_true rfl) zl_239 zk_239 dX11_days_10 rfl (fun q_2 => ?_)
  refine a_if_eq F 30 dX11_days_13 (by decide) ?_ ?_
  · refine a_iconst F dX11_days_30 ki_m1 ?_
    exact a_iret F M0.2.2.1 M0.2.2.2 dX11_days_31
  · refine a_aload_n F dX11_days_16 rfl rfl ?_
    refine a_getR (k := 1) F cfX11 dX11_days_17 fl_X11_7 (by decide) fi_11_1 zl_239 zk_239 zr_239_1 ?_
    refine a_iconst F dX11_days_20 ki_0 ?_
    refine a_ialdK F 0 dX11_days_21 zl_240 zk_240 ib_0_148 ix_0 ?_
    refine a_iload_n F dX11_days_22 rfl rfl ?_
    refine a_iadd F dX11_days_23 ?_
    refine a_sipush F dX11_days_24 ks_9999 ?_
    refine a_icmp_le F 32 dX11_days_27 (by decide) ?_ ?_
    · refine a_iconst F dX11_days_32 ki_0 ?_
      refine a_istore_n (L' := [some (.ref 239), some (.int p1), some (.int (0 : Int32)), none]) F dX11_days_33 rfl (lt_b rfl) rfl ?_
      refine a_iconst F dX11_days_34 ki_0 ?_
      refine a_istore_n (L' := [some (.ref 239), some (.int p1), some (.int (0 : Int32)), some (.int (0 : Int32))]) F dX11_days_35 rfl (lt_b rfl) rfl ?_
      exact b_X11_days_36 M0 FU p1 (0 : Int32) (0 : Int32) q_2.2
    · refine a_iconst F dX11_days_30 ki_m1 ?_
      exact a_iret F M0.2.2.1 M0.2.2.2 dX11_days_31
theorem c_X11_days (X : CX) (p1 : Int32) (S : Mm) : CtI X Z1 yX11_days cX11_days 4 (some .int) 8 [.ref 239, .int p1] S (f_X11_days p1 S) :=
  ctI_of (by decide +kernel) rfl (Nat.le_of_ble_eq_true rfl) (by simp [Value.category]) z1len fun E F R hra hlk => b_X11_days ⟨F, R, hra, hlk⟩ p1 S
def f_X11_handOf_30 (k4 : Int32 → Int32 → Int32 → Mm → Option (Int32 × Mm)) (x1 x2 x3 : Int32) (S : Mm) : Option (Int32 × Mm) :=
  nm (x3 + (1 : Int32)) fun x3_1 =>
  k4 x1 x2 x3_1 S
set_option maxRecDepth 20000 in
theorem b_X11_handOf_30 {X : CX} {E : FE} (M0 : MF X E RX11 cX11_handOf 4 1 (some .int)) {k4 : Int32 → Int32 → Int32 → Mm → Option (Int32 × Mm)} (hk4 : ∀ (x1 x2 x3 : Int32) (S : Mm), At X E false (mQi X Z1 E) 4 [some (.ref 239), some (.int x1), some (.int x2), some (.int x3)] [] Z1 S 0 0 (k4 x1 x2 x3 S)) (x1 x2 x3 : Int32) (S : Mm) : At X E false (mQi X Z1 E) 30 [some (.ref 239), some (.int x1), some (.int x2), some (.int x3)] [] Z1 S 0 0 (f_X11_handOf_30 k4 x1 x2 x3 S) := by
  have F := M0.1
  unfold f_X11_handOf_30
  refine a_iincN (L' := fun x3_1 => [some (.ref 239), some (.int x1), some (.int x2), some (.int x3_1)]) F dX11_handOf_30 rfl ki_1 (lt_b rfl) (fun _ => rfl) (fun x3_1 => ?_)
  refine a_goto F 4 dX11_handOf_33 (by decide) ?_
  exact hk4 x1 x2 x3_1 S
def f_X11_handOf_4b (k4 : Int32 → Int32 → Int32 → Mm → Option (Int32 × Mm)) (x1 x2 x3 : Int32) (S : Mm) : Option (Int32 × Mm) :=
  if (S 239 6) ≤ x3 then (
   some (x2, S)
  ) else (
   if ((shr x1 x3) &&& (1 : Int32)) = (1 : Int32) then (
    gd (inB x3 12 = true) <|
    nm ((x2 ||| (S 267 (ix x3)))) fun x2_1 =>
    f_X11_handOf_30 k4 x1 x2_1 x3 S
   ) else (
    f_X11_handOf_30 k4 x1 x2 x3 S
   )
  )
set_option maxRecDepth 20000 in
theorem b_X11_handOf_4b {X : CX} {E : FE} (M0 : MF X E RX11 cX11_handOf 4 1 (some .int)) {k4 : Int32 → Int32 → Int32 → Mm → Option (Int32 × Mm)} (hk4 : ∀ (x1 x2 x3 : Int32) (S : Mm), At X E false (mQi X Z1 E) 4 [some (.ref 239), some (.int x1), some (.int x2), some (.int x3)] [] Z1 S 0 0 (k4 x1 x2 x3 S)) (x1 x2 x3 : Int32) (S : Mm) : At X E false (mQi X Z1 E) 4 [some (.ref 239), some (.int x1), some (.int x2), some (.int x3)] [] Z1 S 0 0 (f_X11_handOf_4b k4 x1 x2 x3 S) := by
  have F := M0.1
  unfold f_X11_handOf_4b
  refine a_iload_n F dX11_handOf_4 rfl rfl ?_
  refine a_aload_n F dX11_handOf_5 rfl rfl ?_
  refine a_getI (k := 6) F cfX11 dX11_handOf_6 fl_X11_122 (by decide) fi_11_6 zl_239 zk_239 ?_
  refine a_icmp_ge F 36 dX11_handOf_9 (by decide) ?_ ?_
  · refine a_iload_n F dX11_handOf_36 rfl rfl ?_
    exact a_iret F M0.2.2.1 M0.2.2.2 dX11_handOf_37
  · refine a_iload_n F dX11_handOf_12 rfl rfl ?_
    refine a_iload_n F dX11_handOf_13 rfl rfl ?_
    refine a_ishr F dX11_handOf_14 ?_
    refine a_iconst F dX11_handOf_15 ki_1 ?_
    refine a_iand F dX11_handOf_16 ?_
    refine a_iconst F dX11_handOf_17 ki_1 ?_
    refine a_icmp_ne F 30 dX11_handOf_18 (by decide) ?_ ?_
    · refine a_iload_n F dX11_handOf_21 rfl rfl ?_
      refine a_aload_n F dX11_handOf_22 rfl rfl ?_
      refine a_getR (k := 46) F cfX11 dX11_handOf_23 fl_X11_95 (by decide) fi_11_46 zl_239 zk_239 zr_239_46 ?_
      refine a_iload_n F dX11_handOf_26 rfl rfl ?_
      refine a_gd (a_iald F dX11_handOf_27 zl_267 zk_267 ?_)
      refine a_ior F dX11_handOf_28 ?_
      refine a_istore_nN (L' := fun x2_1 => [some (.ref 239), some (.int x1), some (.int x2_1), some (.int x3)]) F dX11_handOf_29 rfl (lt_b rfl) (fun _ => rfl) (fun x2_1 => ?_)
      exact b_X11_handOf_30 M0 hk4 x1 x2_1 x3 S
    · exact b_X11_handOf_30 M0 hk4 x1 x2 x3 S
def f_X11_handOf_4 : Nat → Int32 → Int32 → Int32 → Mm → Option (Int32 × Mm) :=
  itr (fun _ _ _ _ => none) (fun k => f_X11_handOf_4b k)
theorem b_X11_handOf_4 {X : CX} {E : FE} (M0 : MF X E RX11 cX11_handOf 4 1 (some .int)) : ∀ (n : Nat) (x1 x2 x3 : Int32) (S : Mm), At X E false (mQi X Z1 E) 4 [some (.ref 239), some (.int x1), some (.int x2), some (.int x3)] [] Z1 S 0 0 (f_X11_handOf_4  n x1 x2 x3 S) := by
  intro n
  induction n with
  | zero => intros; exact a_none
  | succ n ih => intro x1 x2 x3 S; exact b_X11_handOf_4b M0 ih x1 x2 x3 S
def f_X11_handOf (p1 : Int32) (S : Mm) : Option (Int32 × Mm) :=
  f_X11_handOf_4 FU p1 (0 : Int32) (0 : Int32) S
set_option maxRecDepth 20000 in
theorem b_X11_handOf {X : CX} {E : FE} (M0 : MF X E RX11 cX11_handOf 4 1 (some .int)) (p1 : Int32) (S : Mm) : At X E false (mQi X Z1 E) 0 [some (.ref 239), some (.int p1), none, none] [] Z1 S 0 0 (f_X11_handOf p1 S) := by
  have F := M0.1
  unfold f_X11_handOf
  refine a_iconst F dX11_handOf_0 ki_0 ?_
  refine a_istore_n (L' := [some (.ref 239), some (.int p1), some (.int (0 : Int32)), none]) F dX11_handOf_1 rfl (lt_b rfl) rfl ?_
  refine a_iconst F dX11_handOf_2 ki_0 ?_
  refine a_istore_n (L' := [some (.ref 239), some (.int p1), some (.int (0 : Int32)), some (.int (0 : Int32))]) F dX11_handOf_3 rfl (lt_b rfl) rfl ?_
  exact b_X11_handOf_4 M0 FU p1 (0 : Int32) (0 : Int32) S
theorem c_X11_handOf (X : CX) (p1 : Int32) (S : Mm) : CtI X Z1 yX11_handOf cX11_handOf 4 (some .int) 1 [.ref 239, .int p1] S (f_X11_handOf p1 S) :=
  ctI_of (by decide +kernel) rfl (Nat.le_of_ble_eq_true rfl) (by simp [Value.category]) z1len fun E F R hra hlk => b_X11_handOf ⟨F, R, hra, hlk⟩ p1 S
def f_X11_signersOf_60 (k4 : Int32 → Int32 → Int32 → Mm → Option (Int32 × Mm)) (x1 x2 x3 : Int32) (S : Mm) : Option (Int32 × Mm) :=
  nm (x3 + (1 : Int32)) fun x3_1 =>
  k4 x1 x2 x3_1 S
set_option maxRecDepth 20000 in
theorem b_X11_signersOf_60 {X : CX} {E : FE} (M0 : MF X E RX11 cX11_signersOf 4 2 (some .int)) {k4 : Int32 → Int32 → Int32 → Mm → Option (Int32 × Mm)} (hk4 : ∀ (x1 x2 x3 : Int32) (S : Mm), At X E false (mQi X Z1 E) 4 [some (.ref 239), some (.int x1), some (.int x2), some (.int x3)] [] Z1 S 0 0 (k4 x1 x2 x3 S)) (x1 x2 x3 : Int32) (S : Mm) : At X E false (mQi X Z1 E) 60 [some (.ref 239), some (.int x1), some (.int x2), some (.int x3)] [] Z1 S 0 0 (f_X11_signersOf_60 k4 x1 x2 x3 S) := by
  have F := M0.1
  unfold f_X11_signersOf_60
  refine a_iincN (L' := fun x3_1 => [some (.ref 239), some (.int x1), some (.int x2), some (.int x3_1)]) F dX11_signersOf_60 rfl ki_1 (lt_b rfl) (fun _ => rfl) (fun x3_1 => ?_)
  refine a_goto F 4 dX11_signersOf_63 (by decide) ?_
  exact hk4 x1 x2 x3_1 S
def f_X11_signersOf_46 (k4 : Int32 → Int32 → Int32 → Mm → Option (Int32 × Mm)) (x1 x2 x3 : Int32) (S : Mm) : Option (Int32 × Mm) :=
  (f_X11_handOf x3 S).bind fun q_1 =>
  if (x1 &&& (q_1.1 ^^^ (-1 : Int32))) = 0 then (
   f_X11_signersOf_60 k4 x1 x3 x3 q_1.2
  ) else (
   f_X11_signersOf_60 k4 x1 x2 x3 q_1.2
  )
set_option maxRecDepth 20000 in
theorem b_X11_signersOf_46 {X : CX} {E : FE} (M0 : MF X E RX11 cX11_signersOf 4 2 (some .int)) {k4 : Int32 → Int32 → Int32 → Mm → Option (Int32 × Mm)} (hk4 : ∀ (x1 x2 x3 : Int32) (S : Mm), At X E false (mQi X Z1 E) 4 [some (.ref 239), some (.int x1), some (.int x2), some (.int x3)] [] Z1 S 0 0 (k4 x1 x2 x3 S)) (x1 x2 x3 : Int32) (S : Mm) : At X E false (mQi X Z1 E) 46 [some (.ref 239), some (.int x1), some (.int x2), some (.int x3)] [] Z1 S 0 0 (f_X11_signersOf_46 k4 x1 x2 x3 S) := by
  have F := M0.1
  unfold f_X11_signersOf_46
  refine a_iload_n F dX11_signersOf_46 rfl rfl ?_
  refine a_aload_n F dX11_signersOf_47 rfl rfl ?_
  refine a_iload_n F dX11_signersOf_48 rfl rfl ?_
  refine a_callVI F (As := [.int x3]) cfX11 rfl (c_X11_handOf X x3 S) mw_X11_handOf ml_X11_378 im_X11_handOf se_X11_handOf M0.2.1 (Nat.le_of_ble_eq_true rfl) ⟨Nat.zero_le _, Nat.zero_le _⟩ rfl rfl (Nat.le_of_ble_eq_true rfl) zl_239 zk_239 dX11_signersOf_49 rfl (fun q_1 => ?_)
  refine a_iconst F dX11_signersOf_52 ki_m1 ?_
  refine a_ixor F dX11_signersOf_53 ?_
  refine a_iand F dX11_signersOf_54 ?_
  refine a_if_ne F 60 dX11_signersOf_55 (by decide) ?_ ?_
  · refine a_iload_n F dX11_signersOf_58 rfl rfl ?_
    refine a_istore_n (L' := [some (.ref 239), some (.int x1), some (.int x3), some (.int x3)]) F dX11_signersOf_59 rfl (lt_b rfl) rfl ?_
    exact b_X11_signersOf_60 M0 hk4 x1 x3 x3 q_1.2
  · exact b_X11_signersOf_60 M0 hk4 x1 x2 x3 q_1.2
def f_X11_signersOf_4b (k4 : Int32 → Int32 → Int32 → Mm → Option (Int32 × Mm)) (x1 x2 x3 : Int32) (S : Mm) : Option (Int32 × Mm) :=
  if (shl (1 : Int32) (S 239 6)) ≤ x3 then (
   some (x2, S)
  ) else (
   if (x3 &&& (S 240 3)) = 0 then (
    if x2 = (-1 : Int32) then (
     f_X11_signersOf_46 k4 x1 x2 x3 S
    ) else (
     (f_X11_ones x3 S).bind fun q_1 =>
     (f_X11_ones x2 q_1.2).bind fun q_2 =>
     if q_1.1 < q_2.1 then (
      f_X11_signersOf_46 k4 x1 x2 x3 q_2.2
     ) else (
      f_X11_signersOf_60 k4 x1 x2 x3 q_2.2
     )
    )
   ) else (
    f_X11_signersOf_60 k4 x1 x2 x3 S
   )
  )
set_option maxRecDepth 20000 in
theorem b_X11_signersOf_4b {X : CX} {E : FE} (M0 : MF X E RX11 cX11_signersOf 4 2 (some .int)) {k4 : Int32 → Int32 → Int32 → Mm → Option (Int32 × Mm)} (hk4 : ∀ (x1 x2 x3 : Int32) (S : Mm), At X E false (mQi X Z1 E) 4 [some (.ref 239), some (.int x1), some (.int x2), some (.int x3)] [] Z1 S 0 0 (k4 x1 x2 x3 S)) (x1 x2 x3 : Int32) (S : Mm) : At X E false (mQi X Z1 E) 4 [some (.ref 239), some (.int x1), some (.int x2), some (.int x3)] [] Z1 S 0 0 (f_X11_signersOf_4b k4 x1 x2 x3 S) := by
  have F := M0.1
  unfold f_X11_signersOf_4b
  refine a_iload_n F dX11_signersOf_4 rfl rfl ?_
  refine a_iconst F dX11_signersOf_5 ki_1 ?_
  refine a_aload_n F dX11_signersOf_6 rfl rfl ?_
  refine a_getI (k := 6) F cfX11 dX11_signersOf_7 fl_X11_122 (by decide) fi_11_6 zl_239 zk_239 ?_
  refine a_ishl F dX11_signersOf_10 ?_
  refine a_icmp_ge F 66 dX11_signersOf_11 (by decide) ?_ ?_
  · refine a_iload_n F dX11_signersOf_66 rfl rfl ?_
    exact a_iret F M0.2.2.1 M0.2.2.2 dX11_signersOf_67
  · refine a_iload_n F dX11_signersOf_14 rfl rfl ?_
    refine a_aload_n F dX11_signersOf_15 rfl rfl ?_
    refine a_getR (k := 1) F cfX11 dX11_signersOf_16 fl_X11_7 (by decide) fi_11_1 zl_239 zk_239 zr_239_1 ?_
    refine a_iconst F dX11_signersOf_19 ki_3 ?_
    refine a_ialdK F 3 dX11_signersOf_20 zl_240 zk_240 ib_3_148 ix_3 ?_
    refine a_iand F dX11_signersOf_21 ?_
    refine a_if_ne F 60 dX11_signersOf_22 (by decide) ?_ ?_
    · refine a_iload_n F dX11_signersOf_25 rfl rfl ?_
      refine a_iconst F dX11_signersOf_26 ki_m1 ?_
      refine a_icmp_eq F 46 dX11_signersOf_27 (by decide) ?_ ?_
      · exact b_X11_signersOf_46 M0 hk4 x1 x2 x3 S
      · refine a_aload_n F dX11_signersOf_30 rfl rfl ?_
        refine a_iload_n F dX11_signersOf_31 rfl rfl ?_
        refine a_callVI F (As := [.int x3]) cfX11 rfl (c_X11_ones X x3 S) mw_X11_ones ml_X11_333 im_X11_ones se_X11_ones M0.2.1 (Nat.le_of_ble_eq_true rfl) ⟨Nat.zero_le _, Nat.zero_le _⟩ rfl rfl (Nat.le_of_ble_eq_true rfl) zl_239 zk_239 dX11_signersOf_32 rfl (fun q_1 => ?_)
        refine a_aload_n F dX11_signersOf_35 rfl rfl ?_
        refine a_iload_n F dX11_signersOf_36 rfl rfl ?_
        refine a_callVI F (As := [.int x2]) cfX11 rfl (c_X11_ones X x2 q_1.2) mw_X11_ones ml_X11_333 im_X11_ones se_X11_ones M0.2.1 (Nat.le_of_ble_eq_true rfl) ⟨Nat.zero_le _, Nat.zero_le _⟩ rfl rfl (Nat.le_of_ble_eq_true rfl) zl_239 zk_239 dX11_signersOf_37 rfl (fun q_2 => ?_)
        refine a_icmp_lt F 46 dX11_signersOf_40 (by decide) ?_ ?_
        · exact b_X11_signersOf_46 M0 hk4 x1 x2 x3 q_2.2
        · refine a_goto F 60 dX11_signersOf_43 (by decide) ?_
          exact b_X11_signersOf_60 M0 hk4 x1 x2 x3 q_2.2
    · exact b_X11_signersOf_60 M0 hk4 x1 x2 x3 S
def f_X11_signersOf_4 : Nat → Int32 → Int32 → Int32 → Mm → Option (Int32 × Mm) :=
  itr (fun _ _ _ _ => none) (fun k => f_X11_signersOf_4b k)
theorem b_X11_signersOf_4 {X : CX} {E : FE} (M0 : MF X E RX11 cX11_signersOf 4 2 (some .int)) : ∀ (n : Nat) (x1 x2 x3 : Int32) (S : Mm), At X E false (mQi X Z1 E) 4 [some (.ref 239), some (.int x1), some (.int x2), some (.int x3)] [] Z1 S 0 0 (f_X11_signersOf_4  n x1 x2 x3 S) := by
  intro n
  induction n with
  | zero => intros; exact a_none
  | succ n ih => intro x1 x2 x3 S; exact b_X11_signersOf_4b M0 ih x1 x2 x3 S
def f_X11_signersOf (p1 : Int32) (S : Mm) : Option (Int32 × Mm) :=
  f_X11_signersOf_4 FU p1 (-1 : Int32) (1 : Int32) S
set_option maxRecDepth 20000 in
theorem b_X11_signersOf {X : CX} {E : FE} (M0 : MF X E RX11 cX11_signersOf 4 2 (some .int)) (p1 : Int32) (S : Mm) : At X E false (mQi X Z1 E) 0 [some (.ref 239), some (.int p1), none, none] [] Z1 S 0 0 (f_X11_signersOf p1 S) := by
  have F := M0.1
  unfold f_X11_signersOf
  refine a_iconst F dX11_signersOf_0 ki_m1 ?_
  refine a_istore_n (L' := [some (.ref 239), some (.int p1), some (.int (-1 : Int32)), none]) F dX11_signersOf_1 rfl (lt_b rfl) rfl ?_
  refine a_iconst F dX11_signersOf_2 ki_1 ?_
  refine a_istore_n (L' := [some (.ref 239), some (.int p1), some (.int (-1 : Int32)), some (.int (1 : Int32))]) F dX11_signersOf_3 rfl (lt_b rfl) rfl ?_
  exact b_X11_signersOf_4 M0 FU p1 (-1 : Int32) (1 : Int32) S
theorem c_X11_signersOf (X : CX) (p1 : Int32) (S : Mm) : CtI X Z1 yX11_signersOf cX11_signersOf 4 (some .int) 2 [.ref 239, .int p1] S (f_X11_signersOf p1 S) :=
  ctI_of (by decide +kernel) rfl (Nat.le_of_ble_eq_true rfl) (by simp [Value.category]) z1len fun E F R hra hlk => b_X11_signersOf ⟨F, R, hra, hlk⟩ p1 S
def f_X11_livingOnes (S : Mm) : Option (Int32 × Mm) :=
  some ((((shl (1 : Int32) (S 239 6)) - (1 : Int32)) &&& ((S 240 3) ^^^ (-1 : Int32))), S)
set_option maxRecDepth 20000 in
theorem b_X11_livingOnes {X : CX} {E : FE} (M0 : MF X E RX11 cX11_livingOnes 1 1 (some .int)) (S : Mm) : At X E false (mQi X Z1 E) 0 [some (.ref 239)] [] Z1 S 0 0 (f_X11_livingOnes S) := by
  have F := M0.1
  unfold f_X11_livingOnes
  refine a_iconst F dX11_livingOnes_0 ki_1 ?_
  refine a_aload_n F dX11_livingOnes_1 rfl rfl ?_
  refine a_getI (k := 6) F cfX11 dX11_livingOnes_2 fl_X11_122 (by decide) fi_11_6 zl_239 zk_239 ?_
  refine a_ishl F dX11_livingOnes_5 ?_
  refine a_iconst F dX11_livingOnes_6 ki_1 ?_
  refine a_isub F dX11_livingOnes_7 ?_
  refine a_aload_n F dX11_livingOnes_8 rfl rfl ?_
  refine a_getR (k := 1) F cfX11 dX11_livingOnes_9 fl_X11_7 (by decide) fi_11_1 zl_239 zk_239 zr_239_1 ?_
  refine a_iconst F dX11_livingOnes_12 ki_3 ?_
  refine a_ialdK F 3 dX11_livingOnes_13 zl_240 zk_240 ib_3_148 ix_3 ?_
  refine a_iconst F dX11_livingOnes_14 ki_m1 ?_
  refine a_ixor F dX11_livingOnes_15 ?_
  refine a_iand F dX11_livingOnes_16 ?_
  exact a_iret F M0.2.2.1 M0.2.2.2 dX11_livingOnes_17
theorem c_X11_livingOnes (X : CX) (S : Mm) : CtI X Z1 yX11_livingOnes cX11_livingOnes 1 (some .int) 1 [.ref 239] S (f_X11_livingOnes S) :=
  ctI_of (by decide +kernel) rfl (Nat.le_of_ble_eq_true rfl) (by simp [Value.category]) z1len fun E F R hra hlk => b_X11_livingOnes ⟨F, R, hra, hlk⟩ S
def f_X11_neededFor_69 (k24 : Int32 → Int32 → Int32 → Int32 → Mm → Option (Int32 × Mm)) (x1 x2 x3 x4 : Int32) (S : Mm) : Option (Int32 × Mm) :=
  nm (x4 + (1 : Int32)) fun x4_1 =>
  k24 x1 x2 x3 x4_1 S
set_option maxRecDepth 20000 in
theorem b_X11_neededFor_69 {X : CX} {E : FE} (M0 : MF X E RX11 cX11_neededFor 5 2 (some .int)) {k24 : Int32 → Int32 → Int32 → Int32 → Mm → Option (Int32 × Mm)} (hk24 : ∀ (x1 x2 x3 x4 : Int32) (S : Mm), At X E false (mQi X Z1 E) 24 [some (.ref 239), some (.int x1), some (.int x2), some (.int x3), some (.int x4)] [] Z1 S 0 0 (k24 x1 x2 x3 x4 S)) (x1 x2 x3 x4 : Int32) (S : Mm) : At X E false (mQi X Z1 E) 69 [some (.ref 239), some (.int x1), some (.int x2), some (.int x3), some (.int x4)] [] Z1 S 0 0 (f_X11_neededFor_69 k24 x1 x2 x3 x4 S) := by
  have F := M0.1
  unfold f_X11_neededFor_69
  refine a_iincN (L' := fun x4_1 => [some (.ref 239), some (.int x1), some (.int x2), some (.int x3), some (.int x4_1)]) F dX11_neededFor_69 rfl ki_1 (lt_b rfl) (fun _ => rfl) (fun x4_1 => ?_)
  refine a_goto F 24 dX11_neededFor_72 (by decide) ?_
  exact hk24 x1 x2 x3 x4_1 S
def f_X11_neededFor_24b (k24 : Int32 → Int32 → Int32 → Int32 → Mm → Option (Int32 × Mm)) (x1 x2 x3 x4 : Int32) (S : Mm) : Option (Int32 × Mm) :=
  if (S 239 6) ≤ x4 then (
   some (x3, S)
  ) else (
   if ((shr x2 x4) &&& (1 : Int32)) = (1 : Int32) then (
    (f_X11_handOf (x2 &&& ((shl (1 : Int32) x4) ^^^ (-1 : Int32))) S).bind fun q_1 =>
    if (x1 &&& (q_1.1 ^^^ (-1 : Int32))) = 0 then (
     f_X11_neededFor_69 k24 x1 x2 x3 x4 q_1.2
    ) else (
     nm ((x3 ||| (shl (1 : Int32) x4))) fun x3_2 =>
     f_X11_neededFor_69 k24 x1 x2 x3_2 x4 q_1.2
    )
   ) else (
    f_X11_neededFor_69 k24 x1 x2 x3 x4 S
   )
  )
set_option maxRecDepth 20000 in
theorem b_X11_neededFor_24b {X : CX} {E : FE} (M0 : MF X E RX11 cX11_neededFor 5 2 (some .int)) {k24 : Int32 → Int32 → Int32 → Int32 → Mm → Option (Int32 × Mm)} (hk24 : ∀ (x1 x2 x3 x4 : Int32) (S : Mm), At X E false (mQi X Z1 E) 24 [some (.ref 239), some (.int x1), some (.int x2), some (.int x3), some (.int x4)] [] Z1 S 0 0 (k24 x1 x2 x3 x4 S)) (x1 x2 x3 x4 : Int32) (S : Mm) : At X E false (mQi X Z1 E) 24 [some (.ref 239), some (.int x1), some (.int x2), some (.int x3), some (.int x4)] [] Z1 S 0 0 (f_X11_neededFor_24b k24 x1 x2 x3 x4 S) := by
  have F := M0.1
  unfold f_X11_neededFor_24b
  refine a_iload F dX11_neededFor_24 rfl ?_
  refine a_aload_n F dX11_neededFor_26 rfl rfl ?_
  refine a_getI (k := 6) F cfX11 dX11_neededFor_27 fl_X11_122 (by decide) fi_11_6 zl_239 zk_239 ?_
  refine a_icmp_ge F 75 dX11_neededFor_30 (by decide) ?_ ?_
  · refine a_iload_n F dX11_neededFor_75 rfl rfl ?_
    exact a_iret F M0.2.2.1 M0.2.2.2 dX11_neededFor_76
  · refine a_iload_n F dX11_neededFor_33 rfl rfl ?_
    refine a_iload F dX11_neededFor_34 rfl ?_
    refine a_ishr F dX11_neededFor_36 ?_
    refine a_iconst F dX11_neededFor_37 ki_1 ?_
    refine a_iand F dX11_neededFor_38 ?_
    refine a_iconst F dX11_neededFor_39 ki_1 ?_
    refine a_icmp_ne F 69 dX11_neededFor_40 (by decide) ?_ ?_
    · refine a_iload_n F dX11_neededFor_43 rfl rfl ?_
      refine a_aload_n F dX11_neededFor_44 rfl rfl ?_
      refine a_iload_n F dX11_neededFor_45 rfl rfl ?_
      refine a_iconst F dX11_neededFor_46 ki_1 ?_
      refine a_iload F dX11_neededFor_47 rfl ?_
      refine a_ishl F dX11_neededFor_49 ?_
      refine a_iconst F dX11_neededFor_50 ki_m1 ?_
      refine a_ixor F dX11_neededFor_51 ?_
      refine a_iand F dX11_neededFor_52 ?_
      refine a_callVI F (As := [.int (x2 &&& ((shl (1 : Int32) x4) ^^^ (-1 : Int32)))]) cfX11 rfl (c_X11_handOf X (x2 &&& ((shl (1 : Int32) x4) ^^^ (-1 : Int32))) S) mw_X11_handOf ml_X11_378 im_X11_handOf se_X11_handOf M0.2.1 (Nat.le_of_ble_eq_true rfl) ⟨Nat.zero_le _, Nat.zero_le _⟩ rfl rfl (Nat.le_of_ble_eq_true rfl) zl_239 zk_239 dX11_neededFor_53 rfl (fun q_1 => ?_)
      refine a_iconst F dX11_neededFor_56 ki_m1 ?_
      refine a_ixor F dX11_neededFor_57 ?_
      refine a_iand F dX11_neededFor_58 ?_
      refine a_if_eq F 69 dX11_neededFor_59 (by decide) ?_ ?_
      · exact b_X11_neededFor_69 M0 hk24 x1 x2 x3 x4 q_1.2
      · refine a_iload_n F dX11_neededFor_62 rfl rfl ?_
        refine a_iconst F dX11_neededFor_63 ki_1 ?_
        refine a_iload F dX11_neededFor_64 rfl ?_
        refine a_ishl F dX11_neededFor_66 ?_
        refine a_ior F dX11_neededFor_67 ?_
        refine a_istore_nN (L' := fun x3_2 => [some (.ref 239), some (.int x1), some (.int x2), some (.int x3_2), some (.int x4)]) F dX11_neededFor_68 rfl (lt_b rfl) (fun _ => rfl) (fun x3_2 => ?_)
        exact b_X11_neededFor_69 M0 hk24 x1 x2 x3_2 x4 q_1.2
    · exact b_X11_neededFor_69 M0 hk24 x1 x2 x3 x4 S
def f_X11_neededFor_24 : Nat → Int32 → Int32 → Int32 → Int32 → Mm → Option (Int32 × Mm) :=
  itr (fun _ _ _ _ _ => none) (fun k => f_X11_neededFor_24b k)
theorem b_X11_neededFor_24 {X : CX} {E : FE} (M0 : MF X E RX11 cX11_neededFor 5 2 (some .int)) : ∀ (n : Nat) (x1 x2 x3 x4 : Int32) (S : Mm), At X E false (mQi X Z1 E) 24 [some (.ref 239), some (.int x1), some (.int x2), some (.int x3), some (.int x4)] [] Z1 S 0 0 (f_X11_neededFor_24  n x1 x2 x3 x4 S) := by
  intro n
  induction n with
  | zero => intros; exact a_none
  | succ n ih => intro x1 x2 x3 x4 S; exact b_X11_neededFor_24b M0 ih x1 x2 x3 x4 S
def f_X11_neededFor (p1 : Int32) (S : Mm) : Option (Int32 × Mm) :=
  (f_X11_livingOnes S).bind fun q_1 =>
  (f_X11_handOf q_1.1 q_1.2).bind fun q_2 =>
  if (p1 &&& (q_2.1 ^^^ (-1 : Int32))) = 0 then (
   f_X11_neededFor_24 FU p1 q_1.1 (0 : Int32) (0 : Int32) q_2.2
  ) else (
   some ((0 : Int32), q_2.2)
  )
set_option maxRecDepth 20000 in
theorem b_X11_neededFor {X : CX} {E : FE} (M0 : MF X E RX11 cX11_neededFor 5 2 (some .int)) (p1 : Int32) (S : Mm) : At X E false (mQi X Z1 E) 0 [some (.ref 239), some (.int p1), none, none, none] [] Z1 S 0 0 (f_X11_neededFor p1 S) := by
  have F := M0.1
  unfold f_X11_neededFor
  refine a_aload_n F dX11_neededFor_0 rfl rfl ?_
  refine a_callVI F (As := []) cfX11 rfl (c_X11_livingOnes X S) mw_X11_livingOnes ml_X11_411 im_X11_livingOnes se_X11_livingOnes M0.2.1 (Nat.le_of_ble_eq_true rfl) ⟨Nat.zero_le _, Nat.zero_le _⟩ rfl rfl (Nat.le_of_ble_eq_true rfl) zl_239 zk_239 dX11_neededFor_1 rfl (fun q_1 => ?_)
  refine a_istore_n (L' := [some (.ref 239), some (.int p1), some (.int q_1.1), none, none]) F dX11_neededFor_4 rfl (lt_b rfl) rfl ?_
  refine a_iconst F dX11_neededFor_5 ki_0 ?_
  refine a_istore_n (L' := [some (.ref 239), some (.int p1), some (.int q_1.1), some (.int (0 : Int32)), none]) F dX11_neededFor_6 rfl (lt_b rfl) rfl ?_
  refine a_iload_n F dX11_neededFor_7 rfl rfl ?_
  refine a_aload_n F dX11_neededFor_8 rfl rfl ?_
  refine a_iload_n F dX11_neededFor_9 rfl rfl ?_
  refine a_callVI F (As := [.int q_1.1]) cfX11 rfl (c_X11_handOf X q_1.1 q_1.2) mw_X11_handOf ml_X11_378 im_X11_handOf se_X11_handOf M0.2.1 (Nat.le_of_ble_eq_true rfl) ⟨Nat.zero_le _, Nat.zero_le _⟩ rfl rfl (Nat.le_of_ble_eq_true rfl) zl_239 zk_239 dX11_neededFor_10 rfl (fun q_2 => ?_)
  refine a_iconst F dX11_neededFor_13 ki_m1 ?_
  refine a_ixor F dX11_neededFor_14 ?_
  refine a_iand F dX11_neededFor_15 ?_
  refine a_if_eq F 21 dX11_neededFor_16 (by decide) ?_ ?_
  · refine a_iconst F dX11_neededFor_21 ki_0 ?_
    refine a_istore (L' := [some (.ref 239), some (.int p1), some (.int q_1.1), some (.int (0 : Int32)), some (.int (0 : Int32))]) F dX11_neededFor_22 (lt_b rfl) rfl ?_
    exact b_X11_neededFor_24 M0 FU p1 q_1.1 (0 : Int32) (0 : Int32) q_2.2
  · refine a_iconst F dX11_neededFor_19 ki_0 ?_
    exact a_iret F M0.2.2.1 M0.2.2.2 dX11_neededFor_20
theorem c_X11_neededFor (X : CX) (p1 : Int32) (S : Mm) : CtI X Z1 yX11_neededFor cX11_neededFor 5 (some .int) 2 [.ref 239, .int p1] S (f_X11_neededFor p1 S) :=
  ctI_of (by decide +kernel) rfl (Nat.le_of_ble_eq_true rfl) (by simp [Value.category]) z1len fun E F R hra hlk => b_X11_neededFor ⟨F, R, hra, hlk⟩ p1 S
def f_X11_deed (p1 p2 : Int32) (S : Mm) : Option (Int32 × Mm) :=
  nm (uM S 239 0 (0 : Int32)) fun S_1 =>
  (f_X11_isDeed p1 S_1).bind fun q_2 =>
  if q_2.1 = 0 then (
   some ((-2 : Int32), q_2.2)
  ) else (
   if p2 = 0 then (
    gd (inB p1 8 = true) <|
    some ((q_2.2 263 (ix p1)), q_2.2)
   ) else (
    if p2 = (1 : Int32) then (
     gd (inB p1 8 = true) <|
     some ((q_2.2 262 (ix p1)), q_2.2)
    ) else (
     if p2 = (2 : Int32) then (
      gd (inB ((124 : Int32) + p1) 148 = true) <|
      some ((q_2.2 240 (ix ((124 : Int32) + p1))), q_2.2)
     ) else (
      if p2 = (3 : Int32) then (
       gd (inB ((132 : Int32) + p1) 148 = true) <|
       some ((q_2.2 240 (ix ((132 : Int32) + p1))), q_2.2)
      ) else (
       if p2 = (4 : Int32) then (
        gd (inB ((140 : Int32) + p1) 148 = true) <|
        some (((q_2.2 240 (ix ((140 : Int32) + p1))) - (1 : Int32)), q_2.2)
       ) else (
        (f_X11_findsHands q_2.2).bind fun S_3 =>
        if p2 = (5 : Int32) then (
         gd (inB p1 8 = true) <|
         (f_X11_signersOf (S_3 263 (ix p1)) S_3).bind fun q_4 =>
         some (q_4.1, q_4.2)
        ) else (
         if p2 = (6 : Int32) then (
          gd (inB p1 8 = true) <|
          (f_X11_aloneOf (S_3 263 (ix p1)) S_3).bind fun q_5 =>
          some (q_5.1, q_5.2)
         ) else (
          if p2 = (7 : Int32) then (
           gd (inB p1 8 = true) <|
           (f_X11_neededFor (S_3 263 (ix p1)) S_3).bind fun q_6 =>
           some (q_6.1, q_6.2)
          ) else (
           some ((-2 : Int32), S_3)
          )
         )
        )
       )
      )
     )
    )
   )
  )
set_option maxRecDepth 20000 in
theorem b_X11_deed {X : CX} {E : FE} (M0 : MF X E RX11 cX11_deed 3 5 (some .int)) (p1 p2 : Int32) (S : Mm) : At X E false (mQi X Z1 E) 0 [some (.ref 239), some (.int p1), some (.int p2)] [] Z1 S 0 0 (f_X11_deed p1 p2 S) := by
  have F := M0.1
  unfold f_X11_deed
  refine a_aload_n F dX11_deed_0 rfl rfl ?_
  refine a_iconst F dX11_deed_1 ki_0 ?_
  refine a_putI (k := 0) F cfX11 dX11_deed_2 fl_X11_107 (by decide) fi_11_0 rfl rfl zl_239 zk_239 ?_
  refine a_nmS (fun S_1 => ?_)
  refine a_aload_n F dX11_deed_5 rfl rfl ?_
  refine a_iload_n F dX11_deed_6 rfl rfl ?_
  refine a_callVI F (As := [.int p1]) cfX11 rfl (c_X11_isDeed X p1 S_1) mw_X11_isDeed ml_X11_369 im_X11_isDeed se_X11_isDeed M0.2.1 (Nat.le_of_ble_eq_true rfl) ⟨Nat.zero_le _, Nat.zero_le _⟩ rfl rfl (Nat.le_of_ble_eq_true rfl) zl_239 zk_239 dX11_deed_7 rfl (fun q_2 => ?_)
  refine a_if_ne F 16 dX11_deed_10 (by decide) ?_ ?_
  · refine a_bipush F dX11_deed_13 kb_m2 ?_
    exact a_iret F M0.2.2.1 M0.2.2.2 dX11_deed_15
  · refine a_iload_n F dX11_deed_16 rfl rfl ?_
    refine a_if_ne F 27 dX11_deed_17 (by decide) ?_ ?_
    · refine a_aload_n F dX11_deed_20 rfl rfl ?_
      refine a_getR (k := 42) F cfX11 dX11_deed_21 fl_X11_83 (by decide) fi_11_42 zl_239 zk_239 zr_239_42 ?_
      refine a_iload_n F dX11_deed_24 rfl rfl ?_
      refine a_gd (a_iald F dX11_deed_25 zl_263 zk_263 ?_)
      exact a_iret F M0.2.2.1 M0.2.2.2 dX11_deed_26
    · refine a_iload_n F dX11_deed_27 rfl rfl ?_
      refine a_iconst F dX11_deed_28 ki_1 ?_
      refine a_icmp_ne F 39 dX11_deed_29 (by decide) ?_ ?_
      · refine a_aload_n F dX11_deed_32 rfl rfl ?_
        refine a_getR (k := 41) F cfX11 dX11_deed_33 fl_X11_80 (by decide) fi_11_41 zl_239 zk_239 zr_239_41 ?_
        refine a_iload_n F dX11_deed_36 rfl rfl ?_
        refine a_gd (a_iald F dX11_deed_37 zl_262 zk_262 ?_)
        exact a_iret F M0.2.2.1 M0.2.2.2 dX11_deed_38
      · refine a_iload_n F dX11_deed_39 rfl rfl ?_
        refine a_iconst F dX11_deed_40 ki_2 ?_
        refine a_icmp_ne F 54 dX11_deed_41 (by decide) ?_ ?_
        · refine a_aload_n F dX11_deed_44 rfl rfl ?_
          refine a_getR (k := 1) F cfX11 dX11_deed_45 fl_X11_7 (by decide) fi_11_1 zl_239 zk_239 zr_239_1 ?_
          refine a_bipush F dX11_deed_48 kb_124 ?_
          refine a_iload_n F dX11_deed_50 rfl rfl ?_
          refine a_iadd F dX11_deed_51 ?_
          refine a_gd (a_iald F dX11_deed_52 zl_240 zk_240 ?_)
          exact a_iret F M0.2.2.1 M0.2.2.2 dX11_deed_53
        · refine a_iload_n F dX11_deed_54 rfl rfl ?_
          refine a_iconst F dX11_deed_55 ki_3 ?_
          refine a_icmp_ne F 70 dX11_deed_56 (by decide) ?_ ?_
          · refine a_aload_n F dX11_deed_59 rfl rfl ?_
            refine a_getR (k := 1) F cfX11 dX11_deed_60 fl_X11_7 (by decide) fi_11_1 zl_239 zk_239 zr_239_1 ?_
            refine a_sipush F dX11_deed_63 ks_132 ?_
            refine a_iload_n F dX11_deed_66 rfl rfl ?_
            refine a_iadd F dX11_deed_67 ?_
            refine a_gd (a_iald F dX11_deed_68 zl_240 zk_240 ?_)
            exact a_iret F M0.2.2.1 M0.2.2.2 dX11_deed_69
          · refine a_iload_n F dX11_deed_70 rfl rfl ?_
            refine a_iconst F dX11_deed_71 ki_4 ?_
            refine a_icmp_ne F 88 dX11_deed_72 (by decide) ?_ ?_
            · refine a_aload_n F dX11_deed_75 rfl rfl ?_
              refine a_getR (k := 1) F cfX11 dX11_deed_76 fl_X11_7 (by decide) fi_11_1 zl_239 zk_239 zr_239_1 ?_
              refine a_sipush F dX11_deed_79 ks_140 ?_
              refine a_iload_n F dX11_deed_82 rfl rfl ?_
              refine a_iadd F dX11_deed_83 ?_
              refine a_gd (a_iald F dX11_deed_84 zl_240 zk_240 ?_)
              refine a_iconst F dX11_deed_85 ki_1 ?_
              refine a_isub F dX11_deed_86 ?_
              exact a_iret F M0.2.2.1 M0.2.2.2 dX11_deed_87
            · refine a_aload_n F dX11_deed_88 rfl rfl ?_
              refine a_callVV F (As := []) cfX11 rfl (c_X11_findsHands X q_2.2) mw_X11_findsHands ml_X11_375 im_X11_findsHands se_X11_findsHands M0.2.1 (Nat.le_of_ble_eq_true rfl) ⟨Nat.zero_le _, Nat.zero_le _⟩ rfl rfl (Nat.le_of_ble_eq_true rfl) zl_239 zk_239 dX11_deed_89 rfl (fun S_3 => ?_)
              refine a_iload_n F dX11_deed_92 rfl rfl ?_
              refine a_iconst F dX11_deed_93 ki_5 ?_
              refine a_icmp_ne F 110 dX11_deed_94 (by decide) ?_ ?_
              · refine a_aload_n F dX11_deed_97 rfl rfl ?_
                refine a_aload_n F dX11_deed_98 rfl rfl ?_
                refine a_getR (k := 42) F cfX11 dX11_deed_99 fl_X11_83 (by decide) fi_11_42 zl_239 zk_239 zr_239_42 ?_
                refine a_iload_n F dX11_deed_102 rfl rfl ?_
                refine a_gd (a_iald F dX11_deed_103 zl_263 zk_263 ?_)
                refine a_callVI F (As := [.int (S_3 263 (ix p1))]) cfX11 rfl (c_X11_signersOf X (S_3 263 (ix p1)) S_3) mw_X11_signersOf ml_X11_402 im_X11_signersOf se_X11_signersOf M0.2.1 (Nat.le_of_ble_eq_true rfl) ⟨Nat.zero_le _, Nat.zero_le _⟩ rfl rfl (Nat.le_of_ble_eq_true rfl) zl_239 zk_239 dX11_deed_104 rfl (fun q_4 => ?_)
                refine a_goto F 150 dX11_deed_107 (by decide) ?_
                exact a_iret F M0.2.2.1 M0.2.2.2 dX11_deed_150
              · refine a_iload_n F dX11_deed_110 rfl rfl ?_
                refine a_bipush F dX11_deed_111 kb_6 ?_
                refine a_icmp_ne F 129 dX11_deed_113 (by decide) ?_ ?_
                · refine a_aload_n F dX11_deed_116 rfl rfl ?_
                  refine a_aload_n F dX11_deed_117 rfl rfl ?_
                  refine a_getR (k := 42) F cfX11 dX11_deed_118 fl_X11_83 (by decide) fi_11_42 zl_239 zk_239 zr_239_42 ?_
                  refine a_iload_n F dX11_deed_121 rfl rfl ?_
                  refine a_gd (a_iald F dX11_deed_122 zl_263 zk_263 ?_)
                  refine a_callVI F (As := [.int (S_3 263 (ix p1))]) cfX11 rfl (c_X11_aloneOf X (S_3 263 (ix p1)) S_3) mw_X11_aloneOf ml_X11_405 im_X11_aloneOf se_X11_aloneOf M0.2.1 (Nat.le_of_ble_eq_true rfl) ⟨Nat.zero_le _, Nat.zero_le _⟩ rfl rfl (Nat.le_of_ble_eq_true rfl) zl_239 zk_239 dX11_deed_123 rfl (fun q_5 => ?_)
                  refine a_goto F 150 dX11_deed_126 (by decide) ?_
                  exact a_iret F M0.2.2.1 M0.2.2.2 dX11_deed_150
                · refine a_iload_n F dX11_deed_129 rfl rfl ?_
                  refine a_bipush F dX11_deed_130 kb_7 ?_
                  refine a_icmp_ne F 148 dX11_deed_132 (by decide) ?_ ?_
                  · refine a_aload_n F dX11_deed_135 rfl rfl ?_
                    refine a_aload_n F dX11_deed_136 rfl rfl ?_
                    refine a_getR (k := 42) F cfX11 dX11_deed_137 fl_X11_83 (by decide) fi_11_42 zl_239 zk_239 zr_239_42 ?_
                    refine a_iload_n F dX11_deed_140 rfl rfl ?_
                    refine a_gd (a_iald F dX11_deed_141 zl_263 zk_263 ?_)
                    refine a_callVI F (As := [.int (S_3 263 (ix p1))]) cfX11 rfl (c_X11_neededFor X (S_3 263 (ix p1)) S_3) mw_X11_neededFor ml_X11_408 im_X11_neededFor se_X11_neededFor M0.2.1 (Nat.le_of_ble_eq_true rfl) ⟨Nat.zero_le _, Nat.zero_le _⟩ rfl rfl (Nat.le_of_ble_eq_true rfl) zl_239 zk_239 dX11_deed_142 rfl (fun q_6 => ?_)
                    refine a_goto F 150 dX11_deed_145 (by decide) ?_
                    exact a_iret F M0.2.2.1 M0.2.2.2 dX11_deed_150
                  · refine a_bipush F dX11_deed_148 kb_m2 ?_
                    exact a_iret F M0.2.2.1 M0.2.2.2 dX11_deed_150
theorem c_X11_deed (X : CX) (p1 p2 : Int32) (S : Mm) : CtI X Z1 yX11_deed cX11_deed 3 (some .int) 5 [.ref 239, .int p1, .int p2] S (f_X11_deed p1 p2 S) :=
  ctI_of (by decide +kernel) rfl (Nat.le_of_ble_eq_true rfl) (by simp [Value.category]) z1len fun E F R hra hlk => b_X11_deed ⟨F, R, hra, hlk⟩ p1 p2 S
def f_X11_isLetter28_14 (S : Mm) : Option (Int32 × Mm) :=
  some ((0 : Int32), S)
set_option maxRecDepth 20000 in
theorem b_X11_isLetter28_14 {X : CX} {E : FE} (M0 : MF X E RX11 cX11_isLetter28 2 1 (some .boolean)) (S : Mm) : At X E false (mQi X Z1 E) 14 [none, none] [] Z1 S 0 0 (f_X11_isLetter28_14 S) := by
  have F := M0.1
  unfold f_X11_isLetter28_14
  refine a_iconst F dX11_isLetter28_14 ki_0 ?_
  exact a_zretK F M0.2.2.1 M0.2.2.2 dX11_isLetter28_15 (Or.inl rfl)
def f_X11_isLetter28 (p1 : Int32) (S : Mm) : Option (Int32 × Mm) :=
  if p1 < 0 then (
   f_X11_isLetter28_14 S
  ) else (
   if (28 : Int32) ≤ p1 then (
    f_X11_isLetter28_14 S
   ) else (
    some ((1 : Int32), S)
   )
  )
set_option maxRecDepth 20000 in
theorem b_X11_isLetter28 {X : CX} {E : FE} (M0 : MF X E RX11 cX11_isLetter28 2 1 (some .boolean)) (p1 : Int32) (S : Mm) : At X E false (mQi X Z1 E) 0 [some (.ref 239), some (.int p1)] [] Z1 S 0 0 (f_X11_isLetter28 p1 S) := by
  have F := M0.1
  unfold f_X11_isLetter28
  refine a_iload_n F dX11_isLetter28_0 rfl rfl ?_
  refine a_if_lt F 14 dX11_isLetter28_1 (by decide) ?_ ?_
  · refine a_mask [false, false] (L' := [none, none]) rfl rfl ?_
    exact b_X11_isLetter28_14 M0 S
  · refine a_iload_n F dX11_isLetter28_4 rfl rfl ?_
    refine a_bipush F dX11_isLetter28_5 kb_28 ?_
    refine a_icmp_ge F 14 dX11_isLetter28_7 (by decide) ?_ ?_
    · refine a_mask [false, false] (L' := [none, none]) rfl rfl ?_
      exact b_X11_isLetter28_14 M0 S
    · refine a_iconst F dX11_isLetter28_10 ki_1 ?_
      refine a_goto F 15 dX11_isLetter28_11 (by decide) ?_
      exact a_zretK F M0.2.2.1 M0.2.2.2 dX11_isLetter28_15 (Or.inr rfl)
theorem c_X11_isLetter28 (X : CX) (p1 : Int32) (S : Mm) : CtI X Z1 yX11_isLetter28 cX11_isLetter28 2 (some .boolean) 1 [.ref 239, .int p1] S (f_X11_isLetter28 p1 S) :=
  ctI_of (by decide +kernel) rfl (Nat.le_of_ble_eq_true rfl) (by simp [Value.category]) z1len fun E F R hra hlk => b_X11_isLetter28 ⟨F, R, hra, hlk⟩ p1 S
def f_X11_duel_95 (x3 t0 : Int32) (S : Mm) : Option (Int32 × Mm) :=
  (f_X11_comesTo x3 t0 (2 : Int32) S).bind fun S_1 =>
  (f_X11_endsLoan x3 S_1).bind fun S_2 =>
  some (t0, S_2)
set_option maxRecDepth 20000 in
theorem b_X11_duel_95 {X : CX} {E : FE} (M0 : MF X E RX11 cX11_duel 5 3 (some .int)) (x3 t0 : Int32) (S : Mm) : At X E false (mQi X Z1 E) 95 [some (.ref 239), none, none, some (.int x3), none] [.int t0] Z1 S 0 0 (f_X11_duel_95 x3 t0 S) := by
  have F := M0.1
  unfold f_X11_duel_95
  refine a_istore (L' := [some (.ref 239), none, none, some (.int x3), some (.int t0)]) F dX11_duel_95 (lt_b rfl) rfl ?_
  refine a_aload_n F dX11_duel_97 rfl rfl ?_
  refine a_iload_n F dX11_duel_98 rfl rfl ?_
  refine a_iload F dX11_duel_99 rfl ?_
  refine a_iconst F dX11_duel_101 ki_2 ?_
  refine a_callVV F (As := [.int x3, .int t0, .int (2 : Int32)]) cfX11 rfl (c_X11_comesTo X x3 t0 (2 : Int32) S) mw_X11_comesTo ml_X11_166 im_X11_comesTo se_X11_comesTo M0.2.1 (Nat.le_of_ble_eq_true rfl) ⟨Nat.zero_le _, Nat.zero_le _⟩ rfl rfl (Nat.le_of_ble_eq_true rfl) zl_239 zk_239 dX11_duel_102 rfl (fun S_1 => ?_)
  refine a_aload_n F dX11_duel_105 rfl rfl ?_
  refine a_iload_n F dX11_duel_106 rfl rfl ?_
  refine a_callVV F (As := [.int x3]) cfX11 rfl (c_X11_endsLoan X x3 S_1) mw_X11_endsLoan ml_X11_170 im_X11_endsLoan se_X11_endsLoan M0.2.1 (Nat.le_of_ble_eq_true rfl) ⟨Nat.zero_le _, Nat.zero_le _⟩ rfl rfl (Nat.le_of_ble_eq_true rfl) zl_239 zk_239 dX11_duel_107 rfl (fun S_2 => ?_)
  refine a_iload F dX11_duel_110 rfl ?_
  exact a_iret F M0.2.2.1 M0.2.2.2 dX11_duel_112
def f_X11_duel_56 (x1 x2 x3 : Int32) (S : Mm) : Option (Int32 × Mm) :=
  (f_X11_keepsAhead S).bind fun S_1 =>
  gd (inB x1 12 = true) <|
  gd (inB x2 12 = true) <|
  (f_X11_draw (((S_1 247 (ix x1)) + (S_1 247 (ix x2))) + (2 : Int32)) S_1).bind fun q_2 =>
  gd (inB x1 12 = true) <|
  if ((q_2.2 247 (ix x1)) + (1 : Int32)) ≤ q_2.1 then (
   f_X11_duel_95 x3 x2 q_2.2
  ) else (
   f_X11_duel_95 x3 x1 q_2.2
  )
set_option maxRecDepth 20000 in
theorem b_X11_duel_56 {X : CX} {E : FE} (M0 : MF X E RX11 cX11_duel 5 3 (some .int)) (x1 x2 x3 : Int32) (S : Mm) : At X E false (mQi X Z1 E) 56 [some (.ref 239), some (.int x1), some (.int x2), some (.int x3), none] [] Z1 S 0 0 (f_X11_duel_56 x1 x2 x3 S) := by
  have F := M0.1
  unfold f_X11_duel_56
  refine a_aload_n F dX11_duel_56 rfl rfl ?_
  refine a_callVV F (As := []) cfX11 rfl (c_X11_keepsAhead X S) mw_X11_keepsAhead ml_X11_357 im_X11_keepsAhead se_X11_keepsAhead M0.2.1 (Nat.le_of_ble_eq_true rfl) ⟨Nat.zero_le _, Nat.zero_le _⟩ rfl rfl (Nat.le_of_ble_eq_true rfl) zl_239 zk_239 dX11_duel_57 rfl (fun S_1 => ?_)
  refine a_aload_n F dX11_duel_60 rfl rfl ?_
  refine a_aload_n F dX11_duel_61 rfl rfl ?_
  refine a_getR (k := 11) F cfX11 dX11_duel_62 fl_X11_31 (by decide) fi_11_11 zl_239 zk_239 zr_239_11 ?_
  refine a_iload_n F dX11_duel_65 rfl rfl ?_
  refine a_gd (a_iald F dX11_duel_66 zl_247 zk_247 ?_)
  refine a_aload_n F dX11_duel_67 rfl rfl ?_
  refine a_getR (k := 11) F cfX11 dX11_duel_68 fl_X11_31 (by decide) fi_11_11 zl_239 zk_239 zr_239_11 ?_
  refine a_iload_n F dX11_duel_71 rfl rfl ?_
  refine a_gd (a_iald F dX11_duel_72 zl_247 zk_247 ?_)
  refine a_iadd F dX11_duel_73 ?_
  refine a_iconst F dX11_duel_74 ki_2 ?_
  refine a_iadd F dX11_duel_75 ?_
  refine a_callVI F (As := [.int (((S_1 247 (ix x1)) + (S_1 247 (ix x2))) + (2 : Int32))]) cfX11 rfl (c_X11_draw X (((S_1 247 (ix x1)) + (S_1 247 (ix x2))) + (2 : Int32)) S_1) mw_X11_draw ml_X11_366 im_X11_draw se_X11_draw M0.2.1 (Nat.le_of_ble_eq_true rfl) ⟨Nat.zero_le _, Nat.zero_le _⟩ rfl rfl (Nat.le_of_ble_eq_true rfl) zl_239 zk_239 dX11_duel_76 rfl (fun q_2 => ?_)
  refine a_aload_n F dX11_duel_79 rfl rfl ?_
  refine a_getR (k := 11) F cfX11 dX11_duel_80 fl_X11_31 (by decide) fi_11_11 zl_239 zk_239 zr_239_11 ?_
  refine a_iload_n F dX11_duel_83 rfl rfl ?_
  refine a_gd (a_iald F dX11_duel_84 zl_247 zk_247 ?_)
  refine a_iconst F dX11_duel_85 ki_1 ?_
  refine a_iadd F dX11_duel_86 ?_
  refine a_icmp_ge F 94 dX11_duel_87 (by decide) ?_ ?_
  · refine a_iload_n F dX11_duel_94 rfl rfl ?_
    refine a_mask [true, false, false, true, false] (L' := [some (.ref 239), none, none, some (.int x3), none]) rfl rfl ?_
    exact b_X11_duel_95 M0 x3 x2 q_2.2
  · refine a_iload_n F dX11_duel_90 rfl rfl ?_
    refine a_goto F 95 dX11_duel_91 (by decide) ?_
    refine a_mask [true, false, false, true, false] (L' := [some (.ref 239), none, none, some (.int x3), none]) rfl rfl ?_
    exact b_X11_duel_95 M0 x3 x1 q_2.2
def f_X11_duel (p1 p2 p3 : Int32) (S : Mm) : Option (Int32 × Mm) :=
  nm (uM S 239 0 (0 : Int32)) fun S_1 =>
  (f_X11_isLiving p1 S_1).bind fun q_2 =>
  if q_2.1 = 0 then (
   some ((-1 : Int32), q_2.2)
  ) else (
   (f_X11_isLiving p2 q_2.2).bind fun q_3 =>
   if q_3.1 = 0 then (
    some ((-1 : Int32), q_3.2)
   ) else (
    if p1 = p2 then (
     some ((-1 : Int32), q_3.2)
    ) else (
     (f_X11_isLetter28 p3 q_3.2).bind fun q_4 =>
     if q_4.1 = 0 then (
      some ((-1 : Int32), q_4.2)
     ) else (
      (f_X11_ownerOf p3 q_4.2).bind fun q_5 =>
      if q_5.1 = p1 then (
       f_X11_duel_56 p1 p2 p3 q_5.2
      ) else (
       (f_X11_ownerOf p3 q_5.2).bind fun q_6 =>
       if q_6.1 = p2 then (
        f_X11_duel_56 p1 p2 p3 q_6.2
       ) else (
        some ((-1 : Int32), q_6.2)
       )
      )
     )
    )
   )
  )
set_option maxRecDepth 20000 in
theorem b_X11_duel {X : CX} {E : FE} (M0 : MF X E RX11 cX11_duel 5 3 (some .int)) (p1 p2 p3 : Int32) (S : Mm) : At X E false (mQi X Z1 E) 0 [some (.ref 239), some (.int p1), some (.int p2), some (.int p3), none] [] Z1 S 0 0 (f_X11_duel p1 p2 p3 S) := by
  have F := M0.1
  unfold f_X11_duel
  refine a_aload_n F dX11_duel_0 rfl rfl ?_
  refine a_iconst F dX11_duel_1 ki_0 ?_
  refine a_putI (k := 0) F cfX11 dX11_duel_2 fl_X11_107 (by decide) fi_11_0 rfl rfl zl_239 zk_239 ?_
  refine a_nmS (fun S_1 => ?_)
  refine a_aload_n F dX11_duel_5 rfl rfl ?_
  refine a_iload_n F dX11_duel_6 rfl rfl ?_
  refine a_callVI F (As := [.int p1]) cfX11 rfl (c_X11_isLiving X p1 S_1) mw_X11_isLiving ml_X11_151 im_X11_isLiving se_X11_isLiving M0.2.1 (Nat.le_of_ble_eq_true rfl) ⟨Nat.zero_le _, Nat.zero_le _⟩ rfl rfl (Nat.le_of_ble_eq_true rfl) zl_239 zk_239 dX11_duel_7 rfl (fun q_2 => ?_)
  refine a_if_eq F 34 dX11_duel_10 (by decide) ?_ ?_
  · refine a_iconst F dX11_duel_34 ki_m1 ?_
    exact a_iret F M0.2.2.1 M0.2.2.2 dX11_duel_35
  · refine a_aload_n F dX11_duel_13 rfl rfl ?_
    refine a_iload_n F dX11_duel_14 rfl rfl ?_
    refine a_callVI F (As := [.int p2]) cfX11 rfl (c_X11_isLiving X p2 q_2.2) mw_X11_isLiving ml_X11_151 im_X11_isLiving se_X11_isLiving M0.2.1 (Nat.le_of_ble_eq_true rfl) ⟨Nat.zero_le _, Nat.zero_le _⟩ rfl rfl (Nat.le_of_ble_eq_true rfl) zl_239 zk_239 dX11_duel_15 rfl (fun q_3 => ?_)
    refine a_if_eq F 34 dX11_duel_18 (by decide) ?_ ?_
    · refine a_iconst F dX11_duel_34 ki_m1 ?_
      exact a_iret F M0.2.2.1 M0.2.2.2 dX11_duel_35
    · refine a_iload_n F dX11_duel_21 rfl rfl ?_
      refine a_iload_n F dX11_duel_22 rfl rfl ?_
      refine a_icmp_eq F 34 dX11_duel_23 (by decide) ?_ ?_
      · refine a_iconst F dX11_duel_34 ki_m1 ?_
        exact a_iret F M0.2.2.1 M0.2.2.2 dX11_duel_35
      · refine a_aload_n F dX11_duel_26 rfl rfl ?_
        refine a_iload_n F dX11_duel_27 rfl rfl ?_
        refine a_callVI F (As := [.int p3]) cfX11 rfl (c_X11_isLetter28 X p3 q_3.2) mw_X11_isLetter28 ml_X11_163 im_X11_isLetter28 se_X11_isLetter28 M0.2.1 (Nat.le_of_ble_eq_true rfl) ⟨Nat.zero_le _, Nat.zero_le _⟩ rfl rfl (Nat.le_of_ble_eq_true rfl) zl_239 zk_239 dX11_duel_28 rfl (fun q_4 => ?_)
        refine a_if_ne F 36 dX11_duel_31 (by decide) ?_ ?_
        · refine a_iconst F dX11_duel_34 ki_m1 ?_
          exact a_iret F M0.2.2.1 M0.2.2.2 dX11_duel_35
        · refine a_aload_n F dX11_duel_36 rfl rfl ?_
          refine a_iload_n F dX11_duel_37 rfl rfl ?_
          refine a_callVI F (As := [.int p3]) cfX11 rfl (c_X11_ownerOf X p3 q_4.2) mw_X11_ownerOf ml_X11_160 im_X11_ownerOf se_X11_ownerOf M0.2.1 (Nat.le_of_ble_eq_true rfl) ⟨Nat.zero_le _, Nat.zero_le _⟩ rfl rfl (Nat.le_of_ble_eq_true rfl) zl_239 zk_239 dX11_duel_38 rfl (fun q_5 => ?_)
          refine a_iload_n F dX11_duel_41 rfl rfl ?_
          refine a_icmp_eq F 56 dX11_duel_42 (by decide) ?_ ?_
          · exact b_X11_duel_56 M0 p1 p2 p3 q_5.2
          · refine a_aload_n F dX11_duel_45 rfl rfl ?_
            refine a_iload_n F dX11_duel_46 rfl rfl ?_
            refine a_callVI F (As := [.int p3]) cfX11 rfl (c_X11_ownerOf X p3 q_5.2) mw_X11_ownerOf ml_X11_160 im_X11_ownerOf se_X11_ownerOf M0.2.1 (Nat.le_of_ble_eq_true rfl) ⟨Nat.zero_le _, Nat.zero_le _⟩ rfl rfl (Nat.le_of_ble_eq_true rfl) zl_239 zk_239 dX11_duel_47 rfl (fun q_6 => ?_)
            refine a_iload_n F dX11_duel_50 rfl rfl ?_
            refine a_icmp_eq F 56 dX11_duel_51 (by decide) ?_ ?_
            · exact b_X11_duel_56 M0 p1 p2 p3 q_6.2
            · refine a_iconst F dX11_duel_54 ki_m1 ?_
              exact a_iret F M0.2.2.1 M0.2.2.2 dX11_duel_55
theorem c_X11_duel (X : CX) (p1 p2 p3 : Int32) (S : Mm) : CtI X Z1 yX11_duel cX11_duel 5 (some .int) 3 [.ref 239, .int p1, .int p2, .int p3] S (f_X11_duel p1 p2 p3 S) :=
  ctI_of (by decide +kernel) rfl (Nat.le_of_ble_eq_true rfl) (by simp [Value.category]) z1len fun E F R hra hlk => b_X11_duel ⟨F, R, hra, hlk⟩ p1 p2 p3 S
def f_X11_dumb_44 (k13 : Int32 → Int32 → Mm → Option (Int32 × Mm)) (x1 x2 : Int32) (S : Mm) : Option (Int32 × Mm) :=
  nm (x2 + (1 : Int32)) fun x2_1 =>
  k13 x1 x2_1 S
set_option maxRecDepth 20000 in
theorem b_X11_dumb_44 {X : CX} {E : FE} (M0 : MF X E RX11 cX11_dumb 3 5 (some .int)) {k13 : Int32 → Int32 → Mm → Option (Int32 × Mm)} (hk13 : ∀ (x1 x2 : Int32) (S : Mm), At X E false (mQi X Z1 E) 13 [some (.ref 239), some (.int x1), some (.int x2)] [] Z1 S 0 0 (k13 x1 x2 S)) (x1 x2 : Int32) (S : Mm) : At X E false (mQi X Z1 E) 44 [some (.ref 239), some (.int x1), some (.int x2)] [] Z1 S 0 0 (f_X11_dumb_44 k13 x1 x2 S) := by
  have F := M0.1
  unfold f_X11_dumb_44
  refine a_iincN (L' := fun x2_1 => [some (.ref 239), some (.int x1), some (.int x2_1)]) F dX11_dumb_44 rfl ki_1 (lt_b rfl) (fun _ => rfl) (fun x2_1 => ?_)
  refine a_goto F 13 dX11_dumb_47 (by decide) ?_
  exact hk13 x1 x2_1 S
def f_X11_dumb_13b (k13 : Int32 → Int32 → Mm → Option (Int32 × Mm)) (x1 x2 : Int32) (S : Mm) : Option (Int32 × Mm) :=
  if (S 239 6) ≤ x2 then (
   some (x1, S)
  ) else (
   (f_X11_doesLive x2 S).bind fun q_1 =>
   if q_1.1 = 0 then (
    f_X11_dumb_44 k13 x1 x2 q_1.2
   ) else (
    gd (inB x2 12 = true) <|
    if (q_1.2 267 (ix x2)) = 0 then (
     nm ((x1 ||| (shl (1 : Int32) x2))) fun x1_2 =>
     f_X11_dumb_44 k13 x1_2 x2 q_1.2
    ) else (
     f_X11_dumb_44 k13 x1 x2 q_1.2
    )
   )
  )
set_option maxRecDepth 20000 in
theorem b_X11_dumb_13b {X : CX} {E : FE} (M0 : MF X E RX11 cX11_dumb 3 5 (some .int)) {k13 : Int32 → Int32 → Mm → Option (Int32 × Mm)} (hk13 : ∀ (x1 x2 : Int32) (S : Mm), At X E false (mQi X Z1 E) 13 [some (.ref 239), some (.int x1), some (.int x2)] [] Z1 S 0 0 (k13 x1 x2 S)) (x1 x2 : Int32) (S : Mm) : At X E false (mQi X Z1 E) 13 [some (.ref 239), some (.int x1), some (.int x2)] [] Z1 S 0 0 (f_X11_dumb_13b k13 x1 x2 S) := by
  have F := M0.1
  unfold f_X11_dumb_13b
  refine a_iload_n F dX11_dumb_13 rfl rfl ?_
  refine a_aload_n F dX11_dumb_14 rfl rfl ?_
  refine a_getI (k := 6) F cfX11 dX11_dumb_15 fl_X11_122 (by decide) fi_11_6 zl_239 zk_239 ?_
  refine a_icmp_ge F 50 dX11_dumb_18 (by decide) ?_ ?_
  · refine a_iload_n F dX11_dumb_50 rfl rfl ?_
    exact a_iret F M0.2.2.1 M0.2.2.2 dX11_dumb_51
  · refine a_aload_n F dX11_dumb_21 rfl rfl ?_
    refine a_iload_n F dX11_dumb_22 rfl rfl ?_
    refine a_callVI F (As := [.int x2]) cfX11 rfl (c_X11_doesLive X x2 S) mw_X11_doesLive ml_X11_132 im_X11_doesLive se_X11_doesLive M0.2.1 (Nat.le_of_ble_eq_true rfl) ⟨Nat.zero_le _, Nat.zero_le _⟩ rfl rfl (Nat.le_of_ble_eq_true rfl) zl_239 zk_239 dX11_dumb_23 rfl (fun q_1 => ?_)
    refine a_if_eq F 44 dX11_dumb_26 (by decide) ?_ ?_
    · exact b_X11_dumb_44 M0 hk13 x1 x2 q_1.2
    · refine a_aload_n F dX11_dumb_29 rfl rfl ?_
      refine a_getR (k := 46) F cfX11 dX11_dumb_30 fl_X11_95 (by decide) fi_11_46 zl_239 zk_239 zr_239_46 ?_
      refine a_iload_n F dX11_dumb_33 rfl rfl ?_
      refine a_gd (a_iald F dX11_dumb_34 zl_267 zk_267 ?_)
      refine a_if_ne F 44 dX11_dumb_35 (by decide) ?_ ?_
      · refine a_iload_n F dX11_dumb_38 rfl rfl ?_
        refine a_iconst F dX11_dumb_39 ki_1 ?_
        refine a_iload_n F dX11_dumb_40 rfl rfl ?_
        refine a_ishl F dX11_dumb_41 ?_
        refine a_ior F dX11_dumb_42 ?_
        refine a_istore_nN (L' := fun x1_2 => [some (.ref 239), some (.int x1_2), some (.int x2)]) F dX11_dumb_43 rfl (lt_b rfl) (fun _ => rfl) (fun x1_2 => ?_)
        exact b_X11_dumb_44 M0 hk13 x1_2 x2 q_1.2
      · exact b_X11_dumb_44 M0 hk13 x1 x2 q_1.2
def f_X11_dumb_13 : Nat → Int32 → Int32 → Mm → Option (Int32 × Mm) :=
  itr (fun _ _ _ => none) (fun k => f_X11_dumb_13b k)
theorem b_X11_dumb_13 {X : CX} {E : FE} (M0 : MF X E RX11 cX11_dumb 3 5 (some .int)) : ∀ (n : Nat) (x1 x2 : Int32) (S : Mm), At X E false (mQi X Z1 E) 13 [some (.ref 239), some (.int x1), some (.int x2)] [] Z1 S 0 0 (f_X11_dumb_13  n x1 x2 S) := by
  intro n
  induction n with
  | zero => intros; exact a_none
  | succ n ih => intro x1 x2 S; exact b_X11_dumb_13b M0 ih x1 x2 S
def f_X11_dumb (S : Mm) : Option (Int32 × Mm) :=
  nm (uM S 239 0 (0 : Int32)) fun S_1 =>
  (f_X11_findsHands S_1).bind fun S_2 =>
  f_X11_dumb_13 FU (0 : Int32) (0 : Int32) S_2
set_option maxRecDepth 20000 in
theorem b_X11_dumb {X : CX} {E : FE} (M0 : MF X E RX11 cX11_dumb 3 5 (some .int)) (S : Mm) : At X E false (mQi X Z1 E) 0 [some (.ref 239), none, none] [] Z1 S 0 0 (f_X11_dumb S) := by
  have F := M0.1
  unfold f_X11_dumb
  refine a_aload_n F dX11_dumb_0 rfl rfl ?_
  refine a_iconst F dX11_dumb_1 ki_0 ?_
  refine a_putI (k := 0) F cfX11 dX11_dumb_2 fl_X11_107 (by decide) fi_11_0 rfl rfl zl_239 zk_239 ?_
  refine a_nmS (fun S_1 => ?_)
  refine a_aload_n F dX11_dumb_5 rfl rfl ?_
  refine a_callVV F (As := []) cfX11 rfl (c_X11_findsHands X S_1) mw_X11_findsHands ml_X11_375 im_X11_findsHands se_X11_findsHands M0.2.1 (Nat.le_of_ble_eq_true rfl) ⟨Nat.zero_le _, Nat.zero_le _⟩ rfl rfl (Nat.le_of_ble_eq_true rfl) zl_239 zk_239 dX11_dumb_6 rfl (fun S_2 => ?_)
  refine a_iconst F dX11_dumb_9 ki_0 ?_
  refine a_istore_n (L' := [some (.ref 239), some (.int (0 : Int32)), none]) F dX11_dumb_10 rfl (lt_b rfl) rfl ?_
  refine a_iconst F dX11_dumb_11 ki_0 ?_
  refine a_istore_n (L' := [some (.ref 239), some (.int (0 : Int32)), some (.int (0 : Int32))]) F dX11_dumb_12 rfl (lt_b rfl) rfl ?_
  exact b_X11_dumb_13 M0 FU (0 : Int32) (0 : Int32) S_2
theorem c_X11_dumb (X : CX) (S : Mm) : CtI X Z1 yX11_dumb cX11_dumb 3 (some .int) 5 [.ref 239] S (f_X11_dumb S) :=
  ctI_of (by decide +kernel) rfl (Nat.le_of_ble_eq_true rfl) (by simp [Value.category]) z1len fun E F R hra hlk => b_X11_dumb ⟨F, R, hra, hlk⟩ S
def f_X11_end (p1 : Int32) (S : Mm) : Option (Int32 × Mm) :=
  nm (uM S 239 0 (0 : Int32)) fun S_1 =>
  (f_X11_isIn p1 (0 : Int32) (S_1 239 16) S_1).bind fun q_2 =>
  if q_2.1 = 0 then (
   some ((0 : Int32), q_2.2)
  ) else (
   nm (uM q_2.2 239 16 p1) fun S_3 =>
   some ((1 : Int32), S_3)
  )
set_option maxRecDepth 20000 in
theorem b_X11_end {X : CX} {E : FE} (M0 : MF X E RX11 cX11_end 2 2 (some .boolean)) (p1 : Int32) (S : Mm) : At X E false (mQi X Z1 E) 0 [some (.ref 239), some (.int p1)] [] Z1 S 0 0 (f_X11_end p1 S) := by
  have F := M0.1
  unfold f_X11_end
  refine a_aload_n F dX11_end_0 rfl rfl ?_
  refine a_iconst F dX11_end_1 ki_0 ?_
  refine a_putI (k := 0) F cfX11 dX11_end_2 fl_X11_107 (by decide) fi_11_0 rfl rfl zl_239 zk_239 ?_
  refine a_nmS (fun S_1 => ?_)
  refine a_aload_n F dX11_end_5 rfl rfl ?_
  refine a_iload_n F dX11_end_6 rfl rfl ?_
  refine a_iconst F dX11_end_7 ki_0 ?_
  refine a_aload_n F dX11_end_8 rfl rfl ?_
  refine a_getI (k := 16) F cfX11 dX11_end_9 fl_X11_174 (by decide) fi_11_16 zl_239 zk_239 ?_
  refine a_callVI F (As := [.int p1, .int (0 : Int32), .int (S_1 239 16)]) cfX11 rfl (c_X11_isIn X p1 (0 : Int32) (S_1 239 16) S_1) mw_X11_isIn ml_X11_147 im_X11_isIn se_X11_isIn M0.2.1 (Nat.le_of_ble_eq_true rfl) ⟨Nat.zero_le _, Nat.zero_le _⟩ rfl rfl (Nat.le_of_ble_eq_true rfl) zl_239 zk_239 dX11_end_12 rfl (fun q_2 => ?_)
  refine a_if_ne F 20 dX11_end_15 (by decide) ?_ ?_
  · refine a_iconst F dX11_end_18 ki_0 ?_
    exact a_zretK F M0.2.2.1 M0.2.2.2 dX11_end_19 (Or.inl rfl)
  · refine a_aload_n F dX11_end_20 rfl rfl ?_
    refine a_iload_n F dX11_end_21 rfl rfl ?_
    refine a_putI (k := 16) F cfX11 dX11_end_22 fl_X11_174 (by decide) fi_11_16 rfl rfl zl_239 zk_239 ?_
    refine a_nmS (fun S_3 => ?_)
    refine a_iconst F dX11_end_25 ki_1 ?_
    exact a_zretK F M0.2.2.1 M0.2.2.2 dX11_end_26 (Or.inr rfl)
theorem c_X11_end (X : CX) (p1 : Int32) (S : Mm) : CtI X Z1 yX11_end cX11_end 2 (some .boolean) 2 [.ref 239, .int p1] S (f_X11_end p1 S) :=
  ctI_of (by decide +kernel) rfl (Nat.le_of_ble_eq_true rfl) (by simp [Value.category]) z1len fun E F R hra hlk => b_X11_end ⟨F, R, hra, hlk⟩ p1 S
def f_X11_fault (p1 : Int32) (S : Mm) : Option (Int32 × Mm) :=
  nm (uM S 239 0 (0 : Int32)) fun S_1 =>
  if p1 = 0 then (
   some ((S_1 239 34), S_1)
  ) else (
   if p1 = (1 : Int32) then (
    some ((S_1 239 35), S_1)
   ) else (
    some ((-1 : Int32), S_1)
   )
  )
set_option maxRecDepth 20000 in
theorem b_X11_fault {X : CX} {E : FE} (M0 : MF X E RX11 cX11_fault 2 1 (some .int)) (p1 : Int32) (S : Mm) : At X E false (mQi X Z1 E) 0 [some (.ref 239), some (.int p1)] [] Z1 S 0 0 (f_X11_fault p1 S) := by
  have F := M0.1
  unfold f_X11_fault
  refine a_aload_n F dX11_fault_0 rfl rfl ?_
  refine a_iconst F dX11_fault_1 ki_0 ?_
  refine a_putI (k := 0) F cfX11 dX11_fault_2 fl_X11_107 (by decide) fi_11_0 rfl rfl zl_239 zk_239 ?_
  refine a_nmS (fun S_1 => ?_)
  refine a_iload_n F dX11_fault_5 rfl rfl ?_
  refine a_if_ne F 16 dX11_fault_6 (by decide) ?_ ?_
  · refine a_aload_n F dX11_fault_9 rfl rfl ?_
    refine a_getI (k := 34) F cfX11 dX11_fault_10 fl_X11_289 (by decide) fi_11_34 zl_239 zk_239 ?_
    refine a_goto F 29 dX11_fault_13 (by decide) ?_
    exact a_iret F M0.2.2.1 M0.2.2.2 dX11_fault_29
  · refine a_iload_n F dX11_fault_16 rfl rfl ?_
    refine a_iconst F dX11_fault_17 ki_1 ?_
    refine a_icmp_ne F 28 dX11_fault_18 (by decide) ?_ ?_
    · refine a_aload_n F dX11_fault_21 rfl rfl ?_
      refine a_getI (k := 35) F cfX11 dX11_fault_22 fl_X11_64 (by decide) fi_11_35 zl_239 zk_239 ?_
      refine a_goto F 29 dX11_fault_25 (by decide) ?_
      exact a_iret F M0.2.2.1 M0.2.2.2 dX11_fault_29
    · refine a_iconst F dX11_fault_28 ki_m1 ?_
      exact a_iret F M0.2.2.1 M0.2.2.2 dX11_fault_29
theorem c_X11_fault (X : CX) (p1 : Int32) (S : Mm) : CtI X Z1 yX11_fault cX11_fault 2 (some .int) 1 [.ref 239, .int p1] S (f_X11_fault p1 S) :=
  ctI_of (by decide +kernel) rfl (Nat.le_of_ble_eq_true rfl) (by simp [Value.category]) z1len fun E F R hra hlk => b_X11_fault ⟨F, R, hra, hlk⟩ p1 S
def f_X11_types_3b (k3 : Int32 → Int32 → Mm → Option Mm) (x1 x2 : Int32) (S : Mm) : Option Mm :=
  if x2 < 0 then (
   some S
  ) else (
   gd (inB (S 239 16) 400 = true) <|
   nm (uM S 250 (ix (S 239 16)) ((shr x1 x2) &&& (255 : Int32))) fun S_1 =>
   nm (uM S_1 239 16 ((S_1 239 16) + (1 : Int32))) fun S_2 =>
   nm (x2 + (-8 : Int32)) fun x2_3 =>
   k3 x1 x2_3 S_2
  )
set_option maxRecDepth 20000 in
theorem b_X11_types_3b {X : CX} {E : FE} (M0 : MF X E RX11 cX11_types 3 1 none) {k3 : Int32 → Int32 → Mm → Option Mm} (hk3 : ∀ (x1 x2 : Int32) (S : Mm), At X E false (mQv X Z1 E) 3 [some (.ref 239), some (.int x1), some (.int x2)] [] Z1 S 0 0 (k3 x1 x2 S)) (x1 x2 : Int32) (S : Mm) : At X E false (mQv X Z1 E) 3 [some (.ref 239), some (.int x1), some (.int x2)] [] Z1 S 0 0 (f_X11_types_3b k3 x1 x2 S) := by
  have F := M0.1
  unfold f_X11_types_3b
  refine a_iload_n F dX11_types_3 rfl rfl ?_
  refine a_if_lt F 39 dX11_types_4 (by decide) ?_ ?_
  · exact a_vret F M0.2.2.1 M0.2.2.2 dX11_types_39
  · refine a_aload_n F dX11_types_7 rfl rfl ?_
    refine a_getR (k := 15) F cfX11 dX11_types_8 fl_X11_40 (by decide) fi_11_15 zl_239 zk_239 zr_239_15 ?_
    refine a_aload_n F dX11_types_11 rfl rfl ?_
    refine a_getI (k := 16) F cfX11 dX11_types_12 fl_X11_174 (by decide) fi_11_16 zl_239 zk_239 ?_
    refine a_iload_n F dX11_types_15 rfl rfl ?_
    refine a_iload_n F dX11_types_16 rfl rfl ?_
    refine a_ishr F dX11_types_17 ?_
    refine a_sipush F dX11_types_18 ks_255 ?_
    refine a_iand F dX11_types_21 ?_
    refine a_gd (a_iast F dX11_types_22 zl_250 zk_250 ?_)
    refine a_nmS (fun S_1 => ?_)
    refine a_aload_n F dX11_types_23 rfl rfl ?_
    refine a_aload_n F dX11_types_24 rfl rfl ?_
    refine a_getI (k := 16) F cfX11 dX11_types_25 fl_X11_174 (by decide) fi_11_16 zl_239 zk_239 ?_
    refine a_iconst F dX11_types_28 ki_1 ?_
    refine a_iadd F dX11_types_29 ?_
    refine a_putI (k := 16) F cfX11 dX11_types_30 fl_X11_174 (by decide) fi_11_16 rfl rfl zl_239 zk_239 ?_
    refine a_nmS (fun S_2 => ?_)
    refine a_iincN (L' := fun x2_3 => [some (.ref 239), some (.int x1), some (.int x2_3)]) F dX11_types_33 rfl ki_m8 (lt_b rfl) (fun _ => rfl) (fun x2_3 => ?_)
    refine a_goto F 3 dX11_types_36 (by decide) ?_
    exact hk3 x1 x2_3 S_2
def f_X11_types_3 : Nat → Int32 → Int32 → Mm → Option Mm :=
  itr (fun _ _ _ => none) (fun k => f_X11_types_3b k)
theorem b_X11_types_3 {X : CX} {E : FE} (M0 : MF X E RX11 cX11_types 3 1 none) : ∀ (n : Nat) (x1 x2 : Int32) (S : Mm), At X E false (mQv X Z1 E) 3 [some (.ref 239), some (.int x1), some (.int x2)] [] Z1 S 0 0 (f_X11_types_3  n x1 x2 S) := by
  intro n
  induction n with
  | zero => intros; exact a_none
  | succ n ih => intro x1 x2 S; exact b_X11_types_3b M0 ih x1 x2 S
def f_X11_types (p1 : Int32) (S : Mm) : Option Mm :=
  f_X11_types_3 FU p1 (24 : Int32) S
set_option maxRecDepth 20000 in
theorem b_X11_types {X : CX} {E : FE} (M0 : MF X E RX11 cX11_types 3 1 none) (p1 : Int32) (S : Mm) : At X E false (mQv X Z1 E) 0 [some (.ref 239), some (.int p1), none] [] Z1 S 0 0 (f_X11_types p1 S) := by
  have F := M0.1
  unfold f_X11_types
  refine a_bipush F dX11_types_0 kb_24 ?_
  refine a_istore_n (L' := [some (.ref 239), some (.int p1), some (.int (24 : Int32))]) F dX11_types_2 rfl (lt_b rfl) rfl ?_
  exact b_X11_types_3 M0 FU p1 (24 : Int32) S
theorem c_X11_types (X : CX) (p1 : Int32) (S : Mm) : CtV X Z1 yX11_types cX11_types 3 1 [.ref 239, .int p1] S (f_X11_types p1 S) :=
  ctV_of (by decide +kernel) rfl (Nat.le_of_ble_eq_true rfl) (by simp [Value.category]) z1len fun E F R hra hlk => b_X11_types ⟨F, R, hra, hlk⟩ p1 S
def f_X11_feed (p1 p2 p3 p4 p5 : Int32) (S : Mm) : Option (Int32 × Mm) :=
  nm (uM S 239 0 (0 : Int32)) fun S_1 =>
  if (S_1 239 16) ≤ (380 : Int32) then (
   (f_X11_types p1 S_1).bind fun S_2 =>
   (f_X11_types p2 S_2).bind fun S_3 =>
   (f_X11_types p3 S_3).bind fun S_4 =>
   (f_X11_types p4 S_4).bind fun S_5 =>
   (f_X11_types p5 S_5).bind fun S_6 =>
   some ((S_6 239 16), S_6)
  ) else (
   some ((-1 : Int32), S_1)
  )
set_option maxRecDepth 20000 in
theorem b_X11_feed {X : CX} {E : FE} (M0 : MF X E RX11 cX11_feed 6 2 (some .int)) (p1 p2 p3 p4 p5 : Int32) (S : Mm) : At X E false (mQi X Z1 E) 0 [some (.ref 239), some (.int p1), some (.int p2), some (.int p3), some (.int p4), some (.int p5)] [] Z1 S 0 0 (f_X11_feed p1 p2 p3 p4 p5 S) := by
  have F := M0.1
  unfold f_X11_feed
  refine a_aload_n F dX11_feed_0 rfl rfl ?_
  refine a_iconst F dX11_feed_1 ki_0 ?_
  refine a_putI (k := 0) F cfX11 dX11_feed_2 fl_X11_107 (by decide) fi_11_0 rfl rfl zl_239 zk_239 ?_
  refine a_nmS (fun S_1 => ?_)
  refine a_aload_n F dX11_feed_5 rfl rfl ?_
  refine a_getI (k := 16) F cfX11 dX11_feed_6 fl_X11_174 (by decide) fi_11_16 zl_239 zk_239 ?_
  refine a_sipush F dX11_feed_9 ks_380 ?_
  refine a_icmp_le F 17 dX11_feed_12 (by decide) ?_ ?_
  · refine a_aload_n F dX11_feed_17 rfl rfl ?_
    refine a_iload_n F dX11_feed_18 rfl rfl ?_
    refine a_callVV F (As := [.int p1]) cfX11 rfl (c_X11_types X p1 S_1) mw_X11_types ml_X11_177 im_X11_types se_X11_types M0.2.1 (Nat.le_of_ble_eq_true rfl) ⟨Nat.zero_le _, Nat.zero_le _⟩ rfl rfl (Nat.le_of_ble_eq_true rfl) zl_239 zk_239 dX11_feed_19 rfl (fun S_2 => ?_)
    refine a_aload_n F dX11_feed_22 rfl rfl ?_
    refine a_iload_n F dX11_feed_23 rfl rfl ?_
    refine a_callVV F (As := [.int p2]) cfX11 rfl (c_X11_types X p2 S_2) mw_X11_types ml_X11_177 im_X11_types se_X11_types M0.2.1 (Nat.le_of_ble_eq_true rfl) ⟨Nat.zero_le _, Nat.zero_le _⟩ rfl rfl (Nat.le_of_ble_eq_true rfl) zl_239 zk_239 dX11_feed_24 rfl (fun S_3 => ?_)
    refine a_aload_n F dX11_feed_27 rfl rfl ?_
    refine a_iload_n F dX11_feed_28 rfl rfl ?_
    refine a_callVV F (As := [.int p3]) cfX11 rfl (c_X11_types X p3 S_3) mw_X11_types ml_X11_177 im_X11_types se_X11_types M0.2.1 (Nat.le_of_ble_eq_true rfl) ⟨Nat.zero_le _, Nat.zero_le _⟩ rfl rfl (Nat.le_of_ble_eq_true rfl) zl_239 zk_239 dX11_feed_29 rfl (fun S_4 => ?_)
    refine a_aload_n F dX11_feed_32 rfl rfl ?_
    refine a_iload F dX11_feed_33 rfl ?_
    refine a_callVV F (As := [.int p4]) cfX11 rfl (c_X11_types X p4 S_4) mw_X11_types ml_X11_177 im_X11_types se_X11_types M0.2.1 (Nat.le_of_ble_eq_true rfl) ⟨Nat.zero_le _, Nat.zero_le _⟩ rfl rfl (Nat.le_of_ble_eq_true rfl) zl_239 zk_239 dX11_feed_35 rfl (fun S_5 => ?_)
    refine a_aload_n F dX11_feed_38 rfl rfl ?_
    refine a_iload F dX11_feed_39 rfl ?_
    refine a_callVV F (As := [.int p5]) cfX11 rfl (c_X11_types X p5 S_5) mw_X11_types ml_X11_177 im_X11_types se_X11_types M0.2.1 (Nat.le_of_ble_eq_true rfl) ⟨Nat.zero_le _, Nat.zero_le _⟩ rfl rfl (Nat.le_of_ble_eq_true rfl) zl_239 zk_239 dX11_feed_41 rfl (fun S_6 => ?_)
    refine a_aload_n F dX11_feed_44 rfl rfl ?_
    refine a_getI (k := 16) F cfX11 dX11_feed_45 fl_X11_174 (by decide) fi_11_16 zl_239 zk_239 ?_
    exact a_iret F M0.2.2.1 M0.2.2.2 dX11_feed_48
  · refine a_iconst F dX11_feed_15 ki_m1 ?_
    exact a_iret F M0.2.2.1 M0.2.2.2 dX11_feed_16
theorem c_X11_feed (X : CX) (p1 p2 p3 p4 p5 : Int32) (S : Mm) : CtI X Z1 yX11_feed cX11_feed 6 (some .int) 2 [.ref 239, .int p1, .int p2, .int p3, .int p4, .int p5] S (f_X11_feed p1 p2 p3 p4 p5 S) :=
  ctI_of (by decide +kernel) rfl (Nat.le_of_ble_eq_true rfl) (by simp [Value.category]) z1len fun E F R hra hlk => b_X11_feed ⟨F, R, hra, hlk⟩ p1 p2 p3 p4 p5 S
def f_X11_canGo_55 (S : Mm) : Option (Int32 × Mm) :=
  some ((0 : Int32), S)
set_option maxRecDepth 20000 in
theorem b_X11_canGo_55 {X : CX} {E : FE} (M0 : MF X E RX11 cX11_canGo 4 3 (some .boolean)) (S : Mm) : At X E false (mQi X Z1 E) 55 [none, none, none, none] [] Z1 S 0 0 (f_X11_canGo_55 S) := by
  have F := M0.1
  unfold f_X11_canGo_55
  refine a_iconst F dX11_canGo_55 ki_0 ?_
  exact a_zretK F M0.2.2.1 M0.2.2.2 dX11_canGo_56 (Or.inl rfl)
def f_X11_canGo (p1 p2 : Int32) (S : Mm) : Option (Int32 × Mm) :=
  (f_X11_isLetter28 p1 S).bind fun q_1 =>
  if q_1.1 = 0 then (
   some ((0 : Int32), q_1.2)
  ) else (
   (f_X11_isLiving p2 q_1.2).bind fun q_2 =>
   if q_2.1 = 0 then (
    some ((0 : Int32), q_2.2)
   ) else (
    (f_X11_borrowerOf p1 q_2.2).bind fun q_3 =>
    if q_3.1 = (-1 : Int32) then (
     (f_X11_ownerOf p1 q_3.2).bind fun q_4 =>
     if q_4.1 = (-1 : Int32) then (
      f_X11_canGo_55 q_4.2
     ) else (
      if q_4.1 = p2 then (
       f_X11_canGo_55 q_4.2
      ) else (
       (f_X11_doesLive q_4.1 q_4.2).bind fun q_5 =>
       if q_5.1 = 0 then (
        f_X11_canGo_55 q_5.2
       ) else (
        some ((1 : Int32), q_5.2)
       )
      )
     )
    ) else (
     some ((0 : Int32), q_3.2)
    )
   )
  )
set_option maxRecDepth 20000 in
theorem b_X11_canGo {X : CX} {E : FE} (M0 : MF X E RX11 cX11_canGo 4 3 (some .boolean)) (p1 p2 : Int32) (S : Mm) : At X E false (mQi X Z1 E) 0 [some (.ref 239), some (.int p1), some (.int p2), none] [] Z1 S 0 0 (f_X11_canGo p1 p2 S) := by
  have F := M0.1
  unfold f_X11_canGo
  refine a_aload_n F dX11_canGo_0 rfl rfl ?_
  refine a_iload_n F dX11_canGo_1 rfl rfl ?_
  refine a_callVI F (As := [.int p1]) cfX11 rfl (c_X11_isLetter28 X p1 S) mw_X11_isLetter28 ml_X11_163 im_X11_isLetter28 se_X11_isLetter28 M0.2.1 (Nat.le_of_ble_eq_true rfl) ⟨Nat.zero_le _, Nat.zero_le _⟩ rfl rfl (Nat.le_of_ble_eq_true rfl) zl_239 zk_239 dX11_canGo_2 rfl (fun q_1 => ?_)
  refine a_if_eq F 25 dX11_canGo_5 (by decide) ?_ ?_
  · refine a_iconst F dX11_canGo_25 ki_0 ?_
    exact a_zretK F M0.2.2.1 M0.2.2.2 dX11_canGo_26 (Or.inl rfl)
  · refine a_aload_n F dX11_canGo_8 rfl rfl ?_
    refine a_iload_n F dX11_canGo_9 rfl rfl ?_
    refine a_callVI F (As := [.int p2]) cfX11 rfl (c_X11_isLiving X p2 q_1.2) mw_X11_isLiving ml_X11_151 im_X11_isLiving se_X11_isLiving M0.2.1 (Nat.le_of_ble_eq_true rfl) ⟨Nat.zero_le _, Nat.zero_le _⟩ rfl rfl (Nat.le_of_ble_eq_true rfl) zl_239 zk_239 dX11_canGo_10 rfl (fun q_2 => ?_)
    refine a_if_eq F 25 dX11_canGo_13 (by decide) ?_ ?_
    · refine a_iconst F dX11_canGo_25 ki_0 ?_
      exact a_zretK F M0.2.2.1 M0.2.2.2 dX11_canGo_26 (Or.inl rfl)
    · refine a_aload_n F dX11_canGo_16 rfl rfl ?_
      refine a_iload_n F dX11_canGo_17 rfl rfl ?_
      refine a_callVI F (As := [.int p1]) cfX11 rfl (c_X11_borrowerOf X p1 q_2.2) mw_X11_borrowerOf ml_X11_315 im_X11_borrowerOf se_X11_borrowerOf M0.2.1 (Nat.le_of_ble_eq_true rfl) ⟨Nat.zero_le _, Nat.zero_le _⟩ rfl rfl (Nat.le_of_ble_eq_true rfl) zl_239 zk_239 dX11_canGo_18 rfl (fun q_3 => ?_)
      refine a_iconst F dX11_canGo_21 ki_m1 ?_
      refine a_icmp_eq F 27 dX11_canGo_22 (by decide) ?_ ?_
      · refine a_aload_n F dX11_canGo_27 rfl rfl ?_
        refine a_iload_n F dX11_canGo_28 rfl rfl ?_
        refine a_callVI F (As := [.int p1]) cfX11 rfl (c_X11_ownerOf X p1 q_3.2) mw_X11_ownerOf ml_X11_160 im_X11_ownerOf se_X11_ownerOf M0.2.1 (Nat.le_of_ble_eq_true rfl) ⟨Nat.zero_le _, Nat.zero_le _⟩ rfl rfl (Nat.le_of_ble_eq_true rfl) zl_239 zk_239 dX11_canGo_29 rfl (fun q_4 => ?_)
        refine a_istore_n (L' := [some (.ref 239), some (.int p1), some (.int p2), some (.int q_4.1)]) F dX11_canGo_32 rfl (lt_b rfl) rfl ?_
        refine a_iload_n F dX11_canGo_33 rfl rfl ?_
        refine a_iconst F dX11_canGo_34 ki_m1 ?_
        refine a_icmp_eq F 55 dX11_canGo_35 (by decide) ?_ ?_
        · refine a_mask [false, false, false, false] (L' := [none, none, none, none]) rfl rfl ?_
          exact b_X11_canGo_55 M0 q_4.2
        · refine a_iload_n F dX11_canGo_38 rfl rfl ?_
          refine a_iload_n F dX11_canGo_39 rfl rfl ?_
          refine a_icmp_eq F 55 dX11_canGo_40 (by decide) ?_ ?_
          · refine a_mask [false, false, false, false] (L' := [none, none, none, none]) rfl rfl ?_
            exact b_X11_canGo_55 M0 q_4.2
          · refine a_aload_n F dX11_canGo_43 rfl rfl ?_
            refine a_iload_n F dX11_canGo_44 rfl rfl ?_
            refine a_callVI F (As := [.int q_4.1]) cfX11 rfl (c_X11_doesLive X q_4.1 q_4.2) mw_X11_doesLive ml_X11_132 im_X11_doesLive se_X11_doesLive M0.2.1 (Nat.le_of_ble_eq_true rfl) ⟨Nat.zero_le _, Nat.zero_le _⟩ rfl rfl (Nat.le_of_ble_eq_true rfl) zl_239 zk_239 dX11_canGo_45 rfl (fun q_5 => ?_)
            refine a_if_eq F 55 dX11_canGo_48 (by decide) ?_ ?_
            · refine a_mask [false, false, false, false] (L' := [none, none, none, none]) rfl rfl ?_
              exact b_X11_canGo_55 M0 q_5.2
            · refine a_iconst F dX11_canGo_51 ki_1 ?_
              refine a_goto F 56 dX11_canGo_52 (by decide) ?_
              exact a_zretK F M0.2.2.1 M0.2.2.2 dX11_canGo_56 (Or.inr rfl)
      · refine a_iconst F dX11_canGo_25 ki_0 ?_
        exact a_zretK F M0.2.2.1 M0.2.2.2 dX11_canGo_26 (Or.inl rfl)
theorem c_X11_canGo (X : CX) (p1 p2 : Int32) (S : Mm) : CtI X Z1 yX11_canGo cX11_canGo 4 (some .boolean) 3 [.ref 239, .int p1, .int p2] S (f_X11_canGo p1 p2 S) :=
  ctI_of (by decide +kernel) rfl (Nat.le_of_ble_eq_true rfl) (by simp [Value.category]) z1len fun E F R hra hlk => b_X11_canGo ⟨F, R, hra, hlk⟩ p1 p2 S
def f_X11_give (p1 p2 : Int32) (S : Mm) : Option (Int32 × Mm) :=
  nm (uM S 239 0 (0 : Int32)) fun S_1 =>
  (f_X11_canGo p1 p2 S_1).bind fun q_2 =>
  if q_2.1 = 0 then (
   some ((0 : Int32), q_2.2)
  ) else (
   (f_X11_keepsAhead q_2.2).bind fun S_3 =>
   (f_X11_comesTo p1 p2 (1 : Int32) S_3).bind fun S_4 =>
   some ((1 : Int32), S_4)
  )
set_option maxRecDepth 20000 in
theorem b_X11_give {X : CX} {E : FE} (M0 : MF X E RX11 cX11_give 3 4 (some .boolean)) (p1 p2 : Int32) (S : Mm) : At X E false (mQi X Z1 E) 0 [some (.ref 239), some (.int p1), some (.int p2)] [] Z1 S 0 0 (f_X11_give p1 p2 S) := by
  have F := M0.1
  unfold f_X11_give
  refine a_aload_n F dX11_give_0 rfl rfl ?_
  refine a_iconst F dX11_give_1 ki_0 ?_
  refine a_putI (k := 0) F cfX11 dX11_give_2 fl_X11_107 (by decide) fi_11_0 rfl rfl zl_239 zk_239 ?_
  refine a_nmS (fun S_1 => ?_)
  refine a_aload_n F dX11_give_5 rfl rfl ?_
  refine a_iload_n F dX11_give_6 rfl rfl ?_
  refine a_iload_n F dX11_give_7 rfl rfl ?_
  refine a_callVI F (As := [.int p1, .int p2]) cfX11 rfl (c_X11_canGo X p1 p2 S_1) mw_X11_canGo ml_X11_363 im_X11_canGo se_X11_canGo M0.2.1 (Nat.le_of_ble_eq_true rfl) ⟨Nat.zero_le _, Nat.zero_le _⟩ rfl rfl (Nat.le_of_ble_eq_true rfl) zl_239 zk_239 dX11_give_8 rfl (fun q_2 => ?_)
  refine a_if_ne F 16 dX11_give_11 (by decide) ?_ ?_
  · refine a_iconst F dX11_give_14 ki_0 ?_
    exact a_zretK F M0.2.2.1 M0.2.2.2 dX11_give_15 (Or.inl rfl)
  · refine a_aload_n F dX11_give_16 rfl rfl ?_
    refine a_callVV F (As := []) cfX11 rfl (c_X11_keepsAhead X q_2.2) mw_X11_keepsAhead ml_X11_357 im_X11_keepsAhead se_X11_keepsAhead M0.2.1 (Nat.le_of_ble_eq_true rfl) ⟨Nat.zero_le _, Nat.zero_le _⟩ rfl rfl (Nat.le_of_ble_eq_true rfl) zl_239 zk_239 dX11_give_17 rfl (fun S_3 => ?_)
    refine a_aload_n F dX11_give_20 rfl rfl ?_
    refine a_iload_n F dX11_give_21 rfl rfl ?_
    refine a_iload_n F dX11_give_22 rfl rfl ?_
    refine a_iconst F dX11_give_23 ki_1 ?_
    refine a_callVV F (As := [.int p1, .int p2, .int (1 : Int32)]) cfX11 rfl (c_X11_comesTo X p1 p2 (1 : Int32) S_3) mw_X11_comesTo ml_X11_166 im_X11_comesTo se_X11_comesTo M0.2.1 (Nat.le_of_ble_eq_true rfl) ⟨Nat.zero_le _, Nat.zero_le _⟩ rfl rfl (Nat.le_of_ble_eq_true rfl) zl_239 zk_239 dX11_give_24 rfl (fun S_4 => ?_)
    refine a_iconst F dX11_give_27 ki_1 ?_
    exact a_zretK F M0.2.2.1 M0.2.2.2 dX11_give_28 (Or.inr rfl)
theorem c_X11_give (X : CX) (p1 p2 : Int32) (S : Mm) : CtI X Z1 yX11_give cX11_give 3 (some .boolean) 4 [.ref 239, .int p1, .int p2] S (f_X11_give p1 p2 S) :=
  ctI_of (by decide +kernel) rfl (Nat.le_of_ble_eq_true rfl) (by simp [Value.category]) z1len fun E F R hra hlk => b_X11_give ⟨F, R, hra, hlk⟩ p1 p2 S
def f_X11_hand (p1 : Int32) (S : Mm) : Option (Int32 × Mm) :=
  nm (uM S 239 0 (0 : Int32)) fun S_1 =>
  if p1 < (1 : Int32) then (
   some ((-1 : Int32), S_1)
  ) else (
   if p1 ≤ (268435455 : Int32) then (
    (f_X11_findsHands S_1).bind fun S_2 =>
    (f_X11_aloneOf p1 S_2).bind fun q_3 =>
    some (q_3.1, q_3.2)
   ) else (
    some ((-1 : Int32), S_1)
   )
  )
set_option maxRecDepth 20000 in
theorem b_X11_hand {X : CX} {E : FE} (M0 : MF X E RX11 cX11_hand 2 5 (some .int)) (p1 : Int32) (S : Mm) : At X E false (mQi X Z1 E) 0 [some (.ref 239), some (.int p1)] [] Z1 S 0 0 (f_X11_hand p1 S) := by
  have F := M0.1
  unfold f_X11_hand
  refine a_aload_n F dX11_hand_0 rfl rfl ?_
  refine a_iconst F dX11_hand_1 ki_0 ?_
  refine a_putI (k := 0) F cfX11 dX11_hand_2 fl_X11_107 (by decide) fi_11_0 rfl rfl zl_239 zk_239 ?_
  refine a_nmS (fun S_1 => ?_)
  refine a_iload_n F dX11_hand_5 rfl rfl ?_
  refine a_iconst F dX11_hand_6 ki_1 ?_
  refine a_icmp_lt F 17 dX11_hand_7 (by decide) ?_ ?_
  · refine a_iconst F dX11_hand_17 ki_m1 ?_
    exact a_iret F M0.2.2.1 M0.2.2.2 dX11_hand_18
  · refine a_iload_n F dX11_hand_10 rfl rfl ?_
    refine a_ldcw F dX11_hand_11 con_X11_269 ?_
    refine a_icmp_le F 19 dX11_hand_14 (by decide) ?_ ?_
    · refine a_aload_n F dX11_hand_19 rfl rfl ?_
      refine a_callVV F (As := []) cfX11 rfl (c_X11_findsHands X S_1) mw_X11_findsHands ml_X11_375 im_X11_findsHands se_X11_findsHands M0.2.1 (Nat.le_of_ble_eq_true rfl) ⟨Nat.zero_le _, Nat.zero_le _⟩ rfl rfl (Nat.le_of_ble_eq_true rfl) zl_239 zk_239 dX11_hand_20 rfl (fun S_2 => ?_)
      refine a_aload_n F dX11_hand_23 rfl rfl ?_
      refine a_iload_n F dX11_hand_24 rfl rfl ?_
      refine a_callVI F (As := [.int p1]) cfX11 rfl (c_X11_aloneOf X p1 S_2) mw_X11_aloneOf ml_X11_405 im_X11_aloneOf se_X11_aloneOf M0.2.1 (Nat.le_of_ble_eq_true rfl) ⟨Nat.zero_le _, Nat.zero_le _⟩ rfl rfl (Nat.le_of_ble_eq_true rfl) zl_239 zk_239 dX11_hand_25 rfl (fun q_3 => ?_)
      exact a_iret F M0.2.2.1 M0.2.2.2 dX11_hand_28
    · refine a_iconst F dX11_hand_17 ki_m1 ?_
      exact a_iret F M0.2.2.1 M0.2.2.2 dX11_hand_18
theorem c_X11_hand (X : CX) (p1 : Int32) (S : Mm) : CtI X Z1 yX11_hand cX11_hand 2 (some .int) 5 [.ref 239, .int p1] S (f_X11_hand p1 S) :=
  ctI_of (by decide +kernel) rfl (Nat.le_of_ble_eq_true rfl) (by simp [Value.category]) z1len fun E F R hra hlk => b_X11_hand ⟨F, R, hra, hlk⟩ p1 S
def f_X11_kept (p1 : Int32) (S : Mm) : Option (Int32 × Mm) :=
  nm (uM S 239 52 ((S 239 52) + (1 : Int32))) fun S_1 =>
  if (S_1 239 50) = 0 then (
   gd (inB ((S_1 239 52) - (1 : Int32)) 3200 = true) <|
   some ((S_1 269 (ix ((S_1 239 52) - (1 : Int32)))), S_1)
  ) else (
   gd (inB ((S_1 239 52) - (1 : Int32)) 3200 = true) <|
   nm (uM S_1 269 (ix ((S_1 239 52) - (1 : Int32))) p1) fun S_2 =>
   some (p1, S_2)
  )
set_option maxRecDepth 20000 in
theorem b_X11_kept {X : CX} {E : FE} (M0 : MF X E RX11 cX11_kept 2 1 (some .int)) (p1 : Int32) (S : Mm) : At X E false (mQi X Z1 E) 0 [some (.ref 239), some (.int p1)] [] Z1 S 0 0 (f_X11_kept p1 S) := by
  have F := M0.1
  unfold f_X11_kept
  refine a_aload_n F dX11_kept_0 rfl rfl ?_
  refine a_aload_n F dX11_kept_1 rfl rfl ?_
  refine a_getI (k := 52) F cfX11 dX11_kept_2 fl_X11_441 (by decide) fi_11_52 zl_239 zk_239 ?_
  refine a_iconst F dX11_kept_5 ki_1 ?_
  refine a_iadd F dX11_kept_6 ?_
  refine a_putI (k := 52) F cfX11 dX11_kept_7 fl_X11_441 (by decide) fi_11_52 rfl rfl zl_239 zk_239 ?_
  refine a_nmS (fun S_1 => ?_)
  refine a_aload_n F dX11_kept_10 rfl rfl ?_
  refine a_getI (k := 50) F cfX11 dX11_kept_11 fl_X11_444 (by decide) fi_11_50 zl_239 zk_239 ?_
  refine a_if_ne F 29 dX11_kept_14 (by decide) ?_ ?_
  · refine a_aload_n F dX11_kept_17 rfl rfl ?_
    refine a_getR (k := 53) F cfX11 dX11_kept_18 fl_X11_104 (by decide) fi_11_53 zl_239 zk_239 zr_239_53 ?_
    refine a_aload_n F dX11_kept_21 rfl rfl ?_
    refine a_getI (k := 52) F cfX11 dX11_kept_22 fl_X11_441 (by decide) fi_11_52 zl_239 zk_239 ?_
    refine a_iconst F dX11_kept_25 ki_1 ?_
    refine a_isub F dX11_kept_26 ?_
    refine a_gd (a_iald F dX11_kept_27 zl_269 zk_269 ?_)
    exact a_iret F M0.2.2.1 M0.2.2.2 dX11_kept_28
  · refine a_aload_n F dX11_kept_29 rfl rfl ?_
    refine a_getR (k := 53) F cfX11 dX11_kept_30 fl_X11_104 (by decide) fi_11_53 zl_239 zk_239 zr_239_53 ?_
    refine a_aload_n F dX11_kept_33 rfl rfl ?_
    refine a_getI (k := 52) F cfX11 dX11_kept_34 fl_X11_441 (by decide) fi_11_52 zl_239 zk_239 ?_
    refine a_iconst F dX11_kept_37 ki_1 ?_
    refine a_isub F dX11_kept_38 ?_
    refine a_iload_n F dX11_kept_39 rfl rfl ?_
    refine a_gd (a_iast F dX11_kept_40 zl_269 zk_269 ?_)
    refine a_nmS (fun S_2 => ?_)
    refine a_iload_n F dX11_kept_41 rfl rfl ?_
    exact a_iret F M0.2.2.1 M0.2.2.2 dX11_kept_42
theorem c_X11_kept (X : CX) (p1 : Int32) (S : Mm) : CtI X Z1 yX11_kept cX11_kept 2 (some .int) 1 [.ref 239, .int p1] S (f_X11_kept p1 S) :=
  ctI_of (by decide +kernel) rfl (Nat.le_of_ble_eq_true rfl) (by simp [Value.category]) z1len fun E F R hra hlk => b_X11_kept ⟨F, R, hra, hlk⟩ p1 S
def f_X11_keepsPeople_136b (k136 : Int32 → Mm → Option Mm) (x1 : Int32) (S : Mm) : Option Mm :=
  if (144 : Int32) ≤ x1 then (
   some S
  ) else (
   gd (inB x1 156 = true) <|
   (f_X11_kept (S 259 (ix x1)) S).bind fun q_1 =>
   gd (inB x1 156 = true) <|
   nm (uM q_1.2 259 (ix x1) q_1.1) fun S_2 =>
   gd (inB x1 156 = true) <|
   (f_X11_kept (S_2 260 (ix x1)) S_2).bind fun q_3 =>
   gd (inB x1 156 = true) <|
   nm (uM q_3.2 260 (ix x1) q_3.1) fun S_4 =>
   gd (inB x1 156 = true) <|
   (f_X11_kept (S_4 261 (ix x1)) S_4).bind fun q_5 =>
   gd (inB x1 156 = true) <|
   nm (uM q_5.2 261 (ix x1) q_5.1) fun S_6 =>
   nm (x1 + (1 : Int32)) fun x1_7 =>
   k136 x1_7 S_6
  )
set_option maxRecDepth 20000 in
theorem b_X11_keepsPeople_136b {X : CX} {E : FE} (M0 : MF X E RX11 cX11_keepsPeople 2 2 none) {k136 : Int32 → Mm → Option Mm} (hk136 : ∀ (x1 : Int32) (S : Mm), At X E false (mQv X Z1 E) 136 [some (.ref 239), some (.int x1)] [] Z1 S 0 0 (k136 x1 S)) (x1 : Int32) (S : Mm) : At X E false (mQv X Z1 E) 136 [some (.ref 239), some (.int x1)] [] Z1 S 0 0 (f_X11_keepsPeople_136b k136 x1 S) := by
  have F := M0.1
  unfold f_X11_keepsPeople_136b
  refine a_iload_n F dX11_keepsPeople_136 rfl rfl ?_
  refine a_sipush F dX11_keepsPeople_137 ks_144 ?_
  refine a_icmp_ge F 197 dX11_keepsPeople_140 (by decide) ?_ ?_
  · exact a_vret F M0.2.2.1 M0.2.2.2 dX11_keepsPeople_197
  · refine a_aload_n F dX11_keepsPeople_143 rfl rfl ?_
    refine a_getR (k := 37) F cfX11 dX11_keepsPeople_144 fl_X11_71 (by decide) fi_11_37 zl_239 zk_239 zr_239_37 ?_
    refine a_iload_n F dX11_keepsPeople_147 rfl rfl ?_
    refine a_aload_n F dX11_keepsPeople_148 rfl rfl ?_
    refine a_aload_n F dX11_keepsPeople_149 rfl rfl ?_
    refine a_getR (k := 37) F cfX11 dX11_keepsPeople_150 fl_X11_71 (by decide) fi_11_37 zl_239 zk_239 zr_239_37 ?_
    refine a_iload_n F dX11_keepsPeople_153 rfl rfl ?_
    refine a_gd (a_iald F dX11_keepsPeople_154 zl_259 zk_259 ?_)
    refine a_callVI F (As := [.int (S 259 (ix x1))]) cfX11 rfl (c_X11_kept X (S 259 (ix x1)) S) mw_X11_kept ml_X11_447 im_X11_kept se_X11_kept M0.2.1 (Nat.le_of_ble_eq_true rfl) ⟨Nat.zero_le _, Nat.zero_le _⟩ rfl rfl (Nat.le_of_ble_eq_true rfl) zl_239 zk_239 dX11_keepsPeople_155 rfl (fun q_1 => ?_)
    refine a_gd (a_iast F dX11_keepsPeople_158 zl_259 zk_259 ?_)
    refine a_nmS (fun S_2 => ?_)
    refine a_aload_n F dX11_keepsPeople_159 rfl rfl ?_
    refine a_getR (k := 38) F cfX11 dX11_keepsPeople_160 fl_X11_74 (by decide) fi_11_38 zl_239 zk_239 zr_239_38 ?_
    refine a_iload_n F dX11_keepsPeople_163 rfl rfl ?_
    refine a_aload_n F dX11_keepsPeople_164 rfl rfl ?_
    refine a_aload_n F dX11_keepsPeople_165 rfl rfl ?_
    refine a_getR (k := 38) F cfX11 dX11_keepsPeople_166 fl_X11_74 (by decide) fi_11_38 zl_239 zk_239 zr_239_38 ?_
    refine a_iload_n F dX11_keepsPeople_169 rfl rfl ?_
    refine a_gd (a_iald F dX11_keepsPeople_170 zl_260 zk_260 ?_)
    refine a_callVI F (As := [.int (S_2 260 (ix x1))]) cfX11 rfl (c_X11_kept X (S_2 260 (ix x1)) S_2) mw_X11_kept ml_X11_447 im_X11_kept se_X11_kept M0.2.1 (Nat.le_of_ble_eq_true rfl) ⟨Nat.zero_le _, Nat.zero_le _⟩ rfl rfl (Nat.le_of_ble_eq_true rfl) zl_239 zk_239 dX11_keepsPeople_171 rfl (fun q_3 => ?_)
    refine a_gd (a_iast F dX11_keepsPeople_174 zl_260 zk_260 ?_)
    refine a_nmS (fun S_4 => ?_)
    refine a_aload_n F dX11_keepsPeople_175 rfl rfl ?_
    refine a_getR (k := 39) F cfX11 dX11_keepsPeople_176 fl_X11_77 (by decide) fi_11_39 zl_239 zk_239 zr_239_39 ?_
    refine a_iload_n F dX11_keepsPeople_179 rfl rfl ?_
    refine a_aload_n F dX11_keepsPeople_180 rfl rfl ?_
    refine a_aload_n F dX11_keepsPeople_181 rfl rfl ?_
    refine a_getR (k := 39) F cfX11 dX11_keepsPeople_182 fl_X11_77 (by decide) fi_11_39 zl_239 zk_239 zr_239_39 ?_
    refine a_iload_n F dX11_keepsPeople_185 rfl rfl ?_
    refine a_gd (a_iald F dX11_keepsPeople_186 zl_261 zk_261 ?_)
    refine a_callVI F (As := [.int (S_4 261 (ix x1))]) cfX11 rfl (c_X11_kept X (S_4 261 (ix x1)) S_4) mw_X11_kept ml_X11_447 im_X11_kept se_X11_kept M0.2.1 (Nat.le_of_ble_eq_true rfl) ⟨Nat.zero_le _, Nat.zero_le _⟩ rfl rfl (Nat.le_of_ble_eq_true rfl) zl_239 zk_239 dX11_keepsPeople_187 rfl (fun q_5 => ?_)
    refine a_gd (a_iast F dX11_keepsPeople_190 zl_261 zk_261 ?_)
    refine a_nmS (fun S_6 => ?_)
    refine a_iincN (L' := fun x1_7 => [some (.ref 239), some (.int x1_7)]) F dX11_keepsPeople_191 rfl ki_1 (lt_b rfl) (fun _ => rfl) (fun x1_7 => ?_)
    refine a_goto F 136 dX11_keepsPeople_194 (by decide) ?_
    exact hk136 x1_7 S_6
def f_X11_keepsPeople_136 : Nat → Int32 → Mm → Option Mm :=
  itr (fun _ _ => none) (fun k => f_X11_keepsPeople_136b k)
theorem b_X11_keepsPeople_136 {X : CX} {E : FE} (M0 : MF X E RX11 cX11_keepsPeople 2 2 none) : ∀ (n : Nat) (x1 : Int32) (S : Mm), At X E false (mQv X Z1 E) 136 [some (.ref 239), some (.int x1)] [] Z1 S 0 0 (f_X11_keepsPeople_136  n x1 S) := by
  intro n
  induction n with
  | zero => intros; exact a_none
  | succ n ih => intro x1 S; exact b_X11_keepsPeople_136b M0 ih x1 S
def f_X11_keepsPeople_26b (k26 : Int32 → Mm → Option Mm) (x1 : Int32) (S : Mm) : Option Mm :=
  if (12 : Int32) ≤ x1 then (
   f_X11_keepsPeople_136 FU (0 : Int32) S
  ) else (
   gd (inB x1 12 = true) <|
   (f_X11_kept (S 243 (ix x1)) S).bind fun q_1 =>
   gd (inB x1 12 = true) <|
   nm (uM q_1.2 243 (ix x1) q_1.1) fun S_2 =>
   gd (inB x1 12 = true) <|
   (f_X11_kept (S_2 244 (ix x1)) S_2).bind fun q_3 =>
   gd (inB x1 12 = true) <|
   nm (uM q_3.2 244 (ix x1) q_3.1) fun S_4 =>
   gd (inB x1 12 = true) <|
   (f_X11_kept (S_4 245 (ix x1)) S_4).bind fun q_5 =>
   gd (inB x1 12 = true) <|
   nm (uM q_5.2 245 (ix x1) q_5.1) fun S_6 =>
   gd (inB x1 12 = true) <|
   (f_X11_kept (S_6 246 (ix x1)) S_6).bind fun q_7 =>
   gd (inB x1 12 = true) <|
   nm (uM q_7.2 246 (ix x1) q_7.1) fun S_8 =>
   gd (inB x1 12 = true) <|
   (f_X11_kept (S_8 247 (ix x1)) S_8).bind fun q_9 =>
   gd (inB x1 12 = true) <|
   nm (uM q_9.2 247 (ix x1) q_9.1) fun S_10 =>
   gd (inB x1 12 = true) <|
   (f_X11_kept (S_10 258 (ix x1)) S_10).bind fun q_11 =>
   gd (inB x1 12 = true) <|
   nm (uM q_11.2 258 (ix x1) q_11.1) fun S_12 =>
   nm (x1 + (1 : Int32)) fun x1_13 =>
   k26 x1_13 S_12
  )
set_option maxRecDepth 20000 in
theorem b_X11_keepsPeople_26b {X : CX} {E : FE} (M0 : MF X E RX11 cX11_keepsPeople 2 2 none) {k26 : Int32 → Mm → Option Mm} (hk26 : ∀ (x1 : Int32) (S : Mm), At X E false (mQv X Z1 E) 26 [some (.ref 239), some (.int x1)] [] Z1 S 0 0 (k26 x1 S)) (x1 : Int32) (S : Mm) : At X E false (mQv X Z1 E) 26 [some (.ref 239), some (.int x1)] [] Z1 S 0 0 (f_X11_keepsPeople_26b k26 x1 S) := by
  have F := M0.1
  unfold f_X11_keepsPeople_26b
  refine a_iload_n F dX11_keepsPeople_26 rfl rfl ?_
  refine a_bipush F dX11_keepsPeople_27 kb_12 ?_
  refine a_icmp_ge F 134 dX11_keepsPeople_29 (by decide) ?_ ?_
  · refine a_iconst F dX11_keepsPeople_134 ki_0 ?_
    refine a_istore_n (L' := [some (.ref 239), some (.int (0 : Int32))]) F dX11_keepsPeople_135 rfl (lt_b rfl) rfl ?_
    exact b_X11_keepsPeople_136 M0 FU (0 : Int32) S
  · refine a_aload_n F dX11_keepsPeople_32 rfl rfl ?_
    refine a_getR (k := 7) F cfX11 dX11_keepsPeople_33 fl_X11_19 (by decide) fi_11_7 zl_239 zk_239 zr_239_7 ?_
    refine a_iload_n F dX11_keepsPeople_36 rfl rfl ?_
    refine a_aload_n F dX11_keepsPeople_37 rfl rfl ?_
    refine a_aload_n F dX11_keepsPeople_38 rfl rfl ?_
    refine a_getR (k := 7) F cfX11 dX11_keepsPeople_39 fl_X11_19 (by decide) fi_11_7 zl_239 zk_239 zr_239_7 ?_
    refine a_iload_n F dX11_keepsPeople_42 rfl rfl ?_
    refine a_gd (a_iald F dX11_keepsPeople_43 zl_243 zk_243 ?_)
    refine a_callVI F (As := [.int (S 243 (ix x1))]) cfX11 rfl (c_X11_kept X (S 243 (ix x1)) S) mw_X11_kept ml_X11_447 im_X11_kept se_X11_kept M0.2.1 (Nat.le_of_ble_eq_true rfl) ⟨Nat.zero_le _, Nat.zero_le _⟩ rfl rfl (Nat.le_of_ble_eq_true rfl) zl_239 zk_239 dX11_keepsPeople_44 rfl (fun q_1 => ?_)
    refine a_gd (a_iast F dX11_keepsPeople_47 zl_243 zk_243 ?_)
    refine a_nmS (fun S_2 => ?_)
    refine a_aload_n F dX11_keepsPeople_48 rfl rfl ?_
    refine a_getR (k := 8) F cfX11 dX11_keepsPeople_49 fl_X11_22 (by decide) fi_11_8 zl_239 zk_239 zr_239_8 ?_
    refine a_iload_n F dX11_keepsPeople_52 rfl rfl ?_
    refine a_aload_n F dX11_keepsPeople_53 rfl rfl ?_
    refine a_aload_n F dX11_keepsPeople_54 rfl rfl ?_
    refine a_getR (k := 8) F cfX11 dX11_keepsPeople_55 fl_X11_22 (by decide) fi_11_8 zl_239 zk_239 zr_239_8 ?_
    refine a_iload_n F dX11_keepsPeople_58 rfl rfl ?_
    refine a_gd (a_iald F dX11_keepsPeople_59 zl_244 zk_244 ?_)
    refine a_callVI F (As := [.int (S_2 244 (ix x1))]) cfX11 rfl (c_X11_kept X (S_2 244 (ix x1)) S_2) mw_X11_kept ml_X11_447 im_X11_kept se_X11_kept M0.2.1 (Nat.le_of_ble_eq_true rfl) ⟨Nat.zero_le _, Nat.zero_le _⟩ rfl rfl (Nat.le_of_ble_eq_true rfl) zl_239 zk_239 dX11_keepsPeople_60 rfl (fun q_3 => ?_)
    refine a_gd (a_iast F dX11_keepsPeople_63 zl_244 zk_244 ?_)
    refine a_nmS (fun S_4 => ?_)
    refine a_aload_n F dX11_keepsPeople_64 rfl rfl ?_
    refine a_getR (k := 9) F cfX11 dX11_keepsPeople_65 fl_X11_25 (by decide) fi_11_9 zl_239 zk_239 zr_239_9 ?_
    refine a_iload_n F dX11_keepsPeople_68 rfl rfl ?_
    refine a_aload_n F dX11_keepsPeople_69 rfl rfl ?_
    refine a_aload_n F dX11_keepsPeople_70 rfl rfl ?_
    refine a_getR (k := 9) F cfX11 dX11_keepsPeople_71 fl_X11_25 (by decide) fi_11_9 zl_239 zk_239 zr_239_9 ?_
    refine a_iload_n F dX11_keepsPeople_74 rfl rfl ?_
    refine a_gd (a_iald F dX11_keepsPeople_75 zl_245 zk_245 ?_)
    refine a_callVI F (As := [.int (S_4 245 (ix x1))]) cfX11 rfl (c_X11_kept X (S_4 245 (ix x1)) S_4) mw_X11_kept ml_X11_447 im_X11_kept se_X11_kept M0.2.1 (Nat.le_of_ble_eq_true rfl) ⟨Nat.zero_le _, Nat.zero_le _⟩ rfl rfl (Nat.le_of_ble_eq_true rfl) zl_239 zk_239 dX11_keepsPeople_76 rfl (fun q_5 => ?_)
    refine a_gd (a_iast F dX11_keepsPeople_79 zl_245 zk_245 ?_)
    refine a_nmS (fun S_6 => ?_)
    refine a_aload_n F dX11_keepsPeople_80 rfl rfl ?_
    refine a_getR (k := 10) F cfX11 dX11_keepsPeople_81 fl_X11_28 (by decide) fi_11_10 zl_239 zk_239 zr_239_10 ?_
    refine a_iload_n F dX11_keepsPeople_84 rfl rfl ?_
    refine a_aload_n F dX11_keepsPeople_85 rfl rfl ?_
    refine a_aload_n F dX11_keepsPeople_86 rfl rfl ?_
    refine a_getR (k := 10) F cfX11 dX11_keepsPeople_87 fl_X11_28 (by decide) fi_11_10 zl_239 zk_239 zr_239_10 ?_
    refine a_iload_n F dX11_keepsPeople_90 rfl rfl ?_
    refine a_gd (a_iald F dX11_keepsPeople_91 zl_246 zk_246 ?_)
    refine a_callVI F (As := [.int (S_6 246 (ix x1))]) cfX11 rfl (c_X11_kept X (S_6 246 (ix x1)) S_6) mw_X11_kept ml_X11_447 im_X11_kept se_X11_kept M0.2.1 (Nat.le_of_ble_eq_true rfl) ⟨Nat.zero_le _, Nat.zero_le _⟩ rfl rfl (Nat.le_of_ble_eq_true rfl) zl_239 zk_239 dX11_keepsPeople_92 rfl (fun q_7 => ?_)
    refine a_gd (a_iast F dX11_keepsPeople_95 zl_246 zk_246 ?_)
    refine a_nmS (fun S_8 => ?_)
    refine a_aload_n F dX11_keepsPeople_96 rfl rfl ?_
    refine a_getR (k := 11) F cfX11 dX11_keepsPeople_97 fl_X11_31 (by decide) fi_11_11 zl_239 zk_239 zr_239_11 ?_
    refine a_iload_n F dX11_keepsPeople_100 rfl rfl ?_
    refine a_aload_n F dX11_keepsPeople_101 rfl rfl ?_
    refine a_aload_n F dX11_keepsPeople_102 rfl rfl ?_
    refine a_getR (k := 11) F cfX11 dX11_keepsPeople_103 fl_X11_31 (by decide) fi_11_11 zl_239 zk_239 zr_239_11 ?_
    refine a_iload_n F dX11_keepsPeople_106 rfl rfl ?_
    refine a_gd (a_iald F dX11_keepsPeople_107 zl_247 zk_247 ?_)
    refine a_callVI F (As := [.int (S_8 247 (ix x1))]) cfX11 rfl (c_X11_kept X (S_8 247 (ix x1)) S_8) mw_X11_kept ml_X11_447 im_X11_kept se_X11_kept M0.2.1 (Nat.le_of_ble_eq_true rfl) ⟨Nat.zero_le _, Nat.zero_le _⟩ rfl rfl (Nat.le_of_ble_eq_true rfl) zl_239 zk_239 dX11_keepsPeople_108 rfl (fun q_9 => ?_)
    refine a_gd (a_iast F dX11_keepsPeople_111 zl_247 zk_247 ?_)
    refine a_nmS (fun S_10 => ?_)
    refine a_aload_n F dX11_keepsPeople_112 rfl rfl ?_
    refine a_getR (k := 36) F cfX11 dX11_keepsPeople_113 fl_X11_68 (by decide) fi_11_36 zl_239 zk_239 zr_239_36 ?_
    refine a_iload_n F dX11_keepsPeople_116 rfl rfl ?_
    refine a_aload_n F dX11_keepsPeople_117 rfl rfl ?_
    refine a_aload_n F dX11_keepsPeople_118 rfl rfl ?_
    refine a_getR (k := 36) F cfX11 dX11_keepsPeople_119 fl_X11_68 (by decide) fi_11_36 zl_239 zk_239 zr_239_36 ?_
    refine a_iload_n F dX11_keepsPeople_122 rfl rfl ?_
    refine a_gd (a_iald F dX11_keepsPeople_123 zl_258 zk_258 ?_)
    refine a_callVI F (As := [.int (S_10 258 (ix x1))]) cfX11 rfl (c_X11_kept X (S_10 258 (ix x1)) S_10) mw_X11_kept ml_X11_447 im_X11_kept se_X11_kept M0.2.1 (Nat.le_of_ble_eq_true rfl) ⟨Nat.zero_le _, Nat.zero_le _⟩ rfl rfl (Nat.le_of_ble_eq_true rfl) zl_239 zk_239 dX11_keepsPeople_124 rfl (fun q_11 => ?_)
    refine a_gd (a_iast F dX11_keepsPeople_127 zl_258 zk_258 ?_)
    refine a_nmS (fun S_12 => ?_)
    refine a_iincN (L' := fun x1_13 => [some (.ref 239), some (.int x1_13)]) F dX11_keepsPeople_128 rfl ki_1 (lt_b rfl) (fun _ => rfl) (fun x1_13 => ?_)
    refine a_goto F 26 dX11_keepsPeople_131 (by decide) ?_
    exact hk26 x1_13 S_12
def f_X11_keepsPeople_26 : Nat → Int32 → Mm → Option Mm :=
  itr (fun _ _ => none) (fun k => f_X11_keepsPeople_26b k)
theorem b_X11_keepsPeople_26 {X : CX} {E : FE} (M0 : MF X E RX11 cX11_keepsPeople 2 2 none) : ∀ (n : Nat) (x1 : Int32) (S : Mm), At X E false (mQv X Z1 E) 26 [some (.ref 239), some (.int x1)] [] Z1 S 0 0 (f_X11_keepsPeople_26  n x1 S) := by
  intro n
  induction n with
  | zero => intros; exact a_none
  | succ n ih => intro x1 S; exact b_X11_keepsPeople_26b M0 ih x1 S
def f_X11_keepsPeople (S : Mm) : Option Mm :=
  (f_X11_kept (S 239 6) S).bind fun q_1 =>
  nm (uM q_1.2 239 6 q_1.1) fun S_2 =>
  (f_X11_kept (S_2 239 12) S_2).bind fun q_3 =>
  nm (uM q_3.2 239 12 q_3.1) fun S_4 =>
  f_X11_keepsPeople_26 FU (0 : Int32) S_4
set_option maxRecDepth 20000 in
theorem b_X11_keepsPeople {X : CX} {E : FE} (M0 : MF X E RX11 cX11_keepsPeople 2 2 none) (S : Mm) : At X E false (mQv X Z1 E) 0 [some (.ref 239), none] [] Z1 S 0 0 (f_X11_keepsPeople S) := by
  have F := M0.1
  unfold f_X11_keepsPeople
  refine a_aload_n F dX11_keepsPeople_0 rfl rfl ?_
  refine a_aload_n F dX11_keepsPeople_1 rfl rfl ?_
  refine a_aload_n F dX11_keepsPeople_2 rfl rfl ?_
  refine a_getI (k := 6) F cfX11 dX11_keepsPeople_3 fl_X11_122 (by decide) fi_11_6 zl_239 zk_239 ?_
  refine a_callVI F (As := [.int (S 239 6)]) cfX11 rfl (c_X11_kept X (S 239 6) S) mw_X11_kept ml_X11_447 im_X11_kept se_X11_kept M0.2.1 (Nat.le_of_ble_eq_true rfl) ⟨Nat.zero_le _, Nat.zero_le _⟩ rfl rfl (Nat.le_of_ble_eq_true rfl) zl_239 zk_239 dX11_keepsPeople_6 rfl (fun q_1 => ?_)
  refine a_putI (k := 6) F cfX11 dX11_keepsPeople_9 fl_X11_122 (by decide) fi_11_6 rfl rfl zl_239 zk_239 ?_
  refine a_nmS (fun S_2 => ?_)
  refine a_aload_n F dX11_keepsPeople_12 rfl rfl ?_
  refine a_aload_n F dX11_keepsPeople_13 rfl rfl ?_
  refine a_aload_n F dX11_keepsPeople_14 rfl rfl ?_
  refine a_getI (k := 12) F cfX11 dX11_keepsPeople_15 fl_X11_157 (by decide) fi_11_12 zl_239 zk_239 ?_
  refine a_callVI F (As := [.int (S_2 239 12)]) cfX11 rfl (c_X11_kept X (S_2 239 12) S_2) mw_X11_kept ml_X11_447 im_X11_kept se_X11_kept M0.2.1 (Nat.le_of_ble_eq_true rfl) ⟨Nat.zero_le _, Nat.zero_le _⟩ rfl rfl (Nat.le_of_ble_eq_true rfl) zl_239 zk_239 dX11_keepsPeople_18 rfl (fun q_3 => ?_)
  refine a_putI (k := 12) F cfX11 dX11_keepsPeople_21 fl_X11_157 (by decide) fi_11_12 rfl rfl zl_239 zk_239 ?_
  refine a_nmS (fun S_4 => ?_)
  refine a_iconst F dX11_keepsPeople_24 ki_0 ?_
  refine a_istore_n (L' := [some (.ref 239), some (.int (0 : Int32))]) F dX11_keepsPeople_25 rfl (lt_b rfl) rfl ?_
  exact b_X11_keepsPeople_26 M0 FU (0 : Int32) S_4
theorem c_X11_keepsPeople (X : CX) (S : Mm) : CtV X Z1 yX11_keepsPeople cX11_keepsPeople 2 2 [.ref 239] S (f_X11_keepsPeople S) :=
  ctV_of (by decide +kernel) rfl (Nat.le_of_ble_eq_true rfl) (by simp [Value.category]) z1len fun E F R hra hlk => b_X11_keepsPeople ⟨F, R, hra, hlk⟩ S
def f_X11_keepsDeeds_60b (k60 : Int32 → Mm → Option Mm) (x1 : Int32) (S : Mm) : Option Mm :=
  if (320 : Int32) ≤ x1 then (
   some S
  ) else (
   gd (inB x1 360 = true) <|
   (f_X11_kept (S 264 (ix x1)) S).bind fun q_1 =>
   gd (inB x1 360 = true) <|
   nm (uM q_1.2 264 (ix x1) q_1.1) fun S_2 =>
   nm (x1 + (1 : Int32)) fun x1_3 =>
   k60 x1_3 S_2
  )
set_option maxRecDepth 20000 in
theorem b_X11_keepsDeeds_60b {X : CX} {E : FE} (M0 : MF X E RX11 cX11_keepsDeeds 2 2 none) {k60 : Int32 → Mm → Option Mm} (hk60 : ∀ (x1 : Int32) (S : Mm), At X E false (mQv X Z1 E) 60 [some (.ref 239), some (.int x1)] [] Z1 S 0 0 (k60 x1 S)) (x1 : Int32) (S : Mm) : At X E false (mQv X Z1 E) 60 [some (.ref 239), some (.int x1)] [] Z1 S 0 0 (f_X11_keepsDeeds_60b k60 x1 S) := by
  have F := M0.1
  unfold f_X11_keepsDeeds_60b
  refine a_iload_n F dX11_keepsDeeds_60 rfl rfl ?_
  refine a_sipush F dX11_keepsDeeds_61 ks_320 ?_
  refine a_icmp_ge F 89 dX11_keepsDeeds_64 (by decide) ?_ ?_
  · exact a_vret F M0.2.2.1 M0.2.2.2 dX11_keepsDeeds_89
  · refine a_aload_n F dX11_keepsDeeds_67 rfl rfl ?_
    refine a_getR (k := 43) F cfX11 dX11_keepsDeeds_68 fl_X11_86 (by decide) fi_11_43 zl_239 zk_239 zr_239_43 ?_
    refine a_iload_n F dX11_keepsDeeds_71 rfl rfl ?_
    refine a_aload_n F dX11_keepsDeeds_72 rfl rfl ?_
    refine a_aload_n F dX11_keepsDeeds_73 rfl rfl ?_
    refine a_getR (k := 43) F cfX11 dX11_keepsDeeds_74 fl_X11_86 (by decide) fi_11_43 zl_239 zk_239 zr_239_43 ?_
    refine a_iload_n F dX11_keepsDeeds_77 rfl rfl ?_
    refine a_gd (a_iald F dX11_keepsDeeds_78 zl_264 zk_264 ?_)
    refine a_callVI F (As := [.int (S 264 (ix x1))]) cfX11 rfl (c_X11_kept X (S 264 (ix x1)) S) mw_X11_kept ml_X11_447 im_X11_kept se_X11_kept M0.2.1 (Nat.le_of_ble_eq_true rfl) ⟨Nat.zero_le _, Nat.zero_le _⟩ rfl rfl (Nat.le_of_ble_eq_true rfl) zl_239 zk_239 dX11_keepsDeeds_79 rfl (fun q_1 => ?_)
    refine a_gd (a_iast F dX11_keepsDeeds_82 zl_264 zk_264 ?_)
    refine a_nmS (fun S_2 => ?_)
    refine a_iincN (L' := fun x1_3 => [some (.ref 239), some (.int x1_3)]) F dX11_keepsDeeds_83 rfl ki_1 (lt_b rfl) (fun _ => rfl) (fun x1_3 => ?_)
    refine a_goto F 60 dX11_keepsDeeds_86 (by decide) ?_
    exact hk60 x1_3 S_2
def f_X11_keepsDeeds_60 : Nat → Int32 → Mm → Option Mm :=
  itr (fun _ _ => none) (fun k => f_X11_keepsDeeds_60b k)
theorem b_X11_keepsDeeds_60 {X : CX} {E : FE} (M0 : MF X E RX11 cX11_keepsDeeds 2 2 none) : ∀ (n : Nat) (x1 : Int32) (S : Mm), At X E false (mQv X Z1 E) 60 [some (.ref 239), some (.int x1)] [] Z1 S 0 0 (f_X11_keepsDeeds_60  n x1 S) := by
  intro n
  induction n with
  | zero => intros; exact a_none
  | succ n ih => intro x1 S; exact b_X11_keepsDeeds_60b M0 ih x1 S
def f_X11_keepsDeeds_14b (k14 : Int32 → Mm → Option Mm) (x1 : Int32) (S : Mm) : Option Mm :=
  if (8 : Int32) ≤ x1 then (
   f_X11_keepsDeeds_60 FU (0 : Int32) S
  ) else (
   gd (inB x1 8 = true) <|
   (f_X11_kept (S 262 (ix x1)) S).bind fun q_1 =>
   gd (inB x1 8 = true) <|
   nm (uM q_1.2 262 (ix x1) q_1.1) fun S_2 =>
   gd (inB x1 8 = true) <|
   (f_X11_kept (S_2 263 (ix x1)) S_2).bind fun q_3 =>
   gd (inB x1 8 = true) <|
   nm (uM q_3.2 263 (ix x1) q_3.1) fun S_4 =>
   nm (x1 + (1 : Int32)) fun x1_5 =>
   k14 x1_5 S_4
  )
set_option maxRecDepth 20000 in
theorem b_X11_keepsDeeds_14b {X : CX} {E : FE} (M0 : MF X E RX11 cX11_keepsDeeds 2 2 none) {k14 : Int32 → Mm → Option Mm} (hk14 : ∀ (x1 : Int32) (S : Mm), At X E false (mQv X Z1 E) 14 [some (.ref 239), some (.int x1)] [] Z1 S 0 0 (k14 x1 S)) (x1 : Int32) (S : Mm) : At X E false (mQv X Z1 E) 14 [some (.ref 239), some (.int x1)] [] Z1 S 0 0 (f_X11_keepsDeeds_14b k14 x1 S) := by
  have F := M0.1
  unfold f_X11_keepsDeeds_14b
  refine a_iload_n F dX11_keepsDeeds_14 rfl rfl ?_
  refine a_bipush F dX11_keepsDeeds_15 kb_8 ?_
  refine a_icmp_ge F 58 dX11_keepsDeeds_17 (by decide) ?_ ?_
  · refine a_iconst F dX11_keepsDeeds_58 ki_0 ?_
    refine a_istore_n (L' := [some (.ref 239), some (.int (0 : Int32))]) F dX11_keepsDeeds_59 rfl (lt_b rfl) rfl ?_
    exact b_X11_keepsDeeds_60 M0 FU (0 : Int32) S
  · refine a_aload_n F dX11_keepsDeeds_20 rfl rfl ?_
    refine a_getR (k := 41) F cfX11 dX11_keepsDeeds_21 fl_X11_80 (by decide) fi_11_41 zl_239 zk_239 zr_239_41 ?_
    refine a_iload_n F dX11_keepsDeeds_24 rfl rfl ?_
    refine a_aload_n F dX11_keepsDeeds_25 rfl rfl ?_
    refine a_aload_n F dX11_keepsDeeds_26 rfl rfl ?_
    refine a_getR (k := 41) F cfX11 dX11_keepsDeeds_27 fl_X11_80 (by decide) fi_11_41 zl_239 zk_239 zr_239_41 ?_
    refine a_iload_n F dX11_keepsDeeds_30 rfl rfl ?_
    refine a_gd (a_iald F dX11_keepsDeeds_31 zl_262 zk_262 ?_)
    refine a_callVI F (As := [.int (S 262 (ix x1))]) cfX11 rfl (c_X11_kept X (S 262 (ix x1)) S) mw_X11_kept ml_X11_447 im_X11_kept se_X11_kept M0.2.1 (Nat.le_of_ble_eq_true rfl) ⟨Nat.zero_le _, Nat.zero_le _⟩ rfl rfl (Nat.le_of_ble_eq_true rfl) zl_239 zk_239 dX11_keepsDeeds_32 rfl (fun q_1 => ?_)
    refine a_gd (a_iast F dX11_keepsDeeds_35 zl_262 zk_262 ?_)
    refine a_nmS (fun S_2 => ?_)
    refine a_aload_n F dX11_keepsDeeds_36 rfl rfl ?_
    refine a_getR (k := 42) F cfX11 dX11_keepsDeeds_37 fl_X11_83 (by decide) fi_11_42 zl_239 zk_239 zr_239_42 ?_
    refine a_iload_n F dX11_keepsDeeds_40 rfl rfl ?_
    refine a_aload_n F dX11_keepsDeeds_41 rfl rfl ?_
    refine a_aload_n F dX11_keepsDeeds_42 rfl rfl ?_
    refine a_getR (k := 42) F cfX11 dX11_keepsDeeds_43 fl_X11_83 (by decide) fi_11_42 zl_239 zk_239 zr_239_42 ?_
    refine a_iload_n F dX11_keepsDeeds_46 rfl rfl ?_
    refine a_gd (a_iald F dX11_keepsDeeds_47 zl_263 zk_263 ?_)
    refine a_callVI F (As := [.int (S_2 263 (ix x1))]) cfX11 rfl (c_X11_kept X (S_2 263 (ix x1)) S_2) mw_X11_kept ml_X11_447 im_X11_kept se_X11_kept M0.2.1 (Nat.le_of_ble_eq_true rfl) ⟨Nat.zero_le _, Nat.zero_le _⟩ rfl rfl (Nat.le_of_ble_eq_true rfl) zl_239 zk_239 dX11_keepsDeeds_48 rfl (fun q_3 => ?_)
    refine a_gd (a_iast F dX11_keepsDeeds_51 zl_263 zk_263 ?_)
    refine a_nmS (fun S_4 => ?_)
    refine a_iincN (L' := fun x1_5 => [some (.ref 239), some (.int x1_5)]) F dX11_keepsDeeds_52 rfl ki_1 (lt_b rfl) (fun _ => rfl) (fun x1_5 => ?_)
    refine a_goto F 14 dX11_keepsDeeds_55 (by decide) ?_
    exact hk14 x1_5 S_4
def f_X11_keepsDeeds_14 : Nat → Int32 → Mm → Option Mm :=
  itr (fun _ _ => none) (fun k => f_X11_keepsDeeds_14b k)
theorem b_X11_keepsDeeds_14 {X : CX} {E : FE} (M0 : MF X E RX11 cX11_keepsDeeds 2 2 none) : ∀ (n : Nat) (x1 : Int32) (S : Mm), At X E false (mQv X Z1 E) 14 [some (.ref 239), some (.int x1)] [] Z1 S 0 0 (f_X11_keepsDeeds_14  n x1 S) := by
  intro n
  induction n with
  | zero => intros; exact a_none
  | succ n ih => intro x1 S; exact b_X11_keepsDeeds_14b M0 ih x1 S
def f_X11_keepsDeeds (S : Mm) : Option Mm :=
  (f_X11_kept (S 239 40) S).bind fun q_1 =>
  nm (uM q_1.2 239 40 q_1.1) fun S_2 =>
  f_X11_keepsDeeds_14 FU (0 : Int32) S_2
set_option maxRecDepth 20000 in
theorem b_X11_keepsDeeds {X : CX} {E : FE} (M0 : MF X E RX11 cX11_keepsDeeds 2 2 none) (S : Mm) : At X E false (mQv X Z1 E) 0 [some (.ref 239), none] [] Z1 S 0 0 (f_X11_keepsDeeds S) := by
  have F := M0.1
  unfold f_X11_keepsDeeds
  refine a_aload_n F dX11_keepsDeeds_0 rfl rfl ?_
  refine a_aload_n F dX11_keepsDeeds_1 rfl rfl ?_
  refine a_aload_n F dX11_keepsDeeds_2 rfl rfl ?_
  refine a_getI (k := 40) F cfX11 dX11_keepsDeeds_3 fl_X11_125 (by decide) fi_11_40 zl_239 zk_239 ?_
  refine a_callVI F (As := [.int (S 239 40)]) cfX11 rfl (c_X11_kept X (S 239 40) S) mw_X11_kept ml_X11_447 im_X11_kept se_X11_kept M0.2.1 (Nat.le_of_ble_eq_true rfl) ⟨Nat.zero_le _, Nat.zero_le _⟩ rfl rfl (Nat.le_of_ble_eq_true rfl) zl_239 zk_239 dX11_keepsDeeds_6 rfl (fun q_1 => ?_)
  refine a_putI (k := 40) F cfX11 dX11_keepsDeeds_9 fl_X11_125 (by decide) fi_11_40 rfl rfl zl_239 zk_239 ?_
  refine a_nmS (fun S_2 => ?_)
  refine a_iconst F dX11_keepsDeeds_12 ki_0 ?_
  refine a_istore_n (L' := [some (.ref 239), some (.int (0 : Int32))]) F dX11_keepsDeeds_13 rfl (lt_b rfl) rfl ?_
  exact b_X11_keepsDeeds_14 M0 FU (0 : Int32) S_2
theorem c_X11_keepsDeeds (X : CX) (S : Mm) : CtV X Z1 yX11_keepsDeeds cX11_keepsDeeds 2 2 [.ref 239] S (f_X11_keepsDeeds S) :=
  ctV_of (by decide +kernel) rfl (Nat.le_of_ble_eq_true rfl) (by simp [Value.category]) z1len fun E F R hra hlk => b_X11_keepsDeeds ⟨F, R, hra, hlk⟩ S
def f_X11_keepsLaw_76b (k76 : Int32 → Mm → Option Mm) (x1 : Int32) (S : Mm) : Option Mm :=
  if (400 : Int32) ≤ x1 then (
   some S
  ) else (
   gd (inB x1 800 = true) <|
   (f_X11_kept (S 255 (ix x1)) S).bind fun q_1 =>
   gd (inB x1 800 = true) <|
   nm (uM q_1.2 255 (ix x1) q_1.1) fun S_2 =>
   gd (inB x1 800 = true) <|
   (f_X11_kept (S_2 256 (ix x1)) S_2).bind fun q_3 =>
   gd (inB x1 800 = true) <|
   nm (uM q_3.2 256 (ix x1) q_3.1) fun S_4 =>
   nm (x1 + (1 : Int32)) fun x1_5 =>
   k76 x1_5 S_4
  )
set_option maxRecDepth 20000 in
theorem b_X11_keepsLaw_76b {X : CX} {E : FE} (M0 : MF X E RX11 cX11_keepsLaw 2 2 none) {k76 : Int32 → Mm → Option Mm} (hk76 : ∀ (x1 : Int32) (S : Mm), At X E false (mQv X Z1 E) 76 [some (.ref 239), some (.int x1)] [] Z1 S 0 0 (k76 x1 S)) (x1 : Int32) (S : Mm) : At X E false (mQv X Z1 E) 76 [some (.ref 239), some (.int x1)] [] Z1 S 0 0 (f_X11_keepsLaw_76b k76 x1 S) := by
  have F := M0.1
  unfold f_X11_keepsLaw_76b
  refine a_iload_n F dX11_keepsLaw_76 rfl rfl ?_
  refine a_sipush F dX11_keepsLaw_77 ks_400 ?_
  refine a_icmp_ge F 121 dX11_keepsLaw_80 (by decide) ?_ ?_
  · exact a_vret F M0.2.2.1 M0.2.2.2 dX11_keepsLaw_121
  · refine a_aload_n F dX11_keepsLaw_83 rfl rfl ?_
    refine a_getR (k := 26) F cfX11 dX11_keepsLaw_84 fl_X11_55 (by decide) fi_11_26 zl_239 zk_239 zr_239_26 ?_
    refine a_iload_n F dX11_keepsLaw_87 rfl rfl ?_
    refine a_aload_n F dX11_keepsLaw_88 rfl rfl ?_
    refine a_aload_n F dX11_keepsLaw_89 rfl rfl ?_
    refine a_getR (k := 26) F cfX11 dX11_keepsLaw_90 fl_X11_55 (by decide) fi_11_26 zl_239 zk_239 zr_239_26 ?_
    refine a_iload_n F dX11_keepsLaw_93 rfl rfl ?_
    refine a_gd (a_iald F dX11_keepsLaw_94 zl_255 zk_255 ?_)
    refine a_callVI F (As := [.int (S 255 (ix x1))]) cfX11 rfl (c_X11_kept X (S 255 (ix x1)) S) mw_X11_kept ml_X11_447 im_X11_kept se_X11_kept M0.2.1 (Nat.le_of_ble_eq_true rfl) ⟨Nat.zero_le _, Nat.zero_le _⟩ rfl rfl (Nat.le_of_ble_eq_true rfl) zl_239 zk_239 dX11_keepsLaw_95 rfl (fun q_1 => ?_)
    refine a_gd (a_iast F dX11_keepsLaw_98 zl_255 zk_255 ?_)
    refine a_nmS (fun S_2 => ?_)
    refine a_aload_n F dX11_keepsLaw_99 rfl rfl ?_
    refine a_getR (k := 27) F cfX11 dX11_keepsLaw_100 fl_X11_58 (by decide) fi_11_27 zl_239 zk_239 zr_239_27 ?_
    refine a_iload_n F dX11_keepsLaw_103 rfl rfl ?_
    refine a_aload_n F dX11_keepsLaw_104 rfl rfl ?_
    refine a_aload_n F dX11_keepsLaw_105 rfl rfl ?_
    refine a_getR (k := 27) F cfX11 dX11_keepsLaw_106 fl_X11_58 (by decide) fi_11_27 zl_239 zk_239 zr_239_27 ?_
    refine a_iload_n F dX11_keepsLaw_109 rfl rfl ?_
    refine a_gd (a_iald F dX11_keepsLaw_110 zl_256 zk_256 ?_)
    refine a_callVI F (As := [.int (S_2 256 (ix x1))]) cfX11 rfl (c_X11_kept X (S_2 256 (ix x1)) S_2) mw_X11_kept ml_X11_447 im_X11_kept se_X11_kept M0.2.1 (Nat.le_of_ble_eq_true rfl) ⟨Nat.zero_le _, Nat.zero_le _⟩ rfl rfl (Nat.le_of_ble_eq_true rfl) zl_239 zk_239 dX11_keepsLaw_111 rfl (fun q_3 => ?_)
    refine a_gd (a_iast F dX11_keepsLaw_114 zl_256 zk_256 ?_)
    refine a_nmS (fun S_4 => ?_)
    refine a_iincN (L' := fun x1_5 => [some (.ref 239), some (.int x1_5)]) F dX11_keepsLaw_115 rfl ki_1 (lt_b rfl) (fun _ => rfl) (fun x1_5 => ?_)
    refine a_goto F 76 dX11_keepsLaw_118 (by decide) ?_
    exact hk76 x1_5 S_4
def f_X11_keepsLaw_76 : Nat → Int32 → Mm → Option Mm :=
  itr (fun _ _ => none) (fun k => f_X11_keepsLaw_76b k)
theorem b_X11_keepsLaw_76 {X : CX} {E : FE} (M0 : MF X E RX11 cX11_keepsLaw 2 2 none) : ∀ (n : Nat) (x1 : Int32) (S : Mm), At X E false (mQv X Z1 E) 76 [some (.ref 239), some (.int x1)] [] Z1 S 0 0 (f_X11_keepsLaw_76  n x1 S) := by
  intro n
  induction n with
  | zero => intros; exact a_none
  | succ n ih => intro x1 S; exact b_X11_keepsLaw_76b M0 ih x1 S
def f_X11_keepsLaw_14b (k14 : Int32 → Mm → Option Mm) (x1 : Int32) (S : Mm) : Option Mm :=
  if (16 : Int32) ≤ x1 then (
   f_X11_keepsLaw_76 FU (0 : Int32) S
  ) else (
   gd (inB x1 32 = true) <|
   (f_X11_kept (S 252 (ix x1)) S).bind fun q_1 =>
   gd (inB x1 32 = true) <|
   nm (uM q_1.2 252 (ix x1) q_1.1) fun S_2 =>
   gd (inB x1 32 = true) <|
   (f_X11_kept (S_2 253 (ix x1)) S_2).bind fun q_3 =>
   gd (inB x1 32 = true) <|
   nm (uM q_3.2 253 (ix x1) q_3.1) fun S_4 =>
   gd (inB x1 32 = true) <|
   (f_X11_kept (S_4 254 (ix x1)) S_4).bind fun q_5 =>
   gd (inB x1 32 = true) <|
   nm (uM q_5.2 254 (ix x1) q_5.1) fun S_6 =>
   nm (x1 + (1 : Int32)) fun x1_7 =>
   k14 x1_7 S_6
  )
set_option maxRecDepth 20000 in
theorem b_X11_keepsLaw_14b {X : CX} {E : FE} (M0 : MF X E RX11 cX11_keepsLaw 2 2 none) {k14 : Int32 → Mm → Option Mm} (hk14 : ∀ (x1 : Int32) (S : Mm), At X E false (mQv X Z1 E) 14 [some (.ref 239), some (.int x1)] [] Z1 S 0 0 (k14 x1 S)) (x1 : Int32) (S : Mm) : At X E false (mQv X Z1 E) 14 [some (.ref 239), some (.int x1)] [] Z1 S 0 0 (f_X11_keepsLaw_14b k14 x1 S) := by
  have F := M0.1
  unfold f_X11_keepsLaw_14b
  refine a_iload_n F dX11_keepsLaw_14 rfl rfl ?_
  refine a_bipush F dX11_keepsLaw_15 kb_16 ?_
  refine a_icmp_ge F 74 dX11_keepsLaw_17 (by decide) ?_ ?_
  · refine a_iconst F dX11_keepsLaw_74 ki_0 ?_
    refine a_istore_n (L' := [some (.ref 239), some (.int (0 : Int32))]) F dX11_keepsLaw_75 rfl (lt_b rfl) rfl ?_
    exact b_X11_keepsLaw_76 M0 FU (0 : Int32) S
  · refine a_aload_n F dX11_keepsLaw_20 rfl rfl ?_
    refine a_getR (k := 23) F cfX11 dX11_keepsLaw_21 fl_X11_46 (by decide) fi_11_23 zl_239 zk_239 zr_239_23 ?_
    refine a_iload_n F dX11_keepsLaw_24 rfl rfl ?_
    refine a_aload_n F dX11_keepsLaw_25 rfl rfl ?_
    refine a_aload_n F dX11_keepsLaw_26 rfl rfl ?_
    refine a_getR (k := 23) F cfX11 dX11_keepsLaw_27 fl_X11_46 (by decide) fi_11_23 zl_239 zk_239 zr_239_23 ?_
    refine a_iload_n F dX11_keepsLaw_30 rfl rfl ?_
    refine a_gd (a_iald F dX11_keepsLaw_31 zl_252 zk_252 ?_)
    refine a_callVI F (As := [.int (S 252 (ix x1))]) cfX11 rfl (c_X11_kept X (S 252 (ix x1)) S) mw_X11_kept ml_X11_447 im_X11_kept se_X11_kept M0.2.1 (Nat.le_of_ble_eq_true rfl) ⟨Nat.zero_le _, Nat.zero_le _⟩ rfl rfl (Nat.le_of_ble_eq_true rfl) zl_239 zk_239 dX11_keepsLaw_32 rfl (fun q_1 => ?_)
    refine a_gd (a_iast F dX11_keepsLaw_35 zl_252 zk_252 ?_)
    refine a_nmS (fun S_2 => ?_)
    refine a_aload_n F dX11_keepsLaw_36 rfl rfl ?_
    refine a_getR (k := 24) F cfX11 dX11_keepsLaw_37 fl_X11_49 (by decide) fi_11_24 zl_239 zk_239 zr_239_24 ?_
    refine a_iload_n F dX11_keepsLaw_40 rfl rfl ?_
    refine a_aload_n F dX11_keepsLaw_41 rfl rfl ?_
    refine a_aload_n F dX11_keepsLaw_42 rfl rfl ?_
    refine a_getR (k := 24) F cfX11 dX11_keepsLaw_43 fl_X11_49 (by decide) fi_11_24 zl_239 zk_239 zr_239_24 ?_
    refine a_iload_n F dX11_keepsLaw_46 rfl rfl ?_
    refine a_gd (a_iald F dX11_keepsLaw_47 zl_253 zk_253 ?_)
    refine a_callVI F (As := [.int (S_2 253 (ix x1))]) cfX11 rfl (c_X11_kept X (S_2 253 (ix x1)) S_2) mw_X11_kept ml_X11_447 im_X11_kept se_X11_kept M0.2.1 (Nat.le_of_ble_eq_true rfl) ⟨Nat.zero_le _, Nat.zero_le _⟩ rfl rfl (Nat.le_of_ble_eq_true rfl) zl_239 zk_239 dX11_keepsLaw_48 rfl (fun q_3 => ?_)
    refine a_gd (a_iast F dX11_keepsLaw_51 zl_253 zk_253 ?_)
    refine a_nmS (fun S_4 => ?_)
    refine a_aload_n F dX11_keepsLaw_52 rfl rfl ?_
    refine a_getR (k := 25) F cfX11 dX11_keepsLaw_53 fl_X11_52 (by decide) fi_11_25 zl_239 zk_239 zr_239_25 ?_
    refine a_iload_n F dX11_keepsLaw_56 rfl rfl ?_
    refine a_aload_n F dX11_keepsLaw_57 rfl rfl ?_
    refine a_aload_n F dX11_keepsLaw_58 rfl rfl ?_
    refine a_getR (k := 25) F cfX11 dX11_keepsLaw_59 fl_X11_52 (by decide) fi_11_25 zl_239 zk_239 zr_239_25 ?_
    refine a_iload_n F dX11_keepsLaw_62 rfl rfl ?_
    refine a_gd (a_iald F dX11_keepsLaw_63 zl_254 zk_254 ?_)
    refine a_callVI F (As := [.int (S_4 254 (ix x1))]) cfX11 rfl (c_X11_kept X (S_4 254 (ix x1)) S_4) mw_X11_kept ml_X11_447 im_X11_kept se_X11_kept M0.2.1 (Nat.le_of_ble_eq_true rfl) ⟨Nat.zero_le _, Nat.zero_le _⟩ rfl rfl (Nat.le_of_ble_eq_true rfl) zl_239 zk_239 dX11_keepsLaw_64 rfl (fun q_5 => ?_)
    refine a_gd (a_iast F dX11_keepsLaw_67 zl_254 zk_254 ?_)
    refine a_nmS (fun S_6 => ?_)
    refine a_iincN (L' := fun x1_7 => [some (.ref 239), some (.int x1_7)]) F dX11_keepsLaw_68 rfl ki_1 (lt_b rfl) (fun _ => rfl) (fun x1_7 => ?_)
    refine a_goto F 14 dX11_keepsLaw_71 (by decide) ?_
    exact hk14 x1_7 S_6
def f_X11_keepsLaw_14 : Nat → Int32 → Mm → Option Mm :=
  itr (fun _ _ => none) (fun k => f_X11_keepsLaw_14b k)
theorem b_X11_keepsLaw_14 {X : CX} {E : FE} (M0 : MF X E RX11 cX11_keepsLaw 2 2 none) : ∀ (n : Nat) (x1 : Int32) (S : Mm), At X E false (mQv X Z1 E) 14 [some (.ref 239), some (.int x1)] [] Z1 S 0 0 (f_X11_keepsLaw_14  n x1 S) := by
  intro n
  induction n with
  | zero => intros; exact a_none
  | succ n ih => intro x1 S; exact b_X11_keepsLaw_14b M0 ih x1 S
def f_X11_keepsLaw (S : Mm) : Option Mm :=
  (f_X11_kept (S 239 22) S).bind fun q_1 =>
  nm (uM q_1.2 239 22 q_1.1) fun S_2 =>
  f_X11_keepsLaw_14 FU (0 : Int32) S_2
set_option maxRecDepth 20000 in
theorem b_X11_keepsLaw {X : CX} {E : FE} (M0 : MF X E RX11 cX11_keepsLaw 2 2 none) (S : Mm) : At X E false (mQv X Z1 E) 0 [some (.ref 239), none] [] Z1 S 0 0 (f_X11_keepsLaw S) := by
  have F := M0.1
  unfold f_X11_keepsLaw
  refine a_aload_n F dX11_keepsLaw_0 rfl rfl ?_
  refine a_aload_n F dX11_keepsLaw_1 rfl rfl ?_
  refine a_aload_n F dX11_keepsLaw_2 rfl rfl ?_
  refine a_getI (k := 22) F cfX11 dX11_keepsLaw_3 fl_X11_260 (by decide) fi_11_22 zl_239 zk_239 ?_
  refine a_callVI F (As := [.int (S 239 22)]) cfX11 rfl (c_X11_kept X (S 239 22) S) mw_X11_kept ml_X11_447 im_X11_kept se_X11_kept M0.2.1 (Nat.le_of_ble_eq_true rfl) ⟨Nat.zero_le _, Nat.zero_le _⟩ rfl rfl (Nat.le_of_ble_eq_true rfl) zl_239 zk_239 dX11_keepsLaw_6 rfl (fun q_1 => ?_)
  refine a_putI (k := 22) F cfX11 dX11_keepsLaw_9 fl_X11_260 (by decide) fi_11_22 rfl rfl zl_239 zk_239 ?_
  refine a_nmS (fun S_2 => ?_)
  refine a_iconst F dX11_keepsLaw_12 ki_0 ?_
  refine a_istore_n (L' := [some (.ref 239), some (.int (0 : Int32))]) F dX11_keepsLaw_13 rfl (lt_b rfl) rfl ?_
  exact b_X11_keepsLaw_14 M0 FU (0 : Int32) S_2
theorem c_X11_keepsLaw (X : CX) (S : Mm) : CtV X Z1 yX11_keepsLaw cX11_keepsLaw 2 2 [.ref 239] S (f_X11_keepsLaw S) :=
  ctV_of (by decide +kernel) rfl (Nat.le_of_ble_eq_true rfl) (by simp [Value.category]) z1len fun E F R hra hlk => b_X11_keepsLaw ⟨F, R, hra, hlk⟩ S
def f_X11_image_74b (k74 : Int32 → Int32 → Mm → Option (Int32 × Mm)) (x1 x2 : Int32) (S : Mm) : Option (Int32 × Mm) :=
  if (1000 : Int32) ≤ x2 then (
   (f_X11_keepsLaw S).bind fun S_1 =>
   (f_X11_findsKin S_1).bind fun S_2 =>
   if x1 = 0 then (
    nm (uM S_2 239 3 (0 : Int32)) fun S_3 =>
    some ((1 : Int32), S_3)
   ) else (
    some ((1 : Int32), S_2)
   )
  ) else (
   gd (inB x2 1000 = true) <|
   (f_X11_kept (S 248 (ix x2)) S).bind fun q_4 =>
   gd (inB x2 1000 = true) <|
   nm (uM q_4.2 248 (ix x2) q_4.1) fun S_5 =>
   nm (x2 + (1 : Int32)) fun x2_6 =>
   k74 x1 x2_6 S_5
  )
set_option maxRecDepth 20000 in
theorem b_X11_image_74b {X : CX} {E : FE} (M0 : MF X E RX11 cX11_image 3 3 (some .boolean)) {k74 : Int32 → Int32 → Mm → Option (Int32 × Mm)} (hk74 : ∀ (x1 x2 : Int32) (S : Mm), At X E false (mQi X Z1 E) 74 [some (.ref 239), some (.int x1), some (.int x2)] [] Z1 S 0 0 (k74 x1 x2 S)) (x1 x2 : Int32) (S : Mm) : At X E false (mQi X Z1 E) 74 [some (.ref 239), some (.int x1), some (.int x2)] [] Z1 S 0 0 (f_X11_image_74b k74 x1 x2 S) := by
  have F := M0.1
  unfold f_X11_image_74b
  refine a_iload_n F dX11_image_74 rfl rfl ?_
  refine a_sipush F dX11_image_75 ks_1000 ?_
  refine a_icmp_ge F 103 dX11_image_78 (by decide) ?_ ?_
  · refine a_aload_n F dX11_image_103 rfl rfl ?_
    refine a_callVV F (As := []) cfX11 rfl (c_X11_keepsLaw X S) mw_X11_keepsLaw ml_X11_459 im_X11_keepsLaw se_X11_keepsLaw M0.2.1 (Nat.le_of_ble_eq_true rfl) ⟨Nat.zero_le _, Nat.zero_le _⟩ rfl rfl (Nat.le_of_ble_eq_true rfl) zl_239 zk_239 dX11_image_104 rfl (fun S_1 => ?_)
    refine a_aload_n F dX11_image_107 rfl rfl ?_
    refine a_callVV F (As := []) cfX11 rfl (c_X11_findsKin X S_1) mw_X11_findsKin ml_X11_113 im_X11_findsKin se_X11_findsKin M0.2.1 (Nat.le_of_ble_eq_true rfl) ⟨Nat.zero_le _, Nat.zero_le _⟩ rfl rfl (Nat.le_of_ble_eq_true rfl) zl_239 zk_239 dX11_image_108 rfl (fun S_2 => ?_)
    refine a_iload_n F dX11_image_111 rfl rfl ?_
    refine a_if_ne F 120 dX11_image_112 (by decide) ?_ ?_
    · refine a_aload_n F dX11_image_115 rfl rfl ?_
      refine a_iconst F dX11_image_116 ki_0 ?_
      refine a_putI (k := 3) F cfX11 dX11_image_117 fl_X11_110 (by decide) fi_11_3 rfl rfl zl_239 zk_239 ?_
      refine a_nmS (fun S_3 => ?_)
      refine a_iconst F dX11_image_120 ki_1 ?_
      exact a_zretK F M0.2.2.1 M0.2.2.2 dX11_image_121 (Or.inr rfl)
    · refine a_iconst F dX11_image_120 ki_1 ?_
      exact a_zretK F M0.2.2.1 M0.2.2.2 dX11_image_121 (Or.inr rfl)
  · refine a_aload_n F dX11_image_81 rfl rfl ?_
    refine a_getR (k := 13) F cfX11 dX11_image_82 fl_X11_34 (by decide) fi_11_13 zl_239 zk_239 zr_239_13 ?_
    refine a_iload_n F dX11_image_85 rfl rfl ?_
    refine a_aload_n F dX11_image_86 rfl rfl ?_
    refine a_aload_n F dX11_image_87 rfl rfl ?_
    refine a_getR (k := 13) F cfX11 dX11_image_88 fl_X11_34 (by decide) fi_11_13 zl_239 zk_239 zr_239_13 ?_
    refine a_iload_n F dX11_image_91 rfl rfl ?_
    refine a_gd (a_iald F dX11_image_92 zl_248 zk_248 ?_)
    refine a_callVI F (As := [.int (S 248 (ix x2))]) cfX11 rfl (c_X11_kept X (S 248 (ix x2)) S) mw_X11_kept ml_X11_447 im_X11_kept se_X11_kept M0.2.1 (Nat.le_of_ble_eq_true rfl) ⟨Nat.zero_le _, Nat.zero_le _⟩ rfl rfl (Nat.le_of_ble_eq_true rfl) zl_239 zk_239 dX11_image_93 rfl (fun q_4 => ?_)
    refine a_gd (a_iast F dX11_image_96 zl_248 zk_248 ?_)
    refine a_nmS (fun S_5 => ?_)
    refine a_iincN (L' := fun x2_6 => [some (.ref 239), some (.int x1), some (.int x2_6)]) F dX11_image_97 rfl ki_1 (lt_b rfl) (fun _ => rfl) (fun x2_6 => ?_)
    refine a_goto F 74 dX11_image_100 (by decide) ?_
    exact hk74 x1 x2_6 S_5
def f_X11_image_74 : Nat → Int32 → Int32 → Mm → Option (Int32 × Mm) :=
  itr (fun _ _ _ => none) (fun k => f_X11_image_74b k)
theorem b_X11_image_74 {X : CX} {E : FE} (M0 : MF X E RX11 cX11_image 3 3 (some .boolean)) : ∀ (n : Nat) (x1 x2 : Int32) (S : Mm), At X E false (mQi X Z1 E) 74 [some (.ref 239), some (.int x1), some (.int x2)] [] Z1 S 0 0 (f_X11_image_74  n x1 x2 S) := by
  intro n
  induction n with
  | zero => intros; exact a_none
  | succ n ih => intro x1 x2 S; exact b_X11_image_74b M0 ih x1 x2 S
def f_X11_image_35b (k35 : Int32 → Int32 → Mm → Option (Int32 × Mm)) (x1 x2 : Int32) (S : Mm) : Option (Int32 × Mm) :=
  if (148 : Int32) ≤ x2 then (
   (f_X11_keepsPeople S).bind fun S_1 =>
   (f_X11_keepsDeeds S_1).bind fun S_2 =>
   f_X11_image_74 FU x1 (0 : Int32) S_2
  ) else (
   gd (inB x2 148 = true) <|
   (f_X11_kept (S 240 (ix x2)) S).bind fun q_3 =>
   gd (inB x2 148 = true) <|
   nm (uM q_3.2 240 (ix x2) q_3.1) fun S_4 =>
   nm (x2 + (1 : Int32)) fun x2_5 =>
   k35 x1 x2_5 S_4
  )
set_option maxRecDepth 20000 in
theorem b_X11_image_35b {X : CX} {E : FE} (M0 : MF X E RX11 cX11_image 3 3 (some .boolean)) {k35 : Int32 → Int32 → Mm → Option (Int32 × Mm)} (hk35 : ∀ (x1 x2 : Int32) (S : Mm), At X E false (mQi X Z1 E) 35 [some (.ref 239), some (.int x1), some (.int x2)] [] Z1 S 0 0 (k35 x1 x2 S)) (x1 x2 : Int32) (S : Mm) : At X E false (mQi X Z1 E) 35 [some (.ref 239), some (.int x1), some (.int x2)] [] Z1 S 0 0 (f_X11_image_35b k35 x1 x2 S) := by
  have F := M0.1
  unfold f_X11_image_35b
  refine a_iload_n F dX11_image_35 rfl rfl ?_
  refine a_sipush F dX11_image_36 ks_148 ?_
  refine a_icmp_ge F 64 dX11_image_39 (by decide) ?_ ?_
  · refine a_aload_n F dX11_image_64 rfl rfl ?_
    refine a_callVV F (As := []) cfX11 rfl (c_X11_keepsPeople X S) mw_X11_keepsPeople ml_X11_453 im_X11_keepsPeople se_X11_keepsPeople M0.2.1 (Nat.le_of_ble_eq_true rfl) ⟨Nat.zero_le _, Nat.zero_le _⟩ rfl rfl (Nat.le_of_ble_eq_true rfl) zl_239 zk_239 dX11_image_65 rfl (fun S_1 => ?_)
    refine a_aload_n F dX11_image_68 rfl rfl ?_
    refine a_callVV F (As := []) cfX11 rfl (c_X11_keepsDeeds X S_1) mw_X11_keepsDeeds ml_X11_456 im_X11_keepsDeeds se_X11_keepsDeeds M0.2.1 (Nat.le_of_ble_eq_true rfl) ⟨Nat.zero_le _, Nat.zero_le _⟩ rfl rfl (Nat.le_of_ble_eq_true rfl) zl_239 zk_239 dX11_image_69 rfl (fun S_2 => ?_)
    refine a_iconst F dX11_image_72 ki_0 ?_
    refine a_istore_n (L' := [some (.ref 239), some (.int x1), some (.int (0 : Int32))]) F dX11_image_73 rfl (lt_b rfl) rfl ?_
    exact b_X11_image_74 M0 FU x1 (0 : Int32) S_2
  · refine a_aload_n F dX11_image_42 rfl rfl ?_
    refine a_getR (k := 1) F cfX11 dX11_image_43 fl_X11_7 (by decide) fi_11_1 zl_239 zk_239 zr_239_1 ?_
    refine a_iload_n F dX11_image_46 rfl rfl ?_
    refine a_aload_n F dX11_image_47 rfl rfl ?_
    refine a_aload_n F dX11_image_48 rfl rfl ?_
    refine a_getR (k := 1) F cfX11 dX11_image_49 fl_X11_7 (by decide) fi_11_1 zl_239 zk_239 zr_239_1 ?_
    refine a_iload_n F dX11_image_52 rfl rfl ?_
    refine a_gd (a_iald F dX11_image_53 zl_240 zk_240 ?_)
    refine a_callVI F (As := [.int (S 240 (ix x2))]) cfX11 rfl (c_X11_kept X (S 240 (ix x2)) S) mw_X11_kept ml_X11_447 im_X11_kept se_X11_kept M0.2.1 (Nat.le_of_ble_eq_true rfl) ⟨Nat.zero_le _, Nat.zero_le _⟩ rfl rfl (Nat.le_of_ble_eq_true rfl) zl_239 zk_239 dX11_image_54 rfl (fun q_3 => ?_)
    refine a_gd (a_iast F dX11_image_57 zl_240 zk_240 ?_)
    refine a_nmS (fun S_4 => ?_)
    refine a_iincN (L' := fun x2_5 => [some (.ref 239), some (.int x1), some (.int x2_5)]) F dX11_image_58 rfl ki_1 (lt_b rfl) (fun _ => rfl) (fun x2_5 => ?_)
    refine a_goto F 35 dX11_image_61 (by decide) ?_
    exact hk35 x1 x2_5 S_4
def f_X11_image_35 : Nat → Int32 → Int32 → Mm → Option (Int32 × Mm) :=
  itr (fun _ _ _ => none) (fun k => f_X11_image_35b k)
theorem b_X11_image_35 {X : CX} {E : FE} (M0 : MF X E RX11 cX11_image 3 3 (some .boolean)) : ∀ (n : Nat) (x1 x2 : Int32) (S : Mm), At X E false (mQi X Z1 E) 35 [some (.ref 239), some (.int x1), some (.int x2)] [] Z1 S 0 0 (f_X11_image_35  n x1 x2 S) := by
  intro n
  induction n with
  | zero => intros; exact a_none
  | succ n ih => intro x1 x2 S; exact b_X11_image_35b M0 ih x1 x2 S
def f_X11_image_18 (x1 : Int32) (S : Mm) : Option (Int32 × Mm) :=
  gd (x1 = 0 ∨ x1 = 1) <|
  nm (uM S 239 50 x1) fun S_1 =>
  nm (uM S_1 239 51 (1 : Int32)) fun S_2 =>
  nm (uM S_2 239 52 (0 : Int32)) fun S_3 =>
  f_X11_image_35 FU x1 (0 : Int32) S_3
set_option maxRecDepth 20000 in
theorem b_X11_image_18 {X : CX} {E : FE} (M0 : MF X E RX11 cX11_image 3 3 (some .boolean)) (x1 : Int32) (S : Mm) : At X E false (mQi X Z1 E) 18 [some (.ref 239), some (.int x1), none] [] Z1 S 0 0 (f_X11_image_18 x1 S) := by
  have F := M0.1
  unfold f_X11_image_18
  refine a_aload_n F dX11_image_18 rfl rfl ?_
  refine a_iload_n F dX11_image_19 rfl rfl ?_
  refine a_gd (a_putZ (k := 50) F cfX11 dX11_image_20 fl_X11_444 (by decide) fi_11_50 rfl rfl zl_239 zk_239 ?_)
  refine a_nmS (fun S_1 => ?_)
  refine a_aload_n F dX11_image_23 rfl rfl ?_
  refine a_iconst F dX11_image_24 ki_1 ?_
  refine a_putZK (k := 51) F cfX11 dX11_image_25 fl_X11_450 (by decide) fi_11_51 rfl rfl zl_239 zk_239 (Or.inr rfl) ?_
  refine a_nmS (fun S_2 => ?_)
  refine a_aload_n F dX11_image_28 rfl rfl ?_
  refine a_iconst F dX11_image_29 ki_0 ?_
  refine a_putI (k := 52) F cfX11 dX11_image_30 fl_X11_441 (by decide) fi_11_52 rfl rfl zl_239 zk_239 ?_
  refine a_nmS (fun S_3 => ?_)
  refine a_iconst F dX11_image_33 ki_0 ?_
  refine a_istore_n (L' := [some (.ref 239), some (.int x1), some (.int (0 : Int32))]) F dX11_image_34 rfl (lt_b rfl) rfl ?_
  exact b_X11_image_35 M0 FU x1 (0 : Int32) S_3
def f_X11_image (p1 : Int32) (S : Mm) : Option (Int32 × Mm) :=
  nm (uM S 239 0 (0 : Int32)) fun S_1 =>
  if p1 = 0 then (
   if (S_1 239 51) = 0 then (
    some ((0 : Int32), S_1)
   ) else (
    f_X11_image_18 p1 S_1
   )
  ) else (
   f_X11_image_18 p1 S_1
  )
set_option maxRecDepth 20000 in
theorem b_X11_image {X : CX} {E : FE} (M0 : MF X E RX11 cX11_image 3 3 (some .boolean)) (p1 : Int32) (S : Mm) : At X E false (mQi X Z1 E) 0 [some (.ref 239), some (.int p1), none] [] Z1 S 0 0 (f_X11_image p1 S) := by
  have F := M0.1
  unfold f_X11_image
  refine a_aload_n F dX11_image_0 rfl rfl ?_
  refine a_iconst F dX11_image_1 ki_0 ?_
  refine a_putI (k := 0) F cfX11 dX11_image_2 fl_X11_107 (by decide) fi_11_0 rfl rfl zl_239 zk_239 ?_
  refine a_nmS (fun S_1 => ?_)
  refine a_iload_n F dX11_image_5 rfl rfl ?_
  refine a_if_ne F 18 dX11_image_6 (by decide) ?_ ?_
  · refine a_aload_n F dX11_image_9 rfl rfl ?_
    refine a_getI (k := 51) F cfX11 dX11_image_10 fl_X11_450 (by decide) fi_11_51 zl_239 zk_239 ?_
    refine a_if_ne F 18 dX11_image_13 (by decide) ?_ ?_
    · refine a_iconst F dX11_image_16 ki_0 ?_
      exact a_zretK F M0.2.2.1 M0.2.2.2 dX11_image_17 (Or.inl rfl)
    · exact b_X11_image_18 M0 p1 S_1
  · exact b_X11_image_18 M0 p1 S_1
theorem c_X11_image (X : CX) (p1 : Int32) (S : Mm) : CtI X Z1 yX11_image cX11_image 3 (some .boolean) 3 [.ref 239, .int p1] S (f_X11_image p1 S) :=
  ctI_of (by decide +kernel) rfl (Nat.le_of_ble_eq_true rfl) (by simp [Value.category]) z1len fun E F R hra hlk => b_X11_image ⟨F, R, hra, hlk⟩ p1 S
def f_X11_inherit (p1 p2 p3 : Int32) (S : Mm) : Option (Int32 × Mm) :=
  nm (uM S 239 0 (0 : Int32)) fun S_1 =>
  (f_X11_isLiving p1 S_1).bind fun q_2 =>
  if q_2.1 = 0 then (
   some ((-2 : Int32), q_2.2)
  ) else (
   (f_X11_isLetter28 p2 q_2.2).bind fun q_3 =>
   if q_3.1 = 0 then (
    some ((-2 : Int32), q_3.2)
   ) else (
    (f_X11_ownerOf p2 q_3.2).bind fun q_4 =>
    if q_4.1 = p1 then (
     (f_X11_isIn p3 (0 : Int32) (1 : Int32) q_4.2).bind fun q_5 =>
     if q_5.1 = 0 then (
      some ((-2 : Int32), q_5.2)
     ) else (
      (f_X11_thinks q_5.2).bind fun S_6 =>
      nm (uM S_6 239 47 p2) fun S_7 =>
      nm (uM S_7 239 48 (0 : Int32)) fun S_8 =>
      (f_X11_isDead p1 S_8).bind fun S_9 =>
      nm (uM S_9 239 47 (-1 : Int32)) fun S_10 =>
      (f_X11_ownerOf p2 S_10).bind fun q_11 =>
      (f_X11_endsThought q_11.2).bind fun S_12 =>
      if p3 = 0 then (
       some (q_11.1, S_12)
      ) else (
       if (S_12 239 48) = 0 then (
        some ((0 : Int32), S_12)
       ) else (
        some ((1 : Int32), S_12)
       )
      )
     )
    ) else (
     some ((-2 : Int32), q_4.2)
    )
   )
  )
set_option maxRecDepth 20000 in
theorem b_X11_inherit {X : CX} {E : FE} (M0 : MF X E RX11 cX11_inherit 5 7 (some .int)) (p1 p2 p3 : Int32) (S : Mm) : At X E false (mQi X Z1 E) 0 [some (.ref 239), some (.int p1), some (.int p2), some (.int p3), none] [] Z1 S 0 0 (f_X11_inherit p1 p2 p3 S) := by
  have F := M0.1
  unfold f_X11_inherit
  refine a_aload_n F dX11_inherit_0 rfl rfl ?_
  refine a_iconst F dX11_inherit_1 ki_0 ?_
  refine a_putI (k := 0) F cfX11 dX11_inherit_2 fl_X11_107 (by decide) fi_11_0 rfl rfl zl_239 zk_239 ?_
  refine a_nmS (fun S_1 => ?_)
  refine a_aload_n F dX11_inherit_5 rfl rfl ?_
  refine a_iload_n F dX11_inherit_6 rfl rfl ?_
  refine a_callVI F (As := [.int p1]) cfX11 rfl (c_X11_isLiving X p1 S_1) mw_X11_isLiving ml_X11_151 im_X11_isLiving se_X11_isLiving M0.2.1 (Nat.le_of_ble_eq_true rfl) ⟨Nat.zero_le _, Nat.zero_le _⟩ rfl rfl (Nat.le_of_ble_eq_true rfl) zl_239 zk_239 dX11_inherit_7 rfl (fun q_2 => ?_)
  refine a_if_eq F 40 dX11_inherit_10 (by decide) ?_ ?_
  · refine a_bipush F dX11_inherit_40 kb_m2 ?_
    exact a_iret F M0.2.2.1 M0.2.2.2 dX11_inherit_42
  · refine a_aload_n F dX11_inherit_13 rfl rfl ?_
    refine a_iload_n F dX11_inherit_14 rfl rfl ?_
    refine a_callVI F (As := [.int p2]) cfX11 rfl (c_X11_isLetter28 X p2 q_2.2) mw_X11_isLetter28 ml_X11_163 im_X11_isLetter28 se_X11_isLetter28 M0.2.1 (Nat.le_of_ble_eq_true rfl) ⟨Nat.zero_le _, Nat.zero_le _⟩ rfl rfl (Nat.le_of_ble_eq_true rfl) zl_239 zk_239 dX11_inherit_15 rfl (fun q_3 => ?_)
    refine a_if_eq F 40 dX11_inherit_18 (by decide) ?_ ?_
    · refine a_bipush F dX11_inherit_40 kb_m2 ?_
      exact a_iret F M0.2.2.1 M0.2.2.2 dX11_inherit_42
    · refine a_aload_n F dX11_inherit_21 rfl rfl ?_
      refine a_iload_n F dX11_inherit_22 rfl rfl ?_
      refine a_callVI F (As := [.int p2]) cfX11 rfl (c_X11_ownerOf X p2 q_3.2) mw_X11_ownerOf ml_X11_160 im_X11_ownerOf se_X11_ownerOf M0.2.1 (Nat.le_of_ble_eq_true rfl) ⟨Nat.zero_le _, Nat.zero_le _⟩ rfl rfl (Nat.le_of_ble_eq_true rfl) zl_239 zk_239 dX11_inherit_23 rfl (fun q_4 => ?_)
      refine a_iload_n F dX11_inherit_26 rfl rfl ?_
      refine a_icmp_ne F 40 dX11_inherit_27 (by decide) ?_ ?_
      · refine a_aload_n F dX11_inherit_30 rfl rfl ?_
        refine a_iload_n F dX11_inherit_31 rfl rfl ?_
        refine a_iconst F dX11_inherit_32 ki_0 ?_
        refine a_iconst F dX11_inherit_33 ki_1 ?_
        refine a_callVI F (As := [.int p3, .int (0 : Int32), .int (1 : Int32)]) cfX11 rfl (c_X11_isIn X p3 (0 : Int32) (1 : Int32) q_4.2) mw_X11_isIn ml_X11_147 im_X11_isIn se_X11_isIn M0.2.1 (Nat.le_of_ble_eq_true rfl) ⟨Nat.zero_le _, Nat.zero_le _⟩ rfl rfl (Nat.le_of_ble_eq_true rfl) zl_239 zk_239 dX11_inherit_34 rfl (fun q_5 => ?_)
        refine a_if_ne F 43 dX11_inherit_37 (by decide) ?_ ?_
        · refine a_bipush F dX11_inherit_40 kb_m2 ?_
          exact a_iret F M0.2.2.1 M0.2.2.2 dX11_inherit_42
        · refine a_aload_n F dX11_inherit_43 rfl rfl ?_
          refine a_callVV F (As := []) cfX11 rfl (c_X11_thinks X q_5.2) mw_X11_thinks ml_X11_429 im_X11_thinks se_X11_thinks M0.2.1 (Nat.le_of_ble_eq_true rfl) ⟨Nat.zero_le _, Nat.zero_le _⟩ rfl rfl (Nat.le_of_ble_eq_true rfl) zl_239 zk_239 dX11_inherit_44 rfl (fun S_6 => ?_)
          refine a_aload_n F dX11_inherit_47 rfl rfl ?_
          refine a_iload_n F dX11_inherit_48 rfl rfl ?_
          refine a_putI (k := 47) F cfX11 dX11_inherit_49 fl_X11_98 (by decide) fi_11_47 rfl rfl zl_239 zk_239 ?_
          refine a_nmS (fun S_7 => ?_)
          refine a_aload_n F dX11_inherit_52 rfl rfl ?_
          refine a_iconst F dX11_inherit_53 ki_0 ?_
          refine a_putZK (k := 48) F cfX11 dX11_inherit_54 fl_X11_345 (by decide) fi_11_48 rfl rfl zl_239 zk_239 (Or.inl rfl) ?_
          refine a_nmS (fun S_8 => ?_)
          refine a_aload_n F dX11_inherit_57 rfl rfl ?_
          refine a_iload_n F dX11_inherit_58 rfl rfl ?_
          refine a_callVV F (As := [.int p1]) cfX11 rfl (c_X11_isDead X p1 S_8) mw_X11_isDead ml_X11_387 im_X11_isDead se_X11_isDead M0.2.1 (Nat.le_of_ble_eq_true rfl) ⟨Nat.zero_le _, Nat.zero_le _⟩ rfl rfl (Nat.le_of_ble_eq_true rfl) zl_239 zk_239 dX11_inherit_59 rfl (fun S_9 => ?_)
          refine a_aload_n F dX11_inherit_62 rfl rfl ?_
          refine a_iconst F dX11_inherit_63 ki_m1 ?_
          refine a_putI (k := 47) F cfX11 dX11_inherit_64 fl_X11_98 (by decide) fi_11_47 rfl rfl zl_239 zk_239 ?_
          refine a_nmS (fun S_10 => ?_)
          refine a_aload_n F dX11_inherit_67 rfl rfl ?_
          refine a_iload_n F dX11_inherit_68 rfl rfl ?_
          refine a_callVI F (As := [.int p2]) cfX11 rfl (c_X11_ownerOf X p2 S_10) mw_X11_ownerOf ml_X11_160 im_X11_ownerOf se_X11_ownerOf M0.2.1 (Nat.le_of_ble_eq_true rfl) ⟨Nat.zero_le _, Nat.zero_le _⟩ rfl rfl (Nat.le_of_ble_eq_true rfl) zl_239 zk_239 dX11_inherit_69 rfl (fun q_11 => ?_)
          refine a_istore (L' := [some (.ref 239), some (.int p1), some (.int p2), some (.int p3), some (.int q_11.1)]) F dX11_inherit_72 (lt_b rfl) rfl ?_
          refine a_aload_n F dX11_inherit_74 rfl rfl ?_
          refine a_callVV F (As := []) cfX11 rfl (c_X11_endsThought X q_11.2) mw_X11_endsThought ml_X11_432 im_X11_endsThought se_X11_endsThought M0.2.1 (Nat.le_of_ble_eq_true rfl) ⟨Nat.zero_le _, Nat.zero_le _⟩ rfl rfl (Nat.le_of_ble_eq_true rfl) zl_239 zk_239 dX11_inherit_75 rfl (fun S_12 => ?_)
          refine a_iload_n F dX11_inherit_78 rfl rfl ?_
          refine a_if_ne F 87 dX11_inherit_79 (by decide) ?_ ?_
          · refine a_iload F dX11_inherit_82 rfl ?_
            refine a_goto F 99 dX11_inherit_84 (by decide) ?_
            exact a_iret F M0.2.2.1 M0.2.2.2 dX11_inherit_99
          · refine a_aload_n F dX11_inherit_87 rfl rfl ?_
            refine a_getI (k := 48) F cfX11 dX11_inherit_88 fl_X11_345 (by decide) fi_11_48 zl_239 zk_239 ?_
            refine a_if_eq F 98 dX11_inherit_91 (by decide) ?_ ?_
            · refine a_iconst F dX11_inherit_98 ki_0 ?_
              exact a_iret F M0.2.2.1 M0.2.2.2 dX11_inherit_99
            · refine a_iconst F dX11_inherit_94 ki_1 ?_
              refine a_goto F 99 dX11_inherit_95 (by decide) ?_
              exact a_iret F M0.2.2.1 M0.2.2.2 dX11_inherit_99
      · refine a_bipush F dX11_inherit_40 kb_m2 ?_
        exact a_iret F M0.2.2.1 M0.2.2.2 dX11_inherit_42
theorem c_X11_inherit (X : CX) (p1 p2 p3 : Int32) (S : Mm) : CtI X Z1 yX11_inherit cX11_inherit 5 (some .int) 7 [.ref 239, .int p1, .int p2, .int p3] S (f_X11_inherit p1 p2 p3 S) :=
  ctI_of (by decide +kernel) rfl (Nat.le_of_ble_eq_true rfl) (by simp [Value.category]) z1len fun E F R hra hlk => b_X11_inherit ⟨F, R, hra, hlk⟩ p1 p2 p3 S
def f_X11_kin_35 (S : Mm) : Option (Int32 × Mm) :=
  some ((-1 : Int32), S)
set_option maxRecDepth 20000 in
theorem b_X11_kin_35 {X : CX} {E : FE} (M0 : MF X E RX11 cX11_kin 3 2 (some .int)) (S : Mm) : At X E false (mQi X Z1 E) 35 [none, none, none] [] Z1 S 0 0 (f_X11_kin_35 S) := by
  have F := M0.1
  unfold f_X11_kin_35
  refine a_iconst F dX11_kin_35 ki_m1 ?_
  exact a_iret F M0.2.2.1 M0.2.2.2 dX11_kin_36
def f_X11_kin (p1 p2 : Int32) (S : Mm) : Option (Int32 × Mm) :=
  nm (uM S 239 0 (0 : Int32)) fun S_1 =>
  (f_X11_isPerson p1 S_1).bind fun q_2 =>
  if q_2.1 = 0 then (
   f_X11_kin_35 q_2.2
  ) else (
   (f_X11_isPerson p2 q_2.2).bind fun q_3 =>
   if q_3.1 = 0 then (
    f_X11_kin_35 q_3.2
   ) else (
    gd (inB (((12 : Int32) * p1) + p2) 144 = true) <|
    some ((q_3.2 249 (ix (((12 : Int32) * p1) + p2))), q_3.2)
   )
  )
set_option maxRecDepth 20000 in
theorem b_X11_kin {X : CX} {E : FE} (M0 : MF X E RX11 cX11_kin 3 2 (some .int)) (p1 p2 : Int32) (S : Mm) : At X E false (mQi X Z1 E) 0 [some (.ref 239), some (.int p1), some (.int p2)] [] Z1 S 0 0 (f_X11_kin p1 p2 S) := by
  have F := M0.1
  unfold f_X11_kin
  refine a_aload_n F dX11_kin_0 rfl rfl ?_
  refine a_iconst F dX11_kin_1 ki_0 ?_
  refine a_putI (k := 0) F cfX11 dX11_kin_2 fl_X11_107 (by decide) fi_11_0 rfl rfl zl_239 zk_239 ?_
  refine a_nmS (fun S_1 => ?_)
  refine a_aload_n F dX11_kin_5 rfl rfl ?_
  refine a_iload_n F dX11_kin_6 rfl rfl ?_
  refine a_callVI F (As := [.int p1]) cfX11 rfl (c_X11_isPerson X p1 S_1) mw_X11_isPerson ml_X11_128 im_X11_isPerson se_X11_isPerson M0.2.1 (Nat.le_of_ble_eq_true rfl) ⟨Nat.zero_le _, Nat.zero_le _⟩ rfl rfl (Nat.le_of_ble_eq_true rfl) zl_239 zk_239 dX11_kin_7 rfl (fun q_2 => ?_)
  refine a_if_eq F 35 dX11_kin_10 (by decide) ?_ ?_
  · refine a_mask [false, false, false] (L' := [none, none, none]) rfl rfl ?_
    exact b_X11_kin_35 M0 q_2.2
  · refine a_aload_n F dX11_kin_13 rfl rfl ?_
    refine a_iload_n F dX11_kin_14 rfl rfl ?_
    refine a_callVI F (As := [.int p2]) cfX11 rfl (c_X11_isPerson X p2 q_2.2) mw_X11_isPerson ml_X11_128 im_X11_isPerson se_X11_isPerson M0.2.1 (Nat.le_of_ble_eq_true rfl) ⟨Nat.zero_le _, Nat.zero_le _⟩ rfl rfl (Nat.le_of_ble_eq_true rfl) zl_239 zk_239 dX11_kin_15 rfl (fun q_3 => ?_)
    refine a_if_eq F 35 dX11_kin_18 (by decide) ?_ ?_
    · refine a_mask [false, false, false] (L' := [none, none, none]) rfl rfl ?_
      exact b_X11_kin_35 M0 q_3.2
    · refine a_aload_n F dX11_kin_21 rfl rfl ?_
      refine a_getR (k := 14) F cfX11 dX11_kin_22 fl_X11_37 (by decide) fi_11_14 zl_239 zk_239 zr_239_14 ?_
      refine a_bipush F dX11_kin_25 kb_12 ?_
      refine a_iload_n F dX11_kin_27 rfl rfl ?_
      refine a_imul F dX11_kin_28 ?_
      refine a_iload_n F dX11_kin_29 rfl rfl ?_
      refine a_iadd F dX11_kin_30 ?_
      refine a_gd (a_iald F dX11_kin_31 zl_249 zk_249 ?_)
      refine a_goto F 36 dX11_kin_32 (by decide) ?_
      exact a_iret F M0.2.2.1 M0.2.2.2 dX11_kin_36
theorem c_X11_kin (X : CX) (p1 p2 : Int32) (S : Mm) : CtI X Z1 yX11_kin cX11_kin 3 (some .int) 2 [.ref 239, .int p1, .int p2] S (f_X11_kin p1 p2 S) :=
  ctI_of (by decide +kernel) rfl (Nat.le_of_ble_eq_true rfl) (by simp [Value.category]) z1len fun E F R hra hlk => b_X11_kin ⟨F, R, hra, hlk⟩ p1 p2 S
def f_X11_lend (p1 p2 p3 p4 : Int32) (S : Mm) : Option (Int32 × Mm) :=
  nm (uM S 239 0 (0 : Int32)) fun S_1 =>
  (f_X11_canGo p1 p2 S_1).bind fun q_2 =>
  if q_2.1 = 0 then (
   some ((0 : Int32), q_2.2)
  ) else (
   (f_X11_isIn p3 (1 : Int32) (99 : Int32) q_2.2).bind fun q_3 =>
   if q_3.1 = 0 then (
    some ((0 : Int32), q_3.2)
   ) else (
    gd (inB ((100 : Int32) + p2) 148 = true) <|
    (f_X11_isIn p4 (0 : Int32) (q_3.2 240 (ix ((100 : Int32) + p2))) q_3.2).bind fun q_4 =>
    if q_4.1 = 0 then (
     some ((0 : Int32), q_4.2)
    ) else (
     (f_X11_ownerOf p1 q_4.2).bind fun q_5 =>
     gd (inB ((100 : Int32) + q_5.1) 148 = true) <|
     if ((q_5.2 240 (ix ((100 : Int32) + q_5.1))) + p4) ≤ (99999 : Int32) then (
      (f_X11_keepsAhead q_5.2).bind fun S_6 =>
      gd (inB ((100 : Int32) + p2) 148 = true) <|
      gd (inB ((100 : Int32) + p2) 148 = true) <|
      nm (uM S_6 240 (ix ((100 : Int32) + p2)) ((S_6 240 (ix ((100 : Int32) + p2))) - p4)) fun S_7 =>
      gd (inB ((100 : Int32) + q_5.1) 148 = true) <|
      gd (inB ((100 : Int32) + q_5.1) 148 = true) <|
      nm (uM S_7 240 (ix ((100 : Int32) + q_5.1)) ((S_7 240 (ix ((100 : Int32) + q_5.1))) + p4)) fun S_8 =>
      gd (inB ((32 : Int32) + p1) 148 = true) <|
      nm (uM S_8 240 (ix ((32 : Int32) + p1)) (p2 + (1 : Int32))) fun S_9 =>
      gd (inB ((60 : Int32) + p1) 148 = true) <|
      nm (uM S_9 240 (ix ((60 : Int32) + p1)) ((S_9 240 0) + p3)) fun S_10 =>
      some ((1 : Int32), S_10)
     ) else (
      some ((0 : Int32), q_5.2)
     )
    )
   )
  )
set_option maxRecDepth 20000 in
theorem b_X11_lend {X : CX} {E : FE} (M0 : MF X E RX11 cX11_lend 6 4 (some .boolean)) (p1 p2 p3 p4 : Int32) (S : Mm) : At X E false (mQi X Z1 E) 0 [some (.ref 239), some (.int p1), some (.int p2), some (.int p3), some (.int p4), none] [] Z1 S 0 0 (f_X11_lend p1 p2 p3 p4 S) := by
  have F := M0.1
  unfold f_X11_lend
  refine a_aload_n F dX11_lend_0 rfl rfl ?_
  refine a_iconst F dX11_lend_1 ki_0 ?_
  refine a_putI (k := 0) F cfX11 dX11_lend_2 fl_X11_107 (by decide) fi_11_0 rfl rfl zl_239 zk_239 ?_
  refine a_nmS (fun S_1 => ?_)
  refine a_aload_n F dX11_lend_5 rfl rfl ?_
  refine a_iload_n F dX11_lend_6 rfl rfl ?_
  refine a_iload_n F dX11_lend_7 rfl rfl ?_
  refine a_callVI F (As := [.int p1, .int p2]) cfX11 rfl (c_X11_canGo X p1 p2 S_1) mw_X11_canGo ml_X11_363 im_X11_canGo se_X11_canGo M0.2.1 (Nat.le_of_ble_eq_true rfl) ⟨Nat.zero_le _, Nat.zero_le _⟩ rfl rfl (Nat.le_of_ble_eq_true rfl) zl_239 zk_239 dX11_lend_8 rfl (fun q_2 => ?_)
  refine a_if_eq F 44 dX11_lend_11 (by decide) ?_ ?_
  · refine a_iconst F dX11_lend_44 ki_0 ?_
    exact a_zretK F M0.2.2.1 M0.2.2.2 dX11_lend_45 (Or.inl rfl)
  · refine a_aload_n F dX11_lend_14 rfl rfl ?_
    refine a_iload_n F dX11_lend_15 rfl rfl ?_
    refine a_iconst F dX11_lend_16 ki_1 ?_
    refine a_bipush F dX11_lend_17 kb_99 ?_
    refine a_callVI F (As := [.int p3, .int (1 : Int32), .int (99 : Int32)]) cfX11 rfl (c_X11_isIn X p3 (1 : Int32) (99 : Int32) q_2.2) mw_X11_isIn ml_X11_147 im_X11_isIn se_X11_isIn M0.2.1 (Nat.le_of_ble_eq_true rfl) ⟨Nat.zero_le _, Nat.zero_le _⟩ rfl rfl (Nat.le_of_ble_eq_true rfl) zl_239 zk_239 dX11_lend_19 rfl (fun q_3 => ?_)
    refine a_if_eq F 44 dX11_lend_22 (by decide) ?_ ?_
    · refine a_iconst F dX11_lend_44 ki_0 ?_
      exact a_zretK F M0.2.2.1 M0.2.2.2 dX11_lend_45 (Or.inl rfl)
    · refine a_aload_n F dX11_lend_25 rfl rfl ?_
      refine a_iload F dX11_lend_26 rfl ?_
      refine a_iconst F dX11_lend_28 ki_0 ?_
      refine a_aload_n F dX11_lend_29 rfl rfl ?_
      refine a_getR (k := 1) F cfX11 dX11_lend_30 fl_X11_7 (by decide) fi_11_1 zl_239 zk_239 zr_239_1 ?_
      refine a_bipush F dX11_lend_33 kb_100 ?_
      refine a_iload_n F dX11_lend_35 rfl rfl ?_
      refine a_iadd F dX11_lend_36 ?_
      refine a_gd (a_iald F dX11_lend_37 zl_240 zk_240 ?_)
      refine a_callVI F (As := [.int p4, .int (0 : Int32), .int (q_3.2 240 (ix ((100 : Int32) + p2)))]) cfX11 rfl (c_X11_isIn X p4 (0 : Int32) (q_3.2 240 (ix ((100 : Int32) + p2))) q_3.2) mw_X11_isIn ml_X11_147 im_X11_isIn se_X11_isIn M0.2.1 (Nat.le_of_ble_eq_true rfl) ⟨Nat.zero_le _, Nat.zero_le _⟩ rfl rfl (Nat.le_of_ble_eq_true rfl) zl_239 zk_239 dX11_lend_38 rfl (fun q_4 => ?_)
      refine a_if_ne F 46 dX11_lend_41 (by decide) ?_ ?_
      · refine a_iconst F dX11_lend_44 ki_0 ?_
        exact a_zretK F M0.2.2.1 M0.2.2.2 dX11_lend_45 (Or.inl rfl)
      · refine a_aload_n F dX11_lend_46 rfl rfl ?_
        refine a_iload_n F dX11_lend_47 rfl rfl ?_
        refine a_callVI F (As := [.int p1]) cfX11 rfl (c_X11_ownerOf X p1 q_4.2) mw_X11_ownerOf ml_X11_160 im_X11_ownerOf se_X11_ownerOf M0.2.1 (Nat.le_of_ble_eq_true rfl) ⟨Nat.zero_le _, Nat.zero_le _⟩ rfl rfl (Nat.le_of_ble_eq_true rfl) zl_239 zk_239 dX11_lend_48 rfl (fun q_5 => ?_)
        refine a_istore (L' := [some (.ref 239), some (.int p1), some (.int p2), some (.int p3), some (.int p4), some (.int q_5.1)]) F dX11_lend_51 (lt_b rfl) rfl ?_
        refine a_aload_n F dX11_lend_53 rfl rfl ?_
        refine a_getR (k := 1) F cfX11 dX11_lend_54 fl_X11_7 (by decide) fi_11_1 zl_239 zk_239 zr_239_1 ?_
        refine a_bipush F dX11_lend_57 kb_100 ?_
        refine a_iload F dX11_lend_59 rfl ?_
        refine a_iadd F dX11_lend_61 ?_
        refine a_gd (a_iald F dX11_lend_62 zl_240 zk_240 ?_)
        refine a_iload F dX11_lend_63 rfl ?_
        refine a_iadd F dX11_lend_65 ?_
        refine a_ldc F dX11_lend_66 con_X11_146 ?_
        refine a_icmp_le F 73 dX11_lend_68 (by decide) ?_ ?_
        · refine a_aload_n F dX11_lend_73 rfl rfl ?_
          refine a_callVV F (As := []) cfX11 rfl (c_X11_keepsAhead X q_5.2) mw_X11_keepsAhead ml_X11_357 im_X11_keepsAhead se_X11_keepsAhead M0.2.1 (Nat.le_of_ble_eq_true rfl) ⟨Nat.zero_le _, Nat.zero_le _⟩ rfl rfl (Nat.le_of_ble_eq_true rfl) zl_239 zk_239 dX11_lend_74 rfl (fun S_6 => ?_)
          refine a_aload_n F dX11_lend_77 rfl rfl ?_
          refine a_getR (k := 1) F cfX11 dX11_lend_78 fl_X11_7 (by decide) fi_11_1 zl_239 zk_239 zr_239_1 ?_
          refine a_bipush F dX11_lend_81 kb_100 ?_
          refine a_iload_n F dX11_lend_83 rfl rfl ?_
          refine a_iadd F dX11_lend_84 ?_
          refine a_aload_n F dX11_lend_85 rfl rfl ?_
          refine a_getR (k := 1) F cfX11 dX11_lend_86 fl_X11_7 (by decide) fi_11_1 zl_239 zk_239 zr_239_1 ?_
          refine a_bipush F dX11_lend_89 kb_100 ?_
          refine a_iload_n F dX11_lend_91 rfl rfl ?_
          refine a_iadd F dX11_lend_92 ?_
          refine a_gd (a_iald F dX11_lend_93 zl_240 zk_240 ?_)
          refine a_iload F dX11_lend_94 rfl ?_
          refine a_isub F dX11_lend_96 ?_
          refine a_gd (a_iast F dX11_lend_97 zl_240 zk_240 ?_)
          refine a_nmS (fun S_7 => ?_)
          refine a_aload_n F dX11_lend_98 rfl rfl ?_
          refine a_getR (k := 1) F cfX11 dX11_lend_99 fl_X11_7 (by decide) fi_11_1 zl_239 zk_239 zr_239_1 ?_
          refine a_bipush F dX11_lend_102 kb_100 ?_
          refine a_iload F dX11_lend_104 rfl ?_
          refine a_iadd F dX11_lend_106 ?_
          refine a_aload_n F dX11_lend_107 rfl rfl ?_
          refine a_getR (k := 1) F cfX11 dX11_lend_108 fl_X11_7 (by decide) fi_11_1 zl_239 zk_239 zr_239_1 ?_
          refine a_bipush F dX11_lend_111 kb_100 ?_
          refine a_iload F dX11_lend_113 rfl ?_
          refine a_iadd F dX11_lend_115 ?_
          refine a_gd (a_iald F dX11_lend_116 zl_240 zk_240 ?_)
          refine a_iload F dX11_lend_117 rfl ?_
          refine a_iadd F dX11_lend_119 ?_
          refine a_gd (a_iast F dX11_lend_120 zl_240 zk_240 ?_)
          refine a_nmS (fun S_8 => ?_)
          refine a_aload_n F dX11_lend_121 rfl rfl ?_
          refine a_getR (k := 1) F cfX11 dX11_lend_122 fl_X11_7 (by decide) fi_11_1 zl_239 zk_239 zr_239_1 ?_
          refine a_bipush F dX11_lend_125 kb_32 ?_
          refine a_iload_n F dX11_lend_127 rfl rfl ?_
          refine a_iadd F dX11_lend_128 ?_
          refine a_iload_n F dX11_lend_129 rfl rfl ?_
          refine a_iconst F dX11_lend_130 ki_1 ?_
          refine a_iadd F dX11_lend_131 ?_
          refine a_gd (a_iast F dX11_lend_132 zl_240 zk_240 ?_)
          refine a_nmS (fun S_9 => ?_)
          refine a_aload_n F dX11_lend_133 rfl rfl ?_
          refine a_getR (k := 1) F cfX11 dX11_lend_134 fl_X11_7 (by decide) fi_11_1 zl_239 zk_239 zr_239_1 ?_
          refine a_bipush F dX11_lend_137 kb_60 ?_
          refine a_iload_n F dX11_lend_139 rfl rfl ?_
          refine a_iadd F dX11_lend_140 ?_
          refine a_aload_n F dX11_lend_141 rfl rfl ?_
          refine a_getR (k := 1) F cfX11 dX11_lend_142 fl_X11_7 (by decide) fi_11_1 zl_239 zk_239 zr_239_1 ?_
          refine a_iconst F dX11_lend_145 ki_0 ?_
          refine a_ialdK F 0 dX11_lend_146 zl_240 zk_240 ib_0_148 ix_0 ?_
          refine a_iload_n F dX11_lend_147 rfl rfl ?_
          refine a_iadd F dX11_lend_148 ?_
          refine a_gd (a_iast F dX11_lend_149 zl_240 zk_240 ?_)
          refine a_nmS (fun S_10 => ?_)
          refine a_iconst F dX11_lend_150 ki_1 ?_
          exact a_zretK F M0.2.2.1 M0.2.2.2 dX11_lend_151 (Or.inr rfl)
        · refine a_iconst F dX11_lend_71 ki_0 ?_
          exact a_zretK F M0.2.2.1 M0.2.2.2 dX11_lend_72 (Or.inl rfl)
theorem c_X11_lend (X : CX) (p1 p2 p3 p4 : Int32) (S : Mm) : CtI X Z1 yX11_lend cX11_lend 6 (some .boolean) 4 [.ref 239, .int p1, .int p2, .int p3, .int p4] S (f_X11_lend p1 p2 p3 p4 S) :=
  ctI_of (by decide +kernel) rfl (Nat.le_of_ble_eq_true rfl) (by simp [Value.category]) z1len fun E F R hra hlk => b_X11_lend ⟨F, R, hra, hlk⟩ p1 p2 p3 p4 S
def f_X11_writersOf_27 (k4 : Int32 → Int32 → Int32 → Mm → Option (Int32 × Mm)) (x1 x2 x3 : Int32) (S : Mm) : Option (Int32 × Mm) :=
  nm (x3 + (1 : Int32)) fun x3_1 =>
  k4 x1 x2 x3_1 S
set_option maxRecDepth 20000 in
theorem b_X11_writersOf_27 {X : CX} {E : FE} (M0 : MF X E RX11 cX11_writersOf 4 3 (some .int)) {k4 : Int32 → Int32 → Int32 → Mm → Option (Int32 × Mm)} (hk4 : ∀ (x1 x2 x3 : Int32) (S : Mm), At X E false (mQi X Z1 E) 4 [some (.ref 239), some (.int x1), some (.int x2), some (.int x3)] [] Z1 S 0 0 (k4 x1 x2 x3 S)) (x1 x2 x3 : Int32) (S : Mm) : At X E false (mQi X Z1 E) 27 [some (.ref 239), some (.int x1), some (.int x2), some (.int x3)] [] Z1 S 0 0 (f_X11_writersOf_27 k4 x1 x2 x3 S) := by
  have F := M0.1
  unfold f_X11_writersOf_27
  refine a_iincN (L' := fun x3_1 => [some (.ref 239), some (.int x1), some (.int x2), some (.int x3_1)]) F dX11_writersOf_27 rfl ki_1 (lt_b rfl) (fun _ => rfl) (fun x3_1 => ?_)
  refine a_goto F 4 dX11_writersOf_30 (by decide) ?_
  exact hk4 x1 x2 x3_1 S
def f_X11_writersOf_4b (k4 : Int32 → Int32 → Int32 → Mm → Option (Int32 × Mm)) (x1 x2 x3 : Int32) (S : Mm) : Option (Int32 × Mm) :=
  if (S 239 6) ≤ x3 then (
   some (x2, S)
  ) else (
   (f_X11_canWrite x3 x1 S).bind fun q_1 =>
   if q_1.1 = 0 then (
    f_X11_writersOf_27 k4 x1 x2 x3 q_1.2
   ) else (
    nm ((x2 ||| (shl (1 : Int32) x3))) fun x2_2 =>
    f_X11_writersOf_27 k4 x1 x2_2 x3 q_1.2
   )
  )
set_option maxRecDepth 20000 in
theorem b_X11_writersOf_4b {X : CX} {E : FE} (M0 : MF X E RX11 cX11_writersOf 4 3 (some .int)) {k4 : Int32 → Int32 → Int32 → Mm → Option (Int32 × Mm)} (hk4 : ∀ (x1 x2 x3 : Int32) (S : Mm), At X E false (mQi X Z1 E) 4 [some (.ref 239), some (.int x1), some (.int x2), some (.int x3)] [] Z1 S 0 0 (k4 x1 x2 x3 S)) (x1 x2 x3 : Int32) (S : Mm) : At X E false (mQi X Z1 E) 4 [some (.ref 239), some (.int x1), some (.int x2), some (.int x3)] [] Z1 S 0 0 (f_X11_writersOf_4b k4 x1 x2 x3 S) := by
  have F := M0.1
  unfold f_X11_writersOf_4b
  refine a_iload_n F dX11_writersOf_4 rfl rfl ?_
  refine a_aload_n F dX11_writersOf_5 rfl rfl ?_
  refine a_getI (k := 6) F cfX11 dX11_writersOf_6 fl_X11_122 (by decide) fi_11_6 zl_239 zk_239 ?_
  refine a_icmp_ge F 33 dX11_writersOf_9 (by decide) ?_ ?_
  · refine a_iload_n F dX11_writersOf_33 rfl rfl ?_
    exact a_iret F M0.2.2.1 M0.2.2.2 dX11_writersOf_34
  · refine a_aload_n F dX11_writersOf_12 rfl rfl ?_
    refine a_iload_n F dX11_writersOf_13 rfl rfl ?_
    refine a_iload_n F dX11_writersOf_14 rfl rfl ?_
    refine a_callVI F (As := [.int x3, .int x1]) cfX11 rfl (c_X11_canWrite X x3 x1 S) mw_X11_canWrite ml_X11_318 im_X11_canWrite se_X11_canWrite M0.2.1 (Nat.le_of_ble_eq_true rfl) ⟨Nat.zero_le _, Nat.zero_le _⟩ rfl rfl (Nat.le_of_ble_eq_true rfl) zl_239 zk_239 dX11_writersOf_15 rfl (fun q_1 => ?_)
    refine a_if_eq F 27 dX11_writersOf_18 (by decide) ?_ ?_
    · exact b_X11_writersOf_27 M0 hk4 x1 x2 x3 q_1.2
    · refine a_iload_n F dX11_writersOf_21 rfl rfl ?_
      refine a_iconst F dX11_writersOf_22 ki_1 ?_
      refine a_iload_n F dX11_writersOf_23 rfl rfl ?_
      refine a_ishl F dX11_writersOf_24 ?_
      refine a_ior F dX11_writersOf_25 ?_
      refine a_istore_nN (L' := fun x2_2 => [some (.ref 239), some (.int x1), some (.int x2_2), some (.int x3)]) F dX11_writersOf_26 rfl (lt_b rfl) (fun _ => rfl) (fun x2_2 => ?_)
      exact b_X11_writersOf_27 M0 hk4 x1 x2_2 x3 q_1.2
def f_X11_writersOf_4 : Nat → Int32 → Int32 → Int32 → Mm → Option (Int32 × Mm) :=
  itr (fun _ _ _ _ => none) (fun k => f_X11_writersOf_4b k)
theorem b_X11_writersOf_4 {X : CX} {E : FE} (M0 : MF X E RX11 cX11_writersOf 4 3 (some .int)) : ∀ (n : Nat) (x1 x2 x3 : Int32) (S : Mm), At X E false (mQi X Z1 E) 4 [some (.ref 239), some (.int x1), some (.int x2), some (.int x3)] [] Z1 S 0 0 (f_X11_writersOf_4  n x1 x2 x3 S) := by
  intro n
  induction n with
  | zero => intros; exact a_none
  | succ n ih => intro x1 x2 x3 S; exact b_X11_writersOf_4b M0 ih x1 x2 x3 S
def f_X11_writersOf (p1 : Int32) (S : Mm) : Option (Int32 × Mm) :=
  f_X11_writersOf_4 FU p1 (0 : Int32) (0 : Int32) S
set_option maxRecDepth 20000 in
theorem b_X11_writersOf {X : CX} {E : FE} (M0 : MF X E RX11 cX11_writersOf 4 3 (some .int)) (p1 : Int32) (S : Mm) : At X E false (mQi X Z1 E) 0 [some (.ref 239), some (.int p1), none, none] [] Z1 S 0 0 (f_X11_writersOf p1 S) := by
  have F := M0.1
  unfold f_X11_writersOf
  refine a_iconst F dX11_writersOf_0 ki_0 ?_
  refine a_istore_n (L' := [some (.ref 239), some (.int p1), some (.int (0 : Int32)), none]) F dX11_writersOf_1 rfl (lt_b rfl) rfl ?_
  refine a_iconst F dX11_writersOf_2 ki_0 ?_
  refine a_istore_n (L' := [some (.ref 239), some (.int p1), some (.int (0 : Int32)), some (.int (0 : Int32))]) F dX11_writersOf_3 rfl (lt_b rfl) rfl ?_
  exact b_X11_writersOf_4 M0 FU p1 (0 : Int32) (0 : Int32) S
theorem c_X11_writersOf (X : CX) (p1 : Int32) (S : Mm) : CtI X Z1 yX11_writersOf cX11_writersOf 4 (some .int) 3 [.ref 239, .int p1] S (f_X11_writersOf p1 S) :=
  ctI_of (by decide +kernel) rfl (Nat.le_of_ble_eq_true rfl) (by simp [Value.category]) z1len fun E F R hra hlk => b_X11_writersOf ⟨F, R, hra, hlk⟩ p1 S
def f_X11_changesOf_30 (k4 : Int32 → Int32 → Int32 → Mm → Option (Int32 × Mm)) (x1 x2 x3 : Int32) (S : Mm) : Option (Int32 × Mm) :=
  nm (x3 + (1 : Int32)) fun x3_1 =>
  k4 x1 x2 x3_1 S
set_option maxRecDepth 20000 in
theorem b_X11_changesOf_30 {X : CX} {E : FE} (M0 : MF X E RX11 cX11_changesOf 4 1 (some .int)) {k4 : Int32 → Int32 → Int32 → Mm → Option (Int32 × Mm)} (hk4 : ∀ (x1 x2 x3 : Int32) (S : Mm), At X E false (mQi X Z1 E) 4 [some (.ref 239), some (.int x1), some (.int x2), some (.int x3)] [] Z1 S 0 0 (k4 x1 x2 x3 S)) (x1 x2 x3 : Int32) (S : Mm) : At X E false (mQi X Z1 E) 30 [some (.ref 239), some (.int x1), some (.int x2), some (.int x3)] [] Z1 S 0 0 (f_X11_changesOf_30 k4 x1 x2 x3 S) := by
  have F := M0.1
  unfold f_X11_changesOf_30
  refine a_iincN (L' := fun x3_1 => [some (.ref 239), some (.int x1), some (.int x2), some (.int x3_1)]) F dX11_changesOf_30 rfl ki_1 (lt_b rfl) (fun _ => rfl) (fun x3_1 => ?_)
  refine a_goto F 4 dX11_changesOf_33 (by decide) ?_
  exact hk4 x1 x2 x3_1 S
def f_X11_changesOf_4b (k4 : Int32 → Int32 → Int32 → Mm → Option (Int32 × Mm)) (x1 x2 x3 : Int32) (S : Mm) : Option (Int32 × Mm) :=
  if (S 240 2) ≤ x3 then (
   some (x2, S)
  ) else (
   gd (inB ((5 : Int32) * x3) 1000 = true) <|
   if (S 248 (ix ((5 : Int32) * x3))) = x1 then (
    nm ((x2 + (1 : Int32))) fun x2_1 =>
    f_X11_changesOf_30 k4 x1 x2_1 x3 S
   ) else (
    f_X11_changesOf_30 k4 x1 x2 x3 S
   )
  )
set_option maxRecDepth 20000 in
theorem b_X11_changesOf_4b {X : CX} {E : FE} (M0 : MF X E RX11 cX11_changesOf 4 1 (some .int)) {k4 : Int32 → Int32 → Int32 → Mm → Option (Int32 × Mm)} (hk4 : ∀ (x1 x2 x3 : Int32) (S : Mm), At X E false (mQi X Z1 E) 4 [some (.ref 239), some (.int x1), some (.int x2), some (.int x3)] [] Z1 S 0 0 (k4 x1 x2 x3 S)) (x1 x2 x3 : Int32) (S : Mm) : At X E false (mQi X Z1 E) 4 [some (.ref 239), some (.int x1), some (.int x2), some (.int x3)] [] Z1 S 0 0 (f_X11_changesOf_4b k4 x1 x2 x3 S) := by
  have F := M0.1
  unfold f_X11_changesOf_4b
  refine a_iload_n F dX11_changesOf_4 rfl rfl ?_
  refine a_aload_n F dX11_changesOf_5 rfl rfl ?_
  refine a_getR (k := 1) F cfX11 dX11_changesOf_6 fl_X11_7 (by decide) fi_11_1 zl_239 zk_239 zr_239_1 ?_
  refine a_iconst F dX11_changesOf_9 ki_2 ?_
  refine a_ialdK F 2 dX11_changesOf_10 zl_240 zk_240 ib_2_148 ix_2 ?_
  refine a_icmp_ge F 36 dX11_changesOf_11 (by decide) ?_ ?_
  · refine a_iload_n F dX11_changesOf_36 rfl rfl ?_
    exact a_iret F M0.2.2.1 M0.2.2.2 dX11_changesOf_37
  · refine a_aload_n F dX11_changesOf_14 rfl rfl ?_
    refine a_getR (k := 13) F cfX11 dX11_changesOf_15 fl_X11_34 (by decide) fi_11_13 zl_239 zk_239 zr_239_13 ?_
    refine a_iconst F dX11_changesOf_18 ki_5 ?_
    refine a_iload_n F dX11_changesOf_19 rfl rfl ?_
    refine a_imul F dX11_changesOf_20 ?_
    refine a_gd (a_iald F dX11_changesOf_21 zl_248 zk_248 ?_)
    refine a_iload_n F dX11_changesOf_22 rfl rfl ?_
    refine a_icmp_ne F 30 dX11_changesOf_23 (by decide) ?_ ?_
    · refine a_iload_n F dX11_changesOf_26 rfl rfl ?_
      refine a_iconst F dX11_changesOf_27 ki_1 ?_
      refine a_iadd F dX11_changesOf_28 ?_
      refine a_istore_nN (L' := fun x2_1 => [some (.ref 239), some (.int x1), some (.int x2_1), some (.int x3)]) F dX11_changesOf_29 rfl (lt_b rfl) (fun _ => rfl) (fun x2_1 => ?_)
      exact b_X11_changesOf_30 M0 hk4 x1 x2_1 x3 S
    · exact b_X11_changesOf_30 M0 hk4 x1 x2 x3 S
def f_X11_changesOf_4 : Nat → Int32 → Int32 → Int32 → Mm → Option (Int32 × Mm) :=
  itr (fun _ _ _ _ => none) (fun k => f_X11_changesOf_4b k)
theorem b_X11_changesOf_4 {X : CX} {E : FE} (M0 : MF X E RX11 cX11_changesOf 4 1 (some .int)) : ∀ (n : Nat) (x1 x2 x3 : Int32) (S : Mm), At X E false (mQi X Z1 E) 4 [some (.ref 239), some (.int x1), some (.int x2), some (.int x3)] [] Z1 S 0 0 (f_X11_changesOf_4  n x1 x2 x3 S) := by
  intro n
  induction n with
  | zero => intros; exact a_none
  | succ n ih => intro x1 x2 x3 S; exact b_X11_changesOf_4b M0 ih x1 x2 x3 S
def f_X11_changesOf (p1 : Int32) (S : Mm) : Option (Int32 × Mm) :=
  f_X11_changesOf_4 FU p1 (0 : Int32) (0 : Int32) S
set_option maxRecDepth 20000 in
theorem b_X11_changesOf {X : CX} {E : FE} (M0 : MF X E RX11 cX11_changesOf 4 1 (some .int)) (p1 : Int32) (S : Mm) : At X E false (mQi X Z1 E) 0 [some (.ref 239), some (.int p1), none, none] [] Z1 S 0 0 (f_X11_changesOf p1 S) := by
  have F := M0.1
  unfold f_X11_changesOf
  refine a_iconst F dX11_changesOf_0 ki_0 ?_
  refine a_istore_n (L' := [some (.ref 239), some (.int p1), some (.int (0 : Int32)), none]) F dX11_changesOf_1 rfl (lt_b rfl) rfl ?_
  refine a_iconst F dX11_changesOf_2 ki_0 ?_
  refine a_istore_n (L' := [some (.ref 239), some (.int p1), some (.int (0 : Int32)), some (.int (0 : Int32))]) F dX11_changesOf_3 rfl (lt_b rfl) rfl ?_
  exact b_X11_changesOf_4 M0 FU p1 (0 : Int32) (0 : Int32) S
theorem c_X11_changesOf (X : CX) (p1 : Int32) (S : Mm) : CtI X Z1 yX11_changesOf cX11_changesOf 4 (some .int) 1 [.ref 239, .int p1] S (f_X11_changesOf p1 S) :=
  ctI_of (by decide +kernel) rfl (Nat.le_of_ble_eq_true rfl) (by simp [Value.category]) z1len fun E F R hra hlk => b_X11_changesOf ⟨F, R, hra, hlk⟩ p1 S
def f_X11_aloneCount_8b (k8 : Int32 → Int32 → Mm → Option (Int32 × Mm)) (x1 x2 : Int32) (S : Mm) : Option (Int32 × Mm) :=
  if (S 239 40) ≤ x2 then (
   some (x1, S)
  ) else (
   gd (inB x2 8 = true) <|
   (f_X11_aloneOf (S 263 (ix x2)) S).bind fun q_1 =>
   (f_X11_ones q_1.1 q_1.2).bind fun q_2 =>
   nm ((x1 + q_2.1)) fun x1_3 =>
   nm (x2 + (1 : Int32)) fun x2_4 =>
   k8 x1_3 x2_4 q_2.2
  )
set_option maxRecDepth 20000 in
theorem b_X11_aloneCount_8b {X : CX} {E : FE} (M0 : MF X E RX11 cX11_aloneCount 3 5 (some .int)) {k8 : Int32 → Int32 → Mm → Option (Int32 × Mm)} (hk8 : ∀ (x1 x2 : Int32) (S : Mm), At X E false (mQi X Z1 E) 8 [some (.ref 239), some (.int x1), some (.int x2)] [] Z1 S 0 0 (k8 x1 x2 S)) (x1 x2 : Int32) (S : Mm) : At X E false (mQi X Z1 E) 8 [some (.ref 239), some (.int x1), some (.int x2)] [] Z1 S 0 0 (f_X11_aloneCount_8b k8 x1 x2 S) := by
  have F := M0.1
  unfold f_X11_aloneCount_8b
  refine a_iload_n F dX11_aloneCount_8 rfl rfl ?_
  refine a_aload_n F dX11_aloneCount_9 rfl rfl ?_
  refine a_getI (k := 40) F cfX11 dX11_aloneCount_10 fl_X11_125 (by decide) fi_11_40 zl_239 zk_239 ?_
  refine a_icmp_ge F 39 dX11_aloneCount_13 (by decide) ?_ ?_
  · refine a_iload_n F dX11_aloneCount_39 rfl rfl ?_
    exact a_iret F M0.2.2.1 M0.2.2.2 dX11_aloneCount_40
  · refine a_iload_n F dX11_aloneCount_16 rfl rfl ?_
    refine a_aload_n F dX11_aloneCount_17 rfl rfl ?_
    refine a_aload_n F dX11_aloneCount_18 rfl rfl ?_
    refine a_aload_n F dX11_aloneCount_19 rfl rfl ?_
    refine a_getR (k := 42) F cfX11 dX11_aloneCount_20 fl_X11_83 (by decide) fi_11_42 zl_239 zk_239 zr_239_42 ?_
    refine a_iload_n F dX11_aloneCount_23 rfl rfl ?_
    refine a_gd (a_iald F dX11_aloneCount_24 zl_263 zk_263 ?_)
    refine a_callVI F (As := [.int (S 263 (ix x2))]) cfX11 rfl (c_X11_aloneOf X (S 263 (ix x2)) S) mw_X11_aloneOf ml_X11_405 im_X11_aloneOf se_X11_aloneOf M0.2.1 (Nat.le_of_ble_eq_true rfl) ⟨Nat.zero_le _, Nat.zero_le _⟩ rfl rfl (Nat.le_of_ble_eq_true rfl) zl_239 zk_239 dX11_aloneCount_25 rfl (fun q_1 => ?_)
    refine a_callVI F (As := [.int q_1.1]) cfX11 rfl (c_X11_ones X q_1.1 q_1.2) mw_X11_ones ml_X11_333 im_X11_ones se_X11_ones M0.2.1 (Nat.le_of_ble_eq_true rfl) ⟨Nat.zero_le _, Nat.zero_le _⟩ rfl rfl (Nat.le_of_ble_eq_true rfl) zl_239 zk_239 dX11_aloneCount_28 rfl (fun q_2 => ?_)
    refine a_iadd F dX11_aloneCount_31 ?_
    refine a_istore_nN (L' := fun x1_3 => [some (.ref 239), some (.int x1_3), some (.int x2)]) F dX11_aloneCount_32 rfl (lt_b rfl) (fun _ => rfl) (fun x1_3 => ?_)
    refine a_iincN (L' := fun x2_4 => [some (.ref 239), some (.int x1_3), some (.int x2_4)]) F dX11_aloneCount_33 rfl ki_1 (lt_b rfl) (fun _ => rfl) (fun x2_4 => ?_)
    refine a_goto F 8 dX11_aloneCount_36 (by decide) ?_
    exact hk8 x1_3 x2_4 q_2.2
def f_X11_aloneCount_8 : Nat → Int32 → Int32 → Mm → Option (Int32 × Mm) :=
  itr (fun _ _ _ => none) (fun k => f_X11_aloneCount_8b k)
theorem b_X11_aloneCount_8 {X : CX} {E : FE} (M0 : MF X E RX11 cX11_aloneCount 3 5 (some .int)) : ∀ (n : Nat) (x1 x2 : Int32) (S : Mm), At X E false (mQi X Z1 E) 8 [some (.ref 239), some (.int x1), some (.int x2)] [] Z1 S 0 0 (f_X11_aloneCount_8  n x1 x2 S) := by
  intro n
  induction n with
  | zero => intros; exact a_none
  | succ n ih => intro x1 x2 S; exact b_X11_aloneCount_8b M0 ih x1 x2 S
def f_X11_aloneCount (S : Mm) : Option (Int32 × Mm) :=
  (f_X11_findsHands S).bind fun S_1 =>
  f_X11_aloneCount_8 FU (0 : Int32) (0 : Int32) S_1
set_option maxRecDepth 20000 in
theorem b_X11_aloneCount {X : CX} {E : FE} (M0 : MF X E RX11 cX11_aloneCount 3 5 (some .int)) (S : Mm) : At X E false (mQi X Z1 E) 0 [some (.ref 239), none, none] [] Z1 S 0 0 (f_X11_aloneCount S) := by
  have F := M0.1
  unfold f_X11_aloneCount
  refine a_aload_n F dX11_aloneCount_0 rfl rfl ?_
  refine a_callVV F (As := []) cfX11 rfl (c_X11_findsHands X S) mw_X11_findsHands ml_X11_375 im_X11_findsHands se_X11_findsHands M0.2.1 (Nat.le_of_ble_eq_true rfl) ⟨Nat.zero_le _, Nat.zero_le _⟩ rfl rfl (Nat.le_of_ble_eq_true rfl) zl_239 zk_239 dX11_aloneCount_1 rfl (fun S_1 => ?_)
  refine a_iconst F dX11_aloneCount_4 ki_0 ?_
  refine a_istore_n (L' := [some (.ref 239), some (.int (0 : Int32)), none]) F dX11_aloneCount_5 rfl (lt_b rfl) rfl ?_
  refine a_iconst F dX11_aloneCount_6 ki_0 ?_
  refine a_istore_n (L' := [some (.ref 239), some (.int (0 : Int32)), some (.int (0 : Int32))]) F dX11_aloneCount_7 rfl (lt_b rfl) rfl ?_
  exact b_X11_aloneCount_8 M0 FU (0 : Int32) (0 : Int32) S_1
theorem c_X11_aloneCount (X : CX) (S : Mm) : CtI X Z1 yX11_aloneCount cX11_aloneCount 3 (some .int) 5 [.ref 239] S (f_X11_aloneCount S) :=
  ctI_of (by decide +kernel) rfl (Nat.le_of_ble_eq_true rfl) (by simp [Value.category]) z1len fun E F R hra hlk => b_X11_aloneCount ⟨F, R, hra, hlk⟩ S
def f_X11_valueOf_59b (k59 : Int32 → Int32 → Int32 → Mm → Option (Int32 × Mm)) (x2 x3 x4 : Int32) (S : Mm) : Option (Int32 × Mm) :=
  if (S 239 40) ≤ x4 then (
   some ((x3 - x2), S)
  ) else (
   gd (inB x4 8 = true) <|
   (f_X11_aloneOf (S 263 (ix x4)) S).bind fun q_1 =>
   (f_X11_ones q_1.1 q_1.2).bind fun q_2 =>
   nm ((x3 + q_2.1)) fun x3_3 =>
   nm (x4 + (1 : Int32)) fun x4_4 =>
   k59 x2 x3_3 x4_4 q_2.2
  )
set_option maxRecDepth 20000 in
theorem b_X11_valueOf_59b {X : CX} {E : FE} (M0 : MF X E RX11 cX11_valueOf 5 6 (some .int)) {k59 : Int32 → Int32 → Int32 → Mm → Option (Int32 × Mm)} (hk59 : ∀ (x2 x3 x4 : Int32) (S : Mm), At X E false (mQi X Z1 E) 59 [some (.ref 239), none, some (.int x2), some (.int x3), some (.int x4)] [] Z1 S 0 0 (k59 x2 x3 x4 S)) (x2 x3 x4 : Int32) (S : Mm) : At X E false (mQi X Z1 E) 59 [some (.ref 239), none, some (.int x2), some (.int x3), some (.int x4)] [] Z1 S 0 0 (f_X11_valueOf_59b k59 x2 x3 x4 S) := by
  have F := M0.1
  unfold f_X11_valueOf_59b
  refine a_iload F dX11_valueOf_59 rfl ?_
  refine a_aload_n F dX11_valueOf_61 rfl rfl ?_
  refine a_getI (k := 40) F cfX11 dX11_valueOf_62 fl_X11_125 (by decide) fi_11_40 zl_239 zk_239 ?_
  refine a_icmp_ge F 92 dX11_valueOf_65 (by decide) ?_ ?_
  · refine a_iload_n F dX11_valueOf_92 rfl rfl ?_
    refine a_iload_n F dX11_valueOf_93 rfl rfl ?_
    refine a_isub F dX11_valueOf_94 ?_
    exact a_iret F M0.2.2.1 M0.2.2.2 dX11_valueOf_95
  · refine a_iload_n F dX11_valueOf_68 rfl rfl ?_
    refine a_aload_n F dX11_valueOf_69 rfl rfl ?_
    refine a_aload_n F dX11_valueOf_70 rfl rfl ?_
    refine a_aload_n F dX11_valueOf_71 rfl rfl ?_
    refine a_getR (k := 42) F cfX11 dX11_valueOf_72 fl_X11_83 (by decide) fi_11_42 zl_239 zk_239 zr_239_42 ?_
    refine a_iload F dX11_valueOf_75 rfl ?_
    refine a_gd (a_iald F dX11_valueOf_77 zl_263 zk_263 ?_)
    refine a_callVI F (As := [.int (S 263 (ix x4))]) cfX11 rfl (c_X11_aloneOf X (S 263 (ix x4)) S) mw_X11_aloneOf ml_X11_405 im_X11_aloneOf se_X11_aloneOf M0.2.1 (Nat.le_of_ble_eq_true rfl) ⟨Nat.zero_le _, Nat.zero_le _⟩ rfl rfl (Nat.le_of_ble_eq_true rfl) zl_239 zk_239 dX11_valueOf_78 rfl (fun q_1 => ?_)
    refine a_callVI F (As := [.int q_1.1]) cfX11 rfl (c_X11_ones X q_1.1 q_1.2) mw_X11_ones ml_X11_333 im_X11_ones se_X11_ones M0.2.1 (Nat.le_of_ble_eq_true rfl) ⟨Nat.zero_le _, Nat.zero_le _⟩ rfl rfl (Nat.le_of_ble_eq_true rfl) zl_239 zk_239 dX11_valueOf_81 rfl (fun q_2 => ?_)
    refine a_iadd F dX11_valueOf_84 ?_
    refine a_istore_nN (L' := fun x3_3 => [some (.ref 239), none, some (.int x2), some (.int x3_3), some (.int x4)]) F dX11_valueOf_85 rfl (lt_b rfl) (fun _ => rfl) (fun x3_3 => ?_)
    refine a_iincN (L' := fun x4_4 => [some (.ref 239), none, some (.int x2), some (.int x3_3), some (.int x4_4)]) F dX11_valueOf_86 rfl ki_1 (lt_b rfl) (fun _ => rfl) (fun x4_4 => ?_)
    refine a_goto F 59 dX11_valueOf_89 (by decide) ?_
    exact hk59 x2 x3_3 x4_4 q_2.2
def f_X11_valueOf_59 : Nat → Int32 → Int32 → Int32 → Mm → Option (Int32 × Mm) :=
  itr (fun _ _ _ _ => none) (fun k => f_X11_valueOf_59b k)
theorem b_X11_valueOf_59 {X : CX} {E : FE} (M0 : MF X E RX11 cX11_valueOf 5 6 (some .int)) : ∀ (n : Nat) (x2 x3 x4 : Int32) (S : Mm), At X E false (mQi X Z1 E) 59 [some (.ref 239), none, some (.int x2), some (.int x3), some (.int x4)] [] Z1 S 0 0 (f_X11_valueOf_59  n x2 x3 x4 S) := by
  intro n
  induction n with
  | zero => intros; exact a_none
  | succ n ih => intro x2 x3 x4 S; exact b_X11_valueOf_59b M0 ih x2 x3 x4 S
def f_X11_valueOf_47 (k7 : Int32 → Int32 → Int32 → Mm → Option (Int32 × Mm)) (x1 x2 x3 t1 t2 : Int32) (S : Mm) : Option (Int32 × Mm) :=
  gd (inB t1 12 = true) <|
  nm (uM S 267 (ix t1) t2) fun S_1 =>
  nm (x3 + (1 : Int32)) fun x3_2 =>
  k7 x1 x2 x3_2 S_1
set_option maxRecDepth 20000 in
theorem b_X11_valueOf_47 {X : CX} {E : FE} (M0 : MF X E RX11 cX11_valueOf 5 6 (some .int)) {k7 : Int32 → Int32 → Int32 → Mm → Option (Int32 × Mm)} (hk7 : ∀ (x1 x2 x3 : Int32) (S : Mm), At X E false (mQi X Z1 E) 7 [some (.ref 239), some (.int x1), some (.int x2), some (.int x3), none] [] Z1 S 0 0 (k7 x1 x2 x3 S)) (x1 x2 x3 t1 t2 : Int32) (S : Mm) : At X E false (mQi X Z1 E) 47 [some (.ref 239), some (.int x1), some (.int x2), some (.int x3), none] [.int t2, .int t1, .ref 267] Z1 S 0 0 (f_X11_valueOf_47 k7 x1 x2 x3 t1 t2 S) := by
  have F := M0.1
  unfold f_X11_valueOf_47
  refine a_gd (a_iast F dX11_valueOf_47 zl_267 zk_267 ?_)
  refine a_nmS (fun S_1 => ?_)
  refine a_iincN (L' := fun x3_2 => [some (.ref 239), some (.int x1), some (.int x2), some (.int x3_2), none]) F dX11_valueOf_48 rfl ki_1 (lt_b rfl) (fun _ => rfl) (fun x3_2 => ?_)
  refine a_goto F 7 dX11_valueOf_51 (by decide) ?_
  exact hk7 x1 x2 x3_2 S_1
def f_X11_valueOf_7b (k7 : Int32 → Int32 → Int32 → Mm → Option (Int32 × Mm)) (x1 x2 x3 : Int32) (S : Mm) : Option (Int32 × Mm) :=
  if (S 239 6) ≤ x3 then (
   f_X11_valueOf_59 FU x2 (0 : Int32) (0 : Int32) S
  ) else (
   (f_X11_doesLive x3 S).bind fun q_1 =>
   if q_1.1 = 0 then (
    gd (inB x3 12 = true) <|
    f_X11_valueOf_47 k7 x1 x2 x3 x3 (q_1.2 267 (ix x3)) q_1.2
   ) else (
    gd (inB x3 12 = true) <|
    f_X11_valueOf_47 k7 x1 x2 x3 x3 ((q_1.2 267 (ix x3)) ||| (shl (1 : Int32) x1)) q_1.2
   )
  )
set_option maxRecDepth 20000 in
theorem b_X11_valueOf_7b {X : CX} {E : FE} (M0 : MF X E RX11 cX11_valueOf 5 6 (some .int)) {k7 : Int32 → Int32 → Int32 → Mm → Option (Int32 × Mm)} (hk7 : ∀ (x1 x2 x3 : Int32) (S : Mm), At X E false (mQi X Z1 E) 7 [some (.ref 239), some (.int x1), some (.int x2), some (.int x3), none] [] Z1 S 0 0 (k7 x1 x2 x3 S)) (x1 x2 x3 : Int32) (S : Mm) : At X E false (mQi X Z1 E) 7 [some (.ref 239), some (.int x1), some (.int x2), some (.int x3), none] [] Z1 S 0 0 (f_X11_valueOf_7b k7 x1 x2 x3 S) := by
  have F := M0.1
  unfold f_X11_valueOf_7b
  refine a_iload_n F dX11_valueOf_7 rfl rfl ?_
  refine a_aload_n F dX11_valueOf_8 rfl rfl ?_
  refine a_getI (k := 6) F cfX11 dX11_valueOf_9 fl_X11_122 (by decide) fi_11_6 zl_239 zk_239 ?_
  refine a_icmp_ge F 54 dX11_valueOf_12 (by decide) ?_ ?_
  · refine a_iconst F dX11_valueOf_54 ki_0 ?_
    refine a_istore_n (L' := [some (.ref 239), some (.int x1), some (.int x2), some (.int (0 : Int32)), none]) F dX11_valueOf_55 rfl (lt_b rfl) rfl ?_
    refine a_iconst F dX11_valueOf_56 ki_0 ?_
    refine a_istore (L' := [some (.ref 239), some (.int x1), some (.int x2), some (.int (0 : Int32)), some (.int (0 : Int32))]) F dX11_valueOf_57 (lt_b rfl) rfl ?_
    refine a_mask [true, false, true, true, true] (L' := [some (.ref 239), none, some (.int x2), some (.int (0 : Int32)), some (.int (0 : Int32))]) rfl rfl ?_
    exact b_X11_valueOf_59 M0 FU x2 (0 : Int32) (0 : Int32) S
  · refine a_aload_n F dX11_valueOf_15 rfl rfl ?_
    refine a_getR (k := 46) F cfX11 dX11_valueOf_16 fl_X11_95 (by decide) fi_11_46 zl_239 zk_239 zr_239_46 ?_
    refine a_iload_n F dX11_valueOf_19 rfl rfl ?_
    refine a_aload_n F dX11_valueOf_20 rfl rfl ?_
    refine a_iload_n F dX11_valueOf_21 rfl rfl ?_
    refine a_callVI F (As := [.int x3]) cfX11 rfl (c_X11_doesLive X x3 S) mw_X11_doesLive ml_X11_132 im_X11_doesLive se_X11_doesLive M0.2.1 (Nat.le_of_ble_eq_true rfl) ⟨Nat.zero_le _, Nat.zero_le _⟩ rfl rfl (Nat.le_of_ble_eq_true rfl) zl_239 zk_239 dX11_valueOf_22 rfl (fun q_1 => ?_)
    refine a_if_eq F 41 dX11_valueOf_25 (by decide) ?_ ?_
    · refine a_aload_n F dX11_valueOf_41 rfl rfl ?_
      refine a_getR (k := 46) F cfX11 dX11_valueOf_42 fl_X11_95 (by decide) fi_11_46 zl_239 zk_239 zr_239_46 ?_
      refine a_iload_n F dX11_valueOf_45 rfl rfl ?_
      refine a_gd (a_iald F dX11_valueOf_46 zl_267 zk_267 ?_)
      exact b_X11_valueOf_47 M0 hk7 x1 x2 x3 x3 (q_1.2 267 (ix x3)) q_1.2
    · refine a_aload_n F dX11_valueOf_28 rfl rfl ?_
      refine a_getR (k := 46) F cfX11 dX11_valueOf_29 fl_X11_95 (by decide) fi_11_46 zl_239 zk_239 zr_239_46 ?_
      refine a_iload_n F dX11_valueOf_32 rfl rfl ?_
      refine a_gd (a_iald F dX11_valueOf_33 zl_267 zk_267 ?_)
      refine a_iconst F dX11_valueOf_34 ki_1 ?_
      refine a_iload_n F dX11_valueOf_35 rfl rfl ?_
      refine a_ishl F dX11_valueOf_36 ?_
      refine a_ior F dX11_valueOf_37 ?_
      refine a_goto F 47 dX11_valueOf_38 (by decide) ?_
      exact b_X11_valueOf_47 M0 hk7 x1 x2 x3 x3 ((q_1.2 267 (ix x3)) ||| (shl (1 : Int32) x1)) q_1.2
def f_X11_valueOf_7 : Nat → Int32 → Int32 → Int32 → Mm → Option (Int32 × Mm) :=
  itr (fun _ _ _ _ => none) (fun k => f_X11_valueOf_7b k)
theorem b_X11_valueOf_7 {X : CX} {E : FE} (M0 : MF X E RX11 cX11_valueOf 5 6 (some .int)) : ∀ (n : Nat) (x1 x2 x3 : Int32) (S : Mm), At X E false (mQi X Z1 E) 7 [some (.ref 239), some (.int x1), some (.int x2), some (.int x3), none] [] Z1 S 0 0 (f_X11_valueOf_7  n x1 x2 x3 S) := by
  intro n
  induction n with
  | zero => intros; exact a_none
  | succ n ih => intro x1 x2 x3 S; exact b_X11_valueOf_7b M0 ih x1 x2 x3 S
def f_X11_valueOf (p1 : Int32) (S : Mm) : Option (Int32 × Mm) :=
  (f_X11_aloneCount S).bind fun q_1 =>
  f_X11_valueOf_7 FU p1 q_1.1 (0 : Int32) q_1.2
set_option maxRecDepth 20000 in
theorem b_X11_valueOf {X : CX} {E : FE} (M0 : MF X E RX11 cX11_valueOf 5 6 (some .int)) (p1 : Int32) (S : Mm) : At X E false (mQi X Z1 E) 0 [some (.ref 239), some (.int p1), none, none, none] [] Z1 S 0 0 (f_X11_valueOf p1 S) := by
  have F := M0.1
  unfold f_X11_valueOf
  refine a_aload_n F dX11_valueOf_0 rfl rfl ?_
  refine a_callVI F (As := []) cfX11 rfl (c_X11_aloneCount X S) mw_X11_aloneCount ml_X11_414 im_X11_aloneCount se_X11_aloneCount M0.2.1 (Nat.le_of_ble_eq_true rfl) ⟨Nat.zero_le _, Nat.zero_le _⟩ rfl rfl (Nat.le_of_ble_eq_true rfl) zl_239 zk_239 dX11_valueOf_1 rfl (fun q_1 => ?_)
  refine a_istore_n (L' := [some (.ref 239), some (.int p1), some (.int q_1.1), none, none]) F dX11_valueOf_4 rfl (lt_b rfl) rfl ?_
  refine a_iconst F dX11_valueOf_5 ki_0 ?_
  refine a_istore_n (L' := [some (.ref 239), some (.int p1), some (.int q_1.1), some (.int (0 : Int32)), none]) F dX11_valueOf_6 rfl (lt_b rfl) rfl ?_
  exact b_X11_valueOf_7 M0 FU p1 q_1.1 (0 : Int32) q_1.2
theorem c_X11_valueOf (X : CX) (p1 : Int32) (S : Mm) : CtI X Z1 yX11_valueOf cX11_valueOf 5 (some .int) 6 [.ref 239, .int p1] S (f_X11_valueOf p1 S) :=
  ctI_of (by decide +kernel) rfl (Nat.le_of_ble_eq_true rfl) (by simp [Value.category]) z1len fun E F R hra hlk => b_X11_valueOf ⟨F, R, hra, hlk⟩ p1 S
def f_X11_letter (p1 p2 : Int32) (S : Mm) : Option (Int32 × Mm) :=
  nm (uM S 239 0 (0 : Int32)) fun S_1 =>
  (f_X11_isLetter28 p1 S_1).bind fun q_2 =>
  if q_2.1 = 0 then (
   some ((-2 : Int32), q_2.2)
  ) else (
   if p2 = 0 then (
    (f_X11_ownerOf p1 q_2.2).bind fun q_3 =>
    some (q_3.1, q_3.2)
   ) else (
    if p2 = (1 : Int32) then (
     (f_X11_borrowerOf p1 q_2.2).bind fun q_4 =>
     some (q_4.1, q_4.2)
    ) else (
     if p2 = (2 : Int32) then (
      (f_X11_borrowerOf p1 q_2.2).bind fun q_5 =>
      if q_5.1 = (-1 : Int32) then (
       some ((-1 : Int32), q_5.2)
      ) else (
       gd (inB ((60 : Int32) + p1) 148 = true) <|
       some ((q_5.2 240 (ix ((60 : Int32) + p1))), q_5.2)
      )
     ) else (
      if p2 = (3 : Int32) then (
       (f_X11_writersOf p1 q_2.2).bind fun q_6 =>
       some (q_6.1, q_6.2)
      ) else (
       if p2 = (4 : Int32) then (
        (f_X11_changesOf p1 q_2.2).bind fun q_7 =>
        some (q_7.1, q_7.2)
       ) else (
        if p2 = (5 : Int32) then (
         (f_X11_valueOf p1 q_2.2).bind fun q_8 =>
         some (q_8.1, q_8.2)
        ) else (
         some ((-2 : Int32), q_2.2)
        )
       )
      )
     )
    )
   )
  )
set_option maxRecDepth 20000 in
theorem b_X11_letter {X : CX} {E : FE} (M0 : MF X E RX11 cX11_letter 3 7 (some .int)) (p1 p2 : Int32) (S : Mm) : At X E false (mQi X Z1 E) 0 [some (.ref 239), some (.int p1), some (.int p2)] [] Z1 S 0 0 (f_X11_letter p1 p2 S) := by
  have F := M0.1
  unfold f_X11_letter
  refine a_aload_n F dX11_letter_0 rfl rfl ?_
  refine a_iconst F dX11_letter_1 ki_0 ?_
  refine a_putI (k := 0) F cfX11 dX11_letter_2 fl_X11_107 (by decide) fi_11_0 rfl rfl zl_239 zk_239 ?_
  refine a_nmS (fun S_1 => ?_)
  refine a_aload_n F dX11_letter_5 rfl rfl ?_
  refine a_iload_n F dX11_letter_6 rfl rfl ?_
  refine a_callVI F (As := [.int p1]) cfX11 rfl (c_X11_isLetter28 X p1 S_1) mw_X11_isLetter28 ml_X11_163 im_X11_isLetter28 se_X11_isLetter28 M0.2.1 (Nat.le_of_ble_eq_true rfl) ⟨Nat.zero_le _, Nat.zero_le _⟩ rfl rfl (Nat.le_of_ble_eq_true rfl) zl_239 zk_239 dX11_letter_7 rfl (fun q_2 => ?_)
  refine a_if_ne F 16 dX11_letter_10 (by decide) ?_ ?_
  · refine a_bipush F dX11_letter_13 kb_m2 ?_
    exact a_iret F M0.2.2.1 M0.2.2.2 dX11_letter_15
  · refine a_iload_n F dX11_letter_16 rfl rfl ?_
    refine a_if_ne F 26 dX11_letter_17 (by decide) ?_ ?_
    · refine a_aload_n F dX11_letter_20 rfl rfl ?_
      refine a_iload_n F dX11_letter_21 rfl rfl ?_
      refine a_callVI F (As := [.int p1]) cfX11 rfl (c_X11_ownerOf X p1 q_2.2) mw_X11_ownerOf ml_X11_160 im_X11_ownerOf se_X11_ownerOf M0.2.1 (Nat.le_of_ble_eq_true rfl) ⟨Nat.zero_le _, Nat.zero_le _⟩ rfl rfl (Nat.le_of_ble_eq_true rfl) zl_239 zk_239 dX11_letter_22 rfl (fun q_3 => ?_)
      exact a_iret F M0.2.2.1 M0.2.2.2 dX11_letter_25
    · refine a_iload_n F dX11_letter_26 rfl rfl ?_
      refine a_iconst F dX11_letter_27 ki_1 ?_
      refine a_icmp_ne F 37 dX11_letter_28 (by decide) ?_ ?_
      · refine a_aload_n F dX11_letter_31 rfl rfl ?_
        refine a_iload_n F dX11_letter_32 rfl rfl ?_
        refine a_callVI F (As := [.int p1]) cfX11 rfl (c_X11_borrowerOf X p1 q_2.2) mw_X11_borrowerOf ml_X11_315 im_X11_borrowerOf se_X11_borrowerOf M0.2.1 (Nat.le_of_ble_eq_true rfl) ⟨Nat.zero_le _, Nat.zero_le _⟩ rfl rfl (Nat.le_of_ble_eq_true rfl) zl_239 zk_239 dX11_letter_33 rfl (fun q_4 => ?_)
        exact a_iret F M0.2.2.1 M0.2.2.2 dX11_letter_36
      · refine a_iload_n F dX11_letter_37 rfl rfl ?_
        refine a_iconst F dX11_letter_38 ki_2 ?_
        refine a_icmp_ne F 65 dX11_letter_39 (by decide) ?_ ?_
        · refine a_aload_n F dX11_letter_42 rfl rfl ?_
          refine a_iload_n F dX11_letter_43 rfl rfl ?_
          refine a_callVI F (As := [.int p1]) cfX11 rfl (c_X11_borrowerOf X p1 q_2.2) mw_X11_borrowerOf ml_X11_315 im_X11_borrowerOf se_X11_borrowerOf M0.2.1 (Nat.le_of_ble_eq_true rfl) ⟨Nat.zero_le _, Nat.zero_le _⟩ rfl rfl (Nat.le_of_ble_eq_true rfl) zl_239 zk_239 dX11_letter_44 rfl (fun q_5 => ?_)
          refine a_iconst F dX11_letter_47 ki_m1 ?_
          refine a_icmp_ne F 55 dX11_letter_48 (by decide) ?_ ?_
          · refine a_iconst F dX11_letter_51 ki_m1 ?_
            refine a_goto F 64 dX11_letter_52 (by decide) ?_
            exact a_iret F M0.2.2.1 M0.2.2.2 dX11_letter_64
          · refine a_aload_n F dX11_letter_55 rfl rfl ?_
            refine a_getR (k := 1) F cfX11 dX11_letter_56 fl_X11_7 (by decide) fi_11_1 zl_239 zk_239 zr_239_1 ?_
            refine a_bipush F dX11_letter_59 kb_60 ?_
            refine a_iload_n F dX11_letter_61 rfl rfl ?_
            refine a_iadd F dX11_letter_62 ?_
            refine a_gd (a_iald F dX11_letter_63 zl_240 zk_240 ?_)
            exact a_iret F M0.2.2.1 M0.2.2.2 dX11_letter_64
        · refine a_iload_n F dX11_letter_65 rfl rfl ?_
          refine a_iconst F dX11_letter_66 ki_3 ?_
          refine a_icmp_ne F 76 dX11_letter_67 (by decide) ?_ ?_
          · refine a_aload_n F dX11_letter_70 rfl rfl ?_
            refine a_iload_n F dX11_letter_71 rfl rfl ?_
            refine a_callVI F (As := [.int p1]) cfX11 rfl (c_X11_writersOf X p1 q_2.2) mw_X11_writersOf ml_X11_393 im_X11_writersOf se_X11_writersOf M0.2.1 (Nat.le_of_ble_eq_true rfl) ⟨Nat.zero_le _, Nat.zero_le _⟩ rfl rfl (Nat.le_of_ble_eq_true rfl) zl_239 zk_239 dX11_letter_72 rfl (fun q_6 => ?_)
            exact a_iret F M0.2.2.1 M0.2.2.2 dX11_letter_75
          · refine a_iload_n F dX11_letter_76 rfl rfl ?_
            refine a_iconst F dX11_letter_77 ki_4 ?_
            refine a_icmp_ne F 89 dX11_letter_78 (by decide) ?_ ?_
            · refine a_aload_n F dX11_letter_81 rfl rfl ?_
              refine a_iload_n F dX11_letter_82 rfl rfl ?_
              refine a_callVI F (As := [.int p1]) cfX11 rfl (c_X11_changesOf X p1 q_2.2) mw_X11_changesOf ml_X11_396 im_X11_changesOf se_X11_changesOf M0.2.1 (Nat.le_of_ble_eq_true rfl) ⟨Nat.zero_le _, Nat.zero_le _⟩ rfl rfl (Nat.le_of_ble_eq_true rfl) zl_239 zk_239 dX11_letter_83 rfl (fun q_7 => ?_)
              refine a_goto F 104 dX11_letter_86 (by decide) ?_
              exact a_iret F M0.2.2.1 M0.2.2.2 dX11_letter_104
            · refine a_iload_n F dX11_letter_89 rfl rfl ?_
              refine a_iconst F dX11_letter_90 ki_5 ?_
              refine a_icmp_ne F 102 dX11_letter_91 (by decide) ?_ ?_
              · refine a_aload_n F dX11_letter_94 rfl rfl ?_
                refine a_iload_n F dX11_letter_95 rfl rfl ?_
                refine a_callVI F (As := [.int p1]) cfX11 rfl (c_X11_valueOf X p1 q_2.2) mw_X11_valueOf ml_X11_399 im_X11_valueOf se_X11_valueOf M0.2.1 (Nat.le_of_ble_eq_true rfl) ⟨Nat.zero_le _, Nat.zero_le _⟩ rfl rfl (Nat.le_of_ble_eq_true rfl) zl_239 zk_239 dX11_letter_96 rfl (fun q_8 => ?_)
                refine a_goto F 104 dX11_letter_99 (by decide) ?_
                exact a_iret F M0.2.2.1 M0.2.2.2 dX11_letter_104
              · refine a_bipush F dX11_letter_102 kb_m2 ?_
                exact a_iret F M0.2.2.1 M0.2.2.2 dX11_letter_104
theorem c_X11_letter (X : CX) (p1 p2 : Int32) (S : Mm) : CtI X Z1 yX11_letter cX11_letter 3 (some .int) 7 [.ref 239, .int p1, .int p2] S (f_X11_letter p1 p2 S) :=
  ctI_of (by decide +kernel) rfl (Nat.le_of_ble_eq_true rfl) (by simp [Value.category]) z1len fun E F R hra hlk => b_X11_letter ⟨F, R, hra, hlk⟩ p1 p2 S
def f_X11_lettersWithout_25 (k4 : Int32 → Int32 → Mm → Option (Int32 × Mm)) (x1 x2 : Int32) (S : Mm) : Option (Int32 × Mm) :=
  nm (x2 + (1 : Int32)) fun x2_1 =>
  k4 x1 x2_1 S
set_option maxRecDepth 20000 in
theorem b_X11_lettersWithout_25 {X : CX} {E : FE} (M0 : MF X E RX11 cX11_lettersWithout 3 2 (some .int)) {k4 : Int32 → Int32 → Mm → Option (Int32 × Mm)} (hk4 : ∀ (x1 x2 : Int32) (S : Mm), At X E false (mQi X Z1 E) 4 [some (.ref 239), some (.int x1), some (.int x2)] [] Z1 S 0 0 (k4 x1 x2 S)) (x1 x2 : Int32) (S : Mm) : At X E false (mQi X Z1 E) 25 [some (.ref 239), some (.int x1), some (.int x2)] [] Z1 S 0 0 (f_X11_lettersWithout_25 k4 x1 x2 S) := by
  have F := M0.1
  unfold f_X11_lettersWithout_25
  refine a_iincN (L' := fun x2_1 => [some (.ref 239), some (.int x1), some (.int x2_1)]) F dX11_lettersWithout_25 rfl ki_1 (lt_b rfl) (fun _ => rfl) (fun x2_1 => ?_)
  refine a_goto F 4 dX11_lettersWithout_28 (by decide) ?_
  exact hk4 x1 x2_1 S
def f_X11_lettersWithout_4b (k4 : Int32 → Int32 → Mm → Option (Int32 × Mm)) (x1 x2 : Int32) (S : Mm) : Option (Int32 × Mm) :=
  if (28 : Int32) ≤ x2 then (
   some (x1, S)
  ) else (
   (f_X11_ownerOf x2 S).bind fun q_1 =>
   if q_1.1 = (-1 : Int32) then (
    nm ((x1 ||| (shl (1 : Int32) x2))) fun x1_2 =>
    f_X11_lettersWithout_25 k4 x1_2 x2 q_1.2
   ) else (
    f_X11_lettersWithout_25 k4 x1 x2 q_1.2
   )
  )
set_option maxRecDepth 20000 in
theorem b_X11_lettersWithout_4b {X : CX} {E : FE} (M0 : MF X E RX11 cX11_lettersWithout 3 2 (some .int)) {k4 : Int32 → Int32 → Mm → Option (Int32 × Mm)} (hk4 : ∀ (x1 x2 : Int32) (S : Mm), At X E false (mQi X Z1 E) 4 [some (.ref 239), some (.int x1), some (.int x2)] [] Z1 S 0 0 (k4 x1 x2 S)) (x1 x2 : Int32) (S : Mm) : At X E false (mQi X Z1 E) 4 [some (.ref 239), some (.int x1), some (.int x2)] [] Z1 S 0 0 (f_X11_lettersWithout_4b k4 x1 x2 S) := by
  have F := M0.1
  unfold f_X11_lettersWithout_4b
  refine a_iload_n F dX11_lettersWithout_4 rfl rfl ?_
  refine a_bipush F dX11_lettersWithout_5 kb_28 ?_
  refine a_icmp_ge F 31 dX11_lettersWithout_7 (by decide) ?_ ?_
  · refine a_iload_n F dX11_lettersWithout_31 rfl rfl ?_
    exact a_iret F M0.2.2.1 M0.2.2.2 dX11_lettersWithout_32
  · refine a_aload_n F dX11_lettersWithout_10 rfl rfl ?_
    refine a_iload_n F dX11_lettersWithout_11 rfl rfl ?_
    refine a_callVI F (As := [.int x2]) cfX11 rfl (c_X11_ownerOf X x2 S) mw_X11_ownerOf ml_X11_160 im_X11_ownerOf se_X11_ownerOf M0.2.1 (Nat.le_of_ble_eq_true rfl) ⟨Nat.zero_le _, Nat.zero_le _⟩ rfl rfl (Nat.le_of_ble_eq_true rfl) zl_239 zk_239 dX11_lettersWithout_12 rfl (fun q_1 => ?_)
    refine a_iconst F dX11_lettersWithout_15 ki_m1 ?_
    refine a_icmp_ne F 25 dX11_lettersWithout_16 (by decide) ?_ ?_
    · refine a_iload_n F dX11_lettersWithout_19 rfl rfl ?_
      refine a_iconst F dX11_lettersWithout_20 ki_1 ?_
      refine a_iload_n F dX11_lettersWithout_21 rfl rfl ?_
      refine a_ishl F dX11_lettersWithout_22 ?_
      refine a_ior F dX11_lettersWithout_23 ?_
      refine a_istore_nN (L' := fun x1_2 => [some (.ref 239), some (.int x1_2), some (.int x2)]) F dX11_lettersWithout_24 rfl (lt_b rfl) (fun _ => rfl) (fun x1_2 => ?_)
      exact b_X11_lettersWithout_25 M0 hk4 x1_2 x2 q_1.2
    · exact b_X11_lettersWithout_25 M0 hk4 x1 x2 q_1.2
def f_X11_lettersWithout_4 : Nat → Int32 → Int32 → Mm → Option (Int32 × Mm) :=
  itr (fun _ _ _ => none) (fun k => f_X11_lettersWithout_4b k)
theorem b_X11_lettersWithout_4 {X : CX} {E : FE} (M0 : MF X E RX11 cX11_lettersWithout 3 2 (some .int)) : ∀ (n : Nat) (x1 x2 : Int32) (S : Mm), At X E false (mQi X Z1 E) 4 [some (.ref 239), some (.int x1), some (.int x2)] [] Z1 S 0 0 (f_X11_lettersWithout_4  n x1 x2 S) := by
  intro n
  induction n with
  | zero => intros; exact a_none
  | succ n ih => intro x1 x2 S; exact b_X11_lettersWithout_4b M0 ih x1 x2 S
def f_X11_lettersWithout (S : Mm) : Option (Int32 × Mm) :=
  f_X11_lettersWithout_4 FU (0 : Int32) (0 : Int32) S
set_option maxRecDepth 20000 in
theorem b_X11_lettersWithout {X : CX} {E : FE} (M0 : MF X E RX11 cX11_lettersWithout 3 2 (some .int)) (S : Mm) : At X E false (mQi X Z1 E) 0 [some (.ref 239), none, none] [] Z1 S 0 0 (f_X11_lettersWithout S) := by
  have F := M0.1
  unfold f_X11_lettersWithout
  refine a_iconst F dX11_lettersWithout_0 ki_0 ?_
  refine a_istore_n (L' := [some (.ref 239), some (.int (0 : Int32)), none]) F dX11_lettersWithout_1 rfl (lt_b rfl) rfl ?_
  refine a_iconst F dX11_lettersWithout_2 ki_0 ?_
  refine a_istore_n (L' := [some (.ref 239), some (.int (0 : Int32)), some (.int (0 : Int32))]) F dX11_lettersWithout_3 rfl (lt_b rfl) rfl ?_
  exact b_X11_lettersWithout_4 M0 FU (0 : Int32) (0 : Int32) S
theorem c_X11_lettersWithout (X : CX) (S : Mm) : CtI X Z1 yX11_lettersWithout cX11_lettersWithout 3 (some .int) 2 [.ref 239] S (f_X11_lettersWithout S) :=
  ctI_of (by decide +kernel) rfl (Nat.le_of_ble_eq_true rfl) (by simp [Value.category]) z1len fun E F R hra hlk => b_X11_lettersWithout ⟨F, R, hra, hlk⟩ S
def f_X11_loans_23 (k4 : Int32 → Int32 → Mm → Option (Int32 × Mm)) (x1 x2 : Int32) (S : Mm) : Option (Int32 × Mm) :=
  nm (x2 + (1 : Int32)) fun x2_1 =>
  k4 x1 x2_1 S
set_option maxRecDepth 20000 in
theorem b_X11_loans_23 {X : CX} {E : FE} (M0 : MF X E RX11 cX11_loans 3 2 (some .int)) {k4 : Int32 → Int32 → Mm → Option (Int32 × Mm)} (hk4 : ∀ (x1 x2 : Int32) (S : Mm), At X E false (mQi X Z1 E) 4 [some (.ref 239), some (.int x1), some (.int x2)] [] Z1 S 0 0 (k4 x1 x2 S)) (x1 x2 : Int32) (S : Mm) : At X E false (mQi X Z1 E) 23 [some (.ref 239), some (.int x1), some (.int x2)] [] Z1 S 0 0 (f_X11_loans_23 k4 x1 x2 S) := by
  have F := M0.1
  unfold f_X11_loans_23
  refine a_iincN (L' := fun x2_1 => [some (.ref 239), some (.int x1), some (.int x2_1)]) F dX11_loans_23 rfl ki_1 (lt_b rfl) (fun _ => rfl) (fun x2_1 => ?_)
  refine a_goto F 4 dX11_loans_26 (by decide) ?_
  exact hk4 x1 x2_1 S
def f_X11_loans_4b (k4 : Int32 → Int32 → Mm → Option (Int32 × Mm)) (x1 x2 : Int32) (S : Mm) : Option (Int32 × Mm) :=
  if (28 : Int32) ≤ x2 then (
   some (x1, S)
  ) else (
   (f_X11_borrowerOf x2 S).bind fun q_1 =>
   if q_1.1 = (-1 : Int32) then (
    f_X11_loans_23 k4 x1 x2 q_1.2
   ) else (
    nm ((x1 + (1 : Int32))) fun x1_2 =>
    f_X11_loans_23 k4 x1_2 x2 q_1.2
   )
  )
set_option maxRecDepth 20000 in
theorem b_X11_loans_4b {X : CX} {E : FE} (M0 : MF X E RX11 cX11_loans 3 2 (some .int)) {k4 : Int32 → Int32 → Mm → Option (Int32 × Mm)} (hk4 : ∀ (x1 x2 : Int32) (S : Mm), At X E false (mQi X Z1 E) 4 [some (.ref 239), some (.int x1), some (.int x2)] [] Z1 S 0 0 (k4 x1 x2 S)) (x1 x2 : Int32) (S : Mm) : At X E false (mQi X Z1 E) 4 [some (.ref 239), some (.int x1), some (.int x2)] [] Z1 S 0 0 (f_X11_loans_4b k4 x1 x2 S) := by
  have F := M0.1
  unfold f_X11_loans_4b
  refine a_iload_n F dX11_loans_4 rfl rfl ?_
  refine a_bipush F dX11_loans_5 kb_28 ?_
  refine a_icmp_ge F 29 dX11_loans_7 (by decide) ?_ ?_
  · refine a_iload_n F dX11_loans_29 rfl rfl ?_
    exact a_iret F M0.2.2.1 M0.2.2.2 dX11_loans_30
  · refine a_aload_n F dX11_loans_10 rfl rfl ?_
    refine a_iload_n F dX11_loans_11 rfl rfl ?_
    refine a_callVI F (As := [.int x2]) cfX11 rfl (c_X11_borrowerOf X x2 S) mw_X11_borrowerOf ml_X11_315 im_X11_borrowerOf se_X11_borrowerOf M0.2.1 (Nat.le_of_ble_eq_true rfl) ⟨Nat.zero_le _, Nat.zero_le _⟩ rfl rfl (Nat.le_of_ble_eq_true rfl) zl_239 zk_239 dX11_loans_12 rfl (fun q_1 => ?_)
    refine a_iconst F dX11_loans_15 ki_m1 ?_
    refine a_icmp_eq F 23 dX11_loans_16 (by decide) ?_ ?_
    · exact b_X11_loans_23 M0 hk4 x1 x2 q_1.2
    · refine a_iload_n F dX11_loans_19 rfl rfl ?_
      refine a_iconst F dX11_loans_20 ki_1 ?_
      refine a_iadd F dX11_loans_21 ?_
      refine a_istore_nN (L' := fun x1_2 => [some (.ref 239), some (.int x1_2), some (.int x2)]) F dX11_loans_22 rfl (lt_b rfl) (fun _ => rfl) (fun x1_2 => ?_)
      exact b_X11_loans_23 M0 hk4 x1_2 x2 q_1.2
def f_X11_loans_4 : Nat → Int32 → Int32 → Mm → Option (Int32 × Mm) :=
  itr (fun _ _ _ => none) (fun k => f_X11_loans_4b k)
theorem b_X11_loans_4 {X : CX} {E : FE} (M0 : MF X E RX11 cX11_loans 3 2 (some .int)) : ∀ (n : Nat) (x1 x2 : Int32) (S : Mm), At X E false (mQi X Z1 E) 4 [some (.ref 239), some (.int x1), some (.int x2)] [] Z1 S 0 0 (f_X11_loans_4  n x1 x2 S) := by
  intro n
  induction n with
  | zero => intros; exact a_none
  | succ n ih => intro x1 x2 S; exact b_X11_loans_4b M0 ih x1 x2 S
def f_X11_loans (S : Mm) : Option (Int32 × Mm) :=
  f_X11_loans_4 FU (0 : Int32) (0 : Int32) S
set_option maxRecDepth 20000 in
theorem b_X11_loans {X : CX} {E : FE} (M0 : MF X E RX11 cX11_loans 3 2 (some .int)) (S : Mm) : At X E false (mQi X Z1 E) 0 [some (.ref 239), none, none] [] Z1 S 0 0 (f_X11_loans S) := by
  have F := M0.1
  unfold f_X11_loans
  refine a_iconst F dX11_loans_0 ki_0 ?_
  refine a_istore_n (L' := [some (.ref 239), some (.int (0 : Int32)), none]) F dX11_loans_1 rfl (lt_b rfl) rfl ?_
  refine a_iconst F dX11_loans_2 ki_0 ?_
  refine a_istore_n (L' := [some (.ref 239), some (.int (0 : Int32)), some (.int (0 : Int32))]) F dX11_loans_3 rfl (lt_b rfl) rfl ?_
  exact b_X11_loans_4 M0 FU (0 : Int32) (0 : Int32) S
theorem c_X11_loans (X : CX) (S : Mm) : CtI X Z1 yX11_loans cX11_loans 3 (some .int) 2 [.ref 239] S (f_X11_loans S) :=
  ctI_of (by decide +kernel) rfl (Nat.le_of_ble_eq_true rfl) (by simp [Value.category]) z1len fun E F R hra hlk => b_X11_loans ⟨F, R, hra, hlk⟩ S
def f_X11_look (p1 : Int32) (S : Mm) : Option (Int32 × Mm) :=
  nm (uM S 239 0 (0 : Int32)) fun S_1 =>
  if p1 = 0 then (
   some ((S_1 239 6), S_1)
  ) else (
   if p1 = (1 : Int32) then (
    (f_X11_livingOnes S_1).bind fun q_2 =>
    some (q_2.1, q_2.2)
   ) else (
    if p1 = (2 : Int32) then (
     some ((S_1 240 0), S_1)
    ) else (
     if p1 = (3 : Int32) then (
      some (((S_1 239 12) + (1 : Int32)), S_1)
     ) else (
      if p1 = (4 : Int32) then (
       some ((S_1 239 40), S_1)
      ) else (
       if p1 = (5 : Int32) then (
        some ((S_1 240 2), S_1)
       ) else (
        if p1 = (6 : Int32) then (
         some ((S_1 240 1), S_1)
        ) else (
         if p1 = (7 : Int32) then (
          some ((S_1 239 22), S_1)
         ) else (
          if p1 = (8 : Int32) then (
           some ((S_1 239 3), S_1)
          ) else (
           if p1 = (9 : Int32) then (
            (f_X11_lettersWithout S_1).bind fun q_3 =>
            some (q_3.1, q_3.2)
           ) else (
            if p1 = (10 : Int32) then (
             (f_X11_loans S_1).bind fun q_4 =>
             some (q_4.1, q_4.2)
            ) else (
             some ((-2 : Int32), S_1)
            )
           )
          )
         )
        )
       )
      )
     )
    )
   )
  )
set_option maxRecDepth 20000 in
theorem b_X11_look {X : CX} {E : FE} (M0 : MF X E RX11 cX11_look 2 3 (some .int)) (p1 : Int32) (S : Mm) : At X E false (mQi X Z1 E) 0 [some (.ref 239), some (.int p1)] [] Z1 S 0 0 (f_X11_look p1 S) := by
  have F := M0.1
  unfold f_X11_look
  refine a_aload_n F dX11_look_0 rfl rfl ?_
  refine a_iconst F dX11_look_1 ki_0 ?_
  refine a_putI (k := 0) F cfX11 dX11_look_2 fl_X11_107 (by decide) fi_11_0 rfl rfl zl_239 zk_239 ?_
  refine a_nmS (fun S_1 => ?_)
  refine a_iload_n F dX11_look_5 rfl rfl ?_
  refine a_if_ne F 14 dX11_look_6 (by decide) ?_ ?_
  · refine a_aload_n F dX11_look_9 rfl rfl ?_
    refine a_getI (k := 6) F cfX11 dX11_look_10 fl_X11_122 (by decide) fi_11_6 zl_239 zk_239 ?_
    exact a_iret F M0.2.2.1 M0.2.2.2 dX11_look_13
  · refine a_iload_n F dX11_look_14 rfl rfl ?_
    refine a_iconst F dX11_look_15 ki_1 ?_
    refine a_icmp_ne F 24 dX11_look_16 (by decide) ?_ ?_
    · refine a_aload_n F dX11_look_19 rfl rfl ?_
      refine a_callVI F (As := []) cfX11 rfl (c_X11_livingOnes X S_1) mw_X11_livingOnes ml_X11_411 im_X11_livingOnes se_X11_livingOnes M0.2.1 (Nat.le_of_ble_eq_true rfl) ⟨Nat.zero_le _, Nat.zero_le _⟩ rfl rfl (Nat.le_of_ble_eq_true rfl) zl_239 zk_239 dX11_look_20 rfl (fun q_2 => ?_)
      exact a_iret F M0.2.2.1 M0.2.2.2 dX11_look_23
    · refine a_iload_n F dX11_look_24 rfl rfl ?_
      refine a_iconst F dX11_look_25 ki_2 ?_
      refine a_icmp_ne F 36 dX11_look_26 (by decide) ?_ ?_
      · refine a_aload_n F dX11_look_29 rfl rfl ?_
        refine a_getR (k := 1) F cfX11 dX11_look_30 fl_X11_7 (by decide) fi_11_1 zl_239 zk_239 zr_239_1 ?_
        refine a_iconst F dX11_look_33 ki_0 ?_
        refine a_ialdK F 0 dX11_look_34 zl_240 zk_240 ib_0_148 ix_0 ?_
        exact a_iret F M0.2.2.1 M0.2.2.2 dX11_look_35
      · refine a_iload_n F dX11_look_36 rfl rfl ?_
        refine a_iconst F dX11_look_37 ki_3 ?_
        refine a_icmp_ne F 48 dX11_look_38 (by decide) ?_ ?_
        · refine a_aload_n F dX11_look_41 rfl rfl ?_
          refine a_getI (k := 12) F cfX11 dX11_look_42 fl_X11_157 (by decide) fi_11_12 zl_239 zk_239 ?_
          refine a_iconst F dX11_look_45 ki_1 ?_
          refine a_iadd F dX11_look_46 ?_
          exact a_iret F M0.2.2.1 M0.2.2.2 dX11_look_47
        · refine a_iload_n F dX11_look_48 rfl rfl ?_
          refine a_iconst F dX11_look_49 ki_4 ?_
          refine a_icmp_ne F 58 dX11_look_50 (by decide) ?_ ?_
          · refine a_aload_n F dX11_look_53 rfl rfl ?_
            refine a_getI (k := 40) F cfX11 dX11_look_54 fl_X11_125 (by decide) fi_11_40 zl_239 zk_239 ?_
            exact a_iret F M0.2.2.1 M0.2.2.2 dX11_look_57
          · refine a_iload_n F dX11_look_58 rfl rfl ?_
            refine a_iconst F dX11_look_59 ki_5 ?_
            refine a_icmp_ne F 70 dX11_look_60 (by decide) ?_ ?_
            · refine a_aload_n F dX11_look_63 rfl rfl ?_
              refine a_getR (k := 1) F cfX11 dX11_look_64 fl_X11_7 (by decide) fi_11_1 zl_239 zk_239 zr_239_1 ?_
              refine a_iconst F dX11_look_67 ki_2 ?_
              refine a_ialdK F 2 dX11_look_68 zl_240 zk_240 ib_2_148 ix_2 ?_
              exact a_iret F M0.2.2.1 M0.2.2.2 dX11_look_69
            · refine a_iload_n F dX11_look_70 rfl rfl ?_
              refine a_bipush F dX11_look_71 kb_6 ?_
              refine a_icmp_ne F 83 dX11_look_73 (by decide) ?_ ?_
              · refine a_aload_n F dX11_look_76 rfl rfl ?_
                refine a_getR (k := 1) F cfX11 dX11_look_77 fl_X11_7 (by decide) fi_11_1 zl_239 zk_239 zr_239_1 ?_
                refine a_iconst F dX11_look_80 ki_1 ?_
                refine a_ialdK F 1 dX11_look_81 zl_240 zk_240 ib_1_148 ix_1 ?_
                exact a_iret F M0.2.2.1 M0.2.2.2 dX11_look_82
              · refine a_iload_n F dX11_look_83 rfl rfl ?_
                refine a_bipush F dX11_look_84 kb_7 ?_
                refine a_icmp_ne F 94 dX11_look_86 (by decide) ?_ ?_
                · refine a_aload_n F dX11_look_89 rfl rfl ?_
                  refine a_getI (k := 22) F cfX11 dX11_look_90 fl_X11_260 (by decide) fi_11_22 zl_239 zk_239 ?_
                  exact a_iret F M0.2.2.1 M0.2.2.2 dX11_look_93
                · refine a_iload_n F dX11_look_94 rfl rfl ?_
                  refine a_bipush F dX11_look_95 kb_8 ?_
                  refine a_icmp_ne F 105 dX11_look_97 (by decide) ?_ ?_
                  · refine a_aload_n F dX11_look_100 rfl rfl ?_
                    refine a_getI (k := 3) F cfX11 dX11_look_101 fl_X11_110 (by decide) fi_11_3 zl_239 zk_239 ?_
                    exact a_iret F M0.2.2.1 M0.2.2.2 dX11_look_104
                  · refine a_iload_n F dX11_look_105 rfl rfl ?_
                    refine a_bipush F dX11_look_106 kb_9 ?_
                    refine a_icmp_ne F 118 dX11_look_108 (by decide) ?_ ?_
                    · refine a_aload_n F dX11_look_111 rfl rfl ?_
                      refine a_callVI F (As := []) cfX11 rfl (c_X11_lettersWithout X S_1) mw_X11_lettersWithout ml_X11_462 im_X11_lettersWithout se_X11_lettersWithout M0.2.1 (Nat.le_of_ble_eq_true rfl) ⟨Nat.zero_le _, Nat.zero_le _⟩ rfl rfl (Nat.le_of_ble_eq_true rfl) zl_239 zk_239 dX11_look_112 rfl (fun q_3 => ?_)
                      refine a_goto F 133 dX11_look_115 (by decide) ?_
                      exact a_iret F M0.2.2.1 M0.2.2.2 dX11_look_133
                    · refine a_iload_n F dX11_look_118 rfl rfl ?_
                      refine a_bipush F dX11_look_119 kb_10 ?_
                      refine a_icmp_ne F 131 dX11_look_121 (by decide) ?_ ?_
                      · refine a_aload_n F dX11_look_124 rfl rfl ?_
                        refine a_callVI F (As := []) cfX11 rfl (c_X11_loans X S_1) mw_X11_loans ml_X11_465 im_X11_loans se_X11_loans M0.2.1 (Nat.le_of_ble_eq_true rfl) ⟨Nat.zero_le _, Nat.zero_le _⟩ rfl rfl (Nat.le_of_ble_eq_true rfl) zl_239 zk_239 dX11_look_125 rfl (fun q_4 => ?_)
                        refine a_goto F 133 dX11_look_128 (by decide) ?_
                        exact a_iret F M0.2.2.1 M0.2.2.2 dX11_look_133
                      · refine a_bipush F dX11_look_131 kb_m2 ?_
                        exact a_iret F M0.2.2.1 M0.2.2.2 dX11_look_133
theorem c_X11_look (X : CX) (p1 : Int32) (S : Mm) : CtI X Z1 yX11_look cX11_look 2 (some .int) 3 [.ref 239, .int p1] S (f_X11_look p1 S) :=
  ctI_of (by decide +kernel) rfl (Nat.le_of_ble_eq_true rfl) (by simp [Value.category]) z1len fun E F R hra hlk => b_X11_look ⟨F, R, hra, hlk⟩ p1 S
def f_X11_of (p1 p2 : Int32) (S : Mm) : Option (Int32 × Mm) :=
  nm (uM S 239 0 (0 : Int32)) fun S_1 =>
  (f_X11_isPerson p1 S_1).bind fun q_2 =>
  if q_2.1 = 0 then (
   some ((-2 : Int32), q_2.2)
  ) else (
   if p2 = 0 then (
    gd (inB p1 12 = true) <|
    some (((q_2.2 243 (ix p1)) - (1 : Int32)), q_2.2)
   ) else (
    if p2 = (1 : Int32) then (
     gd (inB p1 12 = true) <|
     some (((q_2.2 244 (ix p1)) - (1 : Int32)), q_2.2)
    ) else (
     if p2 = (2 : Int32) then (
      gd (inB p1 12 = true) <|
      some ((q_2.2 245 (ix p1)), q_2.2)
     ) else (
      if p2 = (3 : Int32) then (
       gd (inB ((88 : Int32) + p1) 148 = true) <|
       some (((q_2.2 240 (ix ((88 : Int32) + p1))) - (1 : Int32)), q_2.2)
      ) else (
       if p2 = (4 : Int32) then (
        gd (inB p1 12 = true) <|
        some ((q_2.2 246 (ix p1)), q_2.2)
       ) else (
        if p2 = (5 : Int32) then (
         gd (inB p1 12 = true) <|
         some ((q_2.2 247 (ix p1)), q_2.2)
        ) else (
         if p2 = (6 : Int32) then (
          gd (inB ((100 : Int32) + p1) 148 = true) <|
          some ((q_2.2 240 (ix ((100 : Int32) + p1))), q_2.2)
         ) else (
          if p2 = (7 : Int32) then (
           (f_X11_spouseOf p1 q_2.2).bind fun q_3 =>
           some (q_3.1, q_3.2)
          ) else (
           if p2 = (8 : Int32) then (
            (f_X11_doesLive p1 q_2.2).bind fun q_4 =>
            if q_4.1 = 0 then (
             some ((0 : Int32), q_4.2)
            ) else (
             some ((1 : Int32), q_4.2)
            )
           ) else (
            if p2 = (9 : Int32) then (
             (f_X11_ownedBy p1 q_2.2).bind fun q_5 =>
             some (q_5.1, q_5.2)
            ) else (
             if p2 = (10 : Int32) then (
              (f_X11_lettersOf p1 q_2.2).bind fun q_6 =>
              some (q_6.1, q_6.2)
             ) else (
              if p2 = (11 : Int32) then (
               gd (inB p1 12 = true) <|
               some ((q_2.2 258 (ix p1)), q_2.2)
              ) else (
               some ((-2 : Int32), q_2.2)
              )
             )
            )
           )
          )
         )
        )
       )
      )
     )
    )
   )
  )
set_option maxRecDepth 20000 in
theorem b_X11_of {X : CX} {E : FE} (M0 : MF X E RX11 cX11_of 3 4 (some .int)) (p1 p2 : Int32) (S : Mm) : At X E false (mQi X Z1 E) 0 [some (.ref 239), some (.int p1), some (.int p2)] [] Z1 S 0 0 (f_X11_of p1 p2 S) := by
  have F := M0.1
  unfold f_X11_of
  refine a_aload_n F dX11_of_0 rfl rfl ?_
  refine a_iconst F dX11_of_1 ki_0 ?_
  refine a_putI (k := 0) F cfX11 dX11_of_2 fl_X11_107 (by decide) fi_11_0 rfl rfl zl_239 zk_239 ?_
  refine a_nmS (fun S_1 => ?_)
  refine a_aload_n F dX11_of_5 rfl rfl ?_
  refine a_iload_n F dX11_of_6 rfl rfl ?_
  refine a_callVI F (As := [.int p1]) cfX11 rfl (c_X11_isPerson X p1 S_1) mw_X11_isPerson ml_X11_128 im_X11_isPerson se_X11_isPerson M0.2.1 (Nat.le_of_ble_eq_true rfl) ⟨Nat.zero_le _, Nat.zero_le _⟩ rfl rfl (Nat.le_of_ble_eq_true rfl) zl_239 zk_239 dX11_of_7 rfl (fun q_2 => ?_)
  refine a_if_ne F 16 dX11_of_10 (by decide) ?_ ?_
  · refine a_bipush F dX11_of_13 kb_m2 ?_
    exact a_iret F M0.2.2.1 M0.2.2.2 dX11_of_15
  · refine a_iload_n F dX11_of_16 rfl rfl ?_
    refine a_if_ne F 29 dX11_of_17 (by decide) ?_ ?_
    · refine a_aload_n F dX11_of_20 rfl rfl ?_
      refine a_getR (k := 7) F cfX11 dX11_of_21 fl_X11_19 (by decide) fi_11_7 zl_239 zk_239 zr_239_7 ?_
      refine a_iload_n F dX11_of_24 rfl rfl ?_
      refine a_gd (a_iald F dX11_of_25 zl_243 zk_243 ?_)
      refine a_iconst F dX11_of_26 ki_1 ?_
      refine a_isub F dX11_of_27 ?_
      exact a_iret F M0.2.2.1 M0.2.2.2 dX11_of_28
    · refine a_iload_n F dX11_of_29 rfl rfl ?_
      refine a_iconst F dX11_of_30 ki_1 ?_
      refine a_icmp_ne F 43 dX11_of_31 (by decide) ?_ ?_
      · refine a_aload_n F dX11_of_34 rfl rfl ?_
        refine a_getR (k := 8) F cfX11 dX11_of_35 fl_X11_22 (by decide) fi_11_8 zl_239 zk_239 zr_239_8 ?_
        refine a_iload_n F dX11_of_38 rfl rfl ?_
        refine a_gd (a_iald F dX11_of_39 zl_244 zk_244 ?_)
        refine a_iconst F dX11_of_40 ki_1 ?_
        refine a_isub F dX11_of_41 ?_
        exact a_iret F M0.2.2.1 M0.2.2.2 dX11_of_42
      · refine a_iload_n F dX11_of_43 rfl rfl ?_
        refine a_iconst F dX11_of_44 ki_2 ?_
        refine a_icmp_ne F 55 dX11_of_45 (by decide) ?_ ?_
        · refine a_aload_n F dX11_of_48 rfl rfl ?_
          refine a_getR (k := 9) F cfX11 dX11_of_49 fl_X11_25 (by decide) fi_11_9 zl_239 zk_239 zr_239_9 ?_
          refine a_iload_n F dX11_of_52 rfl rfl ?_
          refine a_gd (a_iald F dX11_of_53 zl_245 zk_245 ?_)
          exact a_iret F M0.2.2.1 M0.2.2.2 dX11_of_54
        · refine a_iload_n F dX11_of_55 rfl rfl ?_
          refine a_iconst F dX11_of_56 ki_3 ?_
          refine a_icmp_ne F 72 dX11_of_57 (by decide) ?_ ?_
          · refine a_aload_n F dX11_of_60 rfl rfl ?_
            refine a_getR (k := 1) F cfX11 dX11_of_61 fl_X11_7 (by decide) fi_11_1 zl_239 zk_239 zr_239_1 ?_
            refine a_bipush F dX11_of_64 kb_88 ?_
            refine a_iload_n F dX11_of_66 rfl rfl ?_
            refine a_iadd F dX11_of_67 ?_
            refine a_gd (a_iald F dX11_of_68 zl_240 zk_240 ?_)
            refine a_iconst F dX11_of_69 ki_1 ?_
            refine a_isub F dX11_of_70 ?_
            exact a_iret F M0.2.2.1 M0.2.2.2 dX11_of_71
          · refine a_iload_n F dX11_of_72 rfl rfl ?_
            refine a_iconst F dX11_of_73 ki_4 ?_
            refine a_icmp_ne F 84 dX11_of_74 (by decide) ?_ ?_
            · refine a_aload_n F dX11_of_77 rfl rfl ?_
              refine a_getR (k := 10) F cfX11 dX11_of_78 fl_X11_28 (by decide) fi_11_10 zl_239 zk_239 zr_239_10 ?_
              refine a_iload_n F dX11_of_81 rfl rfl ?_
              refine a_gd (a_iald F dX11_of_82 zl_246 zk_246 ?_)
              exact a_iret F M0.2.2.1 M0.2.2.2 dX11_of_83
            · refine a_iload_n F dX11_of_84 rfl rfl ?_
              refine a_iconst F dX11_of_85 ki_5 ?_
              refine a_icmp_ne F 96 dX11_of_86 (by decide) ?_ ?_
              · refine a_aload_n F dX11_of_89 rfl rfl ?_
                refine a_getR (k := 11) F cfX11 dX11_of_90 fl_X11_31 (by decide) fi_11_11 zl_239 zk_239 zr_239_11 ?_
                refine a_iload_n F dX11_of_93 rfl rfl ?_
                refine a_gd (a_iald F dX11_of_94 zl_247 zk_247 ?_)
                exact a_iret F M0.2.2.1 M0.2.2.2 dX11_of_95
              · refine a_iload_n F dX11_of_96 rfl rfl ?_
                refine a_bipush F dX11_of_97 kb_6 ?_
                refine a_icmp_ne F 112 dX11_of_99 (by decide) ?_ ?_
                · refine a_aload_n F dX11_of_102 rfl rfl ?_
                  refine a_getR (k := 1) F cfX11 dX11_of_103 fl_X11_7 (by decide) fi_11_1 zl_239 zk_239 zr_239_1 ?_
                  refine a_bipush F dX11_of_106 kb_100 ?_
                  refine a_iload_n F dX11_of_108 rfl rfl ?_
                  refine a_iadd F dX11_of_109 ?_
                  refine a_gd (a_iald F dX11_of_110 zl_240 zk_240 ?_)
                  exact a_iret F M0.2.2.1 M0.2.2.2 dX11_of_111
                · refine a_iload_n F dX11_of_112 rfl rfl ?_
                  refine a_bipush F dX11_of_113 kb_7 ?_
                  refine a_icmp_ne F 124 dX11_of_115 (by decide) ?_ ?_
                  · refine a_aload_n F dX11_of_118 rfl rfl ?_
                    refine a_iload_n F dX11_of_119 rfl rfl ?_
                    refine a_callVI F (As := [.int p1]) cfX11 rfl (c_X11_spouseOf X p1 q_2.2) mw_X11_spouseOf ml_X11_139 im_X11_spouseOf se_X11_spouseOf M0.2.1 (Nat.le_of_ble_eq_true rfl) ⟨Nat.zero_le _, Nat.zero_le _⟩ rfl rfl (Nat.le_of_ble_eq_true rfl) zl_239 zk_239 dX11_of_120 rfl (fun q_3 => ?_)
                    exact a_iret F M0.2.2.1 M0.2.2.2 dX11_of_123
                  · refine a_iload_n F dX11_of_124 rfl rfl ?_
                    refine a_bipush F dX11_of_125 kb_8 ?_
                    refine a_icmp_ne F 144 dX11_of_127 (by decide) ?_ ?_
                    · refine a_aload_n F dX11_of_130 rfl rfl ?_
                      refine a_iload_n F dX11_of_131 rfl rfl ?_
                      refine a_callVI F (As := [.int p1]) cfX11 rfl (c_X11_doesLive X p1 q_2.2) mw_X11_doesLive ml_X11_132 im_X11_doesLive se_X11_doesLive M0.2.1 (Nat.le_of_ble_eq_true rfl) ⟨Nat.zero_le _, Nat.zero_le _⟩ rfl rfl (Nat.le_of_ble_eq_true rfl) zl_239 zk_239 dX11_of_132 rfl (fun q_4 => ?_)
                      refine a_if_eq F 142 dX11_of_135 (by decide) ?_ ?_
                      · refine a_iconst F dX11_of_142 ki_0 ?_
                        exact a_iret F M0.2.2.1 M0.2.2.2 dX11_of_143
                      · refine a_iconst F dX11_of_138 ki_1 ?_
                        refine a_goto F 143 dX11_of_139 (by decide) ?_
                        exact a_iret F M0.2.2.1 M0.2.2.2 dX11_of_143
                    · refine a_iload_n F dX11_of_144 rfl rfl ?_
                      refine a_bipush F dX11_of_145 kb_9 ?_
                      refine a_icmp_ne F 156 dX11_of_147 (by decide) ?_ ?_
                      · refine a_aload_n F dX11_of_150 rfl rfl ?_
                        refine a_iload_n F dX11_of_151 rfl rfl ?_
                        refine a_callVI F (As := [.int p1]) cfX11 rfl (c_X11_ownedBy X p1 q_2.2) mw_X11_ownedBy ml_X11_330 im_X11_ownedBy se_X11_ownedBy M0.2.1 (Nat.le_of_ble_eq_true rfl) ⟨Nat.zero_le _, Nat.zero_le _⟩ rfl rfl (Nat.le_of_ble_eq_true rfl) zl_239 zk_239 dX11_of_152 rfl (fun q_5 => ?_)
                        exact a_iret F M0.2.2.1 M0.2.2.2 dX11_of_155
                      · refine a_iload_n F dX11_of_156 rfl rfl ?_
                        refine a_bipush F dX11_of_157 kb_10 ?_
                        refine a_icmp_ne F 170 dX11_of_159 (by decide) ?_ ?_
                        · refine a_aload_n F dX11_of_162 rfl rfl ?_
                          refine a_iload_n F dX11_of_163 rfl rfl ?_
                          refine a_callVI F (As := [.int p1]) cfX11 rfl (c_X11_lettersOf X p1 q_2.2) mw_X11_lettersOf ml_X11_321 im_X11_lettersOf se_X11_lettersOf M0.2.1 (Nat.le_of_ble_eq_true rfl) ⟨Nat.zero_le _, Nat.zero_le _⟩ rfl rfl (Nat.le_of_ble_eq_true rfl) zl_239 zk_239 dX11_of_164 rfl (fun q_6 => ?_)
                          refine a_goto F 187 dX11_of_167 (by decide) ?_
                          exact a_iret F M0.2.2.1 M0.2.2.2 dX11_of_187
                        · refine a_iload_n F dX11_of_170 rfl rfl ?_
                          refine a_bipush F dX11_of_171 kb_11 ?_
                          refine a_icmp_ne F 185 dX11_of_173 (by decide) ?_ ?_
                          · refine a_aload_n F dX11_of_176 rfl rfl ?_
                            refine a_getR (k := 36) F cfX11 dX11_of_177 fl_X11_68 (by decide) fi_11_36 zl_239 zk_239 zr_239_36 ?_
                            refine a_iload_n F dX11_of_180 rfl rfl ?_
                            refine a_gd (a_iald F dX11_of_181 zl_258 zk_258 ?_)
                            refine a_goto F 187 dX11_of_182 (by decide) ?_
                            exact a_iret F M0.2.2.1 M0.2.2.2 dX11_of_187
                          · refine a_bipush F dX11_of_185 kb_m2 ?_
                            exact a_iret F M0.2.2.1 M0.2.2.2 dX11_of_187
theorem c_X11_of (X : CX) (p1 p2 : Int32) (S : Mm) : CtI X Z1 yX11_of cX11_of 3 (some .int) 4 [.ref 239, .int p1, .int p2] S (f_X11_of p1 p2 S) :=
  ctI_of (by decide +kernel) rfl (Nat.le_of_ble_eq_true rfl) (by simp [Value.category]) z1len fun E F R hra hlk => b_X11_of ⟨F, R, hra, hlk⟩ p1 p2 S
