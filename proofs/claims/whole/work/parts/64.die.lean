/-! ===== a death: letters go, loans end, a wedding ends ===== -/
theorem fcM_congr {P : PP} {D D' : DD} (h1 : ∀ q, dSp D' q = dSp D q) (h2 : ∀ l, dOw D' l = dOw D l) (h3 : dDay D' = dDay D) (h4 : ∀ q, dCoin D' q = dCoin D q) (p q l i : Nat) : fcM P D' p q l i = fcM P D p q l i := by
  unfold fcM
  split <;> simp only [h1, h2, h3, h4, kin_congr h1]
theorem liv_congr {P : PP} {D D' : DD} (h : ∀ q, dDead D' q = dDead D q) (q : Nat) : liv P D' q = liv P D q := by unfold liv; rw [h]
theorem hwM_congr {P : PP} {D D' : DD} {T : TT} (h : ∀ q, dDead D' q = dDead D q) (p l : Nat) : ∀ d k, hwM P D' T p l d k = hwM P D T p l d k := by
  intro d
  induction d with
  | zero => intro k; rfl
  | succ d ih => intro k; unfold hwM; rw [ih, liv_congr h, liv_congr h]
theorem heirW_congr {P : PP} {D D' : DD} {T : TT} (h : ∀ q, dDead D' q = dDead D q) (p l : Nat) : heirW P D' T p l = heirW P D T p l := hwM_congr h p l _ _
theorem worth_congr {P : PP} {D D' : DD} {T : TT} (h1 : ∀ q, dSp D' q = dSp D q) (h2 : ∀ l, dOw D' l = dOw D l) (h3 : dDay D' = dDay D) (h4 : ∀ q, dCoin D' q = dCoin D q) (p q l : Nat) : worthM P D' T p q l = worthM P D T p q l := by
  unfold worthM
  congr 1
  funext i
  exact fcM_congr h1 h2 h3 h4 p q l i
theorem heirL_congr {P : PP} {D D' : DD} {T : TT} (h1 : ∀ q, dSp D' q = dSp D q) (h2 : ∀ l, dOw D' l = dOw D l) (h3 : dDay D' = dDay D) (h4 : ∀ q, dCoin D' q = dCoin D q) (h5 : ∀ q, dDead D' q = dDead D q) (p l : Nat) : heirL P D' T p l = heirL P D T p l := by
  unfold heirL
  have key : ∀ d q b m, hlM P D' T p l d q b m = hlM P D T p l d q b m := by
    intro d
    induction d with
    | zero => intro q b m; rfl
    | succ d ih =>
      intro q b m
      unfold hlM
      rw [ih, ih, liv_congr h5, worth_congr h1 h2 h3 h4]
  exact key _ _ _ _
/-- one letter of who dies goes; his loan of one ends -/
def paS (P : PP) (T : TT) (th : Bool) (p l : Nat) (s : DD × (Nat → Int32)) : DD × (Nat → Int32) :=
  if dOw s.1 l = p + 1 then
    (if heirW P s.1 T p l ≠ 0 then (psD th s.1 l (heirW P s.1 T p l), psW th s.1 s.2 l (heirW P s.1 T p l) 3) else (psD th s.1 l (heirL P s.1 T p l), psW th s.1 s.2 l (heirL P s.1 T p l) 4))
  else s
def loS (p l : Nat) (s : DD × (Nat → Int32)) : DD × (Nat → Int32) := if dLo s.1 l = p + 1 then (sLo s.1 l 0 0, s.2) else s
theorem psD_lo (th : Bool) (D : DD) (l o j : Nat) : dLo (psD th D l o) j = dLo D j := by unfold psD; split <;> rfl
theorem psD_dead (th : Bool) (D : DD) (l o j : Nat) : dDead (psD th D l o) j = dDead D j := by unfold psD; split <;> rfl
theorem psD_day (th : Bool) (D : DD) (l o : Nat) : dDay (psD th D l o) = dDay D := by unfold psD; split <;> rfl
theorem psD_coin (th : Bool) (D : DD) (l o j : Nat) : dCoin (psD th D l o) j = dCoin D j := by unfold psD; split <;> rfl
theorem psD_ow (th : Bool) (D : DD) (l o j : Nat) : dOw (psD th D l o) j = if j = l then o else dOw D j := by
  have : dOw (sOw D l o) j = if j = l then o else dOw D j := by
    by_cases c : j = l
    · rw [if_pos c, c]; exact un_eq _ _ _ _
    · rw [if_neg c]; exact un_ne _ _ _ c
  unfold psD
  split
  · exact this
  · exact this
theorem pa_lo (P : PP) (T : TT) (th : Bool) (p i j : Nat) (s : DD × (Nat → Int32)) : paS P T th p i (loS p j s) = loS p j (paS P T th p i s) := by
  obtain ⟨D, W⟩ := s
  unfold loS
  by_cases c : dLo D j = p + 1
  · rw [if_pos c]
    unfold paS
    have e1 : heirW P (sLo D j 0 0) T p i = heirW P D T p i := heirW_congr (D := D) (D' := sLo D j 0 0) (fun _ => rfl) p i
    have e2 : heirL P (sLo D j 0 0) T p i = heirL P D T p i := heirL_congr (D := D) (D' := sLo D j 0 0) (fun _ => rfl) (fun _ => rfl) rfl (fun _ => rfl) (fun _ => rfl) p i
    show (if dOw (sLo D j 0 0) i = p + 1 then _ else _) = _
    rw [e1, e2]
    by_cases k : dOw D i = p + 1
    · rw [if_pos (show dOw (sLo D j 0 0) i = p + 1 from k), if_pos (show dOw (D, W).1 i = p + 1 from k)]
      by_cases z : heirW P D T p i ≠ 0
      · rw [if_pos z, if_pos z]
        show (psD th (sLo D j 0 0) i _, psW th (sLo D j 0 0) W i _ 3) = if dLo (psD th D i _) j = p + 1 then _ else _
        rw [psD_lo, if_pos c, ps_lo, psW_lo]
      · rw [if_neg z, if_neg z]
        show (psD th (sLo D j 0 0) i _, psW th (sLo D j 0 0) W i _ 4) = if dLo (psD th D i _) j = p + 1 then _ else _
        rw [psD_lo, if_pos c, ps_lo, psW_lo]
    · rw [if_neg (show ¬ dOw (sLo D j 0 0) i = p + 1 from k), if_neg (show ¬ dOw (D, W).1 i = p + 1 from k), if_pos c]
  · rw [if_neg c]
    have : ∀ s, dLo (paS P T th p i s).1 j = dLo s.1 j := fun s => by
      unfold paS
      split
      · split <;> exact psD_lo _ _ _ _ _
      · rfl
    rw [if_neg (by rw [this]; exact c)]
theorem ff_comm {σ : Type} {a b : Nat → σ → σ} (h : ∀ i j s, a i (b j s) = b j (a i s)) : ∀ (d lo : Nat) (s : σ), ff (fun l s => b l (a l s)) lo d s = ff b lo d (ff a lo d s) := by
  have h1 : ∀ (d lo j : Nat) (s : σ), ff a lo d (b j s) = b j (ff a lo d s) := by
    intro d
    induction d with
    | zero => intro lo j s; rfl
    | succ d ih => intro lo j s; unfold ff; rw [h, ih]
  intro d
  induction d with
  | zero => intro lo s; rfl
  | succ d ih => intro lo s; unfold ff; rw [ih, h1]; rfl
/-- what of people a death needs -/
def WD0 (P : PP) (D : DD) : Prop := (∀ l, l < 28 → dOw D l ≤ pN P ∧ dLo D l ≤ pN P) ∧ (∀ q, q < pN P → dSp D q ≤ pN P ∧ dSp D q ≠ q + 1) ∧ dLn D ≤ 200
theorem WD0_ps {P : PP} {D : DD} (h : WD0 P D) {th : Bool} {l o : Nat} (ho : o ≤ pN P) : WD0 P (psD th D l o) := by
  refine ⟨fun j hj => ?_, fun q hq => by rw [psD_sp]; exact h.2.1 q hq, (psD_ln th D l o).2 h.2.2⟩
  rw [psD_ow, psD_lo]
  have := h.1 j hj
  split <;> omega
theorem WD0_lo {P : PP} {D : DD} (h : WD0 P D) {l : Nat} : WD0 P (sLo D l 0 0) := by
  refine ⟨fun j hj => ⟨(h.1 j hj).1, ?_⟩, h.2.1, h.2.2⟩
  show un D.1 3 l 0 3 j ≤ pN P
  by_cases c : j = l
  · rw [c, un_eq]; exact Nat.zero_le _
  · rw [un_ne _ _ _ c]; exact (h.1 j hj).2
theorem WD0_pa {P : PP} {T : TT} {th : Bool} {p l : Nat} (hw : WFT (pN P) T) (hp : p < 12) {s : DD × (Nat → Int32)} (h : WD0 P s.1) : WD0 P (paS P T th p l s).1 := by
  unfold paS
  split
  · split
    · exact WD0_ps h (heirW_le hw hp)
    · exact WD0_ps h heirL_le
  · exact h
theorem WD0_loS {P : PP} {p l : Nat} {s : DD × (Nat → Int32)} (h : WD0 P s.1) : WD0 P (loS p l s).1 := by
  unfold loS
  split
  · exact WD0_lo h
  · exact h
theorem pa_sp (P : PP) (T : TT) (th : Bool) (p l : Nat) (s : DD × (Nat → Int32)) (q : Nat) : dSp (paS P T th p l s).1 q = dSp s.1 q := by
  unfold paS
  split
  · split <;> exact psD_sp _ _ _ _ _
  · rfl
theorem lo_sp (p l : Nat) (s : DD × (Nat → Int32)) (q : Nat) : dSp (loS p l s).1 q = dSp s.1 q := by
  unfold loS
  split <;> rfl
theorem pa_dead (P : PP) (T : TT) (th : Bool) (p l : Nat) (s : DD × (Nat → Int32)) (q : Nat) : dDead (paS P T th p l s).1 q = dDead s.1 q := by
  unfold paS
  split
  · split <;> exact psD_dead _ _ _ _ _
  · rfl
def bkC (th : Bool) (A : Mm) (D : DD) (W : Nat → Int32) : Prop := th = th ∧ (A 32 1 = nI (dLn D) ∧ ∀ i, i < 5 * dLn D → A 33 i = W i)
theorem bkC.congr {th : Bool} {A A' : Mm} {D D' : DD} {W : Nat → Int32} (h : bkC th A D W) (e : dLn D' = dLn D) (e1 : A' 32 = A 32) (e2 : A' 33 = A 33) : bkC th A' D' W := by
  unfold bkC at h ⊢
  rw [e, e1, e2]
  exact h
/-- the end of it: the wedding -/
def spEnd (c p : Nat) (A : Mm) : Option Mm := if A (c + 8) p = -1 then some A else gd (inB (A (c + 8) p) 12 = true) (some (uM A (c + 8) (ix (A (c + 8) p)) (-1)))
section DIE
variable {P : PP} {D : DD} {T : TT} {W : Nat → Int32}
theorem C_passA_32 {A : Mm} {c : Nat} (hc : c = 1) (hK : RK (fun j => A (c + j)) P D) (hD : WD0 P D) (hN : pN P ≤ 12) (hb : bkC false A D W) {l o : Nat} (hl : l < 28) (ho : o ≤ pN P) (how : Int32) : ∃ A', f_X1_pass_32 c (nI l) (eo o) how A = some A' ∧ RK (fun j => A' (c + j)) P (psD false D l o) ∧ bkC false A' (psD false D l o) (psW false D W l o how) ∧ ∀ k, k ≠ c + 10 → k ≠ 32 → k ≠ 33 → A' k = A k := by
  subst hc
  have hb := hb.2
  obtain ⟨A', e, g1, g2, g3, g4⟩ := C_pass hK (fun l hl => (hD.1 l hl).1) hN hD.2.2 hb.1 hb.2 hl ho how
  exact ⟨A', e, g1, ⟨rfl, g2, g3⟩, fun k a b c => g4 k (by omega) b c⟩
theorem C_passA_n {A : Mm} {c : Nat} (hc : isClan c) (hK : RK (fun j => A (c + j)) P D) (hb : bkC true A D W) {l o : Nat} (hl : l < 28) (how : Int32) : ∃ A', f_X1_pass_n c (nI l) (eo o) how A = some A' ∧ RK (fun j => A' (c + j)) P (psD true D l o) ∧ bkC true A' (psD true D l o) (psW true D W l o how) ∧ ∀ k, k ≠ c + 10 → k ≠ 32 → k ≠ 33 → A' k = A k := by
  unfold f_X1_pass_n
  rw [gd_t (by omega) (by omega), nm_x, ix_nI (by omega)]
  have eD : psD true D l o = sOw D l o := if_pos (Or.inl rfl)
  have eW : psW true D W l o how = W := if_pos (Or.inl rfl)
  refine ⟨_, rfl, RK_ps true (RKc_ow hK o hl), ?_, fun k a _ _ => uM_off _ _ _ a⟩
  rw [eD, eW]
  exact hb.congr rfl (uM_off _ _ _ (Ne.symm (kOK_ne (k := 32) (by decide) hc (by omega)))) (uM_off _ _ _ (Ne.symm (kOK_ne (k := 33) (by decide) hc (by omega))))
theorem C_die17_32 {c : Nat} (hc : isClan c) (hc1 : c = 1) (hP : WFP P) (hw : WFT (pN P) T) {p : Nat} (hp : p < pN P) : ∀ (d lo fuel : Nat) (A : Mm) (s : DD × (Nat → Int32)), lo + d = 28 → d < fuel → RK (fun j => A (c + j)) P s.1 → RTK (fun j => A (17 + j)) T → WD0 P s.1 → bkC false A s.1 s.2 → ∃ A', f_X1_die_17_32_17 c fuel (nI p) (nI lo) A = spEnd c p A' ∧ RK (fun j => A' (c + j)) P (ff (fun l s => loS p l (paS P T false p l s)) lo d s).1 ∧ WD0 P (ff (fun l s => loS p l (paS P T false p l s)) lo d s).1 ∧ bkC false A' (ff (fun l s => loS p l (paS P T false p l s)) lo d s).1 (ff (fun l s => loS p l (paS P T false p l s)) lo d s).2 ∧ ∀ k, k ≠ c + 10 → k ≠ c + 11 → k ≠ c + 12 → k ≠ 23 → k ≠ 24 → k ≠ 32 → k ≠ 33 → A' k = A k := by
  have hN := hP.1
  intro d
  induction d with
  | zero =>
    intro lo fuel A s h1 h2 hK hT hD hb
    cases fuel with
    | zero => omega
    | succ fu =>
      have e : lo = 28 := by omega
      subst e
      refine ⟨A, ?_, hK, hD, hb, fun _ _ _ _ _ _ _ _ => rfl⟩
      show f_X1_die_17_32_17b (f_X1_die_17_32_17 c fu) c (nI p) (nI 28) A = _
      unfold f_X1_die_17_32_17b spEnd
      rw [if_pos (show (28 : Int32) ≤ nI 28 from nI_ge_t (a := 28) (by omega) (by omega)), gd_t (by omega) (by omega), gd_t (by omega) (by omega), ix_nI (by omega)]
      simp only [nm_x]
  | succ d ih =>
    intro lo fuel A s h1 h2 hK hT hD hb
    cases fuel with
    | zero => omega
    | succ fu =>
      have hlo : lo < 28 := by omega
      have k10 : c + 10 ≠ 24 := kOK_ne (k := 24) (by decide) hc (by omega)
      have ne : ∀ j, j < 16 → (c + j < 17 ∨ 32 ≤ c + j) ∧ c + j ≠ 32 ∧ c + j ≠ 33 := fun j hj => by
        have := of_decide_eq_true (List.all_eq_true.mp (show clanL.all (fun c => decide (c + 16 ≤ 17 ∨ 34 ≤ c)) = true by decide) c hc)
        omega
      -- behind the passing of the letter
      have rest : ∀ (A1 : Mm) (s1 : DD × (Nat → Int32)), RK (fun j => A1 (c + j)) P s1.1 → WD0 P s1.1 → bkC false A1 s1.1 s1.2 → RTK (fun j => A1 (17 + j)) T → ∃ A', f_X1_die_17_32_91 (f_X1_die_17_32_17 c fu) c (nI p) (nI lo) A1 = spEnd c p A' ∧ RK (fun j => A' (c + j)) P (ff (fun l s => loS p l (paS P T false p l s)) (lo + 1) d (loS p lo s1)).1 ∧ WD0 P (ff (fun l s => loS p l (paS P T false p l s)) (lo + 1) d (loS p lo s1)).1 ∧ bkC false A' (ff (fun l s => loS p l (paS P T false p l s)) (lo + 1) d (loS p lo s1)).1 (ff (fun l s => loS p l (paS P T false p l s)) (lo + 1) d (loS p lo s1)).2 ∧ ∀ k, k ≠ c + 10 → k ≠ c + 11 → k ≠ c + 12 → k ≠ 23 → k ≠ 24 → k ≠ 32 → k ≠ 33 → A' k = A1 k := fun A1 s1 rK rD rb rT => by
        have k11 : A1 (c + 11) lo = eo (dLo s1.1 lo) := (rK.2.2.2.1 lo hlo).2.1
        have wl := (rD.1 lo hlo).2
        unfold f_X1_die_17_32_91 f_X1_die_17_32_108
        rw [gd_t (by omega) (by omega), ix_nI (by omega), k11]
        by_cases z : dLo s1.1 lo = p + 1
        · have e : loS p lo s1 = (sLo s1.1 lo 0 0, s1.2) := if_pos z
          obtain ⟨A2, e2, g1, g2⟩ := C_endLoan rK hlo
          have n11 := ne 11 (by omega)
          have n12 := ne 12 (by omega)
          obtain ⟨A3, u1, u2, u3, u4, u5⟩ := ih (lo + 1) fu A2 (loS p lo s1) (by omega) (by omega) (by rw [e]; exact g1) (rT.congr fun j hj _ _ => g2 _ (by omega) (by omega)) (WD0_loS rD) (by rw [e]; exact rb.congr rfl (g2 _ (by omega) (by omega)) (g2 _ (by omega) (by omega)))
          refine ⟨A3, ?_, u2, u3, u4, fun k a b d e f g h => by rw [u5 k a b d e f g h, g2 k b d]⟩
          rw [if_pos ((eo_nI (by omega) (by omega)).mpr z), e2]
          simp only [bind_x, nm_x]
          rw [nI_1]
          exact u1
        · have e : loS p lo s1 = s1 := if_neg z
          rw [if_neg (by rw [eo_nI (by omega) (by omega)]; exact z), nm_x, nI_1, e]
          exact ih (lo + 1) fu A1 s1 (by omega) (by omega) rK rT rD rb
      have passed : ∀ (A1 : Mm) (o : Nat) (how : Int32), RK (fun j => A1 (c + j)) P s.1 → RTK (fun j => A1 (17 + j)) T → bkC false A1 s.1 s.2 → o ≤ pN P → paS P T false p lo s = (psD false s.1 lo o, psW false s.1 s.2 lo o how) → (∀ k, k ≠ 23 → k ≠ 24 → A1 k = A k) → ∃ A', f_X1_die_17_32_80 (f_X1_die_17_32_17 c fu) c (nI p) (nI lo) (eo o) how A1 = spEnd c p A' ∧ RK (fun j => A' (c + j)) P (ff (fun l s => loS p l (paS P T false p l s)) (lo + 1) d (loS p lo (paS P T false p lo s))).1 ∧ WD0 P (ff (fun l s => loS p l (paS P T false p l s)) (lo + 1) d (loS p lo (paS P T false p lo s))).1 ∧ bkC false A' (ff (fun l s => loS p l (paS P T false p l s)) (lo + 1) d (loS p lo (paS P T false p lo s))).1 (ff (fun l s => loS p l (paS P T false p l s)) (lo + 1) d (loS p lo (paS P T false p lo s))).2 ∧ ∀ k, k ≠ c + 10 → k ≠ c + 11 → k ≠ c + 12 → k ≠ 23 → k ≠ 24 → k ≠ 32 → k ≠ 33 → A' k = A k := fun A1 o how aK aT ab ho hpa hA => by
        obtain ⟨A2, e2, g1, g2, g3⟩ := C_passA_32 (W := s.2) hc1 aK hD hN ab hlo ho how
        have n10 := ne 10 (by omega)
        obtain ⟨A3, u1, u2, u3, u4, u5⟩ := rest A2 (paS P T false p lo s) (by rw [hpa]; exact g1) (WD0_pa hw (by omega) hD) (by rw [hpa]; exact g2) (aT.congr fun j hj _ _ => g3 _ (by omega) (by omega) (by omega))
        refine ⟨A3, ?_, u2, u3, u4, fun k a b d e f g h => by rw [u5 k a b d e f g h, g3 k a g h, hA k e f]⟩
        unfold f_X1_die_17_32_80
        rw [e2]
        exact u1
      have k10o : A (c + 10) lo = eo (dOw s.1 lo) := (hK.2.2.2.1 lo hlo).1
      have wo := (hD.1 lo hlo).1
      show ∃ A', f_X1_die_17_32_17b (f_X1_die_17_32_17 c fu) c (nI p) (nI lo) A = spEnd c p A' ∧ RK (fun j => A' (c + j)) P (ff (fun l s => loS p l (paS P T false p l s)) (lo + 1) d (loS p lo (paS P T false p lo s))).1 ∧ WD0 P (ff (fun l s => loS p l (paS P T false p l s)) (lo + 1) d (loS p lo (paS P T false p lo s))).1 ∧ bkC false A' (ff (fun l s => loS p l (paS P T false p l s)) (lo + 1) d (loS p lo (paS P T false p lo s))).1 (ff (fun l s => loS p l (paS P T false p l s)) (lo + 1) d (loS p lo (paS P T false p lo s))).2 ∧ ∀ k, k ≠ c + 10 → k ≠ c + 11 → k ≠ c + 12 → k ≠ 23 → k ≠ 24 → k ≠ 32 → k ≠ 33 → A' k = A k
      unfold f_X1_die_17_32_17b
      rw [if_neg (show ¬ (28 : Int32) ≤ nI lo from nI_ge_f (a := 28) (by omega) (by omega)), gd_t (by omega) (by omega), ix_nI (by omega), k10o]
      by_cases z : dOw s.1 lo = p + 1
      · rw [if_pos ((eo_nI (by omega) (by omega)).mpr z), C_heirByWill (x := A c 4) hT hN hw hp hlo hK.2.1]
        simp only [bind_x]
        have hwl := heirW_le (P := P) (D := s.1) (T := T) (p := p) (l := lo) hw (by omega)
        unfold f_X1_die_17_32_59
        by_cases y : heirW P s.1 T p lo = 0
        · obtain ⟨f, g, e⟩ := C_heirOf hc hK hT hP hw hp hlo (hD.2.1 p hp).1
          rw [if_pos ((eo_m1 (by omega)).mpr y), if_pos ((eo_m1 (by omega)).mpr y), e]
          simp only [bind_x]
          have hpa : paS P T false p lo s = (psD false s.1 lo (heirL P s.1 T p lo), psW false s.1 s.2 lo (heirL P s.1 T p lo) 4) := by
            unfold paS
            rw [if_pos z, if_neg (fun q => q y)]
          exact passed (md A f g) (heirL P s.1 T p lo) 4 (RK_md hc hK) (RTK_md hT) (hb.congr rfl (md_off _ _ _ (by decide) (by decide)) (md_off _ _ _ (by decide) (by decide))) heirL_le hpa (fun k a b => md_off _ _ _ a b)
        · rw [if_neg (by rw [eo_m1 (by omega)]; exact y), if_neg (by rw [eo_m1 (by omega)]; exact y)]
          have hpa : paS P T false p lo s = (psD false s.1 lo (heirW P s.1 T p lo), psW false s.1 s.2 lo (heirW P s.1 T p lo) 3) := by
            unfold paS
            rw [if_pos z, if_pos y]
          exact passed A (heirW P s.1 T p lo) 3 hK hT hb hwl hpa (fun _ _ _ => rfl)
      · have hpa : paS P T false p lo s = s := if_neg z
        rw [if_neg (by rw [eo_nI (by omega) (by omega)]; exact z), hpa]
        exact rest A s hK hD hb hT
theorem C_die17_n {c : Nat} (hc : isClan c) (hP : WFP P) (hw : WFT (pN P) T) {p : Nat} (hp : p < pN P) : ∀ (d lo fuel : Nat) (A : Mm) (s : DD × (Nat → Int32)), lo + d = 28 → d < fuel → RK (fun j => A (c + j)) P s.1 → RTK (fun j => A (17 + j)) T → WD0 P s.1 → bkC true A s.1 s.2 → ∃ A', f_X1_die_17_n_17 c fuel (nI p) (nI lo) A = spEnd c p A' ∧ RK (fun j => A' (c + j)) P (ff (fun l s => loS p l (paS P T true p l s)) lo d s).1 ∧ WD0 P (ff (fun l s => loS p l (paS P T true p l s)) lo d s).1 ∧ bkC true A' (ff (fun l s => loS p l (paS P T true p l s)) lo d s).1 (ff (fun l s => loS p l (paS P T true p l s)) lo d s).2 ∧ ∀ k, k ≠ c + 10 → k ≠ c + 11 → k ≠ c + 12 → k ≠ 23 → k ≠ 24 → k ≠ 32 → k ≠ 33 → A' k = A k := by
  have hN := hP.1
  intro d
  induction d with
  | zero =>
    intro lo fuel A s h1 h2 hK hT hD hb
    cases fuel with
    | zero => omega
    | succ fu =>
      have e : lo = 28 := by omega
      subst e
      refine ⟨A, ?_, hK, hD, hb, fun _ _ _ _ _ _ _ _ => rfl⟩
      show f_X1_die_17_n_17b (f_X1_die_17_n_17 c fu) c (nI p) (nI 28) A = _
      unfold f_X1_die_17_n_17b spEnd
      rw [if_pos (show (28 : Int32) ≤ nI 28 from nI_ge_t (a := 28) (by omega) (by omega)), gd_t (by omega) (by omega), gd_t (by omega) (by omega), ix_nI (by omega)]
      simp only [nm_x]
  | succ d ih =>
    intro lo fuel A s h1 h2 hK hT hD hb
    cases fuel with
    | zero => omega
    | succ fu =>
      have hlo : lo < 28 := by omega
      have k10 : c + 10 ≠ 24 := kOK_ne (k := 24) (by decide) hc (by omega)
      have ne : ∀ j, j < 16 → (c + j < 17 ∨ 32 ≤ c + j) ∧ c + j ≠ 32 ∧ c + j ≠ 33 := fun j hj => by
        have := of_decide_eq_true (List.all_eq_true.mp (show clanL.all (fun c => decide (c + 16 ≤ 17 ∨ 34 ≤ c)) = true by decide) c hc)
        omega
      -- behind the passing of the letter
      have rest : ∀ (A1 : Mm) (s1 : DD × (Nat → Int32)), RK (fun j => A1 (c + j)) P s1.1 → WD0 P s1.1 → bkC true A1 s1.1 s1.2 → RTK (fun j => A1 (17 + j)) T → ∃ A', f_X1_die_17_n_91 (f_X1_die_17_n_17 c fu) c (nI p) (nI lo) A1 = spEnd c p A' ∧ RK (fun j => A' (c + j)) P (ff (fun l s => loS p l (paS P T true p l s)) (lo + 1) d (loS p lo s1)).1 ∧ WD0 P (ff (fun l s => loS p l (paS P T true p l s)) (lo + 1) d (loS p lo s1)).1 ∧ bkC true A' (ff (fun l s => loS p l (paS P T true p l s)) (lo + 1) d (loS p lo s1)).1 (ff (fun l s => loS p l (paS P T true p l s)) (lo + 1) d (loS p lo s1)).2 ∧ ∀ k, k ≠ c + 10 → k ≠ c + 11 → k ≠ c + 12 → k ≠ 23 → k ≠ 24 → k ≠ 32 → k ≠ 33 → A' k = A1 k := fun A1 s1 rK rD rb rT => by
        have k11 : A1 (c + 11) lo = eo (dLo s1.1 lo) := (rK.2.2.2.1 lo hlo).2.1
        have wl := (rD.1 lo hlo).2
        unfold f_X1_die_17_n_91 f_X1_die_17_n_108
        rw [gd_t (by omega) (by omega), ix_nI (by omega), k11]
        by_cases z : dLo s1.1 lo = p + 1
        · have e : loS p lo s1 = (sLo s1.1 lo 0 0, s1.2) := if_pos z
          obtain ⟨A2, e2, g1, g2⟩ := C_endLoan rK hlo
          have n11 := ne 11 (by omega)
          have n12 := ne 12 (by omega)
          obtain ⟨A3, u1, u2, u3, u4, u5⟩ := ih (lo + 1) fu A2 (loS p lo s1) (by omega) (by omega) (by rw [e]; exact g1) (rT.congr fun j hj _ _ => g2 _ (by omega) (by omega)) (WD0_loS rD) (by rw [e]; exact rb.congr rfl (g2 _ (by omega) (by omega)) (g2 _ (by omega) (by omega)))
          refine ⟨A3, ?_, u2, u3, u4, fun k a b d e f g h => by rw [u5 k a b d e f g h, g2 k b d]⟩
          rw [if_pos ((eo_nI (by omega) (by omega)).mpr z), e2]
          simp only [bind_x, nm_x]
          rw [nI_1]
          exact u1
        · have e : loS p lo s1 = s1 := if_neg z
          rw [if_neg (by rw [eo_nI (by omega) (by omega)]; exact z), nm_x, nI_1, e]
          exact ih (lo + 1) fu A1 s1 (by omega) (by omega) rK rT rD rb
      have passed : ∀ (A1 : Mm) (o : Nat) (how : Int32), RK (fun j => A1 (c + j)) P s.1 → RTK (fun j => A1 (17 + j)) T → bkC true A1 s.1 s.2 → o ≤ pN P → paS P T true p lo s = (psD true s.1 lo o, psW true s.1 s.2 lo o how) → (∀ k, k ≠ 23 → k ≠ 24 → A1 k = A k) → ∃ A', f_X1_die_17_n_80 (f_X1_die_17_n_17 c fu) c (nI p) (nI lo) (eo o) how A1 = spEnd c p A' ∧ RK (fun j => A' (c + j)) P (ff (fun l s => loS p l (paS P T true p l s)) (lo + 1) d (loS p lo (paS P T true p lo s))).1 ∧ WD0 P (ff (fun l s => loS p l (paS P T true p l s)) (lo + 1) d (loS p lo (paS P T true p lo s))).1 ∧ bkC true A' (ff (fun l s => loS p l (paS P T true p l s)) (lo + 1) d (loS p lo (paS P T true p lo s))).1 (ff (fun l s => loS p l (paS P T true p l s)) (lo + 1) d (loS p lo (paS P T true p lo s))).2 ∧ ∀ k, k ≠ c + 10 → k ≠ c + 11 → k ≠ c + 12 → k ≠ 23 → k ≠ 24 → k ≠ 32 → k ≠ 33 → A' k = A k := fun A1 o how aK aT ab ho hpa hA => by
        obtain ⟨A2, e2, g1, g2, g3⟩ := C_passA_n (W := s.2) (o := o) hc aK ab hlo how
        have n10 := ne 10 (by omega)
        obtain ⟨A3, u1, u2, u3, u4, u5⟩ := rest A2 (paS P T true p lo s) (by rw [hpa]; exact g1) (WD0_pa hw (by omega) hD) (by rw [hpa]; exact g2) (aT.congr fun j hj _ _ => g3 _ (by omega) (by omega) (by omega))
        refine ⟨A3, ?_, u2, u3, u4, fun k a b d e f g h => by rw [u5 k a b d e f g h, g3 k a g h, hA k e f]⟩
        unfold f_X1_die_17_n_80
        rw [e2]
        exact u1
      have k10o : A (c + 10) lo = eo (dOw s.1 lo) := (hK.2.2.2.1 lo hlo).1
      have wo := (hD.1 lo hlo).1
      show ∃ A', f_X1_die_17_n_17b (f_X1_die_17_n_17 c fu) c (nI p) (nI lo) A = spEnd c p A' ∧ RK (fun j => A' (c + j)) P (ff (fun l s => loS p l (paS P T true p l s)) (lo + 1) d (loS p lo (paS P T true p lo s))).1 ∧ WD0 P (ff (fun l s => loS p l (paS P T true p l s)) (lo + 1) d (loS p lo (paS P T true p lo s))).1 ∧ bkC true A' (ff (fun l s => loS p l (paS P T true p l s)) (lo + 1) d (loS p lo (paS P T true p lo s))).1 (ff (fun l s => loS p l (paS P T true p l s)) (lo + 1) d (loS p lo (paS P T true p lo s))).2 ∧ ∀ k, k ≠ c + 10 → k ≠ c + 11 → k ≠ c + 12 → k ≠ 23 → k ≠ 24 → k ≠ 32 → k ≠ 33 → A' k = A k
      unfold f_X1_die_17_n_17b
      rw [if_neg (show ¬ (28 : Int32) ≤ nI lo from nI_ge_f (a := 28) (by omega) (by omega)), gd_t (by omega) (by omega), ix_nI (by omega), k10o]
      by_cases z : dOw s.1 lo = p + 1
      · rw [if_pos ((eo_nI (by omega) (by omega)).mpr z), C_heirByWill (x := A c 4) hT hN hw hp hlo hK.2.1]
        simp only [bind_x]
        have hwl := heirW_le (P := P) (D := s.1) (T := T) (p := p) (l := lo) hw (by omega)
        unfold f_X1_die_17_n_59
        by_cases y : heirW P s.1 T p lo = 0
        · obtain ⟨f, g, e⟩ := C_heirOf hc hK hT hP hw hp hlo (hD.2.1 p hp).1
          rw [if_pos ((eo_m1 (by omega)).mpr y), if_pos ((eo_m1 (by omega)).mpr y), e]
          simp only [bind_x]
          have hpa : paS P T true p lo s = (psD true s.1 lo (heirL P s.1 T p lo), psW true s.1 s.2 lo (heirL P s.1 T p lo) 4) := by
            unfold paS
            rw [if_pos z, if_neg (fun q => q y)]
          exact passed (md A f g) (heirL P s.1 T p lo) 4 (RK_md hc hK) (RTK_md hT) (hb.congr rfl (md_off _ _ _ (by decide) (by decide)) (md_off _ _ _ (by decide) (by decide))) heirL_le hpa (fun k a b => md_off _ _ _ a b)
        · rw [if_neg (by rw [eo_m1 (by omega)]; exact y), if_neg (by rw [eo_m1 (by omega)]; exact y)]
          have hpa : paS P T true p lo s = (psD true s.1 lo (heirW P s.1 T p lo), psW true s.1 s.2 lo (heirW P s.1 T p lo) 3) := by
            unfold paS
            rw [if_pos z, if_pos y]
          exact passed A (heirW P s.1 T p lo) 3 hK hT hb hwl hpa (fun _ _ _ => rfl)
      · have hpa : paS P T true p lo s = s := if_neg z
        rw [if_neg (by rw [eo_nI (by omega) (by omega)]; exact z), hpa]
        exact rest A s hK hD hb hT
end DIE
