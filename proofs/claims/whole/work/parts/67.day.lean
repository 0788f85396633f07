/-! ===== a day ends ===== -/
def elS (l : Nat) (D : DD) : DD := if dLo D l ≠ 0 ∧ ¬ nI (dDay D) ≤ dLa D l then sLo D l 0 0 else D
/-- one person at a day's end: whether he dies, behind which draw -/
def drP (P : PP) (th : Bool) (q : Nat) (D : DD) : Bool := !decide (dDies D q = nI (dDay D)) && !th && !decide (pFr P q ≤ 0)
def drV (D : DD) : Int32 := dDraw D * 1664525 + 1013904223
def drD (P : PP) (th : Bool) (q : Nat) (D : DD) : DD := if drP P th q D = true then sDraw D (drV D) else D
def dyP (P : PP) (th : Bool) (q : Nat) (D : DD) : Bool := decide (dDies D q = nI (dDay D)) || (drP P th q D && !decide (pFr P q ≤ irem (ushr (drV D) 8) 10000))
def pdS (P : PP) (T : TT) (th : Bool) (q : Nat) (s : (DD × (Nat → Int32)) × Nat) : (DD × (Nat → Int32)) × Nat :=
  if liv P s.1.1 q = true then
    (if dyP P th q s.1.1 = true then (dieM P T th q (sDies (drD P th q s.1.1) q (nI (dDay s.1.1))) s.1.2, s.2 + 1) else ((drD P th q s.1.1, s.1.2), s.2))
  else s
def dayM (P : PP) (T : TT) (th : Bool) (D : DD) (W : Nat → Int32) : (DD × (Nat → Int32)) × Nat := ff (pdS P T th) 0 (pN P) ((ff elS 0 28 (sDay D (dDay D + 1)), W), 0)
def same2 (D D' : DD) : Prop := (∀ k i, k ≠ 0 → k ≠ 1 → k ≠ 2 → D'.2 k i = D.2 k i) ∧ dDay D' = dDay D ∧ dLn D ≤ dLn D'
theorem same2.rf {D : DD} : same2 D D := ⟨fun _ _ _ _ _ => rfl, rfl, Nat.le_refl _⟩
theorem same2.tr {D D' D'' : DD} (h : same2 D D') (h' : same2 D' D'') : same2 D D'' := ⟨fun k i a b c => (h'.1 k i a b c).trans (h.1 k i a b c), h'.2.1.trans h.2.1, Nat.le_trans h.2.2 h'.2.2⟩
theorem same2_el {l : Nat} {D : DD} : same2 D (elS l D) := by
  unfold elS
  split
  · refine ⟨fun k i a b c => ?_, rfl, Nat.le_refl _⟩
    show un D.2 1 l 0 k i = D.2 k i
    unfold un
    rw [if_neg (fun e => b e.1)]
  · exact same2.rf
theorem same2_draw {P : PP} {th : Bool} {q : Nat} {D : DD} : same2 D (drD P th q D) := by
  unfold drD
  split
  · refine ⟨fun k i a b c => ?_, rfl, Nat.le_refl _⟩
    show un D.2 0 0 (drV D) k i = D.2 k i
    unfold un
    rw [if_neg (fun e => a e.1)]
  · exact same2.rf
theorem same2_dies {D : DD} {q : Nat} {v : Int32} : same2 D (sDies D q v) := by
  refine ⟨fun k i a b c => ?_, rfl, Nat.le_refl _⟩
  show un D.2 2 q v k i = D.2 k i
  unfold un
  rw [if_neg (fun e => c e.1)]
theorem same2_die {P : PP} {T : TT} {th : Bool} {p : Nat} {D : DD} {W : Nat → Int32} : same2 D (dieM P T th p D W).1 := by
  obtain ⟨m1, m2, m3, m4⟩ := dieM_same (P := P) (T := T) (th := th) (p := p) (D := D) (W := W)
  exact ⟨fun k i _ b _ => m1 k i b, m2, m3⟩
theorem same2_pd {P : PP} {T : TT} {th : Bool} {q : Nat} {s : (DD × (Nat → Int32)) × Nat} : same2 s.1.1 (pdS P T th q s).1.1 := by
  unfold pdS
  split
  · split
    · exact (same2_draw.tr same2_dies).tr same2_die
    · exact same2_draw
  · exact same2.rf
/-- what holds of people all the day -/
def wdP (P : PP) (D : DD) : Prop := WFD P D ∧ dLn D ≤ 200
theorem drD_dead {P : PP} {th : Bool} {q : Nat} {D : DD} (j : Nat) : dDead (drD P th q D) j = dDead D j := by unfold drD; split <;> rfl
theorem drD_wd {P : PP} {th : Bool} {q : Nat} {D : DD} (h : wdP P D) : wdP P (drD P th q D) := by
  unfold drD
  split
  · exact ⟨h.1, h.2⟩
  · exact h
theorem wdP_die {P : PP} {T : TT} {th : Bool} {p : Nat} {D : DD} {W : Nat → Int32} (hN : pN P ≤ 12) (hw : WFT (pN P) T) (h : wdP P D) (hl : liv P D p = true) : wdP P (dieM P T th p D W).1 := by
  obtain ⟨hp, -⟩ := liv_of hl
  obtain ⟨m1, m2, m3, m4⟩ := dieM_same (P := P) (T := T) (th := th) (p := p) (D := D) (W := W)
  obtain ⟨-, -, w3⟩ := dieL_wd (th := th) (W := W) (D := D) hw (by omega : p < 12) ⟨h.1.1, h.1.2.1, h.2⟩
  exact ⟨WFD_die hw hN h.1 h.2 hl, by rw [m4]; exact w3⟩
theorem wdP_pd {P : PP} {T : TT} {th : Bool} {q : Nat} {s : (DD × (Nat → Int32)) × Nat} (hN : pN P ≤ 12) (hw : WFT (pN P) T) (h : wdP P s.1.1) : wdP P (pdS P T th q s).1.1 := by
  unfold pdS
  split
  · rename_i hl
    split
    · have hl2 : liv P (sDies (drD P th q s.1.1) q (nI (dDay s.1.1))) q = true := by rw [← hl]; exact liv_congr (fun j => drD_dead j) q
      exact wdP_die hN hw (D := sDies (drD P th q s.1.1) q (nI (dDay s.1.1))) (drD_wd h) hl2
    · exact drD_wd h
  · exact h
theorem wdP_el {P : PP} {l : Nat} {D : DD} (h : wdP P D) : wdP P (elS l D) := by
  unfold elS
  split
  · exact ⟨WFD_lo h.1 (Nat.zero_le _), h.2⟩
  · exact h
theorem day_keep {P : PP} {T : TT} {th : Bool} {D : DD} {W : Nat → Int32} (hN : pN P ≤ 12) (hw : WFT (pN P) T) (h : wdP P D) : wdP P (dayM P T th D W).1.1 ∧ same2 (sDay D (dDay D + 1)) (dayM P T th D W).1.1 := by
  have h1 := ff_ind (step := elS) (fun _ x => wdP P x ∧ same2 (sDay D (dDay D + 1)) x) 28 0 (sDay D (dDay D + 1)) ⟨⟨h.1, h.2⟩, same2.rf⟩ (fun i s _ _ z => ⟨wdP_el z.1, z.2.tr same2_el⟩)
  unfold dayM
  revert h1
  generalize ff elS 0 28 (sDay D (dDay D + 1)) = X
  intro h1
  have h2 := ff_ind (step := pdS P T th) (fun _ x => wdP P x.1.1 ∧ same2 (sDay D (dDay D + 1)) x.1.1) (pN P) 0 ((X, W), 0) h1 (fun i s _ _ z => ⟨wdP_pd hN hw z.1, z.2.tr same2_pd⟩)
  exact h2
theorem add1_inj {a b : Int32} : a + 1 = b + 1 ↔ a = b := ⟨fun h => by have := congrArg (· - 1) h; simpa only [i32_add_sub] using this, fun h => by rw [h]⟩
theorem m10k : ((10000 : Int32) ≤ 0) = False ∧ ((10000 : Int32) = 0) = False := ⟨eq_false (by decide), eq_false (by decide)⟩
section DAY
variable {P : PP} {D : DD} {T : TT} {W : Nat → Int32}
theorem C_draw10k {A : Mm} {c : Nat} (h : RK (fun j => A (c + j)) P D) : f_X1_draw c 10000 A = some (irem (ushr (drV D) 8) 10000, uM A c 0 (drV D)) := by
  unfold f_X1_draw
  rw [nm_x, if_neg (of_eq_false m10k.1), if_neg (of_eq_false m10k.2), show A c 0 = dDraw D from h.1.1, uM_eq]
  rfl
theorem F_draw10k {B : Mm} (h : RW (B 240) P D) : f_X11_draw 10000 B = some (irem (ushr (drV D) 8) 10000, uM B 240 1 (drV D)) := by
  unfold f_X11_draw
  rw [nm_x, if_neg (of_eq_false m10k.2), show B 240 1 = dDraw D from h.1.2.1, Int32.mul_comm, uM_eq]
  rfl
theorem C_day13_32 {c : Nat} (hP : WFP P) (x3 : Int32) : ∀ (d lo fuel : Nat) (A : Mm) (D : DD), lo + d = 28 → d < fuel → RK (fun j => A (c + j)) P D → (∀ l, l < 28 → dLo D l ≤ 12) → ∃ A', f_X1_endDay_17_32_13 c fuel x3 (nI lo) A = f_X1_endDay_17_32_63 c FU x3 0 0 A' ∧ RK (fun j => A' (c + j)) P (ff elS lo d D) ∧ ∀ k, k ≠ c + 11 → k ≠ c + 12 → A' k = A k := by
  intro d
  induction d with
  | zero =>
    intro lo fuel A D h1 h2 hK hl
    cases fuel with
    | zero => omega
    | succ fu =>
      have e : lo = 28 := by omega
      subst e
      refine ⟨A, ?_, hK, fun _ _ _ => rfl⟩
      show f_X1_endDay_17_32_13b (f_X1_endDay_17_32_13 c fu) c x3 (nI 28) A = _
      unfold f_X1_endDay_17_32_13b
      rw [if_pos (show (28 : Int32) ≤ nI 28 from nI_ge_t (a := 28) (by omega) (by omega))]
  | succ d ih =>
    intro lo fuel A D h1 h2 hK hl
    cases fuel with
    | zero => omega
    | succ fu =>
      have hlo : lo < 28 := by omega
      have wl := hl lo hlo
      have k11 : A (c + 11) lo = eo (dLo D lo) := (hK.2.2.2.1 lo hlo).2.1
      have k12 : A (c + 12) lo = if dLo D lo = 0 then -1 else dLa D lo := (hK.2.2.2.1 lo hlo).2.2
      have k1 : A c 1 = nI (dDay D) := hK.1.2.1
      have wl2 : ∀ l, l < 28 → dLo (elS lo D) l ≤ 12 := fun l h => by
        unfold elS
        split
        · show un D.1 3 lo 0 3 l ≤ 12
          by_cases c : l = lo
          · rw [c, un_eq]; omega
          · rw [un_ne _ _ _ c]; exact hl l h
        · exact hl l h
      show ∃ A', f_X1_endDay_17_32_13b (f_X1_endDay_17_32_13 c fu) c x3 (nI lo) A = f_X1_endDay_17_32_63 c FU x3 0 0 A' ∧ RK (fun j => A' (c + j)) P (ff elS (lo + 1) d (elS lo D)) ∧ ∀ k, k ≠ c + 11 → k ≠ c + 12 → A' k = A k
      unfold f_X1_endDay_17_32_13b f_X1_endDay_17_32_51
      rw [if_neg (show ¬ (28 : Int32) ≤ nI lo from nI_ge_f (a := 28) (by omega) (by omega)), gd_t (by omega) (by omega), gd_t (by omega) (by omega), ix_nI (by omega), k11, k12, k1]
      by_cases z : dLo D lo = 0
      · have e : elS lo D = D := if_neg (fun q => q.1 z)
        rw [if_pos ((eo_m1 (by omega)).mpr z), nm_x, nI_1, e]
        exact ih (lo + 1) fu A D (by omega) (by omega) hK hl
      · rw [if_neg (by rw [eo_m1 (by omega)]; exact z), if_neg z]
        by_cases y : nI (dDay D) ≤ dLa D lo
        · have e : elS lo D = D := if_neg (fun q => q.2 y)
          rw [if_pos y, nm_x, nI_1, e]
          exact ih (lo + 1) fu A D (by omega) (by omega) hK hl
        · have e : elS lo D = sLo D lo 0 0 := if_pos ⟨z, y⟩
          obtain ⟨A1, e1, g1, g2⟩ := C_endLoan hK hlo
          obtain ⟨A2, u1, u2, u3⟩ := ih (lo + 1) fu A1 (elS lo D) (by omega) (by omega) (by rw [e]; exact g1) wl2
          refine ⟨A2, ?_, u2, fun k a b => by rw [u3 k a b, g2 k a b]⟩
          rw [if_neg y, e1]
          simp only [bind_x, nm_x]
          rw [nI_1]
          exact u1
theorem C_day63_32 {c : Nat} (hc : isClan c) (hc1 : c = 1) (hP : WFP P) (hw : WFT (pN P) T) : ∀ (d q fuel : Nat) (A : Mm) (s : (DD × (Nat → Int32)) × Nat), q + d = pN P → d < fuel → RK (fun j => A (c + j)) P s.1.1 → RTK (fun j => A (17 + j)) T → wdP P s.1.1 → bkC false A s.1.1 s.1.2 → ∃ A', f_X1_endDay_17_32_63 c fuel 1 (nI s.2) (nI q) A = some (nI (ff (pdS P T false) q d s).2, A') ∧ RK (fun j => A' (c + j)) P (ff (pdS P T false) q d s).1.1 ∧ bkC false A' (ff (pdS P T false) q d s).1.1 (ff (pdS P T false) q d s).1.2 ∧ ∀ k, k < c ∨ c + 16 ≤ k → k ≠ 23 → k ≠ 24 → k ≠ 32 → k ≠ 33 → A' k = A k := by
  have hN := hP.1
  have cc := of_decide_eq_true (List.all_eq_true.mp (show clanL.all (fun c => decide (c + 16 ≤ 17 ∨ 34 ≤ c)) = true by decide) c hc)
  intro d
  induction d with
  | zero =>
    intro q fuel A s h1 h2 hK hT hD hb
    cases fuel with
    | zero => omega
    | succ fu =>
      refine ⟨A, ?_, hK, hb, fun _ _ _ _ _ _ => rfl⟩
      show f_X1_endDay_17_32_63b (f_X1_endDay_17_32_63 c fu) c 1 (nI s.2) (nI q) A = _
      unfold f_X1_endDay_17_32_63b
      rw [show A c 3 = nI (pN P) from hK.1.2.2.2, if_pos (nI_ge_t (by omega) (by omega))]
      rfl
  | succ d ih =>
    intro q fuel A s h1 h2 hK hT hD hb
    cases fuel with
    | zero => omega
    | succ fu =>
      have hq : q < pN P := by omega
      have next : ∀ (A1 : Mm) (s1 : (DD × (Nat → Int32)) × Nat), s1 = pdS P T false q s → RK (fun j => A1 (c + j)) P s1.1.1 → bkC false A1 s1.1.1 s1.1.2 → (∀ k, k < c ∨ c + 16 ≤ k → k ≠ 23 → k ≠ 24 → k ≠ 32 → k ≠ 33 → A1 k = A k) → ∃ A', f_X1_endDay_17_32_178 (f_X1_endDay_17_32_63 c fu) c 1 (nI s1.2) (nI q) A1 = some (nI (ff (pdS P T false) (q + 1) d (pdS P T false q s)).2, A') ∧ RK (fun j => A' (c + j)) P (ff (pdS P T false) (q + 1) d (pdS P T false q s)).1.1 ∧ bkC false A' (ff (pdS P T false) (q + 1) d (pdS P T false q s)).1.1 (ff (pdS P T false) (q + 1) d (pdS P T false q s)).1.2 ∧ ∀ k, k < c ∨ c + 16 ≤ k → k ≠ 23 → k ≠ 24 → k ≠ 32 → k ≠ 33 → A' k = A k := fun A1 s1 es g1 g2 g3 => by
        subst es
        obtain ⟨A2, u1, u2, u3, u4⟩ := ih (q + 1) fu A1 (pdS P T false q s) (by omega) (by omega) g1 (hT.congr fun j hj a b => g3 _ (by omega) (by omega) (by omega) (by omega) (by omega)) (wdP_pd hN hw hD) g2
        refine ⟨A2, ?_, u2, u3, fun k a b d e f => by rw [u4 k a b d e f, g3 k a b d e f]⟩
        unfold f_X1_endDay_17_32_178
        rw [nm_x, nI_1]
        exact u1
      have k4 : A (c + 4) q = dDies s.1.1 q := (hK.2.2.1 q hq).2.2.2.1
      have k1 : A c 1 = nI (dDay s.1.1) := hK.1.2.1
      show ∃ A', f_X1_endDay_17_32_63b (f_X1_endDay_17_32_63 c fu) c 1 (nI s.2) (nI q) A = some (nI (ff (pdS P T false) (q + 1) d (pdS P T false q s)).2, A') ∧ RK (fun j => A' (c + j)) P (ff (pdS P T false) (q + 1) d (pdS P T false q s)).1.1 ∧ bkC false A' (ff (pdS P T false) (q + 1) d (pdS P T false q s)).1.1 (ff (pdS P T false) (q + 1) d (pdS P T false q s)).1.2 ∧ ∀ k, k < c ∨ c + 16 ≤ k → k ≠ 23 → k ≠ 24 → k ≠ 32 → k ≠ 33 → A' k = A k
      unfold f_X1_endDay_17_32_63b
      rw [show A c 3 = nI (pN P) from hK.1.2.2.2, if_neg (nI_ge_f (by omega) (by omega)), C_lives hK hN hq]
      simp only [bind_x]
      by_cases l : liv P s.1.1 q = true
      · rw [if_pos l, if_neg (by decide), gd_t (by omega) (by omega), ix_nI (by omega), k4, k1]
        -- he dies, behind the draw or without one
        have dies : ∀ A1 : Mm, RK (fun j => A1 (c + j)) P (drD P false q s.1.1) → (∀ k, k ≠ c → A1 k = A k) → dyP P false q s.1.1 = true → ∃ A', f_X1_endDay_17_32_148 (f_X1_endDay_17_32_63 c fu) c 1 (nI s.2) (nI q) 1 A1 = some (nI (ff (pdS P T false) (q + 1) d (pdS P T false q s)).2, A') ∧ RK (fun j => A' (c + j)) P (ff (pdS P T false) (q + 1) d (pdS P T false q s)).1.1 ∧ bkC false A' (ff (pdS P T false) (q + 1) d (pdS P T false q s)).1.1 (ff (pdS P T false) (q + 1) d (pdS P T false q s)).1.2 ∧ ∀ k, k < c ∨ c + 16 ≤ k → k ≠ 23 → k ≠ 24 → k ≠ 32 → k ≠ 33 → A' k = A k := fun A1 aK aF dy => by
          have a1 : A1 c 1 = nI (dDay s.1.1) := by
            have : A1 c 1 = nI (dDay (drD P false q s.1.1)) := aK.1.2.1
            rw [this, same2_draw.2.1]
          have lq : liv P (sDies (drD P false q s.1.1) q (nI (dDay s.1.1))) q = true := by rw [← l]; exact liv_congr (fun j => drD_dead j) q
          have wdr := drD_wd (th := false) (q := q) hD
          have lnd : dLn (drD P false q s.1.1) = dLn s.1.1 := by unfold drD; split <;> rfl
          obtain ⟨A2, e2, g1, g2, g3⟩ := C_die_32 (A := uM A1 (c + 4) q (nI (dDay s.1.1))) (D := sDies (drD P false q s.1.1) q (nI (dDay s.1.1))) (W := s.1.2) hc hc1 (RKc_dies aK q _) (hT.congr fun j hj a b => by rw [uM_off _ _ _ (by omega), aF _ (by omega)]) hP hw wdr.1 wdr.2 (hb.congr lnd (by rw [uM_off _ _ _ (by omega), aF _ (by omega)]) (by rw [uM_off _ _ _ (by omega), aF _ (by omega)])) lq
          have hs1 : pdS P T false q s = (dieM P T false q (sDies (drD P false q s.1.1) q (nI (dDay s.1.1))) s.1.2, s.2 + 1) := by
            unfold pdS
            rw [if_pos l, if_pos dy]
          obtain ⟨A3, u1, u2, u3, u4⟩ := next A2 _ hs1.symm g1 g2 (fun k a b d e f => by rw [g3 k (by omega) (by omega) (by omega) (by omega) (by omega) b d e f, uM_off _ _ _ (by omega), aF k (by omega)])
          refine ⟨A3, ?_, u2, u3, u4⟩
          unfold f_X1_endDay_17_32_148
          rw [if_neg (by decide), gd_t (by omega) (by omega), nm_x, ix_nI (by omega), a1, e2]
          simp only [bind_x, nm_x]
          rw [nI_1]
          exact u1
        have lives : ∀ A1 : Mm, RK (fun j => A1 (c + j)) P (drD P false q s.1.1) → (∀ k, k ≠ c → A1 k = A k) → dyP P false q s.1.1 = false → ∃ A', f_X1_endDay_17_32_148 (f_X1_endDay_17_32_63 c fu) c 1 (nI s.2) (nI q) 0 A1 = some (nI (ff (pdS P T false) (q + 1) d (pdS P T false q s)).2, A') ∧ RK (fun j => A' (c + j)) P (ff (pdS P T false) (q + 1) d (pdS P T false q s)).1.1 ∧ bkC false A' (ff (pdS P T false) (q + 1) d (pdS P T false q s)).1.1 (ff (pdS P T false) (q + 1) d (pdS P T false q s)).1.2 ∧ ∀ k, k < c ∨ c + 16 ≤ k → k ≠ 23 → k ≠ 24 → k ≠ 32 → k ≠ 33 → A' k = A k := fun A1 aK aF dy => by
          have lnd : dLn (drD P false q s.1.1) = dLn s.1.1 := by unfold drD; split <;> rfl
          have hs1 : pdS P T false q s = ((drD P false q s.1.1, s.1.2), s.2) := by
            unfold pdS
            rw [if_pos l, if_neg (by rw [dy]; decide)]
          have := next A1 _ hs1.symm aK (hb.congr lnd (aF _ (by omega)) (aF _ (by omega))) (fun k a _ _ _ _ => aF k (by omega))
          unfold f_X1_endDay_17_32_148
          rw [if_pos rfl]
          exact this
        by_cases due : dDies s.1.1 q = nI (dDay s.1.1)
        · have nod : drD P false q s.1.1 = s.1.1 := by unfold drD drP; rw [if_neg (by simp [due])]
          rw [if_pos due]
          unfold f_X1_endDay_17_32_103
          rw [if_neg (by decide)]
          exact dies A (by rw [nod]; exact hK) (fun _ _ => rfl) (by unfold dyP; simp [due])
        · rw [if_neg due]
          unfold f_X1_endDay_17_32_103
          rw [if_pos rfl]
          have k5 : A (c + 5) q = pFr P q := (hK.2.2.1 q hq).2.2.2.2.1
          rw [if_neg (by decide), gd_t (by omega) (by omega), ix_nI (by omega), k5]
          by_cases fr : pFr P q ≤ 0
          · have nod : drD P false q s.1.1 = s.1.1 := by unfold drD drP; rw [if_neg (by simp [fr])]
            rw [if_pos fr]
            exact lives A (by rw [nod]; exact hK) (fun _ _ => rfl) (by unfold dyP drP; simp [due, fr])
          · have yes : drP P false q s.1.1 = true := by unfold drP; simp [due, fr]
            have dod : drD P false q s.1.1 = sDraw s.1.1 (drV s.1.1) := if_pos yes
            rw [if_neg fr, C_draw10k hK]
            simp only [bind_x]
            rw [gd_t (by omega) (by omega), uM_off _ _ _ (by omega), k5]
            unfold f_X1_endDay_17_32_146
            by_cases z : pFr P q ≤ irem (ushr (drV s.1.1) 8) 10000
            · rw [if_pos z]
              exact lives _ (by rw [dod]; exact RKc_draw hK _) (fun k hk => uM_off _ _ _ hk) (by unfold dyP; simp [due, z])
            · rw [if_neg z]
              exact dies _ (by rw [dod]; exact RKc_draw hK _) (fun k hk => uM_off _ _ _ hk) (by unfold dyP; simp [yes, z])
      · have hs1 : pdS P T false q s = s := if_neg l
        rw [if_neg l, if_pos rfl]
        exact next A s hs1.symm hK hb (fun _ _ _ _ _ _ => rfl)
theorem C_endDay_32 {A : Mm} {c : Nat} (hc : isClan c) (hc1 : c = 1) (h : RK (fun j => A (c + j)) P D) (hT : RTK (fun j => A (17 + j)) T) (hP : WFP P) (hw : WFT (pN P) T) (hD : wdP P D) (hb : bkC false A D W) : ∃ A', f_X1_endDay_17_32 c 1 A = some (nI (dayM P T false D W).2, A') ∧ RK (fun j => A' (c + j)) P (dayM P T false D W).1.1 ∧ bkC false A' (dayM P T false D W).1.1 (dayM P T false D W).1.2 ∧ ∀ k, k < c ∨ c + 16 ≤ k → k ≠ 23 → k ≠ 24 → k ≠ 32 → k ≠ 33 → A' k = A k := by
  have cc := of_decide_eq_true (List.all_eq_true.mp (show clanL.all (fun c => decide (c + 16 ≤ 17 ∨ 34 ≤ c)) = true by decide) c hc)
  obtain ⟨A0, hA0⟩ : ∃ A0, A0 = uM A c 1 (nI (dDay D + 1)) := ⟨_, rfl⟩
  have o0 : ∀ k, k ≠ c → A0 k = A k := fun k hk => by rw [hA0, uM_off _ _ _ hk]
  obtain ⟨A1, e1, g1, g2⟩ := C_day13_32 (c := c) hP 1 28 0 FU A0 (sDay D (dDay D + 1)) (by omega) (by unfold FU; omega) (by rw [hA0]; exact RKc_day h _) (fun l hl => by have := (hD.1.1 l hl).2; have := hP.1; show dLo D l ≤ 12; omega)
  have hE : wdP P (ff elS 0 28 (sDay D (dDay D + 1))) ∧ dLn (ff elS 0 28 (sDay D (dDay D + 1))) = dLn D := ff_ind (step := elS) (fun _ x => wdP P x ∧ dLn x = dLn D) 28 0 (sDay D (dDay D + 1)) ⟨⟨hD.1, hD.2⟩, rfl⟩ (fun i s _ _ z => ⟨wdP_el z.1, by unfold elS; split <;> exact z.2⟩)
  unfold dayM
  revert hE g1
  generalize ff elS 0 28 (sDay D (dDay D + 1)) = X
  intro g1 hE
  obtain ⟨A2, u1, u2, u3, u4⟩ := C_day63_32 (T := T) hc hc1 hP hw (pN P) 0 FU A1 ((X, W), 0) (by omega) (by have := hP.1; unfold FU; omega) g1 (hT.congr fun j hj a b => by rw [g2 _ (by omega) (by omega), o0 _ (by omega)]) hE.1 (hb.congr hE.2 (by rw [g2 _ (by omega) (by omega), o0 _ (by omega)]) (by rw [g2 _ (by omega) (by omega), o0 _ (by omega)]))
  refine ⟨A2, ?_, u2, u3, fun k a b d e f => by rw [u4 k a b d e f, g2 k (by omega) (by omega), o0 k (by omega)]⟩
  unfold f_X1_endDay_17_32
  rw [nm_x, show A c 1 = nI (dDay D) from h.1.2.1, nI_1, ← hA0]
  exact e1.trans u1
theorem C_day13_n {c : Nat} (hP : WFP P) (x3 : Int32) : ∀ (d lo fuel : Nat) (A : Mm) (D : DD), lo + d = 28 → d < fuel → RK (fun j => A (c + j)) P D → (∀ l, l < 28 → dLo D l ≤ 12) → ∃ A', f_X1_endDay_17_n_13 c fuel x3 (nI lo) A = f_X1_endDay_17_n_63 c FU x3 0 0 A' ∧ RK (fun j => A' (c + j)) P (ff elS lo d D) ∧ ∀ k, k ≠ c + 11 → k ≠ c + 12 → A' k = A k := by
  intro d
  induction d with
  | zero =>
    intro lo fuel A D h1 h2 hK hl
    cases fuel with
    | zero => omega
    | succ fu =>
      have e : lo = 28 := by omega
      subst e
      refine ⟨A, ?_, hK, fun _ _ _ => rfl⟩
      show f_X1_endDay_17_n_13b (f_X1_endDay_17_n_13 c fu) c x3 (nI 28) A = _
      unfold f_X1_endDay_17_n_13b
      rw [if_pos (show (28 : Int32) ≤ nI 28 from nI_ge_t (a := 28) (by omega) (by omega))]
  | succ d ih =>
    intro lo fuel A D h1 h2 hK hl
    cases fuel with
    | zero => omega
    | succ fu =>
      have hlo : lo < 28 := by omega
      have wl := hl lo hlo
      have k11 : A (c + 11) lo = eo (dLo D lo) := (hK.2.2.2.1 lo hlo).2.1
      have k12 : A (c + 12) lo = if dLo D lo = 0 then -1 else dLa D lo := (hK.2.2.2.1 lo hlo).2.2
      have k1 : A c 1 = nI (dDay D) := hK.1.2.1
      have wl2 : ∀ l, l < 28 → dLo (elS lo D) l ≤ 12 := fun l h => by
        unfold elS
        split
        · show un D.1 3 lo 0 3 l ≤ 12
          by_cases c : l = lo
          · rw [c, un_eq]; omega
          · rw [un_ne _ _ _ c]; exact hl l h
        · exact hl l h
      show ∃ A', f_X1_endDay_17_n_13b (f_X1_endDay_17_n_13 c fu) c x3 (nI lo) A = f_X1_endDay_17_n_63 c FU x3 0 0 A' ∧ RK (fun j => A' (c + j)) P (ff elS (lo + 1) d (elS lo D)) ∧ ∀ k, k ≠ c + 11 → k ≠ c + 12 → A' k = A k
      unfold f_X1_endDay_17_n_13b f_X1_endDay_17_n_51
      rw [if_neg (show ¬ (28 : Int32) ≤ nI lo from nI_ge_f (a := 28) (by omega) (by omega)), gd_t (by omega) (by omega), gd_t (by omega) (by omega), ix_nI (by omega), k11, k12, k1]
      by_cases z : dLo D lo = 0
      · have e : elS lo D = D := if_neg (fun q => q.1 z)
        rw [if_pos ((eo_m1 (by omega)).mpr z), nm_x, nI_1, e]
        exact ih (lo + 1) fu A D (by omega) (by omega) hK hl
      · rw [if_neg (by rw [eo_m1 (by omega)]; exact z), if_neg z]
        by_cases y : nI (dDay D) ≤ dLa D lo
        · have e : elS lo D = D := if_neg (fun q => q.2 y)
          rw [if_pos y, nm_x, nI_1, e]
          exact ih (lo + 1) fu A D (by omega) (by omega) hK hl
        · have e : elS lo D = sLo D lo 0 0 := if_pos ⟨z, y⟩
          obtain ⟨A1, e1, g1, g2⟩ := C_endLoan hK hlo
          obtain ⟨A2, u1, u2, u3⟩ := ih (lo + 1) fu A1 (elS lo D) (by omega) (by omega) (by rw [e]; exact g1) wl2
          refine ⟨A2, ?_, u2, fun k a b => by rw [u3 k a b, g2 k a b]⟩
          rw [if_neg y, e1]
          simp only [bind_x, nm_x]
          rw [nI_1]
          exact u1
theorem C_day63_n {c : Nat} (hc : isClan c) (hP : WFP P) (hw : WFT (pN P) T) : ∀ (d q fuel : Nat) (A : Mm) (s : (DD × (Nat → Int32)) × Nat), q + d = pN P → d < fuel → RK (fun j => A (c + j)) P s.1.1 → RTK (fun j => A (17 + j)) T → wdP P s.1.1 → bkC true A s.1.1 s.1.2 → ∃ A', f_X1_endDay_17_n_63 c fuel 0 (nI s.2) (nI q) A = some (nI (ff (pdS P T true) q d s).2, A') ∧ RK (fun j => A' (c + j)) P (ff (pdS P T true) q d s).1.1 ∧ bkC true A' (ff (pdS P T true) q d s).1.1 (ff (pdS P T true) q d s).1.2 ∧ ∀ k, k < c ∨ c + 16 ≤ k → k ≠ 23 → k ≠ 24 → k ≠ 32 → k ≠ 33 → A' k = A k := by
  have hN := hP.1
  have cc := of_decide_eq_true (List.all_eq_true.mp (show clanL.all (fun c => decide (c + 16 ≤ 17 ∨ 34 ≤ c)) = true by decide) c hc)
  intro d
  induction d with
  | zero =>
    intro q fuel A s h1 h2 hK hT hD hb
    cases fuel with
    | zero => omega
    | succ fu =>
      refine ⟨A, ?_, hK, hb, fun _ _ _ _ _ _ => rfl⟩
      show f_X1_endDay_17_n_63b (f_X1_endDay_17_n_63 c fu) c 0 (nI s.2) (nI q) A = _
      unfold f_X1_endDay_17_n_63b
      rw [show A c 3 = nI (pN P) from hK.1.2.2.2, if_pos (nI_ge_t (by omega) (by omega))]
      rfl
  | succ d ih =>
    intro q fuel A s h1 h2 hK hT hD hb
    cases fuel with
    | zero => omega
    | succ fu =>
      have hq : q < pN P := by omega
      have next : ∀ (A1 : Mm) (s1 : (DD × (Nat → Int32)) × Nat), s1 = pdS P T true q s → RK (fun j => A1 (c + j)) P s1.1.1 → bkC true A1 s1.1.1 s1.1.2 → (∀ k, k < c ∨ c + 16 ≤ k → k ≠ 23 → k ≠ 24 → k ≠ 32 → k ≠ 33 → A1 k = A k) → ∃ A', f_X1_endDay_17_n_178 (f_X1_endDay_17_n_63 c fu) c 0 (nI s1.2) (nI q) A1 = some (nI (ff (pdS P T true) (q + 1) d (pdS P T true q s)).2, A') ∧ RK (fun j => A' (c + j)) P (ff (pdS P T true) (q + 1) d (pdS P T true q s)).1.1 ∧ bkC true A' (ff (pdS P T true) (q + 1) d (pdS P T true q s)).1.1 (ff (pdS P T true) (q + 1) d (pdS P T true q s)).1.2 ∧ ∀ k, k < c ∨ c + 16 ≤ k → k ≠ 23 → k ≠ 24 → k ≠ 32 → k ≠ 33 → A' k = A k := fun A1 s1 es g1 g2 g3 => by
        subst es
        obtain ⟨A2, u1, u2, u3, u4⟩ := ih (q + 1) fu A1 (pdS P T true q s) (by omega) (by omega) g1 (hT.congr fun j hj a b => g3 _ (by omega) (by omega) (by omega) (by omega) (by omega)) (wdP_pd hN hw hD) g2
        refine ⟨A2, ?_, u2, u3, fun k a b d e f => by rw [u4 k a b d e f, g3 k a b d e f]⟩
        unfold f_X1_endDay_17_n_178
        rw [nm_x, nI_1]
        exact u1
      have k4 : A (c + 4) q = dDies s.1.1 q := (hK.2.2.1 q hq).2.2.2.1
      have k1 : A c 1 = nI (dDay s.1.1) := hK.1.2.1
      show ∃ A', f_X1_endDay_17_n_63b (f_X1_endDay_17_n_63 c fu) c 0 (nI s.2) (nI q) A = some (nI (ff (pdS P T true) (q + 1) d (pdS P T true q s)).2, A') ∧ RK (fun j => A' (c + j)) P (ff (pdS P T true) (q + 1) d (pdS P T true q s)).1.1 ∧ bkC true A' (ff (pdS P T true) (q + 1) d (pdS P T true q s)).1.1 (ff (pdS P T true) (q + 1) d (pdS P T true q s)).1.2 ∧ ∀ k, k < c ∨ c + 16 ≤ k → k ≠ 23 → k ≠ 24 → k ≠ 32 → k ≠ 33 → A' k = A k
      unfold f_X1_endDay_17_n_63b
      rw [show A c 3 = nI (pN P) from hK.1.2.2.2, if_neg (nI_ge_f (by omega) (by omega)), C_lives hK hN hq]
      simp only [bind_x]
      by_cases l : liv P s.1.1 q = true
      · rw [if_pos l, if_neg (by decide), gd_t (by omega) (by omega), ix_nI (by omega), k4, k1]
        -- he dies, behind the draw or without one
        have dies : ∀ A1 : Mm, RK (fun j => A1 (c + j)) P (drD P true q s.1.1) → (∀ k, k ≠ c → A1 k = A k) → dyP P true q s.1.1 = true → ∃ A', f_X1_endDay_17_n_148 (f_X1_endDay_17_n_63 c fu) c 0 (nI s.2) (nI q) 1 A1 = some (nI (ff (pdS P T true) (q + 1) d (pdS P T true q s)).2, A') ∧ RK (fun j => A' (c + j)) P (ff (pdS P T true) (q + 1) d (pdS P T true q s)).1.1 ∧ bkC true A' (ff (pdS P T true) (q + 1) d (pdS P T true q s)).1.1 (ff (pdS P T true) (q + 1) d (pdS P T true q s)).1.2 ∧ ∀ k, k < c ∨ c + 16 ≤ k → k ≠ 23 → k ≠ 24 → k ≠ 32 → k ≠ 33 → A' k = A k := fun A1 aK aF dy => by
          have a1 : A1 c 1 = nI (dDay s.1.1) := by
            have : A1 c 1 = nI (dDay (drD P true q s.1.1)) := aK.1.2.1
            rw [this, same2_draw.2.1]
          have lq : liv P (sDies (drD P true q s.1.1) q (nI (dDay s.1.1))) q = true := by rw [← l]; exact liv_congr (fun j => drD_dead j) q
          have wdr := drD_wd (th := true) (q := q) hD
          have lnd : dLn (drD P true q s.1.1) = dLn s.1.1 := by unfold drD; split <;> rfl
          obtain ⟨A2, e2, g1, g2, g3⟩ := C_die_n (A := uM A1 (c + 4) q (nI (dDay s.1.1))) (D := sDies (drD P true q s.1.1) q (nI (dDay s.1.1))) (W := s.1.2) hc (RKc_dies aK q _) (hT.congr fun j hj a b => by rw [uM_off _ _ _ (by omega), aF _ (by omega)]) hP hw wdr.1 wdr.2 (hb.congr lnd (by rw [uM_off _ _ _ (by omega), aF _ (by omega)]) (by rw [uM_off _ _ _ (by omega), aF _ (by omega)])) lq
          have hs1 : pdS P T true q s = (dieM P T true q (sDies (drD P true q s.1.1) q (nI (dDay s.1.1))) s.1.2, s.2 + 1) := by
            unfold pdS
            rw [if_pos l, if_pos dy]
          obtain ⟨A3, u1, u2, u3, u4⟩ := next A2 _ hs1.symm g1 g2 (fun k a b d e f => by rw [g3 k (by omega) (by omega) (by omega) (by omega) (by omega) b d e f, uM_off _ _ _ (by omega), aF k (by omega)])
          refine ⟨A3, ?_, u2, u3, u4⟩
          unfold f_X1_endDay_17_n_148
          rw [if_neg (by decide), gd_t (by omega) (by omega), nm_x, ix_nI (by omega), a1, e2]
          simp only [bind_x, nm_x]
          rw [nI_1]
          exact u1
        have lives : ∀ A1 : Mm, RK (fun j => A1 (c + j)) P (drD P true q s.1.1) → (∀ k, k ≠ c → A1 k = A k) → dyP P true q s.1.1 = false → ∃ A', f_X1_endDay_17_n_148 (f_X1_endDay_17_n_63 c fu) c 0 (nI s.2) (nI q) 0 A1 = some (nI (ff (pdS P T true) (q + 1) d (pdS P T true q s)).2, A') ∧ RK (fun j => A' (c + j)) P (ff (pdS P T true) (q + 1) d (pdS P T true q s)).1.1 ∧ bkC true A' (ff (pdS P T true) (q + 1) d (pdS P T true q s)).1.1 (ff (pdS P T true) (q + 1) d (pdS P T true q s)).1.2 ∧ ∀ k, k < c ∨ c + 16 ≤ k → k ≠ 23 → k ≠ 24 → k ≠ 32 → k ≠ 33 → A' k = A k := fun A1 aK aF dy => by
          have lnd : dLn (drD P true q s.1.1) = dLn s.1.1 := by unfold drD; split <;> rfl
          have hs1 : pdS P T true q s = ((drD P true q s.1.1, s.1.2), s.2) := by
            unfold pdS
            rw [if_pos l, if_neg (by rw [dy]; decide)]
          have := next A1 _ hs1.symm aK (hb.congr lnd (aF _ (by omega)) (aF _ (by omega))) (fun k a _ _ _ _ => aF k (by omega))
          unfold f_X1_endDay_17_n_148
          rw [if_pos rfl]
          exact this
        by_cases due : dDies s.1.1 q = nI (dDay s.1.1)
        · have nod : drD P true q s.1.1 = s.1.1 := by unfold drD drP; rw [if_neg (by simp [due])]
          rw [if_pos due]
          unfold f_X1_endDay_17_n_103
          rw [if_neg (by decide)]
          exact dies A (by rw [nod]; exact hK) (fun _ _ => rfl) (by unfold dyP; simp [due])
        · rw [if_neg due]
          unfold f_X1_endDay_17_n_103
          rw [if_pos rfl]
          have nod : drD P true q s.1.1 = s.1.1 := by unfold drD drP; rw [if_neg (by simp)]
          rw [if_pos rfl]
          exact lives A (by rw [nod]; exact hK) (fun _ _ => rfl) (by unfold dyP drP; simp [due])
      · have hs1 : pdS P T true q s = s := if_neg l
        rw [if_neg l, if_pos rfl]
        exact next A s hs1.symm hK hb (fun _ _ _ _ _ _ => rfl)
theorem C_endDay_n {A : Mm} {c : Nat} (hc : isClan c) (h : RK (fun j => A (c + j)) P D) (hT : RTK (fun j => A (17 + j)) T) (hP : WFP P) (hw : WFT (pN P) T) (hD : wdP P D) (hb : bkC true A D W) : ∃ A', f_X1_endDay_17_n c 0 A = some (nI (dayM P T true D W).2, A') ∧ RK (fun j => A' (c + j)) P (dayM P T true D W).1.1 ∧ bkC true A' (dayM P T true D W).1.1 (dayM P T true D W).1.2 ∧ ∀ k, k < c ∨ c + 16 ≤ k → k ≠ 23 → k ≠ 24 → k ≠ 32 → k ≠ 33 → A' k = A k := by
  have cc := of_decide_eq_true (List.all_eq_true.mp (show clanL.all (fun c => decide (c + 16 ≤ 17 ∨ 34 ≤ c)) = true by decide) c hc)
  obtain ⟨A0, hA0⟩ : ∃ A0, A0 = uM A c 1 (nI (dDay D + 1)) := ⟨_, rfl⟩
  have o0 : ∀ k, k ≠ c → A0 k = A k := fun k hk => by rw [hA0, uM_off _ _ _ hk]
  obtain ⟨A1, e1, g1, g2⟩ := C_day13_n (c := c) hP 0 28 0 FU A0 (sDay D (dDay D + 1)) (by omega) (by unfold FU; omega) (by rw [hA0]; exact RKc_day h _) (fun l hl => by have := (hD.1.1 l hl).2; have := hP.1; show dLo D l ≤ 12; omega)
  have hE : wdP P (ff elS 0 28 (sDay D (dDay D + 1))) ∧ dLn (ff elS 0 28 (sDay D (dDay D + 1))) = dLn D := ff_ind (step := elS) (fun _ x => wdP P x ∧ dLn x = dLn D) 28 0 (sDay D (dDay D + 1)) ⟨⟨hD.1, hD.2⟩, rfl⟩ (fun i s _ _ z => ⟨wdP_el z.1, by unfold elS; split <;> exact z.2⟩)
  unfold dayM
  revert hE g1
  generalize ff elS 0 28 (sDay D (dDay D + 1)) = X
  intro g1 hE
  obtain ⟨A2, u1, u2, u3, u4⟩ := C_day63_n (T := T) hc hP hw (pN P) 0 FU A1 ((X, W), 0) (by omega) (by have := hP.1; unfold FU; omega) g1 (hT.congr fun j hj a b => by rw [g2 _ (by omega) (by omega), o0 _ (by omega)]) hE.1 (hb.congr hE.2 (by rw [g2 _ (by omega) (by omega), o0 _ (by omega)]) (by rw [g2 _ (by omega) (by omega), o0 _ (by omega)]))
  refine ⟨A2, ?_, u2, u3, fun k a b d e f => by rw [u4 k a b d e f, g2 k (by omega) (by omega), o0 k (by omega)]⟩
  unfold f_X1_endDay_17_n
  rw [nm_x, show A c 1 = nI (dDay D) from h.1.2.1, nI_1, ← hA0]
  exact e1.trans u1
end DAY
