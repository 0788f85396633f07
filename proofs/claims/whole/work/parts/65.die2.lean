/-! ===== a death, whole: in the class, in the reference ===== -/
def dieL (P : PP) (T : TT) (th : Bool) (p : Nat) (D : DD) (W : Nat → Int32) : DD × (Nat → Int32) := ff (loS p) 0 28 (ff (paS P T th p) 0 28 (sDead D p, W))
def dieM (P : PP) (T : TT) (th : Bool) (p : Nat) (D : DD) (W : Nat → Int32) : DD × (Nat → Int32) := (if dSp D p = 0 then (dieL P T th p D W).1 else sSp (dieL P T th p D W).1 (dSp D p - 1) 0, (dieL P T th p D W).2)
def sameR (D D' : DD) : Prop := (∀ q, dSp D' q = dSp D q) ∧ (∀ q, dDead D' q = dDead D q) ∧ (∀ k i, k ≠ 1 → D'.2 k i = D.2 k i) ∧ dDay D' = dDay D ∧ dLn D ≤ dLn D'
theorem sameR.rf {D : DD} : sameR D D := ⟨fun _ => rfl, fun _ => rfl, fun _ _ _ => rfl, rfl, Nat.le_refl _⟩
theorem sameR.tr {D D' D'' : DD} (h : sameR D D') (h' : sameR D' D'') : sameR D D'' := ⟨fun q => (h'.1 q).trans (h.1 q), fun q => (h'.2.1 q).trans (h.2.1 q), fun k i a => (h'.2.2.1 k i a).trans (h.2.2.1 k i a), h'.2.2.2.1.trans h.2.2.2.1, Nat.le_trans h.2.2.2.2 h'.2.2.2.2⟩
theorem sameR_ps {D : DD} {th : Bool} {l o : Nat} : sameR D (psD th D l o) := ⟨psD_sp _ _ _ _, psD_dead _ _ _ _, fun k i _ => by unfold psD; split <;> rfl, psD_day _ _ _ _, (psD_ln _ _ _ _).1⟩
theorem sameR_pa {P : PP} {T : TT} {th : Bool} {p l : Nat} {s : DD × (Nat → Int32)} : sameR s.1 (paS P T th p l s).1 := by
  unfold paS
  split
  · split <;> exact sameR_ps
  · exact sameR.rf
theorem sameR_lo {p l : Nat} {s : DD × (Nat → Int32)} : sameR s.1 (loS p l s).1 := by
  unfold loS
  split
  · refine ⟨fun _ => rfl, fun _ => rfl, fun k i hk => ?_, rfl, Nat.le_refl _⟩
    show un s.1.2 1 l 0 k i = s.1.2 k i
    unfold un
    rw [if_neg (fun e => hk e.1)]
  · exact sameR.rf
theorem dieL_same (P : PP) (T : TT) (th : Bool) (p : Nat) (D : DD) (W : Nat → Int32) : sameR (sDead D p) (dieL P T th p D W).1 := by
  have h1 := ff_ind (step := paS P T th p) (fun _ s => sameR (sDead D p) s.1) 28 0 (sDead D p, W) sameR.rf (fun i s _ _ h => h.tr sameR_pa)
  have h2 := ff_ind (step := loS p) (fun _ s => sameR (sDead D p) s.1) 28 0 (ff (paS P T th p) 0 28 (sDead D p, W)) h1 (fun i s _ _ h => h.tr sameR_lo)
  exact h2
theorem dieL_wd {P : PP} {T : TT} {th : Bool} {p : Nat} {D : DD} {W : Nat → Int32} (hw : WFT (pN P) T) (hp : p < 12) (h : WD0 P D) : WD0 P (dieL P T th p D W).1 := by
  have h1 := ff_ind (step := paS P T th p) (fun _ s => WD0 P s.1) 28 0 (sDead D p, W) h (fun i s _ _ h => WD0_pa hw hp h)
  have h2 := ff_ind (step := loS p) (fun _ s => WD0 P s.1) 28 0 (ff (paS P T th p) 0 28 (sDead D p, W)) h1 (fun i s _ _ h => WD0_loS h)
  exact h2
theorem dead_at (D : DD) (p q : Nat) : dDead (sDead D p) q = if q = p then 1 else dDead D q := by
  by_cases c : q = p
  · rw [if_pos c, c]; exact un_eq _ _ _ _
  · rw [if_neg c]; exact un_ne _ _ _ c
theorem ssp_at (D : DD) (b v q : Nat) : dSp (sSp D b v) q = if q = b then v else dSp D q := by
  by_cases c : q = b
  · rw [if_pos c, c]; exact un_eq _ _ _ _
  · rw [if_neg c]; exact un_ne _ _ _ c
theorem liv_of {P : PP} {D : DD} {p : Nat} (h : liv P D p = true) : p < pN P ∧ dDead D p = 0 := by
  have := liv_lt h
  refine ⟨this, ?_⟩
  unfold liv at h
  simpa [this] using h
theorem WFD_die {P : PP} {T : TT} {th : Bool} {p : Nat} {D : DD} {W : Nat → Int32} (hw : WFT (pN P) T) (hN : pN P ≤ 12) (hD : WFD P D) (hL : dLn D ≤ 200) (hl : liv P D p = true) : WFD P (dieM P T th p D W).1 := by
  obtain ⟨hp, hd⟩ := liv_of hl
  obtain ⟨w1, w2, w3⟩ := dieL_wd (th := th) (W := W) (D := D) hw (by omega : p < 12) ⟨hD.1, hD.2.1, hL⟩
  obtain ⟨s1, s2, -⟩ := dieL_same P T th p D W
  have dd : ∀ q, dDead (dieL P T th p D W).1 q = if q = p then 1 else dDead D q := fun q => by rw [s2]; exact dead_at D p q
  have ds : ∀ q, dSp (dieL P T th p D W).1 q = dSp D q := s1
  unfold dieM
  clear s1 s2
  generalize dieL P T th p D W = s at w1 w2 w3 dd ds ⊢
  by_cases c : dSp D p = 0
  · rw [if_pos c]
    refine ⟨w1, w2, fun a b ha hb e => ?_, fun a b ha hb h0 e => ?_⟩
    · rw [ds] at e; exact hD.2.2.1 a b ha hb e
    · rw [ds] at e
      rw [dd] at h0
      rw [dd, ds]
      by_cases k : a = p
      · rw [if_pos k] at h0; omega
      · rw [if_neg k] at h0
        obtain ⟨x, y⟩ := hD.2.2.2 a b ha hb h0 e
        rw [if_neg (fun z => by subst z; omega)]
        exact ⟨x, y⟩
  · rw [if_neg c]
    have wp := hD.2.1 p hp
    refine ⟨w1, fun q hq => ?_, fun a b ha hb e => ?_, fun a b ha hb h0 e => ?_⟩
    · rw [ssp_at, ds]
      have := hD.2.1 q hq
      split <;> omega
    · rw [ssp_at, ds] at e
      split at e
      · omega
      · exact hD.2.2.1 a b ha hb e
    · rw [ssp_at, ds] at e
      rw [ssp_at, ds]
      have h0 : dDead s.1 a = 0 := h0
      show dDead s.1 b = 0 ∧ _
      rw [dd] at h0
      rw [dd]
      by_cases k : a = p
      · rw [if_pos k] at h0; omega
      · rw [if_neg k] at h0
        split at e
        · omega
        · rename_i k2
          obtain ⟨x, y⟩ := hD.2.2.2 a b ha hb h0 e
          rw [if_neg (fun z => k2 (by subst z; omega))]
          refine ⟨x, ?_⟩
          rw [if_neg (fun z => ?_)]
          · exact y
          · have := hD.2.2.2 p (dSp D p - 1) hp (by omega) hd (by omega)
            rw [← z] at this
            omega
theorem dieM_same {P : PP} {T : TT} {th : Bool} {p : Nat} {D : DD} {W : Nat → Int32} : (∀ k i, k ≠ 1 → (dieM P T th p D W).1.2 k i = D.2 k i) ∧ dDay (dieM P T th p D W).1 = dDay D ∧ dLn D ≤ dLn (dieM P T th p D W).1 ∧ dLn (dieM P T th p D W).1 = dLn (dieL P T th p D W).1 := by
  obtain ⟨-, -, s3, s4, s5⟩ := dieL_same P T th p D W
  unfold dieM
  generalize dieL P T th p D W = s at s3 s4 s5 ⊢
  split
  · exact ⟨s3, s4, s5, rfl⟩
  · exact ⟨s3, s4, s5, rfl⟩
theorem WFS_die {P : PP} {T : TT} {th : Bool} {p : Nat} {D : DD} {W : Nat → Int32} (h : WFS P D T) (hl : liv P D p = true) : WFS P (dieM P T th p D W).1 T := by
  obtain ⟨a1, a2, a3, a4, a5, a6⟩ := h
  obtain ⟨hp, -⟩ := liv_of hl
  obtain ⟨m1, m2, m3, m4⟩ := dieM_same (P := P) (T := T) (th := th) (p := p) (D := D) (W := W)
  have hN := a1.1
  obtain ⟨-, -, w3⟩ := dieL_wd (th := th) (W := W) (D := D) a5 (by omega : p < 12) ⟨a3.1, a3.2.1, a4.1.2⟩
  refine ⟨a1, a2, WFD_die a5 a1.1 a3 a4.1.2 hl, ⟨⟨by rw [m2]; exact a4.1.1, by rw [m4]; exact w3⟩, fun q hq => ?_⟩, a5, fun d h1 h2 => ?_⟩
  · rw [show dCoin (dieM P T th p D W).1 q = dCoin D q from m1 3 q (by decide)]; exact a4.2 q hq
  · rw [show dSg (dieM P T th p D W).1 d = dSg D d from m1 4 d (by decide), show dFg (dieM P T th p D W).1 d = dFg D d from m1 5 d (by decide), show dSo (dieM P T th p D W).1 d = dSo D d from m1 6 d (by decide)]
    exact a6 d h1 h2
theorem RK_spc {K : Mm} {P : PP} {D : DD} (h : RK K P D) {p b : Nat} (hpb : p ≠ b) (h1 : dSp D p = b + 1) (h2 : dSp D b = p + 1) : RK (uM K 8 b (-1)) P (sSp D b 0) := by
  refine ⟨h.1, h.2.1, fun q hq => ?_, h.2.2.2.1, h.2.2.2.2⟩
  obtain ⟨a1, a2, a3, a4, a5, a6, a7, a8, a9⟩ := h.2.2.1 q hq
  refine ⟨a1, a2, a3, a4, a5, a6, a7, ?_, fun i hi => ?_⟩
  · rw [ssp_at]
    by_cases k : q = b
    · rw [if_pos k, k, uM_eq, eo_0]
    · rw [if_neg k, uM_ne _ _ _ k]; exact a8
  · have e : adj P (sSp D b 0) q i = adj P D q i := by
      unfold adj
      rw [ssp_at, ssp_at]
      refine decide_eq_decide.mpr ?_
      by_cases k : q = b
      · rw [if_pos k]
        by_cases k2 : i = b
        · rw [if_pos k2]; subst k; subst k2; omega
        · rw [if_neg k2]; subst k
          by_cases k3 : i = p
          · subst k3; omega
          · omega
      · rw [if_neg k]
        by_cases k2 : i = b
        · rw [if_pos k2]; subst k2
          by_cases k3 : q = p
          · subst k3; omega
          · omega
        · rw [if_neg k2]
    rw [e]
    exact a9 i hi
section DIE2
variable {P : PP} {D : DD} {T : TT} {W : Nat → Int32}
theorem C_die_32 {A : Mm} {c : Nat} (hc : isClan c) (hc1 : c = 1) (h : RK (fun j => A (c + j)) P D) (hT : RTK (fun j => A (17 + j)) T) (hP : WFP P) (hw : WFT (pN P) T) (hD : WFD P D) (hL : dLn D ≤ 200) (hb : bkC false A D W) {p : Nat} (hl : liv P D p = true) : ∃ A', f_X1_die_17_32 c (nI p) A = some A' ∧ RK (fun j => A' (c + j)) P (dieM P T false p D W).1 ∧ bkC false A' (dieM P T false p D W).1 (dieM P T false p D W).2 ∧ ∀ k, k ≠ c → k ≠ c + 8 → k ≠ c + 10 → k ≠ c + 11 → k ≠ c + 12 → k ≠ 23 → k ≠ 24 → k ≠ 32 → k ≠ 33 → A' k = A k := by
  have hN := hP.1
  obtain ⟨hp, hd⟩ := liv_of hl
  have cc := of_decide_eq_true (List.all_eq_true.mp (show clanL.all (fun c => decide (c + 16 ≤ 17 ∨ 34 ≤ c)) = true by decide) c hc)
  obtain ⟨A0, hA0⟩ : ∃ A0, A0 = uM A c 4 (A c 4 &&& (shl 1 (nI p) ^^^ (-1))) := ⟨_, rfl⟩
  have o0 : ∀ k, k ≠ c → A0 k = A k := fun k hk => by rw [hA0, uM_off _ _ _ hk]
  have k0 : RK (fun j => A0 (c + j)) P (sDead D p) := by rw [hA0]; exact RKc_dead h hp hN
  obtain ⟨A1, e1, g1, g2, g3, g4⟩ := C_die17_32 hc hc1 hP hw hp 28 0 FU A0 (sDead D p, W) (by omega) (by unfold FU; omega) k0 (hT.congr fun j hj _ _ => o0 _ (by omega)) ⟨hD.1, hD.2.1, hL⟩ (hb.congr rfl (o0 _ (by omega)) (o0 _ (by omega)))
  rw [ff_comm (a := paS P T false p) (b := loS p) (fun i j s => pa_lo P T false p i j s)] at g1 g2 g3
  have g1 : RK (fun j => A1 (c + j)) P (dieL P T false p D W).1 := g1
  have g3 : bkC false A1 (dieL P T false p D W).1 (dieL P T false p D W).2 := g3
  clear g2
  obtain ⟨s1, -⟩ := dieL_same P T false p D W
  have run : f_X1_die_17_32 c (nI p) A = spEnd c p A1 := by
    unfold f_X1_die_17_32
    rw [nm_x, ← hA0]
    exact e1
  rw [run]
  clear run e1
  unfold dieM
  generalize dieL P T false p D W = s at g1 g3 s1 ⊢
  have s1 : ∀ q, dSp s.1 q = dSp D q := s1
  have a8 : A1 (c + 8) p = eo (dSp D p) := by
    have : A1 (c + 8) p = eo (dSp s.1 p) := (g1.2.2.1 p hp).2.2.2.2.2.2.2.1
    rw [this, s1]
  have wp := hD.2.1 p hp
  unfold spEnd
  rw [a8]
  by_cases z : dSp D p = 0
  · rw [if_pos ((eo_m1 (by omega)).mpr z), if_pos z]
    exact ⟨A1, rfl, g1, g3, fun k a b d e f g h i j => by rw [g4 k d e f g h i j, o0 k a]⟩
  · have hbw : dSp D p - 1 < pN P := by omega
    have e : eo (dSp D p) = nI (dSp D p - 1) := (eo_nI (by omega) (by omega)).mpr (by omega)
    rw [if_neg (by rw [eo_m1 (by omega)]; exact z), if_neg z, e, gd_t (by omega) (by omega), ix_nI (by omega)]
    have sp2 := hD.2.2.2 p (dSp D p - 1) hp hbw hd (by omega)
    refine ⟨_, rfl, ?_, g3.congr rfl (uM_off _ _ _ (by omega)) (uM_off _ _ _ (by omega)), fun k a b d e f g h i j => by rw [uM_off _ _ _ b, g4 k d e f g h i j, o0 k a]⟩
    rw [uM_sh]
    refine RK_spc g1 (p := p) (by omega) ?_ ?_
    · rw [s1]; omega
    · rw [s1]; exact sp2.2
theorem C_die_n {A : Mm} {c : Nat} (hc : isClan c) (h : RK (fun j => A (c + j)) P D) (hT : RTK (fun j => A (17 + j)) T) (hP : WFP P) (hw : WFT (pN P) T) (hD : WFD P D) (hL : dLn D ≤ 200) (hb : bkC true A D W) {p : Nat} (hl : liv P D p = true) : ∃ A', f_X1_die_17_n c (nI p) A = some A' ∧ RK (fun j => A' (c + j)) P (dieM P T true p D W).1 ∧ bkC true A' (dieM P T true p D W).1 (dieM P T true p D W).2 ∧ ∀ k, k ≠ c → k ≠ c + 8 → k ≠ c + 10 → k ≠ c + 11 → k ≠ c + 12 → k ≠ 23 → k ≠ 24 → k ≠ 32 → k ≠ 33 → A' k = A k := by
  have hN := hP.1
  obtain ⟨hp, hd⟩ := liv_of hl
  have cc := of_decide_eq_true (List.all_eq_true.mp (show clanL.all (fun c => decide (c + 16 ≤ 17 ∨ 34 ≤ c)) = true by decide) c hc)
  obtain ⟨A0, hA0⟩ : ∃ A0, A0 = uM A c 4 (A c 4 &&& (shl 1 (nI p) ^^^ (-1))) := ⟨_, rfl⟩
  have o0 : ∀ k, k ≠ c → A0 k = A k := fun k hk => by rw [hA0, uM_off _ _ _ hk]
  have k0 : RK (fun j => A0 (c + j)) P (sDead D p) := by rw [hA0]; exact RKc_dead h hp hN
  obtain ⟨A1, e1, g1, g2, g3, g4⟩ := C_die17_n hc hP hw hp 28 0 FU A0 (sDead D p, W) (by omega) (by unfold FU; omega) k0 (hT.congr fun j hj _ _ => o0 _ (by omega)) ⟨hD.1, hD.2.1, hL⟩ (hb.congr rfl (o0 _ (by omega)) (o0 _ (by omega)))
  rw [ff_comm (a := paS P T true p) (b := loS p) (fun i j s => pa_lo P T true p i j s)] at g1 g2 g3
  have g1 : RK (fun j => A1 (c + j)) P (dieL P T true p D W).1 := g1
  have g3 : bkC true A1 (dieL P T true p D W).1 (dieL P T true p D W).2 := g3
  clear g2
  obtain ⟨s1, -⟩ := dieL_same P T true p D W
  have run : f_X1_die_17_n c (nI p) A = spEnd c p A1 := by
    unfold f_X1_die_17_n
    rw [nm_x, ← hA0]
    exact e1
  rw [run]
  clear run e1
  unfold dieM
  generalize dieL P T true p D W = s at g1 g3 s1 ⊢
  have s1 : ∀ q, dSp s.1 q = dSp D q := s1
  have a8 : A1 (c + 8) p = eo (dSp D p) := by
    have : A1 (c + 8) p = eo (dSp s.1 p) := (g1.2.2.1 p hp).2.2.2.2.2.2.2.1
    rw [this, s1]
  have wp := hD.2.1 p hp
  unfold spEnd
  rw [a8]
  by_cases z : dSp D p = 0
  · rw [if_pos ((eo_m1 (by omega)).mpr z), if_pos z]
    exact ⟨A1, rfl, g1, g3, fun k a b d e f g h i j => by rw [g4 k d e f g h i j, o0 k a]⟩
  · have hbw : dSp D p - 1 < pN P := by omega
    have e : eo (dSp D p) = nI (dSp D p - 1) := (eo_nI (by omega) (by omega)).mpr (by omega)
    rw [if_neg (by rw [eo_m1 (by omega)]; exact z), if_neg z, e, gd_t (by omega) (by omega), ix_nI (by omega)]
    have sp2 := hD.2.2.2 p (dSp D p - 1) hp hbw hd (by omega)
    refine ⟨_, rfl, ?_, g3.congr rfl (uM_off _ _ _ (by omega)) (uM_off _ _ _ (by omega)), fun k a b d e f g h i j => by rw [uM_off _ _ _ b, g4 k d e f g h i j, o0 k a]⟩
    rw [uM_sh]
    refine RK_spc g1 (p := p) (by omega) ?_ ?_
    · rw [s1]; omega
    · rw [s1]; exact sp2.2
end DIE2
