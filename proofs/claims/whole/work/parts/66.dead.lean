/-! ===== a death in the reference ===== -/
def rkF (B : Mm) (D : DD) (W : Nat → Int32) : Prop := ∀ i, i < 5 * dLn D → B 248 i = W i
def endF (p : Nat) (S : Mm) : Option Mm :=
  (f_X11_spouseOf (nI p) S).bind fun q_1 =>
   if q_1.1 = (-1 : Int32) then f_X11_isDead_156 q_1.2 else
   (f_X11_spouseOf (nI p) q_1.2).bind fun q_2 =>
    gd (inB ((112 : Int32) + q_2.1) 148 = true) <|
    nm (uM q_2.2 240 (ix ((112 : Int32) + q_2.1)) (0 : Int32)) fun S_3 =>
    f_X11_isDead_156 S_3
section DEADF
variable {P : PP} {T : TT}
theorem RB_pass {B B' : Mm} {D D' : DD} (h : RB B P D) (hw : RW (B' 240) P D') (hs : ∀ q, dSp D' q = dSp D q) (e : ∀ k, k ≠ 240 → k ≠ 248 → B' k = B k) : RB B' P D' := h.upd hw hs (by rw [e _ (by decide) (by decide)]) (by rw [e _ (by decide) (by decide)]) fun k a b c => e k (by omega) c
theorem F_dead18 {th : Bool} (hP : WFP P) (hw : WFT (pN P) T) {p : Nat} (hp : p < pN P) : ∀ (d lo fuel : Nat) (B : Mm) (s : DD × (Nat → Int32)), lo + d = 28 → d < fuel → RB B P s.1 → RTF B T → B 239 5 = (if th = true then 1 else 0) → WD0 P s.1 → rkF B s.1 s.2 → ∃ B', f_X11_isDead_18 fuel (nI p) (nI lo) B = f_X11_isDead_107 FU (nI p) 0 B' ∧ RB B' P (ff (paS P T th p) lo d s).1 ∧ WD0 P (ff (paS P T th p) lo d s).1 ∧ rkF B' (ff (paS P T th p) lo d s).1 (ff (paS P T th p) lo d s).2 ∧ (∀ k, k ≠ 239 → k ≠ 240 → k ≠ 248 → k ≠ 265 → k ≠ 266 → B' k = B k) ∧ (∀ i, i ≠ 48 → B' 239 i = B 239 i) ∧ ∀ l0, l0 < 28 → B 239 47 = nI l0 → B' 239 48 = if lo ≤ l0 ∧ dOw s.1 l0 = p + 1 then b01 (decide (heirW P s.1 T p l0 ≠ 0)) else B 239 48 := by
  have hN := hP.1
  intro d
  induction d with
  | zero =>
    intro lo fuel B s h1 h2 hB hT h5 hD hb
    cases fuel with
    | zero => omega
    | succ fu =>
      have e : lo = 28 := by omega
      subst e
      refine ⟨B, ?_, hB, hD, hb, fun _ _ _ _ _ _ => rfl, fun _ _ => rfl, fun l0 hl0 _ => by rw [if_neg (by omega)]⟩
      show f_X11_isDead_18b (f_X11_isDead_18 fu) (nI p) (nI 28) B = _
      unfold f_X11_isDead_18b
      rw [if_pos (show (28 : Int32) ≤ nI 28 from nI_ge_t (a := 28) (by omega) (by omega))]
  | succ d ih =>
    intro lo fuel B s h1 h2 hB hT h5 hD hb
    cases fuel with
    | zero => omega
    | succ fu =>
      have hlo : lo < 28 := by omega
      have wo := (hD.1 lo hlo).1
      -- behind the passing
      have fin : ∀ (B0 B1 : Mm) (s1 : DD × (Nat → Int32)), s1 = paS P T th p lo s → RB B1 P s1.1 → rkF B1 s1.1 s1.2 → (∀ k, k ≠ 239 → k ≠ 240 → k ≠ 248 → k ≠ 265 → k ≠ 266 → B1 k = B k) → (∀ i, i ≠ 48 → B1 239 i = B 239 i) → (∀ l0, l0 < 28 → B 239 47 = nI l0 → B1 239 48 = if l0 = lo ∧ dOw s.1 lo = p + 1 then b01 (decide (heirW P s.1 T p lo ≠ 0)) else B 239 48) → ∃ B', f_X11_isDead_99 (f_X11_isDead_18 fu) (nI p) (nI lo) B1 = f_X11_isDead_107 FU (nI p) 0 B' ∧ RB B' P (ff (paS P T th p) (lo + 1) d (paS P T th p lo s)).1 ∧ WD0 P (ff (paS P T th p) (lo + 1) d (paS P T th p lo s)).1 ∧ rkF B' (ff (paS P T th p) (lo + 1) d (paS P T th p lo s)).1 (ff (paS P T th p) (lo + 1) d (paS P T th p lo s)).2 ∧ (∀ k, k ≠ 239 → k ≠ 240 → k ≠ 248 → k ≠ 265 → k ≠ 266 → B' k = B k) ∧ (∀ i, i ≠ 48 → B' 239 i = B 239 i) ∧ ∀ l0, l0 < 28 → B 239 47 = nI l0 → B' 239 48 = if lo ≤ l0 ∧ dOw s.1 l0 = p + 1 then b01 (decide (heirW P s.1 T p l0 ≠ 0)) else B 239 48 := fun _ B1 s1 e1 q1 q2 q3 q4 q5 => by
        subst e1
        obtain ⟨B2, u1, u2, u3, u4, u5, u6, u7⟩ := ih (lo + 1) fu B1 (paS P T th p lo s) (by omega) (by omega) q1 (hT.congr (q4 _ (by decide)) (q4 _ (by decide)) fun k _ _ _ => q3 k (by omega) (by omega) (by omega) (by omega) (by omega)) (by rw [q4 _ (by decide)]; exact h5) (WD0_pa hw (by omega) hD) q2
        refine ⟨B2, ?_, u2, u3, u4, fun k a b c d e => by rw [u5 k a b c d e, q3 k a b c d e], fun i hi => by rw [u6 i hi, q4 i hi], fun l0 hl0 hw0 => ?_⟩
        · unfold f_X11_isDead_99
          rw [nm_x, nI_1]
          exact u1
        · rw [u7 l0 hl0 (by rw [q4 _ (by decide)]; exact hw0), q5 l0 hl0 hw0, heirW_congr (pa_dead P T th p lo s)]
          by_cases c : l0 = lo
          · rw [if_neg (by omega)]
            subst c
            by_cases c2 : dOw s.1 l0 = p + 1
            · rw [if_pos ⟨rfl, c2⟩, if_pos ⟨Nat.le_refl _, c2⟩]
            · rw [if_neg (fun z => c2 z.2), if_neg (fun z => c2 z.2)]
          · have ow : dOw (paS P T th p lo s).1 l0 = dOw s.1 l0 := by
              unfold paS
              split
              · split
                · rw [psD_ow, if_neg c]
                · rw [psD_ow, if_neg c]
              · rfl
            rw [ow, if_neg (fun z : l0 = lo ∧ dOw s.1 lo = p + 1 => c z.1)]
            by_cases c2 : lo ≤ l0 ∧ dOw s.1 l0 = p + 1
            · rw [if_pos c2, if_pos ⟨by omega, c2.2⟩]
            · rw [if_neg c2, if_neg (fun z => c2 ⟨by omega, z.2⟩)]
      show ∃ B', f_X11_isDead_18b (f_X11_isDead_18 fu) (nI p) (nI lo) B = f_X11_isDead_107 FU (nI p) 0 B' ∧ RB B' P (ff (paS P T th p) (lo + 1) d (paS P T th p lo s)).1 ∧ WD0 P (ff (paS P T th p) (lo + 1) d (paS P T th p lo s)).1 ∧ rkF B' (ff (paS P T th p) (lo + 1) d (paS P T th p lo s)).1 (ff (paS P T th p) (lo + 1) d (paS P T th p lo s)).2 ∧ (∀ k, k ≠ 239 → k ≠ 240 → k ≠ 248 → k ≠ 265 → k ≠ 266 → B' k = B k) ∧ (∀ i, i ≠ 48 → B' 239 i = B 239 i) ∧ ∀ l0, l0 < 28 → B 239 47 = nI l0 → B' 239 48 = if lo ≤ l0 ∧ dOw s.1 l0 = p + 1 then b01 (decide (heirW P s.1 T p l0 ≠ 0)) else B 239 48
      unfold f_X11_isDead_18b
      rw [if_neg (show ¬ (28 : Int32) ≤ nI lo from nI_ge_f (a := 28) (by omega) (by omega)), F_ownerOf hB.2.1 hlo]
      simp only [bind_x]
      by_cases z : dOw s.1 lo = p + 1
      · rw [if_pos ((eo_nI (by omega) (by omega)).mpr z), F_heirByWill hB.2.1 hT hN hw hp hlo]
        simp only [bind_x]
        have hwl := heirW_le (P := P) (D := s.1) (T := T) (p := p) (l := lo) hw (by omega)
        obtain ⟨t0, ht0⟩ : ∃ t0, t0 = b01 (decide (heirW P s.1 T p lo ≠ 0)) := ⟨_, rfl⟩
        obtain ⟨B1, hB1⟩ : ∃ B1, B1 = (if nI lo = B 239 47 then uM B 239 48 t0 else B) := ⟨_, rfl⟩
        have o1 : ∀ k, k ≠ 239 → B1 k = B k := fun k hk => by
          rw [hB1]; split
          · exact uM_off _ _ _ hk
          · rfl
        have o2 : ∀ i, i ≠ 48 → B1 239 i = B 239 i := fun i hi => by
          rw [hB1]; split
          · exact uM_ne _ _ _ hi
          · rfl
        have rB1 : RB B1 P s.1 := hB.congr2 (o2 _ (by decide)) (o2 _ (by decide)) fun k _ _ _ _ _ => o1 k (by omega)
        have rT1 : RTF B1 T := hT.congr (o2 _ (by decide)) (o2 _ (by decide)) fun k _ _ _ => o1 k (by omega)
        have w48 : ∀ l0, l0 < 28 → B 239 47 = nI l0 → B1 239 48 = if l0 = lo ∧ dOw s.1 lo = p + 1 then b01 (decide (heirW P s.1 T p lo ≠ 0)) else B 239 48 := fun l0 hl0 e => by
          rw [hB1, e]
          by_cases c : l0 = lo
          · rw [if_pos (by rw [c]), uM_eq, if_pos ⟨c, z⟩, ht0]
          · rw [if_neg (by rw [nI_inj (by omega) (by omega)]; omega), if_neg (fun q => c q.1)]
        have e53 : ∀ x3, f_X11_isDead_53 (f_X11_isDead_18 fu) (nI p) (nI lo) x3 t0 B = f_X11_isDead_69 (f_X11_isDead_18 fu) (nI p) (nI lo) x3 t0 B1 := fun x3 => by
          unfold f_X11_isDead_53
          rw [hB1]
          by_cases c : nI lo = B 239 47
          · rw [if_pos c, if_pos c, gd_pos, nm_x]
            rw [ht0]
            unfold b01
            split
            · exact Or.inr rfl
            · exact Or.inl rfl
          · rw [if_neg c, if_neg c]
        have come : ∀ (B2 : Mm) (o : Nat) (how : Int32), RB B2 P s.1 → (∀ k, k ≠ 265 → k ≠ 266 → B2 k = B1 k) → o ≤ pN P → paS P T th p lo s = (psD th s.1 lo o, psW th s.1 s.2 lo o how) → ∃ B', f_X11_isDead_96 (f_X11_isDead_18 fu) (nI p) (nI lo) (nI lo) (eo o) how B2 = f_X11_isDead_107 FU (nI p) 0 B' ∧ RB B' P (ff (paS P T th p) (lo + 1) d (paS P T th p lo s)).1 ∧ WD0 P (ff (paS P T th p) (lo + 1) d (paS P T th p lo s)).1 ∧ rkF B' (ff (paS P T th p) (lo + 1) d (paS P T th p lo s)).1 (ff (paS P T th p) (lo + 1) d (paS P T th p lo s)).2 ∧ (∀ k, k ≠ 239 → k ≠ 240 → k ≠ 248 → k ≠ 265 → k ≠ 266 → B' k = B k) ∧ (∀ i, i ≠ 48 → B' 239 i = B 239 i) ∧ ∀ l0, l0 < 28 → B 239 47 = nI l0 → B' 239 48 = if lo ≤ l0 ∧ dOw s.1 l0 = p + 1 then b01 (decide (heirW P s.1 T p l0 ≠ 0)) else B 239 48 := fun B2 o how rB2 r2 ho hpa => by
          obtain ⟨B3, e3, v1, v2, v3⟩ := F_comesTo (th := th) (W := s.2) rB2.2.1 (by rw [r2 _ (by decide) (by decide), o2 _ (by decide)]; exact h5) (fun l hl => (hD.1 l hl).1) hN hD.2.2 (fun i hi => by rw [r2 _ (by decide) (by decide), o1 _ (by decide)]; exact hb i hi) hlo ho how
          have := fin B B3 (psD th s.1 lo o, psW th s.1 s.2 lo o how) hpa.symm (RB_pass rB2 v1 (psD_sp _ _ _ _) v3) v2 (fun k a b c d e => by rw [v3 k b c, r2 k d e, o1 k a]) (fun i hi => by rw [v3 _ (by decide) (by decide), r2 _ (by decide) (by decide), o2 i hi]) (fun l0 hl0 e => by rw [v3 _ (by decide) (by decide), r2 _ (by decide) (by decide)]; exact w48 l0 hl0 e)
          unfold f_X11_isDead_96
          rw [e3]
          exact this
        by_cases y : heirW P s.1 T p lo = 0
        · have t : t0 = 0 := by rw [ht0, y]; rfl
          obtain ⟨f, g, e⟩ := F_heirByLaw rB1 rT1 hP hw hp hlo (hD.2.1 p hp).1
          have hpa : paS P T th p lo s = (psD th s.1 lo (heirL P s.1 T p lo), psW th s.1 s.2 lo (heirL P s.1 T p lo) 4) := by
            unfold paS
            rw [if_pos z, if_neg (fun q => q y)]
          have e53 := e53 (eo (heirW P s.1 T p lo))
          rw [t] at e53
          rw [if_pos ((eo_m1 (by omega)).mpr y), e53]
          unfold f_X11_isDead_69 f_X11_isDead_86
          rw [if_pos rfl, e]
          simp only [bind_x, if_true]
          exact come (mf B1 f g) (heirL P s.1 T p lo) 4 (RB_mf rB1) (fun k a b => mf_off _ _ _ a b) heirL_le hpa
        · have t : t0 = 1 := by rw [ht0, decide_eq_true y]; rfl
          have hpa : paS P T th p lo s = (psD th s.1 lo (heirW P s.1 T p lo), psW th s.1 s.2 lo (heirW P s.1 T p lo) 3) := by
            unfold paS
            rw [if_pos z, if_pos y]
          have e53 := e53 (eo (heirW P s.1 T p lo))
          rw [t] at e53
          rw [if_neg (by rw [eo_m1 (by omega)]; exact y), e53]
          unfold f_X11_isDead_69 f_X11_isDead_86
          rw [if_neg (by decide), if_neg (by decide)]
          exact come B1 (heirW P s.1 T p lo) 3 rB1 (fun _ _ _ => rfl) hwl hpa
      · have hpa : paS P T th p lo s = s := if_neg z
        rw [if_neg (by rw [eo_nI (by omega) (by omega)]; exact z)]
        have := fin B B s hpa.symm hB hb (fun _ _ _ _ _ _ => rfl) (fun _ _ => rfl) (fun l0 _ _ => by rw [if_neg (fun q => z q.2)])
        exact this
theorem F_dead107 (hP : WFP P) {p : Nat} (hp : p < pN P) : ∀ (d lo fuel : Nat) (B : Mm) (s : DD × (Nat → Int32)), lo + d = 28 → d < fuel → RB B P s.1 → WD0 P s.1 → ∃ B', f_X11_isDead_107 fuel (nI p) (nI lo) B = endF p B' ∧ RB B' P (ff (loS p) lo d s).1 ∧ ∀ k, k ≠ 240 → B' k = B k := by
  have hN := hP.1
  intro d
  induction d with
  | zero =>
    intro lo fuel B s h1 h2 hB hD
    cases fuel with
    | zero => omega
    | succ fu =>
      have e : lo = 28 := by omega
      subst e
      refine ⟨B, ?_, hB, fun _ _ => rfl⟩
      show f_X11_isDead_107b (f_X11_isDead_107 fu) (nI p) (nI 28) B = _
      unfold f_X11_isDead_107b endF
      rw [if_pos (show (28 : Int32) ≤ nI 28 from nI_ge_t (a := 28) (by omega) (by omega))]
  | succ d ih =>
    intro lo fuel B s h1 h2 hB hD
    cases fuel with
    | zero => omega
    | succ fu =>
      have hlo : lo < 28 := by omega
      have wl := (hD.1 lo hlo).2
      show ∃ B', f_X11_isDead_107b (f_X11_isDead_107 fu) (nI p) (nI lo) B = endF p B' ∧ RB B' P (ff (loS p) (lo + 1) d (loS p lo s)).1 ∧ ∀ k, k ≠ 240 → B' k = B k
      unfold f_X11_isDead_107b f_X11_isDead_127
      rw [if_neg (show ¬ (28 : Int32) ≤ nI lo from nI_ge_f (a := 28) (by omega) (by omega)), F_borrowerOf hB.2.1 hlo]
      simp only [bind_x]
      by_cases z : dLo s.1 lo = p + 1
      · have e : loS p lo s = (sLo s.1 lo 0 0, s.2) := if_pos z
        obtain ⟨B1, e1, g1, g2⟩ := F_endsLoan hB.2.1 hN hlo
        obtain ⟨B2, u1, u2, u3⟩ := ih (lo + 1) fu B1 (loS p lo s) (by omega) (by omega) (by rw [e]; exact RB_pass hB g1 (fun _ => rfl) (fun k a _ => g2 k a)) (WD0_loS hD)
        refine ⟨B2, ?_, u2, fun k a => by rw [u3 k a, g2 k a]⟩
        rw [if_pos ((eo_nI (by omega) (by omega)).mpr z), e1]
        simp only [bind_x, nm_x]
        rw [nI_1]
        exact u1
      · have e : loS p lo s = s := if_neg z
        rw [if_neg (by rw [eo_nI (by omega) (by omega)]; exact z), nm_x, nI_1, e]
        exact ih (lo + 1) fu B s (by omega) (by omega) hB hD
theorem lo_keep (p : Nat) (X : DD × (Nat → Int32)) : dLn (ff (loS p) 0 28 X).1 = dLn X.1 ∧ (ff (loS p) 0 28 X).2 = X.2 := by
  have h2 := ff_ind (step := loS p) (fun _ s => dLn s.1 = dLn X.1 ∧ s.2 = X.2) 28 0 X ⟨rfl, rfl⟩ (fun i s _ _ h => by
    unfold loS
    split
    · exact h
    · exact h)
  exact h2
theorem F_isDead {B : Mm} {D : DD} {W : Nat → Int32} {th : Bool} (hB : RB B P D) (hT : RTF B T) (h5 : B 239 5 = (if th = true then 1 else 0)) (hP : WFP P) (hw : WFT (pN P) T) (hD : WFD P D) (hL : dLn D ≤ 200) (hb : rkF B D W) {p : Nat} (hl : liv P D p = true) : ∃ B', f_X11_isDead (nI p) B = some B' ∧ RB B' P (dieM P T th p D W).1 ∧ rkF B' (dieM P T th p D W).1 (dieM P T th p D W).2 ∧ (∀ k, k ≠ 239 → k ≠ 240 → k ≠ 248 → k ≠ 249 → k ≠ 265 → k ≠ 266 → B' k = B k) ∧ (∀ i, i ≠ 48 → B' 239 i = B 239 i) ∧ ∀ l0, l0 < 28 → B 239 47 = nI l0 → dOw D l0 = p + 1 → B' 239 48 = b01 (decide (heirW P (sDead D p) T p l0 ≠ 0)) := by
  have hN := hP.1
  obtain ⟨hp, hd⟩ := liv_of hl
  obtain ⟨B0, hB0⟩ : ∃ B0, B0 = uM B 240 3 (B 240 3 ||| shl 1 (nI p)) := ⟨_, rfl⟩
  have o0 : ∀ k, k ≠ 240 → B0 k = B k := fun k hk => by rw [hB0, uM_off _ _ _ hk]
  have rB0 : RB B0 P (sDead D p) := hB.upd (by rw [hB0, uM_row]; exact RW_dead hB.2.1 hN hp) (fun _ => rfl) (by rw [o0 _ (by decide)]) (by rw [o0 _ (by decide)]) fun k _ _ _ => o0 k (by omega)
  have rT0 : RTF B0 T := hT.congr (by rw [o0 _ (by decide)]) (by rw [o0 _ (by decide)]) fun k _ _ _ => o0 k (by omega)
  have wd0 : WD0 P (sDead D p) := ⟨hD.1, hD.2.1, hL⟩
  obtain ⟨B1, e1, g1, g2, g3, g4, g5, g6⟩ := F_dead18 (th := th) hP hw hp 28 0 FU B0 (sDead D p, W) (by omega) (by unfold FU; omega) rB0 rT0 (by rw [o0 _ (by decide)]; exact h5) wd0 (fun i hi => by rw [o0 _ (by decide)]; exact hb i hi)
  obtain ⟨B2, e2, v1, v2⟩ := F_dead107 hP hp 28 0 FU B1 (ff (paS P T th p) 0 28 (sDead D p, W)) (by omega) (by unfold FU; omega) g1 g2
  have rows2 : rkF B2 (dieL P T th p D W).1 (dieL P T th p D W).2 := by
    have dl : dieL P T th p D W = ff (loS p) 0 28 (ff (paS P T th p) 0 28 (sDead D p, W)) := by unfold dieL; rfl
    intro i hi
    rw [dl, (lo_keep p _).1] at hi
    rw [dl, (lo_keep p _).2, v2 _ (by decide)]
    exact g3 i hi
  have v1 : RB B2 P (dieL P T th p D W).1 := v1
  have wfin := WFD_die (th := th) (W := W) hw hN hD hL hl
  obtain ⟨s1, -⟩ := dieL_same P T th p D W
  have run : f_X11_isDead (nI p) B = endF p B2 := by
    unfold f_X11_isDead
    rw [nm_x, ← hB0]
    exact e1.trans e2
  have w48 : ∀ l0, l0 < 28 → B 239 47 = nI l0 → dOw D l0 = p + 1 → B2 239 48 = b01 (decide (heirW P (sDead D p) T p l0 ≠ 0)) := fun l0 hl0 h47 how => by
    rw [v2 _ (by decide), g6 l0 hl0 (by rw [o0 _ (by decide)]; exact h47), if_pos ⟨Nat.zero_le _, how⟩]
  have fr : ∀ k, k ≠ 239 → k ≠ 240 → k ≠ 248 → k ≠ 265 → k ≠ 266 → B2 k = B k := fun k a b c d e => by rw [v2 k b, g4 k a b c d e, o0 k b]
  have fr2 : ∀ i, i ≠ 48 → B2 239 i = B 239 i := fun i hi => by rw [v2 _ (by decide), g5 i hi, o0 _ (by decide)]
  rw [run]
  clear run e1 e2 g1 g2 g3 g4 g5 g6 v2
  unfold dieM at wfin ⊢
  generalize dieL P T th p D W = s at rows2 v1 wfin s1 ⊢
  have s1 : ∀ q, dSp s.1 q = dSp D q := s1
  have wp := hD.2.1 p hp
  have finish : ∀ (B3 : Mm) (D' : DD), RS B3 P → RW (B3 240) P D' → WFD P D' → dLn D' = dLn s.1 → (∀ k, k ≠ 240 → B3 k = B2 k) → ∃ B', f_X11_isDead_156 B3 = some B' ∧ RB B' P D' ∧ rkF B' D' s.2 ∧ (∀ k, k ≠ 239 → k ≠ 240 → k ≠ 248 → k ≠ 249 → k ≠ 265 → k ≠ 266 → B' k = B k) ∧ (∀ i, i ≠ 48 → B' 239 i = B 239 i) ∧ ∀ l0, l0 < 28 → B 239 47 = nI l0 → dOw D l0 = p + 1 → B' 239 48 = b01 (decide (heirW P (sDead D p) T p l0 ≠ 0)) := fun B3 D' q1 q2 q3 q4 q5 => by
    obtain ⟨B4, u1, u2, u3⟩ := F_kinNew q1 q2 hP q3
    refine ⟨B4, ?_, u2, fun i hi => ?_, fun k a b c d e f => by rw [u3 k d, q5 k b, fr k a b c e f], fun i hi => by rw [u3 _ (by decide), q5 _ (by decide), fr2 i hi], fun l0 a b c => by rw [u3 _ (by decide), q5 _ (by decide), w48 l0 a b c]⟩
    · unfold f_X11_isDead_156
      rw [u1]
      rfl
    · rw [q4] at hi
      rw [u3 _ (by decide), q5 _ (by decide)]
      exact rows2 i hi
  unfold endF
  rw [F_spouseOf v1.2.1 hN hp, s1]
  simp only [bind_x]
  by_cases z : dSp D p = 0
  · rw [if_pos ((eo_m1 (by omega)).mpr z)]
    rw [if_pos z] at wfin ⊢
    exact finish B2 s.1 v1.1 v1.2.1 wfin rfl (fun _ _ => rfl)
  · have hbw : dSp D p - 1 < pN P := by omega
    have e : eo (dSp D p) = nI (dSp D p - 1) := (eo_nI (by omega) (by omega)).mpr (by omega)
    rw [if_neg (by rw [eo_m1 (by omega)]; exact z), F_spouseOf v1.2.1 hN hp, s1, e]
    simp only [bind_x]
    rw [nI_lit 112, nI_add, gd_t (by omega) (by omega), ix_nI (by omega), nm_x]
    rw [if_neg z] at wfin ⊢
    exact finish (uM B2 240 (112 + (dSp D p - 1)) (nI 0)) (sSp s.1 (dSp D p - 1) 0) (v1.1.congr (by rw [uM_off _ _ _ (by decide)]) (by rw [uM_off _ _ _ (by decide)]) fun k _ _ => uM_off _ _ _ (by omega)) (by rw [uM_row]; exact RW_sp v1.2.1 hN hbw 0) wfin rfl (fun k hk => uM_off _ _ _ hk)
end DEADF
