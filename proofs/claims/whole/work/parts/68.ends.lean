/-! ===== a day ends, in the reference; days ===== -/
section ENDS
variable {P : PP} {T : TT}
theorem RB_dies1 {B : Mm} {D : DD} (h : RB B P D) (hN : pN P ≤ 12) {q : Nat} (hq : q < pN P) {u v : Int32} (e : u = v + 1) : RB (uM B 240 (88 + q) u) P (sDies D q v) := by rw [e]; exact RB_dies h hN hq v
theorem F_endsLoans {D : DD} (hP : WFP P) : ∀ (d lo fuel : Nat) (B : Mm) (D : DD), lo + d = 28 → d < fuel → RB B P D → (∀ l, l < 28 → dLo D l ≤ 12) → ∃ B', f_X11_endsLoans_2 fuel (nI lo) B = some B' ∧ RB B' P (ff elS lo d D) ∧ ∀ k, k ≠ 240 → B' k = B k := by
  have hN := hP.1
  intro d
  induction d with
  | zero =>
    intro lo fuel B D h1 h2 hB hl
    cases fuel with
    | zero => omega
    | succ fu =>
      have e : lo = 28 := by omega
      subst e
      refine ⟨B, ?_, hB, fun _ _ => rfl⟩
      show f_X11_endsLoans_2b (f_X11_endsLoans_2 fu) (nI 28) B = _
      unfold f_X11_endsLoans_2b
      rw [if_pos (show (28 : Int32) ≤ nI 28 from nI_ge_t (a := 28) (by omega) (by omega))]
  | succ d ih =>
    intro lo fuel B D h1 h2 hB hl
    cases fuel with
    | zero => omega
    | succ fu =>
      have hlo : lo < 28 := by omega
      have wl := hl lo hlo
      have wl2 : ∀ l, l < 28 → dLo (elS lo D) l ≤ 12 := fun l h => by
        unfold elS
        split
        · show un D.1 3 lo 0 3 l ≤ 12
          by_cases c : l = lo
          · rw [c, un_eq]; omega
          · rw [un_ne _ _ _ c]; exact hl l h
        · exact hl l h
      show ∃ B', f_X11_endsLoans_2b (f_X11_endsLoans_2 fu) (nI lo) B = some B' ∧ RB B' P (ff elS (lo + 1) d (elS lo D)) ∧ ∀ k, k ≠ 240 → B' k = B k
      unfold f_X11_endsLoans_2b f_X11_endsLoans_40
      rw [if_neg (show ¬ (28 : Int32) ≤ nI lo from nI_ge_f (a := 28) (by omega) (by omega)), F_borrowerOf hB.2.1 hlo]
      simp only [bind_x]
      by_cases z : dLo D lo = 0
      · have e : elS lo D = D := if_neg (fun q => q.1 z)
        rw [if_pos ((eo_m1 (by omega)).mpr z), nm_x, nI_1, e]
        exact ih (lo + 1) fu B D (by omega) (by omega) hB hl
      · have la : B 240 (60 + lo) = dLa D lo := (hB.2.1.2.2.2.1 lo hlo).2.2 z
        rw [if_neg (by rw [eo_m1 (by omega)]; exact z), nI_lit 60, nI_add, gd_t (by omega) (by omega), ix_nI (by omega), la, show B 240 0 = nI (dDay D) from hB.2.1.1.1]
        by_cases y : nI (dDay D) ≤ dLa D lo
        · have e : elS lo D = D := if_neg (fun q => q.2 y)
          rw [if_pos y, nm_x, nI_1, e]
          exact ih (lo + 1) fu B D (by omega) (by omega) hB hl
        · have e : elS lo D = sLo D lo 0 0 := if_pos ⟨z, y⟩
          obtain ⟨B1, e1, g1, g2⟩ := F_endsLoan hB.2.1 hN hlo
          obtain ⟨B2, u1, u2, u3⟩ := ih (lo + 1) fu B1 (elS lo D) (by omega) (by omega) (by rw [e]; exact RB_pass hB g1 (fun _ => rfl) (fun k a _ => g2 k a)) wl2
          refine ⟨B2, ?_, u2, fun k a => by rw [u3 k a, g2 k a]⟩
          rw [if_neg y, e1]
          simp only [bind_x, nm_x]
          rw [nI_1]
          exact u1
theorem F_ends22 {th : Bool} (hP : WFP P) (hw : WFT (pN P) T) : ∀ (d q fuel : Nat) (B : Mm) (s : (DD × (Nat → Int32)) × Nat), q + d = pN P → d < fuel → RB B P s.1.1 → RTF B T → B 239 5 = (if th = true then 1 else 0) → wdP P s.1.1 → rkF B s.1.1 s.1.2 → ∃ B', f_X11_ends_22 fuel (nI s.2) (nI q) B = some (nI (ff (pdS P T th) q d s).2, B') ∧ RB B' P (ff (pdS P T th) q d s).1.1 ∧ rkF B' (ff (pdS P T th) q d s).1.1 (ff (pdS P T th) q d s).1.2 ∧ (∀ k, k ≠ 239 → k ≠ 240 → k ≠ 248 → k ≠ 249 → k ≠ 265 → k ≠ 266 → B' k = B k) ∧ ∀ i, i ≠ 48 → B' 239 i = B 239 i := by
  have hN := hP.1
  intro d
  induction d with
  | zero =>
    intro q fuel B s h1 h2 hB hT h5 hD hb
    cases fuel with
    | zero => omega
    | succ fu =>
      refine ⟨B, ?_, hB, hb, fun _ _ _ _ _ _ _ => rfl, fun _ _ => rfl⟩
      show f_X11_ends_22b (f_X11_ends_22 fu) (nI s.2) (nI q) B = _
      unfold f_X11_ends_22b
      rw [hB.1.1.1, if_pos (nI_ge_t (by omega) (by omega))]
      rfl
  | succ d ih =>
    intro q fuel B s h1 h2 hB hT h5 hD hb
    cases fuel with
    | zero => omega
    | succ fu =>
      have hq : q < pN P := by omega
      have next : ∀ (B1 : Mm) (s1 : (DD × (Nat → Int32)) × Nat), s1 = pdS P T th q s → RB B1 P s1.1.1 → rkF B1 s1.1.1 s1.1.2 → (∀ k, k ≠ 239 → k ≠ 240 → k ≠ 248 → k ≠ 249 → k ≠ 265 → k ≠ 266 → B1 k = B k) → (∀ i, i ≠ 48 → B1 239 i = B 239 i) → ∃ B', f_X11_ends_108 (f_X11_ends_22 fu) (nI s1.2) (nI q) B1 = some (nI (ff (pdS P T th) (q + 1) d (pdS P T th q s)).2, B') ∧ RB B' P (ff (pdS P T th) (q + 1) d (pdS P T th q s)).1.1 ∧ rkF B' (ff (pdS P T th) (q + 1) d (pdS P T th q s)).1.1 (ff (pdS P T th) (q + 1) d (pdS P T th q s)).1.2 ∧ (∀ k, k ≠ 239 → k ≠ 240 → k ≠ 248 → k ≠ 249 → k ≠ 265 → k ≠ 266 → B' k = B k) ∧ ∀ i, i ≠ 48 → B' 239 i = B 239 i := fun B1 s1 es g1 g2 g3 g4 => by
        subst es
        obtain ⟨B2, u1, u2, u3, u4, u5⟩ := ih (q + 1) fu B1 (pdS P T th q s) (by omega) (by omega) g1 (hT.congr (g4 _ (by decide)) (g4 _ (by decide)) fun k _ _ _ => g3 k (by omega) (by omega) (by omega) (by omega) (by omega) (by omega)) (by rw [g4 _ (by decide)]; exact h5) (wdP_pd hN hw hD) g2
        refine ⟨B2, ?_, u2, u3, fun k a b c d e f => by rw [u4 k a b c d e f, g3 k a b c d e f], fun i hi => by rw [u5 i hi, g4 i hi]⟩
        unfold f_X11_ends_108
        rw [nm_x, nI_1]
        exact u1
      have k88 : B 240 (88 + q) = dDies s.1.1 q + 1 := (hB.2.1.2.2.1 q hq).1
      have k0 : B 240 0 = nI (dDay s.1.1) := hB.2.1.1.1
      show ∃ B', f_X11_ends_22b (f_X11_ends_22 fu) (nI s.2) (nI q) B = some (nI (ff (pdS P T th) (q + 1) d (pdS P T th q s)).2, B') ∧ RB B' P (ff (pdS P T th) (q + 1) d (pdS P T th q s)).1.1 ∧ rkF B' (ff (pdS P T th) (q + 1) d (pdS P T th q s)).1.1 (ff (pdS P T th) (q + 1) d (pdS P T th q s)).1.2 ∧ (∀ k, k ≠ 239 → k ≠ 240 → k ≠ 248 → k ≠ 249 → k ≠ 265 → k ≠ 266 → B' k = B k) ∧ ∀ i, i ≠ 48 → B' 239 i = B 239 i
      unfold f_X11_ends_22b
      rw [hB.1.1.1, if_neg (nI_ge_f (by omega) (by omega)), F_doesLive hB.2.1 hN hq]
      simp only [bind_x]
      by_cases l : liv P s.1.1 q = true
      · rw [if_pos l, if_neg (by decide), nI_lit 88, nI_add, gd_t (by omega) (by omega), ix_nI (by omega), k88, k0]
        have dies : ∀ B1 : Mm, RB B1 P (drD P th q s.1.1) → (∀ k, k ≠ 240 → B1 k = B k) → dyP P th q s.1.1 = true → ∃ B', f_X11_ends_82 (f_X11_ends_22 fu) (nI s.2) (nI q) B1 = some (nI (ff (pdS P T th) (q + 1) d (pdS P T th q s)).2, B') ∧ RB B' P (ff (pdS P T th) (q + 1) d (pdS P T th q s)).1.1 ∧ rkF B' (ff (pdS P T th) (q + 1) d (pdS P T th q s)).1.1 (ff (pdS P T th) (q + 1) d (pdS P T th q s)).1.2 ∧ (∀ k, k ≠ 239 → k ≠ 240 → k ≠ 248 → k ≠ 249 → k ≠ 265 → k ≠ 266 → B' k = B k) ∧ ∀ i, i ≠ 48 → B' 239 i = B 239 i := fun B1 aB aF dy => by
          have a0 : B1 240 0 = nI (dDay s.1.1) := by
            have : B1 240 0 = nI (dDay (drD P th q s.1.1)) := aB.2.1.1.1
            rw [this, same2_draw.2.1]
          have lq : liv P (sDies (drD P th q s.1.1) q (nI (dDay s.1.1))) q = true := by rw [← l]; exact liv_congr (fun j => drD_dead j) q
          have wdr := drD_wd (th := th) (q := q) hD
          have lnd : dLn (drD P th q s.1.1) = dLn s.1.1 := by unfold drD; split <;> rfl
          obtain ⟨B2, e2, g1, g2, g3, g4, -⟩ := F_isDead (B := uM B1 240 (88 + q) (nI (dDay s.1.1) + 1)) (D := sDies (drD P th q s.1.1) q (nI (dDay s.1.1))) (W := s.1.2) (th := th) (RB_dies1 aB hN hq rfl) (hT.congr (by rw [uM_off _ _ _ (by decide), aF _ (by decide)]) (by rw [uM_off _ _ _ (by decide), aF _ (by decide)]) fun k _ _ _ => by rw [uM_off _ _ _ (by omega), aF k (by omega)]) (by rw [uM_off _ _ _ (by decide), aF _ (by decide)]; exact h5) hP hw wdr.1 wdr.2 (fun i hi => by
            have hi : i < 5 * dLn (drD P th q s.1.1) := hi
            rw [lnd] at hi
            rw [uM_off _ _ _ (by decide), aF _ (by decide)]; exact hb i hi) lq
          have hs1 : pdS P T th q s = (dieM P T th q (sDies (drD P th q s.1.1) q (nI (dDay s.1.1))) s.1.2, s.2 + 1) := by
            unfold pdS
            rw [if_pos l, if_pos dy]
          obtain ⟨B3, u1, u2, u3, u4, u5⟩ := next B2 _ hs1.symm g1 g2 (fun k a b c d e f => by rw [g3 k a b c d e f, uM_off _ _ _ b, aF k b]) (fun i hi => by rw [g4 i hi, uM_off _ _ _ (by decide), aF _ (by decide)])
          refine ⟨B3, ?_, u2, u3, u4, u5⟩
          unfold f_X11_ends_82
          rw [nI_lit 88, nI_add, gd_t (by omega) (by omega), nm_x, ix_nI (by omega), a0, e2]
          simp only [bind_x, nm_x]
          rw [nI_1]
          exact u1
        have lives : ∀ B1 : Mm, RB B1 P (drD P th q s.1.1) → (∀ k, k ≠ 240 → B1 k = B k) → dyP P th q s.1.1 = false → ∃ B', f_X11_ends_108 (f_X11_ends_22 fu) (nI s.2) (nI q) B1 = some (nI (ff (pdS P T th) (q + 1) d (pdS P T th q s)).2, B') ∧ RB B' P (ff (pdS P T th) (q + 1) d (pdS P T th q s)).1.1 ∧ rkF B' (ff (pdS P T th) (q + 1) d (pdS P T th q s)).1.1 (ff (pdS P T th) (q + 1) d (pdS P T th q s)).1.2 ∧ (∀ k, k ≠ 239 → k ≠ 240 → k ≠ 248 → k ≠ 249 → k ≠ 265 → k ≠ 266 → B' k = B k) ∧ ∀ i, i ≠ 48 → B' 239 i = B 239 i := fun B1 aB aF dy => by
          have lnd : dLn (drD P th q s.1.1) = dLn s.1.1 := by unfold drD; split <;> rfl
          have hs1 : pdS P T th q s = ((drD P th q s.1.1, s.1.2), s.2) := by
            unfold pdS
            rw [if_pos l, if_neg (by rw [dy]; decide)]
          have := next B1 ((drD P th q s.1.1, s.1.2), s.2) hs1.symm aB (fun i hi => by
            have hi : i < 5 * dLn (drD P th q s.1.1) := hi
            rw [lnd] at hi
            rw [aF _ (by decide)]; exact hb i hi) (fun k _ b _ _ _ _ => aF k b) (fun i _ => by rw [aF _ (by decide)])
          exact this
        by_cases due : dDies s.1.1 q = nI (dDay s.1.1)
        · have nod : drD P th q s.1.1 = s.1.1 := by unfold drD drP; rw [if_neg (by simp [due])]
          rw [if_pos (add1_inj.mpr due)]
          unfold f_X11_ends_66
          rw [if_neg (by decide)]
          exact dies B (by rw [nod]; exact hB) (fun _ _ => rfl) (by unfold dyP; simp [due])
        · rw [if_neg (fun e => due (add1_inj.mp e))]
          unfold f_X11_ends_66 f_X11_isFrailToday f_X11_isFrailToday_36
          rw [if_pos rfl, h5]
          cases th with
          | true =>
            have nod : drD P true q s.1.1 = s.1.1 := by unfold drD drP; rw [if_neg (by simp)]
            rw [if_pos rfl, if_neg (by decide)]
            simp only [bind_x, if_true]
            exact lives B (by rw [nod]; exact hB) (fun _ _ => rfl) (by unfold dyP drP; simp [due])
          | false =>
            have k5 : B 246 q = pFr P q := (hB.1.2 q hq).2.2.2.1
            rw [if_neg (show ¬ (false = true) by decide), if_pos rfl, gd_t (by omega) (by omega), ix_nI (by omega), k5]
            by_cases fr : pFr P q ≤ 0
            · have nod : drD P false q s.1.1 = s.1.1 := by unfold drD drP; rw [if_neg (by simp [fr])]
              rw [if_pos fr]
              simp only [bind_x, if_true]
              exact lives B (by rw [nod]; exact hB) (fun _ _ => rfl) (by unfold dyP drP; simp [due, fr])
            · have yes : drP P false q s.1.1 = true := by unfold drP; simp [due, fr]
              have dod : drD P false q s.1.1 = sDraw s.1.1 (drV s.1.1) := if_pos yes
              rw [if_neg fr, F_draw10k hB.2.1]
              simp only [bind_x]
              rw [gd_t (by omega) (by omega), uM_off _ _ _ (by decide), k5]
              by_cases z : pFr P q ≤ irem (ushr (drV s.1.1) 8) 10000
              · rw [if_pos z]
                simp only [bind_x, if_true]
                exact lives _ (by rw [dod]; exact RB_draw hB hN _) (fun k hk => uM_off _ _ _ hk) (by unfold dyP; simp [due, z])
              · rw [if_neg z]
                simp only [bind_x, i10, if_false]
                exact dies _ (by rw [dod]; exact RB_draw hB hN _) (fun k hk => uM_off _ _ _ hk) (by unfold dyP; simp [yes, z])
      · have hs1 : pdS P T th q s = s := if_neg l
        rw [if_neg l, if_pos rfl]
        exact next B s hs1.symm hB hb (fun _ _ _ _ _ _ _ => rfl) (fun _ _ => rfl)
theorem F_ends {B : Mm} {D : DD} {W : Nat → Int32} {th : Bool} (hB : RB B P D) (hT : RTF B T) (h5 : B 239 5 = (if th = true then 1 else 0)) (hP : WFP P) (hw : WFT (pN P) T) (hD : wdP P D) (hb : rkF B D W) : ∃ B', f_X11_ends B = some (nI (dayM P T th D W).2, B') ∧ RB B' P (dayM P T th D W).1.1 ∧ rkF B' (dayM P T th D W).1.1 (dayM P T th D W).1.2 ∧ (∀ k, k ≠ 239 → k ≠ 240 → k ≠ 248 → k ≠ 249 → k ≠ 265 → k ≠ 266 → B' k = B k) ∧ ∀ i, i ≠ 48 → B' 239 i = B 239 i := by
  have hN := hP.1
  obtain ⟨B0, hB0⟩ : ∃ B0, B0 = uM B 240 0 (nI (dDay D + 1)) := ⟨_, rfl⟩
  have o0 : ∀ k, k ≠ 240 → B0 k = B k := fun k hk => by rw [hB0, uM_off _ _ _ hk]
  have rB0 : RB B0 P (sDay D (dDay D + 1)) := hB.upd (by rw [hB0, uM_row]; exact RW_day hB.2.1 hN _) (fun _ => rfl) (by rw [o0 _ (by decide)]) (by rw [o0 _ (by decide)]) fun k _ _ _ => o0 k (by omega)
  obtain ⟨B1, e1, g1, g2⟩ := F_endsLoans (D := D) hP 28 0 FU B0 (sDay D (dDay D + 1)) (by omega) (by unfold FU; omega) rB0 (fun l hl => by have := (hD.1.1 l hl).2; show dLo D l ≤ 12; omega)
  have hE : wdP P (ff elS 0 28 (sDay D (dDay D + 1))) ∧ dLn (ff elS 0 28 (sDay D (dDay D + 1))) = dLn D := ff_ind (step := elS) (fun _ x => wdP P x ∧ dLn x = dLn D) 28 0 (sDay D (dDay D + 1)) ⟨⟨hD.1, hD.2⟩, rfl⟩ (fun i s _ _ z => ⟨wdP_el z.1, by unfold elS; split <;> exact z.2⟩)
  have fr : ∀ k, k ≠ 240 → B1 k = B k := fun k hk => by rw [g2 k hk, o0 k hk]
  unfold dayM
  revert hE g1
  generalize ff elS 0 28 (sDay D (dDay D + 1)) = X
  intro g1 hE
  obtain ⟨B2, u1, u2, u3, u4, u5⟩ := F_ends22 (T := T) (th := th) hP hw (pN P) 0 FU B1 ((X, W), 0) (by omega) (by unfold FU; omega) g1 (hT.congr (by rw [fr _ (by decide)]) (by rw [fr _ (by decide)]) fun k _ _ _ => fr k (by omega)) (by rw [fr _ (by decide)]; exact h5) hE.1 (fun i hi => by
    have hi : i < 5 * dLn X := hi
    rw [hE.2] at hi
    rw [fr _ (by decide)]; exact hb i hi)
  refine ⟨B2, ?_, u2, u3, fun k a b c d e f => by rw [u4 k a b c d e f, fr k b], fun i hi => by rw [u5 i hi, fr _ (by decide)]⟩
  unfold f_X11_ends f_X11_endsLoans
  rw [nm_x, show B 240 0 = nI (dDay D) from hB.2.1.1.1, nI_1, ← hB0, show f_X11_endsLoans_2 FU 0 B0 = some B1 from e1]
  exact u1
end ENDS
section DAYS
variable {S : Mm} {P : PP} {D : DD} {T : TT} {W : Nat → Int32} {E : RE}
/-- one of several days: what is kept ahead, what is so then, how many died -/
def dsS (P : PP) (T : TT) (s : (DD × (Nat → Int32)) × HH × Int32) : (DD × (Nat → Int32)) × HH × Int32 := ((dayM P T false s.1.1 s.1.2).1, pushH s.1.1 s.2.1, s.2.2 + nI (dayM P T false s.1.1 s.1.2).2)
def wdS (P : PP) (T : TT) (s : (DD × (Nat → Int32)) × HH × Int32) : Prop := WFS P s.1.1 T ∧ WFH P s.1.1 T s.2.1
theorem wdS_step {s : (DD × (Nat → Int32)) × HH × Int32} (h : wdS P T s) (h9 : dDay s.1.1 < 9999) : wdS P T (dsS P T s) ∧ dDay (dsS P T s).1.1 = dDay s.1.1 + 1 := by
  obtain ⟨⟨a1, a2, a3, a4, a5, a6⟩, b⟩ := h
  obtain ⟨k1, k2, k3, k4⟩ := day_keep (P := P) (T := T) (th := false) (D := s.1.1) (W := s.1.2) a1.1 a5 ⟨a3, a4.1.2⟩
  have dd : dDay (dayM P T false s.1.1 s.1.2).1.1 = dDay s.1.1 + 1 := k3
  have kk : ∀ k i, k ≠ 0 → k ≠ 1 → k ≠ 2 → (dayM P T false s.1.1 s.1.2).1.1.2 k i = s.1.1.2 k i := k2
  have ln : dLn s.1.1 ≤ dLn (dayM P T false s.1.1 s.1.2).1.1 := k4
  refine ⟨⟨⟨a1, a2, k1.1, ⟨⟨by show dDay (dayM P T false s.1.1 s.1.2).1.1 ≤ 9999; omega, k1.2⟩, fun q hq => ?_⟩, a5, fun d h1 h2 => ?_⟩, WFH_push b a3 a4 a6 ln⟩, dd⟩
  · rw [show dCoin (dsS P T s).1.1 q = dCoin s.1.1 q from kk 3 q (by decide) (by decide) (by decide)]; exact a4.2 q hq
  · rw [show dSg (dsS P T s).1.1 d = dSg s.1.1 d from kk 4 d (by decide) (by decide) (by decide), show dFg (dsS P T s).1.1 d = dFg s.1.1 d from kk 5 d (by decide) (by decide) (by decide), show dSo (dsS P T s).1.1 d = dSo s.1.1 d from kk 6 d (by decide) (by decide) (by decide)]
    exact a6 d h1 h2
theorem C_days (hP : WFP P) {n : Nat} (hn : n ≤ 100) : ∀ (d i fuel : Nat) (A : Mm) (s : (DD × (Nat → Int32)) × HH × Int32), i + d = n → d < fuel → RK (fun j => A (1 + j)) P s.1.1 → RTK (fun j => A (17 + j)) T → bkC false A s.1.1 s.1.2 → CH A P s.2.1 → wdS P T s → dDay s.1.1 + d ≤ 9999 → ∃ A', f_X10_days_32 fuel (nI n) s.2.2 (nI i) A = some ((ff (fun _ => dsS P T) i d s).2.2, A') ∧ RK (fun j => A' (1 + j)) P (ff (fun _ => dsS P T) i d s).1.1 ∧ bkC false A' (ff (fun _ => dsS P T) i d s).1.1 (ff (fun _ => dsS P T) i d s).1.2 ∧ CH A' P (ff (fun _ => dsS P T) i d s).2.1 ∧ wdS P T (ff (fun _ => dsS P T) i d s) ∧ ∀ k, k = 0 ∨ 165 ≤ k ∨ (17 ≤ k ∧ k < 32 ∧ k ≠ 23 ∧ k ≠ 24) → A' k = A k := by
  have hN := hP.1
  intro d
  induction d with
  | zero =>
    intro i fuel A s h1 h2 hK hT hb hC hw h9
    cases fuel with
    | zero => omega
    | succ fu =>
      refine ⟨A, ?_, hK, hb, hC, hw, fun _ _ => rfl⟩
      show f_X10_days_32b (f_X10_days_32 fu) (nI n) s.2.2 (nI i) A = _
      unfold f_X10_days_32b
      rw [if_pos (nI_ge_t (by omega) (by omega))]
      rfl
  | succ d ih =>
    intro i fuel A s h1 h2 hK hT hb hC hw h9
    cases fuel with
    | zero => omega
    | succ fu =>
      have hb' := hb.2
      obtain ⟨A1, e1, g1, g2⟩ := C_keep hK hN hC hw.2.1 hb'.1
      obtain ⟨A2, e2, u1, u2, u3⟩ := C_endDay_32 (T := T) (c := 1) (W := s.1.2) (by decide : 1 ∈ clanL) rfl (hK.congr fun j hj => g2 _ (by omega)) (hT.congr fun j hj _ _ => g2 _ (by omega)) hP hw.1.2.2.2.2.1 ⟨hw.1.2.2.1, hw.1.2.2.2.1.1.2⟩ (hb.congr rfl (g2 _ (by omega)) (g2 _ (by omega)))
      obtain ⟨w1, w2⟩ := wdS_step hw (by omega)
      obtain ⟨A3, v1, v2, v3, v4, v5, v6⟩ := ih (i + 1) fu A2 (dsS P T s) (by omega) (by omega) u1 (hT.congr fun j hj a b => by rw [u3 _ (by omega) (by omega) (by omega) (by omega) (by omega), g2 _ (by omega)]) u2 (g1.congr fun k a b => u3 k (by omega) (by omega) (by omega) (by omega) (by omega)) w1 (by omega)
      refine ⟨A3, ?_, v2, v3, v4, v5, fun k hk => by rw [v6 k hk, u3 k (by omega) (by omega) (by omega) (by omega) (by omega), g2 k (by omega)]⟩
      show f_X10_days_32b (f_X10_days_32 fu) (nI n) s.2.2 (nI i) A = _
      unfold f_X10_days_32b
      rw [if_neg (nI_ge_f (by omega) (by omega)), e1]
      simp only [bind_x]
      rw [e2]
      simp only [bind_x, nm_x]
      rw [nI_1]
      exact v1
theorem F_days (hP : WFP P) {n : Nat} (hn : n ≤ 100) : ∀ (d i fuel : Nat) (B : Mm) (s : (DD × (Nat → Int32)) × HH × Int32), i + d = n → d < fuel → RB B P s.1.1 → RTF B T → B 239 5 = 0 → rkF B s.1.1 s.1.2 → FH B P s.2.1 → wdS P T s → dDay s.1.1 + d ≤ 9999 → ∃ B', f_X11_days_36 fuel (nI n) s.2.2 (nI i) B = some ((ff (fun _ => dsS P T) i d s).2.2, B') ∧ RB B' P (ff (fun _ => dsS P T) i d s).1.1 ∧ rkF B' (ff (fun _ => dsS P T) i d s).1.1 (ff (fun _ => dsS P T) i d s).1.2 ∧ FH B' P (ff (fun _ => dsS P T) i d s).2.1 ∧ (∀ k, k ≠ 239 → k ≠ 240 → k ≠ 241 → k ≠ 248 → k ≠ 249 → k ≠ 265 → k ≠ 266 → B' k = B k) ∧ ∀ i, i ≠ 3 → i ≠ 48 → B' 239 i = B 239 i := by
  have hN := hP.1
  intro d
  induction d with
  | zero =>
    intro i fuel B s h1 h2 hB hT h5 hb hH hw h9
    cases fuel with
    | zero => omega
    | succ fu =>
      refine ⟨B, ?_, hB, hb, hH, fun _ _ _ _ _ _ _ _ => rfl, fun _ _ _ => rfl⟩
      show f_X11_days_36b (f_X11_days_36 fu) (nI n) s.2.2 (nI i) B = _
      unfold f_X11_days_36b
      rw [if_pos (nI_ge_t (by omega) (by omega))]
      rfl
  | succ d ih =>
    intro i fuel B s h1 h2 hB hT h5 hb hH hw h9
    cases fuel with
    | zero => omega
    | succ fu =>
      obtain ⟨B1, e1, g1, g2, g3⟩ := F_keep hB.2.1 hN hH hw.2.1
      have rB1 : RB B1 P s.1.1 := hB.congr2 (g3 _ (by decide)) (g3 _ (by decide)) fun k _ _ _ _ _ => g2 k (by omega) (by omega)
      obtain ⟨B2, e2, u1, u2, u3, u4⟩ := F_ends (th := false) (W := s.1.2) rB1 (hT.congr (g3 _ (by decide)) (g3 _ (by decide)) fun k _ _ _ => g2 k (by omega) (by omega)) (by rw [g3 _ (by decide)]; exact h5) hP hw.1.2.2.2.2.1 ⟨hw.1.2.2.1, hw.1.2.2.2.1.1.2⟩ (fun i hi => by rw [g2 _ (by decide) (by decide)]; exact hb i hi)
      obtain ⟨w1, w2⟩ := wdS_step hw (by omega)
      obtain ⟨B3, v1, v2, v3, v4, v5, v6⟩ := ih (i + 1) fu B2 (dsS P T s) (by omega) (by omega) u1 (hT.congr (by rw [u4 _ (by decide), g3 _ (by decide)]) (by rw [u4 _ (by decide), g3 _ (by decide)]) fun k _ _ _ => by rw [u3 k (by omega) (by omega) (by omega) (by omega) (by omega) (by omega), g2 k (by omega) (by omega)]) (by rw [u4 _ (by decide), g3 _ (by decide)]; exact h5) u2 (g1.congr (u4 _ (by decide)) (u3 _ (by decide) (by decide) (by decide) (by decide) (by decide) (by decide))) w1 (by omega)
      refine ⟨B3, ?_, v2, v3, v4, fun k a b c d e f g => by rw [v5 k a b c d e f g, u3 k a b d e f g, g2 k a c], fun i a b => by rw [v6 i a b, u4 i b, g3 i a]⟩
      show f_X11_days_36b (f_X11_days_36 fu) (nI n) s.2.2 (nI i) B = _
      unfold f_X11_days_36b
      rw [if_neg (nI_ge_f (by omega) (by omega)), e1]
      simp only [bind_x]
      rw [e2]
      simp only [bind_x, nm_x]
      rw [nI_1]
      exact v1
theorem op_days (x : Int32) (h : RR S P D T W E) : Good (f_X10_days x) (f_X11_days x) S := by
  have hN := h.wP.1
  have h0 := h.C.1
  have hday := h.R.1.1
  have d1 : S 1 1 = nI (dDay D) := (k1s h.K).2.1
  have d2 : ∀ B, RB B P D → B 240 0 = nI (dDay D) := fun B hB => hB.2.1.1.1
  by_cases c1 : x < 1
  · refine good_id h (r := -1) ?_ ?_
    · simp only [f_X10_days]; rw [if_pos c1]
    · simp only [f_X11_days, nm, uM_id h0, F_isIn0 (Or.inl c1), Option.bind_some, if_true]
  by_cases c2 : 100 < x
  · refine good_id h (r := -1) ?_ ?_
    · simp only [f_X10_days]; rw [if_neg c1, if_pos c2]
    · simp only [f_X11_days, nm, uM_id h0, F_isIn0 (Or.inr c2), Option.bind_some, if_true]
  have x0 : ¬ x < 0 := fun e => c1 (i32_lt_of_le e (by decide))
  obtain ⟨n, hn, rfl⟩ := nI_of2 (M := 100) (n := 100) (by decide +kernel) x0 (i32_nlt.mp c2)
  by_cases c3 : dDay D + n ≤ 9999
  rotate_left
  · refine good_id h (r := -1) ?_ ?_
    · simp only [f_X10_days]
      rw [if_neg c1, if_neg c2, d1, nI_add, if_neg (show ¬ nI (dDay D + n) ≤ 9999 from nI_ge_f (b := 9999) (by omega) (by omega))]
    · simp only [f_X11_days, nm, uM_id h0, F_isIn1 c1 c2, Option.bind_some, i10, if_false]
      rw [d2 S h.B, nI_add, if_neg (show ¬ nI (dDay D + n) ≤ 9999 from nI_ge_f (b := 9999) (by omega) (by omega))]
  obtain ⟨A, e1, u1, u2, u3, u4, u5⟩ := C_days (T := T) h.wP hn n 0 FU S ((D, W), E.1, 0) (by omega) (by unfold FU; omega) h.K h.TK ⟨rfl, h.1.1.2.2.1, h.1.1.2.2.2⟩ h.1.2.1 ⟨h.2.2.1, h.2.2.2.1⟩ c3
  have fr : ∀ k, 239 ≤ k → A k = S k := fun k hk => u5 k (by omega)
  have hB : RB A P D := h.B.congr2 (by rw [fr _ (by omega)]) (by rw [fr _ (by omega)]) fun k _ _ _ _ _ => fr k (by omega)
  obtain ⟨B, e2, v1, v2, v3, v4, v5⟩ := F_days (T := T) h.wP hn n 0 FU A ((D, W), E.1, 0) (by omega) (by unfold FU; omega) hB (h.TF.congr (by rw [fr _ (by omega)]) (by rw [fr _ (by omega)]) fun k _ _ _ => fr k (by omega)) (by rw [fr _ (by omega)]; exact h.C.2.1) (fun i hi => by rw [fr _ (by omega)]; exact h.2.1.1.2.2 i hi) (h.2.1.2.1.congr (by rw [fr _ (by omega)]) (fr _ (by omega))) ⟨h.2.2.1, h.2.2.2.1⟩ c3
  have u2 := u2.2
  refine Good.ex (r := (ff (fun _ => dsS P T) 0 n ((D, W), E.1, 0)).2.2) (S1 := A) (S2 := B) ?_ ?_ ?_
  · simp only [f_X10_days]
    rw [if_neg c1, if_neg c2, d1, nI_add, if_pos (show nI (dDay D + n) ≤ 9999 from nI_ge_t (b := 9999) (by omega) (by omega))]
    exact e1
  · simp only [f_X11_days, nm, uM_id (S := A) (show A 239 0 = 0 by rw [fr _ (by omega)]; exact h0), F_isIn1 c1 c2, Option.bind_some, i10, if_false]
    rw [d2 A hB, nI_add, if_pos (show nI (dDay D + n) ≤ 9999 from nI_ge_t (b := 9999) (by omega) (by omega))]
    exact e2
  · exact h.act (S1 := A) (P' := P) (fun k hk => u5 k (by omega)) u1 u2.1 u2.2 u3 (fun k hk => v4 k (by omega) (by omega) (by omega) (by omega) (by omega) (by omega) (by omega)) (fun k hk => v4 k (by omega) (by omega) (by omega) (by omega) (by omega) (by omega) (by omega)) (fun i hi => v5 i hi.2.1 (fun e => by rw [e] at hi; exact absurd hi.1 (by decide))) (v4 _ (by decide) (by decide) (by decide) (by decide) (by decide) (by decide) (by decide)) v1 v2 v3 u4.1 u4.2
end DAYS
