/-! ===== one more comes: the call ===== -/
section PERS2
variable {S : Mm} {P : PP} {D : DD} {T : TT} {W : Nat → Int32} {E : RE}
theorem par_cases (h : RR S P D T W E) (x : Int32) : (x ≠ -1 ∧ (∀ A : Mm, RK (fun j => A (1 + j)) P D → f_X1_isThere 1 x A = some (0, A)) ∧ ∀ B, RB B P D → f_X11_canBeParent x B = some (0, B)) ∨ ∃ m, m ≤ pN P ∧ x = eo m ∧ (x ≠ -1 → ∀ A : Mm, RK (fun j => A (1 + j)) P D → f_X1_isThere 1 x A = some (1, A)) ∧ ∀ B, RB B P D → f_X11_canBeParent x B = some (1, B) := by
  have hN := h.wP.1
  by_cases c : x = -1
  · refine Or.inr ⟨0, Nat.zero_le _, by rw [c, eo_0], fun k => absurd c k, fun B _ => ?_⟩
    unfold f_X11_canBeParent f_X11_canBeParent_13
    rw [if_pos c]
  · rcases nI_cs x (n := pN P) (by omega) with hx | ⟨a, ha, rfl⟩
    · refine Or.inl ⟨c, fun A hA => C_isThere0 hA hx, fun B hB => ?_⟩
      unfold f_X11_canBeParent f_X11_canBeParent_13
      rw [if_neg c, F_isPerson0 hB.1 hx]
      rfl
    · refine Or.inr ⟨a + 1, ha, (eo_s a).symm, fun _ A hA => C_isThere1 hA hN ha, fun B hB => ?_⟩
      unfold f_X11_canBeParent f_X11_canBeParent_13
      rw [if_neg c, F_isPerson1 hB.1 hN ha]
      rfl
theorem op_person (x y z : Int32) (h : RR S P D T W E) : Good (f_X10_person x y z) (f_X11_person x y z) S := by
  have hN := h.wP.1
  have h0 := h.C.1
  have k3 : S 1 3 = nI (pN P) := (k1s h.K).2.2.2.1
  have m12 : ((12 : Int32) ≤ nI (pN P)) = (12 ≤ pN P) := propext (nI_leI (a := 12) (b := pN P) (by omega) (by omega))
  have q12 : (nI (pN P) = (12 : Int32)) = (pN P = 12) := propext (nI_inj (b := 12) (by omega) (by omega))
  -- what the class does
  have cls : f_X10_person x y z S = if 12 ≤ pN P then some (-1, S) else if z < 0 then some (-1, S) else if z ≤ 99999 then (if x = -1 then f_X10_person_42 x y z S else (f_X1_isThere 1 x S).bind fun q_1 => if q_1.1 = 0 then some (-1, q_1.2) else f_X10_person_42 x y z q_1.2) else some (-1, S) := by
    unfold f_X10_person
    simp only [k3, m12]
  have ref : ∀ B, B 239 0 = 0 → f_X11_person x y z B = f_X11_person_20 x y z (if x = y ∧ x ≠ -1 then 1 else 0) B := fun B hz => by
    simp only [f_X11_person, f_X11_person_19, nm, uM_id hz]
    by_cases c1 : x = y
    · rw [if_pos c1]
      by_cases c2 : x = -1
      · rw [if_pos c2, if_neg (fun e => e.2 c2)]
      · rw [if_neg c2, if_pos ⟨c1, c2⟩]
    · rw [if_neg c1, if_neg (fun e => c1 e.1)]
  rcases par_cases h x with ⟨x1, x2, x3⟩ | ⟨mo, hmo, xe, x2, x3⟩
  · -- a mother who can't be
    refine good_id h (r := -1) ?_ ?_
    · rw [cls]
      split
      · rfl
      · split
        · rfl
        · split
          · rw [x2 S h.K]; rfl
          · rfl
    · rw [ref S h0]
      simp only [f_X11_person_20, x3 S h.B, Option.bind_some, if_true]
  · have cls2 : (if x = -1 then f_X10_person_42 x y z S else (f_X1_isThere 1 x S).bind fun q_1 => if q_1.1 = 0 then some (-1, q_1.2) else f_X10_person_42 x y z q_1.2) = f_X10_person_42 x y z S := by
      by_cases c : x = -1
      · rw [if_pos c]
      · rw [if_neg c, x2 c S h.K]; rfl
    rw [cls2] at cls
    rcases par_cases h y with ⟨y1, y2, y3⟩ | ⟨fa, hfa, ye, y2, y3⟩
    · refine good_id h (r := -1) ?_ ?_
      · rw [cls]
        split
        · rfl
        · split
          · rfl
          · split
            · unfold f_X10_person_42
              rw [if_neg y1, y2 S h.K]; rfl
            · rfl
      · rw [ref S h0]
        simp only [f_X11_person_20, x3 S h.B, y3 S h.B, Option.bind_some, i10, if_false, if_true]
    · have cls3 : f_X10_person_42 x y z S = f_X10_person_60 x y z S := by
        unfold f_X10_person_42
        by_cases c : y = -1
        · rw [if_pos c]
        · rw [if_neg c, y2 c S h.K]; rfl
      rw [cls3] at cls
      by_cases al : x = y ∧ x ≠ -1
      · refine good_id h (r := -1) ?_ ?_
        · rw [cls]
          split
          · rfl
          · split
            · rfl
            · split
              · unfold f_X10_person_60
                rw [if_neg al.2, if_pos al.1]
              · rfl
        · rw [ref S h0, if_pos al]
          simp only [f_X11_person_20, x3 S h.B, y3 S h.B, Option.bind_some, i10, if_false]
      · have cls4 : f_X10_person_60 x y z S = f_X10_person_72 x y z S := by
          unfold f_X10_person_60
          by_cases c : x = -1
          · rw [if_pos c]
          · rw [if_neg c, if_neg (fun e => al ⟨e, c⟩)]
        rw [cls4] at cls
        have ref2 : ∀ B, RB B P D → B 239 0 = 0 → f_X11_person x y z B = if z < 0 then some (-1, B) else if 99999 < z then some (-1, B) else if pN P = 12 then some (-1, B) else (f_X11_findsKin (uM (uM (uM (uM (uM (uM (uM (uM (uM (uM (uM B 243 (pN P) (x + 1)) 244 (pN P) (y + 1)) 245 (pN P) (nI (dDay D))) 246 (pN P) 0) 247 (pN P) 0) 240 3 (B 240 3 &&& (shl 1 (nI (pN P)) ^^^ (-1)))) 240 (88 + pN P) 0) 240 (100 + pN P) z) 240 (112 + pN P) 0) 258 (pN P) 0) 239 6 (nI (pN P + 1)))).bind fun S_16 => some (nI (pN P), uM S_16 239 3 0) := fun B hB hz => by
          rw [ref B hz, if_neg al]
          simp only [f_X11_person_20, x3 B hB, y3 B hB, Option.bind_some, i10, if_false, if_true, nm]
          by_cases c1 : z < 0
          · rw [if_pos c1, F_isIn0 (Or.inl c1)]; rfl
          · rw [if_neg c1]
            by_cases c2 : 99999 < z
            · rw [if_pos c2, F_isIn0 (Or.inr c2)]; rfl
            · rw [if_neg c2, F_isIn1 c1 c2]
              simp only [Option.bind_some, i10, if_false, hB.1.1.1, q12]
              by_cases c3 : pN P = 12
              · rw [if_pos c3, if_pos c3]
              · rw [if_neg c3, if_neg c3]
                have d0 : ∀ a b, uM (uM B 243 a b) 244 a (y + 1) 240 0 = nI (dDay D) := fun a b => by rw [uM_off _ _ _ (by decide), uM_off _ _ _ (by decide)]; exact hB.2.1.1.1
                have dd : ∀ a b c d e f, uM (uM (uM (uM (uM B 243 a b) 244 a c) 245 a d) 246 a e) 247 a f 240 3 = B 240 3 := fun a b c d e f => by rw [uM_off _ _ _ (by decide), uM_off _ _ _ (by decide), uM_off _ _ _ (by decide), uM_off _ _ _ (by decide), uM_off _ _ _ (by decide)]
                simp (disch := omega) only [nI_lit 88, nI_lit 100, nI_lit 112, nI_add, gd_t, ix_nI, d0, dd]
                have d6 : ∀ (C : Mm) a b c d e f g i j, uM (uM (uM (uM (uM C 240 3 a) 240 b c) 240 d e) 240 f g) 258 i j 239 6 = C 239 6 := fun C a b c d e f g i j => by rw [uM_off _ _ _ (by decide), uM_off _ _ _ (by decide), uM_off _ _ _ (by decide), uM_off _ _ _ (by decide), uM_off _ _ _ (by decide)]
                rw [d6, uM_off _ _ _ (by decide), uM_off _ _ _ (by decide), uM_off _ _ _ (by decide), uM_off _ _ _ (by decide), uM_off _ _ _ (by decide), hB.1.1.1, nI_1]
        by_cases c3 : pN P = 12
        · refine good_id h (r := -1) ?_ ?_
          · rw [cls, if_pos (by omega)]
          · rw [ref2 S h.B h0]
            split
            · rfl
            · split
              · rfl
              · rfl
        · by_cases c1 : z < 0
          · exact good_id h (r := -1) (by rw [cls, if_neg (by omega), if_pos c1]) (by rw [ref2 S h.B h0, if_pos c1])
          · by_cases c2 : z ≤ 99999
            rotate_left
            · exact good_id h (r := -1) (by rw [cls, if_neg (by omega), if_neg c1, if_neg c2]) (by rw [ref2 S h.B h0, if_neg c1, if_pos (i32_nle.mp c2)])
            · obtain ⟨c, hc, rfl⟩ := nI_of2 (M := 99999) (n := 99999) (by decide +kernel) c1 c2
              subst xe
              subst ye
              obtain ⟨S1, e1, g1, g2⟩ := C_addPerson (A := uM S 34 3 0) (c := c) (RKc_off h.K (by omega)) h.wP h.wD (by omega) hmo hfa
              have fr : ∀ k, 35 ≤ k → S1 k = S k := fun k hk => by rw [g2 k (by omega), uM_off _ _ _ (by omega)]
              have hB1 : RB S1 P D := h.B.congr2 (by rw [fr _ (by omega)]) (by rw [fr _ (by omega)]) fun k _ _ _ _ _ => fr k (by omega)
              have h01 : S1 239 0 = 0 := by rw [fr _ (by omega)]; exact h0
              have w' := WFS_ad (c := c) h.2.2.1 (by omega : pN P < 12) hmo hfa hc
              obtain ⟨B0, hB0⟩ : ∃ B0, B0 = uM (uM (uM (uM (uM (uM (uM (uM (uM (uM (uM S1 243 (pN P) (nI mo)) 244 (pN P) (nI fa)) 245 (pN P) (nI (dDay D))) 246 (pN P) 0) 247 (pN P) 0) 240 3 (S1 240 3 &&& (shl 1 (nI (pN P)) ^^^ (-1)))) 240 (88 + pN P) 0) 240 (100 + pN P) (nI c)) 240 (112 + pN P) 0) 258 (pN P) 0) 239 6 (nI (pN P + 1)) := ⟨_, rfl⟩
              have s258 : S1 258 (pN P) = 0 := by
                rw [fr _ (by omega), (h.TF.2.2.2.1 (pN P) (by omega)).1, (h.wT.2.2.1 (pN P) (by omega)).2.1 (Nat.le_refl _)]
                rfl
              have off0 : ∀ k, k ≠ 239 → k ≠ 240 → (k < 243 ∨ 248 ≤ k) → B0 k = S1 k := fun k p q r => by
                rw [hB0]
                by_cases c : k = 258
                · rw [c, uM_off _ _ _ (by decide), uM_id (S := _) (a := 258) (i := pN P) (v := 0) (by rw [uM_off _ _ _ (by decide), uM_off _ _ _ (by decide), uM_off _ _ _ (by decide), uM_off _ _ _ (by decide), uM_off _ _ _ (by decide), uM_off _ _ _ (by decide), uM_off _ _ _ (by decide), uM_off _ _ _ (by decide), uM_off _ _ _ (by decide)]; exact s258), uM_off _ _ _ (by decide), uM_off _ _ _ (by decide), uM_off _ _ _ (by decide), uM_off _ _ _ (by decide), uM_off _ _ _ (by decide), uM_off _ _ _ (by decide), uM_off _ _ _ (by decide), uM_off _ _ _ (by decide), uM_off _ _ _ (by decide)]
                · simp (disch := omega) only [uM_off]
              have off1 : ∀ i, i ≠ 6 → B0 239 i = S1 239 i := fun i hi => by
                rw [hB0, uM_ne _ _ _ hi]
                simp (disch := omega) only [uM_off]
              have nRS : RS B0 (adP P D mo fa) := by
                refine ⟨⟨by rw [hB0]; exact uM_eq _ _ _ _, by rw [off1 _ (by decide)]; exact hB1.1.1.2⟩, fun q hq => ?_⟩
                have hq : q < pN P + 1 := hq
                have r3 : B0 243 q = if q = pN P then nI mo else S1 243 q := by rw [hB0]; simp [uM_at]
                have r4 : B0 244 q = if q = pN P then nI fa else S1 244 q := by rw [hB0]; simp [uM_at]
                have r5 : B0 245 q = if q = pN P then nI (dDay D) else S1 245 q := by rw [hB0]; simp [uM_at]
                have r6 : B0 246 q = if q = pN P then 0 else S1 246 q := by rw [hB0]; simp [uM_at]
                have r7 : B0 247 q = if q = pN P then 0 else S1 247 q := by rw [hB0]; simp [uM_at]
                rw [r3, r4, r5, r6, r7, adP_mo, adP_fa]
                show _ ∧ _ ∧ _ = un (un (un P.2 0 (pN P) (nI (dDay D))) 1 (pN P) 0) 2 (pN P) 0 0 q ∧ _ = un (un (un P.2 0 (pN P) (nI (dDay D))) 1 (pN P) 0) 2 (pN P) 0 1 q ∧ _ = un (un (un P.2 0 (pN P) (nI (dDay D))) 1 (pN P) 0) 2 (pN P) 0 2 q
                by_cases k : q = pN P
                · simp only [k, if_true]
                  exact ⟨trivial, trivial, (un_eq _ _ _ _).symm, (un_eq _ _ _ _).symm, (un_eq _ _ _ _).symm⟩
                · obtain ⟨a1, a2, a3, a4, a5⟩ := hB1.1.2 q (by omega)
                  simp only [k, if_false]
                  exact ⟨a1, a2, a3.trans (un_ne _ _ _ k).symm, a4.trans (un_ne _ _ _ k).symm, a5.trans (un_ne _ _ _ k).symm⟩
              have r240 : B0 240 = upd (upd (upd (upd (S1 240) 3 (S1 240 3 &&& (shl 1 (nI (pN P)) ^^^ (-1)))) (88 + pN P) 0) (100 + pN P) (nI c)) (112 + pN P) 0 := by
                rw [hB0, uM_off _ _ _ (by decide), uM_off _ _ _ (by decide), uM_row, uM_row, uM_row, uM_row, uM_off _ _ _ (by decide), uM_off _ _ _ (by decide), uM_off _ _ _ (by decide), uM_off _ _ _ (by decide), uM_off _ _ _ (by decide)]
              have nRW : RW (B0 240) (adP P D mo fa) (adD P D c) := by
                obtain ⟨⟨g1, g2, g3⟩, g4, g5, g6, g7⟩ := hB1.2.1
                have ot : ∀ i, i ≠ 3 → i ≠ 88 + pN P → i ≠ 100 + pN P → i ≠ 112 + pN P → B0 240 i = S1 240 i := fun i p q r s => by rw [r240, up_ne _ _ s, up_ne _ _ r, up_ne _ _ q, up_ne _ _ p]
                refine ⟨⟨by rw [ot _ (by omega) (by omega) (by omega) (by omega)]; exact g1, by rw [ot _ (by omega) (by omega) (by omega) (by omega)]; exact g2, by rw [ot _ (by omega) (by omega) (by omega) (by omega)]; exact g3⟩, fun i hi => ?_, fun q hq => ?_, fun l hl => ?_, fun d hd => ?_⟩
                · have hi : i < pN P + 1 := hi
                  rw [adD_dead, r240, up_ne _ _ (by omega), up_ne _ _ (by omega), up_ne _ _ (by omega), up_eq, b_and, bt_not _ (by omega), bt_one (by omega) (by omega)]
                  by_cases k : i = pN P
                  · rw [if_pos k]; simp [k]
                  · rw [if_neg k, g4 i (by omega)]; simp [k]
                · have hq : q < pN P + 1 := hq
                  rw [adD_sp]
                  show _ = un (un D.2 2 (pN P) (-1)) 3 (pN P) (nI c) 2 q + 1 ∧ _ = un (un D.2 2 (pN P) (-1)) 3 (pN P) (nI c) 3 q ∧ _
                  by_cases k : q = pN P
                  · subst k
                    refine ⟨?_, ?_, ?_⟩
                    · rw [r240, up_ne _ _ (by omega), up_ne _ _ (by omega), up_eq, show un (un D.2 2 (pN P) (-1)) 3 (pN P) (nI c) 2 (pN P) = -1 from un_eq _ _ _ _]; decide
                    · rw [r240, up_ne _ _ (by omega), up_eq]; exact (un_eq _ _ _ _).symm
                    · rw [r240, up_eq, if_pos rfl]; rfl
                  · rw [ot _ (by omega) (by omega) (by omega) (by omega), ot _ (by omega) (by omega) (by omega) (by omega), ot _ (by omega) (by omega) (by omega) (by omega), if_neg k]
                    obtain ⟨a, b, d⟩ := g5 q (by omega)
                    exact ⟨a.trans (by rw [show un (un D.2 2 (pN P) (-1)) 3 (pN P) (nI c) 2 q = dDies D q from un_ne _ _ _ k]), b.trans (un_ne _ _ _ k).symm, d⟩
                · rw [ot _ (by omega) (by omega) (by omega) (by omega), ot _ (by omega) (by omega) (by omega) (by omega), ot _ (by omega) (by omega) (by omega) (by omega)]; exact g6 l hl
                · rw [ot _ (by omega) (by omega) (by omega) (by omega), ot _ (by omega) (by omega) (by omega) (by omega), ot _ (by omega) (by omega) (by omega) (by omega)]; exact g7 d hd
              obtain ⟨B1, u1, v1, v2⟩ := F_kinNew nRS nRW w'.1 w'.2.2.1
              refine Good.ex (r := nI (pN P)) (S1 := S1) (S2 := uM B1 239 3 0) ?_ ?_ ?_
              · rw [cls, if_neg (by omega), if_neg c1, if_pos c2]
                simp only [f_X10_person_72, f_X2_forget, nm, Option.bind_some]
                rw [e1]; rfl
              · rw [ref2 S1 hB1 h01, if_neg c1, if_neg (i32_nlt.mpr c2), if_neg c3, eo_1, eo_1, ← hB0, u1]; rfl
              · have fS2 : ∀ k, k ≠ 239 → k ≠ 240 → k ≠ 249 → (k < 243 ∨ 248 ≤ k) → uM B1 239 3 0 k = S1 k := fun k p q r s => by rw [uM_off _ _ _ p, v2 k r, off0 k p q s]
                refine h.act (S1 := S1) (P' := adP P D mo fa) (D' := adD P D c) (W' := W) (H' := (0, E.1.2)) (fun k hk => by rw [g2 k (by omega), uM_off _ _ _ (by omega)]) g1 (by rw [g2 _ (by omega), uM_off _ _ _ (by decide)]; exact h.1.1.2.2.1) (fun i hi => by rw [g2 _ (by omega), uM_off _ _ _ (by decide)]; exact h.1.1.2.2.2 i hi) (CH_forget h.1.2.1 (by rw [g2 _ (by omega), uM_eq]) (by rw [g2 _ (by omega), uM_ne _ _ _ (by decide)])) (fun k hk => fS2 k (by omega) (by omega) (by omega) (by omega)) (fun k hk => fS2 k (by omega) (by omega) (by omega) (by omega)) (fun i hi => by rw [uM_ne _ _ _ hi.2.1, v2 _ (by decide), off1 i hi.2.2.1]) (fS2 _ (by decide) (by decide) (by decide) (by decide)) (v1.congr2 (by rw [uM_ne _ _ _ (by decide)]) (by rw [uM_ne _ _ _ (by decide)]) fun k _ _ _ _ _ => uM_off _ _ _ (by omega)) (fun i hi => by rw [fS2 _ (by decide) (by decide) (by decide) (by decide), fr _ (by decide)]; exact h.2.1.1.2.2 i hi) (FH_forget (uM_eq _ _ _ _)) w' WFH_forget
end PERS2
