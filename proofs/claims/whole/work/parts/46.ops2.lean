/-! ===== the calls that only ask: of a person, a letter, a deed, of all ===== -/
section OPS2
variable {S : Mm} {P : PP} {D : DD} {T : TT} {W : Nat → Int32} {E : RE}
theorem op_of (x y : Int32) (h : RR S P D T W E) : Good (f_X10_of x y) (f_X11_of x y) S := by
  have hN := h.wP.1
  have h0 := h.C.1
  rcases nI_cs x (n := pN P) (by omega) with hx | ⟨a, ha, rfl⟩
  · refine good_id h (r := -2) ?_ ?_
    · simp only [f_X10_of, C_isThere0 h.K hx, Option.bind_some, if_true]
    · simp only [f_X11_of, nm, uM_id h0, F_isPerson0 h.B.1 hx, Option.bind_some, if_true]
  · obtain ⟨c0, c1, c2, c3, c4, c5, c6, c7⟩ := k1p h.K ha
    obtain ⟨d0, d1, d2, d3, d4⟩ := h.B.1.2 a ha
    obtain ⟨w0, w1, w2⟩ := h.B.2.1.2.2.1 a ha
    rcases nI_cs y (n := 12) (by omega) with hy | ⟨j, hj, rfl⟩
    · refine good_id h (r := -2) ?_ ?_
      · simp only [f_X10_of, C_isThere1 h.K hN ha, Option.bind_some, i10, if_false]
        exact tsw_o (n := 12) rfl (by omega) hy
      · simp only [f_X11_of, nm, uM_id h0, F_isPerson1 h.B.1 hN ha, Option.bind_some, i10, if_false]
        rw [if_neg (show ¬ y = 0 from of_eq_false (ne_o0 (by omega) hy (by omega))), if_neg (show ¬ y = 1 from of_eq_false (ne_o (by omega) hy (j := 1) (by omega))), if_neg (show ¬ y = 2 from of_eq_false (ne_o (by omega) hy (j := 2) (by omega))), if_neg (show ¬ y = 3 from of_eq_false (ne_o (by omega) hy (j := 3) (by omega))), if_neg (show ¬ y = 4 from of_eq_false (ne_o (by omega) hy (j := 4) (by omega))), if_neg (show ¬ y = 5 from of_eq_false (ne_o (by omega) hy (j := 5) (by omega))), if_neg (show ¬ y = 6 from of_eq_false (ne_o (by omega) hy (j := 6) (by omega))), if_neg (show ¬ y = 7 from of_eq_false (ne_o (by omega) hy (j := 7) (by omega))), if_neg (show ¬ y = 8 from of_eq_false (ne_o (by omega) hy (j := 8) (by omega))), if_neg (show ¬ y = 9 from of_eq_false (ne_o (by omega) hy (j := 9) (by omega))), if_neg (show ¬ y = 10 from of_eq_false (ne_o (by omega) hy (j := 10) (by omega))), if_neg (show ¬ y = 11 from of_eq_false (ne_o (by omega) hy (j := 11) (by omega)))]
    · have hj2 : j = 0 ∨ j = 1 ∨ j = 2 ∨ j = 3 ∨ j = 4 ∨ j = 5 ∨ j = 6 ∨ j = 7 ∨ j = 8 ∨ j = 9 ∨ j = 10 ∨ j = 11 := by omega
      rcases hj2 with rfl | rfl | rfl | rfl | rfl | rfl | rfl | rfl | rfl | rfl | rfl | rfl
      · refine good_id h (r := eo (pMo P a)) ?_ ?_
        · simp only [f_X10_of, C_isThere1 h.K hN ha, Option.bind_some, i10, if_false]
          rw [tsw_nI _ _ (by omega)]
          simp only [List.getD_cons_succ, List.getD_cons_zero]
          rw [gd_t (by omega) (by omega), ix_nI (by omega), c0]
        · simp only [f_X11_of, nm, uM_id h0, F_isPerson1 h.B.1 hN ha, Option.bind_some, i10, if_false]
          rw [if_pos (by decide +kernel)]
          rw [gd_t (by omega) (by omega), ix_nI (by omega), d0]; rfl
      · refine good_id h (r := eo (pFa P a)) ?_ ?_
        · simp only [f_X10_of, C_isThere1 h.K hN ha, Option.bind_some, i10, if_false]
          rw [tsw_nI _ _ (by omega)]
          simp only [List.getD_cons_succ, List.getD_cons_zero]
          rw [gd_t (by omega) (by omega), ix_nI (by omega), c1]
        · simp only [f_X11_of, nm, uM_id h0, F_isPerson1 h.B.1 hN ha, Option.bind_some, i10, if_false]
          rw [if_neg (by decide +kernel), if_pos (by decide +kernel)]
          rw [gd_t (by omega) (by omega), ix_nI (by omega), d1]; rfl
      · refine good_id h (r := pBorn P a) ?_ ?_
        · simp only [f_X10_of, C_isThere1 h.K hN ha, Option.bind_some, i10, if_false]
          rw [tsw_nI _ _ (by omega)]
          simp only [List.getD_cons_succ, List.getD_cons_zero]
          rw [gd_t (by omega) (by omega), ix_nI (by omega), c2]
        · simp only [f_X11_of, nm, uM_id h0, F_isPerson1 h.B.1 hN ha, Option.bind_some, i10, if_false]
          rw [if_neg (by decide +kernel), if_neg (by decide +kernel), if_pos (by decide +kernel)]
          rw [gd_t (by omega) (by omega), ix_nI (by omega), d2]
      · refine good_id h (r := dDies D a) ?_ ?_
        · simp only [f_X10_of, C_isThere1 h.K hN ha, Option.bind_some, i10, if_false]
          rw [tsw_nI _ _ (by omega)]
          simp only [List.getD_cons_succ, List.getD_cons_zero]
          rw [gd_t (by omega) (by omega), ix_nI (by omega), c3]
        · simp only [f_X11_of, nm, uM_id h0, F_isPerson1 h.B.1 hN ha, Option.bind_some, i10, if_false]
          rw [if_neg (by decide +kernel), if_neg (by decide +kernel), if_neg (by decide +kernel), if_pos (by decide +kernel)]
          rw [nI_lit 88, nI_add, gd_t (by omega) (by omega), ix_nI (by omega), w0, i32_add_sub]
      · refine good_id h (r := pFr P a) ?_ ?_
        · simp only [f_X10_of, C_isThere1 h.K hN ha, Option.bind_some, i10, if_false]
          rw [tsw_nI _ _ (by omega)]
          simp only [List.getD_cons_succ, List.getD_cons_zero]
          rw [gd_t (by omega) (by omega), ix_nI (by omega), c4]
        · simp only [f_X11_of, nm, uM_id h0, F_isPerson1 h.B.1 hN ha, Option.bind_some, i10, if_false]
          rw [if_neg (by decide +kernel), if_neg (by decide +kernel), if_neg (by decide +kernel), if_neg (by decide +kernel), if_pos (by decide +kernel)]
          rw [gd_t (by omega) (by omega), ix_nI (by omega), d3]
      · refine good_id h (r := pSk P a) ?_ ?_
        · simp only [f_X10_of, C_isThere1 h.K hN ha, Option.bind_some, i10, if_false]
          rw [tsw_nI _ _ (by omega)]
          simp only [List.getD_cons_succ, List.getD_cons_zero]
          rw [gd_t (by omega) (by omega), ix_nI (by omega), c5]
        · simp only [f_X11_of, nm, uM_id h0, F_isPerson1 h.B.1 hN ha, Option.bind_some, i10, if_false]
          rw [if_neg (by decide +kernel), if_neg (by decide +kernel), if_neg (by decide +kernel), if_neg (by decide +kernel), if_neg (by decide +kernel), if_pos (by decide +kernel)]
          rw [gd_t (by omega) (by omega), ix_nI (by omega), d4]
      · refine good_id h (r := dCoin D a) ?_ ?_
        · simp only [f_X10_of, C_isThere1 h.K hN ha, Option.bind_some, i10, if_false]
          rw [tsw_nI _ _ (by omega)]
          simp only [List.getD_cons_succ, List.getD_cons_zero]
          rw [gd_t (by omega) (by omega), ix_nI (by omega), c6]
        · simp only [f_X11_of, nm, uM_id h0, F_isPerson1 h.B.1 hN ha, Option.bind_some, i10, if_false]
          rw [if_neg (by decide +kernel), if_neg (by decide +kernel), if_neg (by decide +kernel), if_neg (by decide +kernel), if_neg (by decide +kernel), if_neg (by decide +kernel), if_pos (by decide +kernel)]
          rw [nI_lit 100, nI_add, gd_t (by omega) (by omega), ix_nI (by omega), w1]
      · refine good_id h (r := eo (dSp D a)) ?_ ?_
        · simp only [f_X10_of, C_isThere1 h.K hN ha, Option.bind_some, i10, if_false]
          rw [tsw_nI _ _ (by omega)]
          simp only [List.getD_cons_succ, List.getD_cons_zero]
          rw [gd_t (by omega) (by omega), ix_nI (by omega), c7]
        · simp only [f_X11_of, nm, uM_id h0, F_isPerson1 h.B.1 hN ha, Option.bind_some, i10, if_false]
          rw [if_neg (by decide +kernel), if_neg (by decide +kernel), if_neg (by decide +kernel), if_neg (by decide +kernel), if_neg (by decide +kernel), if_neg (by decide +kernel), if_neg (by decide +kernel), if_pos (by decide +kernel)]
          rw [F_spouseOf h.B.2.1 hN ha]; rfl
      · refine good_id h (r := if liv P D a = true then 1 else 0) ?_ ?_
        · simp only [f_X10_of, C_isThere1 h.K hN ha, Option.bind_some, i10, if_false]
          rw [tsw_nI _ _ (by omega)]
          simp only [List.getD_cons_succ, List.getD_cons_zero]
          rw [C_lives h.K hN ha]; cases liv P D a <;> rfl
        · simp only [f_X11_of, nm, uM_id h0, F_isPerson1 h.B.1 hN ha, Option.bind_some, i10, if_false]
          rw [if_neg (by decide +kernel), if_neg (by decide +kernel), if_neg (by decide +kernel), if_neg (by decide +kernel), if_neg (by decide +kernel), if_neg (by decide +kernel), if_neg (by decide +kernel), if_neg (by decide +kernel), if_pos (by decide +kernel)]
          rw [F_doesLive h.B.2.1 hN ha]; cases liv P D a <;> rfl
      · refine good_id h (r := setF 28 (fun l => decide (eo (dOw D l) = nI a))) ?_ ?_
        · simp only [f_X10_of, C_isThere1 h.K hN ha, Option.bind_some, i10, if_false]
          rw [tsw_nI _ _ (by omega)]
          simp only [List.getD_cons_succ, List.getD_cons_zero]
          rw [C_ownedBy h.K]; rfl
        · simp only [f_X11_of, nm, uM_id h0, F_isPerson1 h.B.1 hN ha, Option.bind_some, i10, if_false]
          rw [if_neg (by decide +kernel), if_neg (by decide +kernel), if_neg (by decide +kernel), if_neg (by decide +kernel), if_neg (by decide +kernel), if_neg (by decide +kernel), if_neg (by decide +kernel), if_neg (by decide +kernel), if_neg (by decide +kernel), if_pos (by decide +kernel)]
          rw [F_ownedBy h.B.2.1]; rfl
      · refine good_id h (r := letS P D a) ?_ ?_
        · simp only [f_X10_of, C_isThere1 h.K hN ha, Option.bind_some, i10, if_false]
          rw [tsw_nI _ _ (by omega)]
          simp only [List.getD_cons_succ, List.getD_cons_zero]
          rw [C_writableBy h.K h.wP h.wD (by omega)]; rfl
        · simp only [f_X11_of, nm, uM_id h0, F_isPerson1 h.B.1 hN ha, Option.bind_some, i10, if_false]
          rw [if_neg (by decide +kernel), if_neg (by decide +kernel), if_neg (by decide +kernel), if_neg (by decide +kernel), if_neg (by decide +kernel), if_neg (by decide +kernel), if_neg (by decide +kernel), if_neg (by decide +kernel), if_neg (by decide +kernel), if_neg (by decide +kernel), if_pos (by decide +kernel)]
          rw [F_lettersOf h.B.1 h.B.2.1 h.B.2.2 h.wP h.wD ha]; rfl
      · refine good_id h (r := nI (tWm T a)) ?_ ?_
        · simp only [f_X10_of, C_isThere1 h.K hN ha, Option.bind_some, i10, if_false]
          rw [tsw_nI _ _ (by omega)]
          simp only [List.getD_cons_succ, List.getD_cons_zero]
          rw [gd_t (by omega) (by omega), ix_nI (by omega), (t17w h.TK (by omega)).1]
        · simp only [f_X11_of, nm, uM_id h0, F_isPerson1 h.B.1 hN ha, Option.bind_some, i10, if_false]
          rw [if_neg (by decide +kernel), if_neg (by decide +kernel), if_neg (by decide +kernel), if_neg (by decide +kernel), if_neg (by decide +kernel), if_neg (by decide +kernel), if_neg (by decide +kernel), if_neg (by decide +kernel), if_neg (by decide +kernel), if_neg (by decide +kernel), if_neg (by decide +kernel), if_pos (by decide +kernel)]
          rw [gd_t (by omega) (by omega), ix_nI (by omega), (h.TF.2.2.2.1 a (by omega)).1]
theorem op_look (y : Int32) (h : RR S P D T W E) : Good (f_X10_look y) (f_X11_look y) S := by
  have hN := h.wP.1
  have h0 := h.C.1
  obtain ⟨c0, c1, c2, c3, c4⟩ := k1s h.K
  obtain ⟨w0, w1, w2⟩ := h.B.2.1.1
  rcases nI_cs y (n := 11) (by omega) with hy | ⟨j, hj, rfl⟩
  · refine good_id h (r := -2) ?_ ?_
    · simp only [f_X10_look]
      exact tsw_o (n := 11) rfl (by omega) hy
    · simp only [f_X11_look, nm, uM_id h0]
      rw [if_neg (show ¬ y = 0 from of_eq_false (ne_o0 (by omega) hy (by omega))), if_neg (show ¬ y = 1 from of_eq_false (ne_o (by omega) hy (j := 1) (by omega))), if_neg (show ¬ y = 2 from of_eq_false (ne_o (by omega) hy (j := 2) (by omega))), if_neg (show ¬ y = 3 from of_eq_false (ne_o (by omega) hy (j := 3) (by omega))), if_neg (show ¬ y = 4 from of_eq_false (ne_o (by omega) hy (j := 4) (by omega))), if_neg (show ¬ y = 5 from of_eq_false (ne_o (by omega) hy (j := 5) (by omega))), if_neg (show ¬ y = 6 from of_eq_false (ne_o (by omega) hy (j := 6) (by omega))), if_neg (show ¬ y = 7 from of_eq_false (ne_o (by omega) hy (j := 7) (by omega))), if_neg (show ¬ y = 8 from of_eq_false (ne_o (by omega) hy (j := 8) (by omega))), if_neg (show ¬ y = 9 from of_eq_false (ne_o (by omega) hy (j := 9) (by omega))), if_neg (show ¬ y = 10 from of_eq_false (ne_o (by omega) hy (j := 10) (by omega)))]
  · have hj2 : j = 0 ∨ j = 1 ∨ j = 2 ∨ j = 3 ∨ j = 4 ∨ j = 5 ∨ j = 6 ∨ j = 7 ∨ j = 8 ∨ j = 9 ∨ j = 10 := by omega
    rcases hj2 with rfl | rfl | rfl | rfl | rfl | rfl | rfl | rfl | rfl | rfl | rfl
    · refine good_id h (r := nI (pN P)) ?_ ?_
      · simp only [f_X10_look]
        rw [tsw_nI _ _ (by omega)]
        simp only [List.getD_cons_succ, List.getD_cons_zero]
        rw [c3]
      · simp only [f_X11_look, nm, uM_id h0]
        rw [if_pos (by decide +kernel)]
        rw [h.B.1.1.1]
    · refine good_id h (r := livS P D) ?_ ?_
      · simp only [f_X10_look]
        rw [tsw_nI _ _ (by omega)]
        simp only [List.getD_cons_succ, List.getD_cons_zero]
        rw [c4]
      · simp only [f_X11_look, nm, uM_id h0]
        rw [if_neg (by decide +kernel), if_pos (by decide +kernel)]
        rw [F_livingOnes h.B h.wP]; rfl
    · refine good_id h (r := nI (dDay D)) ?_ ?_
      · simp only [f_X10_look]
        rw [tsw_nI _ _ (by omega)]
        simp only [List.getD_cons_succ, List.getD_cons_zero]
        rw [c1]
      · simp only [f_X11_look, nm, uM_id h0]
        rw [if_neg (by decide +kernel), if_neg (by decide +kernel), if_pos (by decide +kernel)]
        rw [w0]
    · refine good_id h (r := nI (pNear P)) ?_ ?_
      · simp only [f_X10_look]
        rw [tsw_nI _ _ (by omega)]
        simp only [List.getD_cons_succ, List.getD_cons_zero]
        rw [c2]
      · simp only [f_X11_look, nm, uM_id h0]
        rw [if_neg (by decide +kernel), if_neg (by decide +kernel), if_neg (by decide +kernel), if_pos (by decide +kernel)]
        rw [h.B.1.1.2, eo_1]
    · refine good_id h (r := nI (tDn T)) ?_ ?_
      · simp only [f_X10_look]
        rw [tsw_nI _ _ (by omega)]
        simp only [List.getD_cons_succ, List.getD_cons_zero]
        rw [(t17s h.TK).1]
      · simp only [f_X11_look, nm, uM_id h0]
        rw [if_neg (by decide +kernel), if_neg (by decide +kernel), if_neg (by decide +kernel), if_neg (by decide +kernel), if_pos (by decide +kernel)]
        rw [h.TF.1.1]
    · refine good_id h (r := nI (dLn D)) ?_ ?_
      · simp only [f_X10_look]
        rw [tsw_nI _ _ (by omega)]
        simp only [List.getD_cons_succ, List.getD_cons_zero]
        rw [h.1.1.2.2.1]
      · simp only [f_X11_look, nm, uM_id h0]
        rw [if_neg (by decide +kernel), if_neg (by decide +kernel), if_neg (by decide +kernel), if_neg (by decide +kernel), if_neg (by decide +kernel), if_pos (by decide +kernel)]
        rw [w2]
    · refine good_id h (r := dDraw D) ?_ ?_
      · simp only [f_X10_look]
        rw [tsw_nI _ _ (by omega)]
        simp only [List.getD_cons_succ, List.getD_cons_zero]
        rw [c0]
      · simp only [f_X11_look, nm, uM_id h0]
        rw [if_neg (by decide +kernel), if_neg (by decide +kernel), if_neg (by decide +kernel), if_neg (by decide +kernel), if_neg (by decide +kernel), if_neg (by decide +kernel), if_pos (by decide +kernel)]
        rw [w1]
    · refine good_id h (r := nI (tLm T)) ?_ ?_
      · simp only [f_X10_look]
        rw [tsw_nI _ _ (by omega)]
        simp only [List.getD_cons_succ, List.getD_cons_zero]
        rw [(t17s h.TK).2]
      · simp only [f_X11_look, nm, uM_id h0]
        rw [if_neg (by decide +kernel), if_neg (by decide +kernel), if_neg (by decide +kernel), if_neg (by decide +kernel), if_neg (by decide +kernel), if_neg (by decide +kernel), if_neg (by decide +kernel), if_pos (by decide +kernel)]
        rw [h.TF.1.2]
    · refine good_id h (r := nI E.1.1) ?_ ?_
      · simp only [f_X10_look]
        rw [tsw_nI _ _ (by omega)]
        simp only [List.getD_cons_succ, List.getD_cons_zero]
        rw [h.1.2.1.1]
      · simp only [f_X11_look, nm, uM_id h0]
        rw [if_neg (by decide +kernel), if_neg (by decide +kernel), if_neg (by decide +kernel), if_neg (by decide +kernel), if_neg (by decide +kernel), if_neg (by decide +kernel), if_neg (by decide +kernel), if_neg (by decide +kernel), if_pos (by decide +kernel)]
        rw [h.2.1.2.1.1]
    · refine good_id h (r := setF 28 (fun l => decide (eo (dOw D l) = -1))) ?_ ?_
      · simp only [f_X10_look]
        rw [tsw_nI _ _ (by omega)]
        simp only [List.getD_cons_succ, List.getD_cons_zero]
        rw [C_ownedBy h.K]; rfl
      · simp only [f_X11_look, nm, uM_id h0]
        rw [if_neg (by decide +kernel), if_neg (by decide +kernel), if_neg (by decide +kernel), if_neg (by decide +kernel), if_neg (by decide +kernel), if_neg (by decide +kernel), if_neg (by decide +kernel), if_neg (by decide +kernel), if_neg (by decide +kernel), if_pos (by decide +kernel)]
        rw [F_lettersWithout h.B.2.1]; rfl
    · refine good_id h (r := nI (cntF 28 (fun l => decide (eo (dLo D l) ≠ -1)))) ?_ ?_
      · simp only [f_X10_look]
        rw [tsw_nI _ _ (by omega)]
        simp only [List.getD_cons_succ, List.getD_cons_zero]
        rw [C_loans h.K]; rfl
      · simp only [f_X11_look, nm, uM_id h0]
        rw [if_neg (by decide +kernel), if_neg (by decide +kernel), if_neg (by decide +kernel), if_neg (by decide +kernel), if_neg (by decide +kernel), if_neg (by decide +kernel), if_neg (by decide +kernel), if_neg (by decide +kernel), if_neg (by decide +kernel), if_neg (by decide +kernel), if_pos (by decide +kernel)]
        rw [F_loans h.B.2.1]; rfl
theorem C_changesOf (l1 : S 32 1 = nI (dLn D)) (hL : dLn D ≤ 200) (hr : ∀ i, i < 5 * dLn D → S 33 i = W i) (x : Int32) : f_X0_changesOf_32 x S = some (nI (cntF (dLn D) (fun i => decide (W (5 * i) = x))), S) := by
  unfold f_X0_changesOf_32
  refine loop_cnt (fun _ _ _ _ => none) (fun k => f_X0_changesOf_32_4b k) (fun f i a => f x a (nI i) S) (dLn D) (fun i => decide (W (5 * i) = x)) (fun a => some (a, S)) (by omega) ?_ ?_
  · intro rec i a hi
    show f_X0_changesOf_32_4b rec x a (nI i) S = _
    simp only [f_X0_changesOf_32_4b, f_X0_changesOf_32_27, nm]
    rw [l1, if_neg (nI_ge_f hi (by omega)), nI_lit 5, pk_mul, gd_t (by omega) (by omega), ix_nI (by omega), Nat.mul_comm i 5, hr _ (by omega), nI_1]
    by_cases c : W (5 * i) = x
    · rw [if_pos c, if_pos (decide_eq_true c)]
    · rw [if_neg c, if_neg (fun e => c (of_decide_eq_true e))]
  · intro rec a
    show f_X0_changesOf_32_4b rec x a (nI (dLn D)) S = _
    simp only [f_X0_changesOf_32_4b]
    rw [l1, if_pos (nI_ge_t (Nat.le_refl _) (by omega))]
theorem F_changesOf (l1 : S 240 2 = nI (dLn D)) (hL : dLn D ≤ 200) (hr : ∀ i, i < 5 * dLn D → S 248 i = W i) (x : Int32) : f_X11_changesOf x S = some (nI (cntF (dLn D) (fun i => decide (W (5 * i) = x))), S) := by
  unfold f_X11_changesOf
  refine loop_cnt (fun _ _ _ _ => none) (fun k => f_X11_changesOf_4b k) (fun f i a => f x a (nI i) S) (dLn D) (fun i => decide (W (5 * i) = x)) (fun a => some (a, S)) (by omega) ?_ ?_
  · intro rec i a hi
    show f_X11_changesOf_4b rec x a (nI i) S = _
    simp only [f_X11_changesOf_4b, f_X11_changesOf_30, nm]
    rw [l1, if_neg (nI_ge_f hi (by omega)), nI_lit 5, pk_mul, gd_t (by omega) (by omega), ix_nI (by omega), hr _ (by omega), nI_1]
    by_cases c : W (5 * i) = x
    · rw [if_pos c, if_pos (decide_eq_true c)]
    · rw [if_neg c, if_neg (fun e => c (of_decide_eq_true e))]
  · intro rec a
    show f_X11_changesOf_4b rec x a (nI (dLn D)) S = _
    simp only [f_X11_changesOf_4b]
    rw [l1, if_pos (nI_ge_t (Nat.le_refl _) (by omega))]
/-- the i-th line of a letter, from a line on -/
def lnM (W : Nat → Int32) (x : Int32) : Nat → Nat → Nat → Int32 → Int32
  | 0, _, _, _ => -1
  | d + 1, lo, c, i => if W (5 * lo) = x then (if nI c = i then nI lo else lnM W x d (lo + 1) (c + 1) i) else lnM W x d (lo + 1) c i
theorem C_changeOf (l1 : S 32 1 = nI (dLn D)) (hL : dLn D ≤ 200) (hr : ∀ i, i < 5 * dLn D → S 33 i = W i) (x i : Int32) : f_X0_changeOf_32 x i S = some (lnM W x (dLn D) 0 0 i, S) := by
  unfold f_X0_changeOf_32
  have key : ∀ (d lo c fuel : Nat), lo + d = dLn D → d < fuel → f_X0_changeOf_32_5 fuel x i (nI c) (nI lo) S = some (lnM W x d lo c i, S) := by
    intro d
    induction d with
    | zero =>
      intro lo c fuel h1 h2
      cases fuel with
      | zero => omega
      | succ f =>
        show f_X0_changeOf_32_5b (f_X0_changeOf_32_5 f) x i (nI c) (nI lo) S = _
        simp only [f_X0_changeOf_32_5b]
        rw [l1, if_pos (nI_ge_t (by omega) (by omega))]
        rfl
    | succ d ih =>
      intro lo c fuel h1 h2
      cases fuel with
      | zero => omega
      | succ f =>
        show f_X0_changeOf_32_5b (f_X0_changeOf_32_5 f) x i (nI c) (nI lo) S = _
        simp only [f_X0_changeOf_32_5b, f_X0_changeOf_32_41, nm, lnM]
        rw [l1, if_neg (nI_ge_f (by omega) (by omega)), nI_lit 5, pk_mul, gd_t (by omega) (by omega), ix_nI (by omega), Nat.mul_comm lo 5, hr _ (by omega), nI_1, nI_1]
        by_cases k : W (5 * lo) = x
        · rw [if_pos k, if_pos k]
          by_cases k2 : nI c = i
          · rw [if_pos k2, if_pos k2]
          · rw [if_neg k2, if_neg k2]
            exact ih _ _ f (by omega) (by omega)
        · rw [if_neg k, if_neg k]
          exact ih _ _ f (by omega) (by omega)
  exact key (dLn D) 0 0 FU (by omega) (by unfold FU; omega)
theorem op_trace (x i : Int32) (h : RR S P D T W E) : Good (f_X10_trace x i) (f_X11_trace x i) S := by
  have h0 := h.C.1
  have hL := h.R.1.2
  have l1 : S 32 1 = nI (dLn D) := h.1.1.2.2.1
  have l2 : S 240 2 = nI (dLn D) := h.B.2.1.1.2.2
  rcases nI_cs x (n := 28) (by omega) with hx | ⟨a, ha, rfl⟩
  · refine good_id h (r := -1) ?_ ?_
    · simp only [f_X10_trace, C_isLetter0 hx, Option.bind_some, if_true]
    · simp only [f_X11_trace, nm, uM_id h0, F_isLetter0 hx, Option.bind_some, if_true]
  · by_cases c : 0 ≤ i
    rotate_left
    · refine good_id h (r := -1) ?_ ?_
      · simp only [f_X10_trace, C_isLetter1 ha, Option.bind_some, i10, if_false]
        rw [if_neg c]
      · simp only [f_X11_trace, nm, uM_id h0, F_isLetter1 ha, Option.bind_some, i10, if_false]
        rw [if_neg c]
    · refine good_id h (r := lnM W (nI a) (dLn D) 0 0 i) ?_ ?_
      · simp only [f_X10_trace, C_isLetter1 ha, Option.bind_some, i10, if_false]
        rw [if_pos c, C_changeOf l1 hL h.1.1.2.2.2]
        rfl
      · simp only [f_X11_trace, nm, uM_id h0, F_isLetter1 ha, Option.bind_some, i10, if_false]
        rw [if_pos c]
        have hr := h.2.1.1.2.2
        have key : ∀ (d lo c fuel : Nat), lo + d = dLn D → d < fuel → f_X11_trace_24 fuel (nI a) i (nI c) (nI lo) S = some (lnM W (nI a) d lo c i, S) := by
          intro d
          induction d with
          | zero =>
            intro lo c fuel h1 h2
            cases fuel with
            | zero => omega
            | succ f =>
              show f_X11_trace_24b (f_X11_trace_24 f) (nI a) i (nI c) (nI lo) S = _
              simp only [f_X11_trace_24b]
              rw [l2, if_pos (nI_ge_t (by omega) (by omega))]
              rfl
          | succ d ih =>
            intro lo c fuel h1 h2
            cases fuel with
            | zero => omega
            | succ f =>
              show f_X11_trace_24b (f_X11_trace_24 f) (nI a) i (nI c) (nI lo) S = _
              simp only [f_X11_trace_24b, f_X11_trace_63, nm, lnM]
              rw [l2, if_neg (nI_ge_f (by omega) (by omega)), nI_lit 5, pk_mul, gd_t (by omega) (by omega), ix_nI (by omega), hr _ (by omega)]
              by_cases k : W (5 * lo) = nI a
              · rw [if_pos k, if_pos k]
                by_cases k2 : nI c = i
                · rw [if_pos k2, if_pos k2]
                · rw [if_neg k2, if_neg k2, nI_1, nI_1]
                  exact ih _ _ f (by omega) (by omega)
              · rw [if_neg k, if_neg k, nI_1]
                exact ih _ _ f (by omega) (by omega)
        exact key (dLn D) 0 0 FU (by omega) (by unfold FU; omega)
end OPS2
