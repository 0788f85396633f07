/-! ===== calls that tell: state, own, give, lend, the tape ===== -/
section RKC
variable {A : Mm} {c : Nat} {P : PP} {D : DD}
theorem RKc_ow (h : RK (fun j => A (c + j)) P D) {l : Nat} (o : Nat) (hl : l < 28) : RK (fun j => uM A (c + 10) l (eo o) (c + j)) P (sOw D l o) := by rw [uM_sh]; exact RK_ow h o hl
theorem RKc_lo (h : RK (fun j => A (c + j)) P D) {l : Nat} (o : Nat) (v : Int32) (hl : l < 28) : RK (fun j => uM (uM A (c + 11) l (eo o)) (c + 12) l (if o = 0 then -1 else v) (c + j)) P (sLo D l o v) := by rw [uM_sh, uM_sh]; exact RK_lo h o v hl
theorem RKc_day (h : RK (fun j => A (c + j)) P D) (n : Nat) : RK (fun j => uM A c 1 (nI n) (c + j)) P (sDay D n) := by rw [uM_sh0]; exact RK_day h n
theorem RKc_draw (h : RK (fun j => A (c + j)) P D) (v : Int32) : RK (fun j => uM A c 0 v (c + j)) P (sDraw D v) := by rw [uM_sh0]; exact RK_draw h v
theorem RKc_dead (h : RK (fun j => A (c + j)) P D) {q : Nat} (hq : q < pN P) (hN : pN P ≤ 12) : RK (fun j => uM A c 4 (A c 4 &&& (shl 1 (nI q) ^^^ (-1))) (c + j)) P (sDead D q) := by rw [uM_sh0]; exact RK_dead h hq hN
theorem RKc_dies (h : RK (fun j => A (c + j)) P D) (q : Nat) (v : Int32) : RK (fun j => uM A (c + 4) q v (c + j)) P (sDies D q v) := by rw [uM_sh]; exact RK_dies h q v
theorem RKc_coin (h : RK (fun j => A (c + j)) P D) (q : Nat) (v : Int32) : RK (fun j => uM A (c + 7) q v (c + j)) P (sCoin D q v) := by rw [uM_sh]; exact RK_coin h q v
theorem RKc_sg (h : RK (fun j => A (c + j)) P D) (d : Nat) (x y z : Int32) : RK (fun j => uM (uM (uM A (c + 13) d x) (c + 14) d y) (c + 15) d z (c + j)) P (sSg D d x y z) := by rw [uM_sh, uM_sh, uM_sh]; exact RK_sg h d x y z
theorem RKc_off (h : RK (fun j => A (c + j)) P D) {a i : Nat} {v : Int32} (ha : a < c ∨ c + 16 ≤ a) : RK (fun j => uM A a i v (c + j)) P D := h.congr fun j hj => uM_off _ _ _ (by omega)
end RKC
theorem un_comm {α : Type} (f : Nat → Nat → α) {k k' : Nat} (i i' : Nat) (v v' : α) (h : k ≠ k') : un (un f k i v) k' i' v' = un (un f k' i' v') k i v := by
  funext a j
  unfold un
  by_cases c : a = k ∧ j = i
  · rw [if_neg (fun e : a = k' ∧ j = i' => h (c.1.symm.trans e.1)), if_pos c, if_pos c]
  · by_cases c' : a = k' ∧ j = i'
    · rw [if_pos c', if_neg c, if_pos c']
    · rw [if_neg c', if_neg c, if_neg c, if_neg c']
theorem ps_lo (th : Bool) (D : DD) (l l' o : Nat) : psD th (sLo D l' 0 0) l o = sLo (psD th D l o) l' 0 0 := by
  have e1 : sOw (sLo D l' 0 0) l o = sLo (sOw D l o) l' 0 0 := by
    show (un (un D.1 3 l' 0) 2 l o, un D.2 1 l' 0) = (un (un D.1 2 l o) 3 l' 0, un D.2 1 l' 0)
    rw [un_comm _ _ _ _ _ (by decide)]
  unfold psD
  by_cases c : th = true ∨ dOw D l = o ∨ dLn D = 200
  · rw [if_pos c, if_pos (show th = true ∨ dOw (sLo D l' 0 0) l = o ∨ dLn (sLo D l' 0 0) = 200 from c), e1]
  · rw [if_neg c, if_neg (show ¬ (th = true ∨ dOw (sLo D l' 0 0) l = o ∨ dLn (sLo D l' 0 0) = 200) from c), e1]
    show (un (un (un D.1 2 l o) 3 l' 0) 0 1 (dLn D + 1), un D.2 1 l' 0) = (un (un (un D.1 2 l o) 0 1 (dLn D + 1)) 3 l' 0, un D.2 1 l' 0)
    rw [un_comm _ _ _ _ _ (by decide)]
theorem psW_lo (th : Bool) (D : DD) (W : Nat → Int32) (l l' o : Nat) (how : Int32) : psW th (sLo D l' 0 0) W l o how = psW th D W l o how := rfl
section OPS3
variable {S : Mm} {P : PP} {D : DD} {T : TT} {W : Nat → Int32} {E : RE}
theorem op_state (v : Int32) (h : RR S P D T W E) : Good (f_X10_state v) (f_X11_state v) S := by
  have hN := h.wP.1
  have ws := h.2.2.1
  refine Good.ex (r := dDraw D) (S1 := uM (uM S 1 0 v) 34 3 0) (S2 := uM (uM (uM (uM S 1 0 v) 34 3 0) 240 1 v) 239 3 0) ?_ ?_ ?_
  · simp only [f_X10_state, f_X2_forget, nm, Option.bind_some, (k1s h.K).1]
  · simp only [f_X11_state, nm]
    rw [uM_id (S := uM (uM S 1 0 v) 34 3 0) (by rw [uM_off _ _ _ (by decide), uM_off _ _ _ (by decide)]; exact h.C.1), uM_off _ _ _ (by decide : (240 : Nat) ≠ 34), uM_off _ _ _ (by decide : (240 : Nat) ≠ 1), h.B.2.1.1.2.1]
  · refine h.act (S1 := uM (uM S 1 0 v) 34 3 0) (P' := P) (D' := sDraw D v) (W' := W) (H' := (0, E.1.2)) (fun k hk => by rw [uM_off _ _ _ (by omega), uM_off _ _ _ (by omega)]) ?_ ?_ (fun i hi => ?_) ?_ (fun k hk => by rw [uM_off _ _ _ (by omega), uM_off _ _ _ (by omega)]) (fun k hk => by rw [uM_off _ _ _ (by omega), uM_off _ _ _ (by omega)]) (fun i hi => by rw [uM_ne _ _ _ hi.2.1, uM_off _ _ _ (by decide)]) ?_ ?_ (fun i hi => ?_) ?_ ?_ WFH_forget
    · exact RKc_off (RKc_draw h.K v) (by omega)
    · rw [uM_off _ _ _ (by decide), uM_off _ _ _ (by decide)]; exact h.1.1.2.2.1
    · rw [uM_off _ _ _ (by decide), uM_off _ _ _ (by decide)]; exact h.1.1.2.2.2 i hi
    · exact CH_forget h.1.2.1 (uM_eq _ _ _ _) (by rw [uM_ne _ _ _ (by decide), uM_off _ _ _ (by decide)])
    · rw [uM_off _ _ _ (by decide), uM_off _ _ _ (by decide)]
    · refine h.B.upd (D' := sDraw D v) ?_ (fun _ => rfl) (by rw [uM_ne _ _ _ (by decide), uM_off _ _ _ (by decide), uM_off _ _ _ (by decide), uM_off _ _ _ (by decide)]) (by rw [uM_ne _ _ _ (by decide), uM_off _ _ _ (by decide), uM_off _ _ _ (by decide), uM_off _ _ _ (by decide)]) (fun k a b c => by rw [uM_off _ _ _ (by omega), uM_off _ _ _ (by omega), uM_off _ _ _ (by omega), uM_off _ _ _ (by omega)])
      rw [uM_off _ _ _ (by decide), uM_row, uM_off _ _ _ (by decide), uM_off _ _ _ (by decide)]
      exact RW_draw h.B.2.1 hN v
    · rw [uM_off _ _ _ (by decide), uM_off _ _ _ (by decide), uM_off _ _ _ (by decide), uM_off _ _ _ (by decide)]; exact h.2.1.1.2.2 i hi
    · exact FH_forget (uM_eq _ _ _ _)
    · exact ⟨ws.1, ws.2.1, ws.2.2.1, ws.2.2.2.1, ws.2.2.2.2.1, ws.2.2.2.2.2⟩
/-- own, give, duel end so: an owner, perhaps the end of a loan -/
theorem own_C {A : Mm} (hK : RK (fun j => A (1 + j)) P D) (hD : WFD P D) (hN : pN P ≤ 12) (hL : dLn D ≤ 200) (l1 : A 32 1 = nI (dLn D)) (hW : ∀ i, i < 5 * dLn D → A 33 i = W i) {l o : Nat} (hl : l < 28) (ho : o ≤ pN P) (how : Int32) :
    ∃ A1 A', f_X1_endLoan 1 (nI l) A = some A1 ∧ f_X1_pass_32 1 (nI l) (eo o) how A1 = some A' ∧ RK (fun j => A' (1 + j)) P (psD false (sLo D l 0 0) l o) ∧ A' 32 1 = nI (dLn (psD false (sLo D l 0 0) l o)) ∧ (∀ i, i < 5 * dLn (psD false (sLo D l 0 0) l o) → A' 33 i = psW false (sLo D l 0 0) W l o how i) ∧ ∀ k, k ≠ 11 → k ≠ 12 → k ≠ 13 → k ≠ 32 → k ≠ 33 → A' k = A k := by
  obtain ⟨A1, e1, g1, g2⟩ := C_endLoan hK hl
  obtain ⟨A2, e2, g3, g4, g5, g6⟩ := C_pass (W := W) g1 (fun l hl => (hD.1 l hl).1) hN hL (by rw [g2 _ (by decide) (by decide)]; exact l1) (fun i hi => by rw [g2 _ (by decide) (by decide)]; exact hW i hi) hl ho how
  exact ⟨A1, A2, e1, e2, g3, g4, g5, fun k a b c d e => by rw [g6 k a d e, g2 k (by omega) (by omega)]⟩
theorem own_F {B : Mm} (hR : RB B P D) (h5 : B 239 5 = 0) (hD : WFD P D) (hN : pN P ≤ 12) (hL : dLn D ≤ 200) (hW : ∀ i, i < 5 * dLn D → B 248 i = W i) {l o : Nat} (hl : l < 28) (ho : o ≤ pN P) (how : Int32) :
    ∃ B1 B', f_X11_comesTo (nI l) (eo o) how B = some B1 ∧ f_X11_endsLoan (nI l) B1 = some B' ∧ RB B' P (psD false (sLo D l 0 0) l o) ∧ (∀ i, i < 5 * dLn (psD false (sLo D l 0 0) l o) → B' 248 i = psW false (sLo D l 0 0) W l o how i) ∧ ∀ k, k ≠ 240 → k ≠ 248 → B' k = B k := by
  obtain ⟨B1, e1, g1, g2, g3⟩ := F_comesTo (th := false) (W := W) hR.2.1 h5 (fun l hl => (hD.1 l hl).1) hN hL hW hl ho how
  obtain ⟨B2, e2, g4, g5⟩ := F_endsLoan g1 hN hl
  rw [ps_lo, psW_lo]
  refine ⟨B1, B2, e1, e2, hR.upd g4 (fun q => ?_) (by rw [g5 _ (by decide), g3 _ (by decide) (by decide)]) (by rw [g5 _ (by decide), g3 _ (by decide) (by decide)]) (fun k a b c => by rw [g5 k (by omega), g3 k (by omega) c]), fun i hi => ?_, fun k a b => by rw [g5 k a, g3 k a b]⟩
  · show dSp (psD false D l o) q = dSp D q
    exact psD_sp _ _ _ _ _
  · rw [g5 _ (by decide)]
    exact g2 i hi
theorem WFS_own (w : WFS P D T) {l o : Nat} (ho : o ≤ pN P) : WFS P (psD false (sLo D l 0 0) l o) T := ⟨w.1, w.2.1, WFD_ps (WFD_lo w.2.2.1 (Nat.zero_le _)) ho, WFR_ps (P := P) (D := sLo D l 0 0) w.2.2.2.1, w.2.2.2.2.1, WFU_ps (D := sLo D l 0 0) w.2.2.2.2.2⟩
theorem op_own27 {x : Int32} {l o : Nat} (hx : x = eo o) (ho : o ≤ pN P) (hl : l < 28) (h : RR S P D T W E) : ∃ S1 S2, f_X10_own_27 (nI l) x S = some (1, S1) ∧ (S1 239 = S 239) ∧ f_X11_own_28 (nI l) x S1 = some (1, S2) ∧ RX S2 ∧ RB S1 P D := by
  subst hx
  have hN := h.wP.1
  have hL := h.R.1.2
  obtain ⟨A1, S1, e1, e2, g1, g2, g3, g4⟩ := own_C (A := uM S 34 3 0) (W := W) (RKc_off h.K (by omega)) h.wD hN hL (by rw [uM_off _ _ _ (by decide)]; exact h.1.1.2.2.1) (fun i hi => by rw [uM_off _ _ _ (by decide)]; exact h.1.1.2.2.2 i hi) hl ho 0
  have fr : ∀ k, 239 ≤ k → S1 k = S k := fun k hk => by rw [g4 k (by omega) (by omega) (by omega) (by omega) (by omega), uM_off _ _ _ (by omega)]
  have hB1 : RB S1 P D := h.B.congr2 (by rw [fr _ (by omega)]) (by rw [fr _ (by omega)]) (fun k _ _ _ _ _ => fr k (by omega))
  obtain ⟨B1, B2, u1, u2, v1, v2, v3⟩ := own_F (W := W) hB1 (by rw [fr _ (by omega)]; exact h.C.2.1) h.wD hN hL (fun i hi => by rw [fr _ (by omega)]; exact h.2.1.1.2.2 i hi) hl ho 0
  refine ⟨S1, uM B2 239 3 0, ?_, fr _ (by omega), ?_, ?_, hB1⟩
  · simp only [f_X10_own_27, f_X2_forget, nm, Option.bind_some]
    rw [e1]
    simp only [Option.bind_some]
    rw [e2]
    rfl
  · simp only [f_X11_own_28, nm]
    rw [u1]
    simp only [Option.bind_some]
    rw [u2]
    rfl
  · refine h.act (P' := P) (D' := psD false (sLo D l 0 0) l o) (W' := psW false (sLo D l 0 0) W l o 0) (H' := (0, E.1.2)) (fun k hk => by rw [g4 k (by omega) (by omega) (by omega) (by omega) (by omega), uM_off _ _ _ (by omega)]) g1 g2 g3 ?_ (fun k hk => by rw [uM_off _ _ _ (by omega), v3 k (by omega) (by omega)]) (fun k hk => by rw [uM_off _ _ _ (by omega), v3 k (by omega) (by omega)]) (fun i hi => by rw [uM_ne _ _ _ hi.2.1, v3 _ (by decide) (by decide)]) ?_ ?_ (fun i hi => ?_) ?_ (WFS_own h.2.2.1 ho) WFH_forget
    · exact CH_forget h.1.2.1 (by rw [g4 _ (by decide) (by decide) (by decide) (by decide) (by decide), uM_eq]) (by rw [g4 _ (by decide) (by decide) (by decide) (by decide) (by decide), uM_ne _ _ _ (by decide)])
    · rw [uM_off _ _ _ (by decide), v3 _ (by decide) (by decide)]
    · exact v1.congr2 (by rw [uM_ne _ _ _ (by decide)]) (by rw [uM_ne _ _ _ (by decide)]) (fun k a b _ _ _ => by rw [uM_off _ _ _ (by omega)])
    · rw [uM_off _ _ _ (by decide)]; exact v2 i hi
    · exact FH_forget (uM_eq _ _ _ _)
theorem op_own (x y : Int32) (h : RR S P D T W E) : Good (f_X10_own x y) (f_X11_own x y) S := by
  have hN := h.wP.1
  have h0 := h.C.1
  rcases nI_cs x (n := 28) (by omega) with hx | ⟨l, hl, rfl⟩
  · refine good_id h (r := 0) ?_ ?_
    · simp only [f_X10_own, C_isLetter0 hx, Option.bind_some, if_true]
    · simp only [f_X11_own, nm, uM_id h0, F_isLetter0 hx, Option.bind_some, if_true]
  · by_cases c : y = -1
    · obtain ⟨S1, S2, e1, e2, e3, e4, _⟩ := op_own27 (x := y) (o := 0) (by rw [c, eo_0]) (Nat.zero_le _) hl h
      refine Good.ex (r := 1) (S1 := S1) (S2 := S2) ?_ ?_ e4
      · simp only [f_X10_own, C_isLetter1 hl, Option.bind_some, i10, if_false]
        rw [if_pos c]
        exact e1
      · simp only [f_X11_own, nm, uM_id (show S1 239 0 = 0 by rw [e2]; exact h0), F_isLetter1 hl, Option.bind_some, i10, if_false]
        rw [if_pos c]
        exact e3
    · have dead : ∀ r1 r2 : Option (Int32 × Mm), f_X1_lives 1 y S = some (0, S) → f_X11_isLiving y S = some (0, S) → Good (f_X10_own (nI l) y) (f_X11_own (nI l) y) S := fun _ _ u1 u2 => by
        refine good_id h (r := 0) ?_ ?_
        · simp only [f_X10_own, C_isLetter1 hl, Option.bind_some, i10, if_false]
          rw [if_neg c, u1]
          simp only [Option.bind_some, if_true]
        · simp only [f_X11_own, nm, uM_id h0, F_isLetter1 hl, Option.bind_some, i10, if_false]
          rw [if_neg c, u2]
          simp only [Option.bind_some, if_true]
      rcases nI_cs y (n := pN P) (by omega) with hy | ⟨q, hq, rfl⟩
      · exact dead none none (C_lives0 h.K hy) (F_isLiving0 h.B.1 hy)
      · by_cases v : liv P D q = true
        · obtain ⟨S1, S2, e1, e2, e3, e4, e5⟩ := op_own27 (x := nI q) (o := q + 1) (by rw [eo_s]) (by omega) hl h
          refine Good.ex (r := 1) (S1 := S1) (S2 := S2) ?_ ?_ e4
          · simp only [f_X10_own, C_isLetter1 hl, Option.bind_some, i10, if_false]
            rw [if_neg c, C_lives h.K hN hq, if_pos v]
            simp only [Option.bind_some, i10, if_false]
            exact e1
          · simp only [f_X11_own, nm, uM_id (show S1 239 0 = 0 by rw [e2]; exact h0), F_isLetter1 hl, Option.bind_some, i10, if_false]
            rw [if_neg c, F_isLiving e5.1 e5.2.1 hN hq, if_pos v]
            simp only [Option.bind_some, i10, if_false]
            exact e3
        · exact dead none none (by rw [C_lives h.K hN hq, if_neg v]) (by rw [F_isLiving h.B.1 h.B.2.1 hN hq, if_neg v])
end OPS3
