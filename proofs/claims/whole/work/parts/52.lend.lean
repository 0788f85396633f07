/-! ===== loans and duels ===== -/
section LEND
variable {S : Mm} {P : PP} {D : DD} {T : TT} {W : Nat → Int32} {E : RE}
theorem RB_coin {B : Mm} (h : RB B P D) (hN : pN P ≤ 12) {q : Nat} (hq : q < pN P) (v : Int32) : RB (uM B 240 (100 + q) v) P (sCoin D q v) := h.upd (by rw [uM_row]; exact RW_coin h.2.1 hN hq v) (fun _ => rfl) (by rw [uM_off _ _ _ (by decide)]) (by rw [uM_off _ _ _ (by decide)]) fun k _ _ _ => uM_off _ _ _ (by omega)
theorem RB_lo {B : Mm} (h : RB B P D) (hN : pN P ≤ 12) {l : Nat} (o : Nat) (v : Int32) (hl : l < 28) : RB (uM (uM B 240 (32 + l) (nI o)) 240 (60 + l) v) P (sLo D l o v) := h.upd (by rw [uM_row, uM_row]; exact RW_lo h.2.1 hN o hl (fun _ => rfl)) (fun _ => rfl) (by rw [uM_off _ _ _ (by decide), uM_off _ _ _ (by decide)]) (by rw [uM_off _ _ _ (by decide), uM_off _ _ _ (by decide)]) fun k _ _ _ => by rw [uM_off _ _ _ (by omega), uM_off _ _ _ (by omega)]
theorem RB_draw {B : Mm} (h : RB B P D) (hN : pN P ≤ 12) (v : Int32) : RB (uM B 240 1 v) P (sDraw D v) := h.upd (by rw [uM_row]; exact RW_draw h.2.1 hN v) (fun _ => rfl) (by rw [uM_off _ _ _ (by decide)]) (by rw [uM_off _ _ _ (by decide)]) fun k _ _ _ => uM_off _ _ _ (by omega)
theorem op_lend (x y n z : Int32) (h : RR S P D T W E) : Good (f_X10_lend x y n z) (f_X11_lend x y n z) S := by
  have hN := h.wP.1
  have h0 := h.C.1
  rcases go_cases h x y with ⟨g1, g2⟩ | ⟨l, t, o, rfl, rfl, hl, v, c1, c2, c3, c4, g1, g2⟩
  · refine good_id h (r := 0) ?_ ?_
    · simp only [f_X10_lend, g1, Option.bind_some, if_true]
    · simp only [f_X11_lend, nm, uM_id h0, g2 S h.B, Option.bind_some, if_true]
  · have ht := liv_lt v
    have ho := liv_lt c3
    obtain ⟨ct, hct, et⟩ := h.R.2 t ht
    obtain ⟨co, hco, eo1⟩ := h.R.2 o ho
    have q1 := (k1p h.K ht).2.2.2.2.2.2.1
    have q2 := (k1p h.K ho).2.2.2.2.2.2.1
    have q3 : S 11 l = nI o := by rw [(k1l h.K hl).1, c1, eo_s]
    have r1 : S 240 (100 + t) = dCoin D t := (h.B.2.1.2.2.1 t ht).2.1
    have r2 : S 240 (100 + o) = dCoin D o := (h.B.2.1.2.2.1 o ho).2.1
    by_cases k1 : n < 1
    · refine good_id h (r := 0) ?_ ?_
      · simp only [f_X10_lend, g1, Option.bind_some, i10, if_false]; rw [if_pos k1]
      · simp only [f_X11_lend, nm, uM_id h0, g2 S h.B, Option.bind_some, i10, if_false, F_isIn0 (Or.inl k1), if_true]
    by_cases k2 : n ≤ 99
    rotate_left
    · refine good_id h (r := 0) ?_ ?_
      · simp only [f_X10_lend, g1, Option.bind_some, i10, if_false]; rw [if_neg k1, if_neg k2]
      · simp only [f_X11_lend, nm, uM_id h0, g2 S h.B, Option.bind_some, i10, if_false, F_isIn0 (Or.inr (i32_nle.mp k2)), if_true]
    have cls : f_X10_lend (nI l) (nI t) n z S = if z < 0 then some (0, S) else if nI ct < z then some (0, S) else if z ≤ 99999 - nI co then (f_X2_keep_32 1 S).bind fun S_3 => some (1, uM (uM (uM (uM S_3 8 t (S_3 8 t - z)) 8 o (uM S_3 8 t (S_3 8 t - z) 8 o + z)) 12 l (nI t)) 13 l (uM (uM (uM S_3 8 t (S_3 8 t - z)) 8 o (uM S_3 8 t (S_3 8 t - z) 8 o + z)) 12 l (nI t) 1 1 + n)) else some (0, S) := by
      simp only [f_X10_lend, g1, Option.bind_some, i10, if_false, nm]
      rw [if_neg k1, if_pos k2, gd_t (by omega) (by omega), gd_t (by omega) (by omega), ix_nI (by omega), ix_nI (by omega)]
      simp (disch := omega) only [q3, gd_t, ix_nI, q1, q2, et, eo1]
    have ref : ∀ B, RB B P D → f_X11_canGo (nI l) (nI t) B = some (1, B) → B 239 0 = 0 → f_X11_lend (nI l) (nI t) n z B = if z < 0 then some (0, B) else if nI ct < z then some (0, B) else if nI co + z ≤ 99999 then (f_X11_keepsAhead B).bind fun S_6 => some (1, uM (uM (uM (uM S_6 240 (100 + t) (S_6 240 (100 + t) - z)) 240 (100 + o) (uM S_6 240 (100 + t) (S_6 240 (100 + t) - z) 240 (100 + o) + z)) 240 (32 + l) (nI (t + 1))) 240 (60 + l) (uM (uM (uM S_6 240 (100 + t) (S_6 240 (100 + t) - z)) 240 (100 + o) (uM S_6 240 (100 + t) (S_6 240 (100 + t) - z) 240 (100 + o) + z)) 240 (32 + l) (nI (t + 1)) 240 0 + n)) else some (0, B) := fun B hB hg hz => by
      have s1 : B 240 (100 + t) = dCoin D t := (hB.2.1.2.2.1 t ht).2.1
      have s2 : B 240 (100 + o) = dCoin D o := (hB.2.1.2.2.1 o ho).2.1
      simp only [f_X11_lend, nm, uM_id hz, hg, Option.bind_some, i10, if_false, F_isIn1 k1 (i32_nlt.mpr k2)]
      rw [nI_lit 100, nI_add, gd_t (by omega) (by omega), ix_nI (by omega), s1, et]
      by_cases e1 : z < 0
      · rw [if_pos e1, F_isIn0 (Or.inl e1)]
        rfl
      · rw [if_neg e1]
        by_cases e2 : nI ct < z
        · rw [if_pos e2, F_isIn0 (Or.inr e2)]
          rfl
        · rw [if_neg e2, F_isIn1 e1 e2]
          simp only [Option.bind_some, i10, if_false, F_ownerOf hB.2.1 hl]
          rw [c1, eo_s, nI_add, gd_t (by omega) (by omega), ix_nI (by omega), s2, eo1]
          by_cases e3 : nI co + z ≤ 99999
          · rw [if_pos e3, if_pos e3, nI_lit 32, nI_lit 60, nI_add, nI_add, nI_1]
            simp (disch := omega) only [gd_t, ix_nI]
          · rw [if_neg e3, if_neg e3]
    by_cases e1 : z < 0
    · exact good_id h (r := 0) (by rw [cls, if_pos e1]) (by rw [ref S h.B (g2 S h.B) h0, if_pos e1])
    by_cases e2 : nI ct < z
    · exact good_id h (r := 0) (by rw [cls, if_neg e1, if_pos e2]) (by rw [ref S h.B (g2 S h.B) h0, if_neg e1, if_pos e2])
    obtain ⟨m, hm, rfl⟩ := nI_of e1
    have hm2 : m ≤ ct := by
      rw [nI_ltI (by omega) (by omega)] at e2
      omega
    by_cases e3 : co + m ≤ 99999
    rotate_left
    · refine good_id h (r := 0) ?_ ?_
      · rw [cls, if_neg e1, if_neg e2, nI_lit 99999, pk_sub (by omega), if_neg (nI_ge_f (by omega) (by omega))]
      · rw [ref S h.B (g2 S h.B) h0, if_neg e1, if_neg e2, nI_lit 99999, nI_add, if_neg (nI_ge_f (by omega) (by omega))]
    obtain ⟨A1, u1, a1, a2, a3, a4, a5⟩ := act_C h
    have x1 : A1 8 t = dCoin D t := (k1p a1 ht).2.2.2.2.2.2.1
    have x2 : uM A1 8 t (dCoin D t - nI m) 8 o = dCoin D o := by rw [uM_ne _ _ _ c2]; exact (k1p a1 ho).2.2.2.2.2.2.1
    have x3 : ∀ p q s, uM (uM (uM A1 8 t p) 8 o q) 12 l s 1 1 = nI (dDay D) := fun p q s => by rw [uM_off _ _ _ (by decide), uM_off _ _ _ (by decide), uM_off _ _ _ (by decide)]; exact a1.1.2.1
    rw [u1] at cls
    simp only [Option.bind_some] at cls
    rw [x1, x2, x3, nI_lit 99999, pk_sub (by omega), if_neg e1, if_neg e2, if_pos (nI_ge_t (by omega) (by omega))] at cls
    generalize hS1 : uM (uM (uM (uM A1 8 t (dCoin D t - nI m)) 8 o (dCoin D o + nI m)) 12 l (nI t)) 13 l (nI (dDay D) + n) = S1 at cls
    have off : ∀ k, k ≠ 8 → k ≠ 12 → k ≠ 13 → S1 k = A1 k := fun k p q s => by rw [← hS1, uM_off _ _ _ s, uM_off _ _ _ q, uM_off _ _ _ p, uM_off _ _ _ p]
    have fr : ∀ k, 239 ≤ k → S1 k = S k := fun k hk => by rw [off k (by omega) (by omega) (by omega), a5 k (by omega)]
    obtain ⟨⟨hB, _, hC⟩, B1, v1, d1, d2, d3, d4, d5⟩ := act_F h fr
    have y1 : B1 240 (100 + t) = dCoin D t := (d1.2.1.2.2.1 t ht).2.1
    have y2 : uM B1 240 (100 + t) (dCoin D t - nI m) 240 (100 + o) = dCoin D o := by rw [uM_ne _ _ _ (by omega)]; exact (d1.2.1.2.2.1 o ho).2.1
    have y3 : ∀ p q s, uM (uM (uM B1 240 (100 + t) p) 240 (100 + o) q) 240 (32 + l) s 240 0 = nI (dDay D) := fun p q s => by rw [uM_ne _ _ _ (by omega), uM_ne _ _ _ (by omega), uM_ne _ _ _ (by omega)]; exact d1.2.1.1.1
    have ref1 := ref S1 hB (g2 S1 hB) hC.1
    rw [v1] at ref1
    simp only [Option.bind_some] at ref1
    rw [y1, y2, y3, nI_lit 99999, nI_add, if_neg e1, if_neg e2, if_pos (nI_ge_t (by omega) (by omega))] at ref1
    refine Good.ex cls ref1 ?_
    have off2 : ∀ p q r s k, k ≠ 240 → uM (uM (uM (uM B1 240 (100 + t) p) 240 (100 + o) q) 240 (32 + l) r) 240 (60 + l) s k = B1 k := fun p q r s k hk => by rw [uM_off _ _ _ hk, uM_off _ _ _ hk, uM_off _ _ _ hk, uM_off _ _ _ hk]
    refine h.act2 (D' := sLo (sCoin (sCoin D t (dCoin D t - nI m)) o (dCoin D o + nI m)) l (t + 1) (nI (dDay D) + n)) (W' := W) (fun k hk => by rw [off k (by omega) (by omega) (by omega), a5 k (by omega)]) ?_ (by rw [off _ (by decide) (by decide) (by decide)]; exact a2) (fun i hi => by rw [off _ (by decide) (by decide) (by decide)]; exact a3 i hi) (a4.congr fun k _ _ => off k (by omega) (by omega) (by omega)) (fun k hk => by rw [off2 _ _ _ _ _ (by omega), d4 k (by omega) (by omega)]) (fun k hk => by rw [off2 _ _ _ _ _ (by omega), d4 k (by omega) (by omega)]) (fun i _ hi => by rw [off2 _ _ _ _ _ (by decide), d5 i hi]) ?_ (fun i hi => by rw [off2 _ _ _ _ _ (by decide)]; exact d2 i hi) (d3.congr (by rw [off2 _ _ _ _ _ (by decide)]) (off2 _ _ _ _ _ (by decide))) ?_ (Nat.le_refl _)
    · have := RKc_lo (RKc_coin (RKc_coin a1 t (dCoin D t - nI m)) o (dCoin D o + nI m)) (t + 1) (nI (dDay D) + n) hl
      rw [eo_s, if_neg (Nat.succ_ne_zero t)] at this
      rw [← hS1]
      exact this
    · exact RB_lo (RB_coin (RB_coin d1 hN ht _) hN ho _) hN (t + 1) _ hl
    · obtain ⟨w1, w2, w3, w4, w5, w6⟩ := h.2.2.1
      refine ⟨w1, w2, WFD_lo (D := sCoin (sCoin D t _) o _) w3 (by omega), ⟨w4.1, fun q hq => ?_⟩, w5, w6⟩
      show ∃ c, c ≤ 99999 ∧ un (un D.2 3 t (dCoin D t - nI m)) 3 o (dCoin D o + nI m) 3 q = nI c
      by_cases z1 : q = o
      · subst z1; rw [un_eq, eo1, nI_add]; exact ⟨co + m, e3, rfl⟩
      · rw [un_ne _ _ _ z1]
        by_cases z2 : q = t
        · subst z2; rw [un_eq, et, pk_sub hm2]; exact ⟨ct - m, by omega, rfl⟩
        · rw [un_ne _ _ _ z2]; exact w4.2 q hq
theorem duel_core (h : RR S P D T W E) {a b l : Nat} (ha : a < pN P) (hb : b < pN P) (hl : l < 28) : ∃ r S1 S2, f_X10_duel_64 (nI a) (nI b) (nI l) S = some (r, S1) ∧ (∀ k, 239 ≤ k → S1 k = S k) ∧ f_X11_duel_56 (nI a) (nI b) (nI l) S1 = some (r, S2) ∧ RX S2 := by
  have hN := h.wP.1
  have hL := h.R.1.2
  obtain ⟨sa, hsa, ea⟩ := h.2.2.1.2.1 a ha
  obtain ⟨sb, hsb, eb⟩ := h.2.2.1.2.1 b hb
  obtain ⟨A1, e1, a1, a2, a3, a4, a5⟩ := act_C h
  have x1 : A1 7 a = nI sa := by rw [(k1p a1 ha).2.2.2.2.2.1, ea]
  have x2 : A1 7 b = nI sb := by rw [(k1p a1 hb).2.2.2.2.2.1, eb]
  obtain ⟨v, hv⟩ : ∃ v, v = dDraw D * 1664525 + 1013904223 := ⟨_, rfl⟩
  have m0 : (nI (sa + sb + 2) ≤ 0) = False := eq_false (nI_ge_f (b := 0) (by omega) (by omega))
  have m1 : (nI (sa + sb + 2) = 0) = False := eq_0f (by omega) (by omega)
  obtain ⟨dr, hdr⟩ : ∃ dr, dr = irem (ushr v 8) (nI (sa + sb + 2)) := ⟨_, rfl⟩
  have dC : f_X1_draw 1 (nI (sa + sb + 2)) A1 = some (dr, uM A1 1 0 v) := by
    simp only [f_X1_draw, nm]
    rw [if_neg (of_eq_false m0), if_neg (of_eq_false m1), show A1 1 0 = dDraw D from a1.1.1, ← hv, uM_eq, ← hdr]
  obtain ⟨wn, hwn, hwe⟩ : ∃ wn, wn < pN P ∧ nI wn = (if nI sa + 1 ≤ dr then nI b else nI a) := by
    by_cases c : nI sa + 1 ≤ dr
    · exact ⟨b, hb, by rw [if_pos c]⟩
    · exact ⟨a, ha, by rw [if_neg c]⟩
  have kd := RKc_draw a1 v
  have wd : WFD P (sDraw D v) := h.wD
  obtain ⟨A2, S1, e2, e3, b1, b2, b3, b4⟩ := own_C (A := uM A1 1 0 v) (W := W) (o := wn + 1) kd wd hN hL (by rw [uM_off _ _ _ (by decide)]; exact a2) (fun i hi => by rw [uM_off _ _ _ (by decide)]; exact a3 i hi) hl (by omega) 2
  have fr : ∀ k, 239 ≤ k → S1 k = S k := fun k hk => by rw [b4 k (by omega) (by omega) (by omega) (by omega) (by omega), uM_off _ _ _ (by omega), a5 k (by omega)]
  obtain ⟨⟨hB, _, hC⟩, B1, u1, d1, d2, d3, d4, d5⟩ := act_F h fr
  obtain ⟨s1, s2⟩ : B1 247 a = nI sa ∧ B1 247 b = nI sb := ⟨by rw [(d1.1.2 a ha).2.2.2.2, ea], by rw [(d1.1.2 b hb).2.2.2.2, eb]⟩
  have dF : f_X11_draw (nI (sa + sb + 2)) B1 = some (dr, uM B1 240 1 v) := by
    simp only [f_X11_draw, nm]
    rw [if_neg (of_eq_false m1), show B1 240 1 = dDraw D from d1.2.1.1.2.1, Int32.mul_comm, ← hv, uM_eq, ← hdr]
  obtain ⟨B2, S2, u2, u3, n1, n2, n3⟩ := own_F (B := uM B1 240 1 v) (W := W) (o := wn + 1) (RB_draw d1 hN v) (by rw [uM_off _ _ _ (by decide), d5 _ (by decide)]; exact hC.2.1) wd hN hL (fun i hi => by rw [uM_off _ _ _ (by decide)]; exact d2 i hi) hl (by omega) 2
  rw [eo_s] at e3 u2
  refine ⟨nI wn, S1, S2, ?_, fr, ?_, ?_⟩
  · simp only [f_X10_duel_64, e1, Option.bind_some]
    rw [gd_t (by omega) (by omega), gd_t (by omega) (by omega), ix_nI (by omega), ix_nI (by omega), x1, x2, nI_lit 2, nI_add, nI_add, dC]
    simp only [Option.bind_some]
    rw [gd_t (by omega) (by omega), uM_off _ _ _ (by decide), x1]
    have fin : f_X10_duel_130 (nI l) (nI wn) (uM A1 1 0 v) = some (nI wn, S1) := by
      simp only [f_X10_duel_130, e2, Option.bind_some]
      rw [e3]
      rfl
    rw [← fin, hwe]
    by_cases c : nI sa + 1 ≤ dr
    · rw [if_pos c, if_pos c]
    · rw [if_neg c, if_neg c]
  · simp only [f_X11_duel_56, u1, Option.bind_some]
    rw [gd_t (by omega) (by omega), gd_t (by omega) (by omega), ix_nI (by omega), ix_nI (by omega), s1, s2, nI_lit 2, nI_add, nI_add, dF]
    simp only [Option.bind_some]
    rw [gd_t (by omega) (by omega), uM_off _ _ _ (by decide), s1]
    have fin : f_X11_duel_95 (nI l) (nI wn) (uM B1 240 1 v) = some (nI wn, S2) := by
      simp only [f_X11_duel_95]
      rw [show (2 : Int32) = 2 from rfl, u2]
      simp only [Option.bind_some]
      rw [u3]
      rfl
    rw [← fin, hwe]
    by_cases c : nI sa + 1 ≤ dr
    · rw [if_pos c, if_pos c]
    · rw [if_neg c, if_neg c]
  · refine h.act2 (D' := psD false (sLo (sDraw D v) l 0 0) l (wn + 1)) (W' := psW false (sLo (sDraw D v) l 0 0) W l (wn + 1) 2) (fun k hk => by rw [b4 k (by omega) (by omega) (by omega) (by omega) (by omega), uM_off _ _ _ (by omega), a5 k (by omega)]) b1 b2 b3 (a4.congr fun k _ _ => by rw [b4 k (by omega) (by omega) (by omega) (by omega) (by omega), uM_off _ _ _ (by omega)]) (fun k hk => by rw [n3 k (by omega) (by omega), uM_off _ _ _ (by omega), d4 k (by omega) (by omega)]) (fun k hk => by rw [n3 k (by omega) (by omega), uM_off _ _ _ (by omega), d4 k (by omega) (by omega)]) (fun i _ hi => by rw [n3 _ (by decide) (by decide), uM_off _ _ _ (by decide), d5 i hi]) n1 n2 (d3.congr (by rw [n3 _ (by decide) (by decide), uM_off _ _ _ (by decide)]) (by rw [n3 _ (by decide) (by decide), uM_off _ _ _ (by decide)])) (WFS_own (D := sDraw D v) h.2.2.1 (by omega)) (psD_ln false (sLo (sDraw D v) l 0 0) _ _).1
end LEND
