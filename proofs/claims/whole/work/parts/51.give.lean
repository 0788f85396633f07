/-! ===== acts: what is so before is kept ===== -/
section ACT
variable {S : Mm} {P : PP} {D : DD} {T : TT} {W : Nat → Int32} {E : RE}
theorem act_C (h : RR S P D T W E) : ∃ A1, f_X2_keep_32 1 S = some A1 ∧ RK (fun j => A1 (1 + j)) P D ∧ A1 32 1 = nI (dLn D) ∧ (∀ i, i < 5 * dLn D → A1 33 i = W i) ∧ CH A1 P (pushH D E.1) ∧ ∀ k, k < 34 ∨ 165 ≤ k → A1 k = S k := by
  obtain ⟨A1, e, g1, g2⟩ := C_keep h.K h.wP.1 h.1.2.1 h.2.2.2.1.1 h.1.1.2.2.1
  exact ⟨A1, e, h.K.congr fun j hj => g2 _ (by omega), by rw [g2 _ (by omega)]; exact h.1.1.2.2.1, fun i hi => by rw [g2 _ (by omega)]; exact h.1.1.2.2.2 i hi, g1, g2⟩
theorem act_F (h : RR S P D T W E) {S1 : Mm} (e : ∀ k, 239 ≤ k → S1 k = S k) : (RB S1 P D ∧ RTF S1 T ∧ FC S1) ∧ ∃ B1, f_X11_keepsAhead S1 = some B1 ∧ RB B1 P D ∧ (∀ i, i < 5 * dLn D → B1 248 i = W i) ∧ FH B1 P (pushH D E.1) ∧ (∀ k, k ≠ 239 → k ≠ 241 → B1 k = S1 k) ∧ ∀ i, i ≠ 3 → B1 239 i = S1 239 i := by
  have hB : RB S1 P D := h.B.congr2 (by rw [e _ (by omega)]) (by rw [e _ (by omega)]) fun k _ _ _ _ _ => e k (by omega)
  obtain ⟨B1, u, v1, v2, v3⟩ := F_keep hB.2.1 h.wP.1 (h.2.1.2.1.congr (by rw [e _ (by omega)]) (e _ (by omega))) h.2.2.2.1.1
  exact ⟨⟨hB, h.TF.congr (by rw [e _ (by omega)]) (by rw [e _ (by omega)]) fun k _ _ _ => e k (by omega), h.C.congr (fun i _ => by rw [e _ (by omega)]) (e _ (by omega))⟩, B1, u, hB.congr2 (v3 _ (by decide)) (v3 _ (by decide)) fun k _ _ _ _ _ => v2 k (by omega) (by omega), fun i hi => by rw [v2 _ (by omega) (by omega), e _ (by omega)]; exact h.2.1.1.2.2 i hi, v1, v2, v3⟩
theorem RR.act2 {S1 S2 : Mm} {D' : DD} {W' : Nat → Int32} (h : RR S P D T W E)
    (a0 : ∀ k, k = 0 ∨ (17 ≤ k ∧ k < 32 ∧ k ≠ 23 ∧ k ≠ 24) ∨ k = 184 ∨ k = 185 ∨ (206 ≤ k ∧ k ≠ 228 ∧ k ≠ 229) → S1 k = S k)
    (k1 : RK (fun j => S1 (1 + j)) P D') (k2 : S1 32 1 = nI (dLn D')) (k3 : ∀ i, i < 5 * dLn D' → S1 33 i = W' i) (k4 : CH S1 P (pushH D E.1))
    (f0 : ∀ k, k < 239 → S2 k = S1 k) (b0 : ∀ k, k = 250 ∨ k = 251 ∨ (252 ≤ k ∧ k < 265 ∧ k ≠ 257) ∨ k = 269 → S2 k = S1 k) (b1 : ∀ i, ks i = true → i ≠ 3 → S2 239 i = S1 239 i)
    (r1 : RB S2 P D') (r2 : ∀ i, i < 5 * dLn D' → S2 248 i = W' i) (r3 : FH S2 P (pushH D E.1)) (w : WFS P D' T) (ln : dLn D ≤ dLn D') : RX S2 :=
  h.act a0 k1 k2 k3 k4 f0 (fun k hk => b0 k (by omega)) (fun i hi => b1 i hi.1 hi.2.1) (b0 _ (by omega)) r1 r2 r3 w (WFH_push h.2.2.2.1 h.wD h.R h.2.2.1.2.2.2.2.2 ln)
theorem go_cases (h : RR S P D T W E) (x y : Int32) : (f_X10_mayHandOver x y S = some (0, S) ∧ ∀ B, RB B P D → f_X11_canGo x y B = some (0, B)) ∨ ∃ l t o, x = nI l ∧ y = nI t ∧ l < 28 ∧ liv P D t = true ∧ dOw D l = o + 1 ∧ o ≠ t ∧ liv P D o = true ∧ dLo D l = 0 ∧ f_X10_mayHandOver x y S = some (1, S) ∧ ∀ B, RB B P D → f_X11_canGo x y B = some (1, B) := by
  have hN := h.wP.1
  rcases nI_cs x (n := 28) (by omega) with hx | ⟨l, hl, rfl⟩
  · refine Or.inl ⟨?_, fun B hB => ?_⟩
    · simp only [f_X10_mayHandOver, C_isLetter0 hx, Option.bind_some, if_true]
    · simp only [f_X11_canGo, F_isLetter0 hx, Option.bind_some, if_true]
  · have dead : f_X1_lives 1 y S = some (0, S) → (∀ B, RB B P D → f_X11_isLiving y B = some (0, B)) → f_X10_mayHandOver (nI l) y S = some (0, S) ∧ ∀ B, RB B P D → f_X11_canGo (nI l) y B = some (0, B) := fun u1 u2 => by
      refine ⟨?_, fun B hB => ?_⟩
      · simp only [f_X10_mayHandOver, C_isLetter1 hl, Option.bind_some, i10, if_false]
        rw [u1]
        simp only [Option.bind_some, if_true]
      · simp only [f_X11_canGo, F_isLetter1 hl, Option.bind_some, i10, if_false]
        rw [u2 B hB]
        simp only [Option.bind_some, if_true]
    rcases nI_cs y (n := pN P) (by omega) with hy | ⟨t, ht, rfl⟩
    · exact Or.inl (dead (C_lives0 h.K hy) fun B hB => F_isLiving0 hB.1 hy)
    · by_cases v : liv P D t = true
      · have ko := (k1l h.K hl).1
        have kl := (k1l h.K hl).2.1
        have w := h.wD.1 l hl
        have cls : f_X10_mayHandOver (nI l) (nI t) S = if eo (dOw D l) = nI t then some (0, S) else (f_X1_lives 1 (eo (dOw D l)) S).bind fun q => if q.1 = 0 then some (0, q.2) else gd (inB (nI l) 28 = true) <| if q.2 12 (ix (nI l)) = -1 then some (1, q.2) else some (0, q.2) := by
          simp only [f_X10_mayHandOver, f_X10_mayHandOver_63, C_isLetter1 hl, C_lives h.K hN ht, v, if_true, Option.bind_some, i10, if_false, nm]
          rw [gd_t (by omega) (by omega), ix_nI (by omega), ko]
        have ref : ∀ B, RB B P D → f_X11_canGo (nI l) (nI t) B = if dLo D l = 0 then (if dOw D l = 0 then some (0, B) else if eo (dOw D l) = nI t then some (0, B) else if liv P D (dOw D l - 1) = true then some (1, B) else some (0, B)) else some (0, B) := fun B hB => by
          simp only [f_X11_canGo, f_X11_canGo_55, F_isLetter1 hl, F_isLiving hB.1 hB.2.1 hN ht, v, if_true, Option.bind_some, i10, if_false, F_borrowerOf hB.2.1 hl, F_ownerOf hB.2.1 hl]
          by_cases c0 : dLo D l = 0
          · rw [if_pos ((eo_m1 (by omega)).mpr c0), if_pos c0]
            by_cases c1 : dOw D l = 0
            · rw [if_pos ((eo_m1 (by omega)).mpr c1), if_pos c1]
            · rw [if_neg (by rw [eo_m1 (by omega)]; exact c1), if_neg c1]
              by_cases c2 : eo (dOw D l) = nI t
              · rw [if_pos c2, if_pos c2]
              · rw [if_neg c2, if_neg c2, show eo (dOw D l) = nI (dOw D l - 1) from (eo_nI (by omega) (by omega)).mpr (by omega), F_doesLive hB.2.1 hN (by omega)]
                cases liv P D (dOw D l - 1) <;> rfl
          · rw [if_neg (by rw [eo_m1 (by omega)]; exact c0), if_neg c0]
        by_cases c2 : eo (dOw D l) = nI t
        · refine Or.inl ⟨by rw [cls, if_pos c2], fun B hB => ?_⟩
          rw [ref B hB, if_pos c2]
          split <;> (try split) <;> rfl
        · by_cases c1 : dOw D l = 0
          · refine Or.inl ⟨?_, fun B hB => by rw [ref B hB, if_pos c1]; split <;> rfl⟩
            rw [cls, if_neg c2, c1, eo_0, C_lives0 h.K (Or.inl (by decide))]
            rfl
          · have eo' : eo (dOw D l) = nI (dOw D l - 1) := (eo_nI (by omega) (by omega)).mpr (by omega)
            have hl1 : f_X1_lives 1 (eo (dOw D l)) S = some (if liv P D (dOw D l - 1) = true then 1 else 0, S) := by rw [eo', C_lives h.K hN (by omega)]
            rw [hl1] at cls
            simp only [Option.bind_some] at cls
            rw [gd_t (by omega) (by omega), ix_nI (by omega), kl, if_neg c2] at cls
            by_cases c3 : liv P D (dOw D l - 1) = true
            · rw [if_pos c3, if_neg (by decide)] at cls
              by_cases c0 : dLo D l = 0
              · refine Or.inr ⟨l, t, dOw D l - 1, rfl, rfl, hl, v, by omega, fun e => c2 ?_, c3, c0, ?_, fun B hB => ?_⟩
                · rw [eo', e]
                · rw [cls, if_pos ((eo_m1 (by omega)).mpr c0)]
                · rw [ref B hB, if_pos c0, if_neg c1, if_neg c2, if_pos c3]
              · refine Or.inl ⟨?_, fun B hB => by rw [ref B hB, if_neg c0]⟩
                rw [cls, if_neg (by rw [eo_m1 (by omega)]; exact c0)]
            · refine Or.inl ⟨?_, fun B hB => ?_⟩
              · rw [cls, if_neg c3, if_pos rfl]
              · rw [ref B hB, if_neg c1, if_neg c2, if_neg c3]; split <;> rfl
      · exact Or.inl (dead (by rw [C_lives h.K hN ht, if_neg v]) fun B hB => by rw [F_isLiving hB.1 hB.2.1 hN ht, if_neg v])
theorem op_give (x y : Int32) (h : RR S P D T W E) : Good (f_X10_give x y) (f_X11_give x y) S := by
  have hN := h.wP.1
  have h0 := h.C.1
  rcases go_cases h x y with ⟨g1, g2⟩ | ⟨l, t, o, rfl, rfl, hl, v, c1, c2, c3, c4, g1, g2⟩
  · refine good_id h (r := 0) ?_ ?_
    · simp only [f_X10_give, g1, Option.bind_some, if_true]
    · simp only [f_X11_give, nm, uM_id h0, g2 S h.B, Option.bind_some, if_true]
  · have ht := liv_lt v
    have hL := h.R.1.2
    obtain ⟨A1, e1, a1, a2, a3, a4, a5⟩ := act_C h
    obtain ⟨S1, e2, b1, b2, b3, b4⟩ := C_pass (o := t + 1) a1 (fun l hl => (h.wD.1 l hl).1) hN hL a2 a3 hl (by omega) 1
    have fr : ∀ k, 239 ≤ k → S1 k = S k := fun k hk => by rw [b4 k (by omega) (by omega) (by omega), a5 k (by omega)]
    obtain ⟨⟨hB, _, hC⟩, B1, u1, d1, d2, d3, d4, d5⟩ := act_F h fr
    obtain ⟨S2, u2, m1, m2, m3⟩ := F_comesTo (th := false) (o := t + 1) d1.2.1 (by rw [d5 _ (by decide)]; exact hC.2.1) (fun l hl => (h.wD.1 l hl).1) hN hL d2 hl (by omega) 1
    refine Good.ex (r := 1) (S1 := S1) (S2 := S2) ?_ ?_ ?_
    · simp only [f_X10_give, g1, Option.bind_some, i10, if_false, e1]
      rw [show nI t = eo (t + 1) from (eo_s t).symm, e2]
      rfl
    · simp only [f_X11_give, nm, uM_id hC.1, g2 S1 hB, Option.bind_some, i10, if_false, u1]
      rw [show nI t = eo (t + 1) from (eo_s t).symm, u2]
      rfl
    · refine h.act2 (D' := psD false D l (t + 1)) (W' := psW false D W l (t + 1) 1) (fun k hk => by rw [b4 k (by omega) (by omega) (by omega), a5 k (by omega)]) b1 b2 b3 (a4.congr fun k _ _ => b4 k (by omega) (by omega) (by omega)) (fun k hk => by rw [m3 k (by omega) (by omega), d4 k (by omega) (by omega)]) (fun k hk => by rw [m3 k (by omega) (by omega), d4 k (by omega) (by omega)]) (fun i _ hi => by rw [m3 _ (by decide) (by decide), d5 i hi]) (d1.upd m1 (psD_sp _ _ _ _) (by rw [m3 _ (by decide) (by decide)]) (by rw [m3 _ (by decide) (by decide)]) fun k _ _ _ => m3 k (by omega) (by omega)) m2 (d3.congr (by rw [m3 _ (by decide) (by decide)]) (m3 _ (by decide) (by decide))) ?_ (psD_ln _ _ _ _).1
      obtain ⟨w1, w2, w3, w4, w5, w6⟩ := h.2.2.1
      exact ⟨w1, w2, WFD_ps w3 (by omega), WFR_ps w4, w5, WFU_ps w6⟩
end ACT
