/-! ===== duels, the tape's end, what is told of people ===== -/
theorem tn_lt (x : Int32) : x.toBitVec.toNat < 4294967296 := x.toBitVec.isLt
theorem nI_tn (x : Int32) : nI x.toBitVec.toNat = x := by
  apply Int32.toBitVec_inj.mp
  show BitVec.ofNat 32 x.toBitVec.toNat = x.toBitVec
  exact BitVec.ofNat_toNat ..
section DUEL
variable {S : Mm} {P : PP} {D : DD} {T : TT} {W : Nat → Int32} {E : RE}
theorem lv_cases (h : RR S P D T W E) (x : Int32) : (f_X1_lives 1 x S = some (0, S) ∧ ∀ B, RB B P D → f_X11_isLiving x B = some (0, B)) ∨ ∃ a, x = nI a ∧ liv P D a = true ∧ a < pN P ∧ f_X1_lives 1 x S = some (1, S) ∧ ∀ B, RB B P D → f_X11_isLiving x B = some (1, B) := by
  have hN := h.wP.1
  rcases nI_cs x (n := pN P) (by omega) with hx | ⟨a, ha, rfl⟩
  · exact Or.inl ⟨C_lives0 h.K hx, fun B hB => F_isLiving0 hB.1 hx⟩
  · by_cases v : liv P D a = true
    · exact Or.inr ⟨a, rfl, v, ha, by rw [C_lives h.K hN ha, if_pos v], fun B hB => by rw [F_isLiving hB.1 hB.2.1 hN ha, if_pos v]⟩
    · exact Or.inl ⟨by rw [C_lives h.K hN ha, if_neg v], fun B hB => by rw [F_isLiving hB.1 hB.2.1 hN ha, if_neg v]⟩
theorem op_duel (x y z : Int32) (h : RR S P D T W E) : Good (f_X10_duel x y z) (f_X11_duel x y z) S := by
  have hN := h.wP.1
  have h0 := h.C.1
  have nopeC : ∀ A : Mm, (x = y ∨ f_X1_lives 1 x A = some (0, A) ∨ (f_X1_lives 1 x A = some (1, A) ∧ f_X1_lives 1 y A = some (0, A))) → f_X10_duel x y z A = some (-1, A) := fun A hc => by
    rcases nI_cs z (n := 28) (by omega) with hz | ⟨l, hl, rfl⟩
    · simp only [f_X10_duel, C_isLetter0 hz, Option.bind_some, if_true]
    · simp only [f_X10_duel, C_isLetter1 hl, Option.bind_some, i10, if_false]
      by_cases c : x = y
      · rw [if_pos c]
      · rw [if_neg c]
        rcases hc with hc | hc | ⟨hc, hd⟩
        · exact absurd hc c
        · rw [hc]; simp only [Option.bind_some, if_true]
        · rw [hc]; simp only [Option.bind_some, i10, if_false]
          rw [hd]; simp only [Option.bind_some, if_true]
  rcases lv_cases h x with ⟨u1, u2⟩ | ⟨a, rfl, va, ha, u1, u2⟩
  · refine good_id h (r := -1) (nopeC S (Or.inr (Or.inl u1))) ?_
    simp only [f_X11_duel, nm, uM_id h0, u2 S h.B, Option.bind_some, if_true]
  · rcases lv_cases h y with ⟨w1, w2⟩ | ⟨b, rfl, vb, hb, w1, w2⟩
    · refine good_id h (r := -1) (nopeC S (Or.inr (Or.inr ⟨u1, w1⟩))) ?_
      simp only [f_X11_duel, nm, uM_id h0, u2 S h.B, w2 S h.B, Option.bind_some, i10, if_false, if_true]
    · by_cases c : nI a = nI b
      · refine good_id h (r := -1) (nopeC S (Or.inl c)) ?_
        simp only [f_X11_duel, nm, uM_id h0, u2 S h.B, w2 S h.B, Option.bind_some, i10, if_false]
        rw [if_pos c]
      · rcases nI_cs z (n := 28) (by omega) with hz | ⟨l, hl, rfl⟩
        · refine good_id h (r := -1) ?_ ?_
          · simp only [f_X10_duel, C_isLetter0 hz, Option.bind_some, if_true]
          · simp only [f_X11_duel, nm, uM_id h0, u2 S h.B, w2 S h.B, Option.bind_some, i10, if_false, F_isLetter0 hz, if_true]
            rw [if_neg c]
        · have ko := (k1l h.K hl).1
          have cls : f_X10_duel (nI a) (nI b) (nI l) S = if eo (dOw D l) = nI a then f_X10_duel_64 (nI a) (nI b) (nI l) S else if eo (dOw D l) = nI b then f_X10_duel_64 (nI a) (nI b) (nI l) S else some (-1, S) := by
            simp only [f_X10_duel, C_isLetter1 hl, Option.bind_some, i10, if_false, u1, w1]
            rw [if_neg c, gd_t (by omega) (by omega), gd_t (by omega) (by omega), ix_nI (by omega), ko]
          have ref : ∀ B, RB B P D → B 239 0 = 0 → f_X11_duel (nI a) (nI b) (nI l) B = if eo (dOw D l) = nI a then f_X11_duel_56 (nI a) (nI b) (nI l) B else if eo (dOw D l) = nI b then f_X11_duel_56 (nI a) (nI b) (nI l) B else some (-1, B) := fun B hB hz => by
            simp only [f_X11_duel, nm, uM_id hz, u2 B hB, w2 B hB, Option.bind_some, i10, if_false, F_isLetter1 hl, F_ownerOf hB.2.1 hl]
            rw [if_neg c]
          by_cases c1 : eo (dOw D l) = nI a ∨ eo (dOw D l) = nI b
          · obtain ⟨r, S1, S2, e1, fr, e2, e3⟩ := duel_core h ha hb hl
            have hB1 : RB S1 P D := h.B.congr2 (by rw [fr _ (by omega)]) (by rw [fr _ (by omega)]) fun k _ _ _ _ _ => fr k (by omega)
            refine Good.ex (r := r) (S1 := S1) (S2 := S2) ?_ ?_ e3
            · rw [cls, e1]
              rcases c1 with c1 | c1
              · rw [if_pos c1]
              · rw [if_pos c1]; split <;> rfl
            · rw [ref S1 hB1 (by rw [fr _ (by omega)]; exact h0), e2]
              rcases c1 with c1 | c1
              · rw [if_pos c1]
              · rw [if_pos c1]; split <;> rfl
          · have d1 : ¬ eo (dOw D l) = nI a := fun e => c1 (Or.inl e)
            have d2 : ¬ eo (dOw D l) = nI b := fun e => c1 (Or.inr e)
            exact good_id h (r := -1) (by rw [cls, if_neg d1, if_neg d2]) (by rw [ref S h.B h0, if_neg d1, if_neg d2])
theorem RR.tape {S1 S2 : Mm} {a' : AA} (h : RR S P D T W E) (a0 : ∀ k, k ≠ 184 → k ≠ 185 → S1 k = S k) (ct : CT S1 a') (f0 : ∀ k, k ≠ 239 → k ≠ 250 → S2 k = S1 k) (f1 : ∀ i, ks i = true → i ≠ 16 → S2 239 i = S1 239 i) (ft : FT S2 a') (wa : WFA a') : RX S2 := by
  obtain ⟨⟨x1, x2, x3, x4⟩, ⟨y1, y2, y3, y4, y5⟩, z1, z2, z3, z4⟩ := h
  have e0 : ∀ i, ks i = true → i ≠ 16 → S2 239 i = S 239 i := fun i hi hj => by rw [f1 i hi hj, a0 239 (by decide) (by decide)]
  have eb : ∀ k, k ≠ 184 → k ≠ 185 → k ≠ 239 → k ≠ 250 → S2 k = S k := fun k p q r s => by rw [f0 k r s, a0 k p q]
  refine ⟨P, D, T, W, (E.1, E.2.1, a'), ⟨x1.congr fun k p q r s => eb k (by omega) (by omega) (by omega) (by omega), x2.congr fun k p q => eb k (by omega) (by omega) (by omega) (by omega), x3.congr (by rw [eb 0 (by decide) (by decide) (by decide) (by decide)]) fun k p q r s => eb k (by omega) (by omega) (by omega) (by omega), ct.congr (f0 _ (by decide) (by decide)) (f0 _ (by decide) (by decide))⟩, ⟨⟨y1.1.congr2 (e0 6 rfl (by decide)) (e0 12 rfl (by decide)) fun k p q r s t => eb k (by omega) (by omega) (by omega) (by omega), y1.2.1.congr (e0 40 rfl (by decide)) (e0 22 rfl (by decide)) fun k p q r => eb k (by omega) (by omega) (by omega) (by omega), fun i hi => by rw [eb 248 (by decide) (by decide) (by decide) (by decide)]; exact y1.2.2 i hi⟩, y2.congr (e0 3 rfl (by decide)) (eb _ (by decide) (by decide) (by decide) (by decide)), y3.congr (e0 51 rfl (by decide)) (eb _ (by decide) (by decide) (by decide) (by decide)), ft, ?_⟩, z1, z2, z3, wa⟩
  unfold FC at y5 ⊢
  rw [e0 0 rfl (by decide), e0 5 rfl (by decide), e0 47 rfl (by decide), eb 251 (by decide) (by decide) (by decide) (by decide)]
  exact y5
theorem op_end (x : Int32) (h : RR S P D T W E) : Good (f_X10_end x) (f_X11_end x) S := by
  have h0 := h.C.1
  obtain ⟨c1, c2, c3, c4⟩ := h.1.2.2.2
  obtain ⟨b1, b2, b3, b4⟩ := h.2.1.2.2.2.1
  obtain ⟨w1, w2⟩ := h.2.2.2.2.2
  rcases nI_cs x (n := E.2.2.1 + 1) (by omega) with hx | ⟨n, hn, rfl⟩
  · refine good_id h (r := 0) ?_ ?_
    · simp only [f_X10_end]
      by_cases k : x < 0
      · rw [if_pos k]
      · rw [if_neg k, c1, if_neg]
        rw [i32_nle]
        exact i32_lt_of_le ((nI_ltI (by omega) (by omega)).mpr (Nat.lt_succ_self _)) (hx.resolve_left k)
    · simp only [f_X11_end, nm, uM_id h0]
      rw [b1, F_isIn0]
      · rfl
      · refine hx.imp id fun k => ?_
        exact i32_lt_of_le ((nI_ltI (by omega) (by omega)).mpr (Nat.lt_succ_self _)) k
  · refine Good.ex (r := 1) (S1 := uM S 184 1 (nI n)) (S2 := uM (uM S 184 1 (nI n)) 239 16 (nI n)) ?_ ?_ ?_
    · simp only [f_X10_end, nm]
      rw [if_neg (nI_pos (by omega)), c1, if_pos (nI_ge_t (by omega) (by omega))]
    · simp only [f_X11_end, nm, uM_id (S := uM S 184 1 (nI n)) (show uM S 184 1 (nI n) 239 0 = 0 by rw [uM_off _ _ _ (by decide)]; exact h0)]
      rw [uM_off _ _ _ (by decide : (239 : Nat) ≠ 184), b1, F_isIn1 (nI_pos (by omega)) (by rw [nI_ltI (by omega) (by omega)]; omega)]
      simp only [Option.bind_some, i10, if_false]
    · refine h.tape (S1 := uM S 184 1 (nI n)) (a' := (n, E.2.2.2)) (fun k p q => uM_off _ _ _ p) ⟨uM_eq _ _ _ _, by rw [uM_ne _ _ _ (by decide)]; exact c2, by rw [uM_ne _ _ _ (by decide)]; exact c3, fun i hi => by rw [uM_off _ _ _ (by decide)]; exact c4 i (Nat.lt_of_lt_of_le hi (by omega))⟩ (fun k p q => uM_off _ _ _ p) (fun i _ hi => uM_ne _ _ _ hi) ⟨uM_eq _ _ _ _, by rw [uM_ne _ _ _ (by decide), uM_off _ _ _ (by decide)]; exact b2, by rw [uM_ne _ _ _ (by decide), uM_off _ _ _ (by decide)]; exact b3, fun i hi => by rw [uM_off _ _ _ (by decide), uM_off _ _ _ (by decide)]; exact b4 i (Nat.lt_of_lt_of_le hi (by omega))⟩ ⟨by show n ≤ 400; omega, fun i hi => w2 i (Nat.lt_of_lt_of_le hi (by omega))⟩
end DUEL
