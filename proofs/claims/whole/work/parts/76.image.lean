/-! ===== the image: taken, gone back to ===== -/
def tpB (j i : Nat) : Bool := decide ((j = 0 ∧ i = 5) ∨ (j = 1 ∧ i = 2) ∨ (j = 2 ∧ i < 400) ∨ (3 ≤ j ∧ j ≤ 5 ∧ i < 16) ∨ (j = 8 ∧ i < 12) ∨ (9 ≤ j ∧ j ≤ 11 ∧ i < 144) ∨ (j = 12 ∧ i < 320) ∨ (13 ≤ j ∧ j ≤ 14 ∧ i < 8))
theorem tpB_t {j i : Nat} (h : (j = 0 ∧ i = 5) ∨ (j = 1 ∧ i = 2) ∨ (j = 2 ∧ i < 400) ∨ (3 ≤ j ∧ j ≤ 5 ∧ i < 16) ∨ (j = 8 ∧ i < 12) ∨ (9 ≤ j ∧ j ≤ 11 ∧ i < 144) ∨ (j = 12 ∧ i < 320) ∨ (13 ≤ j ∧ j ≤ 14 ∧ i < 8)) : tpB j i = true := decide_eq_true h
theorem RTK.cong2 {K K' : Mm} {T : TT} {N : Nat} (h : RTK K T) (hw : WFT N T) (e : ∀ j i, tpB j i = true → K' j i = K j i) : RTK K' T := by
  obtain ⟨⟨h1, h2⟩, h3, h4, h5, h6⟩ := h
  obtain ⟨⟨w1, w2, w3⟩, -, w5, w6⟩ := hw
  refine ⟨⟨by rw [e 0 5 rfl]; exact h1, by rw [e 1 2 rfl]; exact h2⟩, fun k hk => ?_, fun i hi => ?_, fun q hq => ⟨?_, fun k hk => ?_⟩, fun d hd => ⟨?_, ?_, fun i hi => ?_⟩⟩
  · rw [e 3 k (tpB_t (by omega)), e 4 k (tpB_t (by omega)), e 5 k (tpB_t (by omega))]; exact h3 k hk
  · rw [e 2 i (tpB_t (by omega))]; exact h4 i hi
  · rw [e 8 q (tpB_t (by omega))]; exact (h5 q hq).1
  · have := (w5 q hq).1
    rw [e 9 _ (tpB_t (by omega)), e 10 _ (tpB_t (by omega)), e 11 _ (tpB_t (by omega))]; exact (h5 q hq).2 k hk
  · rw [e 13 d (tpB_t (by omega))]; exact (h6 d hd).1
  · rw [e 14 d (tpB_t (by omega))]; exact (h6 d hd).2.1
  · have := (w6 d hd).1
    rw [e 12 _ (tpB_t (by omega))]; exact (h6 d hd).2.2 i hi
theorem RTF.congI {B B' : Mm} {T : TT} {N : Nat} (h : RTF B T) (hw : WFT N T) (e : ∀ n, n < 2840 → B' (imC n).1 (imC n).2 = B (imC n).1 (imC n).2) : RTF B' T := by
  obtain ⟨⟨h1, h2⟩, h3, h4, h5, h6⟩ := h
  obtain ⟨⟨w1, w2, w3⟩, -, w5, w6⟩ := hw
  have ee : ∀ {n c i : Nat}, imC n = (c, i) → n < 2840 → B' c i = B c i := fun {n c i} z hn => by
    have := e n hn
    rw [z] at this
    exact this
  refine ⟨⟨by rw [ee im_40 (by omega)]; exact h1, by rw [ee im_22 (by omega)]; exact h2⟩, fun k hk => ?_, fun i hi => ?_, fun q hq => ⟨?_, fun k hk => ?_⟩, fun d hd => ⟨?_, ?_, fun i hi => ?_⟩⟩
  · rw [ee (im_253 (i := k) (by omega)) (by omega), ee (im_252 (i := k) (by omega)) (by omega), ee (im_254 (i := k) (by omega)) (by omega)]; exact h3 k hk
  · rw [ee (im_255 (i := i) (by omega)) (by omega), ee (im_256 (i := i) (by omega)) (by omega)]; exact h4 i hi
  · rw [ee (im_258 (i := q) (by omega)) (by omega)]; exact (h5 q hq).1
  · have := (w5 q hq).1
    rw [ee (im_259 (i := 12 * q + k) (by omega)) (by omega), ee (im_260 (i := 12 * q + k) (by omega)) (by omega), ee (im_261 (i := 12 * q + k) (by omega)) (by omega)]; exact (h5 q hq).2 k hk
  · rw [ee (im_262 (i := d) (by omega)) (by omega)]; exact (h6 d hd).1
  · rw [ee (im_263 (i := d) (by omega)) (by omega)]; exact (h6 d hd).2.1
  · have := (w6 d hd).1
    rw [ee (im_264 (i := 40 * d + i) (by omega)) (by omega)]; exact (h6 d hd).2.2 i hi
theorem RS.congI {B B' : Mm} {P : PP} (h : RS B P) (hN : pN P ≤ 12) (e : ∀ n, n < 2840 → B' (imC n).1 (imC n).2 = B (imC n).1 (imC n).2) : RS B' P := by
  have ee : ∀ {n c i : Nat}, imC n = (c, i) → n < 2840 → B' c i = B c i := fun {n c i} z hn => by
    have := e n hn
    rw [z] at this
    exact this
  obtain ⟨⟨h1, h2⟩, h3⟩ := h
  refine ⟨⟨by rw [ee im_6 (by omega)]; exact h1, by rw [ee im_12 (by omega)]; exact h2⟩, fun q hq => ?_⟩
  rw [ee (im_243 (i := q) (by omega)) (by omega), ee (im_244 (i := q) (by omega)) (by omega), ee (im_245 (i := q) (by omega)) (by omega), ee (im_246 (i := q) (by omega)) (by omega), ee (im_247 (i := q) (by omega)) (by omega)]
  exact h3 q hq
theorem C_texts_17 {A : Mm} : ∃ A', f_X6_become_17_222 A = some A' ∧ (∀ j i, tpB j i = true → A' (17 + j) i = A (222 + j) i) ∧ ∀ k, k < 17 ∨ 32 ≤ k → A' k = A k := by
  unfold f_X6_become_17_222 f_X3_become_18_223
  simp only [nm, Option.bind_some]
  simp (disch := omega) only [uM_off, rM_off]
  refine ⟨_, rfl, fun j i h => ?_, fun k hk => ?_⟩
  · have h := of_decide_eq_true h
    have hj : j = 0 ∨ j = 1 ∨ j = 2 ∨ j = 3 ∨ j = 4 ∨ j = 5 ∨ j = 8 ∨ j = 9 ∨ j = 10 ∨ j = 11 ∨ j = 12 ∨ j = 13 ∨ j = 14 := by omega
    rcases hj with rfl | rfl | rfl | rfl | rfl | rfl | rfl | rfl | rfl | rfl | rfl | rfl | rfl
    · have hi : i = 5 := by omega
      subst hi
      simp (disch := omega) only [rM_off, uM_off, Nat.add_zero, uM_eq]
    · have hi : i = 2 := by omega
      subst hi
      simp (disch := omega) only [rM_off, uM_off, uM_eq]
    all_goals
      simp (disch := omega) only [rM_off, uM_off, rM_same]
      exact cpy_at _ _ (by omega)
  · simp (disch := omega) only [rM_off, uM_off]
theorem C_texts_222 {A : Mm} : ∃ A', f_X6_become_222_17 A = some A' ∧ (∀ j i, tpB j i = true → A' (222 + j) i = A (17 + j) i) ∧ ∀ k, k < 222 ∨ 237 ≤ k → A' k = A k := by
  unfold f_X6_become_222_17 f_X3_become_223_18
  simp only [nm, Option.bind_some]
  simp (disch := omega) only [uM_off, rM_off]
  refine ⟨_, rfl, fun j i h => ?_, fun k hk => ?_⟩
  · have h := of_decide_eq_true h
    have hj : j = 0 ∨ j = 1 ∨ j = 2 ∨ j = 3 ∨ j = 4 ∨ j = 5 ∨ j = 8 ∨ j = 9 ∨ j = 10 ∨ j = 11 ∨ j = 12 ∨ j = 13 ∨ j = 14 := by omega
    rcases hj with rfl | rfl | rfl | rfl | rfl | rfl | rfl | rfl | rfl | rfl | rfl | rfl | rfl
    · have hi : i = 5 := by omega
      subst hi
      simp (disch := omega) only [rM_off, uM_off, Nat.add_zero, uM_eq]
    · have hi : i = 2 := by omega
      subst hi
      simp (disch := omega) only [rM_off, uM_off, uM_eq]
    all_goals
      simp (disch := omega) only [rM_off, uM_off, rM_same]
      exact cpy_at _ _ (by omega)
  · simp (disch := omega) only [rM_off, uM_off]
theorem C_book_32 {A : Mm} : ∃ A', f_X0_become_32_237 A = some A' ∧ A' 32 1 = A 237 1 ∧ (∀ i, i < 1000 → A' 33 i = A 238 i) ∧ ∀ k, k ≠ 32 → k ≠ 33 → A' k = A k := by
  unfold f_X0_become_32_237
  simp only [nm]
  refine ⟨_, rfl, ?_, fun i hi => ?_, fun k a b => ?_⟩
  · rw [rM_off _ _ (by decide), uM_eq]
  · rw [rM_same, cpy_at _ _ hi, uM_off _ _ _ (by decide)]
  · rw [rM_off _ _ b, uM_off _ _ _ a]
theorem C_book_237 {A : Mm} : ∃ A', f_X0_become_237_32 A = some A' ∧ A' 237 1 = A 32 1 ∧ (∀ i, i < 1000 → A' 238 i = A 33 i) ∧ ∀ k, k ≠ 237 → k ≠ 238 → A' k = A k := by
  unfold f_X0_become_237_32
  simp only [nm]
  refine ⟨_, rfl, ?_, fun i hi => ?_, fun k a b => ?_⟩
  · rw [rM_off _ _ (by decide), uM_eq]
  · rw [rM_same, cpy_at _ _ hi, uM_off _ _ _ (by decide)]
  · rw [rM_off _ _ b, uM_off _ _ _ a]
section IMAGE
variable {S : Mm} {P : PP} {D : DD} {T : TT} {W : Nat → Int32} {E : RE}
theorem FI_wk {S0 S' : Mm} (h : Wk true S0 2840 S') : ∀ n, n < 2840 → S' 269 n = S0 (imC n).1 (imC n).2 := by
  obtain ⟨-, -, h⟩ := h
  rw [if_pos rfl] at h
  exact h.2
theorem op_take (h : RR S P D T W E) : Good (f_X10_image 1) (f_X11_image 1) S := by
  have hN := h.wP.1
  obtain ⟨A1, e1, g1, g2⟩ := C_become (A := S) (c0 := 206) (c1 := 1) (Or.inr (by omega))
  obtain ⟨A2, e2, g3, g4⟩ := C_texts_222 (A := A1)
  obtain ⟨A3, e3, g5, g6, g7⟩ := C_book_237 (A := A2)
  obtain ⟨A4, hA4⟩ : ∃ A4, A4 = uM A3 0 11 1 := ⟨_, rfl⟩
  have fr : ∀ k, k ≠ 0 → k < 206 ∨ 239 ≤ k → A4 k = S k := fun k a b => by rw [hA4, uM_off _ _ _ a, g7 k (by omega) (by omega), g4 k (by omega), g2 k (by omega)]
  have m32 : A2 32 1 = nI (dLn D) := by rw [g4 _ (by omega), g2 _ (by omega)]; exact h.1.1.2.2.1
  have ci : CI A4 (1, P, D, T, W) := by
    refine ⟨by rw [hA4, uM_eq]; rfl, fun _ => ⟨?_, ?_, ?_, fun i hi => ?_⟩⟩
    · refine h.K.cong2 hN fun j i hji => ?_
      have hj := of_decide_eq_true hji
      rw [hA4, uM_off _ _ _ (by omega), g7 _ (by omega) (by omega), g4 _ (by omega)]
      exact g1 j i hji
    · refine h.TK.cong2 h.wT fun j i hji => ?_
      have hj := of_decide_eq_true hji
      rw [hA4, uM_off _ _ _ (by omega), g7 _ (by omega) (by omega), g3 j i hji, g2 _ (by omega)]
    · rw [hA4, uM_off _ _ _ (by decide), g5]; exact m32
    · have hl := h.R.1.2
      have hi : i < 5 * dLn D := hi
      rw [hA4, uM_off _ _ _ (by decide), g6 i (by omega), g4 _ (by omega), g2 _ (by omega)]
      exact h.1.1.2.2.2 i hi
  -- the reference
  obtain ⟨B0, hB0⟩ : ∃ B0, B0 = uM (uM (uM A4 239 50 1) 239 51 1) 239 52 0 := ⟨_, rfl⟩
  have b0 : ∀ k, k ≠ 239 → B0 k = A4 k := fun k a => by rw [hB0, uM_off _ _ _ a, uM_off _ _ _ a, uM_off _ _ _ a]
  have b1 : ∀ i, i ≠ 50 → i ≠ 51 → i ≠ 52 → B0 239 i = A4 239 i := fun i a b c => by rw [hB0, uM_ne _ _ _ c, uM_ne _ _ _ b, uM_ne _ _ _ a]
  have b51 : B0 239 51 = 1 := by rw [hB0, uM_ne _ _ _ (by decide), uM_eq]
  have w0 : Wk true B0 0 B0 := by
    refine ⟨by rw [hB0, uM_eq]; rfl, by rw [hB0, uM_ne _ _ _ (by decide), uM_ne _ _ _ (by decide), uM_eq]; rfl, ?_⟩
    rw [if_pos rfl]
    exact ⟨fun _ _ _ _ => rfl, fun j hj => absurd hj (by omega)⟩
  obtain ⟨B1, e4, w1⟩ := wk_all 1 w0
  have w2 := w1.2.2
  rw [if_pos rfl] at w2
  obtain ⟨w2, w3⟩ := w2
  have c0 : ∀ k, k ≠ 239 → k ≠ 269 → B1 k = B0 k := fun k a b => funext fun i => w2 k i b (fun e => a e.1)
  have c1 : ∀ i, i ≠ 52 → B1 239 i = B0 239 i := fun i hi => w2 239 i (by decide) (fun e => hi e.2)
  have d0 : ∀ k, k ≠ 239 → k ≠ 269 → k ≠ 0 → k < 206 ∨ 239 ≤ k → B1 k = S k := fun k a b c d => by rw [c0 k a b, b0 k a, fr k c d]
  have d1 : ∀ i, i ≠ 50 → i ≠ 51 → i ≠ 52 → B1 239 i = S 239 i := fun i a b c => by rw [c1 i c, b1 i a b c, fr _ (by decide) (by decide)]
  have rB0 : RB B0 P D := h.B.congr2 (by rw [b1 _ (by decide) (by decide) (by decide), fr _ (by decide) (by decide)]) (by rw [b1 _ (by decide) (by decide) (by decide), fr _ (by decide) (by decide)]) fun k _ _ _ _ _ => by rw [b0 k (by omega), fr k (by omega) (by omega)]
  have rT0 : RTF B0 T := h.TF.congr (by rw [b1 _ (by decide) (by decide) (by decide), fr _ (by decide) (by decide)]) (by rw [b1 _ (by decide) (by decide) (by decide), fr _ (by decide) (by decide)]) fun k _ _ _ => by rw [b0 k (by omega), fr k (by omega) (by omega)]
  have rB1 : RB B1 P D := rB0.congr2 (c1 _ (by decide)) (c1 _ (by decide)) fun k _ _ _ _ _ => c0 k (by omega) (by omega)
  obtain ⟨B2, e5, v1, v2⟩ := F_kinNew rB1.1 rB1.2.1 h.wP h.wD
  have fi : FI B2 (1, P, D, T, W) := by
    refine ⟨by rw [v2 _ (by decide), c1 _ (by decide), b51]; rfl, fun _ => ⟨B0, rB0.1, rB0.2.1, rT0, fun i hi => ?_, fun k hk => ?_⟩⟩
    · rw [b0 _ (by decide), fr _ (by decide) (by decide)]
      exact h.2.1.1.2.2 i hi
    · rw [v2 _ (by decide)]
      exact w3 k hk
  have s0 : ∀ k, k < 239 → B2 k = A4 k := fun k hk => by rw [v2 k (by omega), c0 k (by omega) (by omega), b0 k (by omega)]
  have sf : ∀ k, k ≠ 239 → k ≠ 249 → k ≠ 269 → k ≠ 0 → k < 206 ∨ 239 ≤ k → B2 k = S k := fun k a b c d e => by rw [v2 k b, d0 k a c d e]
  have si : ∀ i, i ≠ 50 → i ≠ 51 → i ≠ 52 → B2 239 i = S 239 i := fun i a b c => by rw [v2 _ (by decide), d1 i a b c]
  have sk : ∀ i, ks i = true → i ≠ 51 → B2 239 i = S 239 i := fun i hi a => si i (fun e => by rw [e] at hi; cases hi) a (fun e => by rw [e] at hi; cases hi)
  refine ⟨1, A4, B2, ?_, ?_, P, D, T, W, (E.1, (1, P, D, T, W), E.2.2), ?_⟩
  · unfold f_X10_image
    rw [if_neg (by decide), e1]
    simp only [bind_x]
    rw [e2]
    simp only [bind_x]
    rw [e3]
    simp only [bind_x, nm_x]
    rw [hA4]
  · unfold f_X11_image f_X11_image_18
    rw [nm_x, uM_id (show A4 239 0 = 0 by rw [fr _ (by decide) (by decide)]; exact h.C.1), if_neg (by decide), gd_pos (Or.inr rfl), nm_x, nm_x, nm_x, ← hB0, e4, e5]
    simp only [bind_x]
    rw [if_neg (by decide)]
  · obtain ⟨⟨x1, x2, x3, x4⟩, ⟨f1, f2, f3, f4, f5⟩, y1, y2, y3, y4⟩ := h
    refine ⟨⟨x1.congr fun k a b _ _ => ?_, x2.congr fun k a b => ?_, ci.congr (by rw [s0 _ (by decide)]) fun k a b _ _ => s0 k (by omega), x4.congr ?_ ?_⟩, ⟨⟨v1, f1.2.1.congr (sk _ rfl (by decide)) (sk _ rfl (by decide)) fun k a b c => sf k (by omega) (by omega) (by omega) (by omega) (by omega), fun i hi => ?_⟩, f2.congr (sk _ rfl (by decide)) (sf _ (by decide) (by decide) (by decide) (by decide) (by decide)), fi, ?_, ?_⟩, y1, y2, ⟨Nat.le_refl _, fun _ => y1⟩, y4⟩
    · exact sf k (by omega) (by omega) (by omega) (by omega) (by omega)
    · exact sf k (by omega) (by omega) (by omega) (by omega) (by omega)
    · exact sf _ (by decide) (by decide) (by decide) (by decide) (by decide)
    · exact sf _ (by decide) (by decide) (by decide) (by decide) (by decide)
    · rw [sf 248 (by decide) (by decide) (by decide) (by decide) (by decide)]; exact f1.2.2 i hi
    · unfold FT at f4 ⊢
      rw [sk 16 rfl (by decide), sk 34 rfl (by decide), sk 35 rfl (by decide), sf 250 (by decide) (by decide) (by decide) (by decide) (by decide)]
      exact f4
    · unfold FC at f5 ⊢
      rw [sk 0 rfl (by decide), sk 5 rfl (by decide), sk 47 rfl (by decide), sf 251 (by decide) (by decide) (by decide) (by decide) (by decide)]
      exact f5
theorem op_back (h : RR S P D T W E) : Good (f_X10_image 0) (f_X11_image 0) S := by
  have h0 := h.C.1
  have i1 : S 0 11 = nI E.2.1.1 := h.1.2.2.1.1
  have i2 : S 239 51 = nI E.2.1.1 := h.2.1.2.2.1.1
  have i3 := h.2.2.2.2.1.1
  by_cases c : E.2.1.1 = 0
  · refine good_id h (r := 0) ?_ ?_
    · unfold f_X10_image
      rw [if_pos rfl, i1, c, if_pos (show nI 0 = 0 from rfl)]
    · unfold f_X11_image
      rw [nm_x, uM_id h0, if_pos rfl, i2, c, if_pos (show nI 0 = 0 from rfl)]
  obtain ⟨P', D', T', W', hI⟩ : ∃ P' D' T' W', E.2.1 = (1, P', D', T', W') := by
    refine ⟨E.2.1.2.1, E.2.1.2.2.1, E.2.1.2.2.2.1, E.2.1.2.2.2.2, ?_⟩
    have : E.2.1.1 = 1 := by omega
    rw [← this]
  have hci := h.1.2.2.1
  have hfi := h.2.1.2.2.1
  have hwi := h.2.2.2.2.1
  rw [hI] at hci hfi hwi i1 i2
  obtain ⟨-, q⟩ := hci
  obtain ⟨q1, q2, q3, q4⟩ := q (show (1 : Nat) ≠ 0 by decide)
  obtain ⟨-, q⟩ := hfi
  obtain ⟨M, m1, m2, m3, m4, m5⟩ := q (show (1 : Nat) ≠ 0 by decide)
  have wS : WFS P' D' T' := hwi.2 (show (1 : Nat) ≠ 0 by decide)
  have m1 : RS M P' := m1
  have m2 : RW (M 240) P' D' := m2
  have m3 : RTF M T' := m3
  have m4 : ∀ i, i < 5 * dLn D' → M 248 i = W' i := m4
  have q1 : RK (fun j => S (206 + j)) P' D' := q1
  have q2 : RTK (fun j => S (222 + j)) T' := q2
  have q3 : S 237 1 = nI (dLn D') := q3
  have q4 : ∀ i, i < 5 * dLn D' → S 238 i = W' i := q4
  obtain ⟨wP, wK, wD, wR, wT, wU⟩ := wS
  have hN := wP.1
  have hl := wR.1.2
  obtain ⟨A1, e1, g1, g2⟩ := C_become (A := S) (c0 := 1) (c1 := 206) (Or.inl (by omega))
  obtain ⟨A2, e2, g3, g4⟩ := C_texts_17 (A := A1)
  obtain ⟨A3, e3, g5, g6, g7⟩ := C_book_32 (A := A2)
  obtain ⟨A4, hA4⟩ : ∃ A4, A4 = uM A3 34 3 0 := ⟨_, rfl⟩
  have fr : ∀ k, k ≠ 34 → k < 1 ∨ 34 ≤ k → A4 k = S k := fun k a b => by rw [hA4, uM_off _ _ _ a, g7 k (by omega) (by omega), g4 k (by omega), g2 k (by omega)]
  have ca : CA A4 P' D' T' W' := by
    refine ⟨?_, ?_, ?_, fun i hi => ?_⟩
    · refine q1.cong2 hN fun j i hji => ?_
      have hj := of_decide_eq_true hji
      rw [hA4, uM_off _ _ _ (by omega), g7 _ (by omega) (by omega), g4 _ (by omega)]
      exact g1 j i hji
    · refine q2.cong2 wT fun j i hji => ?_
      have hj := of_decide_eq_true hji
      rw [hA4, uM_off _ _ _ (by omega), g7 _ (by omega) (by omega), g3 j i hji, g2 _ (by omega)]
    · rw [hA4, uM_off _ _ _ (by decide), g5, g4 _ (by omega), g2 _ (by omega)]; exact q3
    · rw [hA4, uM_off _ _ _ (by decide), g6 i (by omega), g4 _ (by omega), g2 _ (by omega)]
      exact q4 i hi
  have ch : CH A4 P' (0, E.1.2) := by
    obtain ⟨-, n, hn, h2, -⟩ := h.1.2.1
    refine ⟨by rw [hA4, uM_eq]; rfl, n, hn, ?_, fun j hj => absurd hj (Nat.not_lt_zero j)⟩
    rw [hA4, uM_ne _ _ _ (by decide), g7 _ (by decide) (by decide), g4 _ (by omega), g2 _ (by omega)]
    exact h2
  -- the reference
  obtain ⟨B0, hB0⟩ : ∃ B0, B0 = uM (uM (uM A4 239 50 0) 239 51 1) 239 52 0 := ⟨_, rfl⟩
  have b0 : ∀ k, k ≠ 239 → B0 k = A4 k := fun k a => by rw [hB0, uM_off _ _ _ a, uM_off _ _ _ a, uM_off _ _ _ a]
  have b1 : ∀ i, i ≠ 50 → i ≠ 51 → i ≠ 52 → B0 239 i = A4 239 i := fun i a b c => by rw [hB0, uM_ne _ _ _ c, uM_ne _ _ _ b, uM_ne _ _ _ a]
  have b51 : B0 239 51 = 1 := by rw [hB0, uM_ne _ _ _ (by decide), uM_eq]
  have w0 : Wk false B0 0 B0 := by
    refine ⟨by rw [hB0, uM_eq]; rfl, by rw [hB0, uM_ne _ _ _ (by decide), uM_ne _ _ _ (by decide), uM_eq]; rfl, ?_⟩
    rw [if_neg (by decide)]
    exact ⟨fun _ _ _ _ => rfl, fun j hj => absurd hj (by omega)⟩
  obtain ⟨B1, e4, w1⟩ := wk_all 0 w0
  have w2 := w1.2.2
  rw [if_neg (by decide)] at w2
  obtain ⟨w2, w3⟩ := w2
  have im : ∀ n, n < 2840 → B1 (imC n).1 (imC n).2 = M (imC n).1 (imC n).2 := fun n hn => by
    rw [w3 n hn, b0 _ (by decide), fr _ (by decide) (by decide)]
    exact m5 n hn
  have ee : ∀ {n c i : Nat}, imC n = (c, i) → n < 2840 → B1 c i = M c i := fun {n c i} z hn => by
    have := im n hn
    rw [z] at this
    exact this
  have c0 : ∀ k, k < 239 ∨ 265 ≤ k ∨ k = 241 ∨ k = 242 ∨ k = 250 ∨ k = 251 ∨ k = 257 → B1 k = B0 k := fun k hk => funext fun i => w2 k i (by omega) fun j hj e => by
    obtain ⟨-, r, -⟩ := im_ok hj
    rw [e] at r
    have r : 239 ≤ k ∧ k < 265 ∧ k ≠ 241 ∧ k ≠ 242 ∧ k ≠ 249 ∧ k ≠ 250 ∧ k ≠ 251 ∧ k ≠ 257 := r
    omega
  have c1 : ∀ i, i ≠ 52 → i ≠ 6 → i ≠ 12 → i ≠ 40 → i ≠ 22 → B1 239 i = B0 239 i := fun i z z1 z2 z3 z4 => w2 239 i (fun e => z e.2) fun j hj e => by
    obtain ⟨-, -, r⟩ := im_ok hj
    rw [e] at r
    have := r rfl
    have : i = 6 ∨ i = 12 ∨ i = 40 ∨ i = 22 := this
    omega
  have rS : RS B1 P' := m1.congI hN im
  have rW : RW (B1 240) P' D' := m2.congr hN fun i hi => ee (im_240 hi) (by omega)
  obtain ⟨B2, e5, v1, v2⟩ := F_kinNew rS rW wP wD
  obtain ⟨B3, hB3⟩ : ∃ B3, B3 = uM B2 239 3 0 := ⟨_, rfl⟩
  have z0 : ∀ k, k ≠ 239 → B3 k = B2 k := fun k a => by rw [hB3, uM_off _ _ _ a]
  have z1 : ∀ i, i ≠ 3 → B3 239 i = B2 239 i := fun i a => by rw [hB3, uM_ne _ _ _ a]
  have rT : RTF B3 T' := by
    refine m3.congI wT fun n hn => ?_
    obtain ⟨-, r1, r2⟩ := im_ok hn
    rw [← im n hn]
    by_cases k : (imC n).1 = 239
    · rw [k, z1 _ (by have := r2 k; omega), v2 _ (by decide)]
    · rw [z0 _ k, v2 _ (by omega)]
  have sk : ∀ i, ks i = true → i ≠ 3 → i ≠ 6 → i ≠ 12 → i ≠ 40 → i ≠ 22 → i ≠ 51 → B3 239 i = S 239 i := fun i hi a1 a2 a3 a4 a5 a6 => by
    have n50 : i ≠ 50 := fun e => by rw [e] at hi; cases hi
    have n52 : i ≠ 52 := fun e => by rw [e] at hi; cases hi
    rw [z1 i a1, v2 _ (by decide), c1 i n52 a2 a3 a4 a5, b1 i n50 a6 n52, fr _ (by decide) (by decide)]
  have s0 : ∀ k, k < 239 → B3 k = A4 k := fun k hk => by rw [z0 k (by omega), v2 k (by omega), c0 k (by omega), b0 k (by omega)]
  have sf : ∀ k, k = 250 ∨ k = 251 ∨ k = 269 → B3 k = S k := fun k hk => by rw [z0 k (by omega), v2 k (by omega), c0 k (by omega), b0 k (by omega), fr k (by omega) (by omega)]
  refine ⟨1, A4, B3, ?_, ?_, P', D', T', W', ((0, E.1.2), E.2.1, E.2.2), ?_⟩
  · unfold f_X10_image f_X2_forget
    rw [if_pos rfl, i1, if_neg (show ¬ nI 1 = 0 by decide), e1]
    simp only [bind_x]
    rw [e2]
    simp only [bind_x]
    rw [e3]
    simp only [bind_x, nm_x]
    rw [hA4]
  · unfold f_X11_image f_X11_image_18
    rw [nm_x, uM_id (show A4 239 0 = 0 by rw [fr _ (by decide) (by decide)]; exact h0), if_pos rfl, fr 239 (by decide) (by decide), i2, if_neg (show ¬ nI 1 = 0 by decide), gd_pos (Or.inl rfl), nm_x, nm_x, nm_x, ← hB0, e4, e5]
    simp only [bind_x]
    rw [if_pos trivial, hB3]
  · obtain ⟨⟨x1, x2, x3, x4⟩, ⟨f1, f2, f3, f4, f5⟩, y1, y2, y3, y4⟩ := h
    refine ⟨⟨ca.congr fun k a b _ _ => s0 k (by omega), ch.congr fun k a b => s0 k (by omega), x3.congr ?_ fun k a b _ _ => ?_, x4.congr ?_ ?_⟩, ⟨⟨?_, rT, fun i hi => ?_⟩, ⟨?_, fun j hj => absurd hj (Nat.not_lt_zero j)⟩, ?_, ?_, ?_⟩, ⟨wP, wK, wD, wR, wT, wU⟩, ⟨Nat.zero_le _, fun j hj => absurd hj (Nat.not_lt_zero j)⟩, y3, y4⟩
    · rw [s0 0 (by omega), fr 0 (by decide) (by decide)]
    · rw [s0 k (by omega), fr k (by omega) (by omega)]
    · rw [s0 _ (by decide), fr _ (by decide) (by decide)]
    · rw [s0 _ (by decide), fr _ (by decide) (by decide)]
    · exact v1.congr2 (z1 _ (by decide)) (z1 _ (by decide)) fun k _ _ _ _ _ => z0 k (by omega)
    · rw [z0 _ (by decide), v2 _ (by decide)]
      rw [ee (im_248 (i := i) (by omega)) (by omega)]
      exact m4 i hi
    · rw [hB3, uM_eq]; rfl
    · unfold FI at f3 ⊢
      rw [sf 269 (by omega), z1 _ (by decide), v2 _ (by decide), c1 _ (by decide) (by decide) (by decide) (by decide) (by decide), b51]
      refine ⟨?_, f3.2⟩
      show 1 = nI E.2.1.1
      rw [hI]
      rfl
    · unfold FT at f4 ⊢
      rw [sk 16 rfl (by decide) (by decide) (by decide) (by decide) (by decide) (by decide), sk 34 rfl (by decide) (by decide) (by decide) (by decide) (by decide) (by decide), sk 35 rfl (by decide) (by decide) (by decide) (by decide) (by decide) (by decide), sf 250 (by omega)]
      exact f4
    · unfold FC at f5 ⊢
      rw [sk 0 rfl (by decide) (by decide) (by decide) (by decide) (by decide) (by decide), sk 5 rfl (by decide) (by decide) (by decide) (by decide) (by decide) (by decide), sk 47 rfl (by decide) (by decide) (by decide) (by decide) (by decide) (by decide), sf 251 (by omega)]
      exact f5
end IMAGE
