/-! ===== undone: the row kept last comes back ===== -/
def popH (H : HH) : HH := (H.1 - 1, fun j => H.2 (j + 1))
section UNDO
variable {S : Mm} {P : PP} {D : DD} {T : TT} {W : Nat → Int32} {E : RE}
theorem C_goBack {A : Mm} {H : HH} (hN : pN P ≤ 12) (hH : CH A P H) (h8 : H.1 ≤ 8) (h0 : H.1 ≠ 0) : ∃ A', f_X2_goBack_32 1 A = some (1, A') ∧ RK (fun j => A' (1 + j)) P (H.2 0) ∧ A' 32 1 = nI (dLn (H.2 0)) ∧ CH A' P (popH H) ∧ ∀ k, k = 0 ∨ (17 ≤ k ∧ k ≠ 32 ∧ k ≠ 34) → A' k = A k := by
  obtain ⟨h1, n, hn, h2, h3⟩ := hH
  have n2 : irem (nI n + 8 - 1) 8 = nI ((n + 7) % 8) := by
    rw [show nI n + 8 - 1 = nI (n + 7) by rw [nI_lit 8, nI_add, nI_sub1 (by omega)]; congr 1]
    exact pk_rem (a := n + 7) (d := 8) (by omega) (by omega) (by omega)
  obtain ⟨b1, b2⟩ := h3 0 (by omega)
  obtain ⟨A0, hA0⟩ : ∃ A0, A0 = uM (uM A 34 3 (nI (H.1 - 1))) 34 2 (nI ((n + 7) % 8)) := ⟨_, rfl⟩
  have o0 : ∀ k, k ≠ 34 → A0 k = A k := fun k hk => by rw [hA0, uM_off _ _ _ hk, uM_off _ _ _ hk]
  obtain ⟨A1, e1, g1, g2⟩ := C_become (A := A0) (c0 := 1) (c1 := 37 + 16 * ((n + 7) % 8)) (Or.inl (by omega))
  have s34 : A1 34 = A0 34 := g2 _ (by omega)
  have t2 : A0 34 2 = nI ((n + 7) % 8) := by rw [hA0, uM_eq]
  have t3 : A0 34 3 = nI (H.1 - 1) := by rw [hA0, uM_ne _ _ _ (by decide), uM_eq]
  have t36 : A1 36 ((n + 7) % 8) = nI (dLn (H.2 0)) := by rw [g2 _ (by omega), o0 _ (by decide)]; exact b2
  refine ⟨uM A1 32 1 (nI (dLn (H.2 0))), ?_, ?_, uM_eq _ _ _ _, ⟨?_, (n + 7) % 8, by omega, ?_, fun j hj => ?_⟩, fun k hk => ?_⟩
  · unfold f_X2_goBack_32
    simp only [nm]
    rw [h1, if_neg (fun e => h0 ((nI_0iff (by omega)).mp e)), nI_sub1 (by omega), uM_ne _ _ _ (by decide : (2 : Nat) ≠ 3), h2, n2, ← hA0, t2, gd_t (by omega) (by omega), ix_nI (by omega), e1]
    simp only [Option.bind_some]
    rw [s34, t2, gd_t (by omega) (by omega), ix_nI (by omega), t36]
  · refine RKc_off ?_ (by omega)
    refine b1.cong2 hN fun j i hji => ?_
    show A1 (1 + j) i = A (37 + 16 * ((n + 7 - 0) % 8) + j) i
    rw [g1 j i hji]
    have hj := of_decide_eq_true hji
    rw [o0 _ (by omega)]
    rfl
  · rw [uM_off _ _ _ (by decide), s34, t3]; rfl
  · rw [uM_off _ _ _ (by decide), s34, t2]
  · have hj2 : j < H.1 - 1 := hj
    obtain ⟨c1, c2⟩ := h3 (j + 1) (by omega)
    have z : ((n + 7) % 8 + 7 - j) % 8 = (n + 7 - (j + 1)) % 8 := by omega
    rw [z]
    refine ⟨c1.congr fun i hi => ?_, ?_⟩
    · show uM A1 32 1 _ _ = A _
      rw [uM_off _ _ _ (by omega), g2 _ (by omega), o0 _ (by omega)]
    · rw [uM_off _ _ _ (by decide), g2 _ (by omega), o0 _ (by decide)]; exact c2
  · rw [uM_off _ _ _ (by omega), g2 _ (by omega), o0 _ (by omega)]
theorem F_undo26 {B : Mm} {u : Nat} (hu : u < 8) (h3 : B 239 3 = nI u) : ∃ s, f_X11_undo_26 FU 0 B = (f_X11_findsKin (rM B 240 s)).bind (fun S => some (1, S)) ∧ ∀ j, j < 148 → s j = B 241 (148 * u + j) := by
  have := (itr_for (fun _ _ => none) (fun k => f_X11_undo_26b k) (fun f i (s : Nat → Int32) => f (nI i) (rM B 240 s)) 148 (fun i s => upd s i (B 241 (148 * u + i))) (fun s => (f_X11_findsKin (rM B 240 s)).bind (fun S => some (1, S))) (fun _ _ => True) ?_ ?_ 148 0 FU (B 240) (by omega) (by unfold FU; omega) trivial).1
  · rw [rM_id] at this
    exact ⟨_, this, fill_at (v := fun i => B 241 (148 * u + i)) (B 240) 148⟩
  · intro rec i s hi _
    refine ⟨?_, trivial⟩
    show f_X11_undo_26b rec (nI i) (rM B 240 s) = _
    simp only [f_X11_undo_26b, nm]
    rw [nI_lit 148, if_neg (nI_ge_f hi (by omega)), rM_off _ _ (by decide), h3, pk_mul, nI_add, gd_t (by omega) (by omega), gd_t (by omega) (by omega), ix_nI (by omega), ix_nI (by omega), rM_off _ _ (by decide), uM_rMs, nI_1]
  · intro rec s _
    show f_X11_undo_26b rec (nI 148) (rM B 240 s) = _
    simp only [f_X11_undo_26b]
    rw [nI_lit 148, if_pos (nI_ge_t (Nat.le_refl _) (by omega))]
theorem op_undo (h : RR S P D T W E) : Good f_X10_undo f_X11_undo S := by
  have hN := h.wP.1
  have h0 := h.C.1
  obtain ⟨w8, wH⟩ := h.2.2.2.1
  have u1 : S 34 3 = nI E.1.1 := h.1.2.1.1
  have u2 : S 239 3 = nI E.1.1 := h.2.1.2.1.1
  by_cases c : E.1.1 = 0
  · refine good_id h (r := 0) ?_ ?_
    · simp only [f_X10_undo, f_X2_goBack_32]
      rw [u1, c, if_pos (by decide +kernel)]
      rfl
    · simp only [f_X11_undo, nm, uM_id h0]
      rw [u2, c, if_pos (by decide +kernel)]
  · obtain ⟨S1, e1, g1, g2, g3, g4⟩ := C_goBack hN h.1.2.1 w8 c
    have fr : ∀ k, 239 ≤ k → S1 k = S k := fun k hk => g4 k (by omega)
    obtain ⟨wd, wr, wu, wl⟩ := wH 0 (by omega)
    have wl : dLn (E.1.2 0) ≤ dLn D := wl
    obtain ⟨B0, hB0⟩ : ∃ B0, B0 = uM S1 239 3 (nI (E.1.1 - 1)) := ⟨_, rfl⟩
    obtain ⟨s, e2, hs⟩ := F_undo26 (B := B0) (u := E.1.1 - 1) (by omega) (by rw [hB0, uM_eq])
    have b241 : B0 241 = S 241 := by rw [hB0, uM_off _ _ _ (by decide), fr _ (by decide)]
    have o0 : ∀ k, k ≠ 239 → B0 k = S1 k := fun k hk => by rw [hB0, uM_off _ _ _ hk]
    have oi : ∀ i, i ≠ 3 → B0 239 i = S1 239 i := fun i hi => by rw [hB0, uM_ne _ _ _ hi]
    have nRS : RS (rM B0 240 s) P := h.B.1.congr (by rw [rM_off _ _ (by decide), oi _ (by decide), fr _ (by decide)]) (by rw [rM_off _ _ (by decide), oi _ (by decide), fr _ (by decide)]) fun k _ _ => by rw [rM_off _ _ (by omega), o0 _ (by omega), fr _ (by omega)]
    have nRW : RW ((rM B0 240 s) 240) P (E.1.2 0) := by
      rw [rM_same]
      refine (h.2.1.2.1.2 0 (by omega)).congr hN fun i hi => ?_
      rw [hs i hi, b241]
      rfl
    obtain ⟨S2, e3, v1, v2⟩ := F_kinNew nRS nRW h.wP wd
    have fS2 : ∀ k, k ≠ 239 → k ≠ 240 → k ≠ 249 → S2 k = S1 k := fun k p q r => by rw [v2 k r, rM_off _ _ q, o0 k p]
    refine Good.ex (r := 1) (S1 := S1) (S2 := S2) ?_ ?_ ?_
    · simp only [f_X10_undo]
      rw [e1]
      rfl
    · simp only [f_X11_undo, nm, uM_id (S := S1) (show S1 239 0 = 0 by rw [fr _ (by decide)]; exact h0)]
      have s3 : S1 239 3 = nI E.1.1 := by rw [fr _ (by decide)]; exact u2
      rw [s3, if_neg (fun e => c ((nI_0iff (by omega)).mp e)), nI_sub1 (by omega), ← hB0, e2, e3]
      rfl
    · refine h.act (S1 := S1) (P' := P) (D' := E.1.2 0) (W' := W) (H' := popH E.1) (fun k hk => g4 k (by omega)) g1 g2 (fun i hi => by rw [g4 _ (by decide)]; exact h.1.1.2.2.2 i (by omega)) g3 (fun k hk => by rw [fS2 k (by omega) (by omega) (by omega)]) (fun k hk => by rw [fS2 k (by omega) (by omega) (by omega)]) (fun i hi => by rw [v2 _ (by decide), rM_off _ _ (by decide), oi i hi.2.1]) (fS2 _ (by decide) (by decide) (by decide)) v1 (fun i hi => by rw [fS2 _ (by decide) (by decide) (by decide), fr _ (by decide)]; exact h.2.1.1.2.2 i (by omega)) ⟨?_, fun j hj => ?_⟩ ?_ ⟨?_, fun j hj => ?_⟩
      · rw [v2 _ (by decide), rM_off _ _ (by decide), hB0, uM_eq]; rfl
      · have hj2 : j < E.1.1 - 1 := hj
        rw [fS2 _ (by decide) (by decide) (by decide), fr _ (by decide)]
        have := h.2.1.2.1.2 (j + 1) (by omega)
        have z : E.1.1 - 1 - (j + 1) = E.1.1 - 1 - 1 - j := by omega
        rw [z] at this
        exact this
      · obtain ⟨w1, w2, w3, w4, w5, w6⟩ := h.2.2.1
        exact ⟨w1, w2, wd, wr, w5, wu⟩
      · show E.1.1 - 1 ≤ 8; omega
      · have hj2 : j < E.1.1 - 1 := hj
        obtain ⟨a, b, d, e⟩ := wH (j + 1) (by omega)
        refine ⟨a, b, d, ?_⟩
        cases j with
        | zero => exact e
        | succ j => exact e
end UNDO
