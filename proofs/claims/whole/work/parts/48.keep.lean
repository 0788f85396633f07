/-! ===== a Clan becomes another one; what can be undone grows ===== -/
def cpB (j i : Nat) : Bool := decide ((j = 0 ∧ i < 5) ∨ (1 ≤ j ∧ j ≤ 9 ∧ i < 12) ∨ (10 ≤ j ∧ j ≤ 12 ∧ i < 28) ∨ (13 ≤ j ∧ j ≤ 15 ∧ i < 8))
theorem cpB_t {j i : Nat} (h : (j = 0 ∧ i < 5) ∨ (1 ≤ j ∧ j ≤ 9 ∧ i < 12) ∨ (10 ≤ j ∧ j ≤ 12 ∧ i < 28) ∨ (13 ≤ j ∧ j ≤ 15 ∧ i < 8)) : cpB j i = true := decide_eq_true h
theorem RK.cong2 {K K' : Mm} {P : PP} {D : DD} (h : RK K P D) (hN : pN P ≤ 12) (e : ∀ j i, cpB j i = true → K' j i = K j i) : RK K' P D := by
  obtain ⟨⟨h0, h1, h2, h3⟩, h4, h5, h6, h7⟩ := h
  refine ⟨⟨(e 0 0 rfl).trans h0, (e 0 1 rfl).trans h1, (e 0 2 rfl).trans h2, (e 0 3 rfl).trans h3⟩, fun i hi => by rw [e 0 4 rfl]; exact h4 i hi, fun q hq => ?_, fun l hl => ?_, fun d hd => ?_⟩
  · have z : ∀ j, 1 ≤ j → j ≤ 9 → K' j q = K j q := fun j a b => e j q (cpB_t (by omega))
    rw [z 1 (by omega) (by omega), z 2 (by omega) (by omega), z 3 (by omega) (by omega), z 4 (by omega) (by omega), z 5 (by omega) (by omega), z 6 (by omega) (by omega), z 7 (by omega) (by omega), z 8 (by omega) (by omega), z 9 (by omega) (by omega)]
    exact h5 q hq
  · have z : ∀ j, 10 ≤ j → j ≤ 12 → K' j l = K j l := fun j a b => e j l (cpB_t (by omega))
    rw [z 10 (by omega) (by omega), z 11 (by omega) (by omega), z 12 (by omega) (by omega)]
    exact h6 l hl
  · have z : ∀ j, 13 ≤ j → j ≤ 15 → K' j d = K j d := fun j a b => e j d (cpB_t (by omega))
    rw [z 13 (by omega) (by omega), z 14 (by omega) (by omega), z 15 (by omega) (by omega)]
    exact h7 d hd
theorem cpy_at (f g : Nat → Int32) {n i : Nat} (h : i < n) : va_cpy f g 0 0 n i = f i := by
  rw [pk_cpy_in (by omega) (by omega)]
  congr 1
  omega
theorem C_become {A : Mm} {c0 c1 : Nat} (hc : c0 + 16 ≤ c1 ∨ c1 + 16 ≤ c0) : ∃ A', f_X1_become c0 c1 A = some A' ∧ (∀ j i, cpB j i = true → A' (c0 + j) i = A (c1 + j) i) ∧ ∀ k, k < c0 ∨ c0 + 16 ≤ k → A' k = A k := by
  unfold f_X1_become
  simp only [nm]
  simp (disch := omega) only [uM_off, rM_off]
  refine ⟨_, rfl, fun j i h => ?_, fun k hk => ?_⟩
  · have h := of_decide_eq_true h
    have hj : j = 0 ∨ j = 1 ∨ j = 2 ∨ j = 3 ∨ j = 4 ∨ j = 5 ∨ j = 6 ∨ j = 7 ∨ j = 8 ∨ j = 9 ∨ j = 10 ∨ j = 11 ∨ j = 12 ∨ j = 13 ∨ j = 14 ∨ j = 15 := by omega
    rcases hj with rfl | rfl | rfl | rfl | rfl | rfl | rfl | rfl | rfl | rfl | rfl | rfl | rfl | rfl | rfl | rfl
    · have hi : i = 0 ∨ i = 1 ∨ i = 2 ∨ i = 3 ∨ i = 4 := by omega
      rcases hi with rfl | rfl | rfl | rfl | rfl <;> simp (disch := omega) only [rM_off, Nat.add_zero, uM_eq, uM_ne]
    all_goals
      simp (disch := omega) only [rM_off, rM_same]
      exact cpy_at _ _ (by omega)
  · simp (disch := omega) only [rM_off, uM_off]
def pushH (D : DD) (H : HH) : HH := (if H.1 = 8 then 8 else H.1 + 1, hx D H.2)
theorem C_keep {A : Mm} {P : PP} {D : DD} {H : HH} (hK : RK (fun j => A (1 + j)) P D) (hN : pN P ≤ 12) (hH : CH A P H) (h8 : H.1 ≤ 8) (hl : A 32 1 = nI (dLn D)) : ∃ A', f_X2_keep_32 1 A = some A' ∧ CH A' P (pushH D H) ∧ ∀ k, k < 34 ∨ 165 ≤ k → A' k = A k := by
  obtain ⟨h1, n, hn, h2, h3⟩ := hH
  obtain ⟨A1, e1, g1, g2⟩ := C_become (A := A) (c0 := 37 + 16 * n) (c1 := 1) (Or.inr (by omega))
  have s34 : A1 34 = A 34 := g2 _ (by omega)
  have s36 : A1 36 = A 36 := g2 _ (by omega)
  have s32 : A1 32 = A 32 := g2 _ (by omega)
  have n2 : irem (nI n + 1) 8 = nI ((n + 1) % 8) := by
    rw [nI_1]
    exact pk_rem (a := n + 1) (d := 8) (by omega) (by omega) (by omega)
  have hres : ∀ m A', (A' 34 3 = nI m) → (A' 34 2 = nI ((n + 1) % 8)) → (A' 36 = upd (A 36) n (nI (dLn D))) → (∀ k, k ≠ 34 → k ≠ 36 → A' k = A1 k) → (m = if H.1 = 8 then 8 else H.1 + 1) → CH A' P (pushH D H) := by
    intro m A' a1 a2 a3 a4 a5
    refine ⟨by rw [a1, a5]; rfl, (n + 1) % 8, by omega, a2, fun j hj => ?_⟩
    have hj8 : j < 8 := by
      have : (pushH D H).1 = if H.1 = 8 then 8 else H.1 + 1 := rfl
      rw [this] at hj
      split at hj <;> omega
    cases j with
    | zero =>
      have z : ((n + 1) % 8 + 7 - 0) % 8 = n := by omega
      rw [z, a3, up_eq]
      refine ⟨hK.cong2 hN fun j i hji => ?_, rfl⟩
      show A' (37 + 16 * n + j) i = A (1 + j) i
      rw [a4 _ (by omega) (by omega)]
      exact g1 j i hji
    | succ j =>
      have z : ((n + 1) % 8 + 7 - (j + 1)) % 8 = (n + 7 - j) % 8 := by omega
      have hjH : j < H.1 := by
        have : (pushH D H).1 = if H.1 = 8 then 8 else H.1 + 1 := rfl
        rw [this] at hj
        split at hj <;> omega
      obtain ⟨b1, b2⟩ := h3 j hjH
      rw [z, a3, up_ne _ _ (by omega)]
      refine ⟨b1.congr fun i hi => ?_, b2⟩
      rw [a4 _ (by omega) (by omega)]
      exact g2 _ (by omega)
  unfold f_X2_keep_32
  simp only [nm]
  rw [h2, gd_t (by omega) (by omega), ix_nI (by omega), e1]
  simp only [Option.bind_some]
  rw [s34, h2, gd_t (by omega) (by omega), ix_nI (by omega)]
  rw [uM_off _ _ _ (by decide : (34 : Nat) ≠ 36), s34, h2, n2, s32, hl]
  rw [uM_ne _ _ _ (by decide : (3 : Nat) ≠ 2), uM_off _ _ _ (by decide : (34 : Nat) ≠ 36), s34, h1]
  by_cases c : H.1 = 8
  · rw [if_pos (show (8 : Int32) ≤ nI H.1 from nI_ge_t (a := 8) (by omega) (by omega))]
    refine ⟨_, rfl, hres H.1 _ ?_ ?_ ?_ (fun k a b => ?_) (by rw [if_pos c]; exact c), fun k hk => ?_⟩
    · rw [uM_ne _ _ _ (by decide : (3 : Nat) ≠ 2), uM_off _ _ _ (by decide : (34 : Nat) ≠ 36), s34, h1]
    · rw [uM_eq]
    · rw [uM_off _ _ _ (by decide : (36 : Nat) ≠ 34), uM_row, s36]
    · rw [uM_off _ _ _ a, uM_off _ _ _ b]
    · rw [uM_off _ _ _ (by omega), uM_off _ _ _ (by omega)]; exact g2 _ (by omega)
  · rw [if_neg (show ¬ (8 : Int32) ≤ nI H.1 from nI_ge_f (a := 8) (by omega) (by omega)), nI_1]
    refine ⟨_, rfl, hres (H.1 + 1) _ ?_ ?_ ?_ (fun k a b => ?_) (by rw [if_neg c]), fun k hk => ?_⟩
    · rw [uM_eq]
    · rw [uM_ne _ _ _ (by decide : (2 : Nat) ≠ 3), uM_eq]
    · rw [uM_off _ _ _ (by decide : (36 : Nat) ≠ 34), uM_off _ _ _ (by decide : (36 : Nat) ≠ 34), uM_row, s36]
    · rw [uM_off _ _ _ a, uM_off _ _ _ a, uM_off _ _ _ b]
    · rw [uM_off _ _ _ (by omega), uM_off _ _ _ (by omega), uM_off _ _ _ (by omega)]; exact g2 _ (by omega)
/-- a row filled from a place on -/
theorem fill_off {v : Nat → Int32} (o : Nat) (f0 : Nat → Int32) : ∀ (n : Nat), ∀ j, ff (fun i (f : Nat → Int32) => upd f (o + i) (v i)) 0 n f0 j = if o ≤ j ∧ j < o + n then v (j - o) else f0 j := by
  intro n
  have := ff_ind (step := fun i (f : Nat → Int32) => upd f (o + i) (v i)) (fun i f => ∀ j, f j = if o ≤ j ∧ j < o + i then v (j - o) else f0 j) n 0 f0 (fun j => by rw [if_neg (by omega)]) (fun i f _ _ hf j => by
    show upd f (o + i) (v i) j = _
    by_cases e : j = o + i
    · rw [e, up_eq, if_pos (by omega)]; congr 1; omega
    · rw [up_ne _ _ e, hf j]
      by_cases k : o ≤ j ∧ j < o + i
      · rw [if_pos k, if_pos (by omega)]
      · rw [if_neg k, if_neg (by omega)])
  rw [Nat.zero_add] at this
  exact this
theorem F_keep57 {B : Mm} {u : Nat} (hu : u < 8) (h3 : B 239 3 = nI u) : ∃ s, f_X11_keepsAhead_57 FU 0 B = some (uM (rM B 241 s) 239 3 (nI (u + 1))) ∧ ∀ j, s j = if 148 * u ≤ j ∧ j < 148 * u + 148 then B 240 (j - 148 * u) else B 241 j := by
  have := (itr_for (fun _ _ => none) (fun k => f_X11_keepsAhead_57b k) (fun f i (s : Nat → Int32) => f (nI i) (rM B 241 s)) 148 (fun i s => upd s (148 * u + i) (B 240 i)) (fun s => some (uM (rM B 241 s) 239 3 (nI (u + 1)))) (fun _ _ => True) ?_ ?_ 148 0 FU (B 241) (by omega) (by unfold FU; omega) trivial).1
  · rw [rM_id] at this
    exact ⟨_, this, fill_off (148 * u) (B 241) 148⟩
  · intro rec i s hi _
    refine ⟨?_, trivial⟩
    show f_X11_keepsAhead_57b rec (nI i) (rM B 241 s) = _
    simp only [f_X11_keepsAhead_57b, nm]
    rw [nI_lit 148, if_neg (nI_ge_f hi (by omega)), gd_t (by omega) (by omega), rM_off _ _ (by decide), h3, pk_mul, nI_add, gd_t (by omega) (by omega), ix_nI (by omega), ix_nI (by omega), rM_off _ _ (by decide), uM_rMs, nI_1]
  · intro rec s _
    show f_X11_keepsAhead_57b rec (nI 148) (rM B 241 s) = _
    simp only [f_X11_keepsAhead_57b, nm]
    rw [nI_lit 148, if_pos (nI_ge_t (Nat.le_refl _) (by omega)), rM_off _ _ (by decide), h3, nI_1]
theorem F_keep21 {B : Mm} {u : Nat} (hu : u < 8) (h3 : B 239 3 = nI u) : ∃ s, f_X11_keepsAhead_21 FU 0 B = f_X11_keepsAhead_57 FU 0 (rM B 241 s) ∧ ∀ j, j < 148 * u → s j = B 241 (j + 148) := by
  have := (itr_for (fun _ _ => none) (fun k => f_X11_keepsAhead_21b k) (fun f i (s : Nat → Int32) => f (nI i) (rM B 241 s)) (148 * u) (fun i s => upd s i (s (i + 148))) (fun s => f_X11_keepsAhead_57 FU 0 (rM B 241 s)) (fun i s => ∀ j, s j = if j < i then B 241 (j + 148) else B 241 j) ?_ ?_ (148 * u) 0 FU (B 241) (by omega) (by unfold FU; omega) (fun j => by rw [if_neg (by omega)]))
  · obtain ⟨t1, t2⟩ := this
    rw [rM_id] at t1
    exact ⟨_, t1, fun j hj => by rw [t2 j, if_pos hj]⟩
  · intro rec i s hi hI
    refine ⟨?_, fun j => ?_⟩
    · show f_X11_keepsAhead_21b rec (nI i) (rM B 241 s) = _
      simp only [f_X11_keepsAhead_21b, nm]
      rw [nI_lit 148, rM_off _ _ (by decide), h3, pk_mul, if_neg (nI_ge_f hi (by omega)), nI_add, gd_t (by omega) (by omega), gd_t (by omega) (by omega), ix_nI (by omega), ix_nI (by omega), rM_same, uM_rMs, nI_1]
    · show upd s i (s (i + 148)) j = _
      by_cases e : j = i
      · subst e; rw [up_eq, hI, if_neg (by omega), if_pos (by omega)]
      · rw [up_ne _ _ e, hI]
        by_cases k : j < i
        · rw [if_pos k, if_pos (by omega)]
        · rw [if_neg k, if_neg (by omega)]
  · intro rec s _
    show f_X11_keepsAhead_21b rec (nI (148 * u)) (rM B 241 s) = _
    simp only [f_X11_keepsAhead_21b, f_X11_keepsAhead_55]
    rw [nI_lit 148, rM_off _ _ (by decide), h3, pk_mul, if_pos (nI_ge_t (Nat.le_refl _) (by omega))]
theorem F_keep {B : Mm} {P : PP} {D : DD} {H : HH} (hW : RW (B 240) P D) (hN : pN P ≤ 12) (hH : FH B P H) (h8 : H.1 ≤ 8) : ∃ B', f_X11_keepsAhead B = some B' ∧ FH B' P (pushH D H) ∧ (∀ k, k ≠ 239 → k ≠ 241 → B' k = B k) ∧ ∀ i, i ≠ 3 → B' 239 i = B 239 i := by
  obtain ⟨h1, h2⟩ := hH
  have hres : ∀ (u : Nat) (s : Nat → Int32), u + 1 = (if H.1 = 8 then 8 else H.1 + 1) → (∀ j, j < 148 → s (148 * u + j) = B 240 j) → (∀ j, j < u → ∀ i, i < 148 → s (148 * (u - 1 - j) + i) = B 241 (148 * (H.1 - 1 - j) + i)) → ∀ B1 : Mm, B1 239 3 = nI (u + 1) → B1 241 = s → FH B1 P (pushH D H) := by
    intro u s a1 a2 a3 B1 a4 a5
    have e8 : (pushH D H).1 = u + 1 := a1.symm
    refine ⟨by rw [a4, e8], fun j hj => ?_⟩
    rw [a5, e8]
    rw [e8] at hj
    cases j with
    | zero => exact hW.congr hN fun i hi => by show s (148 * (u + 1 - 1 - 0) + i) = _; rw [← a2 i hi]; congr 1
    | succ j =>
      have hj2 : j < H.1 := by split at a1 <;> omega
      refine (h2 j hj2).congr hN fun i hi => ?_
      show s (148 * (u + 1 - 1 - (j + 1)) + i) = _
      rw [← a3 j (by omega) i hi]
      congr 1
      omega
  unfold f_X11_keepsAhead f_X11_keepsAhead_55
  by_cases c : H.1 = 8
  · rw [if_pos (by rw [h1, c]; rfl)]
    simp only [nm]
    have e3 : uM B 239 3 (B 239 3 - 1) 239 3 = nI 7 := by rw [uM_eq, h1, c, nI_sub1 (by omega)]
    obtain ⟨s, t1, t2⟩ := F_keep21 (B := uM B 239 3 (B 239 3 - 1)) (by omega : 7 < 8) e3
    have e4 : rM (uM B 239 3 (B 239 3 - 1)) 241 s 239 3 = nI 7 := by rw [rM_off _ _ (by decide)]; exact e3
    obtain ⟨s', u1, u2⟩ := F_keep57 (B := rM (uM B 239 3 (B 239 3 - 1)) 241 s) (by omega : 7 < 8) e4
    rw [t1, u1]
    refine ⟨_, rfl, hres 7 s' (by rw [if_pos c]) (fun j hj => ?_) (fun j hj i hi => ?_) _ ?_ ?_, fun k a b => ?_, fun i hi => ?_⟩
    · rw [u2, if_pos (by omega), rM_off _ _ (by decide), uM_off _ _ _ (by decide)]; exact congrArg (B 240) (by omega)
    · rw [u2, if_neg (by omega), rM_same, t2 _ (by omega), uM_off _ _ _ (by decide), c]; exact congrArg (B 241) (by omega)
    · rw [uM_eq]
    · rw [uM_off _ _ _ (by decide), rM_same]
    · rw [uM_off _ _ _ a, rM_off _ _ b, rM_off _ _ b, uM_off _ _ _ a]
    · rw [uM_ne _ _ _ hi, rM_off _ _ (by decide), rM_off _ _ (by decide), uM_ne _ _ _ hi]
  · rw [if_neg (fun e => c (by rw [h1] at e; exact (nI_inj (by omega) (by omega)).mp e))]
    obtain ⟨s', u1, u2⟩ := F_keep57 (B := B) (by omega : H.1 < 8) h1
    rw [u1]
    refine ⟨_, rfl, hres H.1 s' (by rw [if_neg c]) (fun j hj => ?_) (fun j hj i hi => ?_) _ ?_ ?_, fun k a b => ?_, fun i hi => ?_⟩
    · rw [u2, if_pos (by omega)]; exact congrArg (B 240) (by omega)
    · rw [u2, if_neg (by omega)]
    · rw [uM_eq]
    · rw [uM_off _ _ _ (by decide), rM_same]
    · rw [uM_off _ _ _ a, rM_off _ _ b]
    · rw [uM_ne _ _ _ hi, rM_off _ _ (by decide)]
