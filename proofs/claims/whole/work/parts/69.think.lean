/-! ===== thoughts: who goes silent ===== -/
theorem pa_th (P : PP) (T : TT) (p l : Nat) (s : DD × (Nat → Int32)) : dLn (paS P T true p l s).1 = dLn s.1 ∧ (paS P T true p l s).2 = s.2 := by
  have e1 : ∀ o, psD true s.1 l o = sOw s.1 l o := fun o => if_pos (Or.inl rfl)
  have e2 : ∀ o how, psW true s.1 s.2 l o how = s.2 := fun o how => if_pos (Or.inl rfl)
  unfold paS
  split
  · split
    · rw [e1, e2]; exact ⟨rfl, rfl⟩
    · rw [e1, e2]; exact ⟨rfl, rfl⟩
  · exact ⟨rfl, rfl⟩
theorem dieL_th (P : PP) (T : TT) (p : Nat) (D : DD) (W : Nat → Int32) : dLn (dieL P T true p D W).1 = dLn D ∧ (dieL P T true p D W).2 = W := by
  have h1 := ff_ind (step := paS P T true p) (fun _ s => dLn s.1 = dLn D ∧ s.2 = W) 28 0 (sDead D p, W) ⟨rfl, rfl⟩ (fun i s _ _ h => ⟨(pa_th P T p i s).1.trans h.1, (pa_th P T p i s).2.trans h.2⟩)
  unfold dieL
  revert h1
  generalize ff (paS P T true p) 0 28 (sDead D p, W) = X
  intro h1
  exact ⟨(lo_keep p X).1.trans h1.1, (lo_keep p X).2.trans h1.2⟩
theorem dieM_th (P : PP) (T : TT) (p : Nat) (D : DD) (W : Nat → Int32) : dLn (dieM P T true p D W).1 = dLn D ∧ (dieM P T true p D W).2 = W := by
  obtain ⟨m1, m2, m3, m4⟩ := dieM_same (P := P) (T := T) (th := true) (p := p) (D := D) (W := W)
  have L := dieL_th P T p D W
  refine ⟨m4.trans L.1, ?_⟩
  revert L
  unfold dieM
  generalize dieL P T true p D W = X
  intro L
  exact L.2
theorem bind_id1 {α : Type} (x : Option α) : (x.bind fun a => some a) = x := by cases x <;> rfl
theorem ff_any (p : Nat → Bool) (m : Int32) (d lo : Nat) (x : Int32) : ff (fun q (a : Int32) => if p q = true then a ||| m else a) lo d x = if (List.range d).any (fun q => p (lo + q)) = true then x ||| m else x := by
  apply b_ext
  intro i hi
  rw [bt_ffor (f := fun _ => m) hi]
  have e : (List.range d).any (fun c => p (lo + c) && bt m i) = ((List.range d).any (fun c => p (lo + c)) && bt m i) := by
    cases bt m i
    · simp
    · simp
  rw [e]
  by_cases c : (List.range d).any (fun q => p (lo + q)) = true
  · rw [if_pos c, c, b_or, Bool.true_and]
  · rw [if_neg c, eq_false_of_ne_true c, Bool.false_and, Bool.or_false]
def spkP (P : PP) (D : DD) (T : TT) (d : Nat) : Bool := (List.range (pN P)).any (fun q => decide (tDs T d &&& (letS P D q ^^^ (-1)) = 0))
def spkS (P : PP) (D : DD) (T : TT) : Int32 := setF (tDn T) (spkP P D T)
theorem alo_0 {P : PP} {D : DD} {T : TT} (hN : pN P ≤ 12) (d : Nat) : aloS P D (tDs T d) = 0 ↔ ¬ spkP P D T d = true := by
  unfold aloS spkP
  rw [i32_0]
  constructor
  · intro h e
    obtain ⟨q, hq, e⟩ := List.any_eq_true.mp e
    have hq := List.mem_range.mp hq
    have := h q (by omega)
    rw [bt_setF _ _ (by omega) q (by omega), decide_eq_true hq, Bool.true_and] at this
    rw [e] at this
    cases this
  · intro h i hi
    rw [bt_setF _ _ (by omega) i hi]
    by_cases c : i < pN P
    · rw [decide_eq_true c, Bool.true_and]
      apply eq_false_of_ne_true
      intro e
      exact h (List.any_eq_true.mpr ⟨i, List.mem_range.mpr c, e⟩)
    · rw [decide_eq_false c, Bool.false_and]
section THINK
variable {P : PP} {D : DD} {T : TT} {W : Nat → Int32}
theorem C_spoken {A : Mm} {c : Nat} (hc : isClan c) (h : RK (fun j => A (c + j)) P D) (hT : RTK (fun j => A (17 + j)) T) (hP : WFP P) (hD : WFD P D) (hn : tDn T ≤ 8) : ∃ f, f_X7_spoken c A = some (spkS P D T, rM A 182 f) := by
  have hN := hP.1
  obtain ⟨f, e, hf⟩ := C_ask hc h hP hD
  obtain ⟨A1, hA1⟩ : ∃ A1, A1 = rM A 182 f := ⟨_, rfl⟩
  have k3 : A1 c 3 = nI (pN P) := by rw [hA1, rM_off _ _ (show c ≠ 182 from kOK_ne (j := 0) (k := 182) (by decide) hc (by omega))]; exact h.1.2.2.2
  have t5 : A1 17 5 = nI (tDn T) := by rw [hA1, rM_off _ _ (by decide)]; exact hT.1.1
  have t31 : ∀ d, d < tDn T → A1 31 d = tDs T d := fun d hd => by rw [hA1, rM_off _ _ (by decide)]; exact (hT.2.2.2.2 d hd).2.1
  have hf1 : ∀ q, q < 12 → A1 182 q = letS P D q := fun q hq => by rw [hA1, rM_same]; exact hf q hq
  refine ⟨f, ?_⟩
  unfold f_X7_spoken
  rw [e, ← hA1]
  simp only [bind_x]
  have := loop_set (fun _ _ _ => none) (fun k => f_X7_spoken_9b k c) (fun f i a => f a (nI i) A1) (tDn T) (spkP P D T) (fun a => some (a, A1)) (by omega) ?_ ?_
  · exact this
  · intro rec i a hi
    show f_X7_spoken_9b rec c a (nI i) A1 = _
    unfold f_X7_spoken_9b
    rw [t5, if_neg (nI_ge_f hi (by omega))]
    have inner := (itr_for (fun _ _ _ _ => none) (fun k => f_X7_spoken_23b rec k c) (fun f q (s : Int32) => f s (nI i) (nI q) A1) (pN P) (fun q s => if (fun q => decide (tDs T i &&& (letS P D q ^^^ (-1)) = 0)) q = true then s ||| shl 1 (nI i) else s) (fun s => rec s (nI (i + 1)) A1) (fun _ _ => True) (fun rec2 q s hq _ => ⟨?_, trivial⟩) (fun rec2 s _ => ?_) (pN P) 0 FU a (by omega) (by unfold FU; omega) trivial).1
    · rw [ff_any] at inner
      simp only [Nat.zero_add] at inner
      exact inner
    · show f_X7_spoken_23b rec rec2 c s (nI i) (nI q) A1 = _
      unfold f_X7_spoken_23b f_X7_spoken_60
      rw [k3, if_neg (nI_ge_f hq (by omega)), gd_t (by omega) (by omega), gd_t (by omega) (by omega), ix_nI (by omega), ix_nI (by omega), t31 i hi, hf1 q (by omega)]
      by_cases z : tDs T i &&& (letS P D q ^^^ (-1)) = 0
      · rw [if_pos z, if_pos (decide_eq_true z), nm_x, nm_x, nI_1]
      · rw [if_neg z, if_neg (fun e => z (of_decide_eq_true e)), nm_x, nI_1]
    · show f_X7_spoken_23b rec rec2 c s (nI i) (nI (pN P)) A1 = _
      unfold f_X7_spoken_23b
      rw [k3, if_pos (nI_ge_t (Nat.le_refl _) (by omega)), nm_x, nI_1]
  · intro rec a
    show f_X7_spoken_9b rec c a (nI (tDn T)) A1 = _
    unfold f_X7_spoken_9b
    rw [t5, if_pos (nI_ge_t (Nat.le_refl _) (by omega))]
theorem F_spoken {B : Mm} (h : RB B P D) (hT : RTF B T) (hP : WFP P) (hD : WFD P D) (hn : tDn T ≤ 8) : ∃ f, f_X11_spokenDeeds B = some (spkS P D T, rM B 267 f) := by
  have hN := hP.1
  obtain ⟨f, e, hf⟩ := F_findsHands h hP hD
  obtain ⟨B1, hB1⟩ : ∃ B1, B1 = rM B 267 f := ⟨_, rfl⟩
  have rB : RS B1 P := by rw [hB1]; exact (RB_rM (by decide) h).1
  have t40 : B1 239 40 = nI (tDn T) := by rw [hB1, rM_off _ _ (by decide)]; exact hT.1.1
  have t63 : ∀ d, d < tDn T → B1 263 d = tDs T d := fun d hd => by rw [hB1, rM_off _ _ (by decide)]; exact (hT.2.2.2.2 d hd).2.1
  have hf1 : ∀ q, q < 12 → B1 267 q = letS P D q := fun q hq => by rw [hB1, rM_same]; exact hf q hq
  refine ⟨f, ?_⟩
  unfold f_X11_spokenDeeds
  rw [e, ← hB1]
  simp only [bind_x]
  have := loop_set (fun _ _ _ => none) (fun k => f_X11_spokenDeeds_8b k) (fun f i a => f a (nI i) B1) (tDn T) (spkP P D T) (fun a => some (a, B1)) (by omega) ?_ ?_
  · exact this
  · intro rec i a hi
    show f_X11_spokenDeeds_8b rec a (nI i) B1 = _
    unfold f_X11_spokenDeeds_8b f_X11_spokenDeeds_35
    rw [t40, if_neg (nI_ge_f hi (by omega)), gd_t (by omega) (by omega), ix_nI (by omega), t63 i hi, F_aloneOf rB hP hf1]
    simp only [bind_x]
    by_cases z : spkP P D T i = true
    · rw [if_neg (fun e => (alo_0 hN i).mp e z), if_pos z, nm_x, nm_x, nI_1]
    · rw [if_pos ((alo_0 hN i).mpr z), if_neg z, nm_x, nI_1]
  · intro rec a
    show f_X11_spokenDeeds_8b rec a (nI (tDn T)) B1 = _
    unfold f_X11_spokenDeeds_8b
    rw [t40, if_pos (nI_ge_t (Nat.le_refl _) (by omega))]
theorem F_thinks (B : Mm) : ∃ f, f_X11_thinks B = some (uM (rM B 242 f) 239 5 1) ∧ ∀ j, j < 148 → f j = B 240 j := by
  have := (itr_for (fun _ _ => none) (fun k => f_X11_thinks_2b k) (fun f i (s : Nat → Int32) => f (nI i) (rM B 242 s)) 148 (fun i s => upd s i (B 240 i)) (fun s => some (uM (rM B 242 s) 239 5 1)) (fun _ _ => True) ?_ ?_ 148 0 FU (B 242) (by omega) (by unfold FU; omega) trivial).1
  · rw [rM_id] at this
    exact ⟨_, this, fill_at (v := fun i => B 240 i) (B 242) 148⟩
  · intro rec i s hi _
    refine ⟨?_, trivial⟩
    show f_X11_thinks_2b rec (nI i) (rM B 242 s) = _
    unfold f_X11_thinks_2b
    rw [if_neg (show ¬ (148 : Int32) ≤ nI i from nI_ge_f (a := 148) hi (by omega)), gd_t (by omega) (by omega), gd_t (by omega) (by omega), nm_x, nm_x, ix_nI (by omega), rM_off _ _ (by decide), uM_rMs, nI_1]
  · intro rec s _
    show f_X11_thinks_2b rec (nI 148) (rM B 242 s) = _
    unfold f_X11_thinks_2b
    rw [if_pos (show (148 : Int32) ≤ nI 148 from nI_ge_t (a := 148) (by omega) (by omega)), nm_x]
theorem F_back {B : Mm} : ∃ s, f_X11_endsThought B = f_X11_findsKin (uM (rM B 240 s) 239 5 0) ∧ ∀ j, j < 148 → s j = B 242 j := by
  have := (itr_for (fun _ _ => none) (fun k => f_X11_endsThought_2b k) (fun f i (s : Nat → Int32) => f (nI i) (rM B 240 s)) 148 (fun i s => upd s i (B 242 i)) (fun s => f_X11_findsKin (uM (rM B 240 s) 239 5 0)) (fun _ _ => True) ?_ ?_ 148 0 FU (B 240) (by omega) (by unfold FU; omega) trivial).1
  · rw [rM_id] at this
    exact ⟨_, this, fill_at (v := fun i => B 242 i) (B 240) 148⟩
  · intro rec i s hi _
    refine ⟨?_, trivial⟩
    show f_X11_endsThought_2b rec (nI i) (rM B 240 s) = _
    unfold f_X11_endsThought_2b
    rw [if_neg (show ¬ (148 : Int32) ≤ nI i from nI_ge_f (a := 148) hi (by omega)), gd_t (by omega) (by omega), gd_t (by omega) (by omega), nm_x, nm_x, ix_nI (by omega), rM_off _ _ (by decide), uM_rMs, nI_1]
  · intro rec s _
    show f_X11_endsThought_2b rec (nI 148) (rM B 240 s) = _
    unfold f_X11_endsThought_2b
    rw [if_pos (show (148 : Int32) ≤ nI 148 from nI_ge_t (a := 148) (by omega) (by omega)), nm_x]
    exact bind_id1 _
theorem F_endsThought {B : Mm} (hS : RS B P) (hW : RW (B 242) P D) (hP : WFP P) (hD : WFD P D) : ∃ B', f_X11_endsThought B = some B' ∧ RB B' P D ∧ (∀ k, k ≠ 239 → k ≠ 240 → k ≠ 249 → B' k = B k) ∧ (∀ i, i ≠ 5 → B' 239 i = B 239 i) ∧ B' 239 5 = 0 := by
  obtain ⟨s, e, hs⟩ := F_back (B := B)
  have o : ∀ k, k ≠ 239 → k ≠ 240 → (uM (rM B 240 s) 239 5 0) k = B k := fun k a b => by rw [uM_off _ _ _ a, rM_off _ _ b]
  have oi : ∀ i, i ≠ 5 → (uM (rM B 240 s) 239 5 0) 239 i = B 239 i := fun i hi => by rw [uM_ne _ _ _ hi, rM_off _ _ (by decide)]
  obtain ⟨B', e2, v1, v2⟩ := F_kinNew (B := uM (rM B 240 s) 239 5 0) (hS.congr (oi _ (by decide)) (oi _ (by decide)) fun k _ _ => o k (by omega) (by omega)) (by rw [uM_off _ _ _ (by decide), rM_same]; exact hW.congr hP.1 fun i hi => hs i hi) hP hD
  exact ⟨B', e.trans e2, v1, fun k a b c => by rw [v2 k c, o k a b], fun i hi => by rw [v2 _ (by decide), oi i hi], by rw [v2 _ (by decide), uM_eq]⟩
end THINK
section THINK2
variable {S : Mm} {P : PP} {D : DD} {T : TT} {W : Nat → Int32} {E : RE}
theorem rr_th {S1 S2 : Mm} (h : RR S P D T W E) (a : ∀ k, scr k = false → k ≠ 32 → k ≠ 33 → S1 k = S k) (a1 : S1 32 1 = nI (dLn D)) (a2 : ∀ i, i < 5 * dLn D → S1 33 i = W i) (b : ∀ k, scr k = false → k ≠ 239 → k ≠ 240 → k ≠ 248 → k ≠ 249 → S2 k = S1 k) (b1 : ∀ i, ks i = true → S2 239 i = S1 239 i) (b2 : RB S2 P D) (b3 : rkF S2 D W) : RR S2 P D T W E := by
  obtain ⟨⟨x1, x2, x3, x4⟩, ⟨f1, f2, f3, f4, f5⟩, w⟩ := h
  have e1 : ∀ k, scr k = false → k ≠ 32 → k ≠ 33 → k ≠ 239 → k ≠ 240 → k ≠ 248 → k ≠ 249 → S2 k = S k := fun k p q r s t u v => by rw [b k p s t u v, a k p q r]
  have e2 : ∀ i, ks i = true → S2 239 i = S 239 i := fun i hi => by rw [b1 i hi, a 239 (scr_f (by omega)) (by decide) (by decide)]
  refine ⟨⟨⟨x1.1.congr fun j hj => e1 _ (scr_f (by omega)) (by omega) (by omega) (by omega) (by omega) (by omega) (by omega), x1.2.1.congr fun j hj p q => e1 _ (scr_f (by omega)) (by omega) (by omega) (by omega) (by omega) (by omega) (by omega), ?_, fun i hi => ?_⟩, x2.congr fun k p q => e1 k (scr_f (by omega)) (by omega) (by omega) (by omega) (by omega) (by omega) (by omega), x3.congr (by rw [e1 0 (scr_f (by omega)) (by omega) (by omega) (by omega) (by omega) (by omega) (by omega)]) fun k p q r s => e1 k (scr_f (by omega)) (by omega) (by omega) (by omega) (by omega) (by omega) (by omega), x4.congr (e1 _ (scr_f (by omega)) (by omega) (by omega) (by omega) (by omega) (by omega) (by omega)) (e1 _ (scr_f (by omega)) (by omega) (by omega) (by omega) (by omega) (by omega) (by omega))⟩, ⟨⟨b2, f1.2.1.congr (e2 40 rfl) (e2 22 rfl) fun k p q r => e1 k (scr_f (by omega)) (by omega) (by omega) (by omega) (by omega) (by omega) (by omega), b3⟩, f2.congr (e2 3 rfl) (e1 _ (scr_f (by omega)) (by omega) (by omega) (by omega) (by omega) (by omega) (by omega)), f3.congr (e2 51 rfl) (e1 _ (scr_f (by omega)) (by omega) (by omega) (by omega) (by omega) (by omega) (by omega)), f4.congr e2 (e1 _ (scr_f (by omega)) (by omega) (by omega) (by omega) (by omega) (by omega) (by omega)), f5.congr e2 (e1 _ (scr_f (by omega)) (by omega) (by omega) (by omega) (by omega) (by omega) (by omega))⟩, w⟩
  · rw [b 32 (scr_f (by omega)) (by omega) (by omega) (by omega) (by omega)]; exact a1
  · rw [b 33 (scr_f (by omega)) (by omega) (by omega) (by omega) (by omega)]; exact a2 i hi
theorem C_trial (h : RR S P D T W E) : ∃ A, f_X1_become 166 1 S = some A ∧ RK (fun j => A (166 + j)) P D ∧ ∀ k, k < 166 ∨ 182 ≤ k → A k = S k := by
  obtain ⟨A, e, g1, g2⟩ := C_become (A := S) (c0 := 166) (c1 := 1) (Or.inr (by omega))
  exact ⟨A, e, h.K.cong2 h.wP.1 fun j i hji => g1 j i hji, g2⟩
/-- a death is thought of: the class -/
theorem C_mind (h : RR S P D T W E) {p : Nat} (hl : liv P D p = true) : ∃ A A2, f_X1_become 166 1 S = some A ∧ f_X1_die_17_n 166 (nI p) A = some A2 ∧ RK (fun j => A2 (166 + j)) P (dieM P T true p D W).1 ∧ RK (fun j => A2 (1 + j)) P D ∧ RTK (fun j => A2 (17 + j)) T ∧ A2 32 1 = nI (dLn D) ∧ (∀ i, i < 5 * dLn D → A2 33 i = W i) ∧ ∀ k, scr k = false → k ≠ 32 → k ≠ 33 → A2 k = S k := by
  obtain ⟨A, e1, g1, g2⟩ := C_trial h
  obtain ⟨A2, e2, u1, u2, u3⟩ := C_die_n (c := 166) (A := A) (W := W) (show (166 : Nat) ∈ clanL by decide) g1 (h.TK.congr fun j hj _ _ => g2 _ (by omega)) h.wP h.wT h.wD h.R.1.2 ⟨rfl, by rw [g2 _ (by decide)]; exact h.1.1.2.2.1, fun i hi => by rw [g2 _ (by decide)]; exact h.1.1.2.2.2 i hi⟩ hl
  obtain ⟨d1, d2⟩ := dieM_th P T p D W
  have u2 := u2.2
  rw [d1, d2] at u2
  have fr : ∀ k, k < 166 ∨ 182 ≤ k → k ≠ 23 → k ≠ 24 → k ≠ 32 → k ≠ 33 → A2 k = S k := fun k a b c d e => by rw [u3 k (by omega) (by omega) (by omega) (by omega) (by omega) b c d e, g2 k a]
  refine ⟨A, A2, e1, e2, u1, h.K.congr fun j hj => fr _ (by omega) (by omega) (by omega) (by omega) (by omega), h.TK.congr fun j hj _ _ => fr _ (by omega) (by omega) (by omega) (by omega) (by omega), u2.1, u2.2, fun k a b c => ?_⟩
  have := of_decide_eq_false a
  exact fr k (by omega) (by omega) (by omega) b c
theorem op_silent (x : Int32) (h : RR S P D T W E) : Good (f_X10_silent x) (f_X11_silent x) S := by
  have hN := h.wP.1
  have h0 := h.C.1
  rcases nI_cs x (n := pN P) (by omega) with hx | ⟨p, hp, rfl⟩
  · refine good_id h (r := -1) ?_ ?_
    · simp only [f_X10_silent, C_lives0 h.K hx, Option.bind_some, if_true]
    · simp only [f_X11_silent, nm, uM_id h0, F_isLiving0 h.B.1 hx, Option.bind_some, if_true]
  by_cases l : liv P D p = true
  rotate_left
  · refine good_id h (r := -1) ?_ ?_
    · simp only [f_X10_silent, C_lives h.K hN hp, if_neg l, Option.bind_some, if_true]
    · simp only [f_X11_silent, nm, uM_id h0, F_isLiving h.B.1 h.B.2.1 hN hp, if_neg l, Option.bind_some, if_true]
  have hn := h.wT.1.1
  have wD' := WFD_die (th := true) (W := W) (T := T) h.wT hN h.wD h.R.1.2 l
  obtain ⟨d1, d2⟩ := dieM_th P T p D W
  obtain ⟨A, A2, e1, e2, g1, g2, g3, g4, g5, g6⟩ := C_mind h l
  obtain ⟨f1, e3⟩ := C_spoken (c := 1) (show (1 : Nat) ∈ clanL by decide) g2 g3 h.wP h.wD hn
  obtain ⟨f2, e4⟩ := C_spoken (c := 166) (A := rM A2 182 f1) (show (166 : Nat) ∈ clanL by decide) (RK_rM (show (166 : Nat) ∈ clanL by decide) (by decide) g1) (g3.congr fun j hj _ _ => rM_off _ _ (by omega)) h.wP wD' hn
  obtain ⟨S1, hS1⟩ : ∃ S1, S1 = rM (rM A2 182 f1) 182 f2 := ⟨_, rfl⟩
  have c1 : ∀ k, scr k = false → k ≠ 32 → k ≠ 33 → S1 k = S k := fun k a b c => by
    have a' := of_decide_eq_false a
    rw [hS1, rM_off _ _ (by omega), rM_off _ _ (by omega), g6 k a b c]
  have c2 : S1 32 1 = nI (dLn D) := by rw [hS1, rM_off _ _ (by decide), rM_off _ _ (by decide)]; exact g4
  have c3 : ∀ i, i < 5 * dLn D → S1 33 i = W i := fun i hi => by rw [hS1, rM_off _ _ (by decide), rM_off _ _ (by decide)]; exact g5 i hi
  have hR : RR S1 P D T W E := rr_th h c1 c2 c3 (fun _ _ _ _ _ _ => rfl) (fun _ _ => rfl) (h.B.congr2 (by rw [c1 239 rfl (by decide) (by decide)]) (by rw [c1 239 rfl (by decide) (by decide)]) fun k _ _ _ _ _ => c1 k (scr_f (by omega)) (by omega) (by omega)) (fun i hi => by rw [c1 248 rfl (by decide) (by decide)]; exact h.2.1.1.2.2 i hi)
  obtain ⟨f3, e5⟩ := F_spoken hR.B hR.TF h.wP h.wD hn
  obtain ⟨f4, e6, hf4⟩ := F_thinks (rM S1 267 f3)
  obtain ⟨B1, hB1⟩ : ∃ B1, B1 = uM (rM (rM S1 267 f3) 242 f4) 239 5 1 := ⟨_, rfl⟩
  have o1 : ∀ k, k ≠ 239 → k ≠ 242 → k ≠ 267 → B1 k = S1 k := fun k a b c => by rw [hB1, uM_off _ _ _ a, rM_off _ _ b, rM_off _ _ c]
  have o2 : ∀ i, i ≠ 5 → B1 239 i = S1 239 i := fun i hi => by rw [hB1, uM_ne _ _ _ hi, rM_off _ _ (by decide), rM_off _ _ (by decide)]
  have b1 : RB B1 P D := hR.B.congr2 (o2 _ (by decide)) (o2 _ (by decide)) fun k _ _ _ _ _ => o1 k (by omega) (by omega) (by omega)
  have t1 : RTF B1 T := hR.TF.congr (o2 _ (by decide)) (o2 _ (by decide)) fun k _ _ _ => o1 k (by omega) (by omega) (by omega)
  obtain ⟨B2, e7, v1, v2, v3, v4, -⟩ := F_isDead (B := B1) (W := W) (th := true) b1 t1 (by rw [hB1, uM_eq]; rfl) h.wP h.wT h.wD h.R.1.2 (fun i hi => by rw [o1 _ (by decide) (by decide) (by decide)]; exact hR.2.1.1.2.2 i hi) l
  have t2 : RTF B2 T := t1.congr (v4 _ (by decide)) (v4 _ (by decide)) fun k _ _ _ => v3 k (by omega) (by omega) (by omega) (by omega) (by omega) (by omega)
  obtain ⟨f5, e8⟩ := F_spoken v1 t2 h.wP wD' hn
  have hw242 : RW ((rM B2 267 f5) 242) P D := by
    rw [rM_off _ _ (by decide), v3 _ (by decide) (by decide) (by decide) (by decide) (by decide) (by decide), hB1, uM_off _ _ _ (by decide), rM_same]
    exact hR.B.2.1.congr hN fun i hi => by rw [hf4 i hi, rM_off _ _ (by decide)]
  obtain ⟨B3, e9, w1, w2, w3, w4⟩ := F_endsThought (B := rM B2 267 f5) (RB_rM (by decide) v1).1 hw242 h.wP h.wD
  refine ⟨spkS P D T &&& (spkS P (dieM P T true p D W).1 T ^^^ (-1)), S1, B3, ?_, ?_, P, D, T, W, E, ?_⟩
  · unfold f_X10_silent f_X7_silencedBy
    rw [C_lives h.K hN hp, if_pos l]
    simp only [bind_x, i10, if_false]
    rw [e1]
    simp only [bind_x]
    rw [e2]
    simp only [bind_x]
    rw [e3]
    simp only [bind_x]
    rw [e4]
    simp only [bind_x]
    rw [hS1]
  · unfold f_X11_silent
    rw [nm_x, uM_id hR.C.1, F_isLiving hR.B.1 hR.B.2.1 hN hp, if_pos l]
    simp only [bind_x, i10, if_false]
    rw [e5]
    simp only [bind_x]
    rw [e6, ← hB1]
    simp only [bind_x]
    rw [e7]
    simp only [bind_x]
    rw [e8]
    simp only [bind_x]
    rw [e9]
    simp only [bind_x]
  · refine rr_th hR (fun _ _ _ _ => rfl) c2 c3 (fun k a b c d e => ?_) (fun i hi => ?_) w1 (fun i hi => ?_)
    · have a := of_decide_eq_false a
      rw [w2 k b c e, rM_off _ _ (by omega), v3 k b c d e (by omega) (by omega), o1 k b (by omega) (by omega)]
    · by_cases z : i = 5
      · rw [z, w4]; exact hR.C.2.1.symm
      · have : i ≠ 48 := fun e => by rw [e] at hi; cases hi
        rw [w3 i z, rM_off _ _ (by decide), v4 i this, o2 i z]
    · rw [w2 _ (by decide) (by decide) (by decide), rM_off _ _ (by decide)]
      have := v2 i (by rw [d1]; exact hi)
      rw [d2] at this
      exact this
end THINK2
