/-! ===== by how few weddings: both sides come to the same ===== -/
def o1M (P : PP) (p : Nat) (x : Int32) (D : DD) : Option (Nat × Nat) := fiO (pN P) (g1M P p x D) (pN P) 0
def o2M (P : PP) (p : Nat) (x : Int32) (D : DD) : Option (Nat × Nat) := fiO (pN P) (g2M P p x D) (pN P) 0
def cvM (P : PP) (p : Nat) (x : Int32) (D : DD) (f : Nat → Int32) : Nat → Int32 :=
  if wrM P D p x = true then upd f 0 0 else if (o1M P p x D).isSome = true then pl1 f (o1M P p x D) else pl3 P p x D f (o2M P p x D)
def rvM (P : PP) (p : Nat) (x : Int32) (D : DD) (f : Nat → Int32) : Nat → Int32 :=
  if wrM P D p x = true then f else if (o1M P p x D).isSome = true then co1 f (o1M P p x D) else co3 P p x D f (o2M P p x D)
def rnM (P : PP) (p : Nat) (x : Int32) (D : DD) : Int32 :=
  if wrM P D p x = true then 0 else if (o1M P p x D).isSome = true then 1 else if (o2M P p x D).isSome = true then 2 else -1
theorem cv_rv {P : PP} {p : Nat} {x : Int32} {D : DD} {f g : Nat → Int32} (hf : ∀ j, j < 5 → f j = -1) (hg : ∀ j, j < 4 → g j = -1) : cvM P p x D f 0 = rnM P p x D ∧ ∀ i, i < 4 → cvM P p x D f (i + 1) = rvM P p x D g i := by
  have f0 := hf 0 (by omega)
  have fi : ∀ i, i < 4 → f (i + 1) = g i := fun i hi => by rw [hf _ (by omega), hg i hi]
  have u4 : ∀ i, i < 4 → i = 0 ∨ i = 1 ∨ i = 2 ∨ i = 3 := fun i hi => by omega
  unfold cvM rvM rnM
  by_cases w : wrM P D p x = true
  · rw [if_pos w, if_pos w, if_pos w]
    exact ⟨up_eq _ _ _, fun i hi => by rw [up_ne _ _ (by omega)]; exact fi i hi⟩
  rw [if_neg w, if_neg w, if_neg w]
  have two : ∀ (s : Option (Nat × Nat)), (∀ i, i < 4 → pl2 f s (i + 1) = co2 g s i) := fun s i hi => by
    cases s with
    | none => exact fi i hi
    | some y =>
      obtain ⟨a, b⟩ := y
      show upd (upd f 3 (nI a)) 4 (nI b) (i + 1) = upd (upd g 2 (nI a)) 3 (nI b) i
      unfold upd
      rcases u4 i hi with rfl | rfl | rfl | rfl
      · exact fi 0 hi
      · exact fi 1 hi
      · rfl
      · rfl
  cases e1 : o1M P p x D with
  | some y =>
    obtain ⟨a, b⟩ := y
    refine ⟨rfl, fun i hi => ?_⟩
    show upd (upd (upd f 0 1) 1 (nI a)) 2 (nI b) (i + 1) = upd (upd g 0 (nI a)) 1 (nI b) i
    unfold upd
    rcases u4 i hi with rfl | rfl | rfl | rfl
    · rfl
    · rfl
    · exact fi 2 hi
    · exact fi 3 hi
  | none =>
    simp only [Option.isSome_none, Bool.false_eq_true, if_false]
    cases e2 : o2M P p x D with
    | none => exact ⟨f0, fun i hi => fi i hi⟩
    | some y =>
      obtain ⟨a, b⟩ := y
      refine ⟨rfl, fun i hi => ?_⟩
      have t := two (seM P p x (jnD D a b) (a + 1))
      show upd (upd (upd (pl2 f (seM P p x (jnD D a b) (a + 1))) 0 2) 1 (nI a)) 2 (nI b) (i + 1) = upd (upd (co2 g (seM P p x (jnD D a b) (a + 1))) 0 (nI a)) 1 (nI b) i
      generalize seM P p x (jnD D a b) (a + 1) = s at t ⊢
      unfold upd
      rcases u4 i hi with rfl | rfl | rfl | rfl
      · rfl
      · rfl
      · exact t 2 hi
      · exact t 3 hi
def endW (x1 x2 x3 : Int32) (S : Mm) : Option (Int32 × Mm) :=
   (f_X1_become 166 1 S).bind fun S_1 =>
   (f_X7_isWritable x1 x2 S_1).bind fun q_2 =>
   if q_2.1 = 0 then (
    (f_X7_planOne x1 x2 q_2.2).bind fun q_3 =>
    if q_3.1 = 0 then (
     (f_X7_planTwo x1 x2 q_3.2).bind fun S_4 =>
     f_X7_fewestWeddings_72 x3 S_4
    ) else (
     f_X7_fewestWeddings_72 x3 q_3.2
    )
   ) else (
    nm (uM q_2.2 183 0 (0 : Int32)) fun S_5 =>
    f_X7_fewestWeddings_72 x3 S_5
   )
theorem C_fill5 (A : Mm) (y x z : Int32) : ∃ f, f_X7_fewestWeddings y x z A = endW y x z (rM A 183 f) ∧ ∀ j, j < 5 → f j = -1 := by
  have := (itr_for (fun _ _ _ _ _ => none) (fun k => f_X7_fewestWeddings_3b k) (fun f i (s : Nat → Int32) => f y x z (nI i) (rM A 183 s)) 5 (fun i s => upd s i (-1)) (fun s => endW y x z (rM A 183 s)) (fun _ _ => True) ?_ ?_ 5 0 FU (A 183) (by omega) (by unfold FU; omega) trivial).1
  · rw [rM_id] at this
    exact ⟨_, this, fill_at (v := fun _ => -1) (A 183) 5⟩
  · intro rec i s hi _
    refine ⟨?_, trivial⟩
    show f_X7_fewestWeddings_3b rec y x z (nI i) (rM A 183 s) = _
    unfold f_X7_fewestWeddings_3b
    rw [if_neg (show ¬ (5 : Int32) ≤ nI i from nI_ge_f (a := 5) hi (by omega)), gd_t (by omega) (by omega), nm_x, nm_x, ix_nI (by omega), uM_rMs, nI_1]
  · intro rec s _
    show f_X7_fewestWeddings_3b rec y x z (nI 5) (rM A 183 s) = _
    unfold f_X7_fewestWeddings_3b
    rw [if_pos (show (5 : Int32) ≤ nI 5 from nI_ge_t (a := 5) (by omega) (by omega))]
    rfl
def endV (x1 x2 : Int32) (S : Mm) : Option (Int32 × Mm) :=
   (f_X11_canWriteDeed x1 x2 S).bind fun q_1 =>
   if q_1.1 = 0 then (
    (f_X11_canByWeddings x1 x2 (1 : Int32) q_1.2).bind fun q_2 =>
    if q_2.1 = 0 then (
     (f_X11_canByWeddings x1 x2 (2 : Int32) q_2.2).bind fun q_3 =>
     if q_3.1 = 0 then (
      some ((-1 : Int32), q_3.2)
     ) else (
      some ((2 : Int32), q_3.2)
     )
    ) else (
     some ((1 : Int32), q_2.2)
    )
   ) else (
    some ((0 : Int32), q_1.2)
   )
theorem F_fill4 (A : Mm) (y x : Int32) : ∃ f, f_X11_fewestWeddings y x A = endV y x (rM A 268 f) ∧ ∀ j, j < 4 → f j = -1 := by
  have := (itr_for (fun _ _ _ _ => none) (fun k => f_X11_fewestWeddings_2b k) (fun f i (s : Nat → Int32) => f y x (nI i) (rM A 268 s)) 4 (fun i s => upd s i (-1)) (fun s => endV y x (rM A 268 s)) (fun _ _ => True) ?_ ?_ 4 0 FU (A 268) (by omega) (by unfold FU; omega) trivial).1
  · rw [rM_id] at this
    exact ⟨_, this, fill_at (v := fun _ => -1) (A 268) 4⟩
  · intro rec i s hi _
    refine ⟨?_, trivial⟩
    show f_X11_fewestWeddings_2b rec y x (nI i) (rM A 268 s) = _
    unfold f_X11_fewestWeddings_2b
    rw [if_neg (show ¬ (4 : Int32) ≤ nI i from nI_ge_f (a := 4) hi (by omega)), gd_t (by omega) (by omega), nm_x, nm_x, ix_nI (by omega), uM_rMs, nI_1]
  · intro rec s _
    show f_X11_fewestWeddings_2b rec y x (nI 4) (rM A 268 s) = _
    unfold f_X11_fewestWeddings_2b
    rw [if_pos (show (4 : Int32) ≤ nI 4 from nI_ge_t (a := 4) (by omega) (by omega))]
    rfl
section WEDS2
variable {P : PP} {D : DD} {T : TT} {W : Nat → Int32}
theorem C_few {A : Mm} (hK : RK (fun j => A (1 + j)) P D) (hP : WFP P) (hD : WFD P D) {p : Nat} (hp : p < pN P) (x z : Int32) : ∃ A' f, f_X7_fewestWeddings (nI p) x z A = f_X7_fewestWeddings_72 z A' ∧ (∀ j, j < 5 → f j = -1) ∧ (∀ k, k < 166 ∨ 184 ≤ k → A' k = A k) ∧ ∀ i, A' 183 i = cvM P p x D f i := by
  have hN := hP.1
  obtain ⟨f, e0, hf⟩ := C_fill5 A (nI p) x z
  obtain ⟨A1, e1, g1, g2⟩ := C_become (A := rM A 183 f) (c0 := 166) (c1 := 1) (Or.inr (by omega))
  have k1 : RK (fun j => A1 (166 + j)) P D := hK.cong2 hN fun j i hji => by
    have hj := of_decide_eq_true hji
    rw [show A (1 + j) i = (rM A 183 f) (1 + j) i by rw [rM_off _ _ (by omega)]]
    exact g1 j i hji
  have s183 : A1 183 = f := by rw [g2 _ (by decide), rM_same]
  have fr : ∀ k, k < 166 ∨ 184 ≤ k → A1 k = A k := fun k hk => by rw [g2 k (by omega), rM_off _ _ (by omega)]
  rw [e0]
  unfold endW
  rw [e1]
  simp only [bind_x]
  rw [C_isWritable k1 hP hD hp]
  simp only [bind_x]
  by_cases w : wrM P D p x = true
  · rw [if_pos w, if_neg (by decide), nm_x]
    refine ⟨_, f, rfl, hf, fun k hk => by rw [uM_off _ _ _ (by omega), fr k hk], fun i => ?_⟩
    unfold cvM
    rw [if_pos w, uM_row, s183]
  · rw [if_neg w, if_pos rfl]
    obtain ⟨A2, e2, t1, t2, t3⟩ := C_planOne A1 hP hD hp x (pN P) 0 FU A1 (by omega) (by unfold FU; omega) ⟨k1, fun _ _ _ => rfl⟩
    rw [s183] at t3
    unfold f_X7_planOne
    rw [show (0 : Int32) = nI 0 from rfl, e2]
    simp only [bind_x]
    by_cases o : (o1M P p x D).isSome = true
    · have o' : (fiO (pN P) (g1M P p x D) (pN P) 0).isSome = true := o
      rw [if_pos o', if_neg (by decide)]
      refine ⟨A2, f, rfl, hf, fun k hk => by rw [t2 k (by omega) (by omega) (by omega), fr k hk], fun i => ?_⟩
      unfold cvM
      rw [if_neg w, if_pos o]
      exact t3 i
    · have on : fiO (pN P) (g1M P p x D) (pN P) 0 = none := by
        cases y : fiO (pN P) (g1M P p x D) (pN P) 0 with
        | none => rfl
        | some v => exact absurd (show (o1M P p x D).isSome = true by unfold o1M; rw [y]; rfl) o
      have o' : ¬ (fiO (pN P) (g1M P p x D) (pN P) 0).isSome = true := o
      rw [if_neg o', if_pos (show (0 : Int32) = nI 0 from rfl)]
      rw [on] at t3
      have t4 : A2 183 = f := funext t3
      obtain ⟨A3, e3, v1, v2, v3⟩ := C_planTwo A2 hP hD hp x (pN P) 0 FU A2 (by omega) (by unfold FU; omega) ⟨t1, fun _ _ _ => rfl⟩
      rw [t4] at v3
      unfold f_X7_planTwo
      rw [show (0 : Int32) = nI 0 from rfl, e3]
      simp only [bind_x]
      refine ⟨A3, f, rfl, hf, fun k hk => by rw [v2 k (by omega) (by omega) (by omega), t2 k (by omega) (by omega) (by omega), fr k hk], fun i => ?_⟩
      unfold cvM
      rw [if_neg w, if_neg o]
      exact v3 i
theorem F_few {B : Mm} (hB : RB B P D) (hP : WFP P) (hD : WFD P D) {p : Nat} (hp : p < pN P) (x : Int32) : ∃ B' f, f_X11_fewestWeddings (nI p) x B = some (rnM P p x D, B') ∧ (∀ j, j < 4 → f j = -1) ∧ RB B' P D ∧ (∀ k, k ≠ 240 → k ≠ 249 → k ≠ 268 → B' k = B k) ∧ ∀ i, B' 268 i = rvM P p x D f i := by
  have hN := hP.1
  obtain ⟨f, e0, hf⟩ := F_fill4 B (nI p) x
  obtain ⟨B1, hB1⟩ : ∃ B1, B1 = rM B 268 f := ⟨_, rfl⟩
  have b1 : RB B1 P D := by rw [hB1]; exact RB_rM (by decide) hB
  have s268 : B1 268 = f := by rw [hB1, rM_same]
  have fr : ∀ k, k ≠ 268 → B1 k = B k := fun k hk => by rw [hB1, rM_off _ _ hk]
  rw [e0, ← hB1]
  unfold endV
  rw [F_canWD b1 hP hD hp]
  simp only [bind_x]
  by_cases w : wrM P D p x = true
  · rw [if_pos w, if_neg (by decide)]
    refine ⟨B1, f, ?_, hf, b1, fun k _ _ hk => fr k hk, fun i => ?_⟩
    · unfold rnM; rw [if_pos w]
    · unfold rvM; rw [if_pos w, s268]
  · rw [if_neg w, if_pos rfl]
    obtain ⟨B2, e2, t1, t2, t3⟩ := F_by1 B1 hP hD hp x (pN P) 0 FU B1 (by omega) (by unfold FU; omega) ⟨b1, fun _ _ _ => rfl⟩
    rw [s268] at t3
    unfold f_X11_canByWeddings
    rw [show (0 : Int32) = nI 0 from rfl, e2]
    simp only [bind_x]
    by_cases o : (o1M P p x D).isSome = true
    · have o' : (fiO (pN P) (g1M P p x D) (pN P) 0).isSome = true := o
      rw [if_pos o', if_neg (by decide)]
      refine ⟨B2, f, ?_, hf, t1, fun k a b c => by rw [t2 k a b c, fr k c], fun i => ?_⟩
      · unfold rnM; rw [if_neg w, if_pos o]
      · unfold rvM; rw [if_neg w, if_pos o]; exact t3 i
    · have on : fiO (pN P) (g1M P p x D) (pN P) 0 = none := by
        cases y : fiO (pN P) (g1M P p x D) (pN P) 0 with
        | none => rfl
        | some v => exact absurd (show (o1M P p x D).isSome = true by unfold o1M; rw [y]; rfl) o
      have o' : ¬ (fiO (pN P) (g1M P p x D) (pN P) 0).isSome = true := o
      rw [if_neg o', if_pos (show (0 : Int32) = nI 0 from rfl)]
      rw [on] at t3
      have t4 : B2 268 = f := funext t3
      obtain ⟨B3, e3, v1, v2, v3⟩ := F_by2 B2 hP hD hp x (pN P) 0 FU B2 (by omega) (by unfold FU; omega) ⟨t1, fun _ _ _ => rfl⟩
      rw [t4] at v3
      rw [e3]
      simp only [bind_x]
      refine ⟨B3, f, ?_, hf, v1, fun k a b c => by rw [v2 k a b c, t2 k a b c, fr k c], fun i => ?_⟩
      · unfold rnM
        rw [if_neg w, if_neg o]
        by_cases u : (o2M P p x D).isSome = true
        · rw [if_pos u]
          have u' : (fiO (pN P) (g2M P p x D) (pN P) 0).isSome = true := u
          rw [if_pos u', if_neg (by decide)]
        · rw [if_neg u]
          have u' : ¬ (fiO (pN P) (g2M P p x D) (pN P) 0).isSome = true := u
          rw [if_neg u', if_pos (show (0 : Int32) = nI 0 from rfl)]
      · unfold rvM; rw [if_neg w, if_neg o]; exact v3 i
end WEDS2
section WEDS3
variable {S : Mm} {P : PP} {D : DD} {T : TT} {W : Nat → Int32} {E : RE}
theorem op_weddings (x y z : Int32) (h : RR S P D T W E) : Good (f_X10_weddings x y z) (f_X11_weddings x y z) S := by
  have hN := h.wP.1
  have h0 := h.C.1
  have hn := h.wT.1.1
  rcases nI_cs x (n := pN P) (by omega) with hx | ⟨p, hp, rfl⟩
  · refine good_id h (r := -1) ?_ ?_
    · simp only [f_X10_weddings, C_lives0 h.K hx, Option.bind_some, if_true]
    · simp only [f_X11_weddings, nm, uM_id h0, F_isLiving0 h.B.1 hx, Option.bind_some, if_true]
  by_cases l : liv P D p = true
  rotate_left
  · refine good_id h (r := -1) ?_ ?_
    · simp only [f_X10_weddings, C_lives h.K hN hp, if_neg l, Option.bind_some, if_true]
    · simp only [f_X11_weddings, nm, uM_id h0, F_isLiving h.B.1 h.B.2.1 hN hp, if_neg l, Option.bind_some, if_true]
  rcases nI_cs y (n := tDn T) (by omega) with hy | ⟨dd, hd, rfl⟩
  · refine good_id h (r := -1) ?_ ?_
    · simp only [f_X10_weddings, C_lives h.K hN hp, if_pos l, C_isDeed0 h.TK hy, Option.bind_some, i10, if_false, if_true]
    · simp only [f_X11_weddings, nm, uM_id h0, F_isLiving h.B.1 h.B.2.1 hN hp, if_pos l, F_isDeed0 h.TF hy, Option.bind_some, i10, if_false, if_true]
  rcases nI_cs z (n := 5) (by omega) with hz | ⟨j, hj, rfl⟩
  · have r : z < 0 ∨ 4 < z := hz.imp id fun e => i32_lt_of_le (b := nI 5) (show (4 : Int32) < nI 5 from (nI_ltI (a := 4) (b := 5) (by omega) (by omega)).mpr (by omega)) e
    refine good_id h (r := -1) ?_ ?_
    · simp only [f_X10_weddings, C_lives h.K hN hp, if_pos l, C_isDeed1 h.TK hn hd, Option.bind_some, i10, if_false]
      by_cases c : z < 0
      · rw [if_pos c]
      · rw [if_neg c, if_neg (i32_nle.mpr (r.resolve_left c))]
    · simp only [f_X11_weddings, nm, uM_id h0, F_isLiving h.B.1 h.B.2.1 hN hp, if_pos l, F_isDeed1 h.TF hn hd, F_isIn0 r, Option.bind_some, i10, if_false, if_true]
  obtain ⟨A, f, e1, hf, g1, g2⟩ := C_few h.K h.wP h.wD hp (tDs T dd) (nI j)
  have hag : agS S A := ⟨fun k a b => g1 k (by have := of_decide_eq_false a; omega), fun i _ => by rw [g1 _ (by decide)]⟩
  have hR := h.scr hag
  obtain ⟨B, g, e2, hg, v1, v2, v3⟩ := F_few hR.B h.wP h.wD hp (tDs T dd)
  obtain ⟨q0, q1⟩ := cv_rv (P := P) (p := p) (x := tDs T dd) (D := D) hf hg
  have l0 : ¬ nI j < 0 := nI_pos (by omega)
  have l4 : nI j ≤ 4 := nI_ge_t (b := 4) (by omega) (by omega)
  refine ⟨A 183 j, A, B, ?_, ?_, P, D, T, W, E, rr_th hR (fun _ _ _ _ => rfl) hR.1.1.2.2.1 hR.1.1.2.2.2 (fun k a b c d e => ?_) (fun i _ => ?_) v1 (fun i hi => ?_)⟩
  · unfold f_X10_weddings
    rw [C_lives h.K hN hp, if_pos l]
    simp only [bind_x, i10, if_false]
    rw [C_isDeed1 h.TK hn hd]
    simp only [bind_x, i10, if_false]
    rw [if_neg l0, if_pos l4, gd_t (by omega) (by omega), ix_nI (by omega), (t17d h.TK hd).2.1, e1]
    unfold f_X7_fewestWeddings_72
    rw [gd_t (by omega) (by omega), ix_nI (by omega)]
    rfl
  · unfold f_X11_weddings
    rw [nm_x, uM_id hR.C.1, F_isLiving hR.B.1 hR.B.2.1 hN hp, if_pos l]
    simp only [bind_x, i10, if_false]
    rw [F_isDeed1 hR.TF hn hd]
    simp only [bind_x, i10, if_false]
    rw [F_isIn1 l0 (i32_nlt.mpr l4)]
    simp only [bind_x, i10, if_false]
    rw [gd_t (by omega) (by omega), ix_nI (by omega), show A 263 dd = tDs T dd from (hR.TF.2.2.2.2 dd hd).2.1, e2]
    simp only [bind_x]
    rw [g2]
    cases j with
    | zero => rw [if_pos (show nI 0 = 0 from rfl), q0]
    | succ j => rw [if_neg (fun e => by have := (nI_0iff (by omega)).mp e; omega), nI_sub1 (by omega), gd_t (by omega) (by omega), ix_nI (by omega), v3, Nat.add_sub_cancel, q1 j (by omega)]
  · have a := of_decide_eq_false a
    exact v2 k c e (by omega)
  · rw [v2 _ (by decide) (by decide) (by decide)]
  · rw [v2 _ (by decide) (by decide) (by decide)]
    exact hR.2.1.1.2.2 i hi
end WEDS3
