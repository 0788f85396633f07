/-! ===== who comes by a letter, were its owner dead ===== -/
section INH
variable {S : Mm} {P : PP} {D : DD} {T : TT} {W : Nat → Int32} {E : RE}
theorem heirW_dead (hw : WFT (pN P) T) {p l : Nat} (hp : p < pN P) (hN : pN P ≤ 12) : heirW P (sDead D p) T p l = heirW P D T p l := by
  have m := hw.2.2.1 p (by omega)
  have lv : ∀ q, q ≠ p → liv P (sDead D p) q = liv P D q := fun q hq => by
    unfold liv
    rw [show dDead (sDead D p) q = dDead D q from un_ne _ _ _ hq]
  have key : ∀ d k, k + d ≤ tWm T p → hwM P (sDead D p) T p l d k = hwM P D T p l d k := by
    intro d
    induction d with
    | zero => intro k _; rfl
    | succ d ih =>
      intro k hk
      obtain ⟨w1, w2, w3, w4⟩ := m.2.2 k (by omega)
      unfold hwM
      rw [ih (k + 1) (by omega), lv _ w3]
      by_cases z : tWi T (12 * p + k) = 0
      · rw [z]; simp
      · rw [lv (tWi T (12 * p + k) - 1) (by omega)]
  exact key _ _ (by omega)
theorem F_inherit (h : RR S P D T W E) {p l : Nat} (hl : l < 28) (lv : liv P D p = true) (ho : dOw D l = p + 1) {x : Int32} (hx : ¬ x < 0 ∧ ¬ 1 < x) : ∃ B, f_X11_inherit (nI p) (nI l) x S = (if x = 0 then some (eo (dOw (dieM P T true p D W).1 l), B) else if heirW P D T p l = 0 then some (0, B) else some (1, B)) ∧ (∀ k, scr k = false → k ≠ 239 → k ≠ 240 → k ≠ 248 → k ≠ 249 → B k = S k) ∧ (∀ i, ks i = true → B 239 i = S 239 i) ∧ RB B P D ∧ rkF B D W := by
  have hN := h.wP.1
  have hp := liv_lt lv
  obtain ⟨d1, d2⟩ := dieM_th P T p D W
  have wD' := WFD_die (th := true) (W := W) (T := T) h.wT hN h.wD h.R.1.2 lv
  obtain ⟨f4, e6, hf4⟩ := F_thinks S
  obtain ⟨B0, hB0⟩ : ∃ B0, B0 = uM (rM S 242 f4) 239 5 1 := ⟨_, rfl⟩
  obtain ⟨B1, hB1⟩ : ∃ B1, B1 = uM (uM B0 239 47 (nI l)) 239 48 0 := ⟨_, rfl⟩
  have o1 : ∀ k, k ≠ 239 → k ≠ 242 → B1 k = S k := fun k a b => by rw [hB1, hB0, uM_off _ _ _ a, uM_off _ _ _ a, uM_off _ _ _ a, rM_off _ _ b]
  have o2 : ∀ i, i ≠ 5 → i ≠ 47 → i ≠ 48 → B1 239 i = S 239 i := fun i a b c => by rw [hB1, hB0, uM_ne _ _ _ c, uM_ne _ _ _ b, uM_ne _ _ _ a, rM_off _ _ (by decide)]
  have b1 : RB B1 P D := h.B.congr2 (o2 _ (by decide) (by decide) (by decide)) (o2 _ (by decide) (by decide) (by decide)) fun k _ _ _ _ _ => o1 k (by omega) (by omega)
  have t1 : RTF B1 T := h.TF.congr (o2 _ (by decide) (by decide) (by decide)) (o2 _ (by decide) (by decide) (by decide)) fun k _ _ _ => o1 k (by omega) (by omega)
  obtain ⟨B2, e7, v1, v2, v3, v4, v5⟩ := F_isDead (B := B1) (W := W) (th := true) b1 t1 (by rw [hB1, hB0, uM_ne _ _ _ (by decide), uM_ne _ _ _ (by decide), uM_eq]; rfl) h.wP h.wT h.wD h.R.1.2 (fun i hi => by rw [o1 _ (by decide) (by decide)]; exact h.2.1.1.2.2 i hi) lv
  have v5 := v5 l hl (by rw [hB1, uM_ne _ _ _ (by decide), uM_eq]) ho
  rw [heirW_dead h.wT hp hN] at v5
  obtain ⟨B3, hB3⟩ : ∃ B3, B3 = uM B2 239 47 (-1) := ⟨_, rfl⟩
  have o3 : ∀ k, k ≠ 239 → B3 k = B2 k := fun k a => by rw [hB3, uM_off _ _ _ a]
  have o4 : ∀ i, i ≠ 47 → B3 239 i = B2 239 i := fun i a => by rw [hB3, uM_ne _ _ _ a]
  have b3 : RB B3 P (dieM P T true p D W).1 := v1.congr2 (o4 _ (by decide)) (o4 _ (by decide)) fun k _ _ _ _ _ => o3 k (by omega)
  have hw242 : RW (B3 242) P D := by
    rw [o3 _ (by decide), v3 _ (by decide) (by decide) (by decide) (by decide) (by decide) (by decide), hB1, hB0, uM_off _ _ _ (by decide), uM_off _ _ _ (by decide), uM_off _ _ _ (by decide), rM_same]
    exact h.B.2.1.congr hN hf4
  obtain ⟨B4, e9, w1, w2, w3, w4⟩ := F_endsThought (B := B3) b3.1 hw242 h.wP h.wD
  have s48 : B4 239 48 = b01 (decide (heirW P D T p l ≠ 0)) := by rw [w3 _ (by decide), o4 _ (by decide), v5]
  refine ⟨B4, ?_, fun k a b c d e => ?_, fun i hi => ?_, w1, fun i hi => ?_⟩
  · unfold f_X11_inherit
    rw [nm_x, uM_id h.C.1, F_isLiving h.B.1 h.B.2.1 hN hp, if_pos lv]
    simp only [bind_x, i10, if_false]
    rw [F_isLetter1 hl]
    simp only [bind_x, i10, if_false]
    rw [F_ownerOf h.B.2.1 hl, ho]
    simp only [bind_x]
    rw [if_pos ((eo_nI (by omega) (by omega)).mpr rfl), F_isIn1 hx.1 hx.2]
    simp only [bind_x, i10, if_false]
    rw [e6, ← hB0]
    simp only [bind_x]
    rw [nm_x, nm_x, ← hB1, e7]
    simp only [bind_x]
    rw [nm_x, ← hB3, F_ownerOf b3.2.1 hl]
    simp only [bind_x]
    rw [e9]
    simp only [bind_x]
    rw [s48]
    by_cases z : heirW P D T p l = 0
    · rw [if_pos z, z]; rfl
    · rw [if_neg z, decide_eq_true z]; rfl
  · have a := of_decide_eq_false a
    rw [w2 k b c e, o3 k b, v3 k b c d e (by omega) (by omega), o1 k b (by omega)]
  · by_cases z : i = 5
    · rw [z, w4]; exact h.C.2.1.symm
    · have n48 : i ≠ 48 := fun e => by rw [e] at hi; cases hi
      by_cases y : i = 47
      · rw [y, w3 _ (by decide), hB3, uM_eq]; exact h.C.2.2.1.symm
      · rw [w3 i z, o4 i y, v4 i n48, o2 i z y n48]
  · rw [w2 _ (by decide) (by decide) (by decide), o3 _ (by decide)]
    have := v2 i (by rw [d1]; exact hi)
    rw [d2] at this
    exact this
theorem op_inherit (x y z : Int32) (h : RR S P D T W E) : Good (f_X10_inherit x y z) (f_X11_inherit x y z) S := by
  have hN := h.wP.1
  have h0 := h.C.1
  rcases nI_cs x (n := pN P) (by omega) with hx | ⟨p, hp, rfl⟩
  · refine good_id h (r := -2) ?_ ?_
    · rcases nI_cs y (n := 28) (by omega) with hy | ⟨l, hl, rfl⟩
      · simp only [f_X10_inherit, C_isLetter0 hy, Option.bind_some, if_true]
      · simp only [f_X10_inherit, C_isLetter1 hl, C_lives0 h.K hx, Option.bind_some, i10, if_false, if_true]
    · simp only [f_X11_inherit, nm, uM_id h0, F_isLiving0 h.B.1 hx, Option.bind_some, if_true]
  by_cases l0 : liv P D p = true
  rotate_left
  · refine good_id h (r := -2) ?_ ?_
    · rcases nI_cs y (n := 28) (by omega) with hy | ⟨l, hl, rfl⟩
      · simp only [f_X10_inherit, C_isLetter0 hy, Option.bind_some, if_true]
      · simp only [f_X10_inherit, C_isLetter1 hl, C_lives h.K hN hp, if_neg l0, Option.bind_some, i10, if_false, if_true]
    · simp only [f_X11_inherit, nm, uM_id h0, F_isLiving h.B.1 h.B.2.1 hN hp, if_neg l0, Option.bind_some, if_true]
  rcases nI_cs y (n := 28) (by omega) with hy | ⟨l, hl, rfl⟩
  · refine good_id h (r := -2) ?_ ?_
    · simp only [f_X10_inherit, C_isLetter0 hy, Option.bind_some, if_true]
    · simp only [f_X11_inherit, nm, uM_id h0, F_isLiving h.B.1 h.B.2.1 hN hp, if_pos l0, F_isLetter0 hy, Option.bind_some, i10, if_false, if_true]
  have wo := (h.wD.1 l hl).1
  have ko := (k1l h.K hl).1
  -- the class, up to the owner
  have cls : f_X10_inherit (nI p) (nI l) z S = if eo (dOw D l) = nI p then (if z = 0 then (f_X7_heirOf (nI p) (nI l) S).bind fun q => some (q.1, q.2) else if z = 1 then (if eo (heirW P D T p l) = -1 then some (0, S) else some (1, S)) else some (-2, S)) else some (-2, S) := by
    unfold f_X10_inherit
    rw [C_isLetter1 hl]
    simp only [bind_x, i10, if_false]
    rw [C_lives h.K hN hp, if_pos l0]
    simp only [bind_x, i10, if_false]
    rw [gd_t (by omega) (by omega), ix_nI (by omega), ko]
    by_cases c : eo (dOw D l) = nI p
    · rw [if_pos c, if_pos c]
      by_cases c1 : z = 0
      · rw [if_pos c1, if_pos c1]
      · rw [if_neg c1, if_neg c1]
        by_cases c2 : z = 1
        · rw [if_pos c2, if_pos c2, C_heirByWill (D := D) h.TK hN h.wT hp hl (h.K.2.1)]
          simp only [bind_x]
        · rw [if_neg c2, if_neg c2]
    · rw [if_neg c, if_neg c]
  by_cases c : eo (dOw D l) = nI p
  rotate_left
  · refine good_id h (r := -2) (by rw [cls, if_neg c]) ?_
    simp only [f_X11_inherit, nm, uM_id h0, F_isLiving h.B.1 h.B.2.1 hN hp, if_pos l0, F_isLetter1 hl, Option.bind_some, i10, if_false, F_ownerOf h.B.2.1 hl]
    rw [if_neg c]
  have ho : dOw D l = p + 1 := (eo_nI (by omega) (by omega)).mp c
  rw [if_pos c] at cls
  by_cases r : z < 0 ∨ 1 < z
  · have z0 : z ≠ 0 := fun e => by rw [e] at r; exact absurd r (by decide)
    have z1 : z ≠ 1 := fun e => by rw [e] at r; exact absurd r (by decide)
    refine good_id h (r := -2) (by rw [cls, if_neg z0, if_neg z1]) ?_
    simp only [f_X11_inherit, nm, uM_id h0, F_isLiving h.B.1 h.B.2.1 hN hp, if_pos l0, F_isLetter1 hl, Option.bind_some, i10, if_false, F_ownerOf h.B.2.1 hl]
    rw [if_pos c, F_isIn0 r]
    simp only [bind_x, if_true]
  have hz : ¬ z < 0 ∧ ¬ 1 < z := ⟨fun e => r (Or.inl e), fun e => r (Or.inr e)⟩
  by_cases z0 : z = 0
  · obtain ⟨A, A2, e1, e2, g1, g2, g3, g4, g5, g6⟩ := C_mind h l0
    have hR : RR A2 P D T W E := rr_th h g6 g4 g5 (fun _ _ _ _ _ _ => rfl) (fun _ _ => rfl) (h.B.congr2 (by rw [g6 239 rfl (by decide) (by decide)]) (by rw [g6 239 rfl (by decide) (by decide)]) fun k _ _ _ _ _ => g6 k (scr_f (by omega)) (by omega) (by omega)) (fun i hi => by rw [g6 248 rfl (by decide) (by decide)]; exact h.2.1.1.2.2 i hi)
    obtain ⟨B, e3, u1, u2, u3, u4⟩ := F_inherit hR hl l0 ho hz
    rw [if_pos z0] at e3
    have k176 : A2 176 l = eo (dOw (dieM P T true p D W).1 l) := (g1.2.2.2.1 l hl).1
    refine ⟨_, A2, B, ?_, e3, P, D, T, W, E, rr_th hR (fun _ _ _ _ => rfl) g4 g5 u1 u2 u3 u4⟩
    rw [cls, if_pos z0]
    unfold f_X7_heirOf
    rw [e1]
    simp only [bind_x]
    rw [e2]
    simp only [bind_x]
    rw [gd_t (by omega) (by omega), ix_nI (by omega), k176]
    rfl
  · have z1 : z = 1 := by
      have a := Int32.le_iff_toInt_le.mp (i32_nlt.mp hz.1)
      have b := Int32.le_iff_toInt_le.mp (i32_nlt.mp hz.2)
      have d : z.toInt ≠ 0 := fun e => z0 (Int32.toInt_inj.mp (e.trans (by decide)))
      refine Int32.toInt_inj.mp ?_
      have a0 : (0 : Int32).toInt = 0 := by decide
      have a1 : (1 : Int32).toInt = 1 := by decide
      omega
    obtain ⟨B, e3, u1, u2, u3, u4⟩ := F_inherit h hl l0 ho hz
    rw [if_neg z0] at e3
    rw [if_neg z0, if_pos z1] at cls
    have hwl := heirW_le (P := P) (D := D) (T := T) (p := p) (l := l) h.wT (by omega)
    refine ⟨if heirW P D T p l = 0 then 0 else 1, S, B, ?_, ?_, P, D, T, W, E, rr_th h (fun _ _ _ _ => rfl) h.1.1.2.2.1 h.1.1.2.2.2 u1 u2 u3 u4⟩
    · rw [cls]
      by_cases w : heirW P D T p l = 0
      · rw [if_pos ((eo_m1 (by omega)).mpr w), if_pos w]
      · rw [if_neg (by rw [eo_m1 (by omega)]; exact w), if_neg w]
    · rw [e3]
      split <;> rfl
end INH
