/-! ===== the law's lines ===== -/
def cdF (cs : List Nat) : Nat → Nat := fun i => cs.getD i 0
theorem tyR_congr {f g : Nat → Nat} : ∀ (d lo : Nat) (ts : List Nat), (∀ i, lo ≤ i → i < lo + d → f i = g i) → tyR f d lo ts = tyR g d lo ts := by
  intro d
  induction d with
  | zero => intro lo ts _; rfl
  | succ d ih =>
    intro lo ts h
    show (tyS (f lo) ts).bind (tyR f d (lo + 1)) = (tyS (g lo) ts).bind (tyR g d (lo + 1))
    rw [h lo (Nat.le_refl _) (by omega)]
    congr 1
    funext ts'
    exact ih (lo + 1) ts' fun i a c => h i (by omega) (by omega)
theorem tyR_L {f : Nat → Nat} : ∀ (es : List Nat) (lo : Nat) (ts : List Nat), (∀ j, j < es.length → f (lo + j) = es.getD j 0) → tyR f es.length lo ts = tyL es ts := by
  intro es
  induction es with
  | nil => intro lo ts _; rfl
  | cons c es ih =>
    intro lo ts h
    show (tyS (f lo) ts).bind (tyR f es.length (lo + 1)) = (tyS c ts).bind (tyL es)
    have h0 : f lo = c := h 0 (Nat.succ_pos _)
    rw [h0]
    congr 1
    funext ts'
    refine ih (lo + 1) ts' fun j hj => ?_
    have := h (j + 1) (by simp; omega)
    rw [show lo + 1 + j = lo + (j + 1) by omega, this]
    rfl
theorem gAl {α : Type} (l r : List α) (d : α) {j : Nat} (h : j < l.length) : (l ++ r).getD j d = l.getD j d := by
  simp [List.getD_eq_getElem?_getD, List.getElem?_append_left h]
theorem gAr {α : Type} (l r : List α) (d : α) (j : Nat) : (l ++ r).getD (l.length + j) d = r.getD j d := by
  simp [List.getD_eq_getElem?_getD, List.getElem?_append_right]
theorem tyR_a (cs es : List Nat) (ts : List Nat) : tyR (cdF (cs ++ es)) es.length cs.length ts = tyL es ts := tyR_L es cs.length ts fun j _ => gAr cs es 0 j
theorem tyR_b (cs es : List Nat) {d lo : Nat} (h : lo + d ≤ cs.length) (ts : List Nat) : tyR (cdF (cs ++ es)) d lo ts = tyR (cdF cs) d lo ts := tyR_congr d lo ts fun i _ c => gAl (j := i) cs es 0 (by omega)
abbrev Ln3 : Type := Nat × Nat × Nat
def LF (cs : List Nat) (l : Ln3) : Prop := l.1 ≤ l.2.1 ∧ l.2.1 ≤ l.2.2 ∧ l.2.2 ≤ cs.length ∧ (∃ x, tyN x = true ∧ tyR (cdF cs) (l.2.1 - l.1) l.1 [] = some [x]) ∧ (l.2.1 = l.2.2 ∨ tyR (cdF cs) (l.2.2 - l.2.1) l.2.1 [] = some [3])
theorem LF.up {cs : List Nat} {l : Ln3} (h : LF cs l) (es : List Nat) : LF (cs ++ es) l := by
  obtain ⟨h1, h2, h3, ⟨x, hx, h4⟩, h5⟩ := h
  refine ⟨h1, h2, by rw [List.length_append]; omega, ⟨x, hx, ?_⟩, h5.imp id fun q => ?_⟩
  · rw [tyR_b cs es (by omega)]; exact h4
  · rw [tyR_b cs es (by omega)]; exact q
theorem JF.up {A00 A0 B00 B0 : Mm} {c g : Option (Int32 × Mm)} (h : JF A0 B0 c g) (a : CK A00 A0) (k : FK B00 B0) : JF A00 B00 c g := by
  obtain ⟨A', B', h1, h2, h3, h4, h5, h6⟩ := h
  exact ⟨A', B', h1, h2, a.trans h3, k.trans h4, h5, h6⟩
section LINES
variable {A00 B00 A0 B0 A B : Mm} {n m i o : Nat} {b : Nat → Nat} {cs pe : List Nat}
theorem TK.congr {A' : Mm} {r0 : Nat} (h : TK A n b r0 m) (e6 : A' r0 6 = A r0 6) (e : ∀ j, r0 < j → j < r0 + 4 → A' j = A j) : TK A' n b r0 m := by
  unfold TK TKs at h ⊢
  rw [e6, e (r0 + 1) (by omega) (by omega), e (r0 + 2) (by omega) (by omega), e (r0 + 3) (by omega) (by omega)]
  exact h
theorem JS.cu (h : JS A0 B0 n m b A B i cs pe o) {k : Nat} (x : Nat) (v : Int32) (h1 : k ≠ 187) (h2 : k ≠ 188) (h3 : k ≠ 194) : JS (uM A0 k x v) B0 n m b (uM A k x v) B i cs pe o := by
  obtain ⟨hi, ⟨c1, c2, c3, c4, c5, c6⟩, hf⟩ := h
  refine ⟨hi, ⟨fun j p q r => ?_, fun j hj => ?_, fun j hj => ?_, ?_, ?_, fun j hj => ?_⟩, hf⟩
  · funext y
    rw [uM_at, uM_at, c1 j p q r]
  · rw [uM_off _ _ _ (Ne.symm h1), uM_off _ _ _ (Ne.symm h1)]; exact c2 j hj
  · rw [uM_off _ _ _ (Ne.symm h3), uM_off _ _ _ (Ne.symm h3)]; exact c3 j hj
  · rw [uM_off _ _ _ (Ne.symm h3)]; exact c4
  · rw [uM_off _ _ _ (Ne.symm h1)]; exact c5
  · rw [uM_off _ _ _ (Ne.symm h2)]; exact c6 j hj
theorem JS.c2 (h : JS A0 B0 n m b A B i cs pe o) (v : Int32) : JS (uM A0 187 2 v) B0 n m b (uM A 187 2 v) B i cs pe o := by
  obtain ⟨hi, ⟨c1, c2, c3, c4, c5, c6⟩, hf⟩ := h
  refine ⟨hi, ⟨fun j p q r => ?_, fun j hj => ?_, fun j hj => ?_, ?_, ?_, fun j hj => ?_⟩, hf⟩
  · rw [uM_off _ _ _ p, uM_off _ _ _ p]; exact c1 j p q r
  · rw [uM_at, uM_at, c2 j hj]
  · rw [uM_off _ _ _ (by decide), uM_off _ _ _ (by decide)]; exact c3 j hj
  · rw [uM_off _ _ _ (by decide)]; exact c4
  · rw [uM_ne _ _ _ (by decide)]; exact c5
  · rw [uM_off _ _ _ (by decide)]; exact c6 j hj
theorem JS.fu (h : JS A0 B0 n m b A B i cs pe o) {k : Nat} (x : Nat) (v : Int32) (hk : k = 252 ∨ k = 253 ∨ k = 254) : JS A0 (uM B0 k x v) n m b A (uM B k x v) i cs pe o := by
  obtain ⟨hi, hc, h1, h2, h3, ⟨h4, h5⟩, h6, h7, h8⟩ := h
  refine ⟨hi, hc, fun j p q r s => ?_, ⟨fun j y hj => ?_, fun j hj => ?_⟩, h3.congr fun j p q => by rw [uM_off _ _ _ (by omega)], ⟨by rw [uM_off _ _ _ (by omega)]; exact h4, fun j hj => by rw [uM_off _ _ _ (by omega), uM_off _ _ _ (by omega)]; exact h5 j hj⟩, by rw [uM_off _ _ _ (by omega)]; exact h6, by rw [uM_off _ _ _ (by omega)]; exact h7, fun j hj => by rw [uM_off _ _ _ (by omega)]; exact h8 j hj⟩
  · funext y
    rw [uM_at, uM_at, h1 j p q r s]
  · rw [uM_at, uM_at, h2.1 j y hj]
  · rw [uM_off _ _ _ (by omega), uM_off _ _ _ (by omega)]; exact h2.2 j hj
/-- at the beginning of a line -/
def LSt (A00 B00 : Mm) (n m : Nat) (b : Nat → Nat) (A B : Mm) (i : Nat) (cs : List Nat) (Ls : List Ln3) : Prop := ∃ A0 B0 pe, JS A0 B0 n m b A B i cs pe 0 ∧ TK A0 n b 194 m ∧ CK A00 A0 ∧ FK B00 B0 ∧ A0 187 2 = nI Ls.length ∧ (∀ k, k < Ls.length → (A0 189 k = nI (Ls.getD k (0, 0, 0)).1 ∧ A0 190 k = nI (Ls.getD k (0, 0, 0)).2.1 ∧ A0 191 k = nI (Ls.getD k (0, 0, 0)).2.2) ∧ (B0 253 (16 + k) = nI (Ls.getD k (0, 0, 0)).1 ∧ B0 252 (16 + k) = nI (Ls.getD k (0, 0, 0)).2.1 ∧ B0 254 (16 + k) = nI (Ls.getD k (0, 0, 0)).2.2) ∧ LF cs (Ls.getD k (0, 0, 0))) ∧ cs.length ≤ i ∧ A0 184 = A00 184
theorem J_line (w : WB n b) (f : FP B00 n b) {Ls : List Ln3} (h : LSt A00 B00 n m b A B i cs Ls) (hL : Ls.length ≤ 16) (h0 : (tok n b 194 i).1 ≠ 0) (k2 : Int32 → Mm → Option (Int32 × Mm)) : JF A00 B00 (f_X4_readLine A) (f_X11_readText_2b k2 (nI Ls.length) B) ∨ ∃ i' cs' l A' B', f_X4_readLine A = some (1, A') ∧ f_X11_readText_2b k2 (nI Ls.length) B = k2 (nI (Ls.length + 1)) B' ∧ LSt A00 B00 n m b A' B' i' cs' (Ls ++ [l]) ∧ i < i' ∧ Ls.length < 16 := by
  obtain ⟨A0, B0, pe, j, t, ck, fk, l2, lr, hl, h184⟩ := h
  have lm : m ≤ 400 := t.2.1
  have f0 : FP B0 n b := fk.fp f
  have hi := j.im t h0
  have c0 : f_X8_isWord 194 (0 : Int32) A = _ := j.cword t w 0 (by omega)
  have d0 : f_X11_isWord (0 : Int32) B = _ := j.fword 0 (by omega)
  unfold f_X4_readLine f_X11_readText_2b
  rw [c0, bd, d0, bd]
  dsimp only
  by_cases p0 : (tok n b 194 i).1 = 1 ∧ (tok n b 194 i).2 = 0
  · rw [if_pos p0, if_pos p0, nm_x]
    have l2' : A 187 2 = nI Ls.length := by rw [j.2.1.2.1 2 (by decide)]; exact l2
    rw [l2']
    by_cases l16 : Ls.length = 16
    · obtain ⟨q1, q2, q3⟩ := j.err t 3
      rw [if_neg (show ¬ nI Ls.length < 16 from fun z => by have := (nI_ltI (b := 16) (by omega) (by omega)).mp z; omega), if_pos (show nI Ls.length = 16 by rw [l16]; rfl), q1, q2, gdw, erw]
      exact Or.inl (q3.up ck fk)
    · have ll : Ls.length < 16 := by omega
      have x16 : (16 : Int32) + nI Ls.length = nI (16 + Ls.length) := nI_add 16 Ls.length
      obtain ⟨A1, B1, a1, b1, j1⟩ := j.skip t w f0 hi
      have n1 : A1 187 1 = nI cs.length := j1.2.1.2.2.2.2.1
      have m1 : B1 239 28 = nI cs.length := j1.2.2.2.2.2.1.1
      rw [if_pos (show nI Ls.length < 16 from (nI_ltI (b := 16) (by omega) (by omega)).mpr ll), if_neg (show ¬ nI Ls.length = 16 from fun z => l16 ((nI_inj (b := 16) (by omega) (by omega)).mp z)), nm_x, x16, a1, bind_x, b1, bind_x, gd_t ll (by omega), nm_x, gd_t (by omega) (by omega), nm_x, ix_nI (by omega), ix_nI (by omega), n1, m1]
      have j2 := (j1.cu (k := 189) Ls.length (nI cs.length) (by decide) (by decide) (by decide)).fu (k := 253) (16 + Ls.length) (nI cs.length) (by omega)
      have t2 : TK (uM A0 189 Ls.length (nI cs.length)) n b 194 m := t.congr (by rw [uM_off _ _ _ (by decide)]) fun q _ _ => uM_off _ _ _ (by omega)
      have ck2 : CK A00 (uM A0 189 Ls.length (nI cs.length)) := ck.trans ⟨fun q r _ => uM_off _ _ _ (by omega), fun q _ _ => by rw [uM_off _ _ _ (by decide)]⟩
      have fk2 : FK B00 (uM B0 253 (16 + Ls.length) (nI cs.length)) := fk.u (kn_l (by omega) (by omega)) (fun q => absurd q (by decide))
      rcases J_value w t2 (fk2.fp f) j2 (by omega) with r | ⟨i3, es, A3, B3, a3, b3, j3, k3, k4, ty⟩
      · obtain ⟨A3, B3, a3, b3, r⟩ := r
        rw [a3, b3, bz, bm]
        exact Or.inl (JF.up ⟨A3, B3, rfl, rfl, r⟩ ck2 fk2)
      · have n3 : A3 187 1 = nI (cs ++ es).length := j3.2.1.2.2.2.2.1
        have m3 : B3 239 28 = nI (cs ++ es).length := j3.2.2.2.2.2.1.1
        have le3 := j3.1
        have lce : (cs ++ es).length = cs.length + es.length := List.length_append ..
        rw [a3, b3, bo, bn]
        dsimp only
        rw [gd_t ll (by omega), nm_x, gd_t (by omega) (by omega), nm_x, n3, m3]
        have j4 := (j3.cu (k := 190) Ls.length (nI (cs ++ es).length) (by decide) (by decide) (by decide)).fu (k := 252) (16 + Ls.length) (nI (cs ++ es).length) (by omega)
        have t4 : TK (uM (uM A0 189 Ls.length (nI cs.length)) 190 Ls.length (nI (cs ++ es).length)) n b 194 m := t2.congr (by rw [uM_off _ _ _ (by decide)]) fun q _ _ => uM_off _ _ _ (by omega)
        have ck4 : CK A00 (uM (uM A0 189 Ls.length (nI cs.length)) 190 Ls.length (nI (cs ++ es).length)) := ck2.trans ⟨fun q r _ => uM_off _ _ _ (by omega), fun q _ _ => by rw [uM_off _ _ _ (by decide)]⟩
        have fk4 : FK B00 (uM (uM B0 253 (16 + Ls.length) (nI cs.length)) 252 (16 + Ls.length) (nI (cs ++ es).length)) := fk2.u (kn_l (by omega) (by omega)) (fun q => absurd q (by decide))
        have c1 : f_X8_isWord 194 (1 : Int32) (uM A3 190 Ls.length (nI (cs ++ es).length)) = _ := j4.cword t4 w 1 (by omega)
        have d1 : f_X11_isWord (1 : Int32) (uM B3 252 (16 + Ls.length) (nI (cs ++ es).length)) = _ := j4.fword 1 (by omega)
        rw [c1, bd, d1, bd]
        -- the line's end
        have fin : ∀ (i5 : Nat) (e5 pe5 : List Nat) (A5 B5 : Mm), i < i5 → JS (uM (uM A0 189 Ls.length (nI cs.length)) 190 Ls.length (nI (cs ++ es).length)) (uM (uM B0 253 (16 + Ls.length) (nI cs.length)) 252 (16 + Ls.length) (nI (cs ++ es).length)) n m b A5 B5 i5 (cs ++ es ++ e5) pe5 0 → (cs ++ es ++ e5).length ≤ i5 → (e5 = [] ∨ TC 0 e5) → JF A00 B00 (f_X4_readLine_119 (nI Ls.length) A5) (f_X11_readText_83 k2 (nI Ls.length) (nI (16 + Ls.length)) B5) ∨ ∃ i' cs' l A' B', f_X4_readLine_119 (nI Ls.length) A5 = some (1, A') ∧ f_X11_readText_83 k2 (nI Ls.length) (nI (16 + Ls.length)) B5 = k2 (nI (Ls.length + 1)) B' ∧ LSt A00 B00 n m b A' B' i' cs' (Ls ++ [l]) ∧ i < i' ∧ Ls.length < 16 := fun i5 e5 pe5 A5 B5 hi5 j5 hl5 ty5 => by
          have n5 : A5 187 1 = nI (cs ++ es ++ e5).length := j5.2.1.2.2.2.2.1
          have m5 : B5 239 28 = nI (cs ++ es ++ e5).length := j5.2.2.2.2.2.1.1
          have o5 : A5 187 2 = nI Ls.length := by
            rw [j5.2.1.2.1 2 (by decide), uM_off _ _ _ (by decide), uM_off _ _ _ (by decide)]; exact l2
          have j6 := ((j5.cu (k := 191) Ls.length (nI (cs ++ es ++ e5).length) (by decide) (by decide) (by decide)).c2 (nI (Ls.length + 1))).fu (k := 254) (16 + Ls.length) (nI (cs ++ es ++ e5).length) (by omega)
          obtain ⟨A0', hA0'⟩ : ∃ X, X = uM (uM (uM (uM A0 189 Ls.length (nI cs.length)) 190 Ls.length (nI (cs ++ es).length)) 191 Ls.length (nI (cs ++ es ++ e5).length)) 187 2 (nI (Ls.length + 1)) := ⟨_, rfl⟩
          obtain ⟨B0', hB0'⟩ : ∃ X, X = uM (uM (uM B0 253 (16 + Ls.length) (nI cs.length)) 252 (16 + Ls.length) (nI (cs ++ es).length)) 254 (16 + Ls.length) (nI (cs ++ es ++ e5).length) := ⟨_, rfl⟩
          rw [← hA0', ← hB0'] at j6
          have t6 : TK A0' n b 194 m := t4.congr (by rw [hA0', uM_off _ _ _ (by decide), uM_off _ _ _ (by decide)]) fun q _ _ => by rw [hA0', uM_off _ _ _ (by omega), uM_off _ _ _ (by omega)]
          have ck6 : CK A00 A0' := ck4.trans ⟨fun q r _ => by rw [hA0', uM_off _ _ _ (by omega), uM_off _ _ _ (by omega)], fun q _ _ => by rw [hA0', uM_off _ _ _ (by decide), uM_off _ _ _ (by decide)]⟩
          have fk6 : FK B00 B0' := by rw [hB0']; exact fk4.u (kn_l (by omega) (by omega)) (fun q => absurd q (by decide))
          have c59 : f_X8_isSign 194 (59 : Int32) _ = _ := j6.csign t6 w 59 (by omega)
          have d59 : f_X11_isSign (59 : Int32) _ = _ := j6.fsign 59 (by decide)
          unfold f_X4_readLine_119 f_X11_readText_83 f_X8_skipSign
          rw [gd_t ll (by omega), ix_nI (by omega), nm_x, n5, uM_off _ _ _ (by decide : (187 : Nat) ≠ 191), o5, nI_1, nm_x, c59, bd, gd_t (by omega) (by omega), ix_nI (by omega), nm_x, m5, d59, bd]
          by_cases p5 : (tok n b 194 i5).1 = 3 ∧ (tok n b 194 i5).2 = 59
          · have hi6 := j6.im t6 (by omega)
            obtain ⟨A7, B7, a7, b7, j7⟩ := j6.skip t6 w (fk6.fp f) hi6
            rw [if_pos p5, if_pos p5, a7, b7, bind_x, bind_x, bind_x, nm_x]
            refine Or.inr ⟨i5 + 1, cs ++ es ++ e5, (cs.length, (cs ++ es).length, (cs ++ es ++ e5).length), A7, B7, gd_pos (Or.inr rfl), ?_, ⟨A0', B0', pe5, j7, t6, ck6, fk6, ?_, fun q hq => ?_, by omega, by rw [hA0', uM_off _ _ _ (by decide), uM_off _ _ _ (by decide), uM_off _ _ _ (by decide), uM_off _ _ _ (by decide)]; exact h184⟩, by omega, ll⟩
            · first | rfl | rw [nI_1]
            · rw [hA0', uM_eq, lA]
            · rw [lA] at hq
              have s1 : ∀ z, z = 189 ∨ z = 190 ∨ z = 191 → z ≠ 187 := fun z hz => by omega
              by_cases e : q = Ls.length
              · subst e
                rw [gA2]
                refine ⟨⟨?_, ?_, ?_⟩, ⟨?_, ?_, ?_⟩, ?_⟩
                · rw [hA0', uM_off _ _ _ (by decide), uM_off _ _ _ (by decide), uM_off _ _ _ (by decide), uM_eq]
                · rw [hA0', uM_off _ _ _ (by decide), uM_off _ _ _ (by decide), uM_eq]
                · rw [hA0', uM_off _ _ _ (by decide), uM_eq]
                · rw [hB0', uM_off _ _ _ (by decide), uM_off _ _ _ (by decide), uM_eq]
                · rw [hB0', uM_off _ _ _ (by decide), uM_eq]
                · rw [hB0', uM_eq]
                · have lc5 : (cs ++ es ++ e5).length = (cs ++ es).length + e5.length := List.length_append ..
                  refine ⟨by show cs.length ≤ (cs ++ es).length; omega, by show (cs ++ es).length ≤ (cs ++ es ++ e5).length; omega, Nat.le_refl _, ?_, ?_⟩
                  · obtain ⟨x, hx, s⟩ := ty [] (by show 0 ≤ 36; omega)
                    refine ⟨x, hx, ?_⟩
                    show tyR (cdF (cs ++ es ++ e5)) ((cs ++ es).length - cs.length) cs.length [] = some [x]
                    rw [tyR_b (cs ++ es) e5 (by omega), show (cs ++ es).length - cs.length = es.length by omega, tyR_a]
                    exact s
                  · rcases ty5 with z | z
                    · left
                      show (cs ++ es).length = (cs ++ es ++ e5).length
                      rw [z, List.append_nil]
                    · right
                      show tyR (cdF (cs ++ es ++ e5)) ((cs ++ es ++ e5).length - (cs ++ es).length) (cs ++ es).length [] = some [3]
                      rw [show (cs ++ es ++ e5).length - (cs ++ es).length = e5.length by omega, tyR_a]
                      exact z [] (by show 0 ≤ 0; omega)
              · rw [gA1 _ _ _ (by omega)]
                obtain ⟨⟨x1, x2, x3⟩, ⟨y1, y2, y3⟩, z⟩ := lr q (by omega)
                have ne : q ≠ Ls.length := e
                have ne2 : 16 + q ≠ 16 + Ls.length := by omega
                refine ⟨⟨?_, ?_, ?_⟩, ⟨?_, ?_, ?_⟩, ?_⟩
                · rw [hA0', uM_off _ _ _ (by decide), uM_off _ _ _ (by decide), uM_off _ _ _ (by decide), uM_ne _ _ _ ne]; exact x1
                · rw [hA0', uM_off _ _ _ (by decide), uM_off _ _ _ (by decide), uM_ne _ _ _ ne, uM_off _ _ _ (by decide)]; exact x2
                · rw [hA0', uM_off _ _ _ (by decide), uM_ne _ _ _ ne, uM_off _ _ _ (by decide), uM_off _ _ _ (by decide)]; exact x3
                · rw [hB0', uM_off _ _ _ (by decide), uM_off _ _ _ (by decide), uM_ne _ _ _ ne2]; exact y1
                · rw [hB0', uM_off _ _ _ (by decide), uM_ne _ _ _ ne2, uM_off _ _ _ (by decide)]; exact y2
                · rw [hB0', uM_ne _ _ _ ne2, uM_off _ _ _ (by decide), uM_off _ _ _ (by decide)]; exact y3
                · exact (z.up es).up e5
          · obtain ⟨q1, q2, q3⟩ := j6.err t6 1
            rw [if_neg p5, if_neg p5, q1, q2, gdw, erw, gdw]
            exact Or.inl (q3.up ck6 fk6)
        by_cases p1 : (tok n b 194 i3).1 = 1 ∧ (tok n b 194 i3).2 = 1
        · rw [if_pos p1, if_pos p1]
          have hi3 := j4.im t4 (by omega)
          obtain ⟨A5, B5, a5, b5, j5⟩ := j4.skip t4 w (fk4.fp f) hi3
          rw [a5, b5, bind_x, bind_x]
          rcases J_cond w t4 (fk4.fp f) j5 (by omega) with ⟨A6, B6, a6, b6, r⟩ | ⟨i6, e6, A6, B6, a6, b6, j6, k6, k7, ty6⟩
          · rw [a6, b6, bz, bm]
            exact Or.inl (JF.up ⟨A6, B6, rfl, rfl, r⟩ ck4 fk4)
          · rw [a6, b6, bo, bn]
            exact fin i6 e6 [] A6 B6 (by omega) j6 (by rw [List.length_append]; omega) (Or.inr ty6)
        · rw [if_neg p1, if_neg p1]
          exact fin i3 [] pe _ _ (by omega) (by rw [List.append_nil]; exact j4) (by rw [List.append_nil]; omega) (Or.inl rfl)
  · obtain ⟨q1, q2, q3⟩ := j.err t 1
    obtain ⟨n1, n2, -⟩ := j.ft.num
    rw [if_neg p0, if_neg p0, q1, gdw, if_neg (fun z => h0 (n2.mp z)), q2, erw]
    exact Or.inl (q3.up ck fk)
/-- all lines -/
theorem J_lines (w : WB n b) (f : FP B00 n b) : ∀ (d i : Nat) (cs : List Nat) (Ls : List Ln3) (A B : Mm) (c fc fr : Nat), m ≤ 400 → m - i ≤ d → d < fc → d < fr → c ≤ i → Ls.length ≤ 16 → LSt A00 B00 n m b A B i cs Ls →
    (∃ A' B', f_X4_read_18_25 fc (nI c) A = some (-1, A') ∧ f_X11_readText_2 fr (nI Ls.length) B = some (-1, B') ∧ CK A00 A' ∧ FK B00 B' ∧ A' 184 2 = B' 239 32 ∧ A' 184 3 = B' 239 33) ∨ ∃ i' cs' Ls' A' B', f_X4_read_18_25 fc (nI c) A = f_X4_read_18_57 A' ∧ f_X11_readText_2 fr (nI Ls.length) B = some (nI Ls'.length, B') ∧ LSt A00 B00 n m b A' B' i' cs' Ls' ∧ Ls'.length ≤ 16 := by
  intro d
  induction d using Nat.strongRecOn with
  | _ d ih =>
  intro i cs Ls A B c fc fr lm h1 h2 h3 h4 hL h
  obtain ⟨fc, rfl⟩ : ∃ k, fc = k + 1 := ⟨fc - 1, by omega⟩
  obtain ⟨fr, rfl⟩ : ∃ k, fr = k + 1 := ⟨fr - 1, by omega⟩
  have h' := h
  obtain ⟨A0, B0, pe, j, t, ck, fk, l2, lr, hl, h184⟩ := h'
  have him := j.1
  obtain ⟨t1, t2⟩ := tok_lt w isT1 i
  by_cases e : (tok n b 194 i).1 = 0
  · have ce : f_X4_read_18_25 (fc + 1) (nI c) A = f_X4_read_18_57 A := by
      show f_X4_read_18_25b (f_X4_read_18_25 fc) (nI c) A = _
      unfold f_X4_read_18_25b
      by_cases c4 : 400 ≤ c
      · rw [if_pos (show (400 : Int32) ≤ nI c from nI_ge_t (a := 400) c4 (by omega))]
      · rw [if_neg (show ¬ (400 : Int32) ≤ nI c from nI_ge_f (a := 400) (by omega) (by omega)), (j.t t).kind j.s7 j.1, bind_x, if_pos (show nI (tok n b 194 i).1 = 0 by rw [e]; rfl)]
    have fe : f_X11_readText_2 (fr + 1) (nI Ls.length) B = some (nI Ls.length, B) := by
      have d0 : f_X11_isWord (0 : Int32) B = _ := j.fword 0 (by omega)
      obtain ⟨n1, n2, -⟩ := j.ft.num
      show f_X11_readText_2b (f_X11_readText_2 fr) (nI Ls.length) B = _
      unfold f_X11_readText_2b
      rw [d0, bd, if_neg (by omega), if_pos (n2.mpr e)]
      all_goals rfl
    exact Or.inr ⟨i, cs, Ls, A, B, ce, fe, h, hL⟩
  · have hi := j.im t e
    have ce : f_X4_read_18_25 (fc + 1) (nI c) A = ((f_X4_readLine A).bind fun q_2 => if q_2.1 = 0 then some ((-1 : Int32), q_2.2) else nm (nI c + (1 : Int32)) fun x2_3 => f_X4_read_18_25 fc x2_3 q_2.2) := by
      show f_X4_read_18_25b (f_X4_read_18_25 fc) (nI c) A = _
      unfold f_X4_read_18_25b
      rw [if_neg (show ¬ (400 : Int32) ≤ nI c from nI_ge_f (a := 400) (by omega) (by omega)), (j.t t).kind j.s7 j.1, bind_x, if_neg (n_ne 0 (x := 0) rfl e (by omega) (by omega))]
      all_goals rfl
    rw [ce]
    rw [show f_X11_readText_2 (fr + 1) (nI Ls.length) B = f_X11_readText_2b (f_X11_readText_2 fr) (nI Ls.length) B from rfl]
    rcases J_line w f h hL e (f_X11_readText_2 fr) with ⟨A1, B1, a1, b1, r⟩ | ⟨i1, cs1, l, A1, B1, a1, b1, s1, k1, k2⟩
    · refine Or.inl ⟨A1, B1, ?_, b1, r⟩
      rw [a1, bz]
      all_goals rfl
    · rw [a1, bo, nm_x, nI_1, b1]
      have r := ih (d - 1) (by omega) i1 cs1 (Ls ++ [l]) A1 B1 (c + 1) fc fr lm (by omega) (by omega) (by omega) (by omega) (by rw [lA]; omega) s1
      rw [lA] at r
      exact r
end LINES
