/-! ===== a will's lines ===== -/
section WLINE
variable {A0 B0 A B : Mm} {n m i : Nat} {b : Nat → Nat} {Ws : List Wl3}
theorem WS.push (h : WS A0 B0 n m b A B i Ws) {l : Wl3} (a : A 199 Ws.length = l.1 ∧ A 200 Ws.length = nI l.2.1 ∧ A 201 Ws.length = eo l.2.2) (e : B 259 (144 + Ws.length) = l.1 ∧ B 260 (144 + Ws.length) = nI l.2.1 ∧ B 261 (144 + Ws.length) = nI l.2.2) : WS A0 B0 n m b (uM A 198 5 (nI (Ws.length + 1))) B i (Ws ++ [l]) := by
  obtain ⟨h1, h2, h3, h4, h5, h6, h7, ⟨h8, h9, h10⟩, h11⟩ := h
  refine ⟨h1, h2.congr (by rw [uM_off _ _ _ (by decide)]) fun j p q => uM_off _ _ _ (by omega), by rw [uM_off _ _ _ (by decide)]; exact h3, h4.trans ⟨fun j p q => uM_off _ _ _ (by omega), fun j p q => by rw [uM_off _ _ _ (by decide)]⟩, by rw [uM_off _ _ _ (by decide)]; exact h5, h6, h7, ⟨by rw [uM_eq, lA], by rw [uM_ne _ _ _ (by decide)]; exact h9, by rw [uM_ne _ _ _ (by decide)]; exact h10⟩, fun k hk => ?_⟩
  rw [uM_off _ _ _ (by decide), uM_off _ _ _ (by decide), uM_off _ _ _ (by decide)]
  rw [lA] at hk
  by_cases c : k = Ws.length
  · subst c
    rw [gA2]
    exact ⟨a, e⟩
  · rw [gA1 _ _ _ (by omega)]
    exact h11 k (by omega)
theorem J_wend (w : WB n b) (f : FP B0 n b) (h : WS A0 B0 n m b A B i Ws) (hL : Ws.length < 12) {l : Wl3} (a : A 199 Ws.length = l.1 ∧ A 200 Ws.length = nI l.2.1 ∧ A 201 Ws.length = eo l.2.2) (e : B 259 (144 + Ws.length) = l.1 ∧ B 260 (144 + Ws.length) = nI l.2.1 ∧ B 261 (144 + Ws.length) = nI l.2.2) : JF A0 B0 (f_X9_readLine_147 A) (f_X11_readLine_119 B) ∨ ∃ A' B', f_X9_readLine_147 A = some (1, A') ∧ f_X11_readLine_119 B = some (0, B') ∧ WS A0 B0 n m b A' B' (i + 1) (Ws ++ [l]) := by
  have s5 := h.2.2.2.2.2.2.2.1.1
  have g := h.push a e
  have c59 : f_X8_isSign 202 (59 : Int32) (uM A 198 5 (nI (Ws.length + 1))) = _ := g.csign w 59 (by omega)
  have d59 : f_X11_isSign (59 : Int32) B = _ := g.fsign
  unfold f_X9_readLine_147 f_X11_readLine_119 f_X8_skipSign
  rw [s5, nI_1, nm_x, c59, bd, d59, bd]
  by_cases p : (tok n b 202 i).1 = 3 ∧ (tok n b 202 i).2 = 59
  · have hi := g.im (by omega)
    obtain ⟨A', B', a1, b1, g1, -⟩ := g.skip w f hi (by omega)
    rw [if_pos p, if_pos p, a1, bind_x, bind_x, b1, bind_x]
    exact Or.inr ⟨A', B', gd_pos (Or.inr rfl), rfl, g1⟩
  · obtain ⟨q1, q2, q3⟩ := g.err 1
    rw [if_neg p, if_neg p, q1, gdw, gdw, q2, erw]
    exact Or.inl q3
theorem J_wtail {P : PP} {p : Nat} (w : WB n b) (f : FP B0 n b) (rs : RS B0 P) (hN : pN P ≤ 12) (hp : p < 12) (h6 : A0 198 6 = nI p) (h7 : A0 198 7 = nI (pN P)) (h : WS A0 B0 n m b A B i Ws) (hL : Ws.length < 12) {t0 : Int32} (ht : t0 ≠ -1) (ha : A 199 Ws.length = t0) : JF A0 B0 (f_X9_readLine_82 A) (f_X11_readLine_14 (nI p) (nI (144 + Ws.length)) t0 B) ∨ ∃ i' l A' B', f_X9_readLine_82 A = some (1, A') ∧ f_X11_readLine_14 (nI p) (nI (144 + Ws.length)) t0 B = some (0, B') ∧ WS A0 B0 n m b A' B' i' (Ws ++ [l]) ∧ i < i' ∧ l.2.1 < pN P ∧ l.2.1 ≠ p ∧ l.2.2 ≤ pN P ∧ l.2.2 ≠ p + 1 := by
  have c1 : f_X8_isWord 202 (1 : Int32) A = _ := h.cword w 1 (by omega)
  have d1 : f_X11_isWord (16 : Int32) B = _ := h.fword 1 (by omega)
  unfold f_X9_readLine_82 f_X11_readLine_14 f_X8_skipWord
  rw [if_neg ht, c1, bd, d1, bd]
  by_cases p1 : (tok n b 202 i).1 = 1 ∧ (tok n b 202 i).2 = 1
  · have hi := h.im (by omega)
    obtain ⟨A1, B1, a1, b1, g1, u1, v1⟩ := h.skip w f hi (by omega)
    rw [if_pos p1, if_pos p1, a1, bind_x, bo, b1, bind_x]
    rcases J_pers0 w f rs hN hp h6 h7 g1 hL with ⟨A2, B2, a2, b2, r⟩ | ⟨v, A2, B2, a2, b2, g2, z1, z2, z3, u2, v2, hi2⟩
    · rw [a2, b2, bz, bm]
      exact Or.inl ⟨A2, B2, rfl, rfl, r⟩
    · have s5 := g2.2.2.2.2.2.2.2.1.1
      have nv : ¬ nI v = -1 := of_eq_false (nI_n1 (by omega))
      rw [a2, bo, b2, bind_x, if_neg nv, gd_pos (show inB (A2 198 5) 12 = true by rw [s5]; exact (inB_nI (by omega)).mpr hL), nm_x, gd_t (by omega) (by omega), nm_x, gd_t (by omega) (by omega), nm_x, gd_t (by omega) (by omega), nm_x]
      dsimp only
      rw [s5, ix_nI (by omega), ix_nI (by omega)]
      have g3 := (((g2.uA (k := 201) (x := Ws.length) (-1) (by omega) (Nat.le_refl _)).uB (k := 259) (x := 144 + Ws.length) t0 (by omega) (Nat.le_refl _)).uB (k := 260) (x := 144 + Ws.length) (nI v) (by omega) (Nat.le_refl _)).uB (k := 261) (x := 144 + Ws.length) 0 (by omega) (Nat.le_refl _)
      have c2 : f_X8_isWord 202 (2 : Int32) (uM A2 201 Ws.length (-1)) = _ := g3.cword w 2 (by omega)
      have d2 : f_X11_isWord (17 : Int32) _ = _ := g3.fword 2 (by omega)
      rw [c2, bd, d2, bd]
      by_cases p2 : (tok n b 202 (i + 1 + 1)).1 = 1 ∧ (tok n b 202 (i + 1 + 1)).2 = 2
      · have hi3 := g3.im (by omega)
        obtain ⟨A4, B4, a4, b4, g4, u4, v4⟩ := g3.skip w f hi3 (by omega)
        rw [if_pos p2, if_pos p2, a4, b4, bind_x, bind_x]
        rcases J_pers1 w f rs hN hp h6 h7 g4 hL with ⟨A5, B5, a5, b5, r⟩ | ⟨v', A5, B5, a5, b5, g5, y1, y2, y3, u5, v5, hi5⟩
        · rw [a5, b5, bz, bm]
          exact Or.inl ⟨A5, B5, rfl, rfl, r⟩
        · have nv' : ¬ nI v' = -1 := of_eq_false (nI_n1 (by omega))
          rw [a5, bo, b5, bind_x, if_neg nv', gd_t (by omega) (by omega), nm_x]
          dsimp only
          rw [nI_1]
          have g6 := g5.uB (k := 261) (x := 144 + Ws.length) (nI (v' + 1)) (by omega) (Nat.le_refl _)
          have ea : A5 199 Ws.length = t0 ∧ A5 200 Ws.length = nI v ∧ A5 201 Ws.length = eo (v' + 1) := by
            refine ⟨?_, ?_, ?_⟩
            · rw [u5 199 (by decide) (by decide), u4 199 (by decide), uM_off _ _ _ (by decide), u2 199 (by decide) (by decide), u1 199 (by decide)]; exact ha
            · rw [u5 200 (by decide) (by decide), u4 200 (by decide), uM_off _ _ _ (by decide)]; exact z3
            · rw [y3, eo_s]
          have eb : uM B5 261 (144 + Ws.length) (nI (v' + 1)) 259 (144 + Ws.length) = t0 ∧ uM B5 261 (144 + Ws.length) (nI (v' + 1)) 260 (144 + Ws.length) = nI v ∧ uM B5 261 (144 + Ws.length) (nI (v' + 1)) 261 (144 + Ws.length) = nI (v' + 1) := by
            refine ⟨?_, ?_, ?_⟩
            · rw [uM_off _ _ _ (by decide), v5 259 (by decide), v4 259 (by decide), uM_off _ _ _ (by decide), uM_off _ _ _ (by decide), uM_eq]
            · rw [uM_off _ _ _ (by decide), v5 260 (by decide), v4 260 (by decide), uM_off _ _ _ (by decide), uM_eq]
            · rw [uM_eq]
          rcases J_wend w f g6 hL (l := (t0, v, v' + 1)) ea eb with r | ⟨A', B', a6, b6, g7⟩
          · exact Or.inl r
          · exact Or.inr ⟨_, _, A', B', a6, b6, g7, by omega, z1, z2, by show v' + 1 ≤ pN P; omega, by show v' + 1 ≠ p + 1; omega⟩
      · rw [if_neg p2, if_neg p2]
        have ea : uM A2 201 Ws.length (-1) 199 Ws.length = t0 ∧ uM A2 201 Ws.length (-1) 200 Ws.length = nI v ∧ uM A2 201 Ws.length (-1) 201 Ws.length = eo 0 := by
          refine ⟨?_, ?_, ?_⟩
          · rw [uM_off _ _ _ (by decide), u2 199 (by decide) (by decide), u1 199 (by decide)]; exact ha
          · rw [uM_off _ _ _ (by decide)]; exact z3
          · rw [uM_eq, eo_0]
        have eb : uM (uM (uM B2 259 (144 + Ws.length) t0) 260 (144 + Ws.length) (nI v)) 261 (144 + Ws.length) 0 259 (144 + Ws.length) = t0 ∧ uM (uM (uM B2 259 (144 + Ws.length) t0) 260 (144 + Ws.length) (nI v)) 261 (144 + Ws.length) 0 260 (144 + Ws.length) = nI v ∧ uM (uM (uM B2 259 (144 + Ws.length) t0) 260 (144 + Ws.length) (nI v)) 261 (144 + Ws.length) 0 261 (144 + Ws.length) = nI 0 := by
          refine ⟨?_, ?_, ?_⟩
          · rw [uM_off _ _ _ (by decide), uM_off _ _ _ (by decide), uM_eq]
          · rw [uM_off _ _ _ (by decide), uM_eq]
          · rw [uM_eq]; rfl
        rcases J_wend w f g3 hL (l := (t0, v, 0)) ea eb with r | ⟨A', B', a6, b6, g7⟩
        · exact Or.inl r
        · exact Or.inr ⟨_, _, A', B', a6, b6, g7, by omega, z1, z2, Nat.zero_le _, by show 0 ≠ p + 1; omega⟩
  · obtain ⟨q1, q2, q3⟩ := h.err 1
    rw [if_neg p1, if_neg p1, q1, gdw, bz, q2, erw]
    exact Or.inl q3
theorem J_wline {P : PP} {p : Nat} (w : WB n b) (tpe : TP A0 n b) (f : FP B0 n b) (rs : RS B0 P) (hN : pN P ≤ 12) (hp : p < 12) (h6 : A0 198 6 = nI p) (h7 : A0 198 7 = nI (pN P)) (h : WS A0 B0 n m b A B i Ws) (hL : Ws.length ≤ 12) (h0 : (tok n b 202 i).1 ≠ 0) (k2 : Int32 → Int32 → Mm → Option (Int32 × Mm)) : JF A0 B0 (f_X9_readLine A) (f_X11_readWill_2b k2 (nI p) (nI Ws.length) B) ∨ ∃ i' l A' B', f_X9_readLine A = some (1, A') ∧ f_X11_readWill_2b k2 (nI p) (nI Ws.length) B = k2 (nI p) (nI (Ws.length + 1)) B' ∧ WS A0 B0 n m b A' B' i' (Ws ++ [l]) ∧ i < i' ∧ Ws.length < 12 ∧ l.2.1 < pN P ∧ l.2.1 ≠ p ∧ l.2.2 ≤ pN P ∧ l.2.2 ≠ p + 1 := by
  have c3 : f_X8_isWord 202 (3 : Int32) A = _ := h.cword w 3 (by omega)
  have c0 : f_X8_isWord 202 (0 : Int32) A = _ := h.cword w 0 (by omega)
  have d15 : f_X11_isWord (15 : Int32) B = _ := h.fword 0 (by omega)
  have d18 : f_X11_isWord (18 : Int32) B = _ := h.fword 3 (by omega)
  have s5 := h.2.2.2.2.2.2.2.1.1
  unfold f_X9_readLine f_X11_readWill_2b
  rw [c3, bd, c0, bd, d15, bd, d18, bd]
  have go : ((tok n b 202 i).1 = 1 ∧ ((tok n b 202 i).2 = 3 ∨ (tok n b 202 i).2 = 0)) → JF A0 B0 (f_X9_readLine_33 (if (tok n b 202 i).1 = 1 ∧ (tok n b 202 i).2 = 3 then 1 else 0) A) (f_X11_readWill_20 k2 (nI p) (nI Ws.length) B) ∨ ∃ i' l A' B', f_X9_readLine_33 (if (tok n b 202 i).1 = 1 ∧ (tok n b 202 i).2 = 3 then 1 else 0) A = some (1, A') ∧ f_X11_readWill_20 k2 (nI p) (nI Ws.length) B = k2 (nI p) (nI (Ws.length + 1)) B' ∧ WS A0 B0 n m b A' B' i' (Ws ++ [l]) ∧ i < i' ∧ Ws.length < 12 ∧ l.2.1 < pN P ∧ l.2.1 ≠ p ∧ l.2.2 ≤ pN P ∧ l.2.2 ≠ p + 1 := fun hw => by
    have hi := h.im (by omega)
    unfold f_X9_readLine_33 f_X11_readWill_20
    rw [s5]
    by_cases l12 : Ws.length = 12
    · obtain ⟨q1, q2, q3⟩ := h.err 3
      rw [if_neg (show ¬ nI Ws.length < 12 from fun z => by have := (nI_ltI (b := 12) (by omega) (by omega)).mp z; omega), if_pos (show nI Ws.length = 12 by rw [l12]; rfl), q1, gdw, q2, erw]
      exact Or.inl q3
    · have ll : Ws.length < 12 := by omega
      have x44 : (144 : Int32) + nI Ws.length = nI (144 + Ws.length) := nI_add 144 Ws.length
      obtain ⟨A1, B1, a1, b1, g1, u1, v1⟩ := h.skip w f hi (by omega)
      have t5 := g1.2.2.2.2.2.2.2.1.1
      rw [if_pos (show nI Ws.length < 12 from (nI_ltI (b := 12) (by omega) (by omega)).mpr ll), if_neg (n_ne 12 (x := 12) rfl l12 (by omega) (by omega)), a1, bind_x, t5, gd_t ll (by omega), ix_nI (by omega), nm_x, d18, bind_x, b1, bind_x, x44]
      dsimp only
      have g2 := g1.uA (k := 199) (x := Ws.length) (268435455 : Int32) (by omega) (Nat.le_refl _)
      have fin : ∀ (i2 : Nat) (A2 B2 : Mm) (t0 : Int32), i < i2 → WS A0 B0 n m b A2 B2 i2 Ws → t0 ≠ -1 → A2 199 Ws.length = t0 → JF A0 B0 (f_X9_readLine_82 A2) ((f_X11_readLine_14 (nI p) (nI (144 + Ws.length)) t0 B2).bind fun q_4 => if q_4.1 = (-1 : Int32) then some ((-1 : Int32), q_4.2) else nm (nI Ws.length + (1 : Int32)) fun x2_5 => k2 (nI p) x2_5 q_4.2) ∨ ∃ i' l A' B', f_X9_readLine_82 A2 = some (1, A') ∧ ((f_X11_readLine_14 (nI p) (nI (144 + Ws.length)) t0 B2).bind fun q_4 => if q_4.1 = (-1 : Int32) then some ((-1 : Int32), q_4.2) else nm (nI Ws.length + (1 : Int32)) fun x2_5 => k2 (nI p) x2_5 q_4.2) = k2 (nI p) (nI (Ws.length + 1)) B' ∧ WS A0 B0 n m b A' B' i' (Ws ++ [l]) ∧ i < i' ∧ Ws.length < 12 ∧ l.2.1 < pN P ∧ l.2.1 ≠ p ∧ l.2.2 ≤ pN P ∧ l.2.2 ≠ p + 1 := fun i2 A2 B2 t0 hi2 gg ht ha => by
        rcases J_wtail w f rs hN hp h6 h7 gg ll ht ha with ⟨A3, B3, a3, b3, r⟩ | ⟨i3, l, A3, B3, a3, b3, g3, k1, r1, r2, r3, r4⟩
        · rw [a3, b3, bm]
          exact Or.inl ⟨A3, B3, rfl, rfl, r⟩
        · rw [a3, b3, bn, nm_x, nI_1]
          exact Or.inr ⟨i3, l, A3, B3, rfl, rfl, g3, by omega, ll, r1, r2, r3, r4⟩
      unfold f_X11_readLine
      by_cases p3 : (tok n b 202 i).1 = 1 ∧ (tok n b 202 i).2 = 3
      · rw [if_pos p3, if_neg (of_eq_false i10), if_neg (of_eq_false i10)]
        exact fin (i + 1) _ B1 268435455 (by omega) g2 (by decide) (uM_eq _ _ _ _)
      · rw [if_neg p3, if_pos rfl, if_pos rfl]
        rcases J_row w tpe f g2 ll with ⟨A3, B3, a3, b3, r⟩ | ⟨set, A3, B3, a3, b3, g3, z1, z2, u3, v3, hi3⟩
        · rw [a3, b3, bz, bind_x]
          unfold f_X11_readLine_14
          rw [if_pos rfl, bm]
          exact Or.inl ⟨A3, B3, rfl, rfl, r⟩
        · rw [a3, b3, bo, bind_x]
          exact fin (i + 1 + 1) A3 B3 set (by omega) g3 z1 z2
  by_cases p3 : (tok n b 202 i).1 = 1 ∧ (tok n b 202 i).2 = 3
  · have r := go (by omega)
    rw [if_pos p3] at r
    rw [if_pos p3, if_neg (show ¬ ((tok n b 202 i).1 = 1 ∧ (tok n b 202 i).2 = 0) by omega), if_pos p3]
    exact r
  · by_cases p0 : (tok n b 202 i).1 = 1 ∧ (tok n b 202 i).2 = 0
    · have r := go (by omega)
      rw [if_neg p3] at r
      rw [if_neg p3, if_pos p0, if_pos p0]
      exact r
    · obtain ⟨q1, q2, q3⟩ := h.err 1
      obtain ⟨n1, n2, -⟩ := h.ft.num
      rw [if_neg p3, if_neg p0, if_neg p0, if_neg p3, q1, gdw, if_neg (show ¬ B 239 19 = 0 from fun z => h0 (n2.mp z)), q2, erw]
      exact Or.inl q3
theorem J_wlines {P : PP} {p : Nat} (w : WB n b) (tpe : TP A0 n b) (f : FP B0 n b) (rs : RS B0 P) (hN : pN P ≤ 12) (hp : p < 12) (h6 : A0 198 6 = nI p) (h7 : A0 198 7 = nI (pN P)) : ∀ (d i : Nat) (Ws : List Wl3) (A B : Mm) (c fc fr : Nat), m ≤ 400 → m - i ≤ d → d < fc → d < fr → c ≤ i → Ws.length ≤ 12 → WS A0 B0 n m b A B i Ws → (∀ k, k < Ws.length → (Ws.getD k w0).2.1 < pN P ∧ (Ws.getD k w0).2.1 ≠ p ∧ (Ws.getD k w0).2.2 ≤ pN P ∧ (Ws.getD k w0).2.2 ≠ p + 1) →
    (∃ A' B', f_X9_read_17_25 fc (nI p) (nI c) A = some (-1, A') ∧ f_X11_readWill_2 fr (nI p) (nI Ws.length) B = some (-1, B') ∧ CK A0 A' ∧ FK B0 B' ∧ A' 184 2 = B' 239 32 ∧ A' 184 3 = B' 239 33) ∨ ∃ i' Ws' A' B', f_X9_read_17_25 fc (nI p) (nI c) A = f_X9_read_17_58 (nI p) A' ∧ f_X11_readWill_2 fr (nI p) (nI Ws.length) B = some (nI (List.length Ws'), B') ∧ WS A0 B0 n m b A' B' i' Ws' ∧ List.length Ws' ≤ 12 ∧ ∀ k, k < List.length Ws' → (Ws'.getD k w0).2.1 < pN P ∧ (Ws'.getD k w0).2.1 ≠ p ∧ (Ws'.getD k w0).2.2 ≤ pN P ∧ (Ws'.getD k w0).2.2 ≠ p + 1 := by
  intro d
  induction d using Nat.strongRecOn with
  | _ d ih =>
  intro i Ws A B c fc fr lm h1 h2 h3 h4 hL h hb
  obtain ⟨fc, rfl⟩ : ∃ k, fc = k + 1 := ⟨fc - 1, by omega⟩
  obtain ⟨fr, rfl⟩ : ∃ k, fr = k + 1 := ⟨fr - 1, by omega⟩
  have him := h.1
  obtain ⟨t1, t2⟩ := tok_lt w isT2 i
  by_cases e : (tok n b 202 i).1 = 0
  · have ce : f_X9_read_17_25 (fc + 1) (nI p) (nI c) A = f_X9_read_17_58 (nI p) A := by
      show f_X9_read_17_25b (f_X9_read_17_25 fc) (nI p) (nI c) A = _
      unfold f_X9_read_17_25b
      by_cases c4 : 400 ≤ c
      · rw [if_pos (show (400 : Int32) ≤ nI c from nI_ge_t (a := 400) c4 (by omega))]
      · rw [if_neg (show ¬ (400 : Int32) ≤ nI c from nI_ge_f (a := 400) (by omega) (by omega)), h.2.1.kind h.2.2.1 h.1, bind_x, if_pos (show nI (tok n b 202 i).1 = 0 by rw [e]; rfl)]
    have fe : f_X11_readWill_2 (fr + 1) (nI p) (nI Ws.length) B = some (nI Ws.length, B) := by
      have d15 : f_X11_isWord (15 : Int32) B = _ := h.fword 0 (by omega)
      have d18 : f_X11_isWord (18 : Int32) B = _ := h.fword 3 (by omega)
      obtain ⟨n1, n2, -⟩ := h.ft.num
      show f_X11_readWill_2b (f_X11_readWill_2 fr) (nI p) (nI Ws.length) B = _
      unfold f_X11_readWill_2b
      rw [d15, bd, d18, bd, if_neg (by omega), if_neg (by omega), if_pos (show B 239 19 = 0 from n2.mpr e)]
      all_goals rfl
    exact Or.inr ⟨i, Ws, A, B, ce, fe, h, hL, hb⟩
  · have hi := h.im e
    have ce : f_X9_read_17_25 (fc + 1) (nI p) (nI c) A = ((f_X9_readLine A).bind fun q_2 => if q_2.1 = 0 then some ((-1 : Int32), q_2.2) else nm (nI c + (1 : Int32)) fun x4_3 => f_X9_read_17_25 fc (nI p) x4_3 q_2.2) := by
      show f_X9_read_17_25b (f_X9_read_17_25 fc) (nI p) (nI c) A = _
      unfold f_X9_read_17_25b
      rw [if_neg (show ¬ (400 : Int32) ≤ nI c from nI_ge_f (a := 400) (by omega) (by omega)), h.2.1.kind h.2.2.1 h.1, bind_x, if_neg (n_ne 0 (x := 0) rfl e (by omega) (by omega))]
      all_goals rfl
    rw [ce, show f_X11_readWill_2 (fr + 1) (nI p) (nI Ws.length) B = f_X11_readWill_2b (f_X11_readWill_2 fr) (nI p) (nI Ws.length) B from rfl]
    rcases J_wline w tpe f rs hN hp h6 h7 h hL e (f_X11_readWill_2 fr) with ⟨A1, B1, a1, b1, r⟩ | ⟨i1, l, A1, B1, a1, b1, s1, k1, k2, r1, r2, r3, r4⟩
    · refine Or.inl ⟨A1, B1, ?_, b1, r⟩
      rw [a1, bz]
      all_goals rfl
    · rw [a1, bo, nm_x, nI_1, b1]
      have r := ih (d - 1) (by omega) i1 (Ws ++ [l]) A1 B1 (c + 1) fc fr lm (by omega) (by omega) (by omega) (by omega) (by rw [lA]; omega) s1 (fun k hk => by
        rw [lA] at hk
        by_cases z : k = Ws.length
        · subst z
          rw [gA2]
          exact ⟨r1, r2, r3, r4⟩
        · rw [gA1 _ _ _ (by omega)]
          exact hb k (by omega))
      rw [lA] at r
      exact r
end WLINE
