/-! ===== the law is taken ===== -/
/-- some rows' first entries are those that stand further on -/
def cpr (k0 r off j : Nat) (B : Mm) : Mm := fun k x => if (k0 ≤ k ∧ k < k0 + r) ∧ x < j then B k (off + x) else B k x
theorem cpr_0 (k0 r off : Nat) (B : Mm) : cpr k0 r off 0 B = B := by
  funext k x
  unfold cpr
  rw [if_neg (by omega)]
theorem cpr_i {k0 r off j : Nat} {B : Mm} {k x : Nat} (h : (k0 ≤ k ∧ k < k0 + r) ∧ x < j) : cpr k0 r off j B k x = B k (off + x) := if_pos h
theorem cpr_o {k0 r off j : Nat} {B : Mm} {k x : Nat} (h : ¬ ((k0 ≤ k ∧ k < k0 + r) ∧ x < j)) : cpr k0 r off j B k x = B k x := if_neg h
theorem cpr_s3 {k0 off j : Nat} {B : Mm} : uM (uM (uM (cpr k0 3 off j B) k0 j (B k0 (off + j))) (k0 + 1) j (B (k0 + 1) (off + j))) (k0 + 2) j (B (k0 + 2) (off + j)) = cpr k0 3 off (j + 1) B := by
  funext k x
  by_cases h : (k0 ≤ k ∧ k < k0 + 3) ∧ x = j
  · obtain ⟨h1, rfl⟩ := h
    rw [cpr_i (by omega)]
    rcases (show k = k0 ∨ k = k0 + 1 ∨ k = k0 + 2 by omega) with rfl | rfl | rfl
    · rw [uM_n (by omega), uM_n (by omega), uM_eq]
    · rw [uM_n (by omega), uM_eq]
    · rw [uM_eq]
  · rw [uM_n (by omega), uM_n (by omega), uM_n (by omega)]
    by_cases c : (k0 ≤ k ∧ k < k0 + 3) ∧ x < j
    · rw [cpr_i c, cpr_i (by omega)]
    · rw [cpr_o c, cpr_o (by omega)]
theorem cpr_s2 {k0 off j : Nat} {B : Mm} : uM (uM (cpr k0 2 off j B) k0 j (B k0 (off + j))) (k0 + 1) j (B (k0 + 1) (off + j)) = cpr k0 2 off (j + 1) B := by
  funext k x
  by_cases h : (k0 ≤ k ∧ k < k0 + 2) ∧ x = j
  · obtain ⟨h1, rfl⟩ := h
    rw [cpr_i (by omega)]
    rcases (show k = k0 ∨ k = k0 + 1 by omega) with rfl | rfl
    · rw [uM_n (by omega), uM_eq]
    · rw [uM_eq]
  · rw [uM_n (by omega), uM_n (by omega)]
    by_cases c : (k0 ≤ k ∧ k < k0 + 2) ∧ x < j
    · rw [cpr_i c, cpr_i (by omega)]
    · rw [cpr_o c, cpr_o (by omega)]
theorem F_tl60 {c L : Nat} (hc : c ≤ 400) {B : Mm} (h28 : B 239 28 = nI c) : ∀ (d j fuel : Nat), j + d = c → d < fuel → f_X11_takesLaw_60 fuel (nI L) (nI j) (cpr 255 2 400 j B) = some (uM (cpr 255 2 400 c B) 239 22 (nI L)) := by
  intro d
  induction d with
  | zero =>
    intro j fuel e1 e2
    cases fuel with
    | zero => omega
    | succ fu =>
      have e : j = c := by omega
      subst e
      show f_X11_takesLaw_60b (f_X11_takesLaw_60 fu) (nI L) (nI j) (cpr 255 2 400 j B) = _
      unfold f_X11_takesLaw_60b
      rw [cpr_o (by omega), h28, if_pos (nI_ge_t (Nat.le_refl _) (by omega)), nm_x]
  | succ d ih =>
    intro j fuel e1 e2
    cases fuel with
    | zero => omega
    | succ fu =>
      show f_X11_takesLaw_60b (f_X11_takesLaw_60 fu) (nI L) (nI j) (cpr 255 2 400 j B) = _
      unfold f_X11_takesLaw_60b
      have x4 : (400 : Int32) + nI j = nI (400 + j) := nI_add 400 j
      rw [show cpr 255 2 400 j B 239 28 = B 239 28 from cpr_o (by omega), h28, if_neg (nI_ge_f (by omega) (by omega)), x4, gd_t (by omega) (by omega), gd_t (by omega) (by omega), nm_x, ix_nI (by omega), ix_nI (by omega), gd_t (by omega) (by omega), gd_t (by omega) (by omega), nm_x, nm_x, nI_1, show cpr 255 2 400 j B 255 (400 + j) = B 255 (400 + j) from cpr_o (by omega), uM_off _ _ _ (by decide : (256 : Nat) ≠ 255), show cpr 255 2 400 j B 256 (400 + j) = B 256 (400 + j) from cpr_o (by omega)]
      have := cpr_s2 (k0 := 255) (off := 400) (j := j) (B := B)
      rw [this]
      exact ih (j + 1) fu (by omega) (by omega)
theorem F_tl2 {L : Nat} (hL : L ≤ 16) {B : Mm} : ∀ (d j fuel : Nat), j + d = L → d < fuel → f_X11_takesLaw_2 fuel (nI L) (nI j) (cpr 252 3 16 j B) = f_X11_takesLaw_60 FU (nI L) 0 (cpr 252 3 16 L B) := by
  intro d
  induction d with
  | zero =>
    intro j fuel e1 e2
    cases fuel with
    | zero => omega
    | succ fu =>
      have e : j = L := by omega
      subst e
      show f_X11_takesLaw_2b (f_X11_takesLaw_2 fu) (nI j) (nI j) (cpr 252 3 16 j B) = _
      unfold f_X11_takesLaw_2b
      rw [if_pos (nI_ge_t (Nat.le_refl _) (by omega))]
  | succ d ih =>
    intro j fuel e1 e2
    cases fuel with
    | zero => omega
    | succ fu =>
      show f_X11_takesLaw_2b (f_X11_takesLaw_2 fu) (nI L) (nI j) (cpr 252 3 16 j B) = _
      unfold f_X11_takesLaw_2b
      have x4 : (16 : Int32) + nI j = nI (16 + j) := nI_add 16 j
      rw [if_neg (nI_ge_f (by omega) (by omega)), x4, gd_t (by omega) (by omega), gd_t (by omega) (by omega), nm_x, ix_nI (by omega), ix_nI (by omega), gd_t (by omega) (by omega), gd_t (by omega) (by omega), nm_x, gd_t (by omega) (by omega), gd_t (by omega) (by omega), nm_x, nm_x, nI_1, show cpr 252 3 16 j B 252 (16 + j) = B 252 (16 + j) from cpr_o (by omega), uM_off _ _ _ (by decide : (253 : Nat) ≠ 252), show cpr 252 3 16 j B 253 (16 + j) = B 253 (16 + j) from cpr_o (by omega), uM_off _ _ _ (by decide : (254 : Nat) ≠ 253), uM_off _ _ _ (by decide : (254 : Nat) ≠ 252), show cpr 252 3 16 j B 254 (16 + j) = B 254 (16 + j) from cpr_o (by omega)]
      have := cpr_s3 (k0 := 252) (off := 16) (j := j) (B := B)
      rw [this]
      exact ih (j + 1) fu (by omega) (by omega)
def taken (c L : Nat) (B : Mm) : Mm := uM (cpr 255 2 400 c (cpr 252 3 16 L B)) 239 22 (nI L)
theorem F_takesLaw {c L : Nat} (hc : c ≤ 400) (hL : L ≤ 16) {B : Mm} (h28 : B 239 28 = nI c) : f_X11_takesLaw (nI L) B = some (taken c L B) := by
  have h1 := F_tl2 hL (B := B) L 0 FU (by omega) (by unfold FU; omega)
  rw [cpr_0] at h1
  have h2 := F_tl60 (L := L) hc (B := cpr 252 3 16 L B) (by rw [cpr_o (by omega)]; exact h28) c 0 FU (by omega) (by unfold FU; omega)
  rw [cpr_0] at h2
  unfold f_X11_takesLaw
  exact h1.trans h2
theorem bind_id (x : Option (Int32 × Mm)) : (x.bind fun q => some (q.1, q.2)) = x := by
  cases x <;> rfl
/-- the class's draft becomes its law -/
theorem C_becomeL {A : Mm} : ∃ A', f_X3_become_18_187 A = some A' ∧ A' 18 2 = A 187 2 ∧ (∀ i, i < 400 → A' 19 i = A 188 i) ∧ (∀ i, i < 16 → A' 20 i = A 189 i ∧ A' 21 i = A 190 i ∧ A' 22 i = A 191 i) ∧ ∀ k, k < 18 ∨ 22 < k → A' k = A k := by
  refine ⟨_, rfl, ?_, fun i hi => ?_, fun i hi => ⟨?_, ?_, ?_⟩, fun k hk => ?_⟩
  · rw [rM_off _ _ (by decide), rM_off _ _ (by decide), rM_off _ _ (by decide), rM_off _ _ (by decide), uM_eq, uM_off _ _ _ (by decide)]
  · rw [rM_off _ _ (by decide), rM_off _ _ (by decide), rM_off _ _ (by decide), rM_same, cpy_at _ _ hi, uM_off _ _ _ (by decide), uM_off _ _ _ (by decide)]
  · rw [rM_off _ _ (by decide), rM_off _ _ (by decide), rM_same, cpy_at _ _ hi, rM_off _ _ (by decide), uM_off _ _ _ (by decide), uM_off _ _ _ (by decide)]
  · rw [rM_off _ _ (by decide), rM_same, cpy_at _ _ hi, rM_off _ _ (by decide), rM_off _ _ (by decide), uM_off _ _ _ (by decide), uM_off _ _ _ (by decide)]
  · rw [rM_same, cpy_at _ _ hi, rM_off _ _ (by decide), rM_off _ _ (by decide), rM_off _ _ (by decide), uM_off _ _ _ (by decide), uM_off _ _ _ (by decide)]
  · rw [rM_off _ _ (by omega), rM_off _ _ (by omega), rM_off _ _ (by omega), rM_off _ _ (by omega), uM_off _ _ _ (by omega), uM_off _ _ _ (by omega)]
/-- the texts with another law -/
def lawT (T : TT) (cs : List Nat) (Ls : List Ln3) : TT := (fun k i => if k = 0 ∧ i = 1 then Ls.length else if k = 0 ∧ i = 2 then cs.length else if k = 6 then (Ls.getD i (0, 0, 0)).1 else if k = 7 then (Ls.getD i (0, 0, 0)).2.1 else if k = 8 then (Ls.getD i (0, 0, 0)).2.2 else if k = 9 then cs.getD i 0 else T.1 k i, T.2)
section LAWOP
variable {S : Mm} {P : PP} {D : DD} {T : TT} {W : Nat → Int32} {E : RE}
theorem lawT_w {cs : List Nat} {Ls : List Ln3} {N : Nat} (w : WFT N T) (hL : Ls.length ≤ 16) (hc : cs.length ≤ 400) (hl : ∀ k, k < Ls.length → LF cs (Ls.getD k (0, 0, 0))) : WFT N (lawT T cs Ls) := by
  obtain ⟨⟨w1, w2, w3⟩, w4, w5, w6⟩ := w
  exact ⟨⟨w1, hL, hc⟩, hl, w5, w6⟩
theorem lawT_k {K K' : Mm} {cs : List Nat} {Ls : List Ln3} (h : RTK K T) (e0 : K' 0 5 = K 0 5) (e1 : K' 1 2 = nI Ls.length) (e2 : ∀ i, i < cs.length → K' 2 i = nI (cs.getD i 0)) (e3 : ∀ k, k < Ls.length → K' 3 k = nI (Ls.getD k (0, 0, 0)).1 ∧ K' 4 k = nI (Ls.getD k (0, 0, 0)).2.1 ∧ K' 5 k = nI (Ls.getD k (0, 0, 0)).2.2) (e : ∀ k, 8 ≤ k → k < 15 → K' k = K k) : RTK K' (lawT T cs Ls) := by
  obtain ⟨⟨h1, h2⟩, h3, h4, h5, h6⟩ := h
  refine ⟨⟨e0.trans h1, e1⟩, e3, e2, fun q hq => ?_, fun d hd => ?_⟩
  · rw [e 8 (by omega) (by omega), e 9 (by omega) (by omega), e 10 (by omega) (by omega), e 11 (by omega) (by omega)]
    exact h5 q hq
  · rw [e 12 (by omega) (by omega), e 13 (by omega) (by omega), e 14 (by omega) (by omega)]
    exact h6 d hd
theorem lawT_f {B B' : Mm} {cs : List Nat} {Ls : List Ln3} {N : Nat} (w : WFT N T) (h : RTF B T) (e0 : B' 239 40 = B 239 40) (e1 : B' 239 22 = nI Ls.length) (e2 : ∀ i, i < cs.length → B' 255 i = nI (opN (cs.getD i 0)) ∧ B' 256 i = nI (argN (cs.getD i 0))) (e3 : ∀ k, k < Ls.length → B' 253 k = nI (Ls.getD k (0, 0, 0)).1 ∧ B' 252 k = nI (Ls.getD k (0, 0, 0)).2.1 ∧ B' 254 k = nI (Ls.getD k (0, 0, 0)).2.2) (e : ∀ k x, 258 ≤ k → k < 265 → kp k x → B' k x = B k x) : RTF B' (lawT T cs Ls) := by
  obtain ⟨⟨h1, h2⟩, h3, h4, h5, h6⟩ := h
  refine ⟨⟨e0.trans h1, e1⟩, e3, e2, fun q hq => ?_, fun d hd => ?_⟩
  · rw [e 258 q (by omega) (by omega) (kp_o (by omega) (by omega))]
    refine ⟨(h5 q hq).1, fun k hk => ?_⟩
    have := (w.2.2.1 q hq).1
    have hk : k < tWm T q := hk
    have kl : ∀ j, j = 259 ∨ j = 260 ∨ j = 261 → kp j (12 * q + k) := fun j hj => by
      unfold kp
      refine ⟨?_, ?_, ?_, ?_, ?_, ?_⟩ <;> intros <;> omega
    rw [e 259 _ (by omega) (by omega) (kl _ (by omega)), e 260 _ (by omega) (by omega) (kl _ (by omega)), e 261 _ (by omega) (by omega) (kl _ (by omega))]
    exact (h5 q hq).2 k hk
  · have hd : d < tDn T := hd
    have := (w.2.2.2 d hd).1
    have := w.1.1
    rw [e 262 d (by omega) (by omega) (kp_o (by omega) (by omega)), e 263 d (by omega) (by omega) (kp_o (by omega) (by omega))]
    refine ⟨(h6 d hd).1, (h6 d hd).2.1, fun i hi => ?_⟩
    have hi : i < tDl T d := hi
    have kl : kp 264 (40 * d + i) := by
      unfold kp
      refine ⟨?_, ?_, ?_, ?_, ?_, ?_⟩ <;> intros <;> omega
    rw [e 264 _ (by omega) (by omega) kl]
    exact (h6 d hd).2.2 i hi
theorem op_law (y : Int32) (h : RR S P D T W E) : Good (f_X10_text 0 y) (f_X11_text 0 y) S := by
  refine two_sim fun Bm he => ?_
  have w := h.wb
  have tp0 := h.tp
  have fp := h.fp he
  obtain ⟨n, hn⟩ : ∃ n, n = E.2.2.1 := ⟨_, rfl⟩
  obtain ⟨b, hb⟩ : ∃ b, b = E.2.2.2.1 := ⟨_, rfl⟩
  rw [← hn, ← hb] at w tp0 fp
  have w1 := w.1
  -- the class cuts
  obtain ⟨A1, m, a1, tp1, tk1, h7, fr1⟩ := C_cut isT1 w tp0
  have lm : m ≤ 400 := tk1.2.1
  obtain ⟨A2, hA2⟩ : ∃ X, X = uM (uM A1 187 1 0) 187 2 0 := ⟨_, rfl⟩
  have tk2 : TK A2 n b 194 m := tk1.congr (by rw [hA2, uM_off _ _ _ (by decide), uM_off _ _ _ (by decide)]) fun j p q => by rw [hA2, uM_off _ _ _ (by omega), uM_off _ _ _ (by omega)]
  have ck2 : CK (clB S) A2 := ⟨fun j p q => by rw [hA2, uM_off _ _ _ (by omega), uM_off _ _ _ (by omega), fr1 j (by omega)], fun j p q => by rw [hA2, uM_off _ _ _ (by decide), uM_off _ _ _ (by decide), fr1 184 (by omega)]⟩
  -- the reference reads
  obtain ⟨B1, b1, g1, g2, ft⟩ := F_rd (r0 := 194) (i := 0) fp w isT1 (by unfold reB; rw [uM_ne _ _ _ (by decide), uM_ne _ _ _ (by decide), uM_eq]; rfl) (Nat.zero_le _)
  have fk1 : FK (reB Bm) B1 := FK.rfl.of g1 g2
  obtain ⟨Lp, hLp⟩ : ∃ L, L = (B1 239 31).toBitVec.toNat := ⟨_, rfl⟩
  have js : JS A2 B1 n m b A2 B1 0 [] ((List.range Lp).map fun j => (B1 257 j).toBitVec.toNat) 0 := by
    refine ⟨Nat.zero_le _, ⟨fun _ _ _ _ => rfl, fun _ _ => rfl, fun _ _ => rfl, ?_, ?_, fun j hj => absurd hj (Nat.not_lt_zero j)⟩, fun _ _ _ _ _ => rfl, FK.rfl, ft, ⟨?_, fun j hj => absurd hj (Nat.not_lt_zero j)⟩, ?_, ?_, fun j hj => ?_⟩
    · rw [hA2, uM_off _ _ _ (by decide), uM_off _ _ _ (by decide), h7]; rfl
    · rw [hA2, uM_ne _ _ _ (by decide), uM_eq]; rfl
    · rw [g2 28 (by omega)]; unfold reB; rw [uM_ne _ _ _ (by decide), uM_eq]; rfl
    · rw [g2 29 (by omega)]; unfold reB; rw [uM_eq]; rfl
    · rw [List.length_map, List.length_range, hLp, nI_tn]
    · rw [List.length_map, List.length_range] at hj
      rw [List.getD_eq_getElem?_getD]
      simp [hj, nI_tn]
  have st : LSt A2 (reB Bm) n m b A2 B1 0 [] [] := ⟨A2, B1, _, js, tk2, CK.rfl, fk1, by rw [hA2, uM_eq]; rfl, fun k hk => absurd hk (Nat.not_lt_zero k), Nat.le_refl 0, rfl⟩
  have c0 : f_X10_text 0 y S = ((f_X4_read_18_25 FU (nI 0) A2).bind fun q_2 => f_X10_text_99 q_2.1 q_2.2) := by
    unfold f_X10_text f_X5_faultless
    rw [nm_x, nm_x, bind_x, if_pos rfl]
    unfold f_X4_read_18
    rw [show uM (uM S 184 2 0) 184 3 (-1) = clB S from rfl, a1, bind_x, nm_x, nm_x, ← hA2]
    rfl
  have r0 : f_X11_text 0 y Bm = ((f_X11_readText_2 FU (nI ([] : List Ln3).length) B1).bind fun q_8 => if q_8.1 = (-1 : Int32) then nm (uM q_8.2 239 34 (q_8.2 239 32)) fun S_9 => nm (uM S_9 239 35 (S_9 239 33)) fun S_10 => f_X11_text_69 0 y q_8.1 S_10 else f_X11_text_69 0 y q_8.1 q_8.2) := by
    unfold f_X11_text f_X11_canText f_X11_canText_39
    rw [nm_x, nm_x, nm_x, nm_x, nm_x, nm_x, if_pos rfl, bind_x, if_neg (of_eq_false i10)]
    unfold f_X11_readsText
    rw [if_neg (show ¬ (0 : Int32) = 2 by decide), show uM (uM (uM (uM (uM (uM Bm 239 0 0) 239 34 0) 239 35 (-1)) 239 17 0) 239 28 0) 239 29 0 = reB Bm from rfl, b1, bind_x, if_pos rfl]
    rw [bind_id]
    rfl
  rcases J_lines w fp m 0 [] [] A2 B1 0 FU FU lm (by omega) (by unfold FU; omega) (by unfold FU; omega) (Nat.le_refl _) (by show 0 ≤ 16; omega) st with ⟨A3, B3, a3, b3, ck3, fk3, e2, e3⟩ | ⟨i', cs, Ls, A3, B3, a3, b3, ⟨A0, B0, pe, j3, t3, ck3, fk3, l2, lr, hl, h184⟩, hL⟩
  · have ck := ck2.trans ck3
    refine ⟨-1, uM A3 184 1 0, _, ?_, ?_, fun k hk => ?_, fun hbm => text_fail h he ck fk3 e2 e3 hbm⟩
    · rw [c0, a3, bind_x]
      rfl
    · rw [r0, b3, bind_x, if_pos rfl, nm_x, nm_x]
      unfold f_X11_text_69
      rw [nm_x, if_pos rfl, uM_ne _ _ _ (by decide : (33 : Nat) ≠ 34)]
    · rw [uM_off _ _ _ (by omega), ck.cl (by omega) (by omega)]
  · have him := j3.1
    have lc : cs.length ≤ 400 := by omega
    have ck := ck2.trans (ck3.trans j3.2.1.ck)
    have fk := fk3.trans j3.2.2.2.1
    have m28 : B3 239 28 = nI cs.length := j3.2.2.2.2.2.1.1
    obtain ⟨A4, a4, v1, v2, v3, v4⟩ := C_becomeL (A := A3)
    have e184 : ∀ x, A3 184 x = clB S 184 x := fun x => by
      rw [j3.2.1.1 184 (by decide) (by decide) (by decide), h184, hA2, uM_off _ _ _ (by decide), uM_off _ _ _ (by decide), fr1 184 (by omega)]
    have n2 : A3 187 2 = nI Ls.length := by rw [j3.2.1.2.1 2 (by decide)]; exact l2
    have L1 : ¬ nI Ls.length = -1 := of_eq_false (nI_n1 (by omega))
    have tk := F_takesLaw lc hL (B := uM B3 239 16 0) (by rw [uM_ne _ _ _ (by decide)]; exact m28)
    refine ⟨nI Ls.length, uM A4 184 1 0, taken cs.length Ls.length (uM B3 239 16 0), ?_, ?_, fun k hk => ?_, fun hbm => ?_⟩
    · rw [c0, a3]
      unfold f_X4_read_18_57
      rw [a4, bind_x, bind_x, v1, n2]
      rfl
    · rw [r0, b3, bind_x, if_neg L1]
      unfold f_X11_text_69
      rw [nm_x, if_neg L1, if_neg (show ¬ (0 : Int32) = 2 by decide), if_pos rfl, tk]
      rfl
    · rw [uM_off _ _ _ (by omega), v4 k (by omega), ck.cl (by omega) (by omega)]
    · have ac : ∀ k, k < 18 ∨ 22 < k → (k < 186 ∨ 206 ≤ k) → k ≠ 184 → A4 k = S k := fun k p q r => by rw [v4 k p, ck.cl q r]
      have of : ∀ k x, k ≠ 239 → ¬ (252 ≤ k ∧ k < 257) → taken cs.length Ls.length (uM B3 239 16 0) k x = B3 k x := fun k x h1 h2 => by
        unfold taken
        rw [uM_off _ _ _ h1, cpr_o (by omega), cpr_o (by omega), uM_off _ _ _ h1]
      have o9 : ∀ x, x ≠ 22 → taken cs.length Ls.length (uM B3 239 16 0) 239 x = uM B3 239 16 0 239 x := fun x h1 => by
        unfold taken
        rw [uM_ne _ _ _ h1, cpr_o (by omega), cpr_o (by omega)]
      have lo : ∀ k, k < 239 → taken cs.length Ls.length (uM B3 239 16 0) k = uM A4 184 1 0 k := fun k hk => by
        funext x
        rw [of k x (by omega) (by omega), fk.1 k x (kp_o (by omega) (by omega)), reB_off (by omega), hbm k hk]
      have lo2 : ∀ k, k < 18 ∨ 22 < k → k < 239 → (k < 186 ∨ 206 ≤ k) → k ≠ 184 → taken cs.length Ls.length (uM B3 239 16 0) k = S k := fun k p q r s => by
        rw [lo k q, uM_off _ _ _ s, ac k p r s]
      have hi : ∀ k, 239 < k → k < 252 ∨ 258 ≤ k → ∀ x, kp k x → taken cs.length Ls.length (uM B3 239 16 0) k x = S k x := fun k p q x r => by
        rw [of k x (by omega) (by omega), fk.1 k x r, reB_off (by omega), he k (by omega)]
      have k22 : ∀ x, cpr 255 2 400 cs.length (cpr 252 3 16 Ls.length (uM B3 239 16 0)) 239 x = uM B3 239 16 0 239 x := fun x => by
        rw [cpr_o (by omega), cpr_o (by omega)]
      refine h.text (T' := lawT T cs Ls) (fun k p q => lo2 k (by omega) q (by omega) (by omega)) (lawT_k h.TK ?_ ?_ (fun i hi => ?_) (fun k hk => ?_) fun k p q => ?_) (fun k hk => ?_) (fun j hj p1 p2 p3 p4 p5 => ?_) (lawT_f h.wT h.TF ?_ ?_ (fun i hi => ?_) (fun k hk => ?_) fun k x p q r => ?_) ?_ ?_ ?_ ?_ (lawT_w h.wT hL lc fun k hk => (lr k hk).2.2) h.2.2.1.2.2.2.2.2 (Nat.le_refl _)
      · show taken cs.length Ls.length (uM B3 239 16 0) 17 5 = S 17 5
        rw [lo2 17 (by omega) (by omega) (by omega) (by omega)]
      · show taken cs.length Ls.length (uM B3 239 16 0) 18 2 = _
        rw [lo 18 (by omega), uM_off _ _ _ (by decide), v1, n2]
      · show taken cs.length Ls.length (uM B3 239 16 0) 19 i = _
        rw [lo 19 (by omega), uM_off _ _ _ (by decide), v2 i (by omega), j3.2.1.2.2.2.2.2 i hi]
      · show taken cs.length Ls.length (uM B3 239 16 0) 20 k = _ ∧ taken cs.length Ls.length (uM B3 239 16 0) 21 k = _ ∧ taken cs.length Ls.length (uM B3 239 16 0) 22 k = _
        obtain ⟨z1, z2, z3⟩ := v3 k (by omega)
        rw [lo 20 (by omega), lo 21 (by omega), lo 22 (by omega), uM_off _ _ _ (by decide), uM_off _ _ _ (by decide), uM_off _ _ _ (by decide), z1, z2, z3, j3.2.1.1 189 (by decide) (by decide) (by decide), j3.2.1.1 190 (by decide) (by decide) (by decide), j3.2.1.1 191 (by decide) (by decide) (by decide)]
        exact (lr k hk).1
      · exact lo2 (17 + k) (by omega) (by omega) (by omega) (by omega)
      · funext x
        by_cases c : k = 257
        · omega
        · exact hi k (by omega) (by omega) x (kp_o (by omega) (by omega))
      · rw [o9 j p2, uM_ne _ _ _ p1]
        by_cases c : j = 0
        · subst c
          rw [fk.2 0 rfl, h.C.1]
          unfold reB
          rw [uM_ne _ _ _ (by decide), uM_ne _ _ _ (by decide), uM_ne _ _ _ (by decide), uM_ne _ _ _ (by decide), uM_ne _ _ _ (by decide), uM_eq]
        · rw [ks_kept fk hj ⟨c, p3, p4⟩, he 239 (by omega)]
      · rw [o9 40 (by decide), uM_ne _ _ _ (by decide), ks_kept fk rfl (by decide), he 239 (by omega)]
      · unfold taken; rw [uM_eq]
      · have q := j3.2.2.2.2.2.1.2 i hi
        have t5 : ∀ k, k = 255 ∨ k = 256 → taken cs.length Ls.length (uM B3 239 16 0) k i = B3 k (400 + i) := fun k hk => by
          unfold taken
          rw [uM_off _ _ _ (by omega), cpr_i (by omega), cpr_o (by omega), uM_off _ _ _ (by omega)]
        rw [t5 255 (by omega), t5 256 (by omega)]
        exact q
      · have q := (lr k hk).2.1
        have t5 : ∀ z, z = 252 ∨ z = 253 ∨ z = 254 → taken cs.length Ls.length (uM B3 239 16 0) z k = B0 z (16 + k) := fun z hz => by
          unfold taken
          rw [uM_off _ _ _ (by omega), cpr_o (by omega), cpr_i (by omega), uM_off _ _ _ (by omega), j3.2.2.1 z (by omega) (by omega) (by omega) (by omega)]
        rw [t5 252 (by omega), t5 253 (by omega), t5 254 (by omega)]
        exact q
      · exact hi k (by omega) (by omega) x r
      · rw [lo 184 (by omega), uM_eq]
      · rw [o9 16 (by decide), uM_eq]
      · rw [lo 184 (by omega), uM_ne _ _ _ (by decide), v4 184 (by omega), e184 2, o9 34 (by decide), uM_ne _ _ _ (by decide), fk.2 34 rfl]
        unfold clB reB
        rw [uM_ne _ _ _ (by decide), uM_eq, uM_ne _ _ _ (by decide), uM_ne _ _ _ (by decide), uM_ne _ _ _ (by decide), uM_ne _ _ _ (by decide), uM_eq]
      · rw [lo 184 (by omega), uM_ne _ _ _ (by decide), v4 184 (by omega), e184 3, o9 35 (by decide), uM_ne _ _ _ (by decide), fk.2 35 rfl]
        unfold clB reB
        rw [uM_eq, uM_ne _ _ _ (by decide), uM_ne _ _ _ (by decide), uM_ne _ _ _ (by decide), uM_eq]
end LAWOP
