/-! ===== one more comes ===== -/
abbrev adP (P : PP) (D : DD) (mo fa : Nat) : PP := (un (un (un P.1 0 0 (pN P + 1)) 1 (pN P) mo) 2 (pN P) fa, un (un (un P.2 0 (pN P) (nI (dDay D))) 1 (pN P) 0) 2 (pN P) 0)
abbrev adD (P : PP) (D : DD) (c : Nat) : DD := (un (un D.1 1 (pN P) 0) 4 (pN P) 0, un (un D.2 2 (pN P) (-1)) 3 (pN P) (nI c))
section PERS
variable {P : PP} {D : DD}
theorem adP_mo (mo fa q : Nat) : pMo (adP P D mo fa) q = if q = pN P then mo else pMo P q := by
  show un (un (un P.1 0 0 (pN P + 1)) 1 (pN P) mo) 2 (pN P) fa 1 q = _
  by_cases c : q = pN P
  · rw [if_pos c, c]; exact un_eq _ _ _ _
  · rw [if_neg c]; exact un_ne _ _ _ c
theorem adP_fa (mo fa q : Nat) : pFa (adP P D mo fa) q = if q = pN P then fa else pFa P q := by
  show un (un (un P.1 0 0 (pN P + 1)) 1 (pN P) mo) 2 (pN P) fa 2 q = _
  by_cases c : q = pN P
  · rw [if_pos c, c]; exact un_eq _ _ _ _
  · rw [if_neg c]; exact un_ne _ _ _ c
theorem adD_sp (c q : Nat) : dSp (adD P D c) q = if q = pN P then 0 else dSp D q := by
  show un (un D.1 1 (pN P) 0) 4 (pN P) 0 4 q = _
  by_cases c : q = pN P
  · rw [if_pos c, c]; exact un_eq _ _ _ _
  · rw [if_neg c]; exact un_ne _ _ _ c
theorem adD_dead (c q : Nat) : dDead (adD P D c) q = if q = pN P then 0 else dDead D q := by
  show un (un D.1 1 (pN P) 0) 4 (pN P) 0 1 q = _
  by_cases c : q = pN P
  · rw [if_pos c, c]; exact un_eq _ _ _ _
  · rw [if_neg c]; exact un_ne _ _ _ c
theorem ad_adj (hP : WFP P) (hD : WFD P D) {mo fa : Nat} (c : Nat) (hm : mo ≤ pN P) (hf : fa ≤ pN P) {q i : Nat} (hq : q ≤ pN P) (hi : i ≤ pN P) : adj (adP P D mo fa) (adD P D c) q i = if q = pN P then decide (mo = i + 1 ∨ fa = i + 1) else if i = pN P then decide (mo = q + 1 ∨ fa = q + 1) else adj P D q i := by
  unfold adj
  rw [adP_mo, adP_mo, adP_fa, adP_fa, adD_sp, adD_sp]
  by_cases c1 : q = pN P
  · rw [if_pos c1, if_pos c1, if_pos c1, if_pos c1]
    by_cases c2 : i = pN P
    · rw [if_pos c2, if_pos c2, if_pos c2]
      refine decide_eq_decide.mpr ?_
      omega
    · rw [if_neg c2, if_neg c2, if_neg c2]
      have w := hP.2.2 i (by omega)
      have w2 := (hD.2.1 i (by omega)).1
      refine decide_eq_decide.mpr ?_
      omega
  · have w := hP.2.2 q (by omega)
    have w2 := (hD.2.1 q (by omega)).1
    rw [if_neg c1, if_neg c1, if_neg c1, if_neg c1]
    by_cases c2 : i = pN P
    · rw [if_pos c2, if_pos c2, if_pos c2, if_pos c2]
      refine decide_eq_decide.mpr ?_
      omega
    · rw [if_neg c2, if_neg c2, if_neg c2, if_neg c2]
theorem ad_liv {mo fa c i : Nat} : liv (adP P D mo fa) (adD P D c) i = (liv P D i || decide (i = pN P)) := by
  unfold liv
  rw [adD_dead]
  show (decide (i < pN P + 1) && _) = _
  by_cases c1 : i = pN P
  · rw [if_pos c1]; simp [c1]
  · rw [if_neg c1]
    have : decide (i < pN P + 1) = decide (i < pN P) := decide_eq_decide.mpr (by omega)
    rw [this]; simp [c1]
theorem ad_RK {K K' : Mm} (h : RK K P D) (hP : WFP P) (hD : WFD P D) {mo fa c : Nat} (h12 : pN P < 12) (hm : mo ≤ pN P) (hf : fa ≤ pN P)
    (e0 : K' 0 0 = K 0 0 ∧ K' 0 1 = K 0 1 ∧ K' 0 2 = K 0 2 ∧ K' 0 3 = nI (pN P + 1) ∧ K' 0 4 = K 0 4 ||| shl 1 (nI (pN P)))
    (e1 : ∀ q, K' 1 q = (if q = pN P then eo mo else K 1 q) ∧ K' 2 q = (if q = pN P then eo fa else K 2 q) ∧ K' 3 q = (if q = pN P then K 0 1 else K 3 q) ∧ K' 4 q = (if q = pN P then -1 else K 4 q) ∧ K' 5 q = (if q = pN P then 0 else K 5 q) ∧ K' 6 q = (if q = pN P then 0 else K 6 q) ∧ K' 7 q = (if q = pN P then nI c else K 7 q) ∧ K' 8 q = (if q = pN P then -1 else K 8 q))
    (e2 : ∀ q, q ≤ pN P → ∀ i, i < 32 → bt (K' 9 q) i = if q = pN P then decide (mo = i + 1 ∨ fa = i + 1) else (bt (K 9 q) i || (decide (i = pN P) && decide (mo = q + 1 ∨ fa = q + 1))))
    (e3 : ∀ j, 10 ≤ j → j < 16 → K' j = K j) : RK K' (adP P D mo fa) (adD P D c) := by
  obtain ⟨⟨h0, h1, h2, h3⟩, h4, h5, h6, h7⟩ := h
  obtain ⟨g0, g1, g2, g3, g4⟩ := e0
  refine ⟨⟨g0.trans h0, g1.trans h1, g2.trans h2, g3⟩, fun i hi => ?_, fun q hq => ?_, ?_, ?_⟩
  · rw [g4, b_or, h4 i hi, bt_one (by omega) hi, ad_liv]
  · have hq : q < pN P + 1 := hq
    obtain ⟨a1, a2, a3, a4, a5, a6, a7, a8⟩ := e1 q
    have a9 := e2 q (by omega)
    rw [a1, a2, a3, a4, a5, a6, a7, a8, adP_mo, adP_fa, adD_sp]
    show _ ∧ _ ∧ _ = un (un (un P.2 0 (pN P) (nI (dDay D))) 1 (pN P) 0) 2 (pN P) 0 0 q ∧ _ = un (un D.2 2 (pN P) (-1)) 3 (pN P) (nI c) 2 q ∧ _ = un (un (un P.2 0 (pN P) (nI (dDay D))) 1 (pN P) 0) 2 (pN P) 0 1 q ∧ _ = un (un (un P.2 0 (pN P) (nI (dDay D))) 1 (pN P) 0) 2 (pN P) 0 2 q ∧ _ = un (un D.2 2 (pN P) (-1)) 3 (pN P) (nI c) 3 q ∧ _ ∧ ∀ i, i < 32 → bt (K' 9 q) i = (decide (i < pN P + 1) && adj (adP P D mo fa) (adD P D c) q i)
    have nine : ∀ i, i < 32 → bt (K' 9 q) i = (decide (i < pN P + 1) && adj (adP P D mo fa) (adD P D c) q i) := fun i hi => by
      rw [a9 i hi]
      by_cases ci : i < pN P + 1
      · rw [ad_adj hP hD c hm hf (by omega) (by omega), decide_eq_true ci, Bool.true_and]
        by_cases c1 : q = pN P
        · rw [if_pos c1, if_pos c1]
        · have l := (h5 q (by omega)).2.2.2.2.2.2.2.2 i hi
          rw [if_neg c1, if_neg c1, l]
          by_cases c2 : i = pN P
          · rw [if_pos c2]; simp [c2]
          · rw [if_neg c2]; simp [c2, show i < pN P by omega]
      · rw [decide_eq_false ci, Bool.false_and]
        by_cases c1 : q = pN P
        · rw [if_pos c1]; exact decide_eq_false (by omega)
        · have l := (h5 q (by omega)).2.2.2.2.2.2.2.2 i hi
          rw [if_neg c1, l, decide_eq_false (show ¬ i < pN P by omega), decide_eq_false (show ¬ i = pN P by omega)]
          rfl
    by_cases c1 : q = pN P
    · simp only [c1, if_true]
      rw [← c1]
      refine ⟨trivial, trivial, ?_, ?_, ?_, ?_, ?_, rfl, by rw [c1] at nine ⊢; exact nine⟩
      · rw [h1]; exact (un_eq _ _ _ _).symm
      · exact (un_eq _ _ _ _).symm
      · exact (un_eq _ _ _ _).symm
      · exact (un_eq _ _ _ _).symm
      · exact (un_eq _ _ _ _).symm
    · obtain ⟨b1, b2, b3, b4, b5, b6, b7, b8, b9⟩ := h5 q (by omega)
      simp only [c1, if_false]
      refine ⟨b1, b2, ?_, ?_, ?_, ?_, ?_, b8, nine⟩
      · rw [b3]; exact (un_ne _ _ _ c1).symm
      · rw [b4]; exact (un_ne _ _ _ c1).symm
      · rw [b5]; exact (un_ne _ _ _ c1).symm
      · rw [b6]; exact (un_ne _ _ _ c1).symm
      · rw [b7]; exact (un_ne _ _ _ c1).symm
  · intro l hl
    rw [e3 10 (by omega) (by omega), e3 11 (by omega) (by omega), e3 12 (by omega) (by omega)]
    exact h6 l hl
  · intro d hd
    rw [e3 13 (by omega) (by omega), e3 14 (by omega) (by omega), e3 15 (by omega) (by omega)]
    exact h7 d hd
theorem C_addPerson {A : Mm} (h : RK (fun j => A (1 + j)) P D) (hP : WFP P) (hD : WFD P D) {mo fa c : Nat} (h12 : pN P < 12) (hm : mo ≤ pN P) (hf : fa ≤ pN P) : ∃ A', f_X1_addPerson 1 (eo mo) (eo fa) (nI c) A = some (nI (pN P), A') ∧ RK (fun j => A' (1 + j)) (adP P D mo fa) (adD P D c) ∧ ∀ k, k = 0 ∨ 11 ≤ k → A' k = A k := by
  have k3 : A 1 3 = nI (pN P) := h.1.2.2.2
  obtain ⟨A0, hA0⟩ : ∃ A0, A0 = uM (uM (uM (uM (uM (uM (uM (uM (uM (uM (uM A 1 3 (nI (pN P + 1))) 1 4 (A 1 4 ||| shl 1 (nI (pN P)))) 2 (pN P) (eo mo)) 3 (pN P) (eo fa)) 4 (pN P) (A 1 1)) 5 (pN P) (-1)) 6 (pN P) 0) 7 (pN P) 0) 8 (pN P) (nI c)) 9 (pN P) (-1)) 10 (pN P) 0 := ⟨_, rfl⟩
  have run : f_X1_addPerson 1 (eo mo) (eo fa) (nI c) A = if eo mo = -1 then f_X1_addPerson_116 1 (eo fa) (nI (pN P)) A0 else (f_X1_link 1 (nI (pN P)) (eo mo) A0).bind fun S_13 => f_X1_addPerson_116 1 (eo fa) (nI (pN P)) S_13 := by
    simp only [f_X1_addPerson, nm]
    simp (disch := omega) only [k3, nI_1, gd_t, ix_nI]
    have r1 : uM A 1 3 (nI (pN P + 1)) 1 4 = A 1 4 := uM_ne _ _ _ (by decide)
    have r2 : uM (uM (uM (uM A 1 3 (nI (pN P + 1))) 1 4 (A 1 4 ||| shl 1 (nI (pN P)))) (1 + 1) (pN P) (eo mo)) (1 + 2) (pN P) (eo fa) 1 1 = A 1 1 := by rw [uM_off _ _ _ (by decide), uM_off _ _ _ (by decide), uM_ne _ _ _ (by decide), uM_ne _ _ _ (by decide)]
    rw [r1, r2, hA0]
  have lnk : ∀ (B : Mm) (m : Nat), m ≠ 0 → m ≤ pN P → f_X1_link 1 (nI (pN P)) (eo m) B = some (uM (uM B 10 (pN P) (B 10 (pN P) ||| shl 1 (nI (m - 1)))) 10 (m - 1) (B 10 (m - 1) ||| shl 1 (nI (pN P)))) := fun B m h0 h1 => by
    rw [(eo_nI (n := m) (q := m - 1) (by omega) (by omega)).mpr (by omega)]
    simp only [f_X1_link, nm]
    simp (disch := omega) only [gd_t, ix_nI]
    have : uM B (1 + 9) (pN P) (B (1 + 9) (pN P) ||| shl 1 (nI (m - 1))) (1 + 9) (m - 1) = B 10 (m - 1) := uM_ne _ _ _ (by omega)
    rw [this]
  have fin : ∀ A' : Mm, (∀ k, k ≠ 10 → A' k = A0 k) → (∀ q, q ≤ pN P → ∀ i, i < 32 → bt (A' 10 q) i = if q = pN P then decide (mo = i + 1 ∨ fa = i + 1) else (bt (A 10 q) i || (decide (i = pN P) && decide (mo = q + 1 ∨ fa = q + 1)))) → RK (fun j => A' (1 + j)) (adP P D mo fa) (adD P D c) ∧ ∀ k, k = 0 ∨ 11 ≤ k → A' k = A k := fun A' p1 p2 => by
    refine ⟨ad_RK h hP hD h12 hm hf ?_ (fun q => ?_) p2 (fun j a b => ?_), fun k hk => ?_⟩
    · show A' 1 0 = A 1 0 ∧ A' 1 1 = A 1 1 ∧ A' 1 2 = A 1 2 ∧ A' 1 3 = _ ∧ A' 1 4 = _
      rw [p1 1 (by decide), hA0]
      simp [uM_at]
    · show A' 2 q = (if q = pN P then eo mo else A 2 q) ∧ A' 3 q = (if q = pN P then eo fa else A 3 q) ∧ A' 4 q = (if q = pN P then A 1 1 else A 4 q) ∧ A' 5 q = (if q = pN P then -1 else A 5 q) ∧ A' 6 q = (if q = pN P then 0 else A 6 q) ∧ A' 7 q = (if q = pN P then 0 else A 7 q) ∧ A' 8 q = (if q = pN P then nI c else A 8 q) ∧ A' 9 q = (if q = pN P then -1 else A 9 q)
      rw [p1 2 (by decide), p1 3 (by decide), p1 4 (by decide), p1 5 (by decide), p1 6 (by decide), p1 7 (by decide), p1 8 (by decide), p1 9 (by decide), hA0]
      simp [uM_at]
    · rw [p1 _ (by omega), hA0]
      simp (disch := omega) only [uM_off]
    · rw [p1 _ (by omega), hA0]
      simp (disch := omega) only [uM_off]
  have r10 : ∀ q, A0 10 q = if q = pN P then 0 else A 10 q := fun q => by rw [hA0]; simp [uM_at]
  rw [run]
  unfold f_X1_addPerson_116
  by_cases c1 : mo = 0
  · rw [if_pos ((eo_m1 (by omega)).mpr c1)]
    by_cases c2 : fa = 0
    · rw [if_pos ((eo_m1 (by omega)).mpr c2)]
      refine ⟨A0, rfl, fin A0 (fun _ _ => rfl) fun q hq i hi => ?_⟩
      rw [r10]
      by_cases k : q = pN P
      · rw [if_pos k, if_pos k, b_0]; simp [c1, c2]
      · rw [if_neg k, if_neg k]; simp [c1, c2]
    · rw [if_neg (by rw [eo_m1 (by omega)]; exact c2), lnk A0 fa c2 hf]
      refine ⟨_, rfl, fin _ (fun k a => by rw [uM_off _ _ _ a, uM_off _ _ _ a]) fun q hq i hi => ?_⟩
      rw [uM_at, uM_at, r10, r10, r10]
      by_cases k : q = pN P
      · rw [if_neg (by omega), if_pos ⟨rfl, k⟩, if_pos k, if_pos rfl, b_or, b_0, bt_one (by omega) hi, Bool.false_or]
        refine decide_eq_decide.mpr ?_
        omega
      · by_cases k2 : q = fa - 1
        · rw [if_pos ⟨rfl, k2⟩, if_neg (by omega), if_neg k, b_or, bt_one (by omega) hi, ← k2]
          simp [show fa = q + 1 by omega]
        · rw [if_neg (fun e => k2 e.2), if_neg (fun e => k e.2), if_neg k, if_neg k]
          simp [c1, show ¬ fa = q + 1 by omega]
  · rw [if_neg (by rw [eo_m1 (by omega)]; exact c1), lnk A0 mo c1 hm]
    simp only [Option.bind_some]
    by_cases c2 : fa = 0
    · rw [if_pos ((eo_m1 (by omega)).mpr c2)]
      refine ⟨_, rfl, fin _ (fun k a => by rw [uM_off _ _ _ a, uM_off _ _ _ a]) fun q hq i hi => ?_⟩
      rw [uM_at, uM_at, r10, r10, r10]
      by_cases k : q = pN P
      · rw [if_neg (by omega), if_pos ⟨rfl, k⟩, if_pos k, if_pos rfl, b_or, b_0, bt_one (by omega) hi, Bool.false_or]
        refine decide_eq_decide.mpr ?_
        omega
      · by_cases k2 : q = mo - 1
        · rw [if_pos ⟨rfl, k2⟩, if_neg (by omega), if_neg k, b_or, bt_one (by omega) hi, ← k2]
          simp [show mo = q + 1 by omega]
        · rw [if_neg (fun e => k2 e.2), if_neg (fun e => k e.2), if_neg k, if_neg k]
          simp [c2, show ¬ mo = q + 1 by omega]
    · rw [if_neg (by rw [eo_m1 (by omega)]; exact c2), lnk _ fa c2 hf]
      refine ⟨_, rfl, fin _ (fun k a => by rw [uM_off _ _ _ a, uM_off _ _ _ a, uM_off _ _ _ a, uM_off _ _ _ a]) fun q hq i hi => ?_⟩
      obtain ⟨V, hV⟩ : ∃ V, V = uM (uM A0 10 (pN P) (A0 10 (pN P) ||| shl 1 (nI (mo - 1)))) 10 (mo - 1) (A0 10 (mo - 1) ||| shl 1 (nI (pN P))) := ⟨_, rfl⟩
      rw [← hV]
      have v1 : V 10 (pN P) = shl 1 (nI (mo - 1)) := by
        rw [hV, uM_ne _ _ _ (by omega), uM_eq, r10, if_pos rfl]
        exact b_ext fun i hi => by rw [b_or, b_0, Bool.false_or]
      have v2 : ∀ x, x < pN P → V 10 x = if x = mo - 1 then A 10 x ||| shl 1 (nI (pN P)) else A 10 x := fun x hx => by
        rw [hV]
        by_cases z : x = mo - 1
        · rw [if_pos z, z, uM_eq, r10, if_neg (by omega)]
        · rw [if_neg z, uM_ne _ _ _ z, uM_ne _ _ _ (by omega), r10, if_neg (by omega)]
      rw [uM_at, uM_at]
      by_cases k : q = pN P
      · rw [if_neg (by omega), if_pos ⟨rfl, k⟩, if_pos k, v1, b_or, bt_one (by omega) hi, bt_one (by omega) hi, Bool.eq_iff_iff]
        simp only [Bool.or_eq_true, decide_eq_true_eq]
        omega
      · rw [if_neg k]
        by_cases k2 : q = fa - 1
        · rw [if_pos ⟨rfl, k2⟩, v2 _ (by omega), b_or, bt_one (by omega) hi, ← k2]
          by_cases z : q = mo - 1
          · rw [if_pos z, b_or, bt_one (by omega) hi]
            simp [show fa = q + 1 by omega, Bool.or_assoc]
          · rw [if_neg z]
            simp [show fa = q + 1 by omega]
        · rw [if_neg (fun e => k2 e.2), if_neg (fun e => k e.2), v2 _ (by omega)]
          by_cases z : q = mo - 1
          · rw [if_pos z, b_or, bt_one (by omega) hi]
            simp [show mo = q + 1 by omega]
          · rw [if_neg z]
            simp [show ¬ mo = q + 1 by omega, show ¬ fa = q + 1 by omega]
theorem WFD_ad (h : WFD P D) {mo fa c : Nat} : WFD (adP P D mo fa) (adD P D c) := by
  refine ⟨fun l hl => ?_, fun q hq => ?_, fun a b ha hb e => ?_, fun a b ha hb hd e => ?_⟩
  · have := h.1 l hl
    show dOw D l ≤ pN P + 1 ∧ dLo D l ≤ pN P + 1
    omega
  · have hq : q < pN P + 1 := hq
    rw [adD_sp]
    show _ ≤ pN P + 1 ∧ _
    by_cases k : q = pN P
    · rw [if_pos k]; omega
    · rw [if_neg k]
      have := h.2.1 q (by omega)
      omega
  · have ha : a < pN P + 1 := ha
    have hb : b < pN P + 1 := hb
    rw [adD_sp] at e
    by_cases k : a = pN P
    · rw [if_pos k] at e; omega
    · rw [if_neg k] at e
      have := h.2.1 a (by omega)
      rw [adP_mo, adP_fa, adP_mo, adP_fa, if_neg k, if_neg k, if_neg (by omega), if_neg (by omega)]
      exact h.2.2.1 a b (by omega) (by omega) e
  · have ha : a < pN P + 1 := ha
    have hb : b < pN P + 1 := hb
    rw [adD_sp] at e
    rw [adD_dead] at hd
    by_cases k : a = pN P
    · rw [if_pos k] at e; omega
    · rw [if_neg k] at e hd
      have := h.2.1 a (by omega)
      rw [adD_dead, adD_sp, if_neg (by omega), if_neg (by omega)]
      exact h.2.2.2 a b (by omega) (by omega) hd e
theorem WFS_ad {T : TT} (h : WFS P D T) {mo fa c : Nat} (h12 : pN P < 12) (hm : mo ≤ pN P) (hf : fa ≤ pN P) (hc : c ≤ 99999) : WFS (adP P D mo fa) (adD P D c) T := by
  obtain ⟨w1, w2, w3, w4, w5, w6⟩ := h
  refine ⟨⟨by show pN P + 1 ≤ 12; omega, w1.2.1, fun q hq => ?_⟩, fun q hq => ?_, WFD_ad w3, ⟨w4.1, fun q hq => ?_⟩, ⟨w5.1, w5.2.1, fun q hq => ?_, w5.2.2.2⟩, w6⟩
  · have hq : q < pN P + 1 := hq
    rw [adP_mo, adP_fa]
    by_cases k : q = pN P
    · rw [if_pos k, if_pos k]; omega
    · rw [if_neg k, if_neg k]; exact w1.2.2 q (by omega)
  · have hq : q < pN P + 1 := hq
    show ∃ s, s ≤ 99 ∧ un (un (un P.2 0 (pN P) (nI (dDay D))) 1 (pN P) 0) 2 (pN P) 0 2 q = nI s
    by_cases k : q = pN P
    · exact ⟨0, by omega, by rw [k]; exact un_eq _ _ _ _⟩
    · obtain ⟨s, a, b⟩ := w2 q (by omega)
      exact ⟨s, a, by rw [un_ne _ _ _ k]; exact b⟩
  · have hq : q < pN P + 1 := hq
    show ∃ s, s ≤ 99999 ∧ un (un D.2 2 (pN P) (-1)) 3 (pN P) (nI c) 3 q = nI s
    by_cases k : q = pN P
    · exact ⟨c, hc, by rw [k]; exact un_eq _ _ _ _⟩
    · obtain ⟨s, a, b⟩ := w4.2 q (by omega)
      exact ⟨s, a, by rw [un_ne _ _ _ k]; exact b⟩
  · obtain ⟨a, b, d⟩ := w5.2.2.1 q hq
    refine ⟨a, fun z => b (by have z : pN P + 1 ≤ q := z; omega), fun k hk => ?_⟩
    obtain ⟨x, y, z1, z2⟩ := d k hk
    exact ⟨Nat.lt_succ_of_lt x, Nat.le_succ_of_le y, z1, z2⟩
end PERS
