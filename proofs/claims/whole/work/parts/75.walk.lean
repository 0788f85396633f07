/-! ===== the image: one row, place by place ===== -/
def imN (c i : Nat) : Nat :=
  if c = 240 then i
  else if c = 239 then (if i = 6 then 148 else if i = 12 then 149 else if i = 40 then 654 else 1991)
  else if c < 248 then 150 + 6 * i + (c - 243)
  else if c = 248 then 991 + i
  else if c < 255 then 1992 + 3 * i + (c - 252)
  else if c < 257 then 2040 + 2 * i + (c - 255)
  else if c = 258 then 150 + 6 * i + 5
  else if c < 262 then 222 + 3 * i + (c - 259)
  else if c < 264 then 655 + 2 * i + (c - 262)
  else 671 + i
def imB (n : Nat) : Bool := decide (imN (imC n).1 (imC n).2 = n) && decide (239 ≤ (imC n).1) && decide ((imC n).1 < 265) && !decide ((imC n).1 = 241) && !decide ((imC n).1 = 242) && !decide ((imC n).1 = 249) && !decide ((imC n).1 = 250) && !decide ((imC n).1 = 251) && !decide ((imC n).1 = 257) && (!decide ((imC n).1 = 239) || decide ((imC n).2 = 6) || decide ((imC n).2 = 12) || decide ((imC n).2 = 40) || decide ((imC n).2 = 22))
theorem imB_all : (List.range 2840).all imB = true := by decide +kernel
theorem im_ok {n : Nat} (h : n < 2840) : imN (imC n).1 (imC n).2 = n ∧ (239 ≤ (imC n).1 ∧ (imC n).1 < 265 ∧ (imC n).1 ≠ 241 ∧ (imC n).1 ≠ 242 ∧ (imC n).1 ≠ 249 ∧ (imC n).1 ≠ 250 ∧ (imC n).1 ≠ 251 ∧ (imC n).1 ≠ 257) ∧ ((imC n).1 = 239 → (imC n).2 = 6 ∨ (imC n).2 = 12 ∨ (imC n).2 = 40 ∨ (imC n).2 = 22) := by
  have := List.all_eq_true.mp imB_all n (List.mem_range.mpr h)
  unfold imB at this
  simp only [Bool.and_eq_true, Bool.or_eq_true, Bool.not_eq_true', decide_eq_true_eq, decide_eq_false_iff_not] at this
  omega
theorem im_inj {n m : Nat} (hn : n < 2840) (hm : m < 2840) (h : imC n = imC m) : n = m := by
  have a := (im_ok hn).1
  rw [h, (im_ok hm).1] at a
  exact a.symm
def Wk (b : Bool) (S0 : Mm) (n : Nat) (S : Mm) : Prop :=
  S 239 52 = nI n ∧ S 239 50 = (if b = true then 1 else 0) ∧
  (if b = true then (∀ k i, k ≠ 269 → ¬ (k = 239 ∧ i = 52) → S k i = S0 k i) ∧ (∀ j, j < n → S 269 j = S0 (imC j).1 (imC j).2)
   else (∀ k i, ¬ (k = 239 ∧ i = 52) → (∀ j, j < n → imC j ≠ (k, i)) → S k i = S0 k i) ∧ ∀ j, j < n → S (imC j).1 (imC j).2 = S0 269 j)
theorem uM_n {S : Mm} {a i k j : Nat} {v : Int32} (h : ¬ (k = a ∧ j = i)) : uM S a i v k j = S k j := by rw [uM_at, if_neg h]
theorem kept_step {b : Bool} {S0 S : Mm} {n k i : Nat} (h : Wk b S0 n S) (hn : n < 2840) (hk : imC n = (k, i)) : ∃ v S', f_X11_kept (S k i) S = some (v, S') ∧ Wk b S0 (n + 1) (uM S' k i v) := by
  obtain ⟨h1, h2, h3⟩ := h
  obtain ⟨-, r1, r2⟩ := im_ok hn
  rw [hk] at r1 r2
  have r1 : 239 ≤ k ∧ k < 265 ∧ k ≠ 241 ∧ k ≠ 242 ∧ k ≠ 249 ∧ k ≠ 250 ∧ k ≠ 251 ∧ k ≠ 257 := r1
  have r2 : k = 239 → i = 6 ∨ i = 12 ∨ i = 40 ∨ i = 22 := r2
  have ne : ∀ j, j < n → imC j ≠ (k, i) := fun j hj e => by
    have := im_inj (by omega) hn (e.trans hk.symm)
    omega
  obtain ⟨S1, hS1⟩ : ∃ S1, S1 = uM S 239 52 (nI (n + 1)) := ⟨_, rfl⟩
  have a52 : S1 239 52 = nI (n + 1) := by rw [hS1, uM_eq]
  have a50 : S1 239 50 = S 239 50 := by rw [hS1, uM_ne _ _ _ (by decide)]
  have an : ∀ k i, ¬ (k = 239 ∧ i = 52) → S1 k i = S k i := fun k i z => by rw [hS1, uM_n z]
  unfold f_X11_kept
  rw [nm_x, h1, nI_1, ← hS1, a52, a50, h2, nI_sub1 (by omega), Nat.add_sub_cancel, ix_nI (by omega)]
  cases b with
  | false =>
    rw [if_pos (by decide), gd_t (by omega) (by omega)]
    rw [if_neg (by decide)] at h3
    obtain ⟨h3, h4⟩ := h3
    refine ⟨_, S1, rfl, ?_, ?_, ?_⟩
    · rw [uM_n (by omega), a52]
    · rw [uM_n (by omega), a50, h2]
    · rw [if_neg (by decide)]
      refine ⟨fun k' i' z1 z2 => ?_, fun j hj => ?_⟩
      · have : ¬ (k' = k ∧ i' = i) := fun e => z2 n (by omega) (by rw [hk, e.1, e.2])
        rw [uM_n this, an _ _ z1]
        exact h3 k' i' z1 fun j hj => z2 j (by omega)
      · by_cases e : j = n
        · subst e
          rw [hk]
          show uM S1 k i _ k i = _
          rw [uM_eq, an _ _ (by omega)]
          exact h3 269 j (by omega) fun j' hj' e => by
            have := (im_ok (n := j') (by omega)).2.1
            rw [e] at this
            exact absurd this.2.1 (by show ¬ (269 : Nat) < 265; omega)
        · have z := ne j (by omega)
          obtain ⟨-, -, w⟩ := im_ok (n := j) (by omega)
          rw [uM_n (fun e => z (Prod.ext e.1 e.2)), an _ _ (fun e => by have := w e.1; omega)]
          exact h4 j (by omega)
  | true =>
    rw [if_neg (by decide), gd_t (by omega) (by omega), nm_x]
    rw [if_pos rfl] at h3
    obtain ⟨h3, h4⟩ := h3
    refine ⟨_, _, rfl, ?_, ?_, ?_⟩
    · rw [uM_n (by omega), uM_n (by omega), a52]
    · rw [uM_n (by omega), uM_n (by omega), a50, h2]
    · rw [if_pos rfl]
      refine ⟨fun k' i' z1 z2 => ?_, fun j hj => ?_⟩
      · by_cases e : k' = k ∧ i' = i
        · rw [e.1, e.2, uM_eq]
          exact h3 k i (by omega) (by omega)
        · rw [uM_n e, uM_n (fun q => z1 q.1), an _ _ z2]
          exact h3 k' i' z1 z2
      · rw [uM_n (by omega)]
        by_cases e : j = n
        · rw [e, uM_eq, hk]
          exact h3 k i (by omega) (by omega)
        · rw [uM_ne _ _ _ e, an _ _ (by omega)]
          exact h4 j (by omega)
theorem wk_loop {ρ : Type} {b : Bool} {S0 : Mm} (t base hi : Nat) (G : (Int32 → Mm → Option ρ) → (Int32 → Mm → Option ρ)) (res : Mm → Option ρ) (hh : hi < 5000)
    (hs : ∀ rec i S, i < hi → Wk b S0 (base + t * i) S → ∃ S', G rec (nI i) S = rec (nI (i + 1)) S' ∧ Wk b S0 (base + t * (i + 1)) S')
    (he : ∀ rec S, Wk b S0 (base + t * hi) S → G rec (nI hi) S = res S) {S : Mm} (h : Wk b S0 base S) : ∃ S', itr (fun _ _ => none) G FU 0 S = res S' ∧ Wk b S0 (base + t * hi) S' := by
  have key : ∀ (d lo fuel : Nat) (S : Mm), lo + d = hi → d < fuel → Wk b S0 (base + t * lo) S → ∃ S', itr (fun _ _ => none) G fuel (nI lo) S = res S' ∧ Wk b S0 (base + t * hi) S' := by
    intro d
    induction d with
    | zero =>
      intro lo fuel S h1 h2 hS
      cases fuel with
      | zero => omega
      | succ fu =>
        have e : lo = hi := by omega
        subst e
        exact ⟨S, he _ S hS, hS⟩
    | succ d ih =>
      intro lo fuel S h1 h2 hS
      cases fuel with
      | zero => omega
      | succ fu =>
        obtain ⟨S1, e1, w1⟩ := hs (itr (fun _ _ => none) G fu) lo S (by omega) hS
        obtain ⟨S2, e2, w2⟩ := ih (lo + 1) fu S1 (by omega) (by omega) w1
        exact ⟨S2, e1.trans e2, w2⟩
  have := key hi 0 FU S (by omega) (by unfold FU; omega) (by rw [Nat.mul_zero]; exact h)
  exact this
theorem im_240 {i : Nat} (h : i < 148) : imC i = (240, i) := by
  unfold imC
  rw [if_pos h]
theorem im_6 : imC 148 = (239, 6) := rfl
theorem im_12 : imC 149 = (239, 12) := rfl
theorem im_40 : imC 654 = (239, 40) := rfl
theorem im_22 : imC 1991 = (239, 22) := rfl
theorem im_243 {i : Nat} (h : i < 12) : imC (150 + 6 * i) = (243, i) := by
  unfold imC
  rw [if_neg (by omega), if_neg (by omega), if_neg (by omega), if_pos (by omega), if_pos (by omega)]
  exact Prod.ext rfl (by show _ = i; omega)
theorem im_244 {i : Nat} (h : i < 12) : imC (150 + 6 * i + 1) = (244, i) := by
  unfold imC
  rw [if_neg (by omega), if_neg (by omega), if_neg (by omega), if_pos (by omega), if_neg (by omega), if_pos (by omega)]
  exact Prod.ext rfl (by show _ = i; omega)
theorem im_245 {i : Nat} (h : i < 12) : imC (150 + 6 * i + 2) = (245, i) := by
  unfold imC
  rw [if_neg (by omega), if_neg (by omega), if_neg (by omega), if_pos (by omega), if_neg (by omega), if_neg (by omega), if_pos (by omega)]
  exact Prod.ext rfl (by show _ = i; omega)
theorem im_246 {i : Nat} (h : i < 12) : imC (150 + 6 * i + 3) = (246, i) := by
  unfold imC
  rw [if_neg (by omega), if_neg (by omega), if_neg (by omega), if_pos (by omega), if_neg (by omega), if_neg (by omega), if_neg (by omega), if_pos (by omega)]
  exact Prod.ext rfl (by show _ = i; omega)
theorem im_247 {i : Nat} (h : i < 12) : imC (150 + 6 * i + 4) = (247, i) := by
  unfold imC
  rw [if_neg (by omega), if_neg (by omega), if_neg (by omega), if_pos (by omega), if_neg (by omega), if_neg (by omega), if_neg (by omega), if_neg (by omega), if_pos (by omega)]
  exact Prod.ext rfl (by show _ = i; omega)
theorem im_258 {i : Nat} (h : i < 12) : imC (150 + 6 * i + 5) = (258, i) := by
  unfold imC
  rw [if_neg (by omega), if_neg (by omega), if_neg (by omega), if_pos (by omega), if_neg (by omega), if_neg (by omega), if_neg (by omega), if_neg (by omega), if_neg (by omega)]
  exact Prod.ext rfl (by show _ = i; omega)
theorem im_259 {i : Nat} (h : i < 144) : imC (222 + 3 * i) = (259, i) := by
  unfold imC
  rw [if_neg (by omega), if_neg (by omega), if_neg (by omega), if_neg (by omega), if_pos (by omega), if_pos (by omega)]
  exact Prod.ext rfl (by show _ = i; omega)
theorem im_260 {i : Nat} (h : i < 144) : imC (222 + 3 * i + 1) = (260, i) := by
  unfold imC
  rw [if_neg (by omega), if_neg (by omega), if_neg (by omega), if_neg (by omega), if_pos (by omega), if_neg (by omega), if_pos (by omega)]
  exact Prod.ext rfl (by show _ = i; omega)
theorem im_261 {i : Nat} (h : i < 144) : imC (222 + 3 * i + 2) = (261, i) := by
  unfold imC
  rw [if_neg (by omega), if_neg (by omega), if_neg (by omega), if_neg (by omega), if_pos (by omega), if_neg (by omega), if_neg (by omega)]
  exact Prod.ext rfl (by show _ = i; omega)
theorem im_262 {i : Nat} (h : i < 8) : imC (655 + 2 * i) = (262, i) := by
  unfold imC
  rw [if_neg (by omega), if_neg (by omega), if_neg (by omega), if_neg (by omega), if_neg (by omega), if_neg (by omega), if_pos (by omega), if_pos (by omega)]
  exact Prod.ext rfl (by show _ = i; omega)
theorem im_263 {i : Nat} (h : i < 8) : imC (655 + 2 * i + 1) = (263, i) := by
  unfold imC
  rw [if_neg (by omega), if_neg (by omega), if_neg (by omega), if_neg (by omega), if_neg (by omega), if_neg (by omega), if_pos (by omega), if_neg (by omega)]
  exact Prod.ext rfl (by show _ = i; omega)
theorem im_264 {i : Nat} (h : i < 320) : imC (671 + 1 * i) = (264, i) := by
  unfold imC
  rw [if_neg (by omega), if_neg (by omega), if_neg (by omega), if_neg (by omega), if_neg (by omega), if_neg (by omega), if_neg (by omega), if_pos (by omega)]
  exact Prod.ext rfl (by show _ = i; omega)
theorem im_248 {i : Nat} (h : i < 1000) : imC (991 + i) = (248, i) := by
  unfold imC
  rw [if_neg (by omega), if_neg (by omega), if_neg (by omega), if_neg (by omega), if_neg (by omega), if_neg (by omega), if_neg (by omega), if_neg (by omega), if_pos (by omega)]
  exact Prod.ext rfl (by show _ = i; omega)
theorem im_252 {i : Nat} (h : i < 16) : imC (1992 + 3 * i) = (252, i) := by
  unfold imC
  rw [if_neg (by omega), if_neg (by omega), if_neg (by omega), if_neg (by omega), if_neg (by omega), if_neg (by omega), if_neg (by omega), if_neg (by omega), if_neg (by omega), if_neg (by omega), if_pos (by omega), if_pos (by omega)]
  exact Prod.ext rfl (by show _ = i; omega)
theorem im_253 {i : Nat} (h : i < 16) : imC (1992 + 3 * i + 1) = (253, i) := by
  unfold imC
  rw [if_neg (by omega), if_neg (by omega), if_neg (by omega), if_neg (by omega), if_neg (by omega), if_neg (by omega), if_neg (by omega), if_neg (by omega), if_neg (by omega), if_neg (by omega), if_pos (by omega), if_neg (by omega), if_pos (by omega)]
  exact Prod.ext rfl (by show _ = i; omega)
theorem im_254 {i : Nat} (h : i < 16) : imC (1992 + 3 * i + 2) = (254, i) := by
  unfold imC
  rw [if_neg (by omega), if_neg (by omega), if_neg (by omega), if_neg (by omega), if_neg (by omega), if_neg (by omega), if_neg (by omega), if_neg (by omega), if_neg (by omega), if_neg (by omega), if_pos (by omega), if_neg (by omega), if_neg (by omega)]
  exact Prod.ext rfl (by show _ = i; omega)
theorem im_255 {i : Nat} (h : i < 400) : imC (2040 + 2 * i) = (255, i) := by
  unfold imC
  rw [if_neg (by omega), if_neg (by omega), if_neg (by omega), if_neg (by omega), if_neg (by omega), if_neg (by omega), if_neg (by omega), if_neg (by omega), if_neg (by omega), if_neg (by omega), if_neg (by omega), if_pos (by omega)]
  exact Prod.ext rfl (by show _ = i; omega)
theorem im_256 {i : Nat} (h : i < 400) : imC (2040 + 2 * i + 1) = (256, i) := by
  unfold imC
  rw [if_neg (by omega), if_neg (by omega), if_neg (by omega), if_neg (by omega), if_neg (by omega), if_neg (by omega), if_neg (by omega), if_neg (by omega), if_neg (by omega), if_neg (by omega), if_neg (by omega), if_neg (by omega)]
  exact Prod.ext rfl (by show _ = i; omega)
theorem wk_136 {b : Bool} {S0 S : Mm} (h : Wk b S0 222 S) : ∃ S', f_X11_keepsPeople_136 FU 0 S = some S' ∧ Wk b S0 (222 + 3 * 144) S' := by
  refine wk_loop 3 222 144 (fun k => f_X11_keepsPeople_136b k) (fun S' => some S') (by omega) (fun rec i S hi hw => ?_) (fun rec S hw => ?_) h
  · show ∃ S', f_X11_keepsPeople_136b rec (nI i) S = _ ∧ _
    unfold f_X11_keepsPeople_136b
    rw [if_neg (show ¬ (144 : Int32) ≤ nI i from nI_ge_f (a := 144) (by omega) (by omega))]
    obtain ⟨v0, S0, e0, w0⟩ := kept_step hw (by omega) (im_259 (i := i) (by omega))
    rw [gd_t (by omega) (by omega), ix_nI (by omega), e0]
    simp only [bind_x]
    rw [gd_t (by omega) (by omega), nm_x]
    obtain ⟨v1, S1, e1, w1⟩ := kept_step w0 (by omega) (im_260 (i := i) (by omega))
    rw [gd_t (by omega) (by omega), e1]
    simp only [bind_x]
    rw [gd_t (by omega) (by omega), nm_x]
    obtain ⟨v2, S2, e2, w2⟩ := kept_step w1 (by omega) (im_261 (i := i) (by omega))
    rw [gd_t (by omega) (by omega), e2]
    simp only [bind_x]
    rw [gd_t (by omega) (by omega), nm_x]
    rw [nm_x, nI_1]
    exact ⟨_, rfl, w2⟩
  · show f_X11_keepsPeople_136b rec (nI 144) S = _
    unfold f_X11_keepsPeople_136b
    rw [if_pos (show (144 : Int32) ≤ nI 144 from nI_ge_t (a := 144) (by omega) (by omega))]
theorem wk_26 {b : Bool} {S0 S : Mm} (h : Wk b S0 150 S) : ∃ S', f_X11_keepsPeople_26 FU 0 S = f_X11_keepsPeople_136 FU 0 S' ∧ Wk b S0 (150 + 6 * 12) S' := by
  refine wk_loop 6 150 12 (fun k => f_X11_keepsPeople_26b k) (fun S' => f_X11_keepsPeople_136 FU 0 S') (by omega) (fun rec i S hi hw => ?_) (fun rec S hw => ?_) h
  · show ∃ S', f_X11_keepsPeople_26b rec (nI i) S = _ ∧ _
    unfold f_X11_keepsPeople_26b
    rw [if_neg (show ¬ (12 : Int32) ≤ nI i from nI_ge_f (a := 12) (by omega) (by omega))]
    obtain ⟨v0, S0, e0, w0⟩ := kept_step hw (by omega) (im_243 (i := i) (by omega))
    rw [gd_t (by omega) (by omega), ix_nI (by omega), e0]
    simp only [bind_x]
    rw [gd_t (by omega) (by omega), nm_x]
    obtain ⟨v1, S1, e1, w1⟩ := kept_step w0 (by omega) (im_244 (i := i) (by omega))
    rw [gd_t (by omega) (by omega), e1]
    simp only [bind_x]
    rw [gd_t (by omega) (by omega), nm_x]
    obtain ⟨v2, S2, e2, w2⟩ := kept_step w1 (by omega) (im_245 (i := i) (by omega))
    rw [gd_t (by omega) (by omega), e2]
    simp only [bind_x]
    rw [gd_t (by omega) (by omega), nm_x]
    obtain ⟨v3, S3, e3, w3⟩ := kept_step w2 (by omega) (im_246 (i := i) (by omega))
    rw [gd_t (by omega) (by omega), e3]
    simp only [bind_x]
    rw [gd_t (by omega) (by omega), nm_x]
    obtain ⟨v4, S4, e4, w4⟩ := kept_step w3 (by omega) (im_247 (i := i) (by omega))
    rw [gd_t (by omega) (by omega), e4]
    simp only [bind_x]
    rw [gd_t (by omega) (by omega), nm_x]
    obtain ⟨v5, S5, e5, w5⟩ := kept_step w4 (by omega) (im_258 (i := i) (by omega))
    rw [gd_t (by omega) (by omega), e5]
    simp only [bind_x]
    rw [gd_t (by omega) (by omega), nm_x]
    rw [nm_x, nI_1]
    exact ⟨_, rfl, w5⟩
  · show f_X11_keepsPeople_26b rec (nI 12) S = _
    unfold f_X11_keepsPeople_26b
    rw [if_pos (show (12 : Int32) ≤ nI 12 from nI_ge_t (a := 12) (by omega) (by omega))]
theorem wk_60 {b : Bool} {S0 S : Mm} (h : Wk b S0 671 S) : ∃ S', f_X11_keepsDeeds_60 FU 0 S = some S' ∧ Wk b S0 (671 + 1 * 320) S' := by
  refine wk_loop 1 671 320 (fun k => f_X11_keepsDeeds_60b k) (fun S' => some S') (by omega) (fun rec i S hi hw => ?_) (fun rec S hw => ?_) h
  · show ∃ S', f_X11_keepsDeeds_60b rec (nI i) S = _ ∧ _
    unfold f_X11_keepsDeeds_60b
    rw [if_neg (show ¬ (320 : Int32) ≤ nI i from nI_ge_f (a := 320) (by omega) (by omega))]
    obtain ⟨v0, S0, e0, w0⟩ := kept_step hw (by omega) (im_264 (i := i) (by omega))
    rw [gd_t (by omega) (by omega), ix_nI (by omega), e0]
    simp only [bind_x]
    rw [gd_t (by omega) (by omega), nm_x]
    rw [nm_x, nI_1]
    exact ⟨_, rfl, w0⟩
  · show f_X11_keepsDeeds_60b rec (nI 320) S = _
    unfold f_X11_keepsDeeds_60b
    rw [if_pos (show (320 : Int32) ≤ nI 320 from nI_ge_t (a := 320) (by omega) (by omega))]
theorem wk_14 {b : Bool} {S0 S : Mm} (h : Wk b S0 655 S) : ∃ S', f_X11_keepsDeeds_14 FU 0 S = f_X11_keepsDeeds_60 FU 0 S' ∧ Wk b S0 (655 + 2 * 8) S' := by
  refine wk_loop 2 655 8 (fun k => f_X11_keepsDeeds_14b k) (fun S' => f_X11_keepsDeeds_60 FU 0 S') (by omega) (fun rec i S hi hw => ?_) (fun rec S hw => ?_) h
  · show ∃ S', f_X11_keepsDeeds_14b rec (nI i) S = _ ∧ _
    unfold f_X11_keepsDeeds_14b
    rw [if_neg (show ¬ (8 : Int32) ≤ nI i from nI_ge_f (a := 8) (by omega) (by omega))]
    obtain ⟨v0, S0, e0, w0⟩ := kept_step hw (by omega) (im_262 (i := i) (by omega))
    rw [gd_t (by omega) (by omega), ix_nI (by omega), e0]
    simp only [bind_x]
    rw [gd_t (by omega) (by omega), nm_x]
    obtain ⟨v1, S1, e1, w1⟩ := kept_step w0 (by omega) (im_263 (i := i) (by omega))
    rw [gd_t (by omega) (by omega), e1]
    simp only [bind_x]
    rw [gd_t (by omega) (by omega), nm_x]
    rw [nm_x, nI_1]
    exact ⟨_, rfl, w1⟩
  · show f_X11_keepsDeeds_14b rec (nI 8) S = _
    unfold f_X11_keepsDeeds_14b
    rw [if_pos (show (8 : Int32) ≤ nI 8 from nI_ge_t (a := 8) (by omega) (by omega))]
theorem wk_76 {b : Bool} {S0 S : Mm} (h : Wk b S0 2040 S) : ∃ S', f_X11_keepsLaw_76 FU 0 S = some S' ∧ Wk b S0 (2040 + 2 * 400) S' := by
  refine wk_loop 2 2040 400 (fun k => f_X11_keepsLaw_76b k) (fun S' => some S') (by omega) (fun rec i S hi hw => ?_) (fun rec S hw => ?_) h
  · show ∃ S', f_X11_keepsLaw_76b rec (nI i) S = _ ∧ _
    unfold f_X11_keepsLaw_76b
    rw [if_neg (show ¬ (400 : Int32) ≤ nI i from nI_ge_f (a := 400) (by omega) (by omega))]
    obtain ⟨v0, S0, e0, w0⟩ := kept_step hw (by omega) (im_255 (i := i) (by omega))
    rw [gd_t (by omega) (by omega), ix_nI (by omega), e0]
    simp only [bind_x]
    rw [gd_t (by omega) (by omega), nm_x]
    obtain ⟨v1, S1, e1, w1⟩ := kept_step w0 (by omega) (im_256 (i := i) (by omega))
    rw [gd_t (by omega) (by omega), e1]
    simp only [bind_x]
    rw [gd_t (by omega) (by omega), nm_x]
    rw [nm_x, nI_1]
    exact ⟨_, rfl, w1⟩
  · show f_X11_keepsLaw_76b rec (nI 400) S = _
    unfold f_X11_keepsLaw_76b
    rw [if_pos (show (400 : Int32) ≤ nI 400 from nI_ge_t (a := 400) (by omega) (by omega))]
theorem wk_l14 {b : Bool} {S0 S : Mm} (h : Wk b S0 1992 S) : ∃ S', f_X11_keepsLaw_14 FU 0 S = f_X11_keepsLaw_76 FU 0 S' ∧ Wk b S0 (1992 + 3 * 16) S' := by
  refine wk_loop 3 1992 16 (fun k => f_X11_keepsLaw_14b k) (fun S' => f_X11_keepsLaw_76 FU 0 S') (by omega) (fun rec i S hi hw => ?_) (fun rec S hw => ?_) h
  · show ∃ S', f_X11_keepsLaw_14b rec (nI i) S = _ ∧ _
    unfold f_X11_keepsLaw_14b
    rw [if_neg (show ¬ (16 : Int32) ≤ nI i from nI_ge_f (a := 16) (by omega) (by omega))]
    obtain ⟨v0, S0, e0, w0⟩ := kept_step hw (by omega) (im_252 (i := i) (by omega))
    rw [gd_t (by omega) (by omega), ix_nI (by omega), e0]
    simp only [bind_x]
    rw [gd_t (by omega) (by omega), nm_x]
    obtain ⟨v1, S1, e1, w1⟩ := kept_step w0 (by omega) (im_253 (i := i) (by omega))
    rw [gd_t (by omega) (by omega), e1]
    simp only [bind_x]
    rw [gd_t (by omega) (by omega), nm_x]
    obtain ⟨v2, S2, e2, w2⟩ := kept_step w1 (by omega) (im_254 (i := i) (by omega))
    rw [gd_t (by omega) (by omega), e2]
    simp only [bind_x]
    rw [gd_t (by omega) (by omega), nm_x]
    rw [nm_x, nI_1]
    exact ⟨_, rfl, w2⟩
  · show f_X11_keepsLaw_14b rec (nI 16) S = _
    unfold f_X11_keepsLaw_14b
    rw [if_pos (show (16 : Int32) ≤ nI 16 from nI_ge_t (a := 16) (by omega) (by omega))]
theorem wk_people {b : Bool} {S0 S : Mm} (h : Wk b S0 148 S) : ∃ S', f_X11_keepsPeople S = some S' ∧ Wk b S0 654 S' := by
  obtain ⟨v0, S1, e0, w0⟩ := kept_step h (by omega) im_6
  obtain ⟨v1, S2, e1, w1⟩ := kept_step w0 (by omega) im_12
  obtain ⟨S3, e2, w2⟩ := wk_26 w1
  obtain ⟨S4, e3, w3⟩ := wk_136 w2
  refine ⟨S4, ?_, w3⟩
  unfold f_X11_keepsPeople
  rw [e0]
  simp only [bind_x]
  rw [nm_x, e1]
  simp only [bind_x]
  rw [nm_x, e2, e3]
theorem wk_deeds {b : Bool} {S0 S : Mm} (h : Wk b S0 654 S) : ∃ S', f_X11_keepsDeeds S = some S' ∧ Wk b S0 991 S' := by
  obtain ⟨v0, S1, e0, w0⟩ := kept_step h (by omega) im_40
  obtain ⟨S3, e2, w2⟩ := wk_14 w0
  obtain ⟨S4, e3, w3⟩ := wk_60 w2
  refine ⟨S4, ?_, w3⟩
  unfold f_X11_keepsDeeds
  rw [e0]
  simp only [bind_x]
  rw [nm_x, e2, e3]
theorem wk_law {b : Bool} {S0 S : Mm} (h : Wk b S0 1991 S) : ∃ S', f_X11_keepsLaw S = some S' ∧ Wk b S0 2840 S' := by
  obtain ⟨v0, S1, e0, w0⟩ := kept_step h (by omega) im_22
  obtain ⟨S3, e2, w2⟩ := wk_l14 w0
  obtain ⟨S4, e3, w3⟩ := wk_76 w2
  refine ⟨S4, ?_, w3⟩
  unfold f_X11_keepsLaw
  rw [e0]
  simp only [bind_x]
  rw [nm_x, e2, e3]
def endI (x1 : Int32) (S : Mm) : Option (Int32 × Mm) :=
   (f_X11_keepsLaw S).bind fun S_1 =>
   (f_X11_findsKin S_1).bind fun S_2 =>
   if x1 = 0 then (
    nm (uM S_2 239 3 (0 : Int32)) fun S_3 =>
    some ((1 : Int32), S_3)
   ) else (
    some ((1 : Int32), S_2)
   )
theorem wk_74 {b : Bool} {S0 S : Mm} (x : Int32) (h : Wk b S0 991 S) : ∃ S', f_X11_image_74 FU x 0 S = endI x S' ∧ Wk b S0 (991 + 1 * 1000) S' := by
  have key : ∀ (d lo fuel : Nat) (S : Mm), lo + d = 1000 → d < fuel → Wk b S0 (991 + lo) S → ∃ S', f_X11_image_74 fuel x (nI lo) S = endI x S' ∧ Wk b S0 (991 + 1 * 1000) S' := by
    intro d
    induction d with
    | zero =>
      intro lo fuel S h1 h2 hw
      cases fuel with
      | zero => omega
      | succ fu =>
        have e : lo = 1000 := by omega
        subst e
        refine ⟨S, ?_, hw⟩
        show f_X11_image_74b (f_X11_image_74 fu) x (nI 1000) S = _
        unfold f_X11_image_74b
        rw [if_pos (show (1000 : Int32) ≤ nI 1000 from nI_ge_t (a := 1000) (by omega) (by omega))]
        try rfl
    | succ d ih =>
      intro i fuel S h1 h2 hw
      cases fuel with
      | zero => omega
      | succ fu =>
        show ∃ S', f_X11_image_74b (f_X11_image_74 fu) x (nI i) S = _ ∧ _
        unfold f_X11_image_74b
        rw [if_neg (show ¬ (1000 : Int32) ≤ nI i from nI_ge_f (a := 1000) (by omega) (by omega))]
        obtain ⟨v0, S1, e0, w0⟩ := kept_step hw (by omega) (show imC (991 + i) = (248, i) from im_248 (by omega))
        rw [gd_t (by omega) (by omega), ix_nI (by omega), e0]
        simp only [bind_x]
        rw [gd_t (by omega) (by omega), nm_x, nm_x, nI_1]
        exact ih (i + 1) fu _ (by omega) (by omega) w0
  have := key 1000 0 FU S (by omega) (by unfold FU; omega) h
  exact this
theorem wk_35 {b : Bool} {S0 S : Mm} (x : Int32) (h : Wk b S0 0 S) : ∃ S', f_X11_image_35 FU x 0 S = ((f_X11_keepsPeople S').bind fun S_1 => (f_X11_keepsDeeds S_1).bind fun S_2 => f_X11_image_74 FU x (0 : Int32) S_2) ∧ Wk b S0 (0 + 1 * 148) S' := by
  have key : ∀ (d lo fuel : Nat) (S : Mm), lo + d = 148 → d < fuel → Wk b S0 (0 + lo) S → ∃ S', f_X11_image_35 fuel x (nI lo) S = ((f_X11_keepsPeople S').bind fun S_1 => (f_X11_keepsDeeds S_1).bind fun S_2 => f_X11_image_74 FU x (0 : Int32) S_2) ∧ Wk b S0 (0 + 1 * 148) S' := by
    intro d
    induction d with
    | zero =>
      intro lo fuel S h1 h2 hw
      cases fuel with
      | zero => omega
      | succ fu =>
        have e : lo = 148 := by omega
        subst e
        refine ⟨S, ?_, hw⟩
        show f_X11_image_35b (f_X11_image_35 fu) x (nI 148) S = _
        unfold f_X11_image_35b
        rw [if_pos (show (148 : Int32) ≤ nI 148 from nI_ge_t (a := 148) (by omega) (by omega))]
        try rfl
    | succ d ih =>
      intro i fuel S h1 h2 hw
      cases fuel with
      | zero => omega
      | succ fu =>
        show ∃ S', f_X11_image_35b (f_X11_image_35 fu) x (nI i) S = _ ∧ _
        unfold f_X11_image_35b
        rw [if_neg (show ¬ (148 : Int32) ≤ nI i from nI_ge_f (a := 148) (by omega) (by omega))]
        obtain ⟨v0, S1, e0, w0⟩ := kept_step hw (by omega) (show imC (0 + i) = (240, i) from by rw [Nat.zero_add]; exact im_240 (by omega))
        rw [gd_t (by omega) (by omega), ix_nI (by omega), e0]
        simp only [bind_x]
        rw [gd_t (by omega) (by omega), nm_x, nm_x, nI_1]
        exact ih (i + 1) fu _ (by omega) (by omega) w0
  have := key 148 0 FU S (by omega) (by unfold FU; omega) h
  exact this
theorem wk_all {b : Bool} {S0 : Mm} (x : Int32) (h : Wk b S0 0 S0) : ∃ S', f_X11_image_35 FU x 0 S0 = ((f_X11_findsKin S').bind fun S_2 => if x = 0 then some ((1 : Int32), uM S_2 239 3 (0 : Int32)) else some ((1 : Int32), S_2)) ∧ Wk b S0 2840 S' := by
  obtain ⟨S1, e1, w1⟩ := wk_35 x h
  obtain ⟨S2, e2, w2⟩ := wk_people w1
  obtain ⟨S3, e3, w3⟩ := wk_deeds w2
  obtain ⟨S4, e4, w4⟩ := wk_74 x w3
  obtain ⟨S5, e5, w5⟩ := wk_law w4
  refine ⟨S5, ?_, w5⟩
  rw [e1, e2]
  simp only [bind_x]
  rw [e3]
  simp only [bind_x]
  rw [e4]
  unfold endI
  rw [e5]
  simp only [bind_x, nm_x]
