/-! ===== hands: what each can write, kept in a row ===== -/
theorem RK.congr {K K' : Mm} {P : PP} {D : DD} (h : RK K P D) (e : ∀ j, j < 16 → K' j = K j) : RK K' P D := by
  unfold RK at h ⊢
  rw [e 0 (by omega), e 1 (by omega), e 2 (by omega), e 3 (by omega), e 4 (by omega), e 5 (by omega), e 6 (by omega), e 7 (by omega), e 8 (by omega), e 9 (by omega), e 10 (by omega), e 11 (by omega), e 12 (by omega), e 13 (by omega), e 14 (by omega), e 15 (by omega)]
  exact h
/-- a cell that no Clan holds -/
def kOK (k : Nat) : Bool := clanL.all (fun c => decide (k < c ∨ c + 16 ≤ k))
theorem kOK_ne {k c j : Nat} (h : kOK k = true) (hc : isClan c) (hj : j < 16) : c + j ≠ k := by
  have := of_decide_eq_true (List.all_eq_true.mp h c hc)
  omega
theorem RK_rM {A : Mm} {c k : Nat} {f : Nat → Int32} {P : PP} {D : DD} (hc : isClan c) (hk : kOK k = true) (h : RK (fun j => A (c + j)) P D) : RK (fun j => (rM A k f) (c + j)) P D := h.congr fun j hj => rM_off _ _ (kOK_ne hk hc hj)
/-- the reference's people, row and kin -/
def RB (B : Mm) (P : PP) (D : DD) : Prop := RS B P ∧ RW (B 240) P D ∧ RKin B P D
theorem RB.congr {B B' : Mm} {P : PP} {D : DD} (h : RB B P D) (e1 : B' 239 = B 239) (e2 : B' 240 = B 240) (e3 : B' 243 = B 243) (e4 : B' 244 = B 244) (e5 : B' 245 = B 245) (e6 : B' 246 = B 246) (e7 : B' 247 = B 247) (e8 : B' 249 = B 249) : RB B' P D := by
  unfold RB RS RKin at h ⊢
  rw [e1, e2, e3, e4, e5, e6, e7, e8]
  exact h
def rOK (k : Nat) : Bool := decide (k ≠ 239 ∧ k ≠ 240 ∧ k ≠ 243 ∧ k ≠ 244 ∧ k ≠ 245 ∧ k ≠ 246 ∧ k ≠ 247 ∧ k ≠ 249)
theorem RB_rM {B : Mm} {k : Nat} {f : Nat → Int32} {P : PP} {D : DD} (hk : rOK k = true) (h : RB B P D) : RB (rM B k f) P D := by
  have := of_decide_eq_true hk
  exact h.congr (rM_off _ _ (by omega)) (rM_off _ _ (by omega)) (rM_off _ _ (by omega)) (rM_off _ _ (by omega)) (rM_off _ _ (by omega)) (rM_off _ _ (by omega)) (rM_off _ _ (by omega)) (rM_off _ _ (by omega))
theorem bt_letS {P : PP} {D : DD} {q i : Nat} (hi : i < 32) : bt (letS P D q) i = (decide (i < 28) && can P D q i) := bt_setF _ 28 (by omega) i hi
/-- a row that is filled from 0 on -/
theorem fill_at {v : Nat → Int32} (f0 : Nat → Int32) : ∀ (n : Nat), ∀ j, j < n → ff (fun i (f : Nat → Int32) => upd f i (v i)) 0 n f0 j = v j := by
  intro n
  have := ff_ind (step := fun i (f : Nat → Int32) => upd f i (v i)) (fun i f => ∀ j, j < i → f j = v j) n 0 f0 (fun j hj => by omega) (fun i f _ _ hf j hj => by
    show upd f i (v i) j = v j
    unfold upd
    by_cases e : j = i
    · rw [if_pos e, e]
    · rw [if_neg e]; exact hf j (by omega))
  rw [Nat.zero_add] at this
  exact this
theorem C_ask {A : Mm} {c : Nat} {P : PP} {D : DD} (hc : isClan c) (h : RK (fun j => A (c + j)) P D) (hP : WFP P) (hD : WFD P D) : ∃ f, f_X7_ask c A = some (rM A 182 f) ∧ ∀ q, q < 12 → f q = letS P D q := by
  unfold f_X7_ask
  have := (itr_for (fun _ _ => none) (fun k => f_X7_ask_2b k c) (fun f i (s : Nat → Int32) => f (nI i) (rM A 182 s)) 12 (fun i s => upd s i (letS P D i)) (fun s => some (rM A 182 s)) (fun _ _ => True) ?_ ?_ 12 0 FU (A 182) (by omega) (by unfold FU; omega) trivial).1
  · rw [rM_id] at this
    exact ⟨_, this, fill_at (A 182) 12⟩
  · intro rec i s hi _
    refine ⟨?_, trivial⟩
    show f_X7_ask_2b rec c (nI i) (rM A 182 s) = _
    simp only [f_X7_ask_2b, nm]
    rw [nI_lit 12, if_neg (nI_ge_f hi (by omega)), C_writableBy (RK_rM hc (by decide) h) hP hD hi]
    simp only [Option.bind_some]
    rw [gd_pos ((inB_nI (by omega)).mpr (by omega)), ix_nI (by omega), uM_rMs, nI_1]
  · intro rec s _
    show f_X7_ask_2b rec c (nI 12) (rM A 182 s) = _
    simp only [f_X7_ask_2b]
    rw [nI_lit 12, if_pos (nI_ge_t (Nat.le_refl _) (by omega))]
theorem letS_out {P : PP} {D : DD} {q : Nat} (h : ¬ q < pN P) : letS P D q = 0 := letS_0 (by unfold liv; simp [h])
theorem F_findsHands {B : Mm} {P : PP} {D : DD} (h : RB B P D) (hP : WFP P) (hD : WFD P D) : ∃ f, f_X11_findsHands B = some (rM B 267 f) ∧ ∀ q, q < 12 → f q = letS P D q := by
  unfold f_X11_findsHands
  have hN := hP.1
  have := (itr_for (fun _ _ => none) (fun k => f_X11_findsHands_2b k) (fun f i (s : Nat → Int32) => f (nI i) (rM B 267 s)) 12 (fun i s => upd s i (letS P D i)) (fun s => some (rM B 267 s)) (fun _ _ => True) ?_ ?_ 12 0 FU (B 267) (by omega) (by unfold FU; omega) trivial).1
  · rw [rM_id] at this
    exact ⟨_, this, fill_at (B 267) 12⟩
  · intro rec i s hi _
    refine ⟨?_, trivial⟩
    show f_X11_findsHands_2b rec (nI i) (rM B 267 s) = _
    simp only [f_X11_findsHands_2b, f_X11_findsHands_30, nm]
    obtain ⟨h1, h2, h3⟩ := RB_rM (k := 267) (f := s) (by decide) h
    rw [nI_lit 12, if_neg (nI_ge_f hi (by omega)), h1.1.1]
    by_cases c : i < pN P
    · rw [if_neg (nI_ge_f c (by omega)), F_lettersOf h1 h2 h3 hP hD c]
      simp only [Option.bind_some]
      rw [gd_pos ((inB_nI (by omega)).mpr (by omega)), ix_nI (by omega), uM_rMs, nI_1]
    · rw [if_pos (nI_ge_t (by omega) (by omega)), gd_pos ((inB_nI (by omega)).mpr (by omega)), ix_nI (by omega), uM_rMs, nI_1, letS_out c]
  · intro rec s _
    show f_X11_findsHands_2b rec (nI 12) (rM B 267 s) = _
    simp only [f_X11_findsHands_2b]
    rw [nI_lit 12, if_pos (nI_ge_t (Nat.le_refl _) (by omega))]
/-- what the people of a set can write together -/
def togS (P : PP) (D : DD) (x : Int32) : Int32 := setF 28 (fun l => (List.range (pN P)).any (fun q => bt x q && can P D q l))
theorem tog_eq {P : PP} {D : DD} {n : Nat} {f : Nat → Int32} (hf : ∀ q, q < n → f q = letS P D q) (hn : pN P ≤ n) (x : Int32) : ff (fun c (a : Int32) => if bt x c = true then a ||| f c else a) 0 n 0 = togS P D x := by
  apply setF_ext (by omega)
  intro i hi
  rw [bt_ffor hi, b_0, Bool.false_or, Bool.eq_iff_iff, List.any_eq_true, Bool.and_eq_true, List.any_eq_true]
  constructor
  · rintro ⟨q, hq, e⟩
    rw [List.mem_range] at hq
    rw [Nat.zero_add, hf q hq, bt_letS hi, Bool.and_eq_true, Bool.and_eq_true] at e
    refine ⟨e.2.1, q, ?_, by rw [e.1, e.2.2]; rfl⟩
    have := e.2.2
    unfold can at this
    rw [Bool.and_eq_true] at this
    exact List.mem_range.mpr (liv_lt this.1)
  · rintro ⟨h1, q, hq, e⟩
    rw [List.mem_range] at hq
    rw [Bool.and_eq_true] at e
    refine ⟨q, List.mem_range.mpr (by omega), ?_⟩
    rw [Nat.zero_add, hf q (by omega), bt_letS hi, e.1, h1, e.2]
    rfl
theorem C_together {A : Mm} {P : PP} {D : DD} (hP : WFP P) (hf : ∀ q, q < 12 → A 182 q = letS P D q) (x : Int32) : f_X7_together x A = some (togS P D x, A) := by
  unfold f_X7_together
  have := (itr_for (fun _ _ _ _ => none) (fun k => f_X7_together_4b k) (fun f i (a : Int32) => f x a (nI i) A) 12 (fun i a => if bt x i = true then a ||| A 182 i else a) (fun a => some (a, A)) (fun _ _ => True) ?_ ?_ 12 0 FU 0 (by omega) (by unfold FU; omega) trivial).1
  · rw [tog_eq hf hP.1] at this
    exact this
  · intro rec i a hi _
    refine ⟨?_, trivial⟩
    show f_X7_together_4b rec x a (nI i) A = _
    simp only [f_X7_together_4b, f_X7_together_28, nm]
    rw [nI_lit 12, if_neg (nI_ge_f hi (by omega)), gd_pos ((inB_nI (by omega)).mpr (by omega)), ix_nI (by omega), nI_1]
    by_cases c : bt x i = true
    · rw [if_pos ((tb_1 (by omega)).mpr c), if_pos c]
    · rw [if_neg (fun e => c ((tb_1 (by omega)).mp e)), if_neg c]
  · intro rec a _
    show f_X7_together_4b rec x a (nI 12) A = _
    simp only [f_X7_together_4b]
    rw [nI_lit 12, if_pos (nI_ge_t (Nat.le_refl _) (by omega))]
theorem F_handOf {B : Mm} {P : PP} {D : DD} (h : RS B P) (hP : WFP P) (hf : ∀ q, q < 12 → B 267 q = letS P D q) (x : Int32) : f_X11_handOf x B = some (togS P D x, B) := by
  have hN := hP.1
  unfold f_X11_handOf
  have := (itr_for (fun _ _ _ _ => none) (fun k => f_X11_handOf_4b k) (fun f i (a : Int32) => f x a (nI i) B) (pN P) (fun i a => if bt x i = true then a ||| B 267 i else a) (fun a => some (a, B)) (fun _ _ => True) ?_ ?_ (pN P) 0 FU 0 (by omega) (by unfold FU; omega) trivial).1
  · rw [tog_eq (fun q hq => hf q (by omega)) (Nat.le_refl _)] at this
    exact this
  · intro rec i a hi _
    refine ⟨?_, trivial⟩
    show f_X11_handOf_4b rec x a (nI i) B = _
    simp only [f_X11_handOf_4b, f_X11_handOf_30, nm]
    rw [h.1.1, if_neg (nI_ge_f hi (by omega)), gd_pos ((inB_nI (by omega)).mpr (by omega)), ix_nI (by omega), nI_1]
    by_cases c : bt x i = true
    · rw [if_pos ((tb_1 (by omega)).mpr c), if_pos c]
    · rw [if_neg (fun e => c ((tb_1 (by omega)).mp e)), if_neg c]
  · intro rec a _
    show f_X11_handOf_4b rec x a (nI (pN P)) B = _
    simp only [f_X11_handOf_4b]
    rw [h.1.1, if_pos (nI_ge_t (Nat.le_refl _) (by omega))]
/-- who can write all letters of a set alone -/
def aloS (P : PP) (D : DD) (x : Int32) : Int32 := setF (pN P) (fun q => decide (x &&& (letS P D q ^^^ (-1)) = 0))
theorem F_aloneOf {B : Mm} {P : PP} {D : DD} (h : RS B P) (hP : WFP P) (hf : ∀ q, q < 12 → B 267 q = letS P D q) (x : Int32) : f_X11_aloneOf x B = some (aloS P D x, B) := by
  have hN := hP.1
  unfold f_X11_aloneOf aloS
  refine loop_set (fun _ _ _ _ => none) (fun k => f_X11_aloneOf_4b k) (fun f i a => f x a (nI i) B) (pN P) _ (fun a => some (a, B)) (by omega) ?_ ?_
  · intro rec i a hi
    show f_X11_aloneOf_4b rec x a (nI i) B = _
    simp only [f_X11_aloneOf_4b, f_X11_aloneOf_31, nm]
    rw [h.1.1, if_neg (nI_ge_f hi (by omega)), gd_pos ((inB_nI (by omega)).mpr (by omega)), ix_nI (by omega), hf i (by omega), nI_1]
    by_cases c : x &&& (letS P D i ^^^ (-1)) = 0
    · rw [if_pos c, if_pos (decide_eq_true c)]
    · rw [if_neg c, if_neg (fun e9 => c (of_decide_eq_true e9))]
  · intro rec a
    show f_X11_aloneOf_4b rec x a (nI (pN P)) B = _
    simp only [f_X11_aloneOf_4b]
    rw [h.1.1, if_pos (nI_ge_t (Nat.le_refl _) (by omega))]
theorem C_writers {A : Mm} {P : PP} {D : DD} (h : RK (fun j => A (1 + j)) P D) (hP : WFP P) (hD : WFD P D) (x : Int32) : ∃ f, f_X7_writers x A = some (aloS P D x, rM A 182 f) := by
  have hN := hP.1
  obtain ⟨f, e, hf⟩ := C_ask (c := 1) (by decide : 1 ∈ clanL) h hP hD
  refine ⟨f, ?_⟩
  have h3 : A 1 3 = nI (pN P) := h.1.2.2.2
  unfold f_X7_writers aloS
  rw [e]
  simp only [Option.bind_some]
  refine loop_set (fun _ _ _ _ => none) (fun k => f_X7_writers_12b k) (fun g i a => g x a (nI i) (rM A 182 f)) (pN P) _ (fun a => some (a, rM A 182 f)) (by omega) ?_ ?_
  · intro rec i a hi
    show f_X7_writers_12b rec x a (nI i) (rM A 182 f) = _
    simp only [f_X7_writers_12b, f_X7_writers_42, nm]
    rw [rM_off _ _ (by decide), h3, if_neg (nI_ge_f hi (by omega)), gd_pos ((inB_nI (by omega)).mpr (by omega)), ix_nI (by omega), rM_same, hf i (by omega), nI_1]
    by_cases c : x &&& (letS P D i ^^^ (-1)) = 0
    · rw [if_pos c, if_pos (decide_eq_true c)]
    · rw [if_neg c, if_neg (fun e9 => c (of_decide_eq_true e9))]
  · intro rec a
    show f_X7_writers_12b rec x a (nI (pN P)) (rM A 182 f) = _
    simp only [f_X7_writers_12b]
    rw [rM_off _ _ (by decide), h3, if_pos (nI_ge_t (Nat.le_refl _) (by omega))]
/-- who lives, as a set -/
def livS (P : PP) (D : DD) : Int32 := setF 32 (liv P D)
theorem bt_livS {P : PP} {D : DD} {i : Nat} (hi : i < 32) : bt (livS P D) i = liv P D i := by
  unfold livS
  rw [bt_setF _ 32 (by omega) i hi]
  simp [hi]
theorem C_living {K : Mm} {P : PP} {D : DD} (h : RK K P D) : K 0 4 = livS P D := b_ext fun i hi => by rw [h.2.1 i hi, bt_livS hi]
theorem bt_low : ∀ n, n < 13 → ∀ i, i < 32 → bt (shl 1 (nI n) - 1) i = decide (i < n) := by decide +kernel
theorem F_livingOnes {B : Mm} {P : PP} {D : DD} (h : RB B P D) (hP : WFP P) : f_X11_livingOnes B = some (livS P D, B) := by
  have hN := hP.1
  unfold f_X11_livingOnes
  congr 2
  apply b_ext
  intro i hi
  rw [b_and, h.1.1.1, bt_low _ (by omega) i hi, bt_not _ hi, bt_livS hi]
  unfold liv
  by_cases c : i < pN P
  · rw [h.2.1.2.1 i c]
    simp
  · simp [c]
