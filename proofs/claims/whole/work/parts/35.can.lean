/-! ===== who can write what ===== -/
theorem loop_set {T R : Type} (bot : T) (G : T → T) (app : T → Nat → Int32 → R) (n : Nat) (p : Nat → Bool) (res : Int32 → R) (hn : n < 10000) (hs : ∀ rec i a, i < n → app (G rec) i a = app rec (i + 1) (if p i = true then a ||| shl 1 (nI i) else a)) (he : ∀ rec a, app (G rec) n a = res a) : app (itr bot G FU) 0 0 = res (setF n p) := by
  have := (itr_for bot G app n (fun i (a : Int32) => if p i = true then a ||| shl 1 (nI i) else a) res (fun _ _ => True) (fun rec i s hi _ => ⟨hs rec i s hi, trivial⟩) (fun rec s _ => he rec s) n 0 FU (setF 0 p) (by omega) (by unfold FU; omega) trivial).1
  rw [ff_set, Nat.zero_add] at this
  exact this
def cntF : Nat → (Nat → Bool) → Nat
  | 0, _ => 0
  | n + 1, p => if p n = true then cntF n p + 1 else cntF n p
theorem cntF_le (p : Nat → Bool) : ∀ n, cntF n p ≤ n := by
  intro n
  induction n with
  | zero => exact Nat.le_refl _
  | succ n ih => unfold cntF; split <;> omega
theorem cntF_congr {n : Nat} {p p' : Nat → Bool} (h : ∀ i, i < n → p i = p' i) : cntF n p = cntF n p' := by
  induction n with
  | zero => rfl
  | succ n ih => unfold cntF; rw [h n (by omega), ih fun i hi => h i (by omega)]
theorem loop_cnt {T R : Type} (bot : T) (G : T → T) (app : T → Nat → Int32 → R) (n : Nat) (p : Nat → Bool) (res : Int32 → R) (hn : n < 10000) (hs : ∀ rec i a, i < n → app (G rec) i a = app rec (i + 1) (if p i = true then a + 1 else a)) (he : ∀ rec a, app (G rec) n a = res a) : app (itr bot G FU) 0 0 = res (nI (cntF n p)) := by
  have := itr_for bot G app n (fun i (a : Int32) => if p i = true then a + 1 else a) res (fun i a => a = nI (cntF i p)) (fun rec i s hi h => ⟨hs rec i s hi, by
    unfold cntF
    by_cases hp : p i = true
    · rw [if_pos hp, if_pos hp, h, nI_1]
    · rw [if_neg hp, if_neg hp, h]⟩) (fun rec s _ => he rec s) n 0 FU (nI 0) (by omega) (by unfold FU; omega) rfl
  have h1 := this.1
  rw [this.2] at h1
  exact h1
/-- an end of such a loop: the bound is reached, or not -/
theorem nI_ge_t {a b : Nat} (h : a ≤ b) (hb : b < 2147483648) : nI a ≤ nI b := nI_le h hb
theorem nI_ge_f {a b : Nat} (h : b < a) (ha : a < 2147483648) : ¬ nI a ≤ nI b := nI_ge h ha
def can (P : PP) (D : DD) (q l : Nat) : Bool := liv P D q && (if dLo D l = 0 then decide (dOw D l ≠ 0) && liv P D (dOw D l - 1) && decide (kinM P D q (dOw D l - 1) ≤ pNear P) else decide (dLo D l = q + 1))
def letS (P : PP) (D : DD) (q : Nat) : Int32 := setF 28 (can P D q)
theorem liv_lt {P : PP} {D : DD} {q : Nat} (h : liv P D q = true) : q < pN P := by
  unfold liv at h
  rw [Bool.and_eq_true] at h
  exact of_decide_eq_true h.1
theorem letS_0 {P : PP} {D : DD} {q : Nat} (h : liv P D q = false) : letS P D q = 0 := by
  have : letS P D q = setF 28 (fun _ => false) := setF_congr fun l _ => by unfold can; rw [h]; rfl
  rw [this]
  decide +kernel
theorem C_writableBy {A : Mm} {c : Nat} {P : PP} {D : DD} (h : RK (fun j => A (c + j)) P D) (hP : WFP P) (hD : WFD P D) {q : Nat} (hq : q < 12) : f_X1_writableBy c (nI q) A = some (letS P D q, A) := by
  have hN := hP.1
  simp only [f_X1_writableBy, nm]
  by_cases hqN : q < pN P
  · rw [C_lives h hN hqN]
    simp only [Option.bind_some]
    by_cases hl : liv P D q = true
    · rw [if_pos hl, if_neg (by decide)]
      obtain ⟨r, hr, hrb⟩ := C_within h hN hqN (k := pNear P) (by have := hP.2.1; omega)
      have h2 : A c 2 = nI (pNear P) := h.1.2.2.1
      rw [h2, hr]
      simp only [Option.bind_some]
      have h4 : ∀ i, i < 32 → bt (A c 4) i = liv P D i := h.2.1
      refine loop_set (fun _ _ _ _ _ => none) (fun k => f_X1_writableBy_30b k c) (fun f i a => f (nI q) (r &&& A c 4) a (nI i) A) 28 (can P D q) (fun a => some (a, A)) (by omega) ?_ ?_
      · intro rec i a hi
        show f_X1_writableBy_30b rec c (nI q) (r &&& A c 4) a (nI i) A = _
        simp only [f_X1_writableBy_30b, f_X1_writableBy_83, f_X1_writableBy_87, f_X1_writableBy_88, f_X1_writableBy_102, nm]
        have k1 : A (c + 10) i = eo (dOw D i) := (h.2.2.2.1 i hi).1
        have k2 : A (c + 11) i = eo (dLo D i) := (h.2.2.2.1 i hi).2.1
        have w := hD.1 i hi
        rw [nI_lit 28, if_neg (nI_ge_f hi (by omega)), gd_pos ((inB_nI (by omega)).mpr (by omega)), gd_pos ((inB_nI (by omega)).mpr (by omega)), ix_nI (by omega), k1, k2, if_neg (by decide : ¬ (1 : Int32) = 0), if_true, nI_1]
        unfold can
        rw [hl, Bool.true_and]
        by_cases c0 : dLo D i = 0
        · rw [if_neg (by rw [eo_nI (by omega) (by omega)]; omega), if_pos ((eo_m1 (by omega)).mpr c0), if_pos c0]
          by_cases c1 : dOw D i = 0
          · rw [if_pos ((eo_m1 (by omega)).mpr c1), if_neg (by simp [c1])]
          · have ee : eo (dOw D i) = nI (dOw D i - 1) := (eo_nI (by omega) (by omega)).mpr (by omega)
            rw [if_neg (by rw [eo_m1 (by omega)]; exact c1), ee, tb_eq (by omega), b_and, hrb _ (by omega), h4 _ (by omega), kin_rch hN hqN (by omega) (by have := hP.2.1; omega)]
            by_cases c2 : liv P D (dOw D i - 1) = true
            · by_cases c3 : kinM P D q (dOw D i - 1) ≤ pNear P
              · simp [c1, c2, c3, liv_lt c2]
              · simp [c1, c2, c3]
            · simp [c1, c2]
        · rw [if_neg c0]
          by_cases c1 : dLo D i = q + 1
          · rw [if_pos ((eo_nI (by omega) (by omega)).mpr c1), if_pos (decide_eq_true c1)]
          · rw [if_neg (by rw [eo_nI (by omega) (by omega)]; exact c1), if_neg (by rw [eo_m1 (by omega)]; exact c0), if_neg (by simp [c1])]
      · intro rec a
        show f_X1_writableBy_30b rec c (nI q) (r &&& A c 4) a (nI 28) A = _
        simp only [f_X1_writableBy_30b]
        rw [nI_lit 28, if_pos (nI_ge_t (Nat.le_refl _) (by omega))]
    · rw [if_neg hl, if_pos rfl, letS_0 (by simpa using hl)]
  · rw [C_lives0 h (Or.inr (nI_ge_t (by omega) (by omega)))]
    simp only [Option.bind_some]
    rw [if_true, letS_0]
    unfold liv
    simp [hqN]
theorem F_canWrite {B : Mm} {P : PP} {D : DD} (hS : RS B P) (hW : RW (B 240) P D) (hKn : RKin B P D) (hP : WFP P) (hD : WFD P D) {q l : Nat} (hq : q < pN P) (hl : l < 28) : f_X11_canWrite (nI q) (nI l) B = some (if can P D q l = true then 1 else 0, B) := by
  have hN := hP.1
  have w := hD.1 l hl
  simp only [f_X11_canWrite, f_X11_canWrite_77]
  rw [F_doesLive hW hN hq]
  simp only [Option.bind_some]
  unfold can
  by_cases c0 : liv P D q = true
  · rw [c0, if_pos rfl, if_neg (by decide), F_borrowerOf hW hl]
    simp only [Option.bind_some, Bool.true_and]
    by_cases c1 : dLo D l = 0
    · rw [if_pos ((eo_m1 (by omega)).mpr c1), if_pos c1, F_ownerOf hW hl]
      simp only [Option.bind_some]
      by_cases c2 : dOw D l = 0
      · rw [if_pos ((eo_m1 (by omega)).mpr c2), if_neg (by simp [c2])]
      · have ee : eo (dOw D l) = nI (dOw D l - 1) := (eo_nI (by omega) (by omega)).mpr (by omega)
        have hk : B 249 (12 * q + (dOw D l - 1)) = nI (kinM P D q (dOw D l - 1)) := by rw [hKn q (dOw D l - 1) hq (by omega)]
        have k99 := kin_99 (P := P) (D := D) hN (a := q) (b := dOw D l - 1)
        have k3 := hP.2.1
        rw [if_neg (by rw [eo_m1 (by omega)]; exact c2), ee, F_doesLive hW hN (by omega)]
        simp only [Option.bind_some]
        rw [nI_lit 12, ix_ab (by omega) (by omega), gd_pos ((inB_nI (by omega)).mpr (by omega)), ix_nI (by omega), hk, hS.1.2, eo_1]
        by_cases c3 : liv P D (dOw D l - 1) = true
        · rw [c3, if_pos rfl, if_neg (by decide)]
          by_cases c4 : kinM P D q (dOw D l - 1) ≤ pNear P
          · rw [if_neg (by rw [nI_ltI (by omega) (by omega)]; omega), if_pos (by simp [c2, c4])]
          · rw [if_pos (by rw [nI_ltI (by omega) (by omega)]; omega), if_neg (by simp [c4])]
        · rw [if_neg c3, if_pos rfl, if_neg (by simp [c3])]
    · rw [if_neg (by rw [eo_m1 (by omega)]; exact c1), if_neg c1, F_borrowerOf hW hl]
      simp only [Option.bind_some]
      by_cases c2 : dLo D l = q + 1
      · rw [if_pos ((eo_nI (by omega) (by omega)).mpr c2), if_pos (decide_eq_true c2)]
      · rw [if_neg (by rw [eo_nI (by omega) (by omega)]; exact c2), if_neg (by simp [c2])]
  · rw [if_neg c0, if_pos rfl, if_neg (by simp [c0])]
theorem F_lettersOf {B : Mm} {P : PP} {D : DD} (hS : RS B P) (hW : RW (B 240) P D) (hKn : RKin B P D) (hP : WFP P) (hD : WFD P D) {q : Nat} (hq : q < pN P) : f_X11_lettersOf (nI q) B = some (letS P D q, B) := by
  unfold f_X11_lettersOf
  refine loop_set (fun _ _ _ _ => none) (fun k => f_X11_lettersOf_4b k) (fun f i a => f (nI q) a (nI i) B) 28 (can P D q) (fun a => some (a, B)) (by omega) ?_ ?_
  · intro rec i a hi
    show f_X11_lettersOf_4b rec (nI q) a (nI i) B = _
    simp only [f_X11_lettersOf_4b, f_X11_lettersOf_25, nm]
    rw [nI_lit 28, if_neg (nI_ge_f hi (by omega)), F_canWrite hS hW hKn hP hD hq hi]
    simp only [Option.bind_some]
    by_cases c0 : can P D q i = true
    · rw [if_pos c0, if_pos c0, if_neg (by decide), nI_1]
    · rw [if_neg c0, if_neg c0, if_pos rfl, nI_1]
  · intro rec a
    show f_X11_lettersOf_4b rec (nI q) a (nI 28) B = _
    simp only [f_X11_lettersOf_4b]
    rw [nI_lit 28, if_pos (nI_ge_t (Nat.le_refl _) (by omega))]
/-! ===== who owns what ===== -/
theorem C_ownedBy {A : Mm} {c : Nat} {P : PP} {D : DD} (h : RK (fun j => A (c + j)) P D) (x : Int32) : f_X1_ownedBy c x A = some (setF 28 (fun l => decide (eo (dOw D l) = x)), A) := by
  unfold f_X1_ownedBy
  refine loop_set (fun _ _ _ _ => none) (fun k => f_X1_ownedBy_4b k c) (fun f i a => f x a (nI i) A) 28 (fun l => decide (eo (dOw D l) = x)) (fun a => some (a, A)) (by omega) ?_ ?_
  · intro rec i a hi
    show f_X1_ownedBy_4b rec c x a (nI i) A = _
    simp only [f_X1_ownedBy_4b, f_X1_ownedBy_26, nm]
    have k1 : A (c + 10) i = eo (dOw D i) := (h.2.2.2.1 i hi).1
    rw [nI_lit 28, if_neg (nI_ge_f hi (by omega)), gd_pos ((inB_nI (by omega)).mpr (by omega)), ix_nI (by omega), k1, nI_1]
    by_cases c0 : eo (dOw D i) = x
    · rw [if_pos c0, if_pos (decide_eq_true c0)]
    · rw [if_neg c0, if_neg (by simp [c0])]
  · intro rec a
    show f_X1_ownedBy_4b rec c x a (nI 28) A = _
    simp only [f_X1_ownedBy_4b]
    rw [nI_lit 28, if_pos (nI_ge_t (Nat.le_refl _) (by omega))]
theorem F_ownedBy {B : Mm} {P : PP} {D : DD} (hW : RW (B 240) P D) (x : Int32) : f_X11_ownedBy x B = some (setF 28 (fun l => decide (eo (dOw D l) = x)), B) := by
  unfold f_X11_ownedBy
  refine loop_set (fun _ _ _ _ => none) (fun k => f_X11_ownedBy_4b k) (fun f i a => f x a (nI i) B) 28 (fun l => decide (eo (dOw D l) = x)) (fun a => some (a, B)) (by omega) ?_ ?_
  · intro rec i a hi
    show f_X11_ownedBy_4b rec x a (nI i) B = _
    simp only [f_X11_ownedBy_4b, f_X11_ownedBy_25, nm]
    rw [nI_lit 28, if_neg (nI_ge_f hi (by omega)), F_ownerOf hW hi]
    simp only [Option.bind_some]
    by_cases c0 : eo (dOw D i) = x
    · rw [if_pos c0, if_pos (decide_eq_true c0), nI_1]
    · rw [if_neg c0, if_neg (by simp [c0]), nI_1]
  · intro rec a
    show f_X11_ownedBy_4b rec x a (nI 28) B = _
    simp only [f_X11_ownedBy_4b]
    rw [nI_lit 28, if_pos (nI_ge_t (Nat.le_refl _) (by omega))]
theorem F_lettersWithout {B : Mm} {P : PP} {D : DD} (hW : RW (B 240) P D) : f_X11_lettersWithout B = some (setF 28 (fun l => decide (eo (dOw D l) = -1)), B) := by
  unfold f_X11_lettersWithout
  refine loop_set (fun _ _ _ => none) (fun k => f_X11_lettersWithout_4b k) (fun f i a => f a (nI i) B) 28 (fun l => decide (eo (dOw D l) = -1)) (fun a => some (a, B)) (by omega) ?_ ?_
  · intro rec i a hi
    show f_X11_lettersWithout_4b rec a (nI i) B = _
    simp only [f_X11_lettersWithout_4b, f_X11_lettersWithout_25, nm]
    rw [nI_lit 28, if_neg (nI_ge_f hi (by omega)), F_ownerOf hW hi]
    simp only [Option.bind_some]
    by_cases c0 : eo (dOw D i) = -1
    · rw [if_pos c0, if_pos (decide_eq_true c0), nI_1]
    · rw [if_neg c0, if_neg (by simp [c0]), nI_1]
  · intro rec a
    show f_X11_lettersWithout_4b rec a (nI 28) B = _
    simp only [f_X11_lettersWithout_4b]
    rw [nI_lit 28, if_pos (nI_ge_t (Nat.le_refl _) (by omega))]
theorem C_loans {A : Mm} {c : Nat} {P : PP} {D : DD} (h : RK (fun j => A (c + j)) P D) : f_X1_loans c A = some (nI (cntF 28 (fun l => decide (eo (dLo D l) ≠ -1))), A) := by
  unfold f_X1_loans
  refine loop_cnt (fun _ _ _ => none) (fun k => f_X1_loans_4b k c) (fun f i a => f a (nI i) A) 28 (fun l => decide (eo (dLo D l) ≠ -1)) (fun a => some (a, A)) (by omega) ?_ ?_
  · intro rec i a hi
    show f_X1_loans_4b rec c a (nI i) A = _
    simp only [f_X1_loans_4b, f_X1_loans_23, nm]
    have k1 : A (c + 11) i = eo (dLo D i) := (h.2.2.2.1 i hi).2.1
    rw [nI_lit 28, if_neg (nI_ge_f hi (by omega)), gd_pos ((inB_nI (by omega)).mpr (by omega)), ix_nI (by omega), k1, nI_1]
    by_cases c0 : eo (dLo D i) = -1
    · rw [if_pos c0, if_neg (by simp [c0])]
    · rw [if_neg c0, if_pos (by simp [c0])]
  · intro rec a
    show f_X1_loans_4b rec c a (nI 28) A = _
    simp only [f_X1_loans_4b]
    rw [nI_lit 28, if_pos (nI_ge_t (Nat.le_refl _) (by omega))]
theorem F_loans {B : Mm} {P : PP} {D : DD} (hW : RW (B 240) P D) : f_X11_loans B = some (nI (cntF 28 (fun l => decide (eo (dLo D l) ≠ -1))), B) := by
  unfold f_X11_loans
  refine loop_cnt (fun _ _ _ => none) (fun k => f_X11_loans_4b k) (fun f i a => f a (nI i) B) 28 (fun l => decide (eo (dLo D l) ≠ -1)) (fun a => some (a, B)) (by omega) ?_ ?_
  · intro rec i a hi
    show f_X11_loans_4b rec a (nI i) B = _
    simp only [f_X11_loans_4b, f_X11_loans_23, nm]
    rw [nI_lit 28, if_neg (nI_ge_f hi (by omega)), F_borrowerOf hW hi]
    simp only [Option.bind_some]
    by_cases c0 : eo (dLo D i) = -1
    · rw [if_pos c0, if_neg (by simp [c0]), nI_1]
    · rw [if_neg c0, if_pos (by simp [c0]), nI_1]
  · intro rec a
    show f_X11_loans_4b rec a (nI 28) B = _
    simp only [f_X11_loans_4b]
    rw [nI_lit 28, if_pos (nI_ge_t (Nat.le_refl _) (by omega))]
