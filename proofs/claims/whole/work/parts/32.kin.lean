/-! ===== kin in the class: steps over links ===== -/
theorem bt_ffor {f : Nat → Int32} {p : Nat → Bool} {i : Nat} (hi : i < 32) : ∀ (d lo : Nat) (x : Int32), bt (ff (fun c (a : Int32) => if p c = true then a ||| f c else a) lo d x) i = (bt x i || (List.range d).any (fun c => p (lo + c) && bt (f (lo + c)) i)) := by
  intro d
  induction d with
  | zero => intro lo x; simp [ff]
  | succ d ih =>
    intro lo x
    unfold ff
    rw [ih, List.range_succ_eq_map, List.any_cons, List.any_map]
    have e : ((fun c => p (lo + c) && bt (f (lo + c)) i) ∘ Nat.succ) = fun c => p (lo + 1 + c) && bt (f (lo + 1 + c)) i := by
      funext c
      show (p (lo + (c + 1)) && bt (f (lo + (c + 1))) i) = _
      rw [show lo + (c + 1) = lo + 1 + c by omega]
    rw [e]
    by_cases hp : p lo = true
    · simp [hp, b_or, Bool.or_assoc]
    · simp [hp]
theorem C_within19 {A : Mm} {c : Nat} {P : PP} {D : DD} (h : RK (fun j => A (c + j)) P D) (hN : pN P ≤ 12) (k7 : Int32 → Int32 → Int32 → Mm → Option (Int32 × Mm)) (x2 x3 x4 : Int32) : f_X1_within_19 k7 c FU x2 x3 x4 x3 0 A = k7 x2 (ff (fun q (a : Int32) => if bt x3 q = true then a ||| A (c + 9) q else a) 0 (pN P) x3) (x4 + 1) A := by
  have h3 : A c 3 = nI (pN P) := h.1.2.2.2
  have := (itr_for (fun _ _ _ _ _ _ => none) (fun k => f_X1_within_19b k7 k c) (fun f i (s : Int32) => f x2 x3 x4 s (nI i) A) (pN P) (fun q a => if bt x3 q = true then a ||| A (c + 9) q else a) (fun s => k7 x2 s (x4 + 1) A) (fun _ _ => True) ?_ ?_ (pN P) 0 FU x3 (by omega) (by unfold FU; omega) trivial).1
  · exact this
  · intro rec i s hi _
    refine ⟨?_, trivial⟩
    show f_X1_within_19b k7 rec c x2 x3 x4 s (nI i) A = _
    unfold f_X1_within_19b f_X1_within_50 nm
    rw [h3, if_neg (by rw [nI_leI (by omega) (by omega)]; omega), gd_pos ((inB_nI (by omega)).mpr (by omega)), ix_nI (by omega), nI_1]
    by_cases hb : bt x3 i = true
    · rw [if_pos ((tb_1 (by omega)).mpr hb), if_pos hb]
    · rw [if_neg (fun e => hb ((tb_1 (by omega)).mp e)), if_neg hb]
  · intro rec s _
    show f_X1_within_19b k7 rec c x2 x3 x4 s (nI (pN P)) A = _
    unfold f_X1_within_19b nm
    rw [h3, if_pos (by rw [nI_leI (by omega) (by omega)]; omega)]
theorem rch_step {P : PP} {D : DD} {A : Mm} {c : Nat} (h : RK (fun j => A (c + j)) P D) (hN : pN P ≤ 12) {a k : Nat} {x : Int32} (hx : ∀ j, j < 32 → bt x j = (decide (j < pN P) && rch P D k a j)) : ∀ j, j < 32 → bt (ff (fun q (s : Int32) => if bt x q = true then s ||| A (c + 9) q else s) 0 (pN P) x) j = (decide (j < pN P) && rch P D (k + 1) a j) := by
  intro j hj
  rw [bt_ffor hj, hx j hj]
  show _ = (decide (j < pN P) && (rch P D k a j || (List.range (pN P)).any (fun q => rch P D k a q && adj P D q j)))
  rw [Bool.and_or_distrib_left]
  congr 1
  by_cases hjN : j < pN P
  · simp only [hjN, decide_true, Bool.true_and]
    rw [Bool.eq_iff_iff, List.any_eq_true, List.any_eq_true]
    constructor
    · rintro ⟨q, hq, e⟩
      rw [List.mem_range] at hq
      refine ⟨q, List.mem_range.mpr hq, ?_⟩
      rw [Nat.zero_add, hx q (by omega)] at e
      have hl : bt (A (c + 9) q) j = (decide (j < pN P) && adj P D q j) := (h.2.2.1 q hq).2.2.2.2.2.2.2.2 j hj
      rw [hl] at e
      simpa [hq, hjN] using e
    · rintro ⟨q, hq, e⟩
      rw [List.mem_range] at hq
      refine ⟨q, List.mem_range.mpr hq, ?_⟩
      have hl : bt (A (c + 9) q) j = (decide (j < pN P) && adj P D q j) := (h.2.2.1 q hq).2.2.2.2.2.2.2.2 j hj
      rw [Nat.zero_add, hx q (by omega), hl]
      simpa [hq, hjN] using e
  · simp only [hjN, decide_false, Bool.false_and]
    rw [List.any_eq_false]
    intro q hq
    rw [List.mem_range] at hq
    have hl : bt (A (c + 9) q) j = (decide (j < pN P) && adj P D q j) := (h.2.2.1 q hq).2.2.2.2.2.2.2.2 j hj
    rw [Nat.zero_add, hl]
    simp [hjN]
theorem C_within {A : Mm} {c : Nat} {P : PP} {D : DD} (h : RK (fun j => A (c + j)) P D) (hN : pN P ≤ 12) {a k : Nat} (ha : a < pN P) (hk : k < 5000) : ∃ r, f_X1_within c (nI a) (nI k) A = some (r, A) ∧ ∀ j, j < 32 → bt r j = (decide (j < pN P) && rch P D k a j) := by
  unfold f_X1_within nm
  have := itr_for (fun _ _ _ _ => none) (fun k => f_X1_within_7b k c) (fun f i (s : Int32) => f (nI k) s (nI i) A) k (fun _ x => ff (fun q (s : Int32) => if bt x q = true then s ||| A (c + 9) q else s) 0 (pN P) x) (fun s => some (s, A)) (fun i x => ∀ j, j < 32 → bt x j = (decide (j < pN P) && rch P D i a j)) ?_ ?_ k 0 FU (shl 1 (nI a)) (by omega) (by unfold FU; omega) ?_
  · exact ⟨_, this.1, this.2⟩
  · intro rec i s hi hI
    refine ⟨?_, rch_step h hN hI⟩
    show f_X1_within_7b rec c (nI k) s (nI i) A = _
    unfold f_X1_within_7b
    rw [if_neg (by rw [nI_leI (by omega) (by omega)]; omega), C_within19 h hN, nI_1]
  · intro rec s hI
    show f_X1_within_7b rec c (nI k) s (nI k) A = _
    unfold f_X1_within_7b
    rw [if_pos (by rw [nI_leI (by omega) (by omega)]; omega)]
  · intro j hj
    rw [bt_one (by omega) hj]
    show _ = (decide (j < pN P) && decide (a = j))
    rw [Bool.eq_iff_iff]
    simp only [decide_eq_true_eq, Bool.and_eq_true]
    omega
theorem C_kin {A : Mm} {c : Nat} {P : PP} {D : DD} (h : RK (fun j => A (c + j)) P D) (hN : pN P ≤ 12) {a b : Nat} (ha : a < pN P) (hb : b < pN P) : f_X1_stepsBetween c (nI a) (nI b) A = some (nI (kinM P D a b), A) := by
  have h3 : A c 3 = nI (pN P) := h.1.2.2.2
  unfold f_X1_stepsBetween kinM
  have key : ∀ (d lo fuel : Nat), lo + d = pN P → d < fuel → f_X1_stepsBetween_2 c fuel (nI a) (nI b) (nI lo) A = some (nI (lst (fun k => rch P D k a b) lo d), A) := by
    intro d
    induction d with
    | zero =>
      intro lo fuel h1 h2
      cases fuel with
      | zero => omega
      | succ f =>
        show f_X1_stepsBetween_2b (f_X1_stepsBetween_2 c f) c (nI a) (nI b) (nI lo) A = _
        unfold f_X1_stepsBetween_2b
        rw [h3, if_pos (by rw [nI_leI (by omega) (by omega)]; omega)]
        rfl
    | succ d ih =>
      intro lo fuel h1 h2
      cases fuel with
      | zero => omega
      | succ f =>
        show f_X1_stepsBetween_2b (f_X1_stepsBetween_2 c f) c (nI a) (nI b) (nI lo) A = _
        unfold f_X1_stepsBetween_2b nm
        obtain ⟨r, hr, hrb⟩ := C_within h hN ha (k := lo) (by omega)
        rw [h3, if_neg (by rw [nI_leI (by omega) (by omega)]; omega), hr]
        simp only [Option.bind_some]
        rw [tb_eq (by omega), hrb b (by omega)]
        unfold lst
        by_cases hk : rch P D lo a b = true
        · rw [if_pos hk, if_pos (by rw [if_pos (by simp [hb, hk])])]
        · rw [if_neg hk, if_neg (by rw [if_neg (by simp [hk])]; decide), nI_1]
          exact ih (lo + 1) f (by omega) (by omega)
  exact key (pN P) 0 FU (by omega) (by unfold FU; omega)
/-! ===== steps: more never lose; beyond the number of people nothing is new ===== -/
theorem rch_mono {P : PP} {D : DD} {k a b : Nat} (h : rch P D k a b = true) : ∀ d, rch P D (k + d) a b = true := by
  intro d
  induction d with
  | zero => exact h
  | succ d ih =>
    show (rch P D (k + d) a b || _) = true
    rw [ih, Bool.true_or]
theorem rch_le {P : PP} {D : DD} {k k' a b : Nat} (h : rch P D k a b = true) (hk : k ≤ k') : rch P D k' a b = true := by
  have := rch_mono h (k' - k)
  rwa [show k + (k' - k) = k' by omega] at this
theorem rch_snoc {P : PP} {D : DD} {k a c b : Nat} (hc : c < pN P) (h : rch P D k a c = true) (e : adj P D c b = true) : rch P D (k + 1) a b = true := by
  show (rch P D k a b || _) = true
  rw [Bool.or_eq_true]
  exact Or.inr (List.any_eq_true.mpr ⟨c, List.mem_range.mpr hc, by rw [h, e]; rfl⟩)
theorem rch_inv {P : PP} {D : DD} {k a b : Nat} (h : rch P D (k + 1) a b = true) : rch P D k a b = true ∨ ∃ c, c < pN P ∧ rch P D k a c = true ∧ adj P D c b = true := by
  have h' : (rch P D k a b || (List.range (pN P)).any (fun c => rch P D k a c && adj P D c b)) = true := h
  rw [Bool.or_eq_true] at h'
  rcases h' with h' | h'
  · exact Or.inl h'
  · obtain ⟨c, hc, e⟩ := List.any_eq_true.mp h'
    rw [Bool.and_eq_true] at e
    exact Or.inr ⟨c, List.mem_range.mp hc, e.1, e.2⟩
theorem rch_trans {P : PP} {D : DD} {a c : Nat} (hc : c < pN P) : ∀ (j : Nat) {i b : Nat}, rch P D i a c = true → rch P D j c b = true → rch P D (i + j) a b = true := by
  intro j
  induction j with
  | zero =>
    intro i b h1 h2
    have : c = b := of_decide_eq_true h2
    subst this
    exact h1
  | succ j ih =>
    intro i b h1 h2
    rcases rch_inv h2 with h | ⟨e, he, h3, h4⟩
    · exact rch_le (ih h1 h) (by omega)
    · exact rch_snoc he (ih h1 h3) h4
def cnt (P : PP) (D : DD) (a k : Nat) : Nat := ((List.range (pN P)).filter (fun b => rch P D k a b)).length
theorem cnt_le {P : PP} {D : DD} {a k : Nat} : cnt P D a k ≤ pN P := by
  unfold cnt
  exact Nat.le_trans (List.length_filter_le _ _) (by simp)
theorem filter_sub_len {l : List Nat} {p q : Nat → Bool} (h : ∀ x ∈ l, p x = true → q x = true) : (l.filter p).length ≤ (l.filter q).length ∧ ((l.filter p).length = (l.filter q).length → ∀ x ∈ l, q x = true → p x = true) := by
  induction l with
  | nil => simp
  | cons a l ih =>
    have ih := ih fun x hx => h x (List.mem_cons_of_mem _ hx)
    have ha := h a List.mem_cons_self
    by_cases hp : p a = true
    · have hq := ha hp
      simp only [List.filter_cons, hp, hq, if_true, List.length_cons]
      refine ⟨by omega, fun e x hx => ?_⟩
      rcases List.mem_cons.mp hx with rfl | hx
      · exact fun _ => hp
      · exact ih.2 (by omega) x hx
    · by_cases hq : q a = true
      · simp only [List.filter_cons, hp, hq, if_true, List.length_cons, Bool.false_eq_true, if_false]
        exact ⟨by omega, fun e => by omega⟩
      · simp only [List.filter_cons, hp, hq, Bool.false_eq_true, if_false]
        refine ⟨ih.1, fun e x hx => ?_⟩
        rcases List.mem_cons.mp hx with rfl | hx
        · exact fun h9 => absurd h9 hq
        · exact ih.2 e x hx
theorem rch_stab {P : PP} {D : DD} {a k : Nat} (h : ∀ b, b < pN P → rch P D (k + 1) a b = true → rch P D k a b = true) : ∀ d b, b < pN P → rch P D (k + d) a b = true → rch P D k a b = true := by
  intro d
  induction d with
  | zero => intro b _ h1; exact h1
  | succ d ih =>
    intro b hb h1
    rcases rch_inv h1 with h2 | ⟨c, hc, h2, h3⟩
    · exact ih b hb h2
    · exact h b hb (rch_snoc hc (ih c hc h2) h3)
theorem cnt_grow {P : PP} {D : DD} {a : Nat} (ha : a < pN P) : ∀ k, (∀ j, j < k → ¬ ∀ b, b < pN P → rch P D (j + 1) a b = true → rch P D j a b = true) → k + 1 ≤ cnt P D a k := by
  intro k
  induction k with
  | zero =>
    intro _
    unfold cnt
    apply List.length_pos_of_mem (a := a)
    exact List.mem_filter.mpr ⟨List.mem_range.mpr ha, decide_eq_true rfl⟩
  | succ k ih =>
    intro h
    have h1 := ih fun j hj => h j (by omega)
    have h2 := filter_sub_len (l := List.range (pN P)) (p := fun b => rch P D k a b) (q := fun b => rch P D (k + 1) a b) (fun x _ hx => rch_le hx (by omega))
    have h3 : ¬ cnt P D a k = cnt P D a (k + 1) := by
      intro e
      apply h k (by omega)
      intro b hb hr
      exact h2.2 e b (List.mem_range.mpr hb) hr
    have h4 : cnt P D a k ≤ cnt P D a (k + 1) := h2.1
    omega
theorem rch_few {P : PP} {D : DD} {a b k : Nat} (ha : a < pN P) (hb : b < pN P) (h : rch P D k a b = true) : ∃ j, j < pN P ∧ j ≤ k ∧ rch P D j a b = true := by
  by_cases hk : k < pN P
  · exact ⟨k, hk, Nat.le_refl _, h⟩
  · have : ∃ j, j < pN P ∧ ∀ b, b < pN P → rch P D (j + 1) a b = true → rch P D j a b = true := by
      apply Classical.byContradiction
      intro hn
      have h1 := cnt_grow (D := D) ha (pN P) (fun j hj h2 => hn ⟨j, hj, h2⟩)
      have h2 := cnt_le (P := P) (D := D) (a := a) (k := pN P)
      omega
    obtain ⟨j, hj, hs⟩ := this
    refine ⟨j, hj, by omega, rch_stab hs (k - j) b hb ?_⟩
    rwa [show j + (k - j) = k by omega]
theorem lst_spec {p : Nat → Bool} : ∀ (d lo : Nat), lo + d ≤ 99 → (∀ k, lo ≤ k → k < lo + d → p k = true → lst p lo d ≤ k) ∧ (lst p lo d < 99 → lo ≤ lst p lo d ∧ lst p lo d < lo + d ∧ p (lst p lo d) = true) ∧ lst p lo d ≤ 99 := by
  intro d
  induction d with
  | zero => intro lo _; exact ⟨fun k h1 h2 => by omega, fun h => absurd h (by simp [lst]), Nat.le_refl _⟩
  | succ d ih =>
    intro lo hlo
    obtain ⟨i1, i2, i3⟩ := ih (lo + 1) (by omega)
    unfold lst
    by_cases hp : p lo = true
    · rw [if_pos hp]
      exact ⟨fun k h1 _ _ => h1, fun _ => ⟨Nat.le_refl _, by omega, hp⟩, by omega⟩
    · rw [if_neg hp]
      refine ⟨fun k h1 h2 h3 => ?_, fun h => ?_, i3⟩
      · by_cases e : k = lo
        · subst e; exact absurd h3 hp
        · exact i1 k (by omega) (by omega) h3
      · have := i2 h
        exact ⟨by omega, by omega, this.2.2⟩
/-- kin, by what it is: the least number of steps at all; 99 if there is no way -/
theorem kin_le {P : PP} {D : DD} (hN : pN P ≤ 12) {a b k : Nat} (ha : a < pN P) (hb : b < pN P) (h : rch P D k a b = true) : kinM P D a b ≤ k ∧ kinM P D a b < 99 := by
  obtain ⟨j, h1, h2, h3⟩ := rch_few ha hb h
  have := (lst_spec (p := fun k => rch P D k a b) (pN P) 0 (by omega)).1 j (by omega) (by omega) h3
  unfold kinM
  omega
theorem kin_is {P : PP} {D : DD} (hN : pN P ≤ 12) {a b : Nat} (h : kinM P D a b < 99) : rch P D (kinM P D a b) a b = true ∧ kinM P D a b < pN P := by
  have := (lst_spec (p := fun k => rch P D k a b) (pN P) 0 (by omega)).2.1 h
  exact ⟨this.2.2, by unfold kinM; omega⟩
theorem kin_99 {P : PP} {D : DD} (hN : pN P ≤ 12) {a b : Nat} : kinM P D a b ≤ 99 := (lst_spec (p := fun k => rch P D k a b) (pN P) 0 (by omega)).2.2
theorem kin_rch {P : PP} {D : DD} (hN : pN P ≤ 12) {a b k : Nat} (ha : a < pN P) (hb : b < pN P) (hk : k < 99) : rch P D k a b = decide (kinM P D a b ≤ k) := by
  rw [Bool.eq_iff_iff, decide_eq_true_eq]
  refine ⟨fun h => (kin_le hN ha hb h).1, fun h => rch_le (kin_is hN (by omega)).1 h⟩
