/-! ===== standing at a token, on both sides ===== -/
def pl (n : Nat) (b : Nat → Nat) (r0 i : Nat) : Nat := if ts n b r0 i < n then ts n b r0 i else n
/-- the first word's number in the reference -/
def wo (r0 : Nat) : Nat := if r0 = 194 then 0 else 15
def tkr (r0 t v : Nat) (x y : Int32) : Prop :=
  (t = 0 ∧ v = 0 ∧ x = 0) ∨ (t = 1 ∧ v < (wds r0).length ∧ x = 2 ∧ y = nI (v + wo r0)) ∨ (t = 2 ∧ v < 10000 ∧ x = 3 ∧ y = nI v) ∨ (t = 3 ∧ v < 256 ∧ (sgs r0).contains v = true ∧ ((v ≠ 34 ∧ x = 4 ∧ y = nI v) ∨ (v = 34 ∧ x = 1))) ∨ (t = 4 ∧ v = 0 ∧ (x = 1 ∨ (x = 2 ∧ ∃ w, w < 19 ∧ (w < wo r0 ∨ wo r0 + (wds r0).length ≤ w) ∧ y = nI w) ∨ (x = 4 ∧ ∃ c, c < 256 ∧ (sgs r0).contains c = false ∧ y = nI c)))
theorem fno_in {α : Type} (q : α → Bool) : ∀ (l : List α) (k j : Nat), fno q k l = some j → ∃ a, a ∈ l ∧ q a = true := by
  intro l
  induction l with
  | nil => intro k j h; cases h
  | cons a l ih =>
    intro k j h
    unfold fno at h
    by_cases c : q a = true
    · exact ⟨a, List.mem_cons_self .., c⟩
    · rw [if_neg c] at h
      obtain ⟨x, hx, hq⟩ := ih (k + 1) j h
      exact ⟨x, List.mem_cons_of_mem _ hx, hq⟩
theorem ww_ne : ∀ a, a ∈ lawW → a ∉ wilW := by decide +kernel
theorem l15 : lawW.length = 15 := rfl
theorem l4 : wilW.length = 4 := rfl
theorem wds_1 : wds 194 = lawW := rfl
theorem wds_2 : wds 202 = wilW := rfl
theorem wds_le (r0 : Nat) : (wds r0).length ≤ 15 := by unfold wds; split <;> decide
theorem wo_le (r0 : Nat) : wo r0 ≤ 15 := by unfold wo; split <;> omega
theorem sgs_1 : sgs 194 = lawL := rfl
theorem sgs_2 : sgs 202 = [59, 34] := rfl
theorem n_ne {a : Nat} (k : Nat) {x : Int32} (e : x = nI k) (h : ¬ a = k) (ha : a < 1000000) (hk : k < 1000000) : ¬ nI a = x := by
  subst e
  exact fun z => h ((nI_inj (by omega) (by omega)).mp z)
theorem two_n1 {k : Nat} (h : k < 2147483648) : (if nI k = -1 then (1 : Int32) else 2) = 2 := if_neg (of_eq_false (nI_n1 h))
section STAND
variable {A B : Mm} {n r0 m i : Nat} {b : Nat → Nat}
theorem tok_tkr (w : WB n b) (hr : isT r0) {s : Nat} (hs : s < n) {y : Int32} (hv : rVok n b s y) : tkr r0 (tokS n b r0 s).1 (tokS n b r0 s).2 (rK n b s) y := by
  unfold rVok at hv
  unfold rK tokS
  by_cases z1 : isW (b s) = true
  · rw [if_pos z1] at hv
    rw [if_pos z1, if_pos z1]
    have e : rW n b s = o32 (fno (wq n b s) 0 (lawW ++ wilW)) := fnd_fno _ _ _
    have fa := fno_app (wq n b s) lawW wilW 0
    rw [l15, fno_add] at fa
    rw [hv, e, fa]
    have dis : ∀ j k, fno (wq n b s) 0 lawW = some j → fno (wq n b s) 0 wilW = some k → False := fun j k h1 h2 => by
      obtain ⟨a, ha, qa⟩ := fno_in _ _ _ _ h1
      obtain ⟨c, hc, qc⟩ := fno_in _ _ _ _ h2
      have qa := of_decide_eq_true qa
      have qc := of_decide_eq_true qc
      exact ww_ne a ha (by rw [← qa, qc]; exact hc)
    have lt1 := fun j h => fno_lt (wq n b s) lawW 0 j h
    have lt2 := fun j h => fno_lt (wq n b s) wilW 0 j h
    rw [l15] at lt1
    rw [l4] at lt2
    rcases hr with rfl | rfl
    · rw [wds_1]
      cases h1 : fno (wq n b s) 0 lawW with
      | some k =>
        have := lt1 k h1
        show tkr 194 1 k (if nI k = -1 then (1 : Int32) else 2) (nI k)
        rw [two_n1 (by omega)]
        exact Or.inr (Or.inl ⟨rfl, by rw [wds_1, l15]; omega, rfl, rfl⟩)
      | none =>
        cases h2 : fno (wq n b s) 0 wilW with
        | some k =>
          have := lt2 k h2
          show tkr 194 4 0 (if nI (k + 15) = -1 then (1 : Int32) else 2) (nI (k + 15))
          rw [two_n1 (by omega)]
          exact Or.inr (Or.inr (Or.inr (Or.inr ⟨rfl, rfl, Or.inr (Or.inl ⟨rfl, k + 15, by omega, Or.inr (by rw [wds_1, l15]; show 0 + 15 ≤ k + 15; omega), rfl⟩)⟩)))
        | none =>
          show tkr 194 4 0 (if (-1 : Int32) = -1 then (1 : Int32) else 2) (-1)
          rw [if_pos rfl]
          exact Or.inr (Or.inr (Or.inr (Or.inr ⟨rfl, rfl, Or.inl rfl⟩)))
    · rw [wds_2]
      cases h2 : fno (wq n b s) 0 wilW with
      | some k =>
        have := lt2 k h2
        cases h1 : fno (wq n b s) 0 lawW with
        | some j => exact (dis j k h1 h2).elim
        | none =>
          show tkr 202 1 k (if nI (k + 15) = -1 then (1 : Int32) else 2) (nI (k + 15))
          rw [two_n1 (by omega)]
          exact Or.inr (Or.inl ⟨rfl, by rw [wds_2, l4]; omega, rfl, rfl⟩)
      | none =>
        cases h1 : fno (wq n b s) 0 lawW with
        | some j =>
          have := lt1 j h1
          show tkr 202 4 0 (if nI j = -1 then (1 : Int32) else 2) (nI j)
          rw [two_n1 (by omega)]
          exact Or.inr (Or.inr (Or.inr (Or.inr ⟨rfl, rfl, Or.inr (Or.inl ⟨rfl, j, by omega, Or.inl (by show j < 15; omega), rfl⟩)⟩)))
        | none =>
          show tkr 202 4 0 (if (-1 : Int32) = -1 then (1 : Int32) else 2) (-1)
          rw [if_pos rfl]
          exact Or.inr (Or.inr (Or.inr (Or.inr ⟨rfl, rfl, Or.inl rfl⟩)))
  · by_cases z2 : isD (b s) = true
    · rw [if_neg z1, if_pos z2] at hv
      rw [if_neg z1, if_neg z1, if_pos z2, if_pos z2]
      by_cases z3 : dE n b s - s ≤ 4
      · rw [if_pos z3, if_pos z3, hv z3]
        have ge := rn_ge (fun i => isD (b i)) (n - s) s
        have lt := (nvF_le w s (dE n b s - s) (by unfold dE; omega) (fun i hi => rn_in (fun i => isD (b i)) (n - s) s (s + i) (by omega) (by unfold dE at hi; omega))).1
        exact Or.inr (Or.inr (Or.inl ⟨rfl, lt, rfl, rfl⟩))
      · rw [if_neg z3, if_neg z3]
        exact Or.inr (Or.inr (Or.inr (Or.inr ⟨rfl, rfl, Or.inl rfl⟩)))
    · rw [if_neg z1, if_neg z2] at hv
      rw [if_neg z1, if_neg z1, if_neg z2, if_neg z2]
      have lt := w.2 s hs
      by_cases z3 : (sgs r0).contains (b s) = true
      · rw [if_pos z3]
        show tkr r0 3 (b s) _ _
        refine Or.inr (Or.inr (Or.inr (Or.inl ⟨rfl, lt, z3, ?_⟩)))
        rcases hr with rfl | rfl
        · rw [sgs_1] at z3
          rw [if_pos z3]
          exact Or.inl ⟨fun q => by rw [q] at z3; exact absurd z3 (by decide), rfl, hv⟩
        · rw [sgs_2] at z3
          have z4 : b s = 59 ∨ b s = 34 := by simpa using z3
          rcases z4 with q | q
          · rw [if_pos (by rw [q]; decide)]
            exact Or.inl ⟨by omega, rfl, hv⟩
          · rw [if_neg (by rw [q]; decide)]
            exact Or.inr ⟨q, rfl⟩
      · rw [if_neg z3]
        show tkr r0 4 0 _ _
        refine Or.inr (Or.inr (Or.inr (Or.inr ⟨rfl, rfl, ?_⟩)))
        by_cases z4 : lawL.contains (b s) = true
        · rw [if_pos z4]
          exact Or.inr (Or.inr ⟨rfl, b s, lt, eq_false_of_ne_true z3, hv⟩)
        · rw [if_neg z4]
          exact Or.inl rfl
/-- a token's kind and value -/
theorem tok_lt (w : WB n b) (hr : isT r0) (i : Nat) : (tok n b r0 i).1 ≤ 4 ∧ (tok n b r0 i).2 < 10000 := by
  unfold tok
  by_cases c : ts n b r0 i < n
  · rw [if_pos c]
    have h := tok_tkr w hr c (y := if isW (b (ts n b r0 i)) = true then rW n b (ts n b r0 i) else if isD (b (ts n b r0 i)) = true then nI (nvF b (ts n b r0 i) (dE n b (ts n b r0 i) - ts n b r0 i)) else nI (b (ts n b r0 i))) (by
      unfold rVok
      split
      · rfl
      · split
        · exact fun _ => rfl
        · rfl)
    have l := wds_le r0
    rcases h with ⟨e, v, -⟩ | ⟨e, v, -⟩ | ⟨e, v, -⟩ | ⟨e, v, -⟩ | ⟨e, v, -⟩ <;> constructor <;> omega
  · rw [if_neg c]
    exact ⟨by show 0 ≤ 4; omega, by show 0 < 10000; omega⟩
/-- the reference stands at the i-th token -/
def FTk (B : Mm) (n : Nat) (b : Nat → Nat) (r0 i : Nat) : Prop := B 239 18 = nI (pl n b r0 i) ∧ tkr r0 (tok n b r0 i).1 (tok n b r0 i).2 (B 239 19) (B 239 20) ∧ B 239 17 = nI (if ts n b r0 i < n then rE n b (ts n b r0 i) else n)
theorem FTk.congr {B' : Mm} (h : FTk B n b r0 i) (e : ∀ j, 17 ≤ j → j < 21 → B' 239 j = B 239 j) : FTk B' n b r0 i := by
  unfold FTk at h ⊢
  rw [e 17 (by omega) (by omega), e 18 (by omega) (by omega), e 19 (by omega) (by omega), e 20 (by omega) (by omega)]
  exact h
theorem F_rd (f : FP B n b) (w : WB n b) (hr : isT r0) (h : B 239 17 = nI (tp n b r0 i)) (hp : tp n b r0 i ≤ n) : ∃ B', f_X11_reads B = some B' ∧ (∀ j, j ≠ 239 → B' j = B j) ∧ (∀ i, i < 17 ∨ 20 < i → B' 239 i = B 239 i) ∧ FTk B' n b r0 i := by
  obtain ⟨B', v', g1, g2⟩ := F_reads (B0 := B) f w (n - tp n b r0 i) (tp n b r0 i) FU B (B 239 18).toBitVec.toNat (B 239 19) (B 239 20) (by omega) (by have := w.1; unfold FU; omega) ⟨fun _ _ => rfl, fun _ _ => rfl, h, (nI_tn _).symm, rfl, rfl⟩
  refine ⟨B', g1, ?_⟩
  have e : sk n b (tp n b r0 i) = ts n b r0 i := rfl
  rw [e] at g2
  unfold FTk pl tok
  by_cases c : ts n b r0 i < n
  · simp only [if_pos c] at g2 ⊢
    obtain ⟨⟨a1, a2, a3, a4, a5, a6⟩, gv⟩ := g2
    refine ⟨a1, a2, a4, ?_, a3⟩
    rw [a5]
    exact tok_tkr w hr c (by rw [a6]; exact gv)
  · simp only [if_neg c] at g2 ⊢
    obtain ⟨a1, a2, a3, a4, a5, a6⟩ := g2
    exact ⟨a1, a2, a4, Or.inl ⟨rfl, rfl, a5⟩, a3⟩
theorem FTk.word (h : FTk B n b r0 i) {k : Nat} (hk : k < (wds r0).length) : f_X11_isWord (nI (k + wo r0)) B = some (if (tok n b r0 i).1 = 1 ∧ (tok n b r0 i).2 = k then 1 else 0, B) := by
  have l1 := wds_le r0
  have l2 := wo_le r0
  obtain ⟨-, h, -⟩ := h
  unfold f_X11_isWord f_X11_isWord_20
  revert h
  generalize (tok n b r0 i).1 = t
  generalize (tok n b r0 i).2 = v
  intro h
  have fin : B 239 19 ≠ 2 → ¬ (t = 1 ∧ v = k) → (if B 239 19 = (2 : Int32) then (if B 239 20 = nI (k + wo r0) then some ((1 : Int32), B) else some ((0 : Int32), B)) else some ((0 : Int32), B)) = some (if t = 1 ∧ v = k then 1 else 0, B) := fun p q => by rw [if_neg p, if_neg q]
  rcases h with ⟨e, l, x⟩ | ⟨e, l, x, y⟩ | ⟨e, l, x, y⟩ | ⟨e, l, s, (⟨ne, x, y⟩ | ⟨ne, x⟩)⟩ | ⟨e, l, (x | ⟨x, u, lu, nr, y⟩ | ⟨x, u, lu, nr, y⟩)⟩
  · exact fin (by rw [x]; decide) (by omega)
  · rw [x, y, if_pos rfl]
    by_cases q : v = k
    · rw [q, if_pos rfl, if_pos (And.intro e rfl)]
    · rw [if_neg (fun z => q (by have := (nI_inj (by omega) (by omega)).mp z; omega)), if_neg (fun z => q z.2)]
  · exact fin (by rw [x]; decide) (by omega)
  · exact fin (by rw [x]; decide) (by omega)
  · exact fin (by rw [x]; decide) (by omega)
  · exact fin (by rw [x]; decide) (by omega)
  · rw [x, y, if_pos rfl, if_neg (fun z => by have := (nI_inj (by omega) (by omega)).mp z; omega), if_neg (by omega)]
  · exact fin (by rw [x]; decide) (by omega)
theorem FTk.sign (h : FTk B n b r0 i) {c : Nat} (hc : (sgs r0).contains c = true) (h34 : c ≠ 34) (lc : c < 256) : f_X11_isSign (nI c) B = some (if (tok n b r0 i).1 = 3 ∧ (tok n b r0 i).2 = c then 1 else 0, B) := by
  obtain ⟨-, h, -⟩ := h
  unfold f_X11_isSign f_X11_isSign_20
  revert h
  generalize (tok n b r0 i).1 = t
  generalize (tok n b r0 i).2 = v
  intro h
  have fin : B 239 19 ≠ 4 → ¬ (t = 3 ∧ v = c) → (if B 239 19 = (4 : Int32) then (if B 239 20 = nI c then some ((1 : Int32), B) else some ((0 : Int32), B)) else some ((0 : Int32), B)) = some (if t = 3 ∧ v = c then 1 else 0, B) := fun p q => by rw [if_neg p, if_neg q]
  rcases h with ⟨e, l, x⟩ | ⟨e, l, x, y⟩ | ⟨e, l, x, y⟩ | ⟨e, l, s, (⟨ne, x, y⟩ | ⟨ne, x⟩)⟩ | ⟨e, l, (x | ⟨x, u, lu, nr, y⟩ | ⟨x, u, lu, nr, y⟩)⟩
  · exact fin (by rw [x]; decide) (by omega)
  · exact fin (by rw [x]; decide) (by omega)
  · exact fin (by rw [x]; decide) (by omega)
  · rw [x, y, if_pos rfl]
    by_cases q : v = c
    · rw [q, if_pos rfl, if_pos (And.intro e rfl)]
    · rw [if_neg (fun z => q ((nI_inj (by omega) (by omega)).mp z)), if_neg (fun z => q z.2)]
  · exact fin (by rw [x]; decide) (by omega)
  · exact fin (by rw [x]; decide) (by omega)
  · exact fin (by rw [x]; decide) (by omega)
  · rw [x, y, if_pos rfl, if_neg (fun z => by
      have := (nI_inj (by omega) (by omega)).mp z
      rw [this, hc] at nr
      cases nr), if_neg (by omega)]
theorem FTk.num (h : FTk B n b r0 i) : (B 239 19 = 3 ↔ (tok n b r0 i).1 = 2) ∧ (B 239 19 = 0 ↔ (tok n b r0 i).1 = 0) ∧ (B 239 19 = 2 → (tok n b r0 i).1 = 1 ∨ (tok n b r0 i).1 = 4) ∧ ((tok n b r0 i).1 = 2 → B 239 20 = nI (tok n b r0 i).2) ∧ ((tok n b r0 i).1 = 3 → (tok n b r0 i).2 ≠ 34 → B 239 20 = nI (tok n b r0 i).2) := by
  obtain ⟨-, h, -⟩ := h
  revert h
  generalize (tok n b r0 i).1 = t
  generalize (tok n b r0 i).2 = v
  generalize B 239 19 = xx
  generalize B 239 20 = yy
  intro h
  rcases h with ⟨e, l, x⟩ | ⟨e, l, x, y⟩ | ⟨e, l, x, y⟩ | ⟨e, l, s, (⟨ne, x, y⟩ | ⟨ne, x⟩)⟩ | ⟨e, l, (x | ⟨x, u, lu, nr, y⟩ | ⟨x, u, lu, nr, y⟩)⟩ <;> subst x <;> subst e <;> refine ⟨?_, ?_, ?_, ?_, ?_⟩
  all_goals first | exact ⟨fun _ => rfl, fun _ => rfl⟩ | exact ⟨fun z => absurd z (by decide), fun z => absurd z (by decide)⟩ | exact fun z => absurd z (by decide) | exact fun _ => Or.inl rfl | exact fun _ => Or.inr rfl | exact fun _ => y | exact fun _ _ => y | exact fun _ q => absurd ne q
/-! ===== the class at its token ===== -/
theorem TK.kind (h : TK A n b r0 m) (h7 : A r0 7 = nI i) (hi : i ≤ m) : f_X8_kind r0 A = some (nI (tok n b r0 i).1, A) := by
  have lm : m ≤ 400 := h.2.1
  unfold f_X8_kind
  rw [h7, gd_t (by omega) (by omega), ix_nI (by omega), (h.at hi).1]
theorem TK.value (h : TK A n b r0 m) (h7 : A r0 7 = nI i) (hi : i ≤ m) (ht : (tok n b r0 i).1 = 1 ∨ (tok n b r0 i).1 = 2 ∨ (tok n b r0 i).1 = 3) : f_X8_value r0 A = some (nI (tok n b r0 i).2, A) := by
  have lm : m ≤ 400 := h.2.1
  unfold f_X8_value
  rw [h7, gd_t (by omega) (by omega), ix_nI (by omega), (h.at hi).2.1 ht]
theorem TK.place (h : TK A n b r0 m) (h7 : A r0 7 = nI i) (hi : i ≤ m) : f_X8_place r0 A = some (nI (pl n b r0 i), A) := by
  have lm : m ≤ 400 := h.2.1
  unfold f_X8_place pl
  rw [h7, gd_t (by omega) (by omega), ix_nI (by omega), (h.at hi).2.2.1]
theorem TK.word (h : TK A n b r0 m) (w : WB n b) (hr : isT r0) (h7 : A r0 7 = nI i) (hi : i ≤ m) {k : Nat} (hk : k < 10000) : f_X8_isWord r0 (nI k) A = some (if (tok n b r0 i).1 = 1 ∧ (tok n b r0 i).2 = k then 1 else 0, A) := by
  have lm : m ≤ 400 := h.2.1
  obtain ⟨t1, t2⟩ := tok_lt w hr i
  obtain ⟨a1, a2, -⟩ := h.at hi
  unfold f_X8_isWord f_X8_isWord_30
  rw [h7, gd_t (by omega) (by omega), ix_nI (by omega), a1, gd_t (by omega) (by omega)]
  by_cases c : (tok n b r0 i).1 = 1
  · rw [if_pos (by rw [c]; rfl), a2 (Or.inl c)]
    by_cases q : (tok n b r0 i).2 = k
    · rw [if_pos (by rw [q]), if_pos (And.intro c q)]
    · rw [if_neg (fun z => q ((nI_inj (by omega) (by omega)).mp z)), if_neg (fun z => q z.2)]
  · rw [if_neg (n_ne 1 (x := 1) rfl c (by omega) (by omega)), if_neg (fun z => c z.1)]
theorem TK.sign (h : TK A n b r0 m) (w : WB n b) (hr : isT r0) (h7 : A r0 7 = nI i) (hi : i ≤ m) {k : Nat} (hk : k < 10000) : f_X8_isSign r0 (nI k) A = some (if (tok n b r0 i).1 = 3 ∧ (tok n b r0 i).2 = k then 1 else 0, A) := by
  have lm : m ≤ 400 := h.2.1
  obtain ⟨t1, t2⟩ := tok_lt w hr i
  obtain ⟨a1, a2, -⟩ := h.at hi
  unfold f_X8_isSign f_X8_isSign_30
  rw [h7, gd_t (by omega) (by omega), ix_nI (by omega), a1, gd_t (by omega) (by omega)]
  by_cases c : (tok n b r0 i).1 = 3
  · rw [if_pos (by rw [c]; rfl), a2 (Or.inr (Or.inr c))]
    by_cases q : (tok n b r0 i).2 = k
    · rw [if_pos (by rw [q]), if_pos (And.intro c q)]
    · rw [if_neg (fun z => q ((nI_inj (by omega) (by omega)).mp z)), if_neg (fun z => q z.2)]
  · rw [if_neg (n_ne 3 (x := 3) rfl c (by omega) (by omega)), if_neg (fun z => c z.1)]
theorem TK.wrong (h : TK A n b r0 m) (hr : isT r0) (h7 : A r0 7 = nI i) (hi : i ≤ m) (k : Int32) : f_X8_wrong r0 k A = some (0, uM (uM A 184 2 k) 184 3 (nI (pl n b r0 i))) := by
  have hr : r0 = 194 ∨ r0 = 202 := hr
  have lm : m ≤ 400 := h.2.1
  have a := (h.at hi).2.2.1
  unfold f_X8_wrong
  rw [nm_x, uM_off _ _ _ (by omega), h7, gd_t (by omega) (by omega), ix_nI (by omega), nm_x, uM_off _ _ _ (by omega), a]
  rfl
theorem TK.skip (h : TK A n b r0 m) (h7 : A r0 7 = nI i) (hi : i < m) : f_X8_skip r0 A = some (uM A r0 7 (nI (i + 1))) := by
  have lm : m ≤ 400 := h.2.1
  unfold f_X8_skip
  rw [h.1, h7, nI_sub1 (by omega), if_neg (nI_ge_f (by omega) (by omega)), nm_x, nI_1]
theorem TK.lt (h : TK A n b r0 m) (hi : i ≤ m) (ht : (tok n b r0 i).1 ≠ 0) : i < m := by
  have := (h.at hi).2.2.2
  omega
theorem TK.tsl (h : TK A n b r0 m) (hi : i < m) : ts n b r0 i < n := (h.2.2.1 i hi).1
end STAND
