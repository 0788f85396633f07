/-! ===== which word stands there ===== -/
def txC (k i : Nat) : Int32 := (sxB.getD k []).getD i 0
def txB (k : Nat) : Bool := (List.range (sxL.getD k 0)).all (fun i => decide (i2c (txC k i &&& 255) = txC k i) && decide (narrow .char (.int (i2c (txC k i &&& 255))) = .int (i2c (txC k i &&& 255))))
theorem txB_ok : txB 0 = true ∧ txB 2 = true := by decide +kernel
theorem C_charAt (A : Mm) {k i : Nat} (hk : k = 0 ∨ k = 2) (hi : i < sxL.getD k 0) : f_J0_charAt_5068e k (nI i) A = some (txC k i, A) := by
  have hl : sxL.getD k 0 ≤ 74 := by rcases hk with rfl | rfl <;> decide
  have h : txB k = true := hk.elim (fun e => by rw [e]; exact txB_ok.1) (fun e => by rw [e]; exact txB_ok.2)
  have h := List.all_eq_true.mp h i (List.mem_range.mpr hi)
  rw [Bool.and_eq_true] at h
  have h1 := of_decide_eq_true h.1
  have h2 := of_decide_eq_true h.2
  have e : f_J1_charAt_3b067 k (nI i) A = some (txC k i, A) := by
    unfold f_J1_charAt_3b067 f_J0_checkIndex_df160 f_J3_checkIndex_8e157
    rw [if_neg (nI_pos (by omega)), if_pos (show nI i < Int32.ofNat (sxL.getD k 0) from (nI_ltI (by omega) (by omega)).mpr hi)]
    simp only [bind_x]
    rw [gd_t hi (by omega), ix_nI (by omega)]
    show gd (narrow .char (.int (i2c (txC k i &&& 255))) = .int (i2c (txC k i &&& 255))) (some (i2c (txC k i &&& 255), A)) = _
    rw [gd_pos h2, h1]
  unfold f_J0_charAt_5068e f_J0_isLatin1_aae02
  simp only [bind_x]
  rw [if_neg (of_eq_false i10), e]
  simp only [bind_x]
  rw [h1] at h2
  exact gd_pos h2
theorem C_length (A : Mm) {k : Nat} : f_J0_length_8abf5 k A = some (shr (nI (sxL.getD k 0)) 0, A) := by
  unfold f_J0_length_8abf5 f_J0_coder_7d493
  rw [gd_pos (by decide)]
  rfl
theorem shr_0 (x : Int32) : shr x 0 = x := by
  unfold shr
  apply b_ext
  intro i hi
  rw [show (0 : Int32) = nI 0 from rfl, b_sshr 0 (by omega) _ hi]
  simp [hi]
/-- the first that is so, counted from k on -/
def fnd {α : Type} (q : α → Bool) : Nat → List α → Int32
  | _, [] => -1
  | k, a :: r => if q a = true then nI k else fnd q (k + 1) r
def scS (t : Nat → Bool) (L : Nat) : Nat → Nat → Nat → List (Nat × Nat)
  | 0, _, _ => []
  | d + 1, beg, i => if L ≤ i ∨ t i = true then (beg, i) :: scS t L d (i + 1) (i + 1) else scS t L d beg (i + 1)
/-- the text's words by place -/
def sgL (k : Nat) : List (Nat × Nat) := scS (fun i => decide (txC k i = 32)) (sxL.getD k 0) (sxL.getD k 0 + 1) 0 0
def smB (k : Nat) (b : Nat → Nat) (s e : Nat) (p : Nat × Nat) : Bool := decide (p.2 - p.1 = e - s) && (List.range (e - s)).all (fun i => decide (txC k (p.1 + i) = nI (b (s + i))))
theorem C_isSame {A : Mm} {r0 n : Nat} {b : Nat → Nat} (hr : r0 = 194 ∨ r0 = 202) (hb : ∀ i, i < n → A 185 i = nI (b i)) (hn : n ≤ 400) {beg s len : Nat} (h1 : beg + len ≤ sxL.getD (tw r0) 0) (h2 : s + len ≤ n) : f_X8_isSame r0 (nI beg) (nI s) (nI len) A = some (if (List.range len).all (fun i => decide (txC (tw r0) (beg + i) = nI (b (s + i)))) = true then 1 else 0, A) := by
  have hk : tw r0 = 0 ∨ tw r0 = 2 := hr.elim (fun e => Or.inl (by rw [e]; rfl)) (fun e => Or.inr (by rw [e]; rfl))
  have hl : sxL.getD (tw r0) 0 ≤ 74 := by rcases hk with e | e <;> rw [e] <;> decide
  have key : ∀ (d i fuel : Nat), i + d = len → d < fuel → (∀ j, j < i → txC (tw r0) (beg + j) = nI (b (s + j))) → f_X8_isSame_3 r0 fuel (nI beg) (nI s) (nI len) (nI i) A = some (if (List.range len).all (fun i => decide (txC (tw r0) (beg + i) = nI (b (s + i)))) = true then 1 else 0, A) := by
    intro d
    induction d with
    | zero =>
      intro i fuel e1 e2 hj
      cases fuel with
      | zero => omega
      | succ fu =>
        show f_X8_isSame_3b (f_X8_isSame_3 r0 fu) r0 (nI beg) (nI s) (nI len) (nI i) A = _
        unfold f_X8_isSame_3b
        rw [if_pos (nI_ge_t (by omega) (by omega)), if_pos]
        exact List.all_eq_true.mpr fun j hj2 => decide_eq_true (hj j (by have := List.mem_range.mp hj2; omega))
    | succ d ih =>
      intro i fuel e1 e2 hj
      cases fuel with
      | zero => omega
      | succ fu =>
        show f_X8_isSame_3b (f_X8_isSame_3 r0 fu) r0 (nI beg) (nI s) (nI len) (nI i) A = _
        unfold f_X8_isSame_3b
        rw [if_neg (nI_ge_f (by omega) (by omega)), nI_add, nI_add, C_charAt A hk (by omega)]
        simp only [bind_x]
        rw [gd_t (by omega) (by omega), ix_nI (by omega), hb _ (by omega)]
        by_cases c : txC (tw r0) (beg + i) = nI (b (s + i))
        · rw [if_pos c, nm_x, nI_1]
          refine ih (i + 1) fu (by omega) (by omega) fun j hj2 => ?_
          by_cases z : j = i
          · rw [z]; exact c
          · exact hj j (by omega)
        · rw [if_neg c, if_neg]
          intro e
          exact c (of_decide_eq_true (List.all_eq_true.mp e i (List.mem_range.mpr (by omega))))
  exact key len 0 FU (by omega) (by unfold FU; omega) (fun j hj => absurd hj (Nat.not_lt_zero j))
theorem C_wordAt {A : Mm} {r0 n : Nat} {b : Nat → Nat} (hr : r0 = 194 ∨ r0 = 202) (hb : ∀ i, i < n → A 185 i = nI (b i)) (hn : n ≤ 400) {s e : Nat} (h1 : s ≤ e) (h2 : e ≤ n) : f_X8_wordAt r0 (nI s) (nI e) A = some (fnd (smB (tw r0) b s e) 0 (sgL (tw r0)), A) := by
  have hk : tw r0 = 0 ∨ tw r0 = 2 := hr.elim (fun e => Or.inl (by rw [e]; rfl)) (fun e => Or.inr (by rw [e]; rfl))
  have hl : sxL.getD (tw r0) 0 ≤ 74 := by rcases hk with e | e <;> rw [e] <;> decide
  have key : ∀ (d i fuel k beg : Nat), i + d = sxL.getD (tw r0) 0 + 1 → d < fuel → beg ≤ i → k ≤ i → f_X8_wordAt_8 r0 fuel (nI s) (nI e) (nI k) (nI beg) (nI i) A = some (fnd (smB (tw r0) b s e) k (scS (fun i => decide (txC (tw r0) i = 32)) (sxL.getD (tw r0) 0) d beg i), A) := by
    intro d
    induction d with
    | zero =>
      intro i fuel k beg e1 e2 e3 e4
      cases fuel with
      | zero => omega
      | succ fu =>
        show f_X8_wordAt_8b (f_X8_wordAt_8 r0 fu) r0 (nI s) (nI e) (nI k) (nI beg) (nI i) A = _
        unfold f_X8_wordAt_8b
        rw [C_length, shr_0]
        simp only [bind_x]
        rw [if_pos ((nI_ltI (by omega) (by omega)).mpr (by omega))]
        rfl
    | succ d ih =>
      intro i fuel k beg e1 e2 e3 e4
      cases fuel with
      | zero => omega
      | succ fu =>
        have sep : f_X8_wordAt_49 (f_X8_wordAt_8 r0 fu) r0 (nI s) (nI e) (nI k) (nI beg) (nI i) A = some (if smB (tw r0) b s e (beg, i) = true then nI k else fnd (smB (tw r0) b s e) (k + 1) (scS (fun i => decide (txC (tw r0) i = 32)) (sxL.getD (tw r0) 0) d (i + 1) (i + 1)), A) := by
          have nx : f_X8_wordAt_75 (f_X8_wordAt_8 r0 fu) r0 (nI s) (nI e) (nI k) (nI i) A = some (fnd (smB (tw r0) b s e) (k + 1) (scS (fun i => decide (txC (tw r0) i = 32)) (sxL.getD (tw r0) 0) d (i + 1) (i + 1)), A) := by
            unfold f_X8_wordAt_75 f_X8_wordAt_84
            rw [nm_x, nm_x, nm_x, nI_1, nI_1]
            exact ih (i + 1) fu (k + 1) (i + 1) (by omega) (by omega) (by omega) (by omega)
          unfold f_X8_wordAt_49
          rw [pk_sub (by omega), pk_sub (by omega)]
          unfold smB
          by_cases c : i - beg = e - s
          · rw [if_pos (by rw [c]), C_isSame hr hb hn (by omega) (by omega)]
            simp only [bind_x]
            by_cases z : (List.range (e - s)).all (fun i => decide (txC (tw r0) (beg + i) = nI (b (s + i)))) = true
            · rw [if_pos z, if_neg (of_eq_false i10), if_pos]
              rw [Bool.and_eq_true]
              exact ⟨decide_eq_true c, z⟩
            · rw [if_neg z, if_pos rfl, if_neg (fun q => z ((Bool.and_eq_true _ _).mp q).2)]
              exact nx
          · rw [if_neg (fun q => c ((nI_inj (by omega) (by omega)).mp q)), if_neg (fun q => c (of_decide_eq_true ((Bool.and_eq_true _ _).mp q).1))]
            exact nx
        show f_X8_wordAt_8b (f_X8_wordAt_8 r0 fu) r0 (nI s) (nI e) (nI k) (nI beg) (nI i) A = _
        unfold f_X8_wordAt_8b
        rw [C_length, shr_0]
        simp only [bind_x]
        rw [if_neg (fun q => by have := (nI_ltI (by omega) (by omega)).mp q; omega), C_length, shr_0]
        simp only [bind_x]
        unfold scS
        by_cases c : sxL.getD (tw r0) 0 ≤ i
        · rw [if_pos (nI_ge_t c (by omega)), sep, if_pos (Or.inl c)]
          rfl
        · rw [if_neg (nI_ge_f (by omega) (by omega)), C_charAt A hk (by omega)]
          simp only [bind_x]
          by_cases z : txC (tw r0) i = 32
          · rw [if_pos z, sep, if_pos (Or.inr (decide_eq_true z))]
            rfl
          · rw [if_neg z, if_neg (fun q => q.elim c (fun q => z (of_decide_eq_true q)))]
            unfold f_X8_wordAt_84
            rw [nm_x, nI_1]
            exact ih (i + 1) fu k beg (by omega) (by omega) (by omega) (by omega)
  exact key (sxL.getD (tw r0) 0 + 1) 0 FU 0 0 (by omega) (by unfold FU; omega) (by omega) (by omega)
