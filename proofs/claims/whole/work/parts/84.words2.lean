/-! ===== the words of the law and of the wills; which one stands there ===== -/
def lawW : List (List Nat) := [[104, 101, 105, 114], [119, 104, 101, 110], [111, 114], [97, 110, 100], [110, 111, 116], [108, 101, 116, 116, 101, 114], [118, 111, 119, 101, 108], [97, 103, 101], [107, 105, 110], [99, 104, 105, 108, 100], [115, 112, 111, 117, 115, 101], [111, 119, 110, 115], [115, 107, 105, 108, 108], [99, 111, 105, 110], [100, 97, 121]]
def wilW : List (List Nat) := [[108, 101, 97, 118, 101], [116, 111], [105, 102], [114, 101, 115, 116]]
def wl (b : Nat → Nat) (s e : Nat) : List Nat := (List.range (e - s)).map (fun i => b (s + i))
theorem fnd_zip {α β : Type} {q : α → Bool} {q' : β → Bool} : ∀ (l : List α) (m : List β) (k : Nat), l.length = m.length → (∀ x, x ∈ l.zip m → q x.1 = q' x.2) → fnd q k l = fnd q' k m := by
  intro l
  induction l with
  | nil => intro m k hl _; cases m with
    | nil => rfl
    | cons _ _ => cases hl
  | cons a l ih =>
    intro m k hl h
    cases m with
    | nil => cases hl
    | cons c m =>
      unfold fnd
      rw [h (a, c) (List.mem_cons_self ..), ih m (k + 1) (by simpa using hl) fun x hx => h x (List.mem_cons_of_mem _ hx)]
def sgB (k : Nat) (ws : List (List Nat)) : Bool := decide ((sgL k).length = ws.length) && ((sgL k).zip ws).all (fun x => decide (x.1.2 - x.1.1 = x.2.length) && (List.range x.2.length).all (fun i => decide (txC k (x.1.1 + i) = nI (x.2.getD i 0)) && decide (x.2.getD i 0 < 256)))
theorem sg_law : sgB 0 lawW = true := by decide +kernel
theorem sg_wil : sgB 2 wilW = true := by decide +kernel
theorem wl_eq {b : Nat → Nat} {s e : Nat} {w : List Nat} : wl b s e = w ↔ e - s = w.length ∧ ∀ i, i < w.length → b (s + i) = w.getD i 0 := by
  constructor
  · intro h
    have hl : e - s = w.length := by rw [← h]; simp [wl]
    refine ⟨hl, fun i hi => ?_⟩
    rw [← h]
    simp [wl, List.getD_eq_getElem?_getD, hl, hi]
  · rintro ⟨h1, h2⟩
    apply List.ext_getElem
    · simp [wl, h1]
    · intro i h3 h4
      have := h2 i h4
      rw [List.getD_eq_getElem?_getD, List.getElem?_eq_getElem h4] at this
      simpa [wl] using this
theorem sm_wl {k : Nat} {ws : List (List Nat)} (h : sgB k ws = true) {b : Nat → Nat} {s e : Nat} (hb : ∀ i, s ≤ i → i < e → b i < 256) (n : Nat) : fnd (smB k b s e) n (sgL k) = fnd (fun w => decide (wl b s e = w)) n ws := by
  unfold sgB at h
  rw [Bool.and_eq_true] at h
  refine fnd_zip _ _ _ (of_decide_eq_true h.1) fun x hx => ?_
  have hx := List.all_eq_true.mp h.2 x hx
  rw [Bool.and_eq_true] at hx
  have e1 := of_decide_eq_true hx.1
  have e2 : ∀ i, i < x.2.length → txC k (x.1.1 + i) = nI (x.2.getD i 0) ∧ x.2.getD i 0 < 256 := fun i hi => by
    have := List.all_eq_true.mp hx.2 i (List.mem_range.mpr hi)
    rw [Bool.and_eq_true] at this
    exact ⟨of_decide_eq_true this.1, of_decide_eq_true this.2⟩
  rw [Bool.eq_iff_iff, decide_eq_true_iff, wl_eq]
  unfold smB
  rw [Bool.and_eq_true, decide_eq_true_iff, e1]
  constructor
  · rintro ⟨a, c⟩
    refine ⟨a.symm, fun i hi => ?_⟩
    have := of_decide_eq_true (List.all_eq_true.mp c i (List.mem_range.mpr (by omega)))
    rw [(e2 i hi).1] at this
    exact ((nI_inj (by have := (e2 i hi).2; omega) (by have := hb (s + i) (by omega) (by omega); omega)).mp this).symm
  · rintro ⟨a, c⟩
    refine ⟨a.symm, List.all_eq_true.mpr fun i hi => decide_eq_true ?_⟩
    have hi := List.mem_range.mp hi
    rw [(e2 i (by omega)).1, c i (by omega)]
def wdN (i : Nat) : Nat := wdL.getD i 0
def wdW (p p' : Nat) : List Nat := (List.range (p' - (p + 1))).map (fun i => wdN (p + 1 + i))
def chW2 : Nat → List Nat → List (List Nat)
  | _, [] => []
  | p, p' :: r => wdW p p' :: chW2 p' r
def okCh : Nat → List Nat → Bool
  | p, [] => decide (p = 92)
  | p, p' :: r => decide (p < p') && decide (p' ≤ 92) && decide (wdN p' = 32) && (List.range (p' - (p + 1))).all (fun i => !decide (wdN (p + 1 + i) = 32)) && okCh p' r
def blL : List Nat := [5, 10, 13, 17, 21, 28, 34, 38, 42, 48, 55, 60, 66, 71, 75, 81, 84, 87, 92]
theorem bl_ok : okCh 0 blL = true := by decide +kernel
theorem bl_eq : chW2 0 blL = lawW ++ wilW := by decide +kernel
theorem wd_lt : ∀ i, i < 93 → wdN i < 256 := by decide +kernel
section FWORD
variable {B : Mm} {n s e : Nat} {b : Nat → Nat}
theorem F_w93 (h1 : ∀ i, i < 93 → B 251 i = nI (wdN i)) (k5 : Int32 → Int32 → Int32 → Int32 → Mm → Option (Int32 × Mm)) (x1 x2 x3 : Int32) {p' : Nat} (hp : p' ≤ 92) (h32 : wdN p' = 32) : ∀ (d i fuel : Nat), i + d = p' → d < fuel → (∀ j, i ≤ j → j < p' → wdN j ≠ 32) → f_X11_wordAt_93 k5 fuel x1 x2 x3 (nI i) B = k5 x1 x2 x3 (nI p') B := by
  intro d
  induction d with
  | zero =>
    intro i fuel e1 e2 _
    cases fuel with
    | zero => omega
    | succ fu =>
      have e : i = p' := by omega
      subst e
      show f_X11_wordAt_93b k5 (f_X11_wordAt_93 k5 fu) x1 x2 x3 (nI i) B = _
      unfold f_X11_wordAt_93b
      rw [gd_t (by omega) (by omega), ix_nI (by omega), h1 i (by omega), h32, if_pos (show nI 32 = 32 from rfl)]
  | succ d ih =>
    intro i fuel e1 e2 hj
    cases fuel with
    | zero => omega
    | succ fu =>
      show f_X11_wordAt_93b k5 (f_X11_wordAt_93 k5 fu) x1 x2 x3 (nI i) B = _
      unfold f_X11_wordAt_93b
      have lt := wd_lt i (by omega)
      rw [gd_t (by omega) (by omega), ix_nI (by omega), h1 i (by omega), if_neg (show ¬ nI (wdN i) = 32 from fun q => hj i (by omega) (by omega) ((eqc (k := 32) lt (by omega)).mp q)), nm_x, nI_1]
      exact ih (i + 1) fu (by omega) (by omega) fun j a c => hj j (by omega) c
theorem F_w19 (h1 : ∀ i, i < 93 → B 251 i = nI (wdN i)) (hb : ∀ i, i < n → B 250 i = nI (b i)) (hb2 : ∀ i, i < n → b i < 256) (hn : n ≤ 400) (hs : s ≤ e) (he : e ≤ n) (hw : ∀ i, s ≤ i → i < e → b i ≠ 32) (k5 : Int32 → Int32 → Int32 → Int32 → Mm → Option (Int32 × Mm)) (x3 : Int32) {p p' : Nat} (hpp : p < p') (hp : p' ≤ 92) (h32 : wdN p' = 32) (hno : ∀ j, p < j → j < p' → wdN j ≠ 32) : ∀ (d i fuel : Nat), s + i + d = e → d < fuel → (∀ j, j < i → wdN (p + 1 + j) = b (s + j)) → f_X11_wordAt_19 k5 fuel (nI s) (nI e) x3 (nI p) (nI i) B = if wl b s e = wdW p p' then some (x3, B) else k5 (nI s) (nI e) x3 (nI p') B := by
  -- not past the word's end
  have inw : ∀ i, s + i ≤ e → (∀ j, j < i → wdN (p + 1 + j) = b (s + j)) → p + 1 + i ≤ p' := fun i hi hj => by
    rcases Nat.lt_or_ge p' (p + 1 + i) with z | z
    · have := hj (p' - (p + 1)) (by omega)
      rw [show p + 1 + (p' - (p + 1)) = p' by omega, h32] at this
      exact absurd this.symm (hw _ (by omega) (by omega))
    · exact z
  have go : f_X11_wordAt_87 k5 (nI s) (nI e) x3 (nI p) B = k5 (nI s) (nI e) x3 (nI p') B := by
    unfold f_X11_wordAt_87
    rw [nm_x, nI_1]
    exact F_w93 h1 k5 _ _ _ hp h32 (p' - (p + 1)) (p + 1) FU (by omega) (by unfold FU; omega) fun j a c => hno j (by omega) c
  have iff : wl b s e = wdW p p' ↔ e - s = p' - (p + 1) ∧ ∀ i, i < p' - (p + 1) → b (s + i) = wdN (p + 1 + i) := by
    rw [wl_eq]
    have hl : (wdW p p').length = p' - (p + 1) := by simp [wdW]
    rw [hl]
    refine and_congr_right fun _ => ?_
    refine forall_congr' fun i => ?_
    constructor
    · intro h hi; have := h hi; rwa [show (wdW p p').getD i 0 = wdN (p + 1 + i) by simp [wdW, List.getD_eq_getElem?_getD, hi]] at this
    · intro h hi; rw [show (wdW p p').getD i 0 = wdN (p + 1 + i) by simp [wdW, List.getD_eq_getElem?_getD, hi]]; exact h hi
  intro d
  induction d with
  | zero =>
    intro i fuel e1 e2 hj
    cases fuel with
    | zero => omega
    | succ fu =>
      have le := inw i (by omega) hj
      show f_X11_wordAt_19b k5 (f_X11_wordAt_19 k5 fu) (nI s) (nI e) x3 (nI p) (nI i) B = _
      unfold f_X11_wordAt_19b f_X11_wordAt_60
      have lt := wd_lt (p + 1 + i) (by omega)
      rw [nI_add, if_pos (nI_ge_t (by omega) (by omega)), if_pos (by rw [show s + i = e by omega]), nI_1, nI_add, gd_t (by omega) (by omega), ix_nI (by omega), h1 _ (by omega)]
      by_cases c : wdN (p + 1 + i) = 32
      · have pe : p' = p + 1 + i := by
          rcases Nat.lt_or_ge (p + 1 + i) p' with z | z
          · exact absurd c (hno _ (by omega) z)
          · omega
        rw [c, if_pos (show nI 32 = 32 from rfl), if_pos]
        exact iff.mpr ⟨by omega, fun j hj2 => (hj j (by omega)).symm⟩
      · rw [if_neg (show ¬ nI (wdN (p + 1 + i)) = 32 from fun q => c ((eqc (k := 32) lt (by omega)).mp q)), go, if_neg]
        intro q
        have := (iff.mp q).1
        rw [show p + 1 + i = p' by omega] at c
        exact c h32
  | succ d ih =>
    intro i fuel e1 e2 hj
    cases fuel with
    | zero => omega
    | succ fu =>
      have le := inw i (by omega) hj
      have lt := wd_lt (p + 1 + i) (by omega)
      have lb := hb2 (s + i) (by omega)
      show f_X11_wordAt_19b k5 (f_X11_wordAt_19 k5 fu) (nI s) (nI e) x3 (nI p) (nI i) B = _
      unfold f_X11_wordAt_19b f_X11_wordAt_60
      rw [nI_add, if_neg (nI_ge_f (by omega) (by omega)), nI_1, nI_add, gd_t (by omega) (by omega), gd_t (by omega) (by omega), ix_nI (by omega), ix_nI (by omega), h1 _ (by omega), hb _ (by omega)]
      by_cases c : wdN (p + 1 + i) = b (s + i)
      · rw [if_pos (by rw [c]), nm_x, nI_1]
        refine ih (i + 1) fu (by omega) (by omega) fun j hj2 => ?_
        by_cases z : j = i
        · rw [z]; exact c
        · exact hj j (by omega)
      · rw [if_neg (fun q => c ((eqc lt lb).mp q)), if_neg (fun q => by have := (nI_inj (by omega) (by omega)).mp q; omega), go, if_neg]
        intro q
        obtain ⟨q1, q2⟩ := iff.mp q
        exact c (q2 i (by omega)).symm
theorem F_w5 (h1 : ∀ i, i < 93 → B 251 i = nI (wdN i)) (hb : ∀ i, i < n → B 250 i = nI (b i)) (hb2 : ∀ i, i < n → b i < 256) (hn : n ≤ 400) (hs : s ≤ e) (he : e ≤ n) (hw : ∀ i, s ≤ i → i < e → b i ≠ 32) : ∀ (ps : List Nat) (p k fuel : Nat), okCh p ps = true → ps.length < fuel → f_X11_wordAt_5 fuel (nI s) (nI e) (nI k - 1) (nI p) B = some (fnd (fun w => decide (wl b s e = w)) k (chW2 p ps), B) := by
  intro ps
  induction ps with
  | nil =>
    intro p k fuel h2 h3
    cases fuel with
    | zero => omega
    | succ fu =>
      have ep := of_decide_eq_true h2
      subst ep
      show f_X11_wordAt_5b (f_X11_wordAt_5 fu) (nI s) (nI e) (nI k - 1) (nI 92) B = _
      unfold f_X11_wordAt_5b
      rw [if_pos (show (92 : Int32) ≤ nI 92 from nI_ge_t (a := 92) (by omega) (by omega))]
      rfl
  | cons p' ps ih =>
    intro p k fuel h2 h3
    cases fuel with
    | zero => omega
    | succ fu =>
      unfold okCh at h2
      simp only [Bool.and_eq_true, decide_eq_true_eq] at h2
      obtain ⟨⟨⟨⟨a1, a2⟩, a3⟩, a4⟩, a5⟩ := h2
      show f_X11_wordAt_5b (f_X11_wordAt_5 fu) (nI s) (nI e) (nI k - 1) (nI p) B = _
      unfold f_X11_wordAt_5b
      rw [if_neg (show ¬ (92 : Int32) ≤ nI p from nI_ge_f (a := 92) (by omega) (by omega)), nm_x, show nI k - 1 + 1 = nI k from i32_sub_add _ _]
      rw [show (0 : Int32) = nI 0 from rfl, F_w19 h1 hb hb2 hn hs he hw (f_X11_wordAt_5 fu) (nI k) a1 a2 a3 (fun j q1 q2 => by
        have := List.all_eq_true.mp a4 (j - (p + 1)) (List.mem_range.mpr (by omega))
        rw [show p + 1 + (j - (p + 1)) = j by omega] at this
        simpa using this) (e - s) 0 FU (by omega) (by unfold FU; omega) (fun j hj => absurd hj (Nat.not_lt_zero j))]
      show _ = some (if decide (wl b s e = wdW p p') = true then nI k else fnd _ (k + 1) (chW2 p' ps), B)
      by_cases c : wl b s e = wdW p p'
      · rw [if_pos c, if_pos (decide_eq_true c)]
      · rw [if_neg c, if_neg (fun q => c (of_decide_eq_true q))]
        have := ih p' (k + 1) fu a5 (by simp at h3; omega)
        rw [← nI_1, i32_add_sub] at this
        exact this
theorem F_wordAt (h1 : ∀ i, i < 93 → B 251 i = nI (wdN i)) (hb : ∀ i, i < n → B 250 i = nI (b i)) (hb2 : ∀ i, i < n → b i < 256) (hn : n ≤ 400) (hs : s ≤ e) (he : e ≤ n) (hw : ∀ i, s ≤ i → i < e → b i ≠ 32) : f_X11_wordAt (nI s) (nI e) B = some (fnd (fun w => decide (wl b s e = w)) 0 (lawW ++ wilW), B) := by
  have := F_w5 h1 hb hb2 hn hs he hw blL 0 0 FU bl_ok (by unfold FU; decide)
  rw [bl_eq] at this
  exact this
end FWORD
