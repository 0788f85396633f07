/-! ===== one token on both sides ===== -/
def fno {α : Type} (q : α → Bool) : Nat → List α → Option Nat
  | _, [] => none
  | k, a :: r => if q a = true then some k else fno q (k + 1) r
def o32 : Option Nat → Int32
  | none => -1
  | some k => nI k
theorem fnd_fno {α : Type} (q : α → Bool) : ∀ (l : List α) (k : Nat), fnd q k l = o32 (fno q k l) := by
  intro l
  induction l with
  | nil => intro k; rfl
  | cons a l ih =>
    intro k
    unfold fnd fno
    by_cases c : q a = true
    · rw [if_pos c, if_pos c]; rfl
    · rw [if_neg c, if_neg c]; exact ih (k + 1)
theorem fno_lt {α : Type} (q : α → Bool) : ∀ (l : List α) (k j : Nat), fno q k l = some j → k ≤ j ∧ j < k + l.length := by
  intro l
  induction l with
  | nil => intro k j h; cases h
  | cons a l ih =>
    intro k j h
    unfold fno at h
    by_cases c : q a = true
    · rw [if_pos c] at h
      cases h
      simp
    · rw [if_neg c] at h
      have := ih (k + 1) j h
      simp only [List.length_cons]
      omega
theorem fno_app {α : Type} (q : α → Bool) : ∀ (l m : List α) (k : Nat), fno q k (l ++ m) = match fno q k l with
    | some j => some j
    | none => fno q (k + l.length) m := by
  intro l
  induction l with
  | nil => intro m k; rfl
  | cons a l ih =>
    intro m k
    rw [List.cons_append, List.length_cons]
    show (if q a = true then some k else fno q (k + 1) (l ++ m)) = match (if q a = true then some k else fno q (k + 1) l) with
      | some j => some j
      | none => fno q (k + (l.length + 1)) m
    by_cases c : q a = true
    · rw [if_pos c, if_pos c]
    · rw [if_neg c, if_neg c, ih m (k + 1), show k + 1 + l.length = k + (l.length + 1) by omega]
theorem fno_add {α : Type} (q : α → Bool) : ∀ (l : List α) (k d : Nat), fno q (k + d) l = (fno q k l).map (· + d) := by
  intro l
  induction l with
  | nil => intro k d; rfl
  | cons a l ih =>
    intro k d
    unfold fno
    by_cases c : q a = true
    · rw [if_pos c, if_pos c]; rfl
    · rw [if_neg c, if_neg c, show k + d + 1 = k + 1 + d by omega]; exact ih (k + 1) d
def wq (n : Nat) (b : Nat → Nat) (s : Nat) (w : List Nat) : Bool := decide (wl b s (wE n b s) = w)
/-- the token at s: 0 the end, 1 a word, 2 a number, 3 a sign, 4 another one -/
def tokS (n : Nat) (b : Nat → Nat) (r0 s : Nat) : Nat × Nat :=
  if isW (b s) = true then (match fno (wq n b s) 0 (wds r0) with
    | some k => (1, k)
    | none => (4, 0))
  else if isD (b s) = true then (if dE n b s - s ≤ 4 then (2, nvF b s (dE n b s - s)) else (4, 0))
  else if (sgs r0).contains (b s) = true then (3, b s) else (4, 0)
def tok (n : Nat) (b : Nat → Nat) (r0 i : Nat) : Nat × Nat := if ts n b r0 i < n then tokS n b r0 (ts n b r0 i) else (0, 0)
section TOK
variable {A B : Mm} {n r0 m i : Nat} {b : Nat → Nat}
theorem tK_tok {s : Nat} : tK n b r0 s = nI (tokS n b r0 s).1 ∧ ((tokS n b r0 s).1 ≠ 4 → tV n b r0 s = nI (tokS n b r0 s).2) ∧ (tokS n b r0 s).1 ≠ 0 := by
  unfold tK tV tokS
  by_cases z1 : isW (b s) = true
  · rw [if_pos z1, if_pos z1, if_pos z1]
    have e : tW n b r0 s = o32 (fno (wq n b s) 0 (wds r0)) := fnd_fno _ _ _
    rw [e]
    cases h : fno (wq n b s) 0 (wds r0) with
    | none => exact ⟨rfl, fun q => absurd rfl q, by show (4 : Nat) ≠ 0; decide⟩
    | some k =>
      have := fno_lt _ _ _ _ h
      have hl : (wds r0).length ≤ 15 := by unfold wds; split <;> decide
      refine ⟨?_, fun _ => rfl, by show (1 : Nat) ≠ 0; decide⟩
      show (if nI k = -1 then (4 : Int32) else 1) = nI 1
      rw [if_neg (of_eq_false (nI_n1 (by omega)))]
      rfl
  · rw [if_neg z1, if_neg z1, if_neg z1]
    by_cases z2 : isD (b s) = true
    · rw [if_pos z2, if_pos z2, if_pos z2]
      by_cases z3 : dE n b s - s ≤ 4
      · rw [if_pos z3, if_pos z3]; exact ⟨rfl, fun _ => rfl, by show (2 : Nat) ≠ 0; decide⟩
      · rw [if_neg z3, if_neg z3]; exact ⟨rfl, fun q => absurd rfl q, by decide⟩
    · rw [if_neg z2, if_neg z2, if_neg z2]
      by_cases z3 : (sgs r0).contains (b s) = true
      · rw [if_pos z3, if_pos z3]; exact ⟨rfl, fun _ => rfl, by show (3 : Nat) ≠ 0; decide⟩
      · rw [if_neg z3, if_neg z3]; exact ⟨rfl, fun q => absurd rfl q, by decide⟩
theorem ts_mono (w : WB n b) {i : Nat} (h : ts n b r0 i < n) : ts n b r0 i < ts n b r0 (i + 1) := by
  have h1 := (en_gt (r0 := r0) w h).1
  have h2 := (rn_ge (fun j => isB (b j)) (n - tEn n b r0 (ts n b r0 i)) (tEn n b r0 (ts n b r0 i))).1
  have : tEn n b r0 (ts n b r0 i) ≤ ts n b r0 (i + 1) := h2
  omega
/-- what the class knows of its i-th token -/
theorem TK.at (h : TK A n b r0 m) (hi : i ≤ m) : A (r0 + 1) i = nI (tok n b r0 i).1 ∧ (((tok n b r0 i).1 = 1 ∨ (tok n b r0 i).1 = 2 ∨ (tok n b r0 i).1 = 3) → A (r0 + 2) i = nI (tok n b r0 i).2) ∧ A (r0 + 3) i = nI (if ts n b r0 i < n then ts n b r0 i else n) ∧ ((tok n b r0 i).1 = 0 ↔ i = m) := by
  obtain ⟨h1, h2, h3, h4, h5, h6⟩ := h
  by_cases c : i < m
  · obtain ⟨a1, a2, a3, a4⟩ := h3 i c
    obtain ⟨k1, k2, k3⟩ := tK_tok (n := n) (b := b) (r0 := r0) (s := ts n b r0 i)
    unfold tok
    rw [if_pos a1, if_pos a1]
    refine ⟨by rw [a2, k1], fun q => ?_, a4, ⟨fun q => absurd q k3, fun q => by omega⟩⟩
    rw [a3]
    exact k2 (by omega)
  · have e : i = m := by omega
    subst e
    unfold tok
    rw [if_neg (by omega), if_neg (by omega)]
    refine ⟨h5, fun q => ?_, h6, ⟨fun _ => rfl, fun _ => rfl⟩⟩
    have q : (0 : Nat) = 1 ∨ (0 : Nat) = 2 ∨ (0 : Nat) = 3 := q
    omega
end TOK
