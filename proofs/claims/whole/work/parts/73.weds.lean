/-! ===== by how few weddings a deed can be written ===== -/
def fiI (g : Nat → Nat → Bool) (a : Nat) : Nat → Nat → Option Nat
  | 0, _ => none
  | d + 1, b => if g a b = true then some b else fiI g a d (b + 1)
def fiO (N : Nat) (g : Nat → Nat → Bool) : Nat → Nat → Option (Nat × Nat)
  | 0, _ => none
  | d + 1, a => match fiI g a (N - (a + 1)) (a + 1) with
    | some b => some (a, b)
    | none => fiO N g d (a + 1)
/-- the first pair for which something holds -/
theorem search {ρ : Type} {N : Nat} (hN : N ≤ 12) (g : Nat → Nat → Bool) (Inv : Mm → Prop) (R : Option (Nat × Nat) → ρ → Prop) (outer : Nat → Nat → Mm → ρ) (inner : Nat → Nat → Nat → Nat → Mm → ρ)
    (i1 : ∀ fo fu a b A, Inv A → a < b → b < N → g a b = false → ∃ A', Inv A' ∧ inner fo (fu + 1) a b A = inner fo fu a (b + 1) A')
    (i2 : ∀ fo fu a b A, Inv A → a < b → b < N → g a b = true → R (some (a, b)) (inner fo (fu + 1) a b A))
    (i3 : ∀ fo fu a A, Inv A → a < N → inner fo (fu + 1) a N A = outer fo (a + 1) A)
    (o1 : ∀ fo a A, Inv A → a < N → outer (fo + 1) a A = inner fo FU a (a + 1) A)
    (o2 : ∀ fo A, Inv A → R none (outer (fo + 1) N A)) :
    ∀ (d a fo : Nat) (A : Mm), a + d = N → d < fo → Inv A → R (fiO N g d a) (outer fo a A) := by
  have key : ∀ (fo a d b fu : Nat) (A : Mm), b + d = N → d < fu → a < b → Inv A → (∃ b', fiI g a d b = some b' ∧ R (some (a, b')) (inner fo fu a b A)) ∨ (fiI g a d b = none ∧ ∃ A', Inv A' ∧ inner fo fu a b A = outer fo (a + 1) A') := by
    intro fo a d
    induction d with
    | zero =>
      intro b fu A h1 h2 h3 hA
      cases fu with
      | zero => omega
      | succ fu =>
        have e : b = N := by omega
        subst e
        exact Or.inr ⟨rfl, A, hA, i3 fo fu a A hA h3⟩
    | succ d ih =>
      intro b fu A h1 h2 h3 hA
      cases fu with
      | zero => omega
      | succ fu =>
        unfold fiI
        by_cases c : g a b = true
        · rw [if_pos c]
          exact Or.inl ⟨b, rfl, i2 fo fu a b A hA h3 (by omega) c⟩
        · rw [if_neg c]
          obtain ⟨A', k1, k2⟩ := i1 fo fu a b A hA h3 (by omega) (eq_false_of_ne_true c)
          rw [k2]
          exact ih (b + 1) fu A' (by omega) (by omega) (by omega) k1
  intro d
  induction d with
  | zero =>
    intro a fo A h1 h2 hA
    cases fo with
    | zero => omega
    | succ fo =>
      have e : a = N := by omega
      subst e
      exact o2 fo A hA
  | succ d ih =>
    intro a fo A h1 h2 hA
    cases fo with
    | zero => omega
    | succ fo =>
      unfold fiO
      rw [o1 fo a A hA (by omega)]
      rcases key fo a (N - (a + 1)) (a + 1) FU A (by omega) (by unfold FU; omega) (by omega) hA with ⟨b', e, k⟩ | ⟨e, A', k1, k2⟩
      · rw [e]
        exact k
      · rw [e, k2]
        exact ih (a + 1) fo A' (by omega) (by omega) k1
def wrM (P : PP) (D : DD) (p : Nat) (x : Int32) : Bool := decide (x &&& (letS P D p ^^^ (-1)) = 0)
def g1M (P : PP) (p : Nat) (x : Int32) (D : DD) (a b : Nat) : Bool := mayW P D a b && wrM P (jnD D a b) p x
def seM (P : PP) (p : Nat) (x : Int32) (D : DD) (lo : Nat) : Option (Nat × Nat) := fiO (pN P) (g1M P p x D) (pN P - lo) lo
def g2M (P : PP) (p : Nat) (x : Int32) (D : DD) (a b : Nat) : Bool := mayW P D a b && (seM P p x (jnD D a b) (a + 1)).isSome
theorem sp_jn {P : PP} {D : DD} {a b : Nat} (hm : mayW P D a b = true) : spD (jnD D a b) a b = D := by
  obtain ⟨c0, -, -, c3, c4, -⟩ := mayW_of hm
  refine Prod.ext ?_ rfl
  funext k i
  by_cases c : k = 4
  · subst c
    show dSp (spD (jnD D a b) a b) i = dSp D i
    rw [sp_sp, jn_sp]
    by_cases c1 : i = b
    · rw [if_pos c1, c1, c4]
    · rw [if_neg c1, if_neg c1]
      by_cases c2 : i = a
      · rw [if_pos c2, c2, c3]
      · rw [if_neg c2, if_neg c2]
  · show un (un (un (un D.1 4 a (b + 1)) 4 b (a + 1)) 4 a 0) 4 b 0 k i = D.1 k i
    unfold un
    rw [if_neg (fun e => c e.1), if_neg (fun e => c e.1), if_neg (fun e => c e.1), if_neg (fun e => c e.1)]
section WEDS
variable {P : PP} {D : DD} {T : TT} {W : Nat → Int32}
theorem C_isWritable {A : Mm} (h : RK (fun j => A (166 + j)) P D) (hP : WFP P) (hD : WFD P D) {p : Nat} (hp : p < pN P) (x : Int32) : f_X7_isWritable (nI p) x A = some (if wrM P D p x = true then 1 else 0, A) := by
  have hN := hP.1
  unfold f_X7_isWritable wrM
  rw [C_writableBy h hP hD (by omega)]
  simp only [bind_x]
  by_cases c : x &&& (letS P D p ^^^ (-1)) = 0
  · rw [if_pos c, if_pos (decide_eq_true c)]
  · rw [if_neg c, if_neg (fun e => c (of_decide_eq_true e))]
theorem F_canWD {B : Mm} (h : RB B P D) (hP : WFP P) (hD : WFD P D) {p : Nat} (hp : p < pN P) (x : Int32) : f_X11_canWriteDeed (nI p) x B = some (if wrM P D p x = true then 1 else 0, B) := by
  unfold f_X11_canWriteDeed wrM
  rw [F_lettersOf h.1 h.2.1 h.2.2 hP hD hp]
  simp only [bind_x]
  by_cases c : x &&& (letS P D p ^^^ (-1)) = 0
  · rw [if_pos c, if_pos (decide_eq_true c)]
  · rw [if_neg c, if_neg (fun e => c (of_decide_eq_true e))]
def inC (S : Mm) (P : PP) (D : DD) (A : Mm) : Prop := RK (fun j => A (166 + j)) P D ∧ ∀ k, k ≠ 174 → k ≠ 175 → A k = S k
def inF (S : Mm) (P : PP) (D : DD) (B : Mm) : Prop := RB B P D ∧ ∀ k, k ≠ 240 → k ≠ 249 → B k = S k
/-- wed for once in the class, in the reference -/
theorem C_wedOn {A : Mm} {a b : Nat} (h : RK (fun j => A (166 + j)) P D) (hN : pN P ≤ 12) (hm : mayW P D a b = true) : ∃ A', f_X1_join 166 (nI a) (nI b) A = some A' ∧ inC A P (jnD D a b) A' := by
  obtain ⟨A', e, g1, g2⟩ := C_join (c := 166) h hN hm
  exact ⟨A', e, g1, g2⟩
theorem C_wedOff {A : Mm} {a b : Nat} (h : RK (fun j => A (166 + j)) P (jnD D a b)) (hN : pN P ≤ 12) (hD : WFD P D) (hm : mayW P D a b = true) : ∃ A', f_X1_separate 166 (nI a) (nI b) A = some A' ∧ inC A P D A' := by
  obtain ⟨c0, c1, c2, c3, c4, -⟩ := mayW_of hm
  obtain ⟨A', e, g1, g2⟩ := C_separate (c := 166) h hN (WFD_jn hD hm) (liv_lt c1) (liv_lt c2) (by rw [jn_sp, if_neg c0, if_pos rfl]) (by rw [jn_sp, if_pos rfl])
  rw [sp_jn hm] at g1
  exact ⟨A', e, g1, g2⟩
theorem F_wedOff {B : Mm} {a b : Nat} (h : RB B P (jnD D a b)) (hP : WFP P) (hD : WFD P D) (hm : mayW P D a b = true) : ∃ B', f_X11_findsKin (uM (uM B 240 (112 + a) 0) 240 (112 + b) 0) = some B' ∧ inF B P D B' := by
  obtain ⟨c0, c1, c2, c3, c4, -⟩ := mayW_of hm
  have e0 : sSp (sSp (jnD D a b) a 0) b 0 = D := sp_jn hm
  obtain ⟨B', e, g1, g2⟩ := F_sp2 (a := a) (b := b) (u := 0) (v := 0) h hP (liv_lt c1) (liv_lt c2) (by rw [e0]; exact hD)
  rw [e0] at g1
  exact ⟨B', e, g1, g2⟩
def okC (S : Mm) (P : PP) (D : DD) (v : Option (Nat × Nat) → Nat → Int32) (o : Option (Nat × Nat)) (r : Option (Int32 × Mm)) : Prop := ∃ A', r = some (if o.isSome = true then 1 else 0, A') ∧ RK (fun j => A' (166 + j)) P D ∧ (∀ k, k ≠ 174 → k ≠ 175 → k ≠ 183 → A' k = S k) ∧ ∀ i, A' 183 i = v o i
def okF (S : Mm) (P : PP) (D : DD) (v : Option (Nat × Nat) → Nat → Int32) (o : Option (Nat × Nat)) (r : Option (Int32 × Mm)) : Prop := ∃ B', r = some (if o.isSome = true then 1 else 0, B') ∧ RB B' P D ∧ (∀ k, k ≠ 240 → k ≠ 249 → k ≠ 268 → B' k = S k) ∧ ∀ i, B' 268 i = v o i
def pl1 (f : Nat → Int32) : Option (Nat × Nat) → Nat → Int32
  | none => f
  | some (a, b) => upd (upd (upd f 0 1) 1 (nI a)) 2 (nI b)
def pl2 (f : Nat → Int32) : Option (Nat × Nat) → Nat → Int32
  | none => f
  | some (a, b) => upd (upd f 3 (nI a)) 4 (nI b)
def co1 (f : Nat → Int32) : Option (Nat × Nat) → Nat → Int32
  | none => f
  | some (a, b) => upd (upd f 0 (nI a)) 1 (nI b)
def co2 (f : Nat → Int32) : Option (Nat × Nat) → Nat → Int32
  | none => f
  | some (a, b) => upd (upd f 2 (nI a)) 3 (nI b)
theorem C_planOne (S : Mm) (hP : WFP P) (hD : WFD P D) {p : Nat} (hp : p < pN P) (x : Int32) : ∀ (d a fo : Nat) (A : Mm), a + d = pN P → d < fo → inC S P D A → okC S P D (pl1 (S 183)) (fiO (pN P) (g1M P p x D) d a) (f_X7_planOne_2 fo (nI p) x (nI a) A) := by
  have hN := hP.1
  refine search hN (g1M P p x D) (inC S P D) (okC S P D (pl1 (S 183))) (fun fo a A => f_X7_planOne_2 fo (nI p) x (nI a) A) (fun fo fu a b A => f_X7_planOne_18 (f_X7_planOne_2 fo) fu (nI p) x (nI a) (nI b) A) ?_ ?_ ?_ ?_ ?_
  · intro fo fu a b A hA h1 h2 hg
    have k3 : A 166 3 = nI (pN P) := hA.1.1.2.2.2
    show ∃ A', inC S P D A' ∧ f_X7_planOne_18b (f_X7_planOne_2 fo) (f_X7_planOne_18 (f_X7_planOne_2 fo) fu) (nI p) x (nI a) (nI b) A = _
    unfold f_X7_planOne_18b f_X7_planOne_106
    rw [k3, if_neg (nI_ge_f (by omega) (by omega)), C_mayWed (c := 166) hA.1 hP hD (by omega) (by omega)]
    simp only [bind_x]
    by_cases m : mayW P D a b = true
    · have w : ¬ wrM P (jnD D a b) p x = true := fun e => by
        unfold g1M at hg
        rw [m, e] at hg
        cases hg
      obtain ⟨A1, e1, q1, q2⟩ := C_wedOn hA.1 hN m
      obtain ⟨A2, e2, q3, q4⟩ := C_wedOff q1 hN hD m
      rw [if_pos m, if_neg (by decide), e1]
      simp only [bind_x]
      rw [C_isWritable q1 hP (WFD_jn hD m) hp, if_neg w]
      simp only [bind_x]
      rw [e2]
      simp only [bind_x]
      rw [if_pos trivial, nm_x, nI_1]
      exact ⟨A2, ⟨q3, fun k c e => by rw [q4 k c e, q2 k c e, hA.2 k c e]⟩, rfl⟩
    · rw [if_neg m, if_pos rfl, nm_x, nI_1]
      exact ⟨A, hA, rfl⟩
  · intro fo fu a b A hA h1 h2 hg
    have k3 : A 166 3 = nI (pN P) := hA.1.1.2.2.2
    show okC S P D (pl1 (S 183)) (some (a, b)) (f_X7_planOne_18b (f_X7_planOne_2 fo) (f_X7_planOne_18 (f_X7_planOne_2 fo) fu) (nI p) x (nI a) (nI b) A)
    have mw := (Bool.and_eq_true _ _).mp hg
    have m : mayW P D a b = true := mw.1
    unfold f_X7_planOne_18b
    rw [k3, if_neg (nI_ge_f (by omega) (by omega)), C_mayWed (c := 166) hA.1 hP hD (by omega) (by omega)]
    simp only [bind_x]
    obtain ⟨A1, e1, q1, q2⟩ := C_wedOn hA.1 hN m
    obtain ⟨A2, e2, q3, q4⟩ := C_wedOff q1 hN hD m
    rw [if_pos m, if_neg (by decide), e1]
    simp only [bind_x]
    rw [C_isWritable q1 hP (WFD_jn hD m) hp, if_pos mw.2]
    simp only [bind_x]
    rw [e2]
    simp only [bind_x]
    rw [if_neg (of_eq_false i10)]
    have s183 : A2 183 = S 183 := by rw [q4 _ (by decide) (by decide), q2 _ (by decide) (by decide), hA.2 _ (by decide) (by decide)]
    simp only [nm_x]
    refine ⟨_, rfl, ?_, fun k c e f => ?_, fun i => ?_⟩
    · exact RKc_off (RKc_off (RKc_off q3 (by omega)) (by omega)) (by omega)
    · rw [uM_off _ _ _ f, uM_off _ _ _ f, uM_off _ _ _ f, q4 k c e, q2 k c e, hA.2 k c e]
    · rw [uM_row, uM_row, uM_row, s183]
      rfl
  · intro fo fu a A hA h1
    have k3 : A 166 3 = nI (pN P) := hA.1.1.2.2.2
    show f_X7_planOne_18b (f_X7_planOne_2 fo) (f_X7_planOne_18 (f_X7_planOne_2 fo) fu) (nI p) x (nI a) (nI (pN P)) A = _
    unfold f_X7_planOne_18b
    rw [k3, if_pos (nI_ge_t (Nat.le_refl _) (by omega)), nm_x, nI_1]
  · intro fo a A hA h1
    have k3 : A 166 3 = nI (pN P) := hA.1.1.2.2.2
    show f_X7_planOne_2b (f_X7_planOne_2 fo) (nI p) x (nI a) A = _
    unfold f_X7_planOne_2b
    rw [k3, if_neg (nI_ge_f h1 (by omega)), nm_x, nI_1]
  · intro fo A hA
    have k3 : A 166 3 = nI (pN P) := hA.1.1.2.2.2
    show okC S P D (pl1 (S 183)) none (f_X7_planOne_2b (f_X7_planOne_2 fo) (nI p) x (nI (pN P)) A)
    unfold f_X7_planOne_2b
    rw [k3, if_pos (nI_ge_t (Nat.le_refl _) (by omega))]
    exact ⟨A, rfl, hA.1, fun k c e _ => hA.2 k c e, fun i => by rw [hA.2 _ (by decide) (by decide)]; rfl⟩
theorem C_planSecond (S : Mm) (hP : WFP P) (hD : WFD P D) {p : Nat} (hp : p < pN P) (x : Int32) : ∀ (d a fo : Nat) (A : Mm), a + d = pN P → d < fo → inC S P D A → okC S P D (pl2 (S 183)) (fiO (pN P) (g1M P p x D) d a) (f_X7_planSecond_5 fo (nI p) x (nI a) A) := by
  have hN := hP.1
  refine search hN (g1M P p x D) (inC S P D) (okC S P D (pl2 (S 183))) (fun fo a A => f_X7_planSecond_5 fo (nI p) x (nI a) A) (fun fo fu a b A => f_X7_planSecond_23 (f_X7_planSecond_5 fo) fu (nI p) x (nI a) (nI b) A) ?_ ?_ ?_ ?_ ?_
  · intro fo fu a b A hA h1 h2 hg
    have k3 : A 166 3 = nI (pN P) := hA.1.1.2.2.2
    show ∃ A', inC S P D A' ∧ f_X7_planSecond_23b (f_X7_planSecond_5 fo) (f_X7_planSecond_23 (f_X7_planSecond_5 fo) fu) (nI p) x (nI a) (nI b) A = _
    unfold f_X7_planSecond_23b f_X7_planSecond_108
    rw [k3, if_neg (nI_ge_f (by omega) (by omega)), C_mayWed (c := 166) hA.1 hP hD (by omega) (by omega)]
    simp only [bind_x]
    by_cases m : mayW P D a b = true
    · have w : ¬ wrM P (jnD D a b) p x = true := fun e => by
        unfold g1M at hg
        rw [m, e] at hg
        cases hg
      obtain ⟨A1, e1, q1, q2⟩ := C_wedOn hA.1 hN m
      obtain ⟨A2, e2, q3, q4⟩ := C_wedOff q1 hN hD m
      rw [if_pos m, if_neg (by decide), e1]
      simp only [bind_x]
      rw [C_isWritable q1 hP (WFD_jn hD m) hp, if_neg w]
      simp only [bind_x]
      rw [e2]
      simp only [bind_x]
      rw [if_pos trivial, nm_x, nI_1]
      exact ⟨A2, ⟨q3, fun k c e => by rw [q4 k c e, q2 k c e, hA.2 k c e]⟩, rfl⟩
    · rw [if_neg m, if_pos rfl, nm_x, nI_1]
      exact ⟨A, hA, rfl⟩
  · intro fo fu a b A hA h1 h2 hg
    have k3 : A 166 3 = nI (pN P) := hA.1.1.2.2.2
    show okC S P D (pl2 (S 183)) (some (a, b)) (f_X7_planSecond_23b (f_X7_planSecond_5 fo) (f_X7_planSecond_23 (f_X7_planSecond_5 fo) fu) (nI p) x (nI a) (nI b) A)
    have mw := (Bool.and_eq_true _ _).mp hg
    have m : mayW P D a b = true := mw.1
    unfold f_X7_planSecond_23b
    rw [k3, if_neg (nI_ge_f (by omega) (by omega)), C_mayWed (c := 166) hA.1 hP hD (by omega) (by omega)]
    simp only [bind_x]
    obtain ⟨A1, e1, q1, q2⟩ := C_wedOn hA.1 hN m
    obtain ⟨A2, e2, q3, q4⟩ := C_wedOff q1 hN hD m
    rw [if_pos m, if_neg (by decide), e1]
    simp only [bind_x]
    rw [C_isWritable q1 hP (WFD_jn hD m) hp, if_pos mw.2]
    simp only [bind_x]
    rw [e2]
    simp only [bind_x]
    rw [if_neg (of_eq_false i10)]
    have s183 : A2 183 = S 183 := by rw [q4 _ (by decide) (by decide), q2 _ (by decide) (by decide), hA.2 _ (by decide) (by decide)]
    simp only [nm_x]
    refine ⟨_, rfl, ?_, fun k c e f => ?_, fun i => ?_⟩
    · exact RKc_off (RKc_off q3 (by omega)) (by omega)
    · rw [uM_off _ _ _ f, uM_off _ _ _ f, q4 k c e, q2 k c e, hA.2 k c e]
    · rw [uM_row, uM_row, s183]
      rfl
  · intro fo fu a A hA h1
    have k3 : A 166 3 = nI (pN P) := hA.1.1.2.2.2
    show f_X7_planSecond_23b (f_X7_planSecond_5 fo) (f_X7_planSecond_23 (f_X7_planSecond_5 fo) fu) (nI p) x (nI a) (nI (pN P)) A = _
    unfold f_X7_planSecond_23b
    rw [k3, if_pos (nI_ge_t (Nat.le_refl _) (by omega)), nm_x, nI_1]
  · intro fo a A hA h1
    have k3 : A 166 3 = nI (pN P) := hA.1.1.2.2.2
    show f_X7_planSecond_5b (f_X7_planSecond_5 fo) (nI p) x (nI a) A = _
    unfold f_X7_planSecond_5b
    rw [k3, if_neg (nI_ge_f h1 (by omega)), nm_x, nI_1]
  · intro fo A hA
    have k3 : A 166 3 = nI (pN P) := hA.1.1.2.2.2
    show okC S P D (pl2 (S 183)) none (f_X7_planSecond_5b (f_X7_planSecond_5 fo) (nI p) x (nI (pN P)) A)
    unfold f_X7_planSecond_5b
    rw [k3, if_pos (nI_ge_t (Nat.le_refl _) (by omega))]
    exact ⟨A, rfl, hA.1, fun k c e _ => hA.2 k c e, fun i => by rw [hA.2 _ (by decide) (by decide)]; rfl⟩
def pl3 (P : PP) (p : Nat) (x : Int32) (D : DD) (f : Nat → Int32) : Option (Nat × Nat) → Nat → Int32
  | none => f
  | some (a, b) => upd (upd (upd (pl2 f (seM P p x (jnD D a b) (a + 1))) 0 2) 1 (nI a)) 2 (nI b)
def okT (S : Mm) (P : PP) (D : DD) (v : Option (Nat × Nat) → Nat → Int32) (o : Option (Nat × Nat)) (r : Option Mm) : Prop := ∃ A', r = some A' ∧ RK (fun j => A' (166 + j)) P D ∧ (∀ k, k ≠ 174 → k ≠ 175 → k ≠ 183 → A' k = S k) ∧ ∀ i, A' 183 i = v o i
theorem C_second (hP : WFP P) (hD : WFD P D) {p : Nat} (hp : p < pN P) (x : Int32) {a : Nat} (ha : a < pN P) {A : Mm} (h : RK (fun j => A (166 + j)) P D) : okC A P D (pl2 (A 183)) (seM P p x D (a + 1)) (f_X7_planSecond (nI p) x (nI a) A) := by
  have hN := hP.1
  unfold f_X7_planSecond
  rw [nm_x, nI_1]
  exact C_planSecond A hP hD hp x (pN P - (a + 1)) (a + 1) FU A (by omega) (by unfold FU; omega) ⟨h, fun _ _ _ => rfl⟩
theorem C_planTwo (S : Mm) (hP : WFP P) (hD : WFD P D) {p : Nat} (hp : p < pN P) (x : Int32) : ∀ (d a fo : Nat) (A : Mm), a + d = pN P → d < fo → inC S P D A → okT S P D (pl3 P p x D (S 183)) (fiO (pN P) (g2M P p x D) d a) (f_X7_planTwo_2 fo (nI p) x (nI a) A) := by
  have hN := hP.1
  refine search hN (g2M P p x D) (inC S P D) (okT S P D (pl3 P p x D (S 183))) (fun fo a A => f_X7_planTwo_2 fo (nI p) x (nI a) A) (fun fo fu a b A => f_X7_planTwo_18 (f_X7_planTwo_2 fo) fu (nI p) x (nI a) (nI b) A) ?_ ?_ ?_ ?_ ?_
  · intro fo fu a b A hA h1 h2 hg
    have k3 : A 166 3 = nI (pN P) := hA.1.1.2.2.2
    show ∃ A', inC S P D A' ∧ f_X7_planTwo_18b (f_X7_planTwo_2 fo) (f_X7_planTwo_18 (f_X7_planTwo_2 fo) fu) (nI p) x (nI a) (nI b) A = _
    unfold f_X7_planTwo_18b f_X7_planTwo_106
    rw [k3, if_neg (nI_ge_f (by omega) (by omega)), C_mayWed (c := 166) hA.1 hP hD (by omega) (by omega)]
    simp only [bind_x]
    by_cases m : mayW P D a b = true
    · have w : ¬ (seM P p x (jnD D a b) (a + 1)).isSome = true := fun e => by
        unfold g2M at hg
        rw [m, e] at hg
        cases hg
      obtain ⟨A1, e1, q1, q2⟩ := C_wedOn hA.1 hN m
      obtain ⟨A3, e3, t1, t2, t3⟩ := C_second hP (WFD_jn hD m) hp x (a := a) (by omega) q1
      obtain ⟨A2, e2, q3, q4⟩ := C_wedOff t1 hN hD m
      rw [if_neg w] at e3
      have sn : seM P p x (jnD D a b) (a + 1) = none := by
        cases z : seM P p x (jnD D a b) (a + 1) with
        | none => rfl
        | some y => rw [z] at w; exact absurd rfl w
      rw [sn] at t3
      have t4 : A3 183 = A1 183 := funext t3
      rw [if_pos m, if_neg (by decide), e1]
      simp only [bind_x]
      rw [e3]
      simp only [bind_x]
      rw [e2]
      simp only [bind_x]
      rw [if_pos trivial, nm_x, nI_1]
      refine ⟨A2, ⟨q3, fun k c e => ?_⟩, rfl⟩
      by_cases z : k = 183
      · rw [z, q4 _ (by decide) (by decide), t4, q2 _ (by decide) (by decide), hA.2 _ (by decide) (by decide)]
      · rw [q4 k c e, t2 k c e z, q2 k c e, hA.2 k c e]
    · rw [if_neg m, if_pos rfl, nm_x, nI_1]
      exact ⟨A, hA, rfl⟩
  · intro fo fu a b A hA h1 h2 hg
    have k3 : A 166 3 = nI (pN P) := hA.1.1.2.2.2
    show okT S P D (pl3 P p x D (S 183)) (some (a, b)) (f_X7_planTwo_18b (f_X7_planTwo_2 fo) (f_X7_planTwo_18 (f_X7_planTwo_2 fo) fu) (nI p) x (nI a) (nI b) A)
    have mw := (Bool.and_eq_true _ _).mp hg
    have m : mayW P D a b = true := mw.1
    unfold f_X7_planTwo_18b
    rw [k3, if_neg (nI_ge_f (by omega) (by omega)), C_mayWed (c := 166) hA.1 hP hD (by omega) (by omega)]
    simp only [bind_x]
    obtain ⟨A1, e1, q1, q2⟩ := C_wedOn hA.1 hN m
    obtain ⟨A3, e3, t1, t2, t3⟩ := C_second hP (WFD_jn hD m) hp x (a := a) (by omega) q1
    obtain ⟨A2, e2, q3, q4⟩ := C_wedOff t1 hN hD m
    rw [if_pos mw.2] at e3
    rw [if_pos m, if_neg (by decide), e1]
    simp only [bind_x]
    rw [e3]
    simp only [bind_x]
    rw [e2]
    simp only [bind_x]
    rw [if_neg (of_eq_false i10)]
    have s183 : A1 183 = S 183 := by rw [q2 _ (by decide) (by decide), hA.2 _ (by decide) (by decide)]
    have t4 : A2 183 = pl2 (S 183) (seM P p x (jnD D a b) (a + 1)) := by rw [q4 _ (by decide) (by decide), ← s183]; exact funext t3
    simp only [nm_x]
    refine ⟨_, rfl, ?_, fun k c e f => ?_, fun i => ?_⟩
    · exact RKc_off (RKc_off (RKc_off q3 (by omega)) (by omega)) (by omega)
    · rw [uM_off _ _ _ f, uM_off _ _ _ f, uM_off _ _ _ f, q4 k c e, t2 k c e f, q2 k c e, hA.2 k c e]
    · rw [uM_row, uM_row, uM_row, t4]
      rfl
  · intro fo fu a A hA h1
    have k3 : A 166 3 = nI (pN P) := hA.1.1.2.2.2
    show f_X7_planTwo_18b (f_X7_planTwo_2 fo) (f_X7_planTwo_18 (f_X7_planTwo_2 fo) fu) (nI p) x (nI a) (nI (pN P)) A = _
    unfold f_X7_planTwo_18b
    rw [k3, if_pos (nI_ge_t (Nat.le_refl _) (by omega)), nm_x, nI_1]
  · intro fo a A hA h1
    have k3 : A 166 3 = nI (pN P) := hA.1.1.2.2.2
    show f_X7_planTwo_2b (f_X7_planTwo_2 fo) (nI p) x (nI a) A = _
    unfold f_X7_planTwo_2b
    rw [k3, if_neg (nI_ge_f h1 (by omega)), nm_x, nI_1]
  · intro fo A hA
    have k3 : A 166 3 = nI (pN P) := hA.1.1.2.2.2
    show okT S P D (pl3 P p x D (S 183)) none (f_X7_planTwo_2b (f_X7_planTwo_2 fo) (nI p) x (nI (pN P)) A)
    unfold f_X7_planTwo_2b
    rw [k3, if_pos (nI_ge_t (Nat.le_refl _) (by omega))]
    exact ⟨A, rfl, hA.1, fun k c e _ => hA.2 k c e, fun i => by rw [hA.2 _ (by decide) (by decide)]; rfl⟩
theorem F_second5 (S : Mm) (hP : WFP P) (hD : WFD P D) {p : Nat} (hp : p < pN P) (x : Int32) : ∀ (d a fo : Nat) (B : Mm), a + d = pN P → d < fo → inF S P D B → okF S P D (co2 (S 268)) (fiO (pN P) (g1M P p x D) d a) (f_X11_canBySecond_5 fo (nI p) x (nI a) B) := by
  have hN := hP.1
  refine search hN (g1M P p x D) (inF S P D) (okF S P D (co2 (S 268))) (fun fo a A => f_X11_canBySecond_5 fo (nI p) x (nI a) A) (fun fo fu a b A => f_X11_canBySecond_20 (f_X11_canBySecond_5 fo) fu (nI p) x (nI a) (nI b) A) ?_ ?_ ?_ ?_ ?_
  · intro fo fu a b B hB h1 h2 hg
    have k3 : B 239 6 = nI (pN P) := hB.1.1.1.1
    show ∃ A', inF S P D A' ∧ f_X11_canBySecond_20b (f_X11_canBySecond_5 fo) (f_X11_canBySecond_20 (f_X11_canBySecond_5 fo) fu) (nI p) x (nI a) (nI b) B = _
    unfold f_X11_canBySecond_20b f_X11_canBySecond_111
    rw [k3, if_neg (nI_ge_f (by omega) (by omega)), F_canWed hB.1 hP hD (by omega) (by omega)]
    simp only [bind_x]
    by_cases m : mayW P D a b = true
    · have w : ¬ wrM P (jnD D a b) p x = true := fun e => by
        unfold g1M at hg
        rw [m, e] at hg
        cases hg
      obtain ⟨B1, e1, q1, q2⟩ := F_weds hB.1 hP hD m
      obtain ⟨B2, e2, q3, q4⟩ := F_wedOff q1 hP hD m
      rw [if_pos m, if_neg (by decide), e1]
      simp only [bind_x]
      rw [F_canWD q1 hP (WFD_jn hD m) hp, if_neg w]
      simp only [bind_x]
      rw [nI_lit 112, nI_add, nI_add, gd_t (by omega) (by omega), nm_x, gd_t (by omega) (by omega), nm_x, ix_nI (by omega), ix_nI (by omega), e2]
      simp only [bind_x]
      rw [if_pos trivial, nm_x, nI_1]
      exact ⟨B2, ⟨q3, fun k c e => by rw [q4 k c e, q2 k c e, hB.2 k c e]⟩, rfl⟩
    · rw [if_neg m, if_pos rfl, nm_x, nI_1]
      exact ⟨B, hB, rfl⟩
  · intro fo fu a b B hB h1 h2 hg
    have k3 : B 239 6 = nI (pN P) := hB.1.1.1.1
    show okF S P D (co2 (S 268)) (some (a, b)) (f_X11_canBySecond_20b (f_X11_canBySecond_5 fo) (f_X11_canBySecond_20 (f_X11_canBySecond_5 fo) fu) (nI p) x (nI a) (nI b) B)
    have mw := (Bool.and_eq_true _ _).mp hg
    have m : mayW P D a b = true := mw.1
    unfold f_X11_canBySecond_20b
    rw [k3, if_neg (nI_ge_f (by omega) (by omega)), F_canWed hB.1 hP hD (by omega) (by omega)]
    simp only [bind_x]
    obtain ⟨B1, e1, q1, q2⟩ := F_weds hB.1 hP hD m
    obtain ⟨B2, e2, q3, q4⟩ := F_wedOff q1 hP hD m
    rw [if_pos m, if_neg (by decide), e1]
    simp only [bind_x]
    rw [F_canWD q1 hP (WFD_jn hD m) hp, if_pos mw.2]
    simp only [bind_x]
    rw [nI_lit 112, nI_add, nI_add, gd_t (by omega) (by omega), nm_x, gd_t (by omega) (by omega), nm_x, ix_nI (by omega), ix_nI (by omega), e2]
    simp only [bind_x]
    rw [if_neg (of_eq_false i10)]
    have s268 : B2 268 = S 268 := by rw [q4 _ (by decide) (by decide), q2 _ (by decide) (by decide), hB.2 _ (by decide) (by decide)]
    simp only [nm_x]
    refine ⟨_, rfl, ?_, fun k c e f => ?_, fun i => ?_⟩
    · exact q3.congr2 (by rw [uM_off _ _ _ (by decide), uM_off _ _ _ (by decide)]) (by rw [uM_off _ _ _ (by decide), uM_off _ _ _ (by decide)]) fun k _ _ _ _ _ => by rw [uM_off _ _ _ (by omega), uM_off _ _ _ (by omega)]
    · rw [uM_off _ _ _ f, uM_off _ _ _ f, q4 k c e, q2 k c e, hB.2 k c e]
    · rw [uM_row, uM_row, s268]
      rfl
  · intro fo fu a B hB h1
    have k3 : B 239 6 = nI (pN P) := hB.1.1.1.1
    show f_X11_canBySecond_20b (f_X11_canBySecond_5 fo) (f_X11_canBySecond_20 (f_X11_canBySecond_5 fo) fu) (nI p) x (nI a) (nI (pN P)) B = _
    unfold f_X11_canBySecond_20b
    rw [k3, if_pos (nI_ge_t (Nat.le_refl _) (by omega)), nm_x, nI_1]
  · intro fo a B hB h1
    have k3 : B 239 6 = nI (pN P) := hB.1.1.1.1
    show f_X11_canBySecond_5b (f_X11_canBySecond_5 fo) (nI p) x (nI a) B = _
    unfold f_X11_canBySecond_5b
    rw [k3, if_neg (nI_ge_f h1 (by omega)), nm_x, nI_1]
  · intro fo B hB
    have k3 : B 239 6 = nI (pN P) := hB.1.1.1.1
    show okF S P D (co2 (S 268)) none (f_X11_canBySecond_5b (f_X11_canBySecond_5 fo) (nI p) x (nI (pN P)) B)
    unfold f_X11_canBySecond_5b
    rw [k3, if_pos (nI_ge_t (Nat.le_refl _) (by omega))]
    exact ⟨B, rfl, hB.1, fun k c e _ => hB.2 k c e, fun i => by rw [hB.2 _ (by decide) (by decide)]; rfl⟩
theorem F_second (hP : WFP P) (hD : WFD P D) {p : Nat} (hp : p < pN P) (x : Int32) {a : Nat} (ha : a < pN P) {B : Mm} (h : RB B P D) : okF B P D (co2 (B 268)) (seM P p x D (a + 1)) (f_X11_canBySecond (nI p) x (nI a) B) := by
  have hN := hP.1
  unfold f_X11_canBySecond
  rw [nm_x, nI_1]
  exact F_second5 B hP hD hp x (pN P - (a + 1)) (a + 1) FU B (by omega) (by unfold FU; omega) ⟨h, fun _ _ _ => rfl⟩
theorem F_by1 (S : Mm) (hP : WFP P) (hD : WFD P D) {p : Nat} (hp : p < pN P) (x : Int32) : ∀ (d a fo : Nat) (B : Mm), a + d = pN P → d < fo → inF S P D B → okF S P D (co1 (S 268)) (fiO (pN P) (g1M P p x D) d a) (f_X11_canByWeddings_3 fo (nI p) x 1 (nI a) B) := by
  have hN := hP.1
  refine search hN (g1M P p x D) (inF S P D) (okF S P D (co1 (S 268))) (fun fo a A => f_X11_canByWeddings_3 fo (nI p) x 1 (nI a) A) (fun fo fu a b A => f_X11_canByWeddings_18 (f_X11_canByWeddings_3 fo) fu (nI p) x 1 (nI a) (nI b) A) ?_ ?_ ?_ ?_ ?_
  · intro fo fu a b B hB h1 h2 hg
    have k3 : B 239 6 = nI (pN P) := hB.1.1.1.1
    show ∃ A', inF S P D A' ∧ f_X11_canByWeddings_18b (f_X11_canByWeddings_3 fo) (f_X11_canByWeddings_18 (f_X11_canByWeddings_3 fo) fu) (nI p) x 1 (nI a) (nI b) B = _
    unfold f_X11_canByWeddings_18b f_X11_canByWeddings_71 f_X11_canByWeddings_125
    rw [k3, if_neg (nI_ge_f (by omega) (by omega)), F_canWed hB.1 hP hD (by omega) (by omega)]
    simp only [bind_x]
    by_cases m : mayW P D a b = true
    · have w : ¬ wrM P (jnD D a b) p x = true := fun e => by
        unfold g1M at hg
        rw [m, e] at hg
        cases hg
      obtain ⟨B1, e1, q1, q2⟩ := F_weds hB.1 hP hD m
      obtain ⟨B2, e2, q3, q4⟩ := F_wedOff q1 hP hD m
      rw [if_pos m, if_neg (by decide), e1]
      simp only [bind_x]
      rw [if_pos trivial, F_canWD q1 hP (WFD_jn hD m) hp, if_neg w]
      simp only [bind_x]
      rw [nI_lit 112, nI_add, nI_add, gd_t (by omega) (by omega), nm_x, gd_t (by omega) (by omega), nm_x, ix_nI (by omega), ix_nI (by omega), e2]
      simp only [bind_x]
      rw [if_pos trivial, nm_x, nI_1]
      exact ⟨B2, ⟨q3, fun k c e => by rw [q4 k c e, q2 k c e, hB.2 k c e]⟩, rfl⟩
    · rw [if_neg m, if_pos rfl, nm_x, nI_1]
      exact ⟨B, hB, rfl⟩
  · intro fo fu a b B hB h1 h2 hg
    have k3 : B 239 6 = nI (pN P) := hB.1.1.1.1
    show okF S P D (co1 (S 268)) (some (a, b)) (f_X11_canByWeddings_18b (f_X11_canByWeddings_3 fo) (f_X11_canByWeddings_18 (f_X11_canByWeddings_3 fo) fu) (nI p) x 1 (nI a) (nI b) B)
    have mw := (Bool.and_eq_true _ _).mp hg
    have m : mayW P D a b = true := mw.1
    unfold f_X11_canByWeddings_18b f_X11_canByWeddings_71
    rw [k3, if_neg (nI_ge_f (by omega) (by omega)), F_canWed hB.1 hP hD (by omega) (by omega)]
    simp only [bind_x]
    obtain ⟨B1, e1, q1, q2⟩ := F_weds hB.1 hP hD m
    obtain ⟨B2, e2, q3, q4⟩ := F_wedOff q1 hP hD m
    rw [if_pos m, if_neg (by decide), e1]
    simp only [bind_x]
    rw [if_pos trivial, F_canWD q1 hP (WFD_jn hD m) hp, if_pos mw.2]
    simp only [bind_x]
    rw [nI_lit 112, nI_add, nI_add, gd_t (by omega) (by omega), nm_x, gd_t (by omega) (by omega), nm_x, ix_nI (by omega), ix_nI (by omega), e2]
    simp only [bind_x]
    rw [if_neg (of_eq_false i10)]
    have s268 : B2 268 = S 268 := by rw [q4 _ (by decide) (by decide), q2 _ (by decide) (by decide), hB.2 _ (by decide) (by decide)]
    simp only [nm_x]
    refine ⟨_, rfl, ?_, fun k c e f => ?_, fun i => ?_⟩
    · exact q3.congr2 (by rw [uM_off _ _ _ (by decide), uM_off _ _ _ (by decide)]) (by rw [uM_off _ _ _ (by decide), uM_off _ _ _ (by decide)]) fun k _ _ _ _ _ => by rw [uM_off _ _ _ (by omega), uM_off _ _ _ (by omega)]
    · rw [uM_off _ _ _ f, uM_off _ _ _ f, q4 k c e, q2 k c e, hB.2 k c e]
    · rw [uM_row, uM_row, s268]
      rfl
  · intro fo fu a B hB h1
    have k3 : B 239 6 = nI (pN P) := hB.1.1.1.1
    show f_X11_canByWeddings_18b (f_X11_canByWeddings_3 fo) (f_X11_canByWeddings_18 (f_X11_canByWeddings_3 fo) fu) (nI p) x 1 (nI a) (nI (pN P)) B = _
    unfold f_X11_canByWeddings_18b
    rw [k3, if_pos (nI_ge_t (Nat.le_refl _) (by omega)), nm_x, nI_1]
  · intro fo a B hB h1
    have k3 : B 239 6 = nI (pN P) := hB.1.1.1.1
    show f_X11_canByWeddings_3b (f_X11_canByWeddings_3 fo) (nI p) x 1 (nI a) B = _
    unfold f_X11_canByWeddings_3b
    rw [k3, if_neg (nI_ge_f h1 (by omega)), nm_x, nI_1]
  · intro fo B hB
    have k3 : B 239 6 = nI (pN P) := hB.1.1.1.1
    show okF S P D (co1 (S 268)) none (f_X11_canByWeddings_3b (f_X11_canByWeddings_3 fo) (nI p) x 1 (nI (pN P)) B)
    unfold f_X11_canByWeddings_3b
    rw [k3, if_pos (nI_ge_t (Nat.le_refl _) (by omega))]
    exact ⟨B, rfl, hB.1, fun k c e _ => hB.2 k c e, fun i => by rw [hB.2 _ (by decide) (by decide)]; rfl⟩
def co3 (P : PP) (p : Nat) (x : Int32) (D : DD) (f : Nat → Int32) : Option (Nat × Nat) → Nat → Int32
  | none => f
  | some (a, b) => upd (upd (co2 f (seM P p x (jnD D a b) (a + 1))) 0 (nI a)) 1 (nI b)
theorem F_by2 (S : Mm) (hP : WFP P) (hD : WFD P D) {p : Nat} (hp : p < pN P) (x : Int32) : ∀ (d a fo : Nat) (B : Mm), a + d = pN P → d < fo → inF S P D B → okF S P D (co3 P p x D (S 268)) (fiO (pN P) (g2M P p x D) d a) (f_X11_canByWeddings_3 fo (nI p) x 2 (nI a) B) := by
  have hN := hP.1
  refine search hN (g2M P p x D) (inF S P D) (okF S P D (co3 P p x D (S 268))) (fun fo a A => f_X11_canByWeddings_3 fo (nI p) x 2 (nI a) A) (fun fo fu a b A => f_X11_canByWeddings_18 (f_X11_canByWeddings_3 fo) fu (nI p) x 2 (nI a) (nI b) A) ?_ ?_ ?_ ?_ ?_
  · intro fo fu a b B hB h1 h2 hg
    have k3 : B 239 6 = nI (pN P) := hB.1.1.1.1
    show ∃ A', inF S P D A' ∧ f_X11_canByWeddings_18b (f_X11_canByWeddings_3 fo) (f_X11_canByWeddings_18 (f_X11_canByWeddings_3 fo) fu) (nI p) x 2 (nI a) (nI b) B = _
    unfold f_X11_canByWeddings_18b f_X11_canByWeddings_71 f_X11_canByWeddings_125
    rw [k3, if_neg (nI_ge_f (by omega) (by omega)), F_canWed hB.1 hP hD (by omega) (by omega)]
    simp only [bind_x]
    by_cases m : mayW P D a b = true
    · have w : ¬ (seM P p x (jnD D a b) (a + 1)).isSome = true := fun e => by
        unfold g2M at hg
        rw [m, e] at hg
        cases hg
      obtain ⟨B1, e1, q1, q2⟩ := F_weds hB.1 hP hD m
      obtain ⟨B3, e3, t1, t2, t3⟩ := F_second hP (WFD_jn hD m) hp x (a := a) (by omega) q1
      obtain ⟨B2, e2, q3, q4⟩ := F_wedOff t1 hP hD m
      rw [if_neg w] at e3
      have sn : seM P p x (jnD D a b) (a + 1) = none := by
        cases z : seM P p x (jnD D a b) (a + 1) with
        | none => rfl
        | some y => rw [z] at w; exact absurd rfl w
      rw [sn] at t3
      have t4 : B3 268 = B1 268 := funext t3
      rw [if_pos m, if_neg (by decide), e1]
      simp only [bind_x]
      rw [if_neg (by decide), e3]
      simp only [bind_x]
      rw [nI_lit 112, nI_add, nI_add, gd_t (by omega) (by omega), nm_x, gd_t (by omega) (by omega), nm_x, ix_nI (by omega), ix_nI (by omega), e2]
      simp only [bind_x]
      rw [if_pos trivial, nm_x, nI_1]
      refine ⟨B2, ⟨q3, fun k c e => ?_⟩, rfl⟩
      by_cases z : k = 268
      · rw [z, q4 _ (by decide) (by decide), t4, q2 _ (by decide) (by decide), hB.2 _ (by decide) (by decide)]
      · rw [q4 k c e, t2 k c e z, q2 k c e, hB.2 k c e]
    · rw [if_neg m, if_pos rfl, nm_x, nI_1]
      exact ⟨B, hB, rfl⟩
  · intro fo fu a b B hB h1 h2 hg
    have k3 : B 239 6 = nI (pN P) := hB.1.1.1.1
    show okF S P D (co3 P p x D (S 268)) (some (a, b)) (f_X11_canByWeddings_18b (f_X11_canByWeddings_3 fo) (f_X11_canByWeddings_18 (f_X11_canByWeddings_3 fo) fu) (nI p) x 2 (nI a) (nI b) B)
    have mw := (Bool.and_eq_true _ _).mp hg
    have m : mayW P D a b = true := mw.1
    unfold f_X11_canByWeddings_18b f_X11_canByWeddings_71
    rw [k3, if_neg (nI_ge_f (by omega) (by omega)), F_canWed hB.1 hP hD (by omega) (by omega)]
    simp only [bind_x]
    obtain ⟨B1, e1, q1, q2⟩ := F_weds hB.1 hP hD m
    obtain ⟨B3, e3, t1, t2, t3⟩ := F_second hP (WFD_jn hD m) hp x (a := a) (by omega) q1
    obtain ⟨B2, e2, q3, q4⟩ := F_wedOff t1 hP hD m
    rw [if_pos mw.2] at e3
    rw [if_pos m, if_neg (by decide), e1]
    simp only [bind_x]
    rw [if_neg (by decide), e3]
    simp only [bind_x]
    rw [nI_lit 112, nI_add, nI_add, gd_t (by omega) (by omega), nm_x, gd_t (by omega) (by omega), nm_x, ix_nI (by omega), ix_nI (by omega), e2]
    simp only [bind_x]
    rw [if_neg (of_eq_false i10)]
    have s268 : B1 268 = S 268 := by rw [q2 _ (by decide) (by decide), hB.2 _ (by decide) (by decide)]
    have t4 : B2 268 = co2 (S 268) (seM P p x (jnD D a b) (a + 1)) := by rw [q4 _ (by decide) (by decide), ← s268]; exact funext t3
    simp only [nm_x]
    refine ⟨_, rfl, ?_, fun k c e f => ?_, fun i => ?_⟩
    · exact q3.congr2 (by rw [uM_off _ _ _ (by decide), uM_off _ _ _ (by decide)]) (by rw [uM_off _ _ _ (by decide), uM_off _ _ _ (by decide)]) fun k _ _ _ _ _ => by rw [uM_off _ _ _ (by omega), uM_off _ _ _ (by omega)]
    · rw [uM_off _ _ _ f, uM_off _ _ _ f, q4 k c e, t2 k c e f, q2 k c e, hB.2 k c e]
    · rw [uM_row, uM_row, t4]
      rfl
  · intro fo fu a B hB h1
    have k3 : B 239 6 = nI (pN P) := hB.1.1.1.1
    show f_X11_canByWeddings_18b (f_X11_canByWeddings_3 fo) (f_X11_canByWeddings_18 (f_X11_canByWeddings_3 fo) fu) (nI p) x 2 (nI a) (nI (pN P)) B = _
    unfold f_X11_canByWeddings_18b
    rw [k3, if_pos (nI_ge_t (Nat.le_refl _) (by omega)), nm_x, nI_1]
  · intro fo a B hB h1
    have k3 : B 239 6 = nI (pN P) := hB.1.1.1.1
    show f_X11_canByWeddings_3b (f_X11_canByWeddings_3 fo) (nI p) x 2 (nI a) B = _
    unfold f_X11_canByWeddings_3b
    rw [k3, if_neg (nI_ge_f h1 (by omega)), nm_x, nI_1]
  · intro fo B hB
    have k3 : B 239 6 = nI (pN P) := hB.1.1.1.1
    show okF S P D (co3 P p x D (S 268)) none (f_X11_canByWeddings_3b (f_X11_canByWeddings_3 fo) (nI p) x 2 (nI (pN P)) B)
    unfold f_X11_canByWeddings_3b
    rw [k3, if_pos (nI_ge_t (Nat.le_refl _) (by omega))]
    exact ⟨B, rfl, hB.1, fun k c e _ => hB.2 k c e, fun i => by rw [hB.2 _ (by decide) (by decide)]; rfl⟩
end WEDS
