/-! ===== what code does to the stack's kinds ===== -/
def tyL : List Nat → List Nat → Option (List Nat)
  | [], ts => some ts
  | c :: r, ts => (tyS c ts).bind (tyL r)
theorem tyL_a (m : List Nat) : ∀ (l ts : List Nat), tyL (l ++ m) ts = (tyL l ts).bind (tyL m) := by
  intro l
  induction l with
  | nil => intro ts; rfl
  | cons c l ih =>
    intro ts
    show (tyS c ts).bind (tyL (l ++ m)) = ((tyS c ts).bind (tyL l)).bind (tyL m)
    cases tyS c ts with
    | none => rfl
    | some x => exact ih x
theorem tyL_c {c : Nat} {r ts ts' : List Nat} (h : tyS c ts = some ts') : tyL (c :: r) ts = tyL r ts' := by
  show (tyS c ts).bind (tyL r) = _
  rw [h]
  rfl
theorem tyS_u {c : Nat} (hc : c < 10010) {ts : List Nat} (hl : ts.length < 40) : ∃ t, tyN t = true ∧ (c < 10000 → c ≠ 0 → t = 2) ∧ tyS c ts = some (t :: ts) := by
  refine ⟨if c < 10000 ∧ c ≠ 0 then 2 else 1, ?_, fun a b => if_pos ⟨a, b⟩, ?_⟩
  · split <;> decide
  · unfold tyS
    rw [if_pos (by omega), if_pos (And.intro hl hc)]
theorem tyS_n {c x y : Nat} {ts : List Nat} (hc : c = 20000 ∨ c = 20001 ∨ c = 20002) (hx : tyN x = true) (hy : tyN y = true) : tyS c (y :: x :: ts) = some (1 :: ts) := by
  rcases hc with rfl | rfl | rfl <;> simp [tyS, hx, hy]
theorem tyS_d {x : Nat} {ts : List Nat} (hx : tyN x = true) : tyS 20003 (2 :: x :: ts) = some (1 :: ts) := by
  simp [tyS, hx]
theorem tyS_r {c x y : Nat} {ts : List Nat} (hc : c = 20004 ∨ c = 20005 ∨ c = 20006) (hx : tyN x = true) (hy : tyN y = true) : tyS c (y :: x :: ts) = some (3 :: ts) := by
  rcases hc with rfl | rfl | rfl <;> simp [tyS, hx, hy]
theorem tyS_not {ts : List Nat} : tyS 20007 (3 :: ts) = some (3 :: ts) := by
  simp [tyS]
theorem tyS_b {c : Nat} {ts : List Nat} (hc : c = 20008 ∨ c = 20009) : tyS c (3 :: 3 :: ts) = some (3 :: ts) := by
  rcases hc with rfl | rfl <;> simp [tyS]
/-! ===== a value, on both sides ===== -/
theorem gdw {X : Mm} : ((some ((0 : Int32), X)).bind fun q => gd (q.1 = 0 ∨ q.1 = 1) (some (q.1, q.2))) = some (0, X) := gd_pos (Or.inl rfl)
theorem erw {X : Mm} : ((some ((-1 : Int32), X)).bind fun q => some (q.1, q.2)) = some (-1, X) := rfl
def wI : Option Nat → Int32
  | none => -1
  | some c => nI c
def wL : Option Nat → Nat
  | none => 0
  | some _ => 1
def wT : Option Nat → List Nat
  | none => []
  | some c => [c]
theorem wT_l (w : Option Nat) : (wT w).length = wL w := by cases w <;> rfl
/-- the reference behind a product -/
def KS (w : Option Nat) (fs : Nat) (q : Int32 × Mm) : Option (Int32 × Mm) :=
  if q.1 = (-1 : Int32) then some ((-1 : Int32), q.2)
  else match w with
    | none => f_X11_readSum_10 fs q.2
    | some c => (f_X11_emits (nI (opN c)) (0 : Int32) q.2).bind fun S_3 => f_X11_readSum_10 fs S_3
/-- what the stack's kinds are behind the rest of a value -/
def TW (w : Option Nat) (es : List Nat) : Prop := ∀ (ts : List Nat) (y : Nat), ts.length ≤ 36 → tyN y = true → (w = none → ∃ t, tyN t = true ∧ tyL es (y :: ts) = some (t :: ts)) ∧ ∀ c x, w = some c → tyN x = true → ∃ t, tyN t = true ∧ tyL es (y :: x :: ts) = some (t :: ts)
def TV (es : List Nat) : Prop := ∀ ts : List Nat, ts.length ≤ 36 → ∃ t, tyN t = true ∧ tyL es ts = some (t :: ts)
def wok (w : Option Nat) : Prop := w = none ∨ w = some 20000 ∨ w = some 20001
/-- the outcome of a piece that is read: a fault, or code behind the old -/
def VR (A0 B0 : Mm) (n m : Nat) (b : Nat → Nat) (i : Nat) (cs pe : List Nat) (o x : Nat) (Ty : List Nat → Prop) (c g : Option (Int32 × Mm)) : Prop := JF A0 B0 c g ∨ ∃ i' es A' B', c = some (1, A') ∧ g = some (0, B') ∧ JS A0 B0 n m b A' B' i' (cs ++ es) pe o ∧ i ≤ i' ∧ es.length + i ≤ i' + x ∧ Ty es
section VALUE
variable {A0 A B0 B : Mm} {n m i : Nat} {b : Nat → Nat} {cs pe : List Nat} {o : Nat}
theorem JS.t (h : JS A0 B0 n m b A B i cs pe o) (t : TK A0 n b 194 m) : TK A n b 194 m := h.2.1.tk t
theorem JS.s7 (h : JS A0 B0 n m b A B i cs pe o) : A 194 7 = nI i := h.2.1.2.2.2.1
theorem JS.ft (h : JS A0 B0 n m b A B i cs pe o) : FTk B n b 194 i := h.2.2.2.2.1
theorem JS.csign (h : JS A0 B0 n m b A B i cs pe o) (t : TK A0 n b 194 m) (w : WB n b) (k : Nat) (hk : k < 10000) : f_X8_isSign 194 (nI k) A = some (if (tok n b 194 i).1 = 3 ∧ (tok n b 194 i).2 = k then 1 else 0, A) := (h.t t).sign w isT1 h.s7 h.1 hk
theorem JS.cword (h : JS A0 B0 n m b A B i cs pe o) (t : TK A0 n b 194 m) (w : WB n b) (k : Nat) (hk : k < 10000) : f_X8_isWord 194 (nI k) A = some (if (tok n b 194 i).1 = 1 ∧ (tok n b 194 i).2 = k then 1 else 0, A) := (h.t t).word w isT1 h.s7 h.1 hk
theorem JS.fsign (h : JS A0 B0 n m b A B i cs pe o) (k : Nat) (hk : lawL.contains k = true) : f_X11_isSign (nI k) B = some (if (tok n b 194 i).1 = 3 ∧ (tok n b 194 i).2 = k then 1 else 0, B) := by
  have h34 : k ≠ 34 := fun e => by rw [e] at hk; exact absurd hk (by decide)
  have lk : k < 256 := by
    have : k = 59 ∨ k = 43 ∨ k = 45 ∨ k = 42 ∨ k = 47 ∨ k = 40 ∨ k = 41 ∨ k = 60 ∨ k = 61 ∨ k = 62 := by simpa [lawL] using hk
    omega
  exact h.ft.sign (by rw [sgs_1]; exact hk) h34 lk
theorem JS.fword (h : JS A0 B0 n m b A B i cs pe o) (k : Nat) (hk : k < 15) : f_X11_isWord (nI k) B = some (if (tok n b 194 i).1 = 1 ∧ (tok n b 194 i).2 = k then 1 else 0, B) := h.ft.word (by rw [wds_1, l15]; exact hk)
theorem JS.im (h : JS A0 B0 n m b A B i cs pe o) (t : TK A0 n b 194 m) (ht : (tok n b 194 i).1 ≠ 0) : i < m := t.lt h.1 ht
/-- both go on to the next token -/
theorem JS.skip (h : JS A0 B0 n m b A B i cs pe o) (t : TK A0 n b 194 m) (w : WB n b) (f : FP B0 n b) (hi : i < m) : ∃ A' B', f_X8_skip 194 A = some A' ∧ f_X11_reads B = some B' ∧ JS A0 B0 n m b A' B' (i + 1) cs pe o := by
  obtain ⟨B', e, g⟩ := h.2.2.read f w (t.tsl hi)
  exact ⟨_, B', (h.t t).skip h.s7 hi, e, by omega, h.2.1.skip, g⟩
/-- both put code behind -/
theorem JS.add (h : JS A0 B0 n m b A B i cs pe o) (hl : cs.length < 400) (c : Nat) {x y : Int32} (hx : x = nI (opN c)) (hy : y = nI (argN c)) : ∃ A' B', f_X3_add_187 (nI c) A = some A' ∧ f_X11_emits x y B = some B' ∧ JS A0 B0 n m b A' B' i (cs ++ [c]) pe o := by
  obtain ⟨A', e, g⟩ := h.2.1.add hl c
  obtain ⟨B', e', g'⟩ := h.2.2.emit hl hx hy
  exact ⟨A', B', e, e', h.1, g, g'⟩
theorem J_unit (w : WB n b) (t : TK A0 n b 194 m) (f : FP B0 n b) (h : JS A0 B0 n m b A B i cs pe o) (hl : cs.length ≤ i) : JF A0 B0 (f_X4_readUnit A) (f_X11_readUnit B) ∨ ∃ c A' B', f_X4_readUnit A = some (1, A') ∧ f_X11_readUnit B = some (0, B') ∧ JS A0 B0 n m b A' B' (i + 1) (cs ++ [c]) pe o ∧ c < 10010 ∧ i < m := by
  obtain ⟨t1, t2⟩ := tok_lt w isT1 i
  have kd := (h.t t).kind h.s7 h.1
  have ft := h.ft.2.1
  obtain ⟨n1, n2, n3, n4, -⟩ := h.ft.num
  obtain ⟨e1, e2, e3⟩ := h.err t 1
  have bad : ¬ (tok n b 194 i).1 = 2 → (¬ ((tok n b 194 i).1 = 1 ∧ 5 ≤ (tok n b 194 i).2)) → JF A0 B0 (f_X4_readUnit A) (f_X11_readUnit B) := fun p q => by
    have c1 : f_X4_readUnit A = f_X4_readUnit_73 A := by
      unfold f_X4_readUnit
      rw [kd]
      simp only [bind_x]
      rw [if_neg (n_ne 2 (x := 2) rfl p (by omega) (by omega)), kd]
      simp only [bind_x]
      by_cases c : (tok n b 194 i).1 = 1
      · rw [if_pos (show nI (tok n b 194 i).1 = 1 by rw [c]; rfl), (h.t t).value h.s7 h.1 (Or.inl c)]
        simp only [bind_x]
        rw [if_pos (show nI (tok n b 194 i).2 < 5 from (nI_ltI (b := 5) (by omega) (by omega)).mpr (by omega))]
      · rw [if_neg (n_ne 1 (x := 1) rfl c (by omega) (by omega))]
    have c2 : f_X11_readUnit B = f_X11_readUnit_26 B := by
      unfold f_X11_readUnit
      by_cases c : B 239 19 = 2
      · rw [if_pos c, F_isIn0]
        · simp only [bind_x]
          rw [if_pos trivial]
        · rcases ft with ⟨a, l, x⟩ | ⟨a, l, x, y⟩ | ⟨a, l, x, y⟩ | ⟨a, l, s, (⟨ne, x, y⟩ | ⟨ne, x⟩)⟩ | ⟨a, l, (x | ⟨x, u, lu, nr, y⟩ | ⟨x, u, lu, nr, y⟩)⟩
          · rw [x] at c; exact absurd c (by decide)
          · rw [y]
            exact Or.inl ((nI_ltI (b := 5) (by show _ + 0 < _; omega) (by omega)).mpr (by show _ + 0 < _; omega))
          · rw [x] at c; exact absurd c (by decide)
          · rw [x] at c; exact absurd c (by decide)
          · rw [x] at c; exact absurd c (by decide)
          · rw [x] at c; exact absurd c (by decide)
          · rw [y]
            rw [wds_1, l15] at nr
            have nr : u < 0 ∨ 0 + 15 ≤ u := nr
            exact Or.inr ((nI_ltI (a := 14) (by omega) (by omega)).mpr (by omega))
          · rw [x] at c; exact absurd c (by decide)
      · rw [if_neg c]
    rw [c1, c2]
    unfold f_X4_readUnit_73 f_X11_readUnit_26 f_X11_readUnit_27
    rw [if_pos rfl, if_neg (fun z => p (n1.mp z)), e1, e2, gdw, erw]
    exact e3
  have good : ∀ (c : Nat) (x y : Int32), c < 10010 → (tok n b 194 i).1 ≠ 0 → x = nI (opN c) → y = nI (argN c) → f_X4_readUnit A = ((f_X3_add_187 (nI c) A).bind fun S_3 => f_X4_readUnit_82 S_3) → f_X11_readUnit B = f_X11_readUnit_73 x y B → ∃ c A' B', f_X4_readUnit A = some (1, A') ∧ f_X11_readUnit B = some (0, B') ∧ JS A0 B0 n m b A' B' (i + 1) (cs ++ [c]) pe o ∧ c < 10010 ∧ i < m := fun c x y hc h0 hx hy q1 q2 => by
    have hi := h.im t h0
    obtain ⟨A1, B1, a1, b1, g1⟩ := h.add (by have := t.2.1; omega) c hx hy
    obtain ⟨A2, B2, a2, b2, g2⟩ := g1.skip t w f hi
    refine ⟨c, A2, B2, ?_, ?_, g2, hc, hi⟩
    · rw [q1, a1]
      simp only [bind_x]
      unfold f_X4_readUnit_82
      rw [a2]
      rfl
    · rw [q2]
      unfold f_X11_readUnit_73
      rw [b1]
      simp only [bind_x]
      rw [b2]
      rfl
  by_cases c2 : (tok n b 194 i).1 = 2
  · refine Or.inr (good (tok n b 194 i).2 0 (nI (tok n b 194 i).2) (by omega) (by omega) ?_ ?_ ?_ ?_)
    · unfold opN; rw [if_pos t2]; rfl
    · unfold argN; rw [if_pos t2]
    · unfold f_X4_readUnit
      rw [kd]
      simp only [bind_x]
      rw [if_pos (show nI (tok n b 194 i).1 = 2 by rw [c2]; rfl), (h.t t).value h.s7 h.1 (Or.inr (Or.inl c2))]
      simp only [bind_x]
    · have n19 := n1.mpr c2
      unfold f_X11_readUnit f_X11_readUnit_26 f_X11_readUnit_27 f_X11_readUnit_46 f_X11_readUnit_56
      rw [if_neg (by rw [n19]; decide), if_pos rfl, if_pos n19, if_pos rfl, if_pos rfl, n4 c2]
  · by_cases c1 : (tok n b 194 i).1 = 1 ∧ 5 ≤ (tok n b 194 i).2
    · have lt : (tok n b 194 i).2 < 15 ∧ B 239 19 = 2 ∧ B 239 20 = nI (tok n b 194 i).2 := by
        rcases ft with ⟨a, l, x⟩ | ⟨a, l, x, y⟩ | ⟨a, l, x, y⟩ | ⟨a, l, s, -⟩ | ⟨a, l, -⟩
        · omega
        · rw [wds_1, l15] at l
          exact ⟨l, x, y⟩
        · omega
        · omega
        · omega
      obtain ⟨lt, n19, n20⟩ := lt
      refine Or.inr (good (10000 + (tok n b 194 i).2 - 5) 1 (nI (tok n b 194 i).2 - 5) (by omega) (by omega) ?_ ?_ ?_ ?_)
      · unfold opN; rw [if_neg (by omega), if_pos (by omega)]; rfl
      · unfold argN
        rw [if_neg (by omega), if_pos (by omega), show (5 : Int32) = nI 5 from rfl, pk_sub (by omega)]
        exact congrArg nI (by omega)
      · unfold f_X4_readUnit
        rw [kd]
        simp only [bind_x]
        rw [if_neg (n_ne 2 (x := 2) rfl c2 (by omega) (by omega)), kd]
        simp only [bind_x]
        rw [if_pos (show nI (tok n b 194 i).1 = 1 by rw [c1.1]; rfl), (h.t t).value h.s7 h.1 (Or.inl c1.1)]
        simp only [bind_x]
        rw [if_neg (show ¬ nI (tok n b 194 i).2 < 5 from fun z => by have := (nI_ltI (b := 5) (by omega) (by omega)).mp z; omega), (h.t t).value h.s7 h.1 (Or.inl c1.1)]
        simp only [bind_x]
        rw [show (10000 : Int32) = nI 10000 from rfl, nI_add, show (5 : Int32) = nI 5 from rfl, pk_sub (by omega)]
      · unfold f_X11_readUnit f_X11_readUnit_27 f_X11_readUnit_46 f_X11_readUnit_56
        rw [if_pos n19, n20, F_isIn1 (show ¬ nI (tok n b 194 i).2 < 5 from fun z => by have := (nI_ltI (b := 5) (by omega) (by omega)).mp z; omega) (show ¬ 14 < nI (tok n b 194 i).2 from fun z => by have := (nI_ltI (a := 14) (by omega) (by omega)).mp z; omega)]
        simp only [bind_x]
        rw [if_neg (of_eq_false i10), if_neg (of_eq_false i10), if_neg (of_eq_false i10), if_neg (of_eq_false i10), n20]
    · exact Or.inl (bad c2 c1)
theorem bz {X : Mm} {F G : Int32 × Mm → Option (Int32 × Mm)} : ((some ((0 : Int32), X)).bind fun q => if q.1 = 0 then F q else G q) = F (0, X) := by
  show (if ((0 : Int32)) = 0 then F (0, X) else G (0, X)) = F (0, X)
  exact if_pos rfl
theorem bo {X : Mm} {F G : Int32 × Mm → Option (Int32 × Mm)} : ((some ((1 : Int32), X)).bind fun q => if q.1 = 0 then F q else G q) = G (1, X) := by
  show (if ((1 : Int32)) = 0 then F (1, X) else G (1, X)) = G (1, X)
  exact if_neg (by decide)
theorem bm {X : Mm} {F G : Int32 × Mm → Option (Int32 × Mm)} : ((some ((-1 : Int32), X)).bind fun q => if q.1 = (-1 : Int32) then F q else G q) = F (-1, X) := by
  show (if ((-1 : Int32)) = (-1 : Int32) then F (-1, X) else G (-1, X)) = F (-1, X)
  exact if_pos rfl
theorem bn {X : Mm} {F G : Int32 × Mm → Option (Int32 × Mm)} : ((some ((0 : Int32), X)).bind fun q => if q.1 = (-1 : Int32) then F q else G q) = G (0, X) := by
  show (if ((0 : Int32)) = (-1 : Int32) then F (0, X) else G (0, X)) = G (0, X)
  exact if_neg (by decide)
theorem bd {X : Mm} {c : Prop} [Decidable c] {F G : Int32 × Mm → Option (Int32 × Mm)} : ((some ((if c then 1 else 0 : Int32), X)).bind fun q => if q.1 = 0 then F q else G q) = if c then G (1, X) else F (0, X) := by
  by_cases h : c
  · rw [if_pos h, if_pos h]; exact bo
  · rw [if_neg h, if_neg h]; exact bz
theorem KS_m {X : Mm} {wt : Option Nat} {fs : Nat} : (some ((-1 : Int32), X)).bind (KS wt fs) = some (-1, X) := by
  show KS wt fs (-1, X) = some (-1, X)
  unfold KS
  exact if_pos rfl
theorem KS_n {X : Mm} {fs : Nat} : KS none fs (0, X) = f_X11_readSum_10 fs X := by
  unfold KS
  exact if_neg (show ¬ (0 : Int32) = -1 by decide)
theorem KS_s {X : Mm} {fs c : Nat} : KS (some c) fs (0, X) = (f_X11_emits (nI (opN c)) (0 : Int32) X).bind fun S_3 => f_X11_readSum_10 fs S_3 := by
  unfold KS
  exact if_neg (show ¬ (0 : Int32) = -1 by decide)
theorem VR.up {i1 x x1 : Nat} {pre : List Nat} {Ty Ty1 : List Nat → Prop} {c g : Option (Int32 × Mm)} (h : VR A0 B0 n m b i1 (cs ++ pre) pe o x1 Ty1 c g) (hi : i ≤ i1) (hx : pre.length + i + x1 ≤ i1 + x) (hT : ∀ es, Ty1 es → Ty (pre ++ es)) : VR A0 B0 n m b i cs pe o x Ty c g := by
  rcases h with h | ⟨i', es, A', B', a, g, j, k1, k2, ty⟩
  · exact Or.inl h
  · refine Or.inr ⟨i', pre ++ es, A', B', a, g, ?_, by omega, ?_, hT es ty⟩
    · rw [← List.append_assoc]; exact j
    · rw [List.length_append]; omega
theorem C_lp {T V c fc : Nat} {x1 : Int32} (hs : ∀ k, k < 10000 → f_X8_isSign 194 (nI k) A = some (if T = 3 ∧ V = k then 1 else 0, A)) (hc : c < 400) : f_X4_readValue_13 (fc + 1) x1 (nI c) A = if T = 3 ∧ V = 43 then f_X4_readValue_46 (f_X4_readValue_13 fc) x1 (nI c) 1 A else if T = 3 ∧ V = 45 then f_X4_readValue_46 (f_X4_readValue_13 fc) x1 (nI c) 0 A else if T = 3 ∧ V = 42 then ((f_X8_skip 194 A).bind fun S_7 => (f_X4_readUnit S_7).bind fun q_8 => if q_8.1 = 0 then some ((0 : Int32), q_8.2) else (f_X3_add_187 (20002 : Int32) q_8.2).bind fun S_9 => f_X4_readValue_158 (f_X4_readValue_13 fc) x1 (nI c) S_9) else if T = 3 ∧ V = 47 then ((f_X8_skip 194 A).bind fun S_5 => (f_X4_readDivisor S_5).bind fun q_6 => if q_6.1 = 0 then some ((0 : Int32), q_6.2) else f_X4_readValue_158 (f_X4_readValue_13 fc) x1 (nI c) q_6.2) else f_X4_readValue_164 x1 A := by
  have s43 : f_X8_isSign 194 (43 : Int32) A = _ := hs 43 (by omega)
  have s45 : f_X8_isSign 194 (45 : Int32) A = _ := hs 45 (by omega)
  have s42 : f_X8_isSign 194 (42 : Int32) A = _ := hs 42 (by omega)
  have s47 : f_X8_isSign 194 (47 : Int32) A = _ := hs 47 (by omega)
  show f_X4_readValue_13b (f_X4_readValue_13 fc) x1 (nI c) A = _
  unfold f_X4_readValue_13b
  rw [if_neg (show ¬ (400 : Int32) ≤ nI c from nI_ge_f (a := 400) (by omega) (by omega)), s43, bd, s45, bd, s42, bd, s47, bd]
  all_goals rfl
theorem C_lpE {c fc : Nat} {x1 : Int32} (hc : 400 ≤ c) (lc : c < 10000) : f_X4_readValue_13 (fc + 1) x1 (nI c) A = f_X4_readValue_164 x1 A := by
  show f_X4_readValue_13b (f_X4_readValue_13 fc) x1 (nI c) A = _
  unfold f_X4_readValue_13b
  rw [if_pos (show (400 : Int32) ≤ nI c from nI_ge_t (a := 400) (by omega) (by omega))]
theorem F_lp {T V fp : Nat} (h42 : f_X11_isSign (42 : Int32) B = some (if T = 3 ∧ V = 42 then 1 else 0, B)) (h47 : f_X11_isSign (47 : Int32) B = some (if T = 3 ∧ V = 47 then 1 else 0, B)) : f_X11_readProduct_10 (fp + 1) B = if T = 3 ∧ V = 42 then f_X11_readProduct_28 (f_X11_readProduct_10 fp) B else if T = 3 ∧ V = 47 then f_X11_readProduct_28 (f_X11_readProduct_10 fp) B else some (0, B) := by
  show f_X11_readProduct_10b (f_X11_readProduct_10 fp) B = _
  unfold f_X11_readProduct_10b
  rw [h42, bd, h47, bd]
  all_goals rfl
theorem F_sm {T V fs : Nat} (h43 : f_X11_isSign (43 : Int32) B = some (if T = 3 ∧ V = 43 then 1 else 0, B)) (h45 : f_X11_isSign (45 : Int32) B = some (if T = 3 ∧ V = 45 then 1 else 0, B)) : f_X11_readSum_10 (fs + 1) B = if T = 3 ∧ V = 43 then f_X11_readSum_28 (f_X11_readSum_10 fs) B else if T = 3 ∧ V = 45 then f_X11_readSum_28 (f_X11_readSum_10 fs) B else some (0, B) := by
  show f_X11_readSum_10b (f_X11_readSum_10 fs) B = _
  unfold f_X11_readSum_10b
  rw [h43, bd, h45, bd]
  all_goals rfl
theorem JS.sm {fs : Nat} (h : JS A0 B0 n m b A B i cs pe o) : f_X11_readSum_10 (fs + 1) B = if (tok n b 194 i).1 = 3 ∧ (tok n b 194 i).2 = 43 then f_X11_readSum_42 (f_X11_readSum_10 fs) (nI (opN 20000)) B else if (tok n b 194 i).1 = 3 ∧ (tok n b 194 i).2 = 45 then f_X11_readSum_42 (f_X11_readSum_10 fs) (nI (opN 20001)) B else some (0, B) := by
  rw [F_sm (h.fsign 43 (by decide)) (h.fsign 45 (by decide))]
  obtain ⟨-, -, -, -, n5⟩ := h.ft.num
  by_cases p : (tok n b 194 i).1 = 3 ∧ (tok n b 194 i).2 = 43
  · rw [if_pos p, if_pos p]
    unfold f_X11_readSum_28
    rw [n5 p.1 (by omega), p.2, if_pos (show nI 43 = 43 from rfl)]
    rfl
  · rw [if_neg p, if_neg p]
    by_cases q : (tok n b 194 i).1 = 3 ∧ (tok n b 194 i).2 = 45
    · rw [if_pos q, if_pos q]
      unfold f_X11_readSum_28
      rw [n5 q.1 (by omega), q.2, if_neg (show ¬ nI 45 = 43 by decide)]
      rfl
    · rw [if_neg q, if_neg q]
theorem wI_some (c : Nat) (hc : c < 30000) : ¬ wI (some c) = -1 := of_eq_false (nI_n1 (by omega))
theorem J_loop (w : WB n b) (t : TK A0 n b 194 m) (f : FP B0 n b) : ∀ (d i : Nat) (cs : List Nat) (A B : Mm) (wt : Option Nat) (c fc fp fs : Nat), m - i ≤ d → d < fc → d < fp → d < fs → c ≤ i → wok wt → cs.length + wL wt ≤ i → JS A0 B0 n m b A B i cs pe o → VR A0 B0 n m b i cs pe o (wL wt) (TW wt) (f_X4_readValue_13 fc (wI wt) (nI c) A) ((f_X11_readProduct_10 fp B).bind (KS wt fs)) := by
  intro d
  induction d using Nat.strongRecOn with
  | _ d ih =>
  intro i cs A B wt c fc fp fs h1 h2 h3 h4 h5 h6 h7 h
  obtain ⟨fc, rfl⟩ : ∃ k, fc = k + 1 := ⟨fc - 1, by omega⟩
  obtain ⟨fp, rfl⟩ : ∃ k, fp = k + 1 := ⟨fp - 1, by omega⟩
  obtain ⟨fs, rfl⟩ : ∃ k, fs = k + 1 := ⟨fs - 1, by omega⟩
  have lm : m ≤ 400 := t.2.1
  have him := h.1
  have cS : ∀ k, k < 10000 → f_X8_isSign 194 (nI k) A = some (if (tok n b 194 i).1 = 3 ∧ (tok n b 194 i).2 = k then 1 else 0, A) := fun k hk => h.csign t w k hk
  rw [F_lp (h.fsign 42 (by decide)) (h.fsign 47 (by decide))]
  -- what waits comes out first
  have out : ∃ A1 B1, JS A0 B0 n m b A1 B1 i (cs ++ wT wt) pe o ∧ (∀ x3 : Int32, (i < m) → f_X4_readValue_46 (f_X4_readValue_13 fc) (wI wt) (nI c) x3 A = f_X4_readValue_59 (f_X4_readValue_13 fc) (nI c) x3 A1) ∧ (cs.length + wL wt ≤ 400 → f_X4_readValue_164 (wI wt) A = some (1, A1)) ∧ (KS wt (fs + 1) (0, B) = f_X11_readSum_10 (fs + 1) B1) := by
    rcases h6 with rfl | h6
    · refine ⟨A, B, by rw [show cs ++ wT none = cs from List.append_nil cs]; exact h, fun x3 _ => ?_, fun _ => ?_, ?_⟩
      · unfold f_X4_readValue_46; rw [if_pos (show wI none = -1 from rfl)]
      · unfold f_X4_readValue_164; rw [if_pos (show wI none = -1 from rfl)]
      · exact KS_n
    · obtain ⟨c0, e0, hc0⟩ : ∃ c0, wt = some c0 ∧ (c0 = 20000 ∨ c0 = 20001) := by
        rcases h6 with rfl | rfl
        · exact ⟨_, rfl, Or.inl rfl⟩
        · exact ⟨_, rfl, Or.inr rfl⟩
      subst e0
      have h7 : cs.length + 1 ≤ i := h7
      obtain ⟨A1, B1, a1, b1, g1⟩ := h.add (by omega) c0 (x := nI (opN c0)) (y := 0) rfl (by
        unfold argN
        rw [if_neg (by omega), if_neg (by omega)]
        rfl)
      have ne := wI_some c0 (by omega)
      refine ⟨A1, B1, g1, fun x3 _ => ?_, fun _ => ?_, ?_⟩
      · unfold f_X4_readValue_46
        rw [if_neg ne, show wI (some c0) = nI c0 from rfl, a1]
        rfl
      · unfold f_X4_readValue_164
        rw [if_neg ne, show wI (some c0) = nI c0 from rfl, a1]
        rfl
      · rw [KS_s, b1]
        rfl
  obtain ⟨A1, B1, g1, o1, o2, o3⟩ := out
  by_cases e : (tok n b 194 i).1 = 3 ∧ ((tok n b 194 i).2 = 43 ∨ (tok n b 194 i).2 = 45 ∨ (tok n b 194 i).2 = 42 ∨ (tok n b 194 i).2 = 47)
  · obtain ⟨e3, e⟩ := e
    have hi := h.im t (by omega)
    rw [C_lp cS (by omega)]
    by_cases pm : (tok n b 194 i).2 = 43 ∨ (tok n b 194 i).2 = 45
    · -- a sum goes on
      have tail : ∀ op : Nat, op = 20000 ∨ op = 20001 → VR A0 B0 n m b i cs pe o (wL wt) (TW wt) (f_X4_readValue_72 (f_X4_readValue_13 fc) (nI c) (nI op) A1) (f_X11_readSum_42 (f_X11_readSum_10 fs) (nI (opN op)) B1) := fun op hop => by
        obtain ⟨A2, B2, a2, b2, g2⟩ := g1.skip t w f hi
        unfold f_X4_readValue_72 f_X11_readSum_42 f_X11_readProduct
        rw [a2, b2, bind_x, bind_x]
        have ll : (cs ++ wT wt).length ≤ i := by rw [List.length_append, wT_l]; exact h7
        have l1 : wL (some op) = 1 := rfl
        rcases J_unit w t f g2 (by omega) with ⟨A3, B3, a3, b3, k⟩ | ⟨u, A3, B3, a3, b3, g3, hu, hi3⟩
        · rw [a3, b3, bz, bm, bm]
          exact Or.inl ⟨A3, B3, rfl, rfl, k⟩
        · rw [a3, b3, bo, bn]
          have r := ih (m - (i + 1 + 1)) (by omega) (i + 1 + 1) (cs ++ wT wt ++ [u]) A3 B3 (some op) (c + 1) fc FU fs (by omega) (by omega) (by unfold FU; omega) (by omega) (by omega) (by
            rcases hop with rfl | rfl
            · exact Or.inr (Or.inl rfl)
            · exact Or.inr (Or.inr rfl)) (by rw [lA]; omega) g3
          rw [List.append_assoc] at r
          unfold f_X4_readValue_158
          rw [nm_x, nI_1]
          refine VR.up r (by omega) (by rw [lA, wT_l]; omega) (fun es hT => ?_)
          intro ts y lts hy
          refine ⟨fun e0 => ?_, fun c0 x e0 hx => ?_⟩
          · subst e0
            obtain ⟨t1, ht1, -, s1⟩ := tyS_u hu (ts := y :: ts) (by show ts.length + 1 < 40; omega)
            show ∃ t, tyN t = true ∧ tyL (u :: es) (y :: ts) = some (t :: ts)
            rw [tyL_c s1]
            exact (hT ts t1 lts ht1).2 op y rfl hy
          · subst e0
            have hc0 : c0 = 20000 ∨ c0 = 20001 := by
              rcases h6 with q | q | q
              · cases q
              · cases q; exact Or.inl rfl
              · cases q; exact Or.inr rfl
            show ∃ t, tyN t = true ∧ tyL (c0 :: u :: es) (y :: x :: ts) = some (t :: ts)
            rw [tyL_c (tyS_n (by omega) hx hy)]
            obtain ⟨t1, ht1, -, s1⟩ := tyS_u hu (ts := 1 :: ts) (by show ts.length + 1 < 40; omega)
            rw [tyL_c s1]
            exact (hT ts t1 lts ht1).2 op 1 rfl (by decide)
      rw [if_neg (show ¬ ((tok n b 194 i).1 = 3 ∧ (tok n b 194 i).2 = 42) by omega), if_neg (show ¬ ((tok n b 194 i).1 = 3 ∧ (tok n b 194 i).2 = 42) by omega), if_neg (show ¬ ((tok n b 194 i).1 = 3 ∧ (tok n b 194 i).2 = 47) by omega), if_neg (show ¬ ((tok n b 194 i).1 = 3 ∧ (tok n b 194 i).2 = 47) by omega), bind_x, o3, g1.sm, o1 1 hi, o1 0 hi]
      by_cases p : (tok n b 194 i).2 = 43
      · rw [if_pos (And.intro e3 p), if_pos (And.intro e3 p)]
        unfold f_X4_readValue_59
        rw [if_neg (of_eq_false i10)]
        exact tail 20000 (Or.inl rfl)
      · rw [if_neg (show ¬ ((tok n b 194 i).1 = 3 ∧ (tok n b 194 i).2 = 43) by omega), if_neg (show ¬ ((tok n b 194 i).1 = 3 ∧ (tok n b 194 i).2 = 43) by omega), if_pos (show (tok n b 194 i).1 = 3 ∧ (tok n b 194 i).2 = 45 by omega), if_pos (show (tok n b 194 i).1 = 3 ∧ (tok n b 194 i).2 = 45 by omega)]
        unfold f_X4_readValue_59
        rw [if_pos rfl]
        exact tail 20001 (Or.inr rfl)
    · rw [if_neg (show ¬ ((tok n b 194 i).1 = 3 ∧ (tok n b 194 i).2 = 43) by omega), if_neg (show ¬ ((tok n b 194 i).1 = 3 ∧ (tok n b 194 i).2 = 45) by omega)]
      obtain ⟨A2, B2, a2, b2, g2⟩ := h.skip t w f hi
      by_cases p : (tok n b 194 i).2 = 42
      · -- a product by a unit
        rw [if_pos (And.intro e3 p), if_pos (And.intro e3 p)]
        unfold f_X11_readProduct_28
        have s42 : f_X11_isSign (42 : Int32) B = _ := h.fsign 42 (by decide)
        rw [s42, if_pos (And.intro e3 p), a2, bind_x, bind_x, b2, bind_x, if_neg (of_eq_false i10)]
        unfold f_X11_readProduct_57 f_X11_readProduct_74
        rw [if_neg (of_eq_false i10)]
        rcases J_unit w t f g2 (by omega) with ⟨A3, B3, a3, b3, k⟩ | ⟨u, A3, B3, a3, b3, g3, hu, hi3⟩
        · rw [a3, b3, bz, bm, KS_m]
          exact Or.inl ⟨A3, B3, rfl, rfl, k⟩
        · obtain ⟨A4, B4, a4, b4, g4⟩ := g3.add (by rw [lA]; omega) 20002 (x := 4) (y := 0) rfl rfl
          have a4 : f_X3_add_187 (20002 : Int32) A3 = some A4 := a4
          rw [a3, b3, bo, bn, if_neg (of_eq_false i10)]
          unfold f_X4_readValue_158 f_X11_readProduct_94
          rw [a4, b4, bind_x, bind_x, nm_x, nI_1]
          have r := ih (m - (i + 1 + 1)) (by omega) (i + 1 + 1) (cs ++ [u] ++ [20002]) A4 B4 wt (c + 1) fc fp (fs + 1) (by omega) (by omega) (by omega) (by omega) (by omega) h6 (by rw [lA, lA]; omega) g4
          rw [List.append_assoc] at r
          refine VR.up r (by omega) (by show 2 + i + wL wt ≤ i + 1 + 1 + wL wt; omega) (fun es hT => ?_)
          intro ts y lts hy
          refine ⟨fun e0 => ?_, fun c0 x e0 hx => ?_⟩
          · obtain ⟨t1, ht1, -, s1⟩ := tyS_u hu (ts := y :: ts) (by show ts.length + 1 < 40; omega)
            show ∃ t, tyN t = true ∧ tyL (u :: 20002 :: es) (y :: ts) = some (t :: ts)
            rw [tyL_c s1, tyL_c (tyS_n (by omega) hy ht1)]
            exact (hT ts 1 lts (by decide)).1 e0
          · obtain ⟨t1, ht1, -, s1⟩ := tyS_u hu (ts := y :: x :: ts) (by show ts.length + 1 + 1 < 40; omega)
            show ∃ t, tyN t = true ∧ tyL (u :: 20002 :: es) (y :: x :: ts) = some (t :: ts)
            rw [tyL_c s1, tyL_c (tyS_n (by omega) hy ht1)]
            exact (hT ts 1 lts (by decide)).2 c0 x e0 hx
      · -- a part
        have p7 : (tok n b 194 i).2 = 47 := by omega
        rw [if_neg (show ¬ ((tok n b 194 i).1 = 3 ∧ (tok n b 194 i).2 = 42) by omega), if_neg (show ¬ ((tok n b 194 i).1 = 3 ∧ (tok n b 194 i).2 = 42) by omega), if_pos (And.intro e3 p7), if_pos (And.intro e3 p7)]
        unfold f_X11_readProduct_28
        have s42 : f_X11_isSign (42 : Int32) B = _ := h.fsign 42 (by decide)
        rw [s42, if_neg (show ¬ ((tok n b 194 i).1 = 3 ∧ (tok n b 194 i).2 = 42) by omega), a2, bind_x, bind_x, b2, bind_x, if_pos rfl]
        obtain ⟨t1, t2⟩ := tok_lt w isT1 (i + 1)
        obtain ⟨n1, n2, n3, n4, -⟩ := g2.ft.num
        obtain ⟨q1, q2, q3⟩ := g2.err t 1
        obtain ⟨r1, r2, r3⟩ := g2.err t 2
        have kd := (g2.t t).kind g2.s7 g2.1
        by_cases c2 : (tok n b 194 (i + 1)).1 = 2
        · have n19 := n1.mpr c2
          have hi3 := g2.im t (by omega)
          have vl := (g2.t t).value g2.s7 g2.1 (Or.inr (Or.inl c2))
          have k2 : nI (tok n b 194 (i + 1)).1 = 2 := by rw [c2]; rfl
          rw [if_pos n19]
          unfold f_X11_readProduct_57
          rw [if_pos rfl, n4 c2]
          by_cases z : (tok n b 194 (i + 1)).2 = 0
          · have k0 : nI (tok n b 194 (i + 1)).2 = 0 := by rw [z]; rfl
            have cd : f_X4_readDivisor A2 = some (0, uM (uM A2 184 2 2) 184 3 (nI (pl n b 194 (i + 1)))) := by
              unfold f_X4_readDivisor
              rw [kd, bind_x, if_pos k2, vl, bind_x, if_pos k0, r1, gdw]
            rw [cd, bz, if_pos k0, r2, erw, KS_m]
            exact Or.inl r3
          · have k0 : ¬ nI (tok n b 194 (i + 1)).2 = 0 := fun q => z ((nI_inj (b := 0) (by omega) (by omega)).mp q)
            obtain ⟨A3, B3, a3, b3, g3⟩ := g2.add (by omega) (tok n b 194 (i + 1)).2 (x := 0) (y := nI (tok n b 194 (i + 1)).2) (by unfold opN; rw [if_pos t2]; rfl) (by unfold argN; rw [if_pos t2])
            obtain ⟨A4, a4, c4⟩ := g3.2.1.add (by rw [lA]; omega) 20003
            have a4 : f_X3_add_187 (20003 : Int32) A3 = some A4 := a4
            have a5 := (c4.tk t).skip c4.2.2.2.1 hi3
            obtain ⟨B4, b4, d4⟩ := g3.2.2.read f w (t.tsl hi3)
            obtain ⟨B5, b5, d5⟩ := d4.emit (by rw [lA]; omega) (c := 20003) (x := 5) (y := 0) rfl rfl
            have cd : f_X4_readDivisor A2 = some (1, uM A4 194 7 (nI (i + 1 + 1))) := by
              unfold f_X4_readDivisor
              rw [kd, bind_x, if_pos k2, vl, bind_x, if_neg k0, vl, bind_x, a3, bind_x, a4, bind_x, a5, bind_x]
            have ru : f_X11_readUnit B2 = some (0, B4) := by
              unfold f_X11_readUnit f_X11_readUnit_26 f_X11_readUnit_27 f_X11_readUnit_46 f_X11_readUnit_56 f_X11_readUnit_73
              rw [if_neg (by rw [n19]; decide), if_pos rfl, if_pos n19, if_pos rfl, if_pos rfl, n4 c2, b3, bind_x, b4, bind_x]
            rw [cd, bo, if_neg k0]
            unfold f_X11_readProduct_74 f_X4_readValue_158
            rw [ru, bn, if_pos rfl]
            unfold f_X11_readProduct_94
            rw [b5, bind_x, nm_x, nI_1]
            have r := ih (m - (i + 1 + 1)) (by omega) (i + 1 + 1) (cs ++ [(tok n b 194 (i + 1)).2] ++ [20003]) (uM A4 194 7 (nI (i + 1 + 1))) B5 wt (c + 1) fc fp (fs + 1) (by omega) (by omega) (by omega) (by omega) (by omega) h6 (by rw [lA, lA]; omega) ⟨by omega, c4.skip, d5⟩
            rw [List.append_assoc] at r
            refine VR.up r (by omega) (by show 2 + i + wL wt ≤ i + 1 + 1 + wL wt; omega) (fun es hT => ?_)
            intro ts y lts hy
            refine ⟨fun e0 => ?_, fun c0 x e0 hx => ?_⟩
            · obtain ⟨t3, ht1, h2, s1⟩ := tyS_u (c := (tok n b 194 (i + 1)).2) (by omega) (ts := y :: ts) (by show ts.length + 1 < 40; omega)
              rw [h2 t2 z] at s1
              show ∃ t, tyN t = true ∧ tyL ((tok n b 194 (i + 1)).2 :: 20003 :: es) (y :: ts) = some (t :: ts)
              rw [tyL_c s1, tyL_c (tyS_d hy)]
              exact (hT ts 1 lts (by decide)).1 e0
            · obtain ⟨t3, ht1, h2, s1⟩ := tyS_u (c := (tok n b 194 (i + 1)).2) (by omega) (ts := y :: x :: ts) (by show ts.length + 1 + 1 < 40; omega)
              rw [h2 t2 z] at s1
              show ∃ t, tyN t = true ∧ tyL ((tok n b 194 (i + 1)).2 :: 20003 :: es) (y :: x :: ts) = some (t :: ts)
              rw [tyL_c s1, tyL_c (tyS_d hy)]
              exact (hT ts 1 lts (by decide)).2 c0 x e0 hx
        · have cd : f_X4_readDivisor A2 = some (0, uM (uM A2 184 2 1) 184 3 (nI (pl n b 194 (i + 1)))) := by
            unfold f_X4_readDivisor
            rw [kd, bind_x, if_neg (n_ne 2 (x := 2) rfl c2 (by omega) (by omega)), q1, gdw]
          rw [cd, bz, if_neg (fun z => c2 (n1.mp z)), q2, erw, KS_m]
          exact Or.inl q3
  · -- the end of a value
    have ce : f_X4_readValue_13 (fc + 1) (wI wt) (nI c) A = f_X4_readValue_164 (wI wt) A := by
      by_cases hc : c < 400
      · rw [C_lp cS hc, if_neg (by omega), if_neg (by omega), if_neg (by omega), if_neg (by omega)]
      · exact C_lpE (by omega) (by omega)
    rw [ce, if_neg (by omega), if_neg (by omega), bind_x, o3, g1.sm, if_neg (by omega), if_neg (by omega), o2 (by omega)]
    refine Or.inr ⟨i, wT wt, A1, B1, rfl, rfl, g1, Nat.le_refl _, by rw [wT_l]; omega, ?_⟩
    intro ts y lts hy
    refine ⟨fun e0 => ?_, fun c0 x e0 hx => ?_⟩
    · subst e0
      exact ⟨y, hy, rfl⟩
    · subst e0
      refine ⟨1, by decide, ?_⟩
      show tyL [c0] (y :: x :: ts) = _
      rw [tyL_c (tyS_n (by
        rcases h6 with q | q | q
        · cases q
        · cases q; exact Or.inl rfl
        · cases q; exact Or.inr (Or.inl rfl)) hx hy)]
      rfl
theorem J_value (w : WB n b) (t : TK A0 n b 194 m) (f : FP B0 n b) (h : JS A0 B0 n m b A B i cs pe o) (hl : cs.length ≤ i) : VR A0 B0 n m b i cs pe o 0 TV (f_X4_readValue A) (f_X11_readSum B) := by
  have lm : m ≤ 400 := t.2.1
  unfold f_X4_readValue f_X11_readSum f_X11_readProduct
  rcases J_unit w t f h hl with ⟨A3, B3, a3, b3, k⟩ | ⟨u, A3, B3, a3, b3, g3, hu, hi3⟩
  · rw [a3, b3, bz, bm, bm]
    exact Or.inl ⟨A3, B3, rfl, rfl, k⟩
  · rw [a3, b3, bo, bn]
    have r := J_loop w t f (m - (i + 1)) (i + 1) (cs ++ [u]) A3 B3 none 0 FU FU FU (Nat.le_refl _) (by unfold FU; omega) (by unfold FU; omega) (by unfold FU; omega) (Nat.zero_le _) (Or.inl rfl) (by rw [lA]; show _ + 0 ≤ _; omega) g3
    refine VR.up (x1 := 0) (Ty1 := TW none) (i1 := i + 1) (pre := [u]) ?_ (by omega) (by show 1 + i + 0 ≤ i + 1 + 0; omega) (fun es hT ts lts => ?_)
    · exact r
    · obtain ⟨t1, ht1, -, s1⟩ := tyS_u hu (ts := ts) (by omega)
      show ∃ t, tyN t = true ∧ tyL (u :: es) ts = some (t :: ts)
      rw [tyL_c s1]
      exact (hT ts t1 lts ht1).1 rfl
end VALUE
