/-! ===== a name for a value is the value: not by unfolding (the kernel would look into the branches first) ===== -/
theorem nm_x {α β : Type} (v : α) (k : α → β) : nm v k = k v := id rfl
/-! ===== the law's codes, run on a stack ===== -/
def cmb (c : Nat) (x y : Int32) : Int32 :=
  if c = 20000 then x + y else if c = 20001 then x - y else if c = 20002 then x * y else if c = 20003 then x / y
  else if c = 20004 then (if y ≤ x then 0 else 1) else if c = 20005 then (if x = y then 1 else 0) else if c = 20006 then (if x ≤ y then 0 else 1)
  else if c = 20008 then x &&& y else x ||| y
def stp (fc : Nat → Int32) (c : Nat) (vs : List Int32) : List Int32 :=
  if c < 20000 then (if c < 10000 then nI c else fc (c - 10000)) :: vs
  else match vs with
    | [] => []
    | y :: r => if c = 20007 then (1 - y) :: r else match r with
      | [] => []
      | x :: r => cmb c x y :: r
def evR (fc : Nat → Int32) (f : Nat → Nat) : Nat → Nat → List Int32 → List Int32
  | 0, _, vs => vs
  | d + 1, lo, vs => evR fc f d (lo + 1) (stp fc (f lo) vs)
def okV (t : Nat) (v : Int32) : Prop := (t = 2 → v ≠ 0) ∧ (t = 3 → v = 0 ∨ v = 1)
def okS : List Nat → List Int32 → Prop
  | [], [] => True
  | t :: ts, v :: vs => okV t v ∧ okS ts vs
  | _, _ => False
theorem okS_len : ∀ {ts : List Nat} {vs : List Int32}, okS ts vs → vs.length = ts.length := by
  intro ts
  induction ts with
  | nil => intro vs h; cases vs with
    | nil => rfl
    | cons v vs => exact h.elim
  | cons t ts ih => intro vs h; cases vs with
    | nil => exact h.elim
    | cons v vs => simp only [List.length_cons]; rw [ih h.2]
def onS (s : Nat → Int32) : List Int32 → Prop
  | [] => True
  | v :: vs => s vs.length = v ∧ onS s vs
theorem onS_upd {s : Nat → Int32} {i : Nat} {x : Int32} : ∀ {vs : List Int32}, onS s vs → vs.length ≤ i → onS (upd s i x) vs := by
  intro vs
  induction vs with
  | nil => intro _ _; trivial
  | cons v vs ih =>
    intro h hl
    simp only [List.length_cons] at hl
    exact ⟨by rw [up_ne _ _ (by omega)]; exact h.1, ih h.2 (by omega)⟩
theorem onS_push {s : Nat → Int32} {vs : List Int32} (x : Int32) (h : onS s vs) : onS (upd s vs.length x) (x :: vs) := ⟨up_eq _ _ _, onS_upd h (Nat.le_refl _)⟩
theorem bits01 {c : Nat} {x y : Int32} (hx : x = 0 ∨ x = 1) (hy : y = 0 ∨ y = 1) (hc : c = 20008 ∨ c = 20009) : (cmb c x y = 0 ∨ cmb c x y = 1) ∧ (c = 20008 → cmb c x y = x * y) ∧ (c = 20009 → cmb c x y = if x + y ≤ 0 then 0 else 1) := by
  rcases hc with rfl | rfl <;> rcases hx with rfl | rfl <;> rcases hy with rfl | rfl <;> decide +kernel
/-- one code: what kinds are then on the stack, what is there -/
theorem ty_step {fc : Nat → Int32} {c : Nat} {ts ts' : List Nat} {vs : List Int32} (h : tyS c ts = some ts') (hv : okS ts vs) :
    okS ts' (stp fc c vs) ∧ ((c < 20000 ∧ c < 10010 ∧ ts.length < 40 ∧ stp fc c vs = (if c < 10000 then nI c else fc (c - 10000)) :: vs)
      ∨ (c = 20007 ∧ ∃ y r, vs = y :: r ∧ stp fc c vs = (1 - y) :: r)
      ∨ (20000 ≤ c ∧ c ≤ 20009 ∧ c ≠ 20007 ∧ ∃ x y r, vs = y :: x :: r ∧ stp fc c vs = cmb c x y :: r ∧ (c = 20003 → y ≠ 0) ∧ (c = 20008 ∨ c = 20009 → (x = 0 ∨ x = 1) ∧ (y = 0 ∨ y = 1)))) := by
  unfold tyS at h
  by_cases c0 : c < 20000
  · rw [if_pos c0] at h
    have e : stp fc c vs = (if c < 10000 then nI c else fc (c - 10000)) :: vs := by unfold stp; rw [if_pos c0]
    by_cases c1 : ts.length < 40 ∧ c < 10010
    · rw [if_pos c1] at h
      cases h
      refine ⟨?_, Or.inl ⟨c0, c1.2, c1.1, e⟩⟩
      rw [e]
      refine ⟨⟨fun h2 => ?_, fun h3 => ?_⟩, hv⟩
      · split at h2
        · rename_i k
          rw [if_pos k.1]
          exact fun z => k.2 ((nI_0iff (by omega)).mp z)
        · cases h2
      · split at h3 <;> cases h3
    · rw [if_neg c1] at h; cases h
  · rw [if_neg c0] at h
    cases ts with
    | nil => cases h
    | cons ty ts =>
      cases vs with
      | nil => exact hv.elim
      | cons y vs =>
        simp only at h
        by_cases c7 : c = 20007
        · rw [if_pos c7] at h
          by_cases c3 : ty = 3
          · rw [if_pos c3] at h
            cases h
            have e : stp fc c (y :: vs) = (1 - y) :: vs := by unfold stp; rw [if_neg c0]; simp only; rw [if_pos c7]
            refine ⟨?_, Or.inr (Or.inl ⟨c7, y, vs, rfl, e⟩)⟩
            rw [e]
            refine ⟨⟨fun z => (by cases z), fun _ => ?_⟩, hv.2⟩
            rcases hv.1.2 c3 with rfl | rfl
            · exact Or.inr (by decide)
            · exact Or.inl (by decide)
          · rw [if_neg c3] at h; cases h
        · rw [if_neg c7] at h
          cases ts with
          | nil => cases h
          | cons tx ts =>
            cases vs with
            | nil => exact hv.2.elim
            | cons x vs =>
              simp only at h
              have e : stp fc c (y :: x :: vs) = cmb c x y :: vs := by unfold stp; rw [if_neg c0]; simp only; rw [if_neg c7]
              rw [e]
              obtain ⟨hy, hx, hr⟩ := hv
              by_cases d1 : c ≤ 20002
              · rw [if_pos d1] at h
                split at h
                · cases h
                  exact ⟨⟨⟨fun z => (by cases z), fun z => (by cases z)⟩, hr⟩, Or.inr (Or.inr ⟨by omega, by omega, c7, x, y, vs, rfl, rfl, fun z => by omega, fun z => by omega⟩)⟩
                · cases h
              · rw [if_neg d1] at h
                by_cases d2 : c = 20003
                · rw [if_pos d2] at h
                  split at h
                  · rename_i k
                    cases h
                    exact ⟨⟨⟨fun z => (by cases z), fun z => (by cases z)⟩, hr⟩, Or.inr (Or.inr ⟨by omega, by omega, c7, x, y, vs, rfl, rfl, fun _ => hy.1 k.2, fun z => by omega⟩)⟩
                  · cases h
                · rw [if_neg d2] at h
                  by_cases d3 : c ≤ 20006
                  · rw [if_pos d3] at h
                    split at h
                    · cases h
                      refine ⟨⟨⟨fun z => (by cases z), fun _ => ?_⟩, hr⟩, Or.inr (Or.inr ⟨by omega, by omega, c7, x, y, vs, rfl, rfl, fun z => by omega, fun z => by omega⟩)⟩
                      unfold cmb
                      rw [if_neg (by omega), if_neg (by omega), if_neg (by omega), if_neg (by omega)]
                      have k : c = 20004 ∨ c = 20005 ∨ c = 20006 := by omega
                      rcases k with k | k | k
                      · rw [if_pos k]; split
                        · exact Or.inl rfl
                        · exact Or.inr rfl
                      · rw [if_neg (by omega), if_pos k]; split
                        · exact Or.inr rfl
                        · exact Or.inl rfl
                      · rw [if_neg (by omega), if_neg (by omega), if_pos k]; split
                        · exact Or.inl rfl
                        · exact Or.inr rfl
                    · cases h
                  · rw [if_neg d3] at h
                    by_cases d4 : c ≤ 20009
                    · rw [if_pos d4] at h
                      split at h
                      · rename_i k
                        cases h
                        have b := bits01 (c := c) (hx.2 k.1) (hy.2 k.2) (by omega)
                        exact ⟨⟨⟨fun z => (by cases z), fun _ => b.1⟩, hr⟩, Or.inr (Or.inr ⟨by omega, by omega, c7, x, y, vs, rfl, rfl, fun z => by omega, fun _ => ⟨hx.2 k.1, hy.2 k.2⟩⟩)⟩
                      · cases h
                    · rw [if_neg d4] at h; cases h
theorem C_combined {A : Mm} {c : Nat} {x y : Int32} (h1 : 20000 ≤ c) (h2 : c ≤ 20009) (h7 : c ≠ 20007) (h3 : c = 20003 → y ≠ 0) : f_X3_combined (nI c) x y A = some (cmb c x y, A) := by
  unfold f_X3_combined
  have key : ∀ (os : List (Option (Int32 × Mm))) (d : Option (Int32 × Mm)), os.length = 10 → tsw (nI c) 20000 os d = os.getD (c - 20000) d := fun os d hl => tsw_in os 20000 d (c - 20000) (by rw [nI_toInt (by omega)]; omega) (by omega)
  rw [key _ _ rfl]
  have k : c = 20000 ∨ c = 20001 ∨ c = 20002 ∨ c = 20003 ∨ c = 20004 ∨ c = 20005 ∨ c = 20006 ∨ c = 20008 ∨ c = 20009 := by omega
  unfold cmb
  rcases k with rfl | rfl | rfl | rfl | rfl | rfl | rfl | rfl | rfl
  · rfl
  · rfl
  · rfl
  · have y0 := h3 rfl
    show (if y = 0 then some ((0 : Int32), A) else if y = 0 then none else some (x / y, A)) = some (x / y, A)
    rw [if_neg y0, if_neg y0]
  · show (if y ≤ x then some ((0 : Int32), A) else some (1, A)) = some (if y ≤ x then 0 else 1, A)
    split <;> rfl
  · show (if x = y then some ((1 : Int32), A) else some (0, A)) = some (if x = y then 1 else 0, A)
    split <;> rfl
  · show (if x ≤ y then some ((0 : Int32), A) else some (1, A)) = some (if x ≤ y then 0 else 1, A)
    split <;> rfl
  · rfl
  · rfl
theorem F_twoOf {B : Mm} {c : Nat} {x y : Int32} (h1 : 20000 ≤ c) (h2 : c ≤ 20009) (h7 : c ≠ 20007) (h3 : c = 20003 → y ≠ 0) (h8 : c = 20008 ∨ c = 20009 → (x = 0 ∨ x = 1) ∧ (y = 0 ∨ y = 1)) : f_X11_twoOf (nI (c - 19998)) x y B = some (cmb c x y, B) := by
  unfold f_X11_twoOf
  have k : c = 20000 ∨ c = 20001 ∨ c = 20002 ∨ c = 20003 ∨ c = 20004 ∨ c = 20005 ∨ c = 20006 ∨ c = 20008 ∨ c = 20009 := by omega
  rcases k with rfl | rfl | rfl | rfl | rfl | rfl | rfl | rfl | rfl
  · rw [if_pos (by decide +kernel)]; rfl
  · rw [if_neg (by decide +kernel), if_pos (by decide +kernel)]; rfl
  · rw [if_neg (by decide +kernel), if_neg (by decide +kernel), if_pos (by decide +kernel)]; rfl
  · rw [if_neg (by decide +kernel), if_neg (by decide +kernel), if_neg (by decide +kernel), if_pos (by decide +kernel), if_neg (h3 rfl)]; rfl
  · rw [if_neg (by decide +kernel), if_neg (by decide +kernel), if_neg (by decide +kernel), if_neg (by decide +kernel), if_pos (by decide +kernel)]
    show _ = some (if y ≤ x then 0 else 1, B)
    split <;> rfl
  · rw [if_neg (by decide +kernel), if_neg (by decide +kernel), if_neg (by decide +kernel), if_neg (by decide +kernel), if_neg (by decide +kernel), if_pos (by decide +kernel)]
    show _ = some (if x = y then 1 else 0, B)
    split <;> rfl
  · rw [if_neg (by decide +kernel), if_neg (by decide +kernel), if_neg (by decide +kernel), if_neg (by decide +kernel), if_neg (by decide +kernel), if_neg (by decide +kernel), if_pos (by decide +kernel)]
    show _ = some (if x ≤ y then 0 else 1, B)
    split <;> rfl
  · rw [if_neg (by decide +kernel), if_neg (by decide +kernel), if_neg (by decide +kernel), if_neg (by decide +kernel), if_neg (by decide +kernel), if_neg (by decide +kernel), if_neg (by decide +kernel), if_pos (by decide +kernel), (bits01 (h8 (Or.inl rfl)).1 (h8 (Or.inl rfl)).2 (Or.inl rfl)).2.1 rfl]
  · rw [if_neg (by decide +kernel), if_neg (by decide +kernel), if_neg (by decide +kernel), if_neg (by decide +kernel), if_neg (by decide +kernel), if_neg (by decide +kernel), if_neg (by decide +kernel), if_neg (by decide +kernel), (bits01 (h8 (Or.inr rfl)).1 (h8 (Or.inr rfl)).2 (Or.inr rfl)).2.2 rfl]
    split <;> rfl
theorem sub1s (n : Nat) : nI (n + 1) - 1 = nI n := eo_s n
theorem C_st1 {A : Mm} {c hi lo n : Nat} {v : Int32} (k5 : Int32 → Int32 → Int32 → Mm → Option (Int32 × Mm)) (s : Nat → Int32) (h1 : lo < hi) (hhi : hi ≤ 400) (hc : A 19 lo = nI c) (hn : n < 64) (c1 : c < 10010) (hv : v = if c < 10000 then nI c else A 23 (c - 10000)) : f_X3_run_18_5b k5 (nI hi) (nI n) (nI lo) (rM A 24 s) = k5 (nI hi) (nI (n + 1)) (nI (lo + 1)) (rM A 24 (upd s n v)) := by
  have q23 : rM A 24 s 23 = A 23 := rM_off _ _ (by decide)
  have q19 : rM A 24 s 19 = A 19 := rM_off _ _ (by decide)
  simp only [f_X3_run_18_5b, f_X3_run_18_145, f_X3_run_18_65, nm_x, q23, q19]
  rw [if_neg (nI_ge_f h1 (by omega)), gd_t (by omega) (by omega), ix_nI (by omega), hc, nI_lit 20000, nI_lit 10000, nI_lit 64, if_neg (nI_ge_f (by omega) (by omega)), if_pos ((nI_ltI (by omega) (by omega)).mpr hn), nI_1]
  by_cases k : c < 10000
  · rw [if_neg (nI_ge_f k (by omega)), gd_t (by omega) (by omega), ix_nI (by omega), nI_1, uM_rMs, hv, if_pos k]
  · rw [if_pos (nI_ge_t (by omega) (by omega)), pk_sub (by omega), gd_t (by omega) (by omega), gd_t (by omega) (by omega), ix_nI (by omega), ix_nI (by omega), nI_1, uM_rMs, hv, if_neg k]
theorem C_st2 {A : Mm} {hi lo n : Nat} {y : Int32} (k5 : Int32 → Int32 → Int32 → Mm → Option (Int32 × Mm)) (s : Nat → Int32) (h1 : lo < hi) (hhi : hi ≤ 400) (hc : A 19 lo = 20007) (hn : n < 63) (hy : s n = y) : f_X3_run_18_5b k5 (nI hi) (nI (n + 1)) (nI lo) (rM A 24 s) = k5 (nI hi) (nI (n + 1)) (nI (lo + 1)) (rM A 24 (upd s n (1 - y))) := by
  have q19 : rM A 24 s 19 = A 19 := rM_off _ _ (by decide)
  simp only [f_X3_run_18_5b, f_X3_run_18_145, nm_x, q19, sub1s]
  rw [if_neg (nI_ge_f h1 (by omega)), gd_t (by omega) (by omega), ix_nI (by omega), hc, if_pos (by decide), if_pos rfl, nI_lit 1, if_pos (nI_ge_t (by omega) (by omega)), gd_t (by omega) (by omega), gd_t (by omega) (by omega), ix_nI (by omega), rM_same, hy, uM_rMs, nI_add]
theorem C_st3 {A : Mm} {c hi lo n : Nat} {x y : Int32} (k5 : Int32 → Int32 → Int32 → Mm → Option (Int32 × Mm)) (s : Nat → Int32) (h1 : lo < hi) (hhi : hi ≤ 400) (hc : A 19 lo = nI c) (hn : n < 62) (c1 : 20000 ≤ c) (c2 : c ≤ 20009) (c3 : c ≠ 20007) (hy : s (n + 1) = y) (hx : s n = x) (hz : c = 20003 → y ≠ 0) : f_X3_run_18_5b k5 (nI hi) (nI (n + 2)) (nI lo) (rM A 24 s) = k5 (nI hi) (nI (n + 1)) (nI (lo + 1)) (rM A 24 (upd s n (cmb c x y))) := by
  have q19 : rM A 24 s 19 = A 19 := rM_off _ _ (by decide)
  have e1 : nI (n + 2) + -1 = nI (n + 1) := pk_m1 (n + 1)
  have c7 : ¬ nI c = nI 20007 := fun e => c3 ((nI_inj (by omega) (by omega)).mp e)
  simp only [f_X3_run_18_5b, f_X3_run_18_145, nm_x, q19, e1, sub1s]
  rw [if_neg (nI_ge_f h1 (by omega)), gd_t (by omega) (by omega), ix_nI (by omega), hc, nI_lit 20000, nI_lit 20007, nI_lit 2, if_pos (nI_ge_t c1 (by omega)), if_neg c7, if_pos (nI_ge_t (by omega) (by omega)), gd_t (by omega) (by omega), gd_t (by omega) (by omega), ix_nI (by omega), ix_nI (by omega), rM_same, hx, hy, C_combined c1 c2 c3 hz]
  simp only [Option.bind_some]
  rw [gd_t (by omega) (by omega), uM_rMs, nI_1]
theorem C_run5 {A : Mm} {fc : Nat → Int32} {f : Nat → Nat} {hi : Nat} (hhi : hi ≤ 400) (hc : ∀ i, i < hi → A 19 i = nI (f i)) (hf : ∀ i, i < 10 → A 23 i = fc i) : ∀ (d lo fuel : Nat) (ts ts' : List Nat) (vs : List Int32) (s : Nat → Int32), lo + d = hi → d < fuel → tyR f d lo ts = some ts' → okS ts vs → ts.length ≤ 40 → onS s vs → ∃ s', f_X3_run_18_5 fuel (nI hi) (nI vs.length) (nI lo) (rM A 24 s) = some ((evR fc f d lo vs).headD 0, rM A 24 s') ∧ okS ts' (evR fc f d lo vs) := by
  intro d
  induction d with
  | zero =>
    intro lo fuel ts ts' vs s h1 h2 h3 h4 h40 h5
    cases fuel with
    | zero => omega
    | succ fu =>
      have e : ts = ts' := Option.some.inj h3
      subst e
      have hl := okS_len h4
      refine ⟨s, ?_, h4⟩
      show f_X3_run_18_5b (f_X3_run_18_5 fu) (nI hi) (nI vs.length) (nI lo) (rM A 24 s) = _
      simp only [f_X3_run_18_5b]
      rw [if_pos (nI_ge_t (by omega) (by omega))]
      cases vs with
      | nil => rw [if_pos (show nI ([] : List Int32).length ≤ 0 by decide)]; rfl
      | cons v vs =>
        simp only [List.length_cons] at hl ⊢
        rw [if_neg (show ¬ nI (vs.length + 1) ≤ 0 from nI_ge_f (b := 0) (by omega) (by omega))]
        simp only [sub1s]
        rw [gd_t (by omega) (by omega), ix_nI (by omega), rM_same, h5.1]
        rfl
  | succ d ih =>
    intro lo fuel ts ts' vs s h1 h2 h3 h4 h40 h5
    cases fuel with
    | zero => omega
    | succ fu =>
      have hl := okS_len h4
      obtain ⟨t1, ht1, ht2⟩ := Option.bind_eq_some_iff.mp (show (tyS (f lo) ts).bind (tyR f d (lo + 1)) = some ts' from h3)
      obtain ⟨g1, g2⟩ := ty_step (fc := fc) ht1 h4
      have gl := okS_len g1
      have c19 := hc lo (by omega)
      have step : ∃ s1, f_X3_run_18_5b (f_X3_run_18_5 fu) (nI hi) (nI vs.length) (nI lo) (rM A 24 s) = f_X3_run_18_5 fu (nI hi) (nI (stp fc (f lo) vs).length) (nI (lo + 1)) (rM A 24 s1) ∧ onS s1 (stp fc (f lo) vs) ∧ t1.length ≤ 40 := by
        rcases g2 with ⟨a1, a2, a3, a4⟩ | ⟨a1, y, r, a2, a3⟩ | ⟨a1, a2, a3, x, y, r, a4, a5, a6, a7⟩
        · have st := C_st1 (v := if f lo < 10000 then nI (f lo) else fc (f lo - 10000)) (f_X3_run_18_5 fu) s (by omega : lo < hi) hhi c19 (by omega : vs.length < 64) a2 (by
            by_cases k : f lo < 10000
            · rw [if_pos k, if_pos k]
            · rw [if_neg k, if_neg k, hf _ (by omega)])
          rw [a4] at gl ⊢
          simp only [List.length_cons] at gl ⊢
          exact ⟨_, st, onS_push _ h5, by omega⟩
        · subst a2
          rw [a3] at gl ⊢
          simp only [List.length_cons] at hl gl ⊢
          have st := C_st2 (f_X3_run_18_5 fu) s (by omega : lo < hi) hhi (c19.trans (congrArg nI a1)) (by omega : r.length < 63) h5.1
          exact ⟨_, st, onS_push _ h5.2, by omega⟩
        · subst a4
          rw [a5] at gl ⊢
          simp only [List.length_cons] at hl gl ⊢
          have st := C_st3 (f_X3_run_18_5 fu) s (by omega : lo < hi) hhi c19 (by omega : r.length < 62) a1 a2 a3 h5.1 h5.2.1 a6
          exact ⟨_, st, onS_push _ h5.2.2, by omega⟩
      obtain ⟨s1, q1, q2, q3⟩ := step
      obtain ⟨s', u1, u2⟩ := ih (lo + 1) fu t1 ts' _ s1 (by omega) (by omega) ht2 g1 q3 q2
      exact ⟨s', q1.trans u1, u2⟩
theorem F_run5 {B : Mm} {fc : Nat → Int32} {f : Nat → Nat} {hi : Nat} (hhi : hi ≤ 400) (hc : ∀ i, i < hi → B 255 i = nI (opN (f i)) ∧ B 256 i = nI (argN (f i))) (hf : ∀ i, i < 10 → B 265 i = fc i) : ∀ (d lo fuel : Nat) (ts ts' : List Nat) (vs : List Int32) (s : Nat → Int32), lo + d = hi → d < fuel → tyR f d lo ts = some ts' → okS ts vs → ts.length ≤ 40 → onS s vs → ∃ s', f_X11_runs_5 fuel (nI hi) (nI vs.length) (nI lo) (rM B 266 s) = some (s' 0, rM B 266 s') ∧ onS s' (evR fc f d lo vs) := by
  intro d
  induction d with
  | zero =>
    intro lo fuel ts ts' vs s h1 h2 h3 h4 h40 h5
    cases fuel with
    | zero => omega
    | succ fu =>
      refine ⟨s, ?_, h5⟩
      show f_X11_runs_5b (f_X11_runs_5 fu) (nI hi) (nI vs.length) (nI lo) (rM B 266 s) = _
      simp only [f_X11_runs_5b]
      rw [if_pos (nI_ge_t (by omega) (by omega)), rM_same]
  | succ d ih =>
    intro lo fuel ts ts' vs s h1 h2 h3 h4 h40 h5
    cases fuel with
    | zero => omega
    | succ fu =>
      have hl := okS_len h4
      obtain ⟨t1, ht1, ht2⟩ := Option.bind_eq_some_iff.mp (show (tyS (f lo) ts).bind (tyR f d (lo + 1)) = some ts' from h3)
      obtain ⟨g1, g2⟩ := ty_step (fc := fc) ht1 h4
      have gl := okS_len g1
      obtain ⟨o1, o2⟩ := hc lo (by omega)
      have step : ∃ s1, f_X11_runs_5 (fu + 1) (nI hi) (nI vs.length) (nI lo) (rM B 266 s) = f_X11_runs_5 fu (nI hi) (nI (stp fc (f lo) vs).length) (nI (lo + 1)) (rM B 266 s1) ∧ onS s1 (stp fc (f lo) vs) ∧ t1.length ≤ 40 := by
        show ∃ s1, f_X11_runs_5b (f_X11_runs_5 fu) (nI hi) (nI vs.length) (nI lo) (rM B 266 s) = _ ∧ _
        have q255 : rM B 266 s 255 = B 255 := rM_off _ _ (by decide)
        have q256 : rM B 266 s 256 = B 256 := rM_off _ _ (by decide)
        have q265 : rM B 266 s 265 = B 265 := rM_off _ _ (by decide)
        simp only [f_X11_runs_5b, f_X11_runs_32, f_X11_runs_147, f_X11_runs_69, nm_x, q255, q256, q265]
        rw [if_neg (nI_ge_f (by omega) (by omega))]
        simp (disch := omega) only [gd_t, ix_nI, o1, o2]
        rcases g2 with ⟨a1, a2, a3, a4⟩ | ⟨a1, y, r, a2, a3⟩ | ⟨a1, a2, a3, x, y, r, a4, a5, a6, a7⟩
        · rw [a4] at gl ⊢
          refine ⟨upd s vs.length (if f lo < 10000 then nI (f lo) else fc (f lo - 10000)), ?_, onS_push _ h5, by simp only [List.length_cons] at gl; omega⟩
          by_cases k : f lo < 10000
          · have e1 : opN (f lo) = 0 := by unfold opN; rw [if_pos k]
            have e2 : argN (f lo) = f lo := by unfold argN; rw [if_pos k]
            rw [e1, e2, if_pos (by decide +kernel), if_pos (by decide +kernel), uM_rMs, nI_1, nI_1, if_pos k]
            rfl
          · have e1 : opN (f lo) = 1 := by unfold opN; rw [if_neg k, if_pos a1]
            have e2 : argN (f lo) = f lo - 10000 := by unfold argN; rw [if_neg k, if_pos a1]
            simp only [e1, e2]
            rw [if_neg (by decide +kernel : ¬ nI 1 = 0), if_neg (by decide +kernel : ¬ nI 1 = 0), if_pos (by decide +kernel : nI 1 = 1)]
            simp (disch := omega) only [gd_t, ix_nI]
            rw [hf _ (by omega), uM_rMs, nI_1, nI_1, if_neg k]
            rfl
        · subst a2
          have e1 : opN (f lo) = 9 := by unfold opN; rw [a1]; rfl
          rw [a3] at gl ⊢
          simp only [List.length_cons] at hl gl ⊢
          simp only [e1, sub1s]
          rw [if_neg (by decide +kernel), if_neg (by decide +kernel), if_pos (by decide +kernel), gd_t (by omega) (by omega), gd_t (by omega) (by omega), ix_nI (by omega), rM_same, h5.1, uM_rMs, nI_1]
          exact ⟨_, rfl, onS_push _ h5.2, by omega⟩
        · subst a4
          have e1 : opN (f lo) = f lo - 19998 := by unfold opN; rw [if_neg (by omega), if_neg (by omega)]
          rw [a5] at gl ⊢
          simp only [List.length_cons] at hl gl ⊢
          simp only [e1, sub1s]
          rw [if_neg (show ¬ nI (f lo - 19998) = 0 from fun e => by have := (nI_0iff (by omega)).mp e; omega), if_neg (show ¬ nI (f lo - 19998) = 1 from fun e => by have := (nI_inj (b := 1) (by omega) (by omega)).mp e; omega), if_neg (show ¬ nI (f lo - 19998) = 9 from fun e => by have := (nI_inj (b := 9) (by omega) (by omega)).mp e; omega), gd_t (by omega) (by omega), gd_t (by omega) (by omega), ix_nI (by omega), ix_nI (by omega), rM_same, h5.2.1, show s (r.length + 1) = y from h5.1, F_twoOf a1 a2 a3 a6 a7]
          simp only [Option.bind_some]
          rw [gd_t (by omega) (by omega), uM_rMs, nI_1]
          exact ⟨_, rfl, onS_push _ h5.2.2, by omega⟩
      obtain ⟨s1, q1, q2, q3⟩ := step
      rw [q1]
      exact ih (lo + 1) fu t1 ts' _ s1 (by omega) (by omega) ht2 g1 q3 q2
/-- what the codes from one place to another one come to -/
def valR (fc : Nat → Int32) (f : Nat → Nat) (lo hi : Nat) : Int32 := (evR fc f (hi - lo) lo []).headD 0
theorem C_run {A : Mm} {fc : Nat → Int32} {f : Nat → Nat} {lo hi t : Nat} (hl : lo ≤ hi) (hhi : hi ≤ 400) (hc : ∀ i, i < hi → A 19 i = nI (f i)) (hf : ∀ i, i < 10 → A 23 i = fc i) (hty : tyR f (hi - lo) lo [] = some [t]) : ∃ s, f_X3_run_18 (nI lo) (nI hi) A = some (valR fc f lo hi, rM A 24 s) := by
  obtain ⟨s, e, -⟩ := C_run5 hhi hc hf (hi - lo) lo FU [] [t] [] (A 24) (by omega) (by unfold FU; omega) hty trivial (by decide) trivial
  rw [rM_id] at e
  exact ⟨s, e⟩
theorem F_runs {B : Mm} {fc : Nat → Int32} {f : Nat → Nat} {lo hi t : Nat} (hl : lo ≤ hi) (hhi : hi ≤ 400) (hc : ∀ i, i < hi → B 255 i = nI (opN (f i)) ∧ B 256 i = nI (argN (f i))) (hf : ∀ i, i < 10 → B 265 i = fc i) (hty : tyR f (hi - lo) lo [] = some [t]) : ∃ s, f_X11_runs (nI lo) (nI hi) B = some (valR fc f lo hi, rM B 266 s) := by
  obtain ⟨s, e, g⟩ := F_run5 hhi hc hf (hi - lo) lo FU [] [t] [] (B 266) (by omega) (by unfold FU; omega) hty trivial (by decide) trivial
  have ok : okS [t] (evR fc f (hi - lo) lo []) := by
    obtain ⟨_, _, k⟩ := C_run5 (A := fun a i => if a = 19 then nI (f i) else fc i) (fc := fc) (f := f) hhi (fun i _ => if_pos rfl) (fun i _ => if_neg (by decide)) (hi - lo) lo FU [] [t] [] (fun _ => 0) (by omega) (by unfold FU; omega) hty trivial (by decide) trivial
    exact k
  rw [rM_id] at e
  refine ⟨s, e.trans ?_⟩
  unfold valR
  obtain ⟨L, hL⟩ : ∃ L, L = evR fc f (hi - lo) lo [] := ⟨_, rfl⟩
  rw [← hL] at g ok ⊢
  cases L with
  | nil => exact ok.elim
  | cons v L =>
    cases L with
    | nil => rw [show s 0 = v from g.1]; rfl
    | cons w L => exact ok.2.elim
