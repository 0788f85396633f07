/-! ===== how many are in a set; of a letter, of a deed ===== -/
def natS : Nat → (Nat → Bool) → Nat
  | 0, _ => 0
  | n + 1, p => if p n = true then 2 ^ n + natS n p else natS n p
theorem natS_lt (p : Nat → Bool) : ∀ n, natS n p < 2 ^ n := by
  intro n
  induction n with
  | zero => exact Nat.one_pos
  | succ n ih => unfold natS; rw [Nat.pow_succ]; split <;> omega
theorem shl_pow32 : ∀ n, n < 32 → shl 1 (nI n) = nI (2 ^ n) := by decide +kernel
theorem nI_or (a b : Nat) : nI a ||| nI b = nI (a ||| b) := by
  apply Int32.toBitVec_inj.1
  show BitVec.ofNat 32 a ||| BitVec.ofNat 32 b = BitVec.ofNat 32 (a ||| b)
  apply BitVec.eq_of_getLsbD_eq
  intro i hi
  simp [hi]
theorem setF_nat (p : Nat → Bool) : ∀ n, n ≤ 32 → setF n p = nI (natS n p) := by
  intro n
  induction n with
  | zero => intro _; rfl
  | succ n ih =>
    intro hn
    unfold setF natS
    by_cases c : p n = true
    · rw [if_pos c, if_pos c, ih (by omega), shl_pow32 n (by omega), nI_or]
      congr 1
      have := Nat.two_pow_add_eq_or_of_lt (natS_lt p n) 1
      rw [Nat.mul_one] at this
      rw [this, Nat.or_comm]
    · rw [if_neg c, if_neg c, ih (by omega)]
theorem pcB_natS (p : Nat → Bool) : ∀ n, n ≤ 32 → pcB 32 (natS n p) = cntF n p := by
  intro n
  induction n with
  | zero => intro _; exact pcB_0 32
  | succ n ih =>
    intro hn
    have lt := natS_lt p n
    have e1 : pcB 32 (natS n p) = pcB n (natS n p) := by
      rw [show (32 : Nat) = n + (32 - n) by omega, pcB_add, Nat.div_eq_of_lt lt, pcB_0, Nat.add_zero]
    unfold natS cntF
    by_cases c : p n = true
    · rw [if_pos c, if_pos c, ← ih (by omega), e1, show pcB 32 (2 ^ n + natS n p) = pcB (n + (32 - n)) (2 ^ n + natS n p) from congrArg (fun w => pcB w (2 ^ n + natS n p)) (by omega), pcB_add]
      have d : (2 ^ n + natS n p) / 2 ^ n = 1 := by
        rw [Nat.add_div_left _ (Nat.two_pow_pos n), Nat.div_eq_of_lt lt]
      have m : pcB n (2 ^ n + natS n p) = pcB n (natS n p) := by
        rw [← pcB_mod n (2 ^ n + natS n p), Nat.add_mod_left, pcB_mod]
      rw [d, m]
      obtain ⟨k, hk⟩ : ∃ k, 32 - n = k + 1 := ⟨31 - n, by omega⟩
      rw [hk, pcB_s, show 1 / 2 = 0 from rfl, pcB_0]
    · rw [if_neg c, if_neg c, ih (by omega)]
theorem F_onesS (B : Mm) (p : Nat → Bool) {n : Nat} (hn : n ≤ 32) : f_X11_ones (setF n p) B = some (nI (cntF n p), B) := by
  have lt := natS_lt p n
  have le : 2 ^ n ≤ 2 ^ 32 := Nat.pow_le_pow_right (by decide) hn
  rw [setF_nat p n hn, F_ones B (by have : (2 : Nat) ^ 32 = 4294967296 := rfl; omega) 32 (by omega) rfl, pcB_natS p n hn]
theorem J_bitS (A : Mm) (p : Nat → Bool) {n : Nat} (hn : n ≤ 32) : f_J6_bitCount_0f7a4 (setF n p) A = some (nI (cntF n p), A) := by
  have lt := natS_lt p n
  have le : 2 ^ n ≤ 2 ^ 32 := Nat.pow_le_pow_right (by decide) hn
  rw [setF_nat p n hn, J_bitCount A (by have : (2 : Nat) ^ 32 = 4294967296 := rfl; omega), pcB_natS p n hn]
def sumF : Nat → (Nat → Nat) → Nat
  | 0, _ => 0
  | n + 1, f => sumF n f + f n
theorem sumF_congr {n : Nat} {f g : Nat → Nat} (h : ∀ i, i < n → f i = g i) : sumF n f = sumF n g := by
  induction n with
  | zero => rfl
  | succ n ih => unfold sumF; rw [h n (by omega), ih fun i hi => h i (by omega)]
theorem sumF_add (n : Nat) (f g : Nat → Nat) : sumF n (fun i => f i + g i) = sumF n f + sumF n g := by
  induction n with
  | zero => rfl
  | succ n ih =>
    unfold sumF
    rw [ih]
    show sumF n f + sumF n g + (f n + g n) = _
    omega
theorem sumF_0 (n : Nat) : sumF n (fun _ => 0) = 0 := by
  induction n with
  | zero => rfl
  | succ n ih => unfold sumF; rw [ih]; rfl
theorem sumF_le {n m : Nat} {f : Nat → Nat} (h : ∀ i, i < n → f i ≤ m) : sumF n f ≤ n * m := by
  induction n with
  | zero => rw [Nat.zero_mul]; exact Nat.le_refl 0
  | succ n ih =>
    unfold sumF
    have := ih fun i hi => h i (by omega)
    have := h n (by omega)
    rw [Nat.succ_mul]
    omega
theorem cnt_swap (n m : Nat) (p : Nat → Nat → Bool) : sumF n (fun q => cntF m (fun d => p q d)) = sumF m (fun d => cntF n (fun q => p q d)) := by
  induction n with
  | zero => exact (sumF_0 m).symm
  | succ n ih =>
    have e : ∀ d, cntF (n + 1) (fun q => p q d) = cntF n (fun q => p q d) + (if p n d = true then 1 else 0) := fun d => by
      show (if p n d = true then cntF n (fun q => p q d) + 1 else cntF n (fun q => p q d)) = _
      split <;> rfl
    have e2 : ∀ m, cntF m (fun d => p n d) = sumF m (fun d => if p n d = true then 1 else 0) := fun m => by
      induction m with
      | zero => rfl
      | succ m ihm =>
        unfold cntF sumF
        rw [ihm]
        show (if p n m = true then _ else _) = _ + (if p n m = true then 1 else 0)
        split <;> rfl
    rw [sumF_congr (fun d _ => e d), sumF_add, ← ih, ← e2 m]
    rfl
theorem loop_sum {T R : Type} (bot : T) (G : T → T) (app : T → Nat → Int32 → R) (n : Nat) (f : Nat → Nat) (a0 : Nat) (res : Int32 → R) (hn : n < 10000) (hs : ∀ rec i a, i < n → app (G rec) i (nI a) = app rec (i + 1) (nI (a + f i))) (he : ∀ rec a, app (G rec) n a = res a) : app (itr bot G FU) 0 (nI a0) = res (nI (a0 + sumF n f)) := by
  have := itr_for bot G app n (fun i (a : Int32) => nI (a0 + sumF (i + 1) f)) res (fun i a => a = nI (a0 + sumF i f)) (fun rec i s hi h => ⟨by rw [h, hs rec i _ hi, Nat.add_assoc]; rfl, rfl⟩) (fun rec s _ => he rec s) n 0 FU (nI a0) (by omega) (by unfold FU; omega) rfl
  have h1 := this.1
  rw [this.2] at h1
  exact h1
section VAL
variable {S : Mm} {P : PP} {D : DD} {T : TT} {W : Nat → Int32} {E : RE}
/-- who of those who live could write a deed, with some more letters -/
def wrP (P : PP) (D : DD) (T : TT) (x : Int32) (q d : Nat) : Bool := liv P D q && decide (tDs T d &&& ((letS P D q ||| x) ^^^ (-1)) = 0)
theorem C_pairs {A : Mm} (h : RK (fun j => A (1 + j)) P D) (hT : RTK (fun j => A (17 + j)) T) (hN : pN P ≤ 12) (hn : tDn T ≤ 8) (hf : ∀ q, q < 12 → A 182 q = letS P D q) (x : Int32) : f_X7_pairs x A = some (nI (sumF (pN P) (fun q => cntF (tDn T) (fun d => wrP P D T x q d))), A) := by
  have k3 : A 1 3 = nI (pN P) := h.1.2.2.2
  have t5 : A 17 5 = nI (tDn T) := hT.1.1
  unfold f_X7_pairs
  have := loop_sum (fun _ _ _ _ => none) (fun k => f_X7_pairs_4b k) (fun f i a => f x a (nI i) A) (pN P) (fun q => cntF (tDn T) (fun d => wrP P D T x q d)) 0 (fun a => some (a, A)) (by omega) ?_ ?_
  · rw [Nat.zero_add] at this
    exact this
  · intro rec i a hi
    show f_X7_pairs_4b rec x (nI a) (nI i) A = rec x (nI (a + _)) (nI (i + 1)) A
    simp only [f_X7_pairs_4b]
    rw [k3, if_neg (nI_ge_f hi (by omega)), C_lives h hN hi]
    simp only [Option.bind_some]
    by_cases l : liv P D i = true
    · rw [if_pos l, if_neg (by decide)]
      have inner := itr_for (fun _ _ _ _ _ => none) (fun k => f_X7_pairs_32b rec k) (fun f d (s : Int32) => f x s (nI i) (nI d) A) (tDn T) (fun d s => if wrP P D T x i d = true then s + 1 else s) (fun s => rec x s (nI (i + 1)) A) (fun d s => s = nI (a + cntF d (fun d => wrP P D T x i d))) (fun rec2 d s hd hs => ⟨?_, ?_⟩) (fun rec2 s hs => ?_) (tDn T) 0 FU (nI a) (by omega) (by unfold FU; omega) rfl
      · have i1 := inner.1
        rw [inner.2] at i1
        exact i1
      · show f_X7_pairs_32b rec rec2 x s (nI i) (nI d) A = _
        have s31 : A 31 d = tDs T d := (hT.2.2.2.2 d hd).2.1
        simp only [f_X7_pairs_32b, f_X7_pairs_71, nm]
        rw [t5, if_neg (nI_ge_f hd (by omega)), gd_t (by omega) (by omega), gd_t (by omega) (by omega), ix_nI (by omega), ix_nI (by omega), s31, hf i (by omega), nI_1]
        unfold wrP
        rw [l, Bool.true_and]
        by_cases c : tDs T d &&& ((letS P D i ||| x) ^^^ (-1)) = 0
        · rw [if_pos c, if_pos (decide_eq_true c)]
        · rw [if_neg c, if_neg (fun e => c (of_decide_eq_true e))]
      · rw [hs]
        show _ = nI (a + (if wrP P D T x i d = true then cntF d _ + 1 else cntF d _))
        by_cases c : wrP P D T x i d = true
        · rw [if_pos c, if_pos c, nI_1]; rfl
        · rw [if_neg c, if_neg c]
      · show f_X7_pairs_32b rec rec2 x s (nI i) (nI (tDn T)) A = _
        simp only [f_X7_pairs_32b, f_X7_pairs_77, nm]
        rw [t5, if_pos (nI_ge_t (Nat.le_refl _) (by omega)), nI_1]
    · have z : cntF (tDn T) (fun d => wrP P D T x i d) = 0 := by
        have : ∀ m, cntF m (fun d => wrP P D T x i d) = 0 := fun m => by
          induction m with
          | zero => rfl
          | succ m ih => unfold cntF; rw [if_neg (by unfold wrP; simp [l]), ih]
        exact this _
      rw [if_neg l, if_pos rfl, z]
      simp only [f_X7_pairs_77, nm]
      rw [nI_1]
      rfl
  · intro rec a
    show f_X7_pairs_4b rec x a (nI (pN P)) A = _
    simp only [f_X7_pairs_4b]
    rw [k3, if_pos (nI_ge_t (Nat.le_refl _) (by omega))]
/-- who can write a deed, by what each can write -/
def aloF (P : PP) (g : Nat → Int32) (x : Int32) : Int32 := setF (pN P) (fun q => decide (x &&& (g q ^^^ (-1)) = 0))
theorem F_aloneF {B : Mm} {g : Nat → Int32} (h : RS B P) (hN : pN P ≤ 12) (hf : ∀ q, q < pN P → B 267 q = g q) (x : Int32) : f_X11_aloneOf x B = some (aloF P g x, B) := by
  unfold f_X11_aloneOf aloF
  refine loop_set (fun _ _ _ _ => none) (fun k => f_X11_aloneOf_4b k) (fun f i a => f x a (nI i) B) (pN P) _ (fun a => some (a, B)) (by omega) ?_ ?_
  · intro rec i a hi
    show f_X11_aloneOf_4b rec x a (nI i) B = _
    simp only [f_X11_aloneOf_4b, f_X11_aloneOf_31, nm]
    rw [h.1.1, if_neg (nI_ge_f hi (by omega)), gd_t (by omega) (by omega), ix_nI (by omega), hf i (by omega), nI_1]
    by_cases c : x &&& (g i ^^^ (-1)) = 0
    · rw [if_pos c, if_pos (decide_eq_true c)]
    · rw [if_neg c, if_neg (fun e9 => c (of_decide_eq_true e9))]
  · intro rec a
    show f_X11_aloneOf_4b rec x a (nI (pN P)) B = _
    simp only [f_X11_aloneOf_4b]
    rw [h.1.1, if_pos (nI_ge_t (Nat.le_refl _) (by omega))]
theorem F_count8 {B : Mm} {g : Nat → Int32} (h : RS B P) (hT : RTF B T) (hN : pN P ≤ 12) (hn : tDn T ≤ 8) (hf : ∀ q, q < pN P → B 267 q = g q) : f_X11_aloneCount_8 FU 0 0 B = some (nI (sumF (tDn T) (fun d => cntF (pN P) (fun q => decide (tDs T d &&& (g q ^^^ (-1)) = 0)))), B) := by
  have := loop_sum (fun _ _ _ => none) (fun k => f_X11_aloneCount_8b k) (fun f i a => f a (nI i) B) (tDn T) (fun d => cntF (pN P) (fun q => decide (tDs T d &&& (g q ^^^ (-1)) = 0))) 0 (fun a => some (a, B)) (by omega) ?_ ?_
  · rw [Nat.zero_add] at this
    exact this
  · intro rec d a hd
    show f_X11_aloneCount_8b rec (nI a) (nI d) B = _
    simp only [f_X11_aloneCount_8b, nm]
    rw [hT.1.1, if_neg (nI_ge_f hd (by omega)), gd_t (by omega) (by omega), ix_nI (by omega), (hT.2.2.2.2 d hd).2.1, F_aloneF h hN hf]
    simp only [Option.bind_some, aloF]
    rw [F_onesS _ _ (by omega)]
    simp only [Option.bind_some]
    rw [nI_add, nI_1]
  · intro rec a
    show f_X11_aloneCount_8b rec a (nI (tDn T)) B = _
    simp only [f_X11_aloneCount_8b]
    rw [hT.1.1, if_pos (nI_ge_t (Nat.le_refl _) (by omega))]
theorem F_value59 {B : Mm} {g : Nat → Int32} (h : RS B P) (hT : RTF B T) (hN : pN P ≤ 12) (hn : tDn T ≤ 8) (hf : ∀ q, q < pN P → B 267 q = g q) (y : Int32) : f_X11_valueOf_59 FU y 0 0 B = some (nI (sumF (tDn T) (fun d => cntF (pN P) (fun q => decide (tDs T d &&& (g q ^^^ (-1)) = 0)))) - y, B) := by
  have := loop_sum (fun _ _ _ _ => none) (fun k => f_X11_valueOf_59b k) (fun f i a => f y a (nI i) B) (tDn T) (fun d => cntF (pN P) (fun q => decide (tDs T d &&& (g q ^^^ (-1)) = 0))) 0 (fun a => some (a - y, B)) (by omega) ?_ ?_
  · rw [Nat.zero_add] at this
    exact this
  · intro rec d a hd
    show f_X11_valueOf_59b rec y (nI a) (nI d) B = _
    simp only [f_X11_valueOf_59b, nm]
    rw [hT.1.1, if_neg (nI_ge_f hd (by omega)), gd_t (by omega) (by omega), ix_nI (by omega), (hT.2.2.2.2 d hd).2.1, F_aloneF h hN hf]
    simp only [Option.bind_some, aloF]
    rw [F_onesS _ _ (by omega)]
    simp only [Option.bind_some]
    rw [nI_add, nI_1]
  · intro rec a
    show f_X11_valueOf_59b rec y a (nI (tDn T)) B = _
    simp only [f_X11_valueOf_59b]
    rw [hT.1.1, if_pos (nI_ge_t (Nat.le_refl _) (by omega))]
theorem F_value {B : Mm} (h : RB B P D) (hT : RTF B T) (hP : WFP P) (hD : WFD P D) (hn : tDn T ≤ 8) (x : Int32) : ∃ f, f_X11_valueOf x B = some (nI (sumF (tDn T) (fun d => cntF (pN P) (fun q => decide (tDs T d &&& ((if liv P D q = true then letS P D q ||| shl 1 x else letS P D q) ^^^ (-1)) = 0)))) - nI (sumF (tDn T) (fun d => cntF (pN P) (fun q => decide (tDs T d &&& (letS P D q ^^^ (-1)) = 0)))), rM B 267 f) := by
  have hN := hP.1
  obtain ⟨g, e, hg⟩ := F_findsHands h hP hD
  have h1 : RB (rM B 267 g) P D := RB_rM (by decide) h
  have rT : ∀ f, RTF (rM B 267 f) T := fun f => hT.congr (by rw [rM_off _ _ (by decide)]) (by rw [rM_off _ _ (by decide)]) fun k _ _ _ => rM_off _ _ (by omega)
  have c1 := F_count8 (g := letS P D) h1.1 (rT g) hN hn (fun q hq => by rw [rM_same]; exact hg q (by omega))
  obtain ⟨y, hy⟩ : ∃ y, y = nI (sumF (tDn T) (fun d => cntF (pN P) (fun q => decide (tDs T d &&& (letS P D q ^^^ (-1)) = 0)))) := ⟨_, rfl⟩
  rw [← hy] at c1 ⊢
  obtain ⟨G, hG⟩ : ∃ G : Nat → Int32, ∀ q, G q = if liv P D q = true then letS P D q ||| shl 1 x else letS P D q := ⟨_, fun _ => rfl⟩
  have lp := itr_for (fun _ _ _ _ => none) (fun k => f_X11_valueOf_7b k) (fun f i (s : Nat → Int32) => f x y (nI i) (rM B 267 s)) (pN P) (fun i s => upd s i (G i)) (fun s => f_X11_valueOf_59 FU y 0 0 (rM B 267 s)) (fun i s => ∀ q, q < pN P → s q = if q < i then G q else letS P D q) ?_ ?_ (pN P) 0 FU g (by omega) (by unfold FU; omega) (fun q hq => by rw [if_neg (Nat.not_lt_zero q)]; exact hg q (by omega))
  · obtain ⟨l1, l2⟩ := lp
    refine ⟨ff (fun i s => upd s i (G i)) 0 (pN P) g, ?_⟩
    unfold f_X11_valueOf f_X11_aloneCount
    rw [e]
    simp only [Option.bind_some]
    rw [c1]
    simp only [Option.bind_some]
    refine l1.trans ?_
    have := F_value59 (g := G) (RB_rM (k := 267) (f := ff (fun i s => upd s i (G i)) 0 (pN P) g) (by decide) h).1 (rT _) hN hn (fun q hq => by rw [rM_same, l2 q hq, if_pos hq]) y
    simp only [hG] at this ⊢
    exact this
  · intro rec i s hi hs
    refine ⟨?_, fun q hq => ?_⟩
    · show f_X11_valueOf_7b rec x y (nI i) (rM B 267 s) = _
      have h2 : RB (rM B 267 s) P D := RB_rM (by decide) h
      have si : s i = letS P D i := by rw [hs i hi, if_neg (Nat.lt_irrefl i)]
      simp only [f_X11_valueOf_7b, f_X11_valueOf_47, nm]
      rw [h2.1.1.1, if_neg (nI_ge_f hi (by omega)), F_doesLive h2.2.1 hN hi]
      simp only [Option.bind_some]
      rw [gd_t (by omega) (by omega), gd_t (by omega) (by omega), ix_nI (by omega), rM_same, si, uM_rMs, uM_rMs, nI_1, hG]
      by_cases l : liv P D i = true
      · rw [if_pos l, if_neg (by decide), if_pos l]
        simp (disch := omega) only [gd_t]
      · rw [if_neg l, if_pos rfl, if_neg l]
    · show upd s i (G i) q = _
      by_cases c : q = i
      · subst c; rw [up_eq, if_pos (Nat.lt_succ_self q)]
      · rw [up_ne _ _ c, hs q hq]
        by_cases c2 : q < i
        · rw [if_pos c2, if_pos (Nat.lt_succ_of_lt c2)]
        · rw [if_neg c2, if_neg (by omega)]
  · intro rec s _
    show f_X11_valueOf_7b rec x y (nI (pN P)) (rM B 267 s) = _
    simp only [f_X11_valueOf_7b]
    rw [rM_off _ _ (by decide), h.1.1.1, if_pos (nI_ge_t (Nat.le_refl _) (by omega))]
theorem and_no {x : Int32} : x &&& ((0 : Int32) ^^^ (-1)) = x := b_ext fun i hi => by rw [b_and, bt_not _ hi, b_0]; simp
theorem or_no {x : Int32} : x ||| (0 : Int32) = x := b_ext fun i hi => by rw [b_or, b_0]; simp
theorem wr_eq (hn : ∀ d, d < tDn T → tDs T d ≠ 0) (x : Int32) {d : Nat} (hd : d < tDn T) (q : Nat) : decide (tDs T d &&& ((if liv P D q = true then letS P D q ||| x else letS P D q) ^^^ (-1)) = 0) = wrP P D T x q d := by
  unfold wrP
  by_cases l : liv P D q = true
  · rw [if_pos l, l, Bool.true_and]
  · rw [if_neg l, letS_0 (by simpa using l), and_no]
    simp [l, hn d hd]
theorem wr_eq0 (hn : ∀ d, d < tDn T → tDs T d ≠ 0) {d : Nat} (hd : d < tDn T) (q : Nat) : decide (tDs T d &&& (letS P D q ^^^ (-1)) = 0) = wrP P D T 0 q d := by
  rw [← wr_eq hn 0 hd q, or_no]
  split <;> rfl
theorem C_value {A : Mm} (h : RK (fun j => A (1 + j)) P D) (hT : RTK (fun j => A (17 + j)) T) (hP : WFP P) (hD : WFD P D) (hn : tDn T ≤ 8) (x : Int32) : ∃ f, f_X7_valueOf x A = some (nI (sumF (pN P) (fun q => cntF (tDn T) (fun d => wrP P D T (shl 1 x) q d))) - nI (sumF (pN P) (fun q => cntF (tDn T) (fun d => wrP P D T 0 q d))), rM A 182 f) := by
  obtain ⟨f, e, hf⟩ := C_ask (c := 1) (by decide : 1 ∈ clanL) h hP hD
  refine ⟨f, ?_⟩
  have hk : RK (fun j => (rM A 182 f) (1 + j)) P D := RK_rM (by decide : 1 ∈ clanL) (by decide) h
  have ht : RTK (fun j => (rM A 182 f) (17 + j)) T := hT.congr fun j hj _ _ => rM_off _ _ (by omega)
  have hg : ∀ q, q < 12 → (rM A 182 f) 182 q = letS P D q := fun q hq => by rw [rM_same]; exact hf q hq
  unfold f_X7_valueOf
  rw [e]
  simp only [Option.bind_some]
  rw [C_pairs hk ht hP.1 hn hg]
  simp only [Option.bind_some]
  rw [C_pairs hk ht hP.1 hn hg]
  rfl
theorem F_writersOf {B : Mm} (h : RB B P D) (hP : WFP P) (hD : WFD P D) {l : Nat} (hl : l < 28) : f_X11_writersOf (nI l) B = some (setF (pN P) (fun q => can P D q l), B) := by
  have hN := hP.1
  unfold f_X11_writersOf
  refine loop_set (fun _ _ _ _ => none) (fun k => f_X11_writersOf_4b k) (fun f i a => f (nI l) a (nI i) B) (pN P) _ (fun a => some (a, B)) (by omega) ?_ ?_
  · intro rec i a hi
    show f_X11_writersOf_4b rec (nI l) a (nI i) B = _
    simp only [f_X11_writersOf_4b, f_X11_writersOf_27, nm]
    rw [h.1.1.1, if_neg (nI_ge_f hi (by omega)), F_canWrite h.1 h.2.1 h.2.2 hP hD hi hl]
    simp only [Option.bind_some]
    rw [nI_1]
    by_cases c : can P D i l = true
    · rw [if_pos c, if_neg (by decide), if_pos c]
    · rw [if_neg c, if_pos rfl, if_neg c]
  · intro rec a
    show f_X11_writersOf_4b rec (nI l) a (nI (pN P)) B = _
    simp only [f_X11_writersOf_4b]
    rw [h.1.1.1, if_pos (nI_ge_t (Nat.le_refl _) (by omega))]
theorem alo_bit {l : Nat} (hl : l < 28) : aloS P D (shl 1 (nI l)) = setF (pN P) (fun q => can P D q l) := by
  unfold aloS
  refine setF_congr fun q hq => ?_
  rw [Bool.eq_iff_iff, decide_eq_true_eq, i32_0]
  constructor
  · intro h
    have := h l (by omega)
    rw [b_and, bt_one (by omega) (by omega), bt_not _ (by omega), bt_letS (by omega)] at this
    simpa [hl] using this
  · intro h i hi
    rw [b_and, bt_one (by omega) hi, bt_not _ hi, bt_letS hi]
    by_cases c : i = l
    · subst c; simp [hl, h]
    · simp [c]
theorem op_letter (x y : Int32) (h : RR S P D T W E) : Good (f_X10_letter x y) (f_X11_letter x y) S := by
  have hN := h.wP.1
  have hn := h.wT.1.1
  have h0 := h.C.1
  rcases nI_cs x (n := 28) (by omega) with hx | ⟨l, hl, rfl⟩
  · refine good_id h (r := -2) ?_ ?_
    · simp only [f_X10_letter, C_isLetter0 hx, Option.bind_some, if_true]
    · simp only [f_X11_letter, nm, uM_id h0, F_isLetter0 hx, Option.bind_some, if_true]
  · obtain ⟨c0, c1, c2⟩ := k1l h.K hl
    have wd := h.wD.1 l hl
    rcases nI_cs y (n := 6) (by omega) with hy | ⟨j, hj, rfl⟩
    · refine good_id h (r := -2) ?_ ?_
      · simp only [f_X10_letter, C_isLetter1 hl, Option.bind_some, i10, if_false]
        exact tsw_o (n := 6) rfl (by omega) hy
      · simp only [f_X11_letter, nm, uM_id h0, F_isLetter1 hl, Option.bind_some, i10, if_false]
        rw [if_neg (show ¬ y = 0 from of_eq_false (ne_o0 (by omega) hy (by omega))), if_neg (show ¬ y = 1 from of_eq_false (ne_o (by omega) hy (j := 1) (by omega))), if_neg (show ¬ y = 2 from of_eq_false (ne_o (by omega) hy (j := 2) (by omega))), if_neg (show ¬ y = 3 from of_eq_false (ne_o (by omega) hy (j := 3) (by omega))), if_neg (show ¬ y = 4 from of_eq_false (ne_o (by omega) hy (j := 4) (by omega))), if_neg (show ¬ y = 5 from of_eq_false (ne_o (by omega) hy (j := 5) (by omega)))]
    · have cls : f_X10_letter (nI l) (nI j) S = List.getD [some (eo (dOw D l), S), some (eo (dLo D l), S), some (if dLo D l = 0 then -1 else dLa D l, S), (f_X7_writers (shl 1 (nI l)) S).bind (fun q => some (q.1, q.2)), (f_X0_changesOf_32 (nI l) S).bind (fun q => some (q.1, q.2)), (f_X7_valueOf (nI l) S).bind (fun q => some (q.1, q.2))] j (some (-2, S)) := by
        simp only [f_X10_letter, C_isLetter1 hl, Option.bind_some, i10, if_false]
        rw [tsw_nI _ _ (by omega), gd_t (by omega) (by omega), gd_t (by omega) (by omega), gd_t (by omega) (by omega), ix_nI (by omega), c0, c1, c2]
      have hj2 : j = 0 ∨ j = 1 ∨ j = 2 ∨ j = 3 ∨ j = 4 ∨ j = 5 := by omega
      rcases hj2 with rfl | rfl | rfl | rfl | rfl | rfl
      · refine good_id h cls ?_
        simp only [f_X11_letter, nm, uM_id h0, F_isLetter1 hl, Option.bind_some, i10, if_false]
        rw [if_pos (by decide +kernel), F_ownerOf h.B.2.1 hl]
        rfl
      · refine good_id h cls ?_
        simp only [f_X11_letter, nm, uM_id h0, F_isLetter1 hl, Option.bind_some, i10, if_false]
        rw [if_neg (by decide +kernel), if_pos (by decide +kernel), F_borrowerOf h.B.2.1 hl]
        rfl
      · refine good_id h cls ?_
        simp only [f_X11_letter, nm, uM_id h0, F_isLetter1 hl, Option.bind_some, i10, if_false]
        rw [if_neg (by decide +kernel), if_neg (by decide +kernel), if_pos (by decide +kernel), F_borrowerOf h.B.2.1 hl]
        simp only [Option.bind_some]
        by_cases c : dLo D l = 0
        · rw [if_pos ((eo_m1 (by omega)).mpr c), if_pos c]
        · rw [if_neg (by rw [eo_m1 (by omega)]; exact c), if_neg c, nI_lit 60, nI_add, gd_t (by omega) (by omega), ix_nI (by omega), (h.B.2.1.2.2.2.1 l hl).2.2 c]
      · obtain ⟨f, e⟩ := C_writers h.K h.wP h.wD (shl 1 (nI l))
        have a1 : agS S (rM S 182 f) := agS_rM (by decide)
        have h1 := h.scr a1
        refine good_ro h (r := aloS P D (shl 1 (nI l))) (S1 := rM S 182 f) (S2 := rM S 182 f) ?_ a1 ?_ agS.rfl
        · rw [cls]
          show (f_X7_writers (shl 1 (nI l)) S).bind _ = _
          rw [e]
          rfl
        · simp only [f_X11_letter, nm, uM_id h1.C.1, F_isLetter1 hl, Option.bind_some, i10, if_false]
          rw [if_neg (by decide +kernel), if_neg (by decide +kernel), if_neg (by decide +kernel), if_pos (by decide +kernel), F_writersOf h1.B h.wP h.wD hl, alo_bit hl]
          rfl
      · refine good_id h (r := nI (cntF (dLn D) (fun i => decide (W (5 * i) = nI l)))) ?_ ?_
        · rw [cls]
          show (f_X0_changesOf_32 (nI l) S).bind _ = _
          rw [C_changesOf h.1.1.2.2.1 h.R.1.2 h.1.1.2.2.2]
          rfl
        · simp only [f_X11_letter, nm, uM_id h0, F_isLetter1 hl, Option.bind_some, i10, if_false]
          rw [if_neg (by decide +kernel), if_neg (by decide +kernel), if_neg (by decide +kernel), if_neg (by decide +kernel), if_pos (by decide +kernel), F_changesOf h.B.2.1.1.2.2 h.R.1.2 h.2.1.1.2.2]
          rfl
      · obtain ⟨f, e⟩ := C_value h.K h.TK h.wP h.wD hn (nI l)
        have a1 : agS S (rM S 182 f) := agS_rM (by decide)
        have h1 := h.scr a1
        obtain ⟨g, e2⟩ := F_value h1.B h1.TF h.wP h.wD hn (nI l)
        have nz : ∀ d, d < tDn T → tDs T d ≠ 0 := fun d hd => (h.wT.2.2.2 d hd).2.1
        refine good_ro h (r := nI (sumF (pN P) (fun q => cntF (tDn T) (fun d => wrP P D T (shl 1 (nI l)) q d))) - nI (sumF (pN P) (fun q => cntF (tDn T) (fun d => wrP P D T 0 q d)))) (S1 := rM S 182 f) (S2 := rM (rM S 182 f) 267 g) (cls.trans ?_) a1 ?_ (agS_rM (by decide))
        · show (f_X7_valueOf (nI l) S).bind _ = _
          rw [e]
          rfl
        · simp only [f_X11_letter, nm, uM_id h1.C.1, F_isLetter1 hl, Option.bind_some, i10, if_false]
          rw [if_neg (by decide +kernel), if_neg (by decide +kernel), if_neg (by decide +kernel), if_neg (by decide +kernel), if_neg (by decide +kernel), if_pos (by decide +kernel), e2]
          simp only [Option.bind_some]
          have a1 : sumF (pN P) (fun q => cntF (tDn T) (fun d => wrP P D T (shl 1 (nI l)) q d)) = sumF (tDn T) (fun d => cntF (pN P) (fun q => wrP P D T (shl 1 (nI l)) q d)) := cnt_swap _ _ _
          have a2 : sumF (pN P) (fun q => cntF (tDn T) (fun d => wrP P D T 0 q d)) = sumF (tDn T) (fun d => cntF (pN P) (fun q => wrP P D T 0 q d)) := cnt_swap _ _ _
          rw [a1, a2, sumF_congr (fun d hd => cntF_congr (fun q _ => wr_eq nz (shl 1 (nI l)) hd q)), sumF_congr (fun d hd => cntF_congr (fun q _ => wr_eq0 nz hd q))]
theorem op_deed (x y : Int32) (h : RR S P D T W E) : Good (f_X10_deed x y) (f_X11_deed x y) S := by
  have hN := h.wP.1
  have hn := h.wT.1.1
  have h0 := h.C.1
  rcases nI_cs x (n := tDn T) (by omega) with hx | ⟨d, hd, rfl⟩
  · refine good_id h (r := -2) ?_ ?_
    · simp only [f_X10_deed, C_isDeed0 h.TK hx, Option.bind_some, if_true]
    · simp only [f_X11_deed, nm, uM_id h0, F_isDeed0 h.TF hx, Option.bind_some, if_true]
  · obtain ⟨c0, c1, -⟩ := t17d h.TK hd
    obtain ⟨s1, s2, s3⟩ := k1d h.K (by omega : d < 8)
    have cls : ∀ y, f_X10_deed (nI d) y S = tsw y 0 [some (tDs T d, S), some (nI (tDl T d), S), some (dSg D d, S), some (dFg D d, S), some (dSo D d, S), (f_X7_signers (tDs T d) S).bind (fun q => some (q.1, q.2)), (f_X7_writers (tDs T d) S).bind (fun q => some (q.1, q.2)), (f_X7_needed (tDs T d) S).bind (fun q => some (q.1, q.2))] (some (-2, S)) := fun y => by
      simp only [f_X10_deed, C_isDeed1 h.TK hn hd, Option.bind_some, i10, if_false, nm]
      rw [gd_t (by omega) (by omega), gd_t (by omega) (by omega), gd_t (by omega) (by omega), gd_t (by omega) (by omega), gd_t (by omega) (by omega), ix_nI (by omega), c0, c1, s1, s2, s3]
    have refH : ∀ B, RR B P D T W E → ∃ g, (∀ q, q < 12 → g q = letS P D q) ∧ f_X11_findsHands B = some (rM B 267 g) := fun B hB => by
      obtain ⟨g, e, hg⟩ := F_findsHands hB.B h.wP h.wD
      exact ⟨g, hg, e⟩
    rcases nI_cs y (n := 8) (by omega) with hy | ⟨j, hj, rfl⟩
    · obtain ⟨g, hg, e⟩ := refH S h
      refine good_ro h (r := -2) ((cls y).trans (tsw_o (n := 8) rfl (by omega) hy)) agS.rfl (S2 := rM S 267 g) ?_ (agS_rM (by decide))
      simp only [f_X11_deed, nm, uM_id h0, F_isDeed1 h.TF hn hd, Option.bind_some, i10, if_false]
      rw [if_neg (show ¬ y = 0 from of_eq_false (ne_o0 (by omega) hy (by omega))), if_neg (show ¬ y = 1 from of_eq_false (ne_o (by omega) hy (j := 1) (by omega))), if_neg (show ¬ y = 2 from of_eq_false (ne_o (by omega) hy (j := 2) (by omega))), if_neg (show ¬ y = 3 from of_eq_false (ne_o (by omega) hy (j := 3) (by omega))), if_neg (show ¬ y = 4 from of_eq_false (ne_o (by omega) hy (j := 4) (by omega))), e]
      simp only [Option.bind_some]
      rw [if_neg (show ¬ y = 5 from of_eq_false (ne_o (by omega) hy (j := 5) (by omega))), if_neg (show ¬ y = 6 from of_eq_false (ne_o (by omega) hy (j := 6) (by omega))), if_neg (show ¬ y = 7 from of_eq_false (ne_o (by omega) hy (j := 7) (by omega)))]
    · obtain ⟨t1, t2, -⟩ := h.TF.2.2.2.2 d hd
      obtain ⟨w1, w2, w3⟩ := h.B.2.1.2.2.2.2 d (by omega)
      have hj2 : j = 0 ∨ j = 1 ∨ j = 2 ∨ j = 3 ∨ j = 4 ∨ j = 5 ∨ j = 6 ∨ j = 7 := by omega
      have cl := (cls (nI j)).trans (tsw_nI _ _ (by omega))
      rcases hj2 with rfl | rfl | rfl | rfl | rfl | rfl | rfl | rfl
      · refine good_id h cl ?_
        simp only [f_X11_deed, nm, uM_id h0, F_isDeed1 h.TF hn hd, Option.bind_some, i10, if_false]
        rw [if_pos (by decide +kernel), gd_t (by omega) (by omega), ix_nI (by omega), t2]
      · refine good_id h cl ?_
        simp only [f_X11_deed, nm, uM_id h0, F_isDeed1 h.TF hn hd, Option.bind_some, i10, if_false]
        rw [if_neg (by decide +kernel), if_pos (by decide +kernel), gd_t (by omega) (by omega), ix_nI (by omega), t1]
      · refine good_id h cl ?_
        simp only [f_X11_deed, nm, uM_id h0, F_isDeed1 h.TF hn hd, Option.bind_some, i10, if_false]
        rw [if_neg (by decide +kernel), if_neg (by decide +kernel), if_pos (by decide +kernel), nI_lit 124, nI_add, gd_t (by omega) (by omega), ix_nI (by omega), w1]
      · refine good_id h cl ?_
        simp only [f_X11_deed, nm, uM_id h0, F_isDeed1 h.TF hn hd, Option.bind_some, i10, if_false]
        rw [if_neg (by decide +kernel), if_neg (by decide +kernel), if_neg (by decide +kernel), if_pos (by decide +kernel), nI_lit 132, nI_add, gd_t (by omega) (by omega), ix_nI (by omega), w2]
      · refine good_id h cl ?_
        simp only [f_X11_deed, nm, uM_id h0, F_isDeed1 h.TF hn hd, Option.bind_some, i10, if_false]
        rw [if_neg (by decide +kernel), if_neg (by decide +kernel), if_neg (by decide +kernel), if_neg (by decide +kernel), if_pos (by decide +kernel), nI_lit 140, nI_add, gd_t (by omega) (by omega), ix_nI (by omega), w3, i32_add_sub]
      · obtain ⟨f, e⟩ := C_signers h.K h.wP h.wD (tDs T d)
        have a1 : agS S (rM S 182 f) := agS_rM (by decide)
        have h1 := h.scr a1
        obtain ⟨g, hg, e2⟩ := refH _ h1
        have a2 : agS (rM S 182 f) (rM (rM S 182 f) 267 g) := agS_rM (by decide)
        have h2 := h1.scr a2
        refine good_ro h (r := sgnS P D (tDs T d)) (S1 := rM S 182 f) (S2 := rM (rM S 182 f) 267 g) (cl.trans ?_) a1 ?_ a2
        · show (f_X7_signers (tDs T d) S).bind _ = _
          rw [e]; rfl
        · simp only [f_X11_deed, nm, uM_id h1.C.1, F_isDeed1 h1.TF hn hd, Option.bind_some, i10, if_false]
          rw [if_neg (by decide +kernel), if_neg (by decide +kernel), if_neg (by decide +kernel), if_neg (by decide +kernel), if_neg (by decide +kernel), e2]
          simp only [Option.bind_some]
          rw [if_pos (by decide +kernel), gd_t (by omega) (by omega), ix_nI (by omega), (h2.TF.2.2.2.2 d hd).2.1, F_signersOf h2.B h.wP (fun q hq => by rw [rM_same]; exact hg q hq)]
          rfl
      · obtain ⟨f, e⟩ := C_writers h.K h.wP h.wD (tDs T d)
        have a1 : agS S (rM S 182 f) := agS_rM (by decide)
        have h1 := h.scr a1
        obtain ⟨g, hg, e2⟩ := refH _ h1
        have a2 : agS (rM S 182 f) (rM (rM S 182 f) 267 g) := agS_rM (by decide)
        have h2 := h1.scr a2
        refine good_ro h (r := aloS P D (tDs T d)) (S1 := rM S 182 f) (S2 := rM (rM S 182 f) 267 g) (cl.trans ?_) a1 ?_ a2
        · show (f_X7_writers (tDs T d) S).bind _ = _
          rw [e]; rfl
        · simp only [f_X11_deed, nm, uM_id h1.C.1, F_isDeed1 h1.TF hn hd, Option.bind_some, i10, if_false]
          rw [if_neg (by decide +kernel), if_neg (by decide +kernel), if_neg (by decide +kernel), if_neg (by decide +kernel), if_neg (by decide +kernel), e2]
          simp only [Option.bind_some]
          rw [if_neg (by decide +kernel), if_pos (by decide +kernel), gd_t (by omega) (by omega), ix_nI (by omega), (h2.TF.2.2.2.2 d hd).2.1, F_aloneOf h2.B.1 h.wP (fun q hq => by rw [rM_same]; exact hg q hq)]
          rfl
      · obtain ⟨f, e⟩ := C_needed h.K h.wP h.wD (tDs T d)
        have a1 : agS S (rM S 182 f) := agS_rM (by decide)
        have h1 := h.scr a1
        obtain ⟨g, hg, e2⟩ := refH _ h1
        have a2 : agS (rM S 182 f) (rM (rM S 182 f) 267 g) := agS_rM (by decide)
        have h2 := h1.scr a2
        refine good_ro h (r := needS P D (tDs T d)) (S1 := rM S 182 f) (S2 := rM (rM S 182 f) 267 g) (cl.trans ?_) a1 ?_ a2
        · show (f_X7_needed (tDs T d) S).bind _ = _
          rw [e]; rfl
        · simp only [f_X11_deed, nm, uM_id h1.C.1, F_isDeed1 h1.TF hn hd, Option.bind_some, i10, if_false]
          rw [if_neg (by decide +kernel), if_neg (by decide +kernel), if_neg (by decide +kernel), if_neg (by decide +kernel), if_neg (by decide +kernel), e2]
          simp only [Option.bind_some]
          rw [if_neg (by decide +kernel), if_neg (by decide +kernel), if_pos (by decide +kernel), gd_t (by omega) (by omega), ix_nI (by omega), (h2.TF.2.2.2.2 d hd).2.1, F_neededFor h2.B h.wP (fun q hq => by rw [rM_same]; exact hg q hq)]
          rfl
end VAL
