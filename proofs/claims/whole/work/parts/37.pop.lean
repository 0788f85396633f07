/-! ===== how many bits: two ways to count ===== -/
theorem nI_and (a b : Nat) : nI a &&& nI b = nI (a &&& b) := by
  apply Int32.toBitVec_inj.1
  show BitVec.ofNat 32 a &&& BitVec.ofNat 32 b = BitVec.ofNat 32 (a &&& b)
  apply BitVec.eq_of_getLsbD_eq
  intro i hi
  simp [hi]
def pcB : Nat → Nat → Nat
  | 0, _ => 0
  | w + 1, n => n % 2 + pcB w (n / 2)
theorem pcB_s (w n : Nat) : pcB (w + 1) n = n % 2 + pcB w (n / 2) := rfl
theorem pcB_le : ∀ (w n : Nat), pcB w n ≤ w := by
  intro w
  induction w with
  | zero => intro n; exact Nat.le_refl _
  | succ w ih => intro n; rw [pcB_s]; have := ih (n / 2); omega
theorem pcB_0 : ∀ w, pcB w 0 = 0 := by
  intro w
  induction w with
  | zero => rfl
  | succ w ih => rw [pcB_s, Nat.zero_div, ih]
theorem and_half (a b : Nat) : (a &&& b) / 2 = (a / 2) &&& (b / 2) := by
  have := Nat.shiftRight_and_distrib (a := a) (b := b) (i := 1)
  simpa [Nat.shiftRight_eq_div_pow] using this
theorem and_par (a b : Nat) : (a &&& b) % 2 = (a % 2) &&& (b % 2) := by
  have := Nat.and_mod_two_pow (a := a) (b := b) (n := 1)
  simpa using this
theorem pcB_drop : ∀ (w n : Nat), 0 < n → n < 2 ^ w → pcB w (n &&& (n - 1)) + 1 = pcB w n := by
  intro w
  induction w with
  | zero => intro n h1 h2; simp at h2; omega
  | succ w ih =>
    intro n h1 h2
    rw [pcB_s, pcB_s, and_half, and_par]
    by_cases c : n % 2 = 1
    · have e1 : (n - 1) / 2 = n / 2 := by omega
      have e2 : (n - 1) % 2 = 0 := by omega
      rw [e1, e2, c, Nat.and_self]
      simp
      omega
    · have e0 : n % 2 = 0 := by omega
      have e1 : (n - 1) / 2 = n / 2 - 1 := by omega
      have := ih (n / 2) (by omega) (by rw [Nat.pow_succ] at h2; omega)
      rw [e1, e0]
      simp
      omega
theorem nI_sub1 {n : Nat} (h : 0 < n) : nI n - 1 = nI (n - 1) := by rw [nI_lit 1, pk_sub (by omega)]
theorem nI_0iff {n : Nat} (h : n < 4294967296) : nI n = 0 ↔ n = 0 := by
  constructor
  · intro e
    have : (nI n).toBitVec.toNat = (0 : Int32).toBitVec.toNat := by rw [e]
    rw [pk_tn (by omega)] at this
    simpa using this
  · intro e; rw [e]; rfl
theorem F_ones (B : Mm) {n : Nat} (hn : n < 4294967296) : ∀ w, n < 2 ^ w → w = 32 → f_X11_ones (nI n) B = some (nI (pcB w n), B) := by
  intro w _ hw
  have hw2 : (2:Nat) ^ w = 4294967296 := by rw [hw]
  unfold f_X11_ones
  have key : ∀ (m fuel k n : Nat), pcB w n = m → n < 4294967296 → m < fuel → f_X11_ones_4 fuel (nI k) (nI n) B = some (nI (k + m), B) := by
    intro m
    induction m with
    | zero =>
      intro fuel k n h1 h2 h3
      cases fuel with
      | zero => omega
      | succ f =>
        have h0 : n = 0 := by
          apply Classical.byContradiction
          intro h
          have := pcB_drop w n (by omega) (by omega)
          omega
        show f_X11_ones_4b (f_X11_ones_4 f) (nI k) (nI n) B = _
        simp only [f_X11_ones_4b]
        rw [if_pos ((nI_0iff h2).mpr h0)]
        rfl
    | succ m ih =>
      intro fuel k n h1 h2 h3
      cases fuel with
      | zero => omega
      | succ f =>
        have h0 : n ≠ 0 := by
          intro h
          subst h
          have : pcB w 0 = 0 := pcB_0 w
          omega
        have hd := pcB_drop w n (by omega) (by omega)
        show f_X11_ones_4b (f_X11_ones_4 f) (nI k) (nI n) B = _
        simp only [f_X11_ones_4b, nm]
        rw [if_neg (fun e => h0 ((nI_0iff h2).mp e)), nI_sub1 (by omega), nI_and, nI_1]
        rw [ih f (k + 1) (n &&& (n - 1)) (by omega) (Nat.lt_of_le_of_lt Nat.and_le_left h2) (by omega)]
        rw [show k + 1 + m = k + (m + 1) by omega]
  have := key (pcB w n) FU 0 n rfl hn (by have := pcB_le w n; unfold FU; omega)
  rw [Nat.zero_add] at this
  exact this
