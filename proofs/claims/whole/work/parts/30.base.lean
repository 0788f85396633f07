/-! ===== pure rows: Int32 by its bits (pasted from kit/laws/BITS) ===== -/
def bt (x : Int32) (i : Nat) : Bool := x.toBitVec.getLsbD i
theorem b_ext {x y : Int32} (h : ∀ i, i < 32 → bt x i = bt y i) : x = y := Int32.toBitVec_inj.mp (BitVec.eq_of_getLsbD_eq (fun i hi => h i hi))
theorem b_or (x y : Int32) (i : Nat) : bt (x ||| y) i = (bt x i || bt y i) := by unfold bt; rw [Int32.toBitVec_or, BitVec.getLsbD_or]
theorem b_and (x y : Int32) (i : Nat) : bt (x &&& y) i = (bt x i && bt y i) := by unfold bt; rw [Int32.toBitVec_and, BitVec.getLsbD_and]
theorem b_xor (x y : Int32) (i : Nat) : bt (x ^^^ y) i = (bt x i ^^ bt y i) := by unfold bt; rw [Int32.toBitVec_xor, BitVec.getLsbD_xor]
theorem b_big {x : Int32} {i : Nat} (h : 32 ≤ i) : bt x i = false := BitVec.getLsbD_of_ge _ _ h
theorem b_m1 : ∀ i, i < 32 → bt (-1) i = true := by decide +kernel
theorem b_0 (i : Nat) : bt 0 i = false := BitVec.getLsbD_zero
theorem s_l : ∀ n, n < 32 → ((nI n &&& 31).toBitVec.smod 32).toNat = n := by decide +kernel
theorem b_shl (n : Nat) (hn : n < 32) (x : Int32) {i : Nat} (hi : i < 32) : bt (x <<< (nI n &&& 31)) i = (decide (n ≤ i) && bt x (i - n)) := by
  unfold bt
  rw [Int32.toBitVec_shiftLeft]
  show (x.toBitVec <<< ((nI n &&& 31).toBitVec.smod 32).toNat).getLsbD i = _
  rw [s_l n hn, BitVec.getLsbD_shiftLeft]
  rcases Nat.lt_or_ge i n with h | h
  · simp [h, Nat.not_le.mpr h]
  · simp [hi, h, Nat.not_lt.mpr h]
theorem b_sshr (n : Nat) (hn : n < 32) (x : Int32) {i : Nat} (hi : i < 32) : bt (x >>> (nI n &&& 31)) i = if n + i < 32 then bt x (n + i) else bt x 31 := by
  unfold bt
  rw [Int32.toBitVec_shiftRight]
  show (x.toBitVec.sshiftRight ((nI n &&& 31).toBitVec.smod 32).toNat).getLsbD i = _
  rw [s_l n hn, BitVec.getLsbD_sshiftRight, BitVec.msb_eq_getLsbD_last]
  simp [hi]
/-! ===== ints that are numbers ===== -/
theorem nI_lit (n : Nat) : (OfNat.ofNat n : Int32) = nI n := rfl
theorem nI_m1 : (-1 : Int32) = nI 0 - 1 := by decide +kernel
theorem nI_inj {a b : Nat} (ha : a < 2147483648) (hb : b < 2147483648) : nI a = nI b ↔ a = b := nI_eq ha hb
theorem ix_nI {a : Nat} (h : a < 2147483648) : ix (nI a) = a := nI_clamp h
theorem inB_nI {k n : Nat} (hk : k < 2147483648) : (inB (nI k) n = true) ↔ k < n := by
  unfold inB
  rw [Bool.and_eq_true, decide_eq_true_eq, decide_eq_true_eq, nI_toInt hk]
  omega
theorem inB_in {i : Int32} {n : Nat} (h : inB i n = true) (hn : n < 2147483648) : ∃ k, k < n ∧ i = nI k := by
  obtain ⟨j, hj, e⟩ := vp_in_of (inB_vp h) hn
  exact ⟨j, hj, e⟩
theorem nI_neg {a : Nat} (h : a < 2147483648) : (nI a < 0) ↔ False := iff_false_intro (nI_pos h)
theorem nI_nn {a : Nat} (h : a < 2147483648) : (0 ≤ nI a) ↔ True := iff_true_intro (nI_pos' h)
/-- an int outside of 0 .. n - 1, or one of them -/
theorem nI_cs (x : Int32) {n : Nat} (hn : n < 2147483648) : (x < 0 ∨ nI n ≤ x) ∨ ∃ j : Nat, j < n ∧ x = nI j := by
  rcases pk_ix x hn with h | h | h
  · exact Or.inl (Or.inl h)
  · exact Or.inl (Or.inr h)
  · exact Or.inr h
/-- a number for 'none' or one: 0, or one more -/
def eo (n : Nat) : Int32 := nI n - 1
theorem eo_0 : eo 0 = -1 := by decide +kernel
theorem eo_s (n : Nat) : eo (n + 1) = nI n := nI_pred n
theorem nI_eo (n : Nat) : nI n - 1 = eo n := rfl
theorem i32_sub_add (x y : Int32) : x - y + y = x := by
  apply Int32.toBitVec_inj.mp
  simp
theorem i32_add_sub (x y : Int32) : x + y - y = x := by
  apply Int32.toBitVec_inj.mp
  simp
theorem eo_1 (n : Nat) : eo n + 1 = nI n := i32_sub_add _ _
theorem eo_m1 {n : Nat} (h : n < 2147483648) : eo n = -1 ↔ n = 0 := by
  cases n with
  | zero => simp [eo_0]
  | succ n =>
    rw [eo_s]
    refine ⟨fun e => ?_, fun e => by omega⟩
    have := nI_pos' (n := n) (by omega)
    rw [e] at this
    exact absurd this (by decide)
theorem eo_nI {n q : Nat} (h : n < 2147483648) (hq : q < 2147483648) : eo n = nI q ↔ n = q + 1 := by
  cases n with
  | zero =>
    rw [eo_0]
    refine ⟨fun e => ?_, fun e => by omega⟩
    have := nI_pos' (n := q) hq
    rw [← e] at this
    exact absurd this (by decide)
  | succ n => rw [eo_s, nI_inj (by omega) hq]; omega
theorem eo_inj {a b : Nat} (ha : a < 2147483648) (hb : b < 2147483648) : eo a = eo b ↔ a = b := by
  refine ⟨fun e => ?_, fun e => by rw [e]⟩
  have : eo a + 1 = eo b + 1 := by rw [e]
  rw [eo_1, eo_1] at this
  exact (nI_inj ha hb).mp this
theorem uM_id {S : Mm} {a i : Nat} {v : Int32} (h : S a i = v) : uM S a i v = S := by
  funext k j
  unfold uM
  split
  · rename_i q; rw [q.1, q.2, h]
  · rfl
theorem uM_at (S : Mm) (a i k j : Nat) (v : Int32) : uM S a i v k j = if k = a ∧ j = i then v else S k j := rfl
theorem rM_at (S : Mm) (a k : Nat) (f : Nat → Int32) : rM S a f k = if k = a then f else S k := rfl
/-! ===== one bit ===== -/
theorem bt_nI1 (i : Nat) (h : i < 32) : bt (nI 1) i = decide (i = 0) := (by decide +kernel : ∀ i, i < 32 → bt (nI 1) i = decide (i = 0)) i h
theorem bt_one {q i : Nat} (hq : q < 32) (hi : i < 32) : bt (shl 1 (nI q)) i = decide (i = q) := by
  unfold shl
  rw [b_shl q hq _ hi]
  by_cases h : q ≤ i
  · rw [show (1 : Int32) = nI 1 from rfl, bt_nI1 _ (by omega)]
    simp only [h, decide_true, Bool.true_and]
    congr 1
    apply propext
    omega
  · simp only [h, decide_false, Bool.false_and]
    rw [eq_comm, decide_eq_false_iff_not]
    omega
theorem tb_eq {x : Int32} {q : Nat} (hq : q < 32) : shr x (nI q) &&& 1 = if bt x q = true then 1 else 0 := by
  apply b_ext
  intro i hi
  rw [b_and]
  unfold shr
  rw [b_sshr q hq _ hi, show (1 : Int32) = nI 1 from rfl, bt_nI1 i hi]
  by_cases h0 : i = 0
  · subst h0
    simp only [decide_true, Bool.and_true, Nat.add_zero, hq, if_true]
    cases bt x q <;> decide +kernel
  · simp only [h0, decide_false, Bool.and_false]
    cases bt x q
    · rw [if_neg (by decide), b_0]
    · rw [if_pos rfl, bt_nI1 i hi, decide_eq_false h0]
theorem tb_1 {x : Int32} {q : Nat} (hq : q < 32) : (shr x (nI q) &&& 1 = 1) ↔ bt x q = true := by
  rw [tb_eq hq]
  cases bt x q <;> decide +kernel
theorem tb_0 {x : Int32} {q : Nat} (hq : q < 32) : (shr x (nI q) &&& 1 = 0) ↔ bt x q = false := by
  rw [tb_eq hq]
  cases bt x q <;> decide +kernel
theorem bt_not (x : Int32) {i : Nat} (hi : i < 32) : bt (x ^^^ (-1)) i = !bt x i := by rw [b_xor, b_m1 i hi]; simp
theorem i32_0 {x : Int32} : x = 0 ↔ ∀ i, i < 32 → bt x i = false := by
  refine ⟨fun e i _ => by rw [e, b_0], fun h => b_ext fun i hi => by rw [h i hi, b_0]⟩
/-! ===== sets as ints: who of the first n is so ===== -/
def setF : Nat → (Nat → Bool) → Int32
  | 0, _ => 0
  | n + 1, p => if p n = true then setF n p ||| shl 1 (nI n) else setF n p
theorem bt_setF (p : Nat → Bool) : ∀ (n : Nat), n ≤ 32 → ∀ i, i < 32 → bt (setF n p) i = (decide (i < n) && p i) := by
  intro n
  induction n with
  | zero => intro _ i hi; simp [setF, b_0]
  | succ n ih =>
    intro hn i hi
    have h1 := ih (by omega) i hi
    unfold setF
    by_cases hp : p n = true
    · rw [if_pos hp, b_or, h1, bt_one (by omega) hi]
      by_cases e : i = n
      · subst e; simp [hp]
      · have : decide (i < n + 1) = decide (i < n) := by congr 1; apply propext; omega
        simp [e, this]
    · rw [if_neg hp, h1]
      by_cases e : i = n
      · subst e; simp [hp]
      · have : decide (i < n + 1) = decide (i < n) := by congr 1; apply propext; omega
        rw [this]
theorem setF_congr {n : Nat} {p p' : Nat → Bool} (h : ∀ i, i < n → p i = p' i) : setF n p = setF n p' := by
  induction n with
  | zero => rfl
  | succ n ih =>
    unfold setF
    rw [h n (by omega), ih fun i hi => h i (by omega)]
theorem setF_ext {n : Nat} {p : Nat → Bool} {x : Int32} (hn : n ≤ 32) (h : ∀ i, i < 32 → bt x i = (decide (i < n) && p i)) : x = setF n p := b_ext fun i hi => by rw [h i hi, bt_setF p n hn i hi]
/-! ===== loops ===== -/
theorem itr_s {T : Type} (bot : T) (G : T → T) (n : Nat) : itr bot G (n + 1) = G (itr bot G n) := rfl
/-- counting up: each round below the bound goes on with the next state, at the bound it ends -/
def ff {σ : Type} (step : Nat → σ → σ) : Nat → Nat → σ → σ
  | _, 0, s => s
  | lo, d + 1, s => ff step (lo + 1) d (step lo s)
theorem itr_for {T σ R : Type} (bot : T) (G : T → T) (app : T → Nat → σ → R) (hi : Nat) (step : Nat → σ → σ) (res : σ → R) (I : Nat → σ → Prop) (hs : ∀ rec i s, i < hi → I i s → app (G rec) i s = app rec (i + 1) (step i s) ∧ I (i + 1) (step i s)) (he : ∀ rec s, I hi s → app (G rec) hi s = res s) :
    ∀ (d lo fuel : Nat) (s : σ), lo + d = hi → d < fuel → I lo s → app (itr bot G fuel) lo s = res (ff step lo d s) ∧ I hi (ff step lo d s) := by
  intro d
  induction d with
  | zero =>
    intro lo fuel s hd hf hI
    have : lo = hi := by omega
    subst this
    cases fuel with
    | zero => omega
    | succ f => exact ⟨he _ s hI, hI⟩
  | succ d ih =>
    intro lo fuel s hd hf hI
    cases fuel with
    | zero => omega
    | succ f =>
      obtain ⟨h1, h2⟩ := hs (itr bot G f) lo s (by omega) hI
      rw [itr_s, h1]
      exact ih (lo + 1) f (step lo s) (by omega) (by omega) h2
/-- the same with an early end -/
theorem itr_ex {T σ R : Type} (bot : T) (G : T → T) (app : T → Nat → σ → R) (hi : Nat) (I : Nat → σ → Prop) (P : R → Prop) (hs : ∀ rec i s, i < hi → I i s → (∀ s', I (i + 1) s' → P (app rec (i + 1) s')) → P (app (G rec) i s)) (he : ∀ rec s, I hi s → P (app (G rec) hi s)) :
    ∀ (d lo fuel : Nat) (s : σ), lo + d = hi → d < fuel → I lo s → P (app (itr bot G fuel) lo s) := by
  intro d
  induction d with
  | zero =>
    intro lo fuel s hd hf hI
    have : lo = hi := by omega
    subst this
    cases fuel with
    | zero => omega
    | succ f => exact he _ s hI
  | succ d ih =>
    intro lo fuel s hd hf hI
    cases fuel with
    | zero => omega
    | succ f => exact hs (itr bot G f) lo s (by omega) hI (fun s' hI' => ih (lo + 1) f s' (by omega) (by omega) hI')
theorem ff_set {p : Nat → Bool} : ∀ (d lo : Nat), ff (fun i (a : Int32) => if p i = true then a ||| shl 1 (nI i) else a) lo d (setF lo p) = setF (lo + d) p := by
  intro d
  induction d with
  | zero => intro lo; rfl
  | succ d ih =>
    intro lo
    have : (if p lo = true then setF lo p ||| shl 1 (nI lo) else setF lo p) = setF (lo + 1) p := rfl
    unfold ff
    rw [this, ih (lo + 1)]
    congr 1
    omega
