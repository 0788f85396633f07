/-! ===== the tape cut into tokens: what they are ===== -/
def rn (p : Nat → Bool) : Nat → Nat → Nat
  | 0, s => s
  | d + 1, s => if p s = true then rn p d (s + 1) else s
theorem rn_ge (p : Nat → Bool) : ∀ d s, s ≤ rn p d s ∧ rn p d s ≤ s + d := by
  intro d
  induction d with
  | zero => intro s; exact ⟨Nat.le_refl _, Nat.le_refl _⟩
  | succ d ih =>
    intro s
    unfold rn
    have := ih (s + 1)
    split <;> omega
theorem rn_in (p : Nat → Bool) : ∀ d s i, s ≤ i → i < rn p d s → p i = true := by
  intro d
  induction d with
  | zero => intro s i h1 h2; exact absurd h2 (by show ¬ i < s; omega)
  | succ d ih =>
    intro s i h1 h2
    unfold rn at h2
    by_cases c : p s = true
    · rw [if_pos c] at h2
      by_cases e : i = s
      · rw [e]; exact c
      · exact ih (s + 1) i (by omega) h2
    · rw [if_neg c] at h2; omega
theorem rn_end (p : Nat → Bool) : ∀ d s, rn p d s < s + d → p (rn p d s) = false := by
  intro d
  induction d with
  | zero => intro s h; exact absurd h (by show ¬ s < s + 0; omega)
  | succ d ih =>
    intro s h
    unfold rn at h ⊢
    by_cases c : p s = true
    · rw [if_pos c] at h ⊢
      exact ih (s + 1) (by omega)
    · rw [if_neg c]
      exact eq_false_of_ne_true c
theorem rn_t {p : Nat → Bool} {d s : Nat} (h : p s = true) : rn p (d + 1) s = rn p d (s + 1) := if_pos h
theorem rn_f {p : Nat → Bool} {d s : Nat} (h : p s = false) : rn p d s = s := by
  cases d with
  | zero => rfl
  | succ d => exact if_neg (by rw [h]; decide)
def sgN (k : Nat) : List Nat := if k = 1 then lawL else [59, 34]
def ixB (k : Nat) : Bool := (List.range 256).all (fun c => decide (i2c (nI c) = nI c) && decide ((List.range (sxL.getD k 0)).any (fun i => decide (txC k i = i2b (nI c))) = (sgN k).contains c))
theorem ixB_ok : ixB 1 = true ∧ ixB 3 = true := by decide +kernel
theorem ix_ok {k c : Nat} (hk : k = 1 ∨ k = 3) (hc : c < 256) : i2c (nI c) = nI c ∧ (List.range (sxL.getD k 0)).any (fun i => decide (txC k i = i2b (nI c))) = (sgN k).contains c := by
  have h : ixB k = true := hk.elim (fun e => by rw [e]; exact ixB_ok.1) (fun e => by rw [e]; exact ixB_ok.2)
  have := List.all_eq_true.mp h c (List.mem_range.mpr hc)
  rw [Bool.and_eq_true] at this
  exact ⟨of_decide_eq_true this.1, of_decide_eq_true this.2⟩
theorem imax00 : imax 0 0 = 0 := by decide
theorem C_ixLoop (A : Mm) {k : Nat} (hl : sxL.getD k 0 ≤ 74) (x : Int32) : ∀ (d i fuel : Nat), i + d = sxL.getD k 0 → d < fuel → ∃ r, f_J1_indexOfChar_4cfef_7 k fuel (nI (sxL.getD k 0)) x (nI i) A = some (r, A) ∧ (r < 0 ↔ ∀ j, i ≤ j → j < sxL.getD k 0 → txC k j ≠ x) := by
  intro d
  induction d with
  | zero =>
    intro i fuel h1 h2
    cases fuel with
    | zero => omega
    | succ fu =>
      refine ⟨-1, ?_, ⟨fun _ j a b => by omega, fun _ => by decide⟩⟩
      show f_J1_indexOfChar_4cfef_7b (f_J1_indexOfChar_4cfef_7 k fu) k (nI (sxL.getD k 0)) x (nI i) A = _
      unfold f_J1_indexOfChar_4cfef_7b
      rw [if_pos (nI_ge_t (by omega) (by omega))]
  | succ d ih =>
    intro i fuel h1 h2
    cases fuel with
    | zero => omega
    | succ fu =>
      show ∃ r, f_J1_indexOfChar_4cfef_7b (f_J1_indexOfChar_4cfef_7 k fu) k (nI (sxL.getD k 0)) x (nI i) A = some (r, A) ∧ _
      unfold f_J1_indexOfChar_4cfef_7b
      rw [if_neg (nI_ge_f (by omega) (by omega)), gd_t (by omega) (by omega), ix_nI (by omega)]
      by_cases c : txC k i = x
      · rw [if_pos (show (sxB.getD k []).getD i 0 = x from c)]
        refine ⟨nI i, rfl, ⟨fun z => absurd z (nI_pos (by omega)), fun z => absurd c (z i (Nat.le_refl _) (by omega))⟩⟩
      · rw [if_neg (show ¬ (sxB.getD k []).getD i 0 = x from c), nm_x, nI_1]
        obtain ⟨r, e, g⟩ := ih (i + 1) fu (by omega) (by omega)
        refine ⟨r, e, g.trans ⟨fun z j a b => ?_, fun z j a b => z j (by omega) b⟩⟩
        by_cases q : j = i
        · rw [q]; exact c
        · exact z j (by omega) b
theorem C_indexOf (A : Mm) {k c : Nat} (hk : k = 1 ∨ k = 3) (hc : c < 256) : ∃ r, f_J0_indexOf_0f7a4 k (nI c) A = some (r, A) ∧ (r < 0 ↔ (sgN k).contains c = false) := by
  obtain ⟨-, h2⟩ := ix_ok hk hc
  have hl : sxL.getD k 0 ≤ 74 := by rcases hk with e | e <;> rw [e] <;> decide
  have h0 : 0 < sxL.getD k 0 := by rcases hk with e | e <;> rw [e] <;> decide
  have hm : imin (nI (sxL.getD k 0)) (Int32.ofNat (sxL.getD k 0)) = nI (sxL.getD k 0) := by rcases hk with e | e <;> rw [e] <;> decide
  obtain ⟨r, e, g⟩ := C_ixLoop A hl (i2b (nI c)) (sxL.getD k 0) 0 FU (by omega) (by unfold FU; omega)
  refine ⟨r, ?_, ?_⟩
  · unfold f_J0_indexOf_0f7a4 f_J0_indexOf_7cf53 f_J0_isLatin1_aae02
    simp only [bind_x]
    rw [if_neg (of_eq_false i10), C_length, shr_0]
    simp only [bind_x]
    unfold f_J1_indexOf_4cfef f_J1_canEncode_9a6ad
    rw [if_neg (nI_pos (by omega)), if_neg (show ¬ (255 : Int32) < nI c from fun z => by have := (nI_ltI (a := 255) (b := c) (by omega) (by omega)).mp z; omega)]
    simp only [bind_x]
    rw [if_neg (of_eq_false i10), nm_x, nm_x, imax00, hm, if_pos (show (0 : Int32) < nI (sxL.getD k 0) from (nI_ltI (a := 0) (by omega) (by omega)).mpr h0)]
    unfold f_J1_indexOfChar_4cfef
    rw [nm_x, show (0 : Int32) = nI 0 from rfl, e]
    simp only [bind_x]
  · rw [g, ← h2]
    constructor
    · intro z
      apply eq_false_of_ne_true
      intro q
      obtain ⟨i, hi, q⟩ := List.any_eq_true.mp q
      exact z i (by omega) (List.mem_range.mp hi) (of_decide_eq_true q)
    · intro z j _ hj q
      have : (List.range (sxL.getD k 0)).any (fun i => decide (txC k i = i2b (nI c))) = true := List.any_eq_true.mpr ⟨j, List.mem_range.mpr hj, decide_eq_true q⟩
      rw [z] at this
      cases this
