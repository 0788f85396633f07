/-! ===== the tape cut into tokens: one token, all of them ===== -/
section CUT2
variable {A : Mm} {n r0 : Nat} {b : Nat → Nat}
theorem C_row12 (h : TP A n b) (w : WB n b) : ∀ (d x fuel : Nat), (x + d = n ∨ (d = 0 ∧ n ≤ x ∧ x ≤ n + 1)) → d < fuel → f_X8_cutRow_12 r0 fuel (nI x) A = some (nI (rn (fun i => !decide (b i = 34)) d x + 1), A) := by
  obtain ⟨h1, h2⟩ := h
  obtain ⟨w1, w2⟩ := w
  intro d
  induction d with
  | zero =>
    intro x fuel e1 e2
    cases fuel with
    | zero => omega
    | succ fu =>
      show f_X8_cutRow_12b (f_X8_cutRow_12 r0 fu) r0 (nI x) A = _
      unfold f_X8_cutRow_12b
      rw [h1, if_pos (nI_ge_t (by omega) (by omega)), nI_1]
      rfl
  | succ d ih =>
    intro x fuel e1 e2
    cases fuel with
    | zero => omega
    | succ fu =>
      show f_X8_cutRow_12b (f_X8_cutRow_12 r0 fu) r0 (nI x) A = _
      unfold f_X8_cutRow_12b
      have lt := w2 x (by omega)
      rw [h1, if_neg (nI_ge_f (by omega) (by omega)), gd_t (by omega) (by omega), ix_nI (by omega), h2 x (by omega)]
      unfold rn
      by_cases z : b x = 34
      · rw [z, if_pos (show nI 34 = 34 from rfl), if_neg (by simp), nI_1]
      · rw [if_neg (show ¬ nI (b x) = 34 from fun q => z ((eqc (k := 34) lt (by omega)).mp q)), nm_x, nI_1, if_pos (by simp [z])]
        exact ih (x + 1) fu (by omega) (by omega)
theorem C_cutOne {c s : Nat} (hr : isT r0) (h : TP A n b) (w : WB n b) (h6 : A r0 6 = nI c) (hc : c < 401) (hs : s < n) : f_X8_cutOne r0 (nI s) A = some (nI (tEn n b r0 s), kpM r0 A c (tK n b r0 s) (tV n b r0 s) s) := by
  have h0 := h
  have w0 := w
  obtain ⟨h1, h2⟩ := h
  obtain ⟨w1, w2⟩ := w
  have lt := w2 s hs
  have hk : tw r0 + 1 = 1 ∨ tw r0 + 1 = 3 := hr.elim (fun e => Or.inl (by rw [e]; rfl)) (fun e => Or.inr (by rw [e]; rfl))
  unfold f_X8_cutOne
  rw [gd_t (by omega) (by omega), nm_x, ix_nI (by omega), h2 s hs, C_isOfWord A lt]
  simp only [bind_x]
  by_cases z1 : isW (b s) = true
  · rw [if_pos z1, if_neg (of_eq_false i10), C_cutWord hr h0 w0 h6 hc hs z1]
    rfl
  · rw [if_neg z1, if_pos rfl, C_isDigit A lt]
    simp only [bind_x]
    by_cases z2 : isD (b s) = true
    · rw [if_pos z2, if_neg (of_eq_false i10), C_cutNumber hr h0 w0 h6 hc hs (eq_false_of_ne_true z1) z2]
      rfl
    · rw [if_neg z2, if_pos rfl]
      have ev : tV n b r0 s = nI (b s) := by unfold tV; rw [if_neg z1, if_neg z2]
      have ek : tK n b r0 s = if (sgs r0).contains (b s) = true then 3 else 4 := by unfold tK; rw [if_neg z1, if_neg z2]
      have one : isR r0 (b s) = false → f_X8_cutOne_60 r0 (nI s) (nI (b s)) A = some (nI (tEn n b r0 s), kpM r0 A c (tK n b r0 s) (tV n b r0 s) s) := fun nr => by
        have ee : tEn n b r0 s = s + 1 := by unfold tEn; rw [if_neg z1, if_neg z2, if_neg (by rw [nr]; decide)]
        obtain ⟨r, e, g⟩ := C_indexOf A hk lt
        unfold f_X8_cutOne_60 f_X8_cutOne_78
        rw [(ix_ok hk lt).1, e, ee, ek, ev]
        simp only [bind_x]
        by_cases q : (sgs r0).contains (b s) = true
        · rw [if_neg (fun y => by rw [show (sgN (tw r0 + 1)).contains (b s) = true from q] at g; exact absurd (g.mp y) (by decide)), if_pos q, C_keepT h6 hc]
          simp only [bind_x]
          rw [nI_1]
        · rw [if_pos (g.mpr (eq_false_of_ne_true q)), if_neg q, C_keepT h6 hc]
          simp only [bind_x]
          rw [nI_1]
      by_cases z3 : b s = 34
      · rw [if_pos (show nI (b s) = 34 by rw [z3]; rfl)]
        obtain ⟨r, e, g⟩ := C_indexOf A hk (show 34 < 256 by omega)
        rw [show (34 : Int32) = nI 34 from rfl, e]
        simp only [bind_x]
        by_cases q : (sgs r0).contains 34 = true
        · have nr : isR r0 (b s) = true := by unfold isR; rw [z3, q]; rfl
          have ee : tEn n b r0 s = qE n b (s + 1) + 1 := by unfold tEn; rw [if_neg z1, if_neg z2, if_pos nr]
          rw [if_neg (fun y => by rw [show (sgN (tw r0 + 1)).contains 34 = true from q] at g; exact absurd (g.mp y) (by decide))]
          unfold f_X8_cutRow
          rw [C_keepT h6 hc]
          simp only [bind_x]
          rw [nm_x, nI_1, C_row12 (h0.kp hr) w0 (n - (s + 1)) (s + 1) FU (by omega) (by unfold FU; omega), ee, ek, ev, z3, if_pos q]
          rfl
        · rw [if_pos (g.mpr (eq_false_of_ne_true q))]
          exact one (by unfold isR; rw [eq_false_of_ne_true q, Bool.and_false])
      · rw [if_neg (show ¬ nI (b s) = 34 from fun q => z3 ((eqc (k := 34) lt (by omega)).mp q))]
        exact one (by unfold isR; rw [decide_eq_false z3, Bool.false_and])
/-- where the i-th token begins to be looked for -/
def tp (n : Nat) (b : Nat → Nat) (r0 : Nat) : Nat → Nat
  | 0 => 0
  | i + 1 => tEn n b r0 (sk n b (tp n b r0 i))
def ts (n : Nat) (b : Nat → Nat) (r0 i : Nat) : Nat := sk n b (tp n b r0 i)
/-- what is kept of the first tokens -/
def TKs (A : Mm) (n : Nat) (b : Nat → Nat) (r0 c : Nat) : Prop := ∀ i, i < c → ts n b r0 i < n ∧ A (r0 + 1) i = tK n b r0 (ts n b r0 i) ∧ A (r0 + 2) i = tV n b r0 (ts n b r0 i) ∧ A (r0 + 3) i = nI (ts n b r0 i)
theorem TKs.kp {c s : Nat} (h : TKs A n b r0 c) (hs : s = ts n b r0 c) (hn : s < n) : TKs (kpM r0 A c (tK n b r0 s) (tV n b r0 s) s) n b r0 (c + 1) := by
  intro i hi
  unfold kpM
  rw [uM_off _ _ _ (by omega : r0 + 1 ≠ r0), uM_off _ _ _ (by omega : r0 + 1 ≠ r0 + 3), uM_off _ _ _ (by omega : r0 + 1 ≠ r0 + 2), uM_off _ _ _ (by omega : r0 + 2 ≠ r0), uM_off _ _ _ (by omega : r0 + 2 ≠ r0 + 3), uM_off _ _ _ (by omega : r0 + 3 ≠ r0)]
  by_cases e : i = c
  · subst e
    rw [← hs, uM_eq, uM_eq, uM_eq]
    exact ⟨hn, rfl, rfl, rfl⟩
  · rw [uM_ne _ _ _ e, uM_ne _ _ _ e, uM_ne _ _ _ e]
    obtain ⟨a1, a2, a3, a4⟩ := h i (by omega)
    rw [uM_off _ _ _ (by omega : r0 + 2 ≠ r0 + 1), uM_off _ _ _ (by omega : r0 + 3 ≠ r0 + 2), uM_off _ _ _ (by omega : r0 + 3 ≠ r0 + 1)]
    exact ⟨a1, a2, a3, a4⟩
/-- all tokens: how many ahead of the end -/
def TK (A : Mm) (n : Nat) (b : Nat → Nat) (r0 m : Nat) : Prop := A r0 6 = nI (m + 1) ∧ m ≤ 400 ∧ TKs A n b r0 m ∧ n ≤ ts n b r0 m ∧ A (r0 + 1) m = 0 ∧ A (r0 + 3) m = nI n
theorem en_gt (w : WB n b) {s : Nat} (hs : s < n) : s < tEn n b r0 s ∧ tEn n b r0 s ≤ n + 1 := by
  unfold tEn
  have pos : ∀ p : Nat → Bool, p s = true → s < rn p (n - s) s ∧ rn p (n - s) s ≤ n := fun p hp => by
    have := rn_ge p (n - s - 1) (s + 1)
    rw [show n - s = (n - s - 1) + 1 by omega, rn_t hp]
    omega
  by_cases z1 : isW (b s) = true
  · rw [if_pos z1]
    have := pos (fun i => isW (b i)) z1
    unfold wE; omega
  · rw [if_neg z1]
    by_cases z2 : isD (b s) = true
    · rw [if_pos z2]
      have := pos (fun i => isD (b i)) z2
      unfold dE; omega
    · rw [if_neg z2]
      have := rn_ge (fun i => !decide (b i = 34)) (n - (s + 1)) (s + 1)
      unfold qE
      split <;> omega
theorem C_cut14 (hr : isT r0) (w : WB n b) : ∀ (d x i c fuel : Nat) (A : Mm), (x + d = n ∨ (d = 0 ∧ n ≤ x)) → x ≤ n + 1 → d < fuel → TP A n b → A r0 6 = nI c → A r0 7 = 0 → c ≤ i → i ≤ x → c ≤ 400 → sk n b x = ts n b r0 c → TKs A n b r0 c → ∃ A' m, f_X8_cut_14 r0 fuel (nI x) (nI i) A = some A' ∧ TP A' n b ∧ TK A' n b r0 m ∧ A' r0 7 = 0 ∧ ∀ k, k < r0 ∨ r0 + 4 ≤ k → A' k = A k := by
  have w0 := w
  obtain ⟨w1, w2⟩ := w
  have hrn : r0 = 194 ∨ r0 = 202 := hr
  have fin : ∀ (x c : Nat) (A : Mm), n ≤ x → TP A n b → A r0 6 = nI c → A r0 7 = 0 → c ≤ 400 → sk n b x = ts n b r0 c → TKs A n b r0 c → ∃ A' m, f_X8_cut_65 r0 A = some A' ∧ TP A' n b ∧ TK A' n b r0 m ∧ A' r0 7 = 0 ∧ ∀ k, k < r0 ∨ r0 + 4 ≤ k → A' k = A k := fun x c A hx h h6 h7 hc hsk ht => by
    refine ⟨kpM r0 A c 0 0 n, c, ?_, h.kp hr, ⟨?_, hc, fun i hi => ?_, ?_, ?_, ?_⟩, ?_, fun k hk => kpM_off hk⟩
    · unfold f_X8_cut_65
      rw [h.1, C_keepT h6 (by omega)]
      rfl
    · unfold kpM; rw [uM_eq]
    · unfold kpM
      have ne : i ≠ c := by omega
      rw [uM_off _ _ _ (by omega : r0 + 1 ≠ r0), uM_off _ _ _ (by omega : r0 + 1 ≠ r0 + 3), uM_off _ _ _ (by omega : r0 + 1 ≠ r0 + 2), uM_off _ _ _ (by omega : r0 + 2 ≠ r0), uM_off _ _ _ (by omega : r0 + 2 ≠ r0 + 3), uM_off _ _ _ (by omega : r0 + 3 ≠ r0), uM_ne _ _ _ ne, uM_ne _ _ _ ne, uM_ne _ _ _ ne, uM_off _ _ _ (by omega : r0 + 2 ≠ r0 + 1), uM_off _ _ _ (by omega : r0 + 3 ≠ r0 + 2), uM_off _ _ _ (by omega : r0 + 3 ≠ r0 + 1)]
      exact ht i hi
    · rw [← hsk]
      have := (rn_ge (fun i => isB (b i)) (n - x) x).1
      unfold sk; omega
    · unfold kpM
      rw [uM_off _ _ _ (by omega : r0 + 1 ≠ r0), uM_off _ _ _ (by omega : r0 + 1 ≠ r0 + 3), uM_off _ _ _ (by omega : r0 + 1 ≠ r0 + 2), uM_eq]
    · unfold kpM
      rw [uM_off _ _ _ (by omega : r0 + 3 ≠ r0), uM_eq]
    · unfold kpM
      rw [uM_ne _ _ _ (by decide), uM_off _ _ _ (by omega), uM_off _ _ _ (by omega), uM_off _ _ _ (by omega)]
      exact h7
  intro d
  induction d using Nat.strongRecOn with
  | _ d ih =>
    intro x i c fuel A h1 hx1 h2 h h6 h7 hci hix hc hsk ht
    cases fuel with
    | zero => omega
    | succ fu =>
      show ∃ A' m, f_X8_cut_14b (f_X8_cut_14 r0 fu) r0 (nI x) (nI i) A = some A' ∧ _
      unfold f_X8_cut_14b f_X8_cut_59
      by_cases c0 : 400 ≤ i
      · rw [if_pos (show (400 : Int32) ≤ nI i from nI_ge_t (a := 400) c0 (by omega))]
        exact fin x c A (by omega) h h6 h7 hc hsk ht
      · rw [if_neg (show ¬ (400 : Int32) ≤ nI i from nI_ge_f (a := 400) (by omega) (by omega)), h.1]
        by_cases c1 : n ≤ x
        · rw [if_pos (nI_ge_t c1 (by omega))]
          exact fin x c A c1 h h6 h7 hc hsk ht
        · have lt := w2 x (by omega)
          rw [if_neg (nI_ge_f (by omega) (by omega)), gd_t (by omega) (by omega), ix_nI (by omega), h.2 x (by omega), C_isBlank A lt]
          simp only [bind_x]
          by_cases z : isB (b x) = true
          · rw [if_pos z, if_neg (of_eq_false i10), nm_x, nm_x, nI_1, nI_1]
            have e : sk n b (x + 1) = sk n b x := by
              unfold sk
              rw [show n - x = (n - (x + 1)) + 1 by omega, rn_t (p := fun i => isB (b i)) z]
            exact ih (n - (x + 1)) (by omega) (x + 1) (i + 1) c fu A (by omega) (by omega) (by omega) h h6 h7 (by omega) (by omega) hc (by rw [e]; exact hsk) ht
          · rw [if_neg z, if_pos rfl]
            have e : sk n b x = x := rn_f (eq_false_of_ne_true z)
            have hx : x = ts n b r0 c := by rw [← hsk, e]
            obtain ⟨g1, g2⟩ := en_gt (r0 := r0) w0 (show x < n by omega)
            rw [C_cutOne hr h w0 h6 (by omega) (by omega)]
            simp only [bind_x]
            rw [nm_x, nI_1]
            obtain ⟨A', m, u1, u2, u3, u4, u5⟩ := ih (n - tEn n b r0 x) (by omega) (tEn n b r0 x) (i + 1) (c + 1) fu (kpM r0 A c (tK n b r0 x) (tV n b r0 x) x) (by omega) g2 (by omega) (h.kp hr) (by unfold kpM; rw [uM_eq]) (by unfold kpM; rw [uM_ne _ _ _ (by decide), uM_off _ _ _ (by omega), uM_off _ _ _ (by omega), uM_off _ _ _ (by omega)]; exact h7) (by omega) (by omega) (by omega) (by
              show sk n b (tEn n b r0 x) = sk n b (tEn n b r0 (ts n b r0 c))
              rw [← hx]) (ht.kp hx (by omega))
            exact ⟨A', m, u1, u2, u3, u4, fun k hk => by rw [u5 k hk, kpM_off hk]⟩
theorem C_cut (hr : isT r0) (w : WB n b) (h : TP A n b) : ∃ A' m, f_X8_cut r0 A = some A' ∧ TP A' n b ∧ TK A' n b r0 m ∧ A' r0 7 = 0 ∧ ∀ k, k < r0 ∨ r0 + 4 ≤ k → A' k = A k := by
  have hrn : r0 = 194 ∨ r0 = 202 := hr
  obtain ⟨A', m, u1, u2, u3, u4, u5⟩ := C_cut14 hr w n 0 0 0 FU (uM (uM A r0 6 0) r0 7 0) (Or.inl (Nat.zero_add n)) (by omega) (by have := w.1; unfold FU; omega) (by
    unfold TP at h ⊢
    rw [uM_off _ _ _ (by omega), uM_off _ _ _ (by omega), uM_off _ _ _ (by omega), uM_off _ _ _ (by omega)]
    exact h) (by rw [uM_ne _ _ _ (by decide), uM_eq]; rfl) (uM_eq _ _ _ _) (Nat.le_refl _) (Nat.le_refl _) (by omega) rfl (fun i hi => absurd hi (Nat.not_lt_zero i))
  refine ⟨A', m, ?_, u2, u3, u4, fun k hk => by rw [u5 k hk, uM_off _ _ _ (by omega), uM_off _ _ _ (by omega)]⟩
  unfold f_X8_cut
  rw [nm_x, nm_x]
  exact u1
end CUT2
