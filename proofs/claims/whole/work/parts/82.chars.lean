/-! ===== the signs of a text, on both sides ===== -/
def isB (c : Nat) : Bool := decide (c = 32) || decide (c = 10)
def isW (c : Nat) : Bool := decide (97 ≤ c ∧ c ≤ 122) || decide (65 ≤ c ∧ c ≤ 90)
def isD (c : Nat) : Bool := decide (48 ≤ c ∧ c ≤ 57)
def lawL : List Nat := [59, 43, 45, 42, 47, 40, 41, 60, 61, 62]
theorem eqc {c k : Nat} (hc : c < 256) (hk : k < 256) : (nI c = nI k) ↔ c = k := nI_inj (by omega) (by omega)
theorem ltc {c k : Nat} (hc : c < 256) (hk : k < 256) : (nI c < nI k) ↔ c < k := nI_ltI (by omega) (by omega)
theorem lec {c k : Nat} (hc : c < 256) (hk : k < 256) : (nI c ≤ nI k) ↔ c ≤ k := ⟨fun h => by
  rcases Nat.lt_or_ge k c with z | z
  · exact absurd h (nI_ge_f z (by omega))
  · exact z, fun h => nI_ge_t h (by omega)⟩
theorem C_isBlank (A : Mm) {c : Nat} (hc : c < 256) : f_X10_isBlank (nI c) A = some (if isB c = true then 1 else 0, A) := by
  unfold f_X10_isBlank f_X10_isBlank_12 isB
  by_cases h1 : c = 32
  · subst h1; rfl
  · rw [if_neg (show ¬ nI c = 32 from fun e => h1 ((eqc (k := 32) hc (by omega)).mp e))]
    by_cases h2 : c = 10
    · subst h2; rfl
    · rw [if_neg (show ¬ nI c = 10 from fun e => h2 ((eqc (k := 10) hc (by omega)).mp e))]
      simp [h1, h2]
theorem C_isOfWord (A : Mm) {c : Nat} (hc : c < 256) : f_X8_isOfWord (nI c) A = some (if isW c = true then 1 else 0, A) := by
  have l97 : (nI c < 97) ↔ c < 97 := ltc (k := 97) hc (by omega)
  have l122 : (nI c ≤ 122) ↔ c ≤ 122 := lec (k := 122) hc (by omega)
  have l65 : (nI c < 65) ↔ c < 65 := ltc (k := 65) hc (by omega)
  have l90 : (90 < nI c) ↔ 90 < c := ltc (c := 90) (k := c) (by omega) hc
  unfold f_X8_isOfWord f_X8_isOfWord_12 f_X8_isOfWord_24 f_X8_isOfWord_28 isW
  by_cases h1 : c < 97
  · rw [if_pos (l97.mpr h1)]
    by_cases h2 : c < 65
    · rw [if_pos (l65.mpr h2), if_neg (by simp; omega)]
    · rw [if_neg (fun e => h2 (l65.mp e))]
      by_cases h3 : 90 < c
      · rw [if_pos (l90.mpr h3), if_neg (by simp; omega)]
      · rw [if_neg (fun e => h3 (l90.mp e)), if_pos (by simp; omega)]
  · rw [if_neg (fun e => h1 (l97.mp e))]
    by_cases h4 : c ≤ 122
    · rw [if_pos (l122.mpr h4), if_pos (by simp; omega)]
    · rw [if_neg (fun e => h4 (l122.mp e)), if_neg (fun e => absurd (l65.mp e) (by omega)), if_pos (l90.mpr (by omega)), if_neg (by simp; omega)]
theorem C_isDigit (A : Mm) {c : Nat} (hc : c < 256) : f_X8_isDigit (nI c) A = some (if isD c = true then 1 else 0, A) := by
  have l48 : (nI c < 48) ↔ c < 48 := ltc (k := 48) hc (by omega)
  have l57 : (57 < nI c) ↔ 57 < c := ltc (c := 57) (k := c) (by omega) hc
  unfold f_X8_isDigit f_X8_isDigit_16 isD
  by_cases h1 : c < 48
  · rw [if_pos (l48.mpr h1), if_neg (by simp; omega)]
  · rw [if_neg (fun e => h1 (l48.mp e))]
    by_cases h2 : 57 < c
    · rw [if_pos (l57.mpr h2), if_neg (by simp; omega)]
    · rw [if_neg (fun e => h2 (l57.mp e)), if_pos (by simp; omega)]
/-- the reference's signs: -1 stands behind the last -/
theorem F_isLetterM (B : Mm) : f_X11_isLetter (-1) B = some (0, B) := by
  unfold f_X11_isLetter
  rw [F_isIn0 (Or.inl (by decide))]
  simp only [bind_x]
  rw [if_pos trivial, F_isIn0 (Or.inl (by decide))]
  rfl
theorem F_isLetterC (B : Mm) {c : Nat} (hc : c < 256) : f_X11_isLetter (nI c) B = some (if isW c = true then 1 else 0, B) := by
  have l97 : (nI c < 97) ↔ c < 97 := ltc (k := 97) hc (by omega)
  have l122 : (122 < nI c) ↔ 122 < c := ltc (c := 122) (k := c) (by omega) hc
  have l65 : (nI c < 65) ↔ c < 65 := ltc (k := 65) hc (by omega)
  have l90 : (90 < nI c) ↔ 90 < c := ltc (c := 90) (k := c) (by omega) hc
  unfold f_X11_isLetter f_X11_isLetter_24 isW
  by_cases h1 : 97 ≤ c ∧ c ≤ 122
  · rw [F_isIn1 (fun e => absurd (l97.mp e) (by omega)) (fun e => absurd (l122.mp e) (by omega))]
    simp only [bind_x]
    rw [if_neg (by decide), if_pos (by simp; omega)]
  · rw [F_isIn0 (by rw [l97, l122]; omega)]
    simp only [bind_x]
    rw [if_pos trivial]
    by_cases h2 : 65 ≤ c ∧ c ≤ 90
    · rw [F_isIn1 (fun e => absurd (l65.mp e) (by omega)) (fun e => absurd (l90.mp e) (by omega))]
      simp only [bind_x]
      rw [if_neg (by decide), if_pos (by simp; omega)]
    · rw [F_isIn0 (by rw [l65, l90]; omega)]
      simp only [bind_x]
      rw [if_pos trivial, if_neg (by simp; omega)]
theorem F_isDigitM (B : Mm) : f_X11_isDigit (-1) B = some (0, B) := by
  unfold f_X11_isDigit
  rw [F_isIn0 (Or.inl (by decide))]
  simp only [bind_x]
  exact gd_pos (Or.inl trivial)
theorem F_isDigitC (B : Mm) {c : Nat} (hc : c < 256) : f_X11_isDigit (nI c) B = some (if isD c = true then 1 else 0, B) := by
  have l48 : (nI c < 48) ↔ c < 48 := ltc (k := 48) hc (by omega)
  have l57 : (57 < nI c) ↔ 57 < c := ltc (c := 57) (k := c) (by omega) hc
  unfold f_X11_isDigit isD
  by_cases h1 : 48 ≤ c ∧ c ≤ 57
  · rw [F_isIn1 (fun e => absurd (l48.mp e) (by omega)) (fun e => absurd (l57.mp e) (by omega)), if_pos (by simp; omega)]
    simp only [bind_x]
    exact gd_pos (Or.inr trivial)
  · rw [F_isIn0 (by rw [l48, l57]; omega), if_neg (by simp; omega)]
    simp only [bind_x]
    exact gd_pos (Or.inl trivial)
theorem F_isMark (B : Mm) {c : Nat} (hc : c < 256) : f_X11_isMarkSign (nI c) B = some (if lawL.contains c = true then 1 else 0, B) := by
  have e : ∀ k, k < 256 → ((nI c = nI k) ↔ c = k) := fun k hk => eqc hc hk
  unfold f_X11_isMarkSign f_X11_isMarkSign_60 lawL
  rw [show (59 : Int32) = nI 59 from rfl, show (43 : Int32) = nI 43 from rfl, show (45 : Int32) = nI 45 from rfl, show (42 : Int32) = nI 42 from rfl, show (47 : Int32) = nI 47 from rfl, show (40 : Int32) = nI 40 from rfl, show (41 : Int32) = nI 41 from rfl, show (60 : Int32) = nI 60 from rfl, show (61 : Int32) = nI 61 from rfl, show (62 : Int32) = nI 62 from rfl]
  simp only [e 59 (by omega), e 43 (by omega), e 45 (by omega), e 42 (by omega), e 47 (by omega), e 40 (by omega), e 41 (by omega), e 60 (by omega), e 61 (by omega), e 62 (by omega)]
  by_cases h : c = 59 ∨ c = 43 ∨ c = 45 ∨ c = 42 ∨ c = 47 ∨ c = 40 ∨ c = 41 ∨ c = 60 ∨ c = 61 ∨ c = 62
  · rcases h with rfl | rfl | rfl | rfl | rfl | rfl | rfl | rfl | rfl | rfl <;> rfl
  · rw [if_neg (by omega), if_neg (by omega), if_neg (by omega), if_neg (by omega), if_neg (by omega), if_neg (by omega), if_neg (by omega), if_neg (by omega), if_neg (by omega), if_neg (by omega), if_neg (by simp; omega)]
