/-! ===== what a state is: people (PP), what acts and days change (DD), as numbers (.1) and ints (.2) ===== -/
abbrev PP : Type := (Nat → Nat → Nat) × (Nat → Nat → Int32)
abbrev DD : Type := (Nat → Nat → Nat) × (Nat → Nat → Int32)
abbrev pN (P : PP) : Nat := P.1 0 0
abbrev pNear (P : PP) : Nat := P.1 0 1
abbrev pMo (P : PP) (q : Nat) : Nat := P.1 1 q
abbrev pFa (P : PP) (q : Nat) : Nat := P.1 2 q
abbrev pBorn (P : PP) (q : Nat) : Int32 := P.2 0 q
abbrev pFr (P : PP) (q : Nat) : Int32 := P.2 1 q
abbrev pSk (P : PP) (q : Nat) : Int32 := P.2 2 q
abbrev dDay (D : DD) : Nat := D.1 0 0
abbrev dLn (D : DD) : Nat := D.1 0 1
abbrev dDead (D : DD) (q : Nat) : Nat := D.1 1 q
abbrev dOw (D : DD) (l : Nat) : Nat := D.1 2 l
abbrev dLo (D : DD) (l : Nat) : Nat := D.1 3 l
abbrev dSp (D : DD) (q : Nat) : Nat := D.1 4 q
abbrev dDraw (D : DD) : Int32 := D.2 0 0
abbrev dLa (D : DD) (l : Nat) : Int32 := D.2 1 l
abbrev dDies (D : DD) (q : Nat) : Int32 := D.2 2 q
abbrev dCoin (D : DD) (q : Nat) : Int32 := D.2 3 q
abbrev dSg (D : DD) (d : Nat) : Int32 := D.2 4 d
abbrev dFg (D : DD) (d : Nat) : Int32 := D.2 5 d
abbrev dSo (D : DD) (d : Nat) : Int32 := D.2 6 d
def un {α : Type} (f : Nat → Nat → α) (k i : Nat) (v : α) : Nat → Nat → α := fun a j => if a = k ∧ j = i then v else f a j
def adj (P : PP) (D : DD) (a b : Nat) : Bool := decide (pMo P a = b + 1 ∨ pFa P a = b + 1 ∨ pMo P b = a + 1 ∨ pFa P b = a + 1 ∨ dSp D a = b + 1 ∨ dSp D b = a + 1)
/-- whether one lives -/
def liv (P : PP) (D : DD) (q : Nat) : Bool := decide (q < pN P) && decide (dDead D q = 0)
/-- reached in at most k steps -/
def rch (P : PP) (D : DD) : Nat → Nat → Nat → Bool
  | 0, a, b => decide (a = b)
  | k + 1, a, b => rch P D k a b || (List.range (pN P)).any (fun c => rch P D k a c && adj P D c b)
/-- the first one from lo on, of d, that is so; 99 -/
def lst (p : Nat → Bool) : Nat → Nat → Nat
  | _, 0 => 99
  | lo, d + 1 => if p lo = true then lo else lst p (lo + 1) d
def kinM (P : PP) (D : DD) (a b : Nat) : Nat := lst (fun k => rch P D k a b) 0 (pN P)
/-- a Clan's cells, its own and its rows -/
def RK (K : Mm) (P : PP) (D : DD) : Prop :=
  (K 0 0 = dDraw D ∧ K 0 1 = nI (dDay D) ∧ K 0 2 = nI (pNear P) ∧ K 0 3 = nI (pN P)) ∧
  (∀ i, i < 32 → bt (K 0 4) i = liv P D i) ∧
  (∀ q, q < pN P → K 1 q = eo (pMo P q) ∧ K 2 q = eo (pFa P q) ∧ K 3 q = pBorn P q ∧ K 4 q = dDies D q ∧ K 5 q = pFr P q ∧ K 6 q = pSk P q ∧ K 7 q = dCoin D q ∧ K 8 q = eo (dSp D q) ∧ ∀ i, i < 32 → bt (K 9 q) i = (decide (i < pN P) && adj P D q i)) ∧
  (∀ l, l < 28 → K 10 l = eo (dOw D l) ∧ K 11 l = eo (dLo D l) ∧ K 12 l = if dLo D l = 0 then -1 else dLa D l) ∧
  (∀ d, d < 8 → K 13 d = dSg D d ∧ K 14 d = dFg D d ∧ K 15 d = dSo D d)
/-- the reference's row of what acts and days change -/
def RW (w : Nat → Int32) (P : PP) (D : DD) : Prop :=
  (w 0 = nI (dDay D) ∧ w 1 = dDraw D ∧ w 2 = nI (dLn D)) ∧
  (∀ i, i < pN P → bt (w 3) i = !decide (dDead D i = 0)) ∧
  (∀ q, q < pN P → w (88 + q) = dDies D q + 1 ∧ w (100 + q) = dCoin D q ∧ w (112 + q) = nI (dSp D q)) ∧
  (∀ l, l < 28 → w (4 + l) = nI (dOw D l) ∧ w (32 + l) = nI (dLo D l) ∧ (dLo D l ≠ 0 → w (60 + l) = dLa D l)) ∧
  (∀ d, d < 8 → w (124 + d) = dSg D d ∧ w (132 + d) = dFg D d ∧ w (140 + d) = dSo D d + 1)
/-- the reference's people -/
def RS (B : Mm) (P : PP) : Prop :=
  (B 239 6 = nI (pN P) ∧ B 239 12 = eo (pNear P)) ∧
  (∀ q, q < pN P → B 243 q = nI (pMo P q) ∧ B 244 q = nI (pFa P q) ∧ B 245 q = pBorn P q ∧ B 246 q = pFr P q ∧ B 247 q = pSk P q)
def RKin (B : Mm) (P : PP) (D : DD) : Prop := ∀ a b, a < pN P → b < pN P → B 249 (12 * a + b) = nI (kinM P D a b)
/-- what holds of people and their letters -/
def WFP (P : PP) : Prop := pN P ≤ 12 ∧ pNear P ≤ 3 ∧ ∀ q, q < pN P → pMo P q ≤ q ∧ pFa P q ≤ q
def WFD (P : PP) (D : DD) : Prop :=
  (∀ l, l < 28 → dOw D l ≤ pN P ∧ dLo D l ≤ pN P) ∧
  (∀ q, q < pN P → dSp D q ≤ pN P ∧ dSp D q ≠ q + 1) ∧
  (∀ a b, a < pN P → b < pN P → dSp D a = b + 1 → pMo P a ≠ b + 1 ∧ pFa P a ≠ b + 1 ∧ pMo P b ≠ a + 1 ∧ pFa P b ≠ a + 1) ∧
  (∀ a b, a < pN P → b < pN P → dDead D a = 0 → dSp D a = b + 1 → dDead D b = 0 ∧ dSp D b = a + 1)
/-! ===== reads of a Clan ===== -/
theorem C_isThere0 {A : Mm} {c : Nat} {P : PP} {D : DD} (h : RK (fun j => A (c + j)) P D) {x : Int32} (hx : x < 0 ∨ nI (pN P) ≤ x) : f_X1_isThere c x A = some (0, A) := by
  have h3 : A c 3 = nI (pN P) := h.1.2.2.2
  unfold f_X1_isThere f_X1_isThere_16
  by_cases h1 : x < 0
  · rw [if_pos h1]
  · rw [if_neg h1, h3, if_pos (hx.resolve_left h1)]
theorem C_isThere1 {A : Mm} {c : Nat} {P : PP} {D : DD} (h : RK (fun j => A (c + j)) P D) (hN : pN P ≤ 12) {q : Nat} (hq : q < pN P) : f_X1_isThere c (nI q) A = some (1, A) := by
  have h3 : A c 3 = nI (pN P) := h.1.2.2.2
  unfold f_X1_isThere f_X1_isThere_16
  rw [if_neg (nI_pos (by omega)), h3, if_neg (by rw [nI_leI (by omega) (by omega)]; omega)]
theorem C_lives0 {A : Mm} {c : Nat} {P : PP} {D : DD} (h : RK (fun j => A (c + j)) P D) {x : Int32} (hx : x < 0 ∨ nI (pN P) ≤ x) : f_X1_lives c x A = some (0, A) := by
  unfold f_X1_lives f_X1_lives_24
  rw [C_isThere0 h hx]
  rfl
theorem C_lives {A : Mm} {c : Nat} {P : PP} {D : DD} (h : RK (fun j => A (c + j)) P D) (hN : pN P ≤ 12) {q : Nat} (hq : q < pN P) : f_X1_lives c (nI q) A = some (if liv P D q = true then 1 else 0, A) := by
  unfold f_X1_lives f_X1_lives_24
  rw [C_isThere1 h hN hq]
  simp only [Option.bind_some]
  have h4 : bt (A c 4) q = liv P D q := h.2.1 q (by omega)
  rw [if_neg (by decide), tb_eq (by omega), h4]
  cases liv P D q <;> rfl
/-! ===== reads of the reference ===== -/
theorem F_isPerson0 {B : Mm} {P : PP} (h : RS B P) {x : Int32} (hx : x < 0 ∨ nI (pN P) ≤ x) : f_X11_isPerson x B = some (0, B) := by
  unfold f_X11_isPerson f_X11_isPerson_16
  by_cases h1 : x < 0
  · rw [if_pos h1]
  · rw [if_neg h1, h.1.1, if_pos (hx.resolve_left h1)]
theorem F_isPerson1 {B : Mm} {P : PP} (h : RS B P) (hN : pN P ≤ 12) {q : Nat} (hq : q < pN P) : f_X11_isPerson (nI q) B = some (1, B) := by
  unfold f_X11_isPerson f_X11_isPerson_16
  rw [if_neg (nI_pos (by omega)), h.1.1, if_neg (by rw [nI_leI (by omega) (by omega)]; omega)]
theorem F_doesLive {B : Mm} {P : PP} {D : DD} (h : RW (B 240) P D) (hN : pN P ≤ 12) {q : Nat} (hq : q < pN P) : f_X11_doesLive (nI q) B = some (if liv P D q = true then 1 else 0, B) := by
  unfold f_X11_doesLive liv
  have h1 := h.2.1 q hq
  by_cases hd : dDead D q = 0
  · rw [if_pos ((tb_0 (by omega)).mpr (by rw [h1, hd]; rfl)), if_pos (by simp [hq, hd])]
  · rw [if_neg (fun e => by rw [tb_0 (by omega), h1] at e; simp [hd] at e), if_neg (by simp [hd])]
theorem F_isLiving0 {B : Mm} {P : PP} (h : RS B P) {x : Int32} (hx : x < 0 ∨ nI (pN P) ≤ x) : f_X11_isLiving x B = some (0, B) := by
  unfold f_X11_isLiving f_X11_isLiving_20
  rw [F_isPerson0 h hx]
  rfl
theorem F_isLiving {B : Mm} {P : PP} {D : DD} (hs : RS B P) (h : RW (B 240) P D) (hN : pN P ≤ 12) {q : Nat} (hq : q < pN P) : f_X11_isLiving (nI q) B = some (if liv P D q = true then 1 else 0, B) := by
  unfold f_X11_isLiving f_X11_isLiving_20
  rw [F_isPerson1 hs hN hq]
  simp only [Option.bind_some]
  rw [if_neg (by decide), F_doesLive h hN hq]
  simp only [Option.bind_some]
  cases liv P D q <;> rfl
theorem F_ownerOf {B : Mm} {P : PP} {D : DD} (h : RW (B 240) P D) {l : Nat} (hl : l < 28) : f_X11_ownerOf (nI l) B = some (eo (dOw D l), B) := by
  unfold f_X11_ownerOf
  rw [nI_lit 4, nI_add, gd_pos ((inB_nI (by omega)).mpr (by omega)), ix_nI (by omega), (h.2.2.2.1 l hl).1]
  rfl
theorem F_borrowerOf {B : Mm} {P : PP} {D : DD} (h : RW (B 240) P D) {l : Nat} (hl : l < 28) : f_X11_borrowerOf (nI l) B = some (eo (dLo D l), B) := by
  unfold f_X11_borrowerOf
  rw [nI_lit 32, nI_add, gd_pos ((inB_nI (by omega)).mpr (by omega)), ix_nI (by omega), (h.2.2.2.1 l hl).2.1]
  rfl
theorem F_spouseOf {B : Mm} {P : PP} {D : DD} (h : RW (B 240) P D) (hN : pN P ≤ 12) {q : Nat} (hq : q < pN P) : f_X11_spouseOf (nI q) B = some (eo (dSp D q), B) := by
  unfold f_X11_spouseOf
  rw [nI_lit 112, nI_add, gd_pos ((inB_nI (by omega)).mpr (by omega)), ix_nI (by omega), (h.2.2.1 q hq).2.2]
  rfl
theorem C_isLetter0 {A : Mm} {x : Int32} (hx : x < 0 ∨ nI 28 ≤ x) : f_X10_isLetter x A = some (0, A) := by
  unfold f_X10_isLetter f_X10_isLetter_14
  by_cases h1 : x < 0
  · rw [if_pos h1]
  · rw [if_neg h1, nI_lit 28, if_pos (hx.resolve_left h1)]
theorem C_isLetter1 {A : Mm} {l : Nat} (hl : l < 28) : f_X10_isLetter (nI l) A = some (1, A) := by
  unfold f_X10_isLetter f_X10_isLetter_14
  rw [if_neg (nI_pos (by omega)), nI_lit 28, if_neg (by rw [nI_leI (by omega) (by omega)]; omega)]
theorem F_isLetter0 {A : Mm} {x : Int32} (hx : x < 0 ∨ nI 28 ≤ x) : f_X11_isLetter28 x A = some (0, A) := by
  unfold f_X11_isLetter28 f_X11_isLetter28_14
  by_cases h1 : x < 0
  · rw [if_pos h1]
  · rw [if_neg h1, nI_lit 28, if_pos (hx.resolve_left h1)]
theorem F_isLetter1 {A : Mm} {l : Nat} (hl : l < 28) : f_X11_isLetter28 (nI l) A = some (1, A) := by
  unfold f_X11_isLetter28 f_X11_isLetter28_14
  rw [if_neg (nI_pos (by omega)), nI_lit 28, if_neg (by rw [nI_leI (by omega) (by omega)]; omega)]
