/-! ===== the full relation: texts, book, what can be undone, the image, the tape ===== -/
abbrev TT : Type := (Nat → Nat → Nat) × (Nat → Nat → Int32)
abbrev tDn (T : TT) : Nat := T.1 0 0
abbrev tLm (T : TT) : Nat := T.1 0 1
abbrev tCl (T : TT) : Nat := T.1 0 2
abbrev tWm (T : TT) (q : Nat) : Nat := T.1 1 q
abbrev tWt (T : TT) (i : Nat) : Nat := T.1 2 i
abbrev tWi (T : TT) (i : Nat) : Nat := T.1 3 i
abbrev tDl (T : TT) (d : Nat) : Nat := T.1 4 d
abbrev tDg (T : TT) (i : Nat) : Nat := T.1 5 i
abbrev tLf (T : TT) (k : Nat) : Nat := T.1 6 k
abbrev tLw (T : TT) (k : Nat) : Nat := T.1 7 k
abbrev tLt (T : TT) (k : Nat) : Nat := T.1 8 k
abbrev tC (T : TT) (i : Nat) : Nat := T.1 9 i
abbrev tWr (T : TT) (i : Nat) : Int32 := T.2 0 i
abbrev tDs (T : TT) (d : Nat) : Int32 := T.2 1 d
/-- a code's two halves in the reference -/
def opN (c : Nat) : Nat := if c < 10000 then 0 else if c < 20000 then 1 else c - 19998
def argN (c : Nat) : Nat := if c < 10000 then c else if c < 20000 then c - 10000 else 0
/-- kinds on the stack: 1 a number, 2 one that is not 0, 3 one of 0 and 1 -/
def tyN (t : Nat) : Bool := decide (t = 1 ∨ t = 2)
def tyS (c : Nat) (ts : List Nat) : Option (List Nat) :=
  if c < 20000 then
    if ts.length < 40 ∧ c < 10010 then some ((if c < 10000 ∧ c ≠ 0 then 2 else 1) :: ts) else none
  else match ts with
    | [] => none
    | y :: r =>
      if c = 20007 then (if y = 3 then some (3 :: r) else none)
      else match r with
        | [] => none
        | x :: r =>
          if c ≤ 20002 then (if tyN x = true ∧ tyN y = true then some (1 :: r) else none)
          else if c = 20003 then (if tyN x = true ∧ y = 2 then some (1 :: r) else none)
          else if c ≤ 20006 then (if tyN x = true ∧ tyN y = true then some (3 :: r) else none)
          else if c ≤ 20009 then (if x = 3 ∧ y = 3 then some (3 :: r) else none)
          else none
def tyR (f : Nat → Nat) : Nat → Nat → List Nat → Option (List Nat)
  | 0, _, ts => some ts
  | d + 1, lo, ts => (tyS (f lo) ts).bind (tyR f d (lo + 1))
/-- the texts in the class (from the cell of the first on) -/
def RTK (K : Mm) (T : TT) : Prop :=
  (K 0 5 = nI (tDn T) ∧ K 1 2 = nI (tLm T)) ∧
  (∀ k, k < tLm T → K 3 k = nI (tLf T k) ∧ K 4 k = nI (tLw T k) ∧ K 5 k = nI (tLt T k)) ∧
  (∀ i, i < tCl T → K 2 i = nI (tC T i)) ∧
  (∀ q, q < 12 → K 8 q = nI (tWm T q) ∧ ∀ k, k < tWm T q → K 9 (12 * q + k) = tWr T (12 * q + k) ∧ K 10 (12 * q + k) = nI (tWt T (12 * q + k)) ∧ K 11 (12 * q + k) = eo (tWi T (12 * q + k))) ∧
  (∀ d, d < tDn T → K 13 d = nI (tDl T d) ∧ K 14 d = tDs T d ∧ ∀ i, i < tDl T d → K 12 (40 * d + i) = nI (tDg T (40 * d + i)))
/-- the texts in the reference -/
def RTF (B : Mm) (T : TT) : Prop :=
  (B 239 40 = nI (tDn T) ∧ B 239 22 = nI (tLm T)) ∧
  (∀ k, k < tLm T → B 253 k = nI (tLf T k) ∧ B 252 k = nI (tLw T k) ∧ B 254 k = nI (tLt T k)) ∧
  (∀ i, i < tCl T → B 255 i = nI (opN (tC T i)) ∧ B 256 i = nI (argN (tC T i))) ∧
  (∀ q, q < 12 → B 258 q = nI (tWm T q) ∧ ∀ k, k < tWm T q → B 259 (12 * q + k) = tWr T (12 * q + k) ∧ B 260 (12 * q + k) = nI (tWt T (12 * q + k)) ∧ B 261 (12 * q + k) = nI (tWi T (12 * q + k))) ∧
  (∀ d, d < tDn T → B 262 d = nI (tDl T d) ∧ B 263 d = tDs T d ∧ ∀ i, i < tDl T d → B 264 (40 * d + i) = nI (tDg T (40 * d + i)))
/-- what holds of texts -/
def WFT (N : Nat) (T : TT) : Prop :=
  (tDn T ≤ 8 ∧ tLm T ≤ 16 ∧ tCl T ≤ 400) ∧
  (∀ k, k < tLm T → tLf T k ≤ tLw T k ∧ tLw T k ≤ tLt T k ∧ tLt T k ≤ tCl T ∧ (∃ t, tyN t = true ∧ tyR (tC T) (tLw T k - tLf T k) (tLf T k) [] = some [t]) ∧ (tLw T k = tLt T k ∨ tyR (tC T) (tLt T k - tLw T k) (tLw T k) [] = some [3])) ∧
  (∀ q, q < 12 → tWm T q ≤ 12 ∧ (N ≤ q → tWm T q = 0) ∧ ∀ k, k < tWm T q → tWt T (12 * q + k) < N ∧ tWi T (12 * q + k) ≤ N ∧ tWt T (12 * q + k) ≠ q ∧ tWi T (12 * q + k) ≠ q + 1) ∧
  (∀ d, d < tDn T → tDl T d ≤ 40 ∧ tDs T d ≠ 0 ∧ ∀ i, i < tDl T d → tDg T (40 * d + i) < 28)
def WFK (P : PP) : Prop := ∀ q, q < pN P → ∃ s, s ≤ 99 ∧ pSk P q = nI s
def WFR (P : PP) (D : DD) : Prop := (dDay D ≤ 9999 ∧ dLn D ≤ 200) ∧ ∀ q, q < pN P → ∃ c, c ≤ 99999 ∧ dCoin D q = nI c
def WFU (D : DD) (T : TT) : Prop := ∀ d, tDn T ≤ d → d < 8 → dSg D d = 0 ∧ dFg D d = 0 ∧ dSo D d = -1
def WFS (P : PP) (D : DD) (T : TT) : Prop := WFP P ∧ WFK P ∧ WFD P D ∧ WFR P D ∧ WFT (pN P) T ∧ WFU D T
/-- of what can be undone: how many, the latest first; the image: whether taken, what it holds; the tape: length, bytes, fault, its place -/
abbrev HH : Type := Nat × (Nat → DD)
abbrev II : Type := Nat × PP × DD × TT × (Nat → Int32)
abbrev AA : Type := Nat × (Nat → Nat) × Int32 × Int32
abbrev RE : Type := HH × II × AA
def hx (D : DD) (h : Nat → DD) : Nat → DD
  | 0 => D
  | j + 1 => h j
def CA (A : Mm) (P : PP) (D : DD) (T : TT) (W : Nat → Int32) : Prop := RK (fun j => A (1 + j)) P D ∧ RTK (fun j => A (17 + j)) T ∧ A 32 1 = nI (dLn D) ∧ ∀ i, i < 5 * dLn D → A 33 i = W i
def CH (A : Mm) (P : PP) (H : HH) : Prop := A 34 3 = nI H.1 ∧ ∃ n, n < 8 ∧ A 34 2 = nI n ∧ ∀ j, j < H.1 → RK (fun i => A (37 + 16 * ((n + 7 - j) % 8) + i)) P (H.2 j) ∧ A 36 ((n + 7 - j) % 8) = nI (dLn (H.2 j))
def CI (A : Mm) (I : II) : Prop := A 0 11 = nI I.1 ∧ (I.1 ≠ 0 → RK (fun j => A (206 + j)) I.2.1 I.2.2.1 ∧ RTK (fun j => A (222 + j)) I.2.2.2.1 ∧ A 237 1 = nI (dLn I.2.2.1) ∧ ∀ i, i < 5 * dLn I.2.2.1 → A 238 i = I.2.2.2.2 i)
def CT (A : Mm) (a : AA) : Prop := A 184 1 = nI a.1 ∧ A 184 2 = a.2.2.1 ∧ A 184 3 = a.2.2.2 ∧ ∀ i, i < a.1 → A 185 i = nI (a.2.1 i)
def FA (B : Mm) (P : PP) (D : DD) (T : TT) (W : Nat → Int32) : Prop := RB B P D ∧ RTF B T ∧ ∀ i, i < 5 * dLn D → B 248 i = W i
def FH (B : Mm) (P : PP) (H : HH) : Prop := B 239 3 = nI H.1 ∧ ∀ j, j < H.1 → RW (fun i => B 241 (148 * (H.1 - 1 - j) + i)) P (H.2 j)
/-- where what the image's row holds at k is taken from -/
def imC (k : Nat) : Nat × Nat :=
  if k < 148 then (240, k)
  else if k < 149 then (239, 6)
  else if k < 150 then (239, 12)
  else if k < 222 then (if (k - 150) % 6 = 0 then (243, (k - 150) / 6) else if (k - 150) % 6 = 1 then (244, (k - 150) / 6) else if (k - 150) % 6 = 2 then (245, (k - 150) / 6) else if (k - 150) % 6 = 3 then (246, (k - 150) / 6) else if (k - 150) % 6 = 4 then (247, (k - 150) / 6) else (258, (k - 150) / 6))
  else if k < 654 then (if (k - 222) % 3 = 0 then (259, (k - 222) / 3) else if (k - 222) % 3 = 1 then (260, (k - 222) / 3) else (261, (k - 222) / 3))
  else if k < 655 then (239, 40)
  else if k < 671 then (if (k - 655) % 2 = 0 then (262, (k - 655) / 2) else (263, (k - 655) / 2))
  else if k < 991 then (264, k - 671)
  else if k < 1991 then (248, k - 991)
  else if k < 1992 then (239, 22)
  else if k < 2040 then (if (k - 1992) % 3 = 0 then (252, (k - 1992) / 3) else if (k - 1992) % 3 = 1 then (253, (k - 1992) / 3) else (254, (k - 1992) / 3))
  else (if (k - 2040) % 2 = 0 then (255, (k - 2040) / 2) else (256, (k - 2040) / 2))
def FI (B : Mm) (I : II) : Prop := B 239 51 = nI I.1 ∧ (I.1 ≠ 0 → ∃ M : Mm, RS M I.2.1 ∧ RW (M 240) I.2.1 I.2.2.1 ∧ RTF M I.2.2.2.1 ∧ (∀ i, i < 5 * dLn I.2.2.1 → M 248 i = I.2.2.2.2 i) ∧ ∀ k, k < 2840 → B 269 k = M (imC k).1 (imC k).2)
def FT (B : Mm) (a : AA) : Prop := B 239 16 = nI a.1 ∧ B 239 34 = a.2.2.1 ∧ B 239 35 = a.2.2.2 ∧ ∀ i, i < a.1 → B 250 i = nI (a.2.1 i)
/-- the reference's words, a blank ahead of each and behind the last -/
def wdL : List Nat := [32, 104, 101, 105, 114, 32, 119, 104, 101, 110, 32, 111, 114, 32, 97, 110, 100, 32, 110, 111, 116, 32, 108, 101, 116, 116, 101, 114, 32, 118, 111, 119, 101, 108, 32, 97, 103, 101, 32, 107, 105, 110, 32, 99, 104, 105, 108, 100, 32, 115, 112, 111, 117, 115, 101, 32, 111, 119, 110, 115, 32, 115, 107, 105, 108, 108, 32, 99, 111, 105, 110, 32, 100, 97, 121, 32, 108, 101, 97, 118, 101, 32, 116, 111, 32, 105, 102, 32, 114, 101, 115, 116, 32]
def FC (B : Mm) : Prop := B 239 0 = 0 ∧ B 239 5 = 0 ∧ B 239 47 = -1 ∧ ∀ i, i < 93 → B 251 i = nI (wdL.getD i 0)
def WFH (P : PP) (D : DD) (T : TT) (H : HH) : Prop := H.1 ≤ 8 ∧ ∀ j, j < H.1 → WFD P (H.2 j) ∧ WFR P (H.2 j) ∧ WFU (H.2 j) T ∧ dLn (H.2 j) ≤ dLn (hx D H.2 j)
def WFI (I : II) : Prop := I.1 ≤ 1 ∧ (I.1 ≠ 0 → WFS I.2.1 I.2.2.1 I.2.2.2.1)
def WFA (a : AA) : Prop := a.1 ≤ 400 ∧ ∀ i, i < a.1 → a.2.1 i < 256
def RR (S : Mm) (P : PP) (D : DD) (T : TT) (W : Nat → Int32) (E : RE) : Prop :=
  (CA S P D T W ∧ CH S P E.1 ∧ CI S E.2.1 ∧ CT S E.2.2) ∧ (FA S P D T W ∧ FH S P E.1 ∧ FI S E.2.1 ∧ FT S E.2.2 ∧ FC S) ∧ (WFS P D T ∧ WFH P D T E.1 ∧ WFI E.2.1 ∧ WFA E.2.2)
def RX (S : Mm) : Prop := ∃ P D T W E, RR S P D T W E
def Good (f g : Mm → Option (Int32 × Mm)) (S : Mm) : Prop := ∃ r S1 S2, f S = some (r, S1) ∧ g S1 = some (r, S2) ∧ RX S2
/-! ===== frames ===== -/
theorem RTK.congr {K K' : Mm} {T : TT} (h : RTK K T) (e : ∀ j, j < 15 → j ≠ 6 → j ≠ 7 → K' j = K j) : RTK K' T := by
  unfold RTK at h ⊢
  rw [e 0 (by omega) (by omega) (by omega), e 1 (by omega) (by omega) (by omega), e 2 (by omega) (by omega) (by omega), e 3 (by omega) (by omega) (by omega), e 4 (by omega) (by omega) (by omega), e 5 (by omega) (by omega) (by omega), e 8 (by omega) (by omega) (by omega), e 9 (by omega) (by omega) (by omega), e 10 (by omega) (by omega) (by omega), e 11 (by omega) (by omega) (by omega), e 12 (by omega) (by omega) (by omega), e 13 (by omega) (by omega) (by omega), e 14 (by omega) (by omega) (by omega)]
  exact h
theorem CA.congr {A A' : Mm} {P : PP} {D : DD} {T : TT} {W : Nat → Int32} (h : CA A P D T W) (e : ∀ k, 1 ≤ k → k < 34 → k ≠ 23 → k ≠ 24 → A' k = A k) : CA A' P D T W := by
  obtain ⟨h1, h2, h3, h4⟩ := h
  refine ⟨h1.congr fun j hj => e _ (by omega) (by omega) (by omega) (by omega), h2.congr fun j hj a b => e _ (by omega) (by omega) (by omega) (by omega), ?_, fun i hi => ?_⟩
  · rw [e 32 (by omega) (by omega) (by omega) (by omega)]; exact h3
  · rw [e 33 (by omega) (by omega) (by omega) (by omega)]; exact h4 i hi
theorem CH.congr {A A' : Mm} {P : PP} {H : HH} (h : CH A P H) (e : ∀ k, 34 ≤ k → k < 165 → A' k = A k) : CH A' P H := by
  obtain ⟨h1, n, h2, h3, h4⟩ := h
  refine ⟨by rw [e 34 (by omega) (by omega)]; exact h1, n, h2, by rw [e 34 (by omega) (by omega)]; exact h3, fun j hj => ⟨(h4 j hj).1.congr fun i hi => e _ (by omega) (by omega), ?_⟩⟩
  rw [e 36 (by omega) (by omega)]
  exact (h4 j hj).2
theorem CI.congr {A A' : Mm} {I : II} (h : CI A I) (e0 : A' 0 11 = A 0 11) (e : ∀ k, 206 ≤ k → k < 239 → k ≠ 228 → k ≠ 229 → A' k = A k) : CI A' I := by
  obtain ⟨h1, h2⟩ := h
  refine ⟨by rw [e0]; exact h1, fun hf => ?_⟩
  obtain ⟨g1, g2, g3, g4⟩ := h2 hf
  refine ⟨g1.congr fun j hj => e _ (by omega) (by omega) (by omega) (by omega), g2.congr fun j hj a b => e _ (by omega) (by omega) (by omega) (by omega), ?_, fun i hi => ?_⟩
  · rw [e 237 (by omega) (by omega) (by omega) (by omega)]; exact g3
  · rw [e 238 (by omega) (by omega) (by omega) (by omega)]; exact g4 i hi
theorem CT.congr {A A' : Mm} {a : AA} (h : CT A a) (e1 : A' 184 = A 184) (e2 : A' 185 = A 185) : CT A' a := by
  unfold CT at h ⊢
  rw [e1, e2]
  exact h
/-- the reference's slots that are kept -/
def ks (i : Nat) : Bool := decide (i = 0 ∨ i = 3 ∨ i = 5 ∨ i = 6 ∨ i = 12 ∨ i = 16 ∨ i = 22 ∨ i = 34 ∨ i = 35 ∨ i = 40 ∨ i = 47 ∨ i = 51)
theorem RTF.congr {B B' : Mm} {T : TT} (h : RTF B T) (e1 : B' 239 40 = B 239 40) (e2 : B' 239 22 = B 239 22) (e : ∀ k, 252 ≤ k → k < 265 → k ≠ 257 → B' k = B k) : RTF B' T := by
  unfold RTF at h ⊢
  rw [e1, e2, e 252 (by omega) (by omega) (by omega), e 253 (by omega) (by omega) (by omega), e 254 (by omega) (by omega) (by omega), e 255 (by omega) (by omega) (by omega), e 256 (by omega) (by omega) (by omega), e 258 (by omega) (by omega) (by omega), e 259 (by omega) (by omega) (by omega), e 260 (by omega) (by omega) (by omega), e 261 (by omega) (by omega) (by omega), e 262 (by omega) (by omega) (by omega), e 263 (by omega) (by omega) (by omega), e 264 (by omega) (by omega) (by omega)]
  exact h
theorem RS.congr {B B' : Mm} {P : PP} (h : RS B P) (e1 : B' 239 6 = B 239 6) (e2 : B' 239 12 = B 239 12) (e : ∀ k, 243 ≤ k → k < 248 → B' k = B k) : RS B' P := by
  unfold RS at h ⊢
  rw [e1, e2, e 243 (by omega) (by omega), e 244 (by omega) (by omega), e 245 (by omega) (by omega), e 246 (by omega) (by omega), e 247 (by omega) (by omega)]
  exact h
theorem RB.congr2 {B B' : Mm} {P : PP} {D : DD} (h : RB B P D) (e1 : B' 239 6 = B 239 6) (e2 : B' 239 12 = B 239 12) (e : ∀ k, 240 ≤ k → k < 250 → k ≠ 241 → k ≠ 242 → k ≠ 248 → B' k = B k) : RB B' P D := by
  obtain ⟨h1, h2, h3⟩ := h
  refine ⟨h1.congr e1 e2 fun k a b => e k (by omega) (by omega) (by omega) (by omega) (by omega), ?_, ?_⟩
  · rw [e 240 (by omega) (by omega) (by omega) (by omega) (by omega)]; exact h2
  · unfold RKin at h3 ⊢
    rw [e 249 (by omega) (by omega) (by omega) (by omega) (by omega)]
    exact h3
theorem FA.congr {B B' : Mm} {P : PP} {D : DD} {T : TT} {W : Nat → Int32} (h : FA B P D T W) (e0 : ∀ i, ks i = true → B' 239 i = B 239 i) (e : ∀ k, 240 ≤ k → k < 265 → k ≠ 241 → k ≠ 242 → k ≠ 250 → k ≠ 251 → k ≠ 257 → B' k = B k) : FA B' P D T W := by
  obtain ⟨h1, h2, h3⟩ := h
  refine ⟨h1.congr2 (e0 6 rfl) (e0 12 rfl) fun k a b c d f => e k (by omega) (by omega) (by omega) (by omega) (by omega) (by omega) (by omega), h2.congr (e0 40 rfl) (e0 22 rfl) fun k a b c => e k (by omega) (by omega) (by omega) (by omega) (by omega) (by omega) (by omega), fun i hi => ?_⟩
  rw [e 248 (by omega) (by omega) (by omega) (by omega) (by omega) (by omega) (by omega)]
  exact h3 i hi
theorem FH.congr {B B' : Mm} {P : PP} {H : HH} (h : FH B P H) (e0 : B' 239 3 = B 239 3) (e : B' 241 = B 241) : FH B' P H := by
  unfold FH at h ⊢
  rw [e0, e]
  exact h
theorem FI.congr {B B' : Mm} {I : II} (h : FI B I) (e0 : B' 239 51 = B 239 51) (e : B' 269 = B 269) : FI B' I := by
  unfold FI at h ⊢
  rw [e0, e]
  exact h
theorem FT.congr {B B' : Mm} {a : AA} (h : FT B a) (e0 : ∀ i, ks i = true → B' 239 i = B 239 i) (e : B' 250 = B 250) : FT B' a := by
  unfold FT at h ⊢
  rw [e0 16 rfl, e0 34 rfl, e0 35 rfl, e]
  exact h
theorem FC.congr {B B' : Mm} (h : FC B) (e0 : ∀ i, ks i = true → B' 239 i = B 239 i) (e : B' 251 = B 251) : FC B' := by
  unfold FC at h ⊢
  rw [e0 0 rfl, e0 5 rfl, e0 47 rfl, e]
  exact h
/-- cells in which nothing is kept -/
def scr (k : Nat) : Bool := decide (k = 23 ∨ k = 24 ∨ (166 ≤ k ∧ k < 184) ∨ (186 ≤ k ∧ k < 206) ∨ k = 228 ∨ k = 229 ∨ k = 242 ∨ k = 257 ∨ (265 ≤ k ∧ k < 269) ∨ 270 ≤ k)
def agS (S S' : Mm) : Prop := (∀ k, scr k = false → k ≠ 239 → S' k = S k) ∧ ∀ i, ks i = true → S' 239 i = S 239 i
theorem scr_f {k : Nat} (h : ¬ (k = 23 ∨ k = 24 ∨ (166 ≤ k ∧ k < 184) ∨ (186 ≤ k ∧ k < 206) ∨ k = 228 ∨ k = 229 ∨ k = 242 ∨ k = 257 ∨ (265 ≤ k ∧ k < 269) ∨ 270 ≤ k)) : scr k = false := decide_eq_false h
theorem agS.rfl {S : Mm} : agS S S := ⟨fun _ _ _ => _root_.rfl, fun _ _ => _root_.rfl⟩
theorem agS.trans {S S' S'' : Mm} (h : agS S S') (h' : agS S' S'') : agS S S'' := ⟨fun k a b => (h'.1 k a b).trans (h.1 k a b), fun i a => (h'.2 i a).trans (h.2 i a)⟩
theorem agS_rM {S : Mm} {k : Nat} {f : Nat → Int32} (h : scr k = true) : agS S (rM S k f) := by
  refine ⟨fun j hj _ => rM_off _ _ fun e => ?_, fun i _ => ?_⟩
  · rw [e, h] at hj; cases hj
  · rw [rM_off _ _ (fun e => by rw [← e] at h; exact absurd h (by decide))]
theorem agS_uM {S : Mm} {k i : Nat} {v : Int32} (h : scr k = true) : agS S (uM S k i v) := by
  rw [uM_rM]
  exact agS_rM h
theorem agS_u239 {S : Mm} {i : Nat} {v : Int32} (h : ks i = false) : agS S (uM S 239 i v) := by
  refine ⟨fun j _ hj => uM_off _ _ _ hj, fun j hj => ?_⟩
  rw [uM_at, if_neg]
  rintro ⟨_, e⟩
  rw [e, h] at hj
  cases hj
theorem RR.scr {S S' : Mm} {P : PP} {D : DD} {T : TT} {W : Nat → Int32} {E : RE} (h : RR S P D T W E) (e : agS S S') : RR S' P D T W E := by
  obtain ⟨⟨a1, a2, a3, a4⟩, ⟨f1, f2, f3, f4, f5⟩, w⟩ := h
  obtain ⟨e1, e2⟩ := e
  refine ⟨⟨a1.congr fun k p q r s => e1 k (scr_f (by omega)) (by omega), a2.congr fun k p q => e1 k (scr_f (by omega)) (by omega), a3.congr (by rw [e1 0 (scr_f (by omega)) (by omega)]) fun k p q r s => e1 k (scr_f (by omega)) (by omega), a4.congr (e1 _ (scr_f (by omega)) (by omega)) (e1 _ (scr_f (by omega)) (by omega))⟩, ⟨f1.congr e2 fun k p q r s t u v => e1 k (scr_f (by omega)) (by omega), f2.congr (e2 3 rfl) (e1 _ (scr_f (by omega)) (by omega)), f3.congr (e2 51 rfl) (e1 _ (scr_f (by omega)) (by omega)), f4.congr e2 (e1 _ (scr_f (by omega)) (by omega)), f5.congr e2 (e1 _ (scr_f (by omega)) (by omega))⟩, w⟩
theorem good_ro {f g : Mm → Option (Int32 × Mm)} {S S1 S2 : Mm} {r : Int32} {P : PP} {D : DD} {T : TT} {W : Nat → Int32} {E : RE} (h : RR S P D T W E) (e1 : f S = some (r, S1)) (a1 : agS S S1) (e2 : g S1 = some (r, S2)) (a2 : agS S1 S2) : Good f g S := ⟨r, S1, S2, e1, e2, P, D, T, W, E, h.scr (a1.trans a2)⟩
theorem good_id {f g : Mm → Option (Int32 × Mm)} {S : Mm} {r : Int32} {P : PP} {D : DD} {T : TT} {W : Nat → Int32} {E : RE} (h : RR S P D T W E) (e1 : f S = some (r, S)) (e2 : g S = some (r, S)) : Good f g S := good_ro h e1 agS.rfl e2 agS.rfl
