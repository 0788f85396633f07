/-! ===== one thing changed: what the rows hold then ===== -/
abbrev sOw (D : DD) (l o : Nat) : DD := (un D.1 2 l o, D.2)
abbrev sLo (D : DD) (l o : Nat) (v : Int32) : DD := (un D.1 3 l o, un D.2 1 l v)
abbrev sLn (D : DD) (n : Nat) : DD := (un D.1 0 1 n, D.2)
abbrev sSp (D : DD) (q s : Nat) : DD := (un D.1 4 q s, D.2)
abbrev sDead (D : DD) (q : Nat) : DD := (un D.1 1 q 1, D.2)
abbrev sDay (D : DD) (n : Nat) : DD := (un D.1 0 0 n, D.2)
abbrev sDies (D : DD) (q : Nat) (v : Int32) : DD := (D.1, un D.2 2 q v)
abbrev sCoin (D : DD) (q : Nat) (v : Int32) : DD := (D.1, un D.2 3 q v)
abbrev sDraw (D : DD) (v : Int32) : DD := (D.1, un D.2 0 0 v)
abbrev sSg (D : DD) (d : Nat) (a b c : Int32) : DD := (D.1, un (un (un D.2 4 d a) 5 d b) 6 d c)
theorem un_eq {α : Type} (f : Nat → Nat → α) (k i : Nat) (v : α) : un f k i v k i = v := if_pos ⟨rfl, rfl⟩
theorem un_ne {α : Type} (f : Nat → Nat → α) (k : Nat) {i j : Nat} (v : α) (h : j ≠ i) : un f k i v k j = f k j := if_neg fun e => h e.2
theorem uM_eq (S : Mm) (a i : Nat) (v : Int32) : uM S a i v a i = v := if_pos ⟨rfl, rfl⟩
theorem uM_ne (S : Mm) (a : Nat) {i j : Nat} (v : Int32) (h : j ≠ i) : uM S a i v a j = S a j := if_neg fun e => h e.2
theorem uM_sh (A : Mm) (c k i : Nat) (v : Int32) : (fun j => uM A (c + k) i v (c + j)) = uM (fun j => A (c + j)) k i v := by
  funext j i2
  show (if c + j = c + k ∧ i2 = i then v else A (c + j) i2) = if j = k ∧ i2 = i then v else A (c + j) i2
  by_cases h : j = k ∧ i2 = i
  · rw [if_pos h, if_pos ⟨by omega, h.2⟩]
  · rw [if_neg h, if_neg (fun e => h ⟨by omega, e.2⟩)]
theorem uM_sh0 (A : Mm) (c i : Nat) (v : Int32) : (fun j => uM A c i v (c + j)) = uM (fun j => A (c + j)) 0 i v := uM_sh A c 0 i v
theorem uM_shO (A : Mm) {c n a : Nat} (i : Nat) (v : Int32) (h : a < c ∨ c + n ≤ a) : ∀ j, j < n → uM A a i v (c + j) = A (c + j) := fun j hj => uM_off _ _ _ (by omega)
/-! the class's rows -/
section RKU
variable {K : Mm} {P : PP} {D : DD}
theorem RK_ow (h : RK K P D) {l : Nat} (o : Nat) (hl : l < 28) : RK (uM K 10 l (eo o)) P (sOw D l o) := by
  refine ⟨h.1, h.2.1, h.2.2.1, fun l' hl' => ?_, h.2.2.2.2⟩
  obtain ⟨a, b⟩ := h.2.2.2.1 l' hl'
  refine ⟨?_, b⟩
  by_cases e : l' = l
  · subst e; rw [uM_eq]; exact congrArg eo (un_eq _ _ _ _).symm
  · rw [uM_ne _ _ _ e, a]; exact congrArg eo (un_ne _ _ _ e).symm
theorem RK_lo (h : RK K P D) {l : Nat} (o : Nat) (v : Int32) (hl : l < 28) : RK (uM (uM K 11 l (eo o)) 12 l (if o = 0 then -1 else v)) P (sLo D l o v) := by
  refine ⟨h.1, h.2.1, h.2.2.1, fun l' hl' => ?_, h.2.2.2.2⟩
  obtain ⟨a, b, c⟩ := h.2.2.2.1 l' hl'
  refine ⟨a, ?_⟩
  show uM K 11 l (eo o) 11 l' = eo (un D.1 3 l o 3 l') ∧ uM (uM K 11 l (eo o)) 12 l (if o = 0 then -1 else v) 12 l' = if un D.1 3 l o 3 l' = 0 then -1 else un D.2 1 l v 1 l'
  by_cases e : l' = l
  · subst e; rw [uM_eq, uM_eq, un_eq, un_eq]; exact ⟨rfl, rfl⟩
  · rw [uM_ne _ _ _ e, uM_ne _ _ _ e, un_ne _ _ _ e, un_ne _ _ _ e]; exact ⟨b, c⟩
theorem RK_ln (h : RK K P D) (n : Nat) : RK K P (sLn D n) := h
theorem RK_day (h : RK K P D) (n : Nat) : RK (uM K 0 1 (nI n)) P (sDay D n) := ⟨⟨h.1.1, rfl, h.1.2.2⟩, h.2.1, h.2.2.1, h.2.2.2.1, h.2.2.2.2⟩
theorem RK_draw (h : RK K P D) (v : Int32) : RK (uM K 0 0 v) P (sDraw D v) := ⟨⟨rfl, h.1.2⟩, h.2.1, h.2.2.1, h.2.2.2.1, h.2.2.2.2⟩
theorem RK_dead (h : RK K P D) {q : Nat} (hq : q < pN P) (hN : pN P ≤ 12) : RK (uM K 0 4 (K 0 4 &&& (shl 1 (nI q) ^^^ (-1)))) P (sDead D q) := by
  refine ⟨h.1, fun i hi => ?_, h.2.2.1, h.2.2.2.1, h.2.2.2.2⟩
  rw [uM_eq, b_and, h.2.1 i hi, bt_not _ hi, bt_one (by omega) hi]
  unfold liv
  show _ = (decide (i < pN P) && decide (un D.1 1 q 1 1 i = 0))
  by_cases e : i = q
  · subst e; rw [un_eq]; simp
  · rw [un_ne _ _ _ e]; simp [e]
theorem RK_dies (h : RK K P D) (q : Nat) (v : Int32) : RK (uM K 4 q v) P (sDies D q v) := by
  refine ⟨h.1, h.2.1, fun q' hq' => ?_, h.2.2.2.1, h.2.2.2.2⟩
  obtain ⟨a1, a2, a3, a4, a5⟩ := h.2.2.1 q' hq'
  refine ⟨a1, a2, a3, ?_, a5⟩
  by_cases e : q' = q
  · subst e; rw [uM_eq]; exact (un_eq _ _ _ _).symm
  · rw [uM_ne _ _ _ e, a4]; exact (un_ne _ _ _ e).symm
theorem RK_coin (h : RK K P D) (q : Nat) (v : Int32) : RK (uM K 7 q v) P (sCoin D q v) := by
  refine ⟨h.1, h.2.1, fun q' hq' => ?_, h.2.2.2.1, h.2.2.2.2⟩
  obtain ⟨a1, a2, a3, a4, a5, a6, a7, a8⟩ := h.2.2.1 q' hq'
  refine ⟨a1, a2, a3, a4, a5, a6, ?_, a8⟩
  by_cases e : q' = q
  · subst e; rw [uM_eq]; exact (un_eq _ _ _ _).symm
  · rw [uM_ne _ _ _ e, a7]; exact (un_ne _ _ _ e).symm
theorem RK_sg (h : RK K P D) (d : Nat) (a b c : Int32) : RK (uM (uM (uM K 13 d a) 14 d b) 15 d c) P (sSg D d a b c) := by
  refine ⟨h.1, h.2.1, h.2.2.1, h.2.2.2.1, fun d' hd' => ?_⟩
  obtain ⟨a1, a2, a3⟩ := h.2.2.2.2 d' hd'
  show uM K 13 d a 13 d' = un D.2 4 d a 4 d' ∧ uM (uM K 13 d a) 14 d b 14 d' = un (un D.2 4 d a) 5 d b 5 d' ∧ uM (uM (uM K 13 d a) 14 d b) 15 d c 15 d' = un (un (un D.2 4 d a) 5 d b) 6 d c 6 d'
  by_cases e : d' = d
  · subst e; rw [uM_eq, uM_eq, uM_eq, un_eq, un_eq, un_eq]; exact ⟨rfl, rfl, rfl⟩
  · rw [uM_ne _ _ _ e, uM_ne _ _ _ e, uM_ne _ _ _ e, un_ne _ _ _ e, un_ne _ _ _ e, un_ne _ _ _ e]; exact ⟨a1, a2, a3⟩
end RKU
/-! the reference's row -/
section RWU
variable {w : Nat → Int32} {P : PP} {D : DD}
theorem up_eq (f : Nat → Int32) (k : Nat) (x : Int32) : upd f k x k = x := pk_us
theorem up_ne (f : Nat → Int32) {k j : Nat} (x : Int32) (h : j ≠ k) : upd f k x j = f j := pk_un h
theorem RW.congr {w' : Nat → Int32} (h : RW w P D) (hN : pN P ≤ 12) (e : ∀ i, i < 148 → w' i = w i) : RW w' P D := by
  obtain ⟨⟨h1, h2, h3⟩, h4, h5, h6, h7⟩ := h
  refine ⟨⟨by rw [e _ (by omega)]; exact h1, by rw [e _ (by omega)]; exact h2, by rw [e _ (by omega)]; exact h3⟩, fun i hi => by rw [e _ (by omega)]; exact h4 i hi, fun q hq => ?_, fun l hl => ?_, fun d hd => ?_⟩
  · rw [e _ (by omega), e _ (by omega), e _ (by omega)]; exact h5 q hq
  · rw [e _ (by omega), e _ (by omega), e _ (by omega)]; exact h6 l hl
  · rw [e _ (by omega), e _ (by omega), e _ (by omega)]; exact h7 d hd
theorem RW_ow (h : RW w P D) (hN : pN P ≤ 12) {l : Nat} (o : Nat) (hl : l < 28) : RW (upd w (4 + l) (nI o)) P (sOw D l o) := by
  obtain ⟨⟨h1, h2, h3⟩, h4, h5, h6, h7⟩ := h
  refine ⟨⟨by rw [up_ne _ _ (by omega)]; exact h1, by rw [up_ne _ _ (by omega)]; exact h2, by rw [up_ne _ _ (by omega)]; exact h3⟩, fun i hi => by rw [up_ne _ _ (by omega)]; exact h4 i hi, fun q hq => ?_, fun l' hl' => ?_, fun d hd => ?_⟩
  · rw [up_ne _ _ (by omega), up_ne _ _ (by omega), up_ne _ _ (by omega)]; exact h5 q hq
  · obtain ⟨a, b, c⟩ := h6 l' hl'
    rw [up_ne _ _ (by omega : 32 + l' ≠ 4 + l), up_ne _ _ (by omega : 60 + l' ≠ 4 + l)]
    refine ⟨?_, b, c⟩
    by_cases e : l' = l
    · subst e; rw [up_eq]; exact congrArg nI (un_eq _ _ _ _).symm
    · rw [up_ne _ _ (by omega), a]; exact congrArg nI (un_ne _ _ _ e).symm
  · rw [up_ne _ _ (by omega), up_ne _ _ (by omega), up_ne _ _ (by omega)]; exact h7 d hd
theorem RW_lo (h : RW w P D) (hN : pN P ≤ 12) {l : Nat} (o : Nat) {u v : Int32} (hl : l < 28) (huv : o ≠ 0 → u = v) : RW (upd (upd w (32 + l) (nI o)) (60 + l) u) P (sLo D l o v) := by
  obtain ⟨⟨h1, h2, h3⟩, h4, h5, h6, h7⟩ := h
  refine ⟨⟨by rw [up_ne _ _ (by omega), up_ne _ _ (by omega)]; exact h1, by rw [up_ne _ _ (by omega), up_ne _ _ (by omega)]; exact h2, by rw [up_ne _ _ (by omega), up_ne _ _ (by omega)]; exact h3⟩, fun i hi => by rw [up_ne _ _ (by omega), up_ne _ _ (by omega)]; exact h4 i hi, fun q hq => ?_, fun l' hl' => ?_, fun d hd => ?_⟩
  · rw [up_ne _ _ (by omega), up_ne _ _ (by omega), up_ne _ _ (by omega), up_ne _ _ (by omega), up_ne _ _ (by omega), up_ne _ _ (by omega)]; exact h5 q hq
  · obtain ⟨a, b, c⟩ := h6 l' hl'
    show upd (upd w (32 + l) (nI o)) (60 + l) u (4 + l') = nI (D.1 2 l') ∧ upd (upd w (32 + l) (nI o)) (60 + l) u (32 + l') = nI (un D.1 3 l o 3 l') ∧ (un D.1 3 l o 3 l' ≠ 0 → upd (upd w (32 + l) (nI o)) (60 + l) u (60 + l') = un D.2 1 l v 1 l')
    rw [up_ne _ _ (by omega : 4 + l' ≠ 60 + l), up_ne _ _ (by omega : 4 + l' ≠ 32 + l), up_ne _ _ (by omega : 32 + l' ≠ 60 + l)]
    refine ⟨a, ?_⟩
    by_cases e : l' = l
    · subst e; rw [up_eq, up_eq, un_eq, un_eq]; exact ⟨rfl, huv⟩
    · rw [up_ne _ _ (by omega : 32 + l' ≠ 32 + l), up_ne _ _ (by omega : 60 + l' ≠ 60 + l), up_ne _ _ (by omega : 60 + l' ≠ 32 + l), un_ne _ _ _ e, un_ne _ _ _ e]; exact ⟨b, c⟩
  · rw [up_ne _ _ (by omega), up_ne _ _ (by omega), up_ne _ _ (by omega), up_ne _ _ (by omega), up_ne _ _ (by omega), up_ne _ _ (by omega)]; exact h7 d hd
theorem RW_ln (h : RW w P D) (hN : pN P ≤ 12) (n : Nat) : RW (upd w 2 (nI n)) P (sLn D n) := by
  obtain ⟨⟨h1, h2, h3⟩, h4, h5, h6, h7⟩ := h
  refine ⟨⟨h1, h2, rfl⟩, h4, fun q hq => ?_, fun l hl => ?_, fun d hd => ?_⟩
  · rw [up_ne _ _ (by omega), up_ne _ _ (by omega), up_ne _ _ (by omega)]; exact h5 q hq
  · rw [up_ne _ _ (by omega), up_ne _ _ (by omega), up_ne _ _ (by omega)]; exact h6 l hl
  · rw [up_ne _ _ (by omega), up_ne _ _ (by omega), up_ne _ _ (by omega)]; exact h7 d hd
theorem RW_day (h : RW w P D) (hN : pN P ≤ 12) (n : Nat) : RW (upd w 0 (nI n)) P (sDay D n) := by
  obtain ⟨⟨h1, h2, h3⟩, h4, h5, h6, h7⟩ := h
  refine ⟨⟨rfl, h2, h3⟩, h4, fun q hq => ?_, fun l hl => ?_, fun d hd => ?_⟩
  · rw [up_ne _ _ (by omega), up_ne _ _ (by omega), up_ne _ _ (by omega)]; exact h5 q hq
  · rw [up_ne _ _ (by omega), up_ne _ _ (by omega), up_ne _ _ (by omega)]; exact h6 l hl
  · rw [up_ne _ _ (by omega), up_ne _ _ (by omega), up_ne _ _ (by omega)]; exact h7 d hd
theorem RW_draw (h : RW w P D) (hN : pN P ≤ 12) (v : Int32) : RW (upd w 1 v) P (sDraw D v) := by
  obtain ⟨⟨h1, h2, h3⟩, h4, h5, h6, h7⟩ := h
  refine ⟨⟨h1, rfl, h3⟩, h4, fun q hq => ?_, fun l hl => ?_, fun d hd => ?_⟩
  · rw [up_ne _ _ (by omega), up_ne _ _ (by omega), up_ne _ _ (by omega)]; exact h5 q hq
  · rw [up_ne _ _ (by omega), up_ne _ _ (by omega), up_ne _ _ (by omega)]; exact h6 l hl
  · rw [up_ne _ _ (by omega), up_ne _ _ (by omega), up_ne _ _ (by omega)]; exact h7 d hd
theorem RW_dead (h : RW w P D) (hN : pN P ≤ 12) {q : Nat} (hq : q < pN P) : RW (upd w 3 (w 3 ||| shl 1 (nI q))) P (sDead D q) := by
  obtain ⟨⟨h1, h2, h3⟩, h4, h5, h6, h7⟩ := h
  refine ⟨⟨h1, h2, h3⟩, fun i hi => ?_, fun q hq => ?_, fun l hl => ?_, fun d hd => ?_⟩
  · show bt (upd w 3 (w 3 ||| shl 1 (nI q)) 3) i = !decide (un D.1 1 q 1 1 i = 0)
    rw [up_eq, b_or, h4 i hi, bt_one (by omega) (by omega)]
    by_cases e : i = q
    · subst e; rw [un_eq]; simp
    · rw [un_ne _ _ _ e]; simp [e]
  · rw [up_ne _ _ (by omega), up_ne _ _ (by omega), up_ne _ _ (by omega)]; exact h5 q hq
  · rw [up_ne _ _ (by omega), up_ne _ _ (by omega), up_ne _ _ (by omega)]; exact h6 l hl
  · rw [up_ne _ _ (by omega), up_ne _ _ (by omega), up_ne _ _ (by omega)]; exact h7 d hd
theorem RW_dies (h : RW w P D) (hN : pN P ≤ 12) {q : Nat} (hq : q < pN P) {u v : Int32} (huv : u = v + 1) : RW (upd w (88 + q) u) P (sDies D q v) := by
  obtain ⟨⟨h1, h2, h3⟩, h4, h5, h6, h7⟩ := h
  refine ⟨⟨by rw [up_ne _ _ (by omega)]; exact h1, by rw [up_ne _ _ (by omega)]; exact h2, by rw [up_ne _ _ (by omega)]; exact h3⟩, fun i hi => by rw [up_ne _ _ (by omega)]; exact h4 i hi, fun q' hq' => ?_, fun l hl => ?_, fun d hd => ?_⟩
  · obtain ⟨a, b, c⟩ := h5 q' hq'
    rw [up_ne _ _ (by omega : 100 + q' ≠ 88 + q), up_ne _ _ (by omega : 112 + q' ≠ 88 + q)]
    refine ⟨?_, b, c⟩
    show _ = un D.2 2 q v 2 q' + 1
    by_cases e : q' = q
    · subst e; rw [up_eq, un_eq]; exact huv
    · rw [up_ne _ _ (by omega), un_ne _ _ _ e]; exact a
  · rw [up_ne _ _ (by omega), up_ne _ _ (by omega), up_ne _ _ (by omega)]; exact h6 l hl
  · rw [up_ne _ _ (by omega), up_ne _ _ (by omega), up_ne _ _ (by omega)]; exact h7 d hd
theorem RW_coin (h : RW w P D) (hN : pN P ≤ 12) {q : Nat} (hq : q < pN P) (v : Int32) : RW (upd w (100 + q) v) P (sCoin D q v) := by
  obtain ⟨⟨h1, h2, h3⟩, h4, h5, h6, h7⟩ := h
  refine ⟨⟨by rw [up_ne _ _ (by omega)]; exact h1, by rw [up_ne _ _ (by omega)]; exact h2, by rw [up_ne _ _ (by omega)]; exact h3⟩, fun i hi => by rw [up_ne _ _ (by omega)]; exact h4 i hi, fun q' hq' => ?_, fun l hl => ?_, fun d hd => ?_⟩
  · obtain ⟨a, b, c⟩ := h5 q' hq'
    rw [up_ne _ _ (by omega : 88 + q' ≠ 100 + q), up_ne _ _ (by omega : 112 + q' ≠ 100 + q)]
    refine ⟨a, ?_, c⟩
    show _ = un D.2 3 q v 3 q'
    by_cases e : q' = q
    · subst e; rw [up_eq, un_eq]
    · rw [up_ne _ _ (by omega), un_ne _ _ _ e]; exact b
  · rw [up_ne _ _ (by omega), up_ne _ _ (by omega), up_ne _ _ (by omega)]; exact h6 l hl
  · rw [up_ne _ _ (by omega), up_ne _ _ (by omega), up_ne _ _ (by omega)]; exact h7 d hd
theorem RW_sp (h : RW w P D) (hN : pN P ≤ 12) {q : Nat} (hq : q < pN P) (s : Nat) : RW (upd w (112 + q) (nI s)) P (sSp D q s) := by
  obtain ⟨⟨h1, h2, h3⟩, h4, h5, h6, h7⟩ := h
  refine ⟨⟨by rw [up_ne _ _ (by omega)]; exact h1, by rw [up_ne _ _ (by omega)]; exact h2, by rw [up_ne _ _ (by omega)]; exact h3⟩, fun i hi => by rw [up_ne _ _ (by omega)]; exact h4 i hi, fun q' hq' => ?_, fun l hl => ?_, fun d hd => ?_⟩
  · obtain ⟨a, b, c⟩ := h5 q' hq'
    rw [up_ne _ _ (by omega : 88 + q' ≠ 112 + q), up_ne _ _ (by omega : 100 + q' ≠ 112 + q)]
    refine ⟨a, b, ?_⟩
    show _ = nI (un D.1 4 q s 4 q')
    by_cases e : q' = q
    · subst e; rw [up_eq, un_eq]
    · rw [up_ne _ _ (by omega), un_ne _ _ _ e]; exact c
  · rw [up_ne _ _ (by omega), up_ne _ _ (by omega), up_ne _ _ (by omega)]; exact h6 l hl
  · rw [up_ne _ _ (by omega), up_ne _ _ (by omega), up_ne _ _ (by omega)]; exact h7 d hd
theorem RW_sg (h : RW w P D) (hN : pN P ≤ 12) {d : Nat} (hd : d < 8) {a b c u : Int32} (hu : u = c + 1) : RW (upd (upd (upd w (124 + d) a) (132 + d) b) (140 + d) u) P (sSg D d a b c) := by
  obtain ⟨⟨h1, h2, h3⟩, h4, h5, h6, h7⟩ := h
  have e : ∀ i, i < 124 → upd (upd (upd w (124 + d) a) (132 + d) b) (140 + d) u i = w i := fun i hi => by rw [up_ne _ _ (by omega), up_ne _ _ (by omega), up_ne _ _ (by omega)]
  refine ⟨⟨by rw [e _ (by omega)]; exact h1, by rw [e _ (by omega)]; exact h2, by rw [e _ (by omega)]; exact h3⟩, fun i hi => by rw [e _ (by omega)]; exact h4 i hi, fun q hq => ?_, fun l hl => ?_, fun d' hd' => ?_⟩
  · rw [e _ (by omega), e _ (by omega), e _ (by omega)]; exact h5 q hq
  · rw [e _ (by omega), e _ (by omega), e _ (by omega)]; exact h6 l hl
  · obtain ⟨a1, a2, a3⟩ := h7 d' hd'
    show _ = un D.2 4 d a 4 d' ∧ _ = un (un D.2 4 d a) 5 d b 5 d' ∧ _ = un (un (un D.2 4 d a) 5 d b) 6 d c 6 d' + 1
    by_cases k : d' = d
    · subst k
      rw [up_eq, up_ne _ _ (by omega : 132 + d' ≠ 140 + d'), up_eq, up_ne _ _ (by omega : 124 + d' ≠ 140 + d'), up_ne _ _ (by omega : 124 + d' ≠ 132 + d'), up_eq, un_eq, un_eq, un_eq]
      exact ⟨rfl, rfl, hu⟩
    · rw [up_ne _ _ (by omega : 124 + d' ≠ 140 + d), up_ne _ _ (by omega : 124 + d' ≠ 132 + d), up_ne _ _ (by omega : 124 + d' ≠ 124 + d), up_ne _ _ (by omega : 132 + d' ≠ 140 + d), up_ne _ _ (by omega : 132 + d' ≠ 132 + d), up_ne _ _ (by omega : 132 + d' ≠ 124 + d), up_ne _ _ (by omega : 140 + d' ≠ 140 + d), up_ne _ _ (by omega : 140 + d' ≠ 132 + d), up_ne _ _ (by omega : 140 + d' ≠ 124 + d), un_ne _ _ _ k, un_ne _ _ _ k, un_ne _ _ _ k]
      exact ⟨a1, a2, a3⟩
end RWU
