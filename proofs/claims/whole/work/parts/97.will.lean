/-! ===== a will is read ===== -/
abbrev Wl3 : Type := Int32 × Nat × Nat
def w0 : Wl3 := (0, 0, 0)
def WS (A0 B0 : Mm) (n m : Nat) (b : Nat → Nat) (A B : Mm) (i : Nat) (Ws : List Wl3) : Prop := i ≤ m ∧ TK A n b 202 m ∧ A 202 7 = nI i ∧ CK A0 A ∧ A 184 = A0 184 ∧ FK B0 B ∧ FTk B n b 202 i ∧ (A 198 5 = nI Ws.length ∧ A 198 6 = A0 198 6 ∧ A 198 7 = A0 198 7) ∧ ∀ k, k < Ws.length → (A 199 k = (Ws.getD k w0).1 ∧ A 200 k = nI (Ws.getD k w0).2.1 ∧ A 201 k = eo (Ws.getD k w0).2.2) ∧ (B 259 (144 + k) = (Ws.getD k w0).1 ∧ B 260 (144 + k) = nI (Ws.getD k w0).2.1 ∧ B 261 (144 + k) = nI (Ws.getD k w0).2.2)
/-- the letter that a sign is -/
def lofN (c : Nat) : Option Nat := if 97 ≤ c ∧ c ≤ 122 then some (c - 97) else if c = 46 then some 26 else if c = 44 then some 27 else none
theorem lofN_lt {c l : Nat} (h : lofN c = some l) : l < 28 := by
  unfold lofN at h
  split at h
  · cases h; omega
  · split at h
    · cases h; omega
    · split at h
      · cases h; omega
      · cases h
theorem lof_cs {c : Nat} (hc : c < 256) {R : Type} {f : Int32 → R} {x : R} (h1 : 97 ≤ c → c ≤ 122 → f (nI (c - 97)) = x) (h2 : ¬ (97 ≤ c ∧ c ≤ 122) → f (if nI c = 46 then 26 else if nI c = 44 then 27 else -1) = x) : f (o32 (lofN c)) = x := by
  unfold lofN
  by_cases h : 97 ≤ c ∧ c ≤ 122
  · rw [if_pos h]; exact h1 h.1 h.2
  · rw [if_neg h]
    have := h2 h
    by_cases e : c = 46
    · rw [if_pos e]; rw [if_pos (by rw [e]; rfl)] at this; exact this
    · rw [if_neg e]
      rw [if_neg (n_ne 46 (x := 46) rfl e (by omega) (by omega))] at this
      by_cases e' : c = 44
      · rw [if_pos e']; rw [if_pos (by rw [e']; rfl)] at this; exact this
      · rw [if_neg e']
        rw [if_neg (n_ne 44 (x := 44) rfl e' (by omega) (by omega))] at this; exact this
theorem lof_eq {c : Nat} (hc : c < 256) : o32 (lofN c) = if nI c < 97 then (if nI c = 46 then 26 else if nI c = 44 then 27 else -1) else if 122 < nI c then (if nI c = 46 then 26 else if nI c = 44 then 27 else -1) else nI c - 97 := by
  have l97 : (nI c < 97) ↔ c < 97 := ltc (k := 97) hc (by omega)
  have l122 : (122 < nI c) ↔ 122 < c := ltc (c := 122) (k := c) (by omega) hc
  refine lof_cs hc (f := id) (fun a d => ?_) (fun a => ?_)
  · rw [if_neg (fun q => absurd (l97.mp q) (by omega)), if_neg (fun q => absurd (l122.mp q) (by omega)), show (97 : Int32) = nI 97 from rfl, pk_sub a]
    rfl
  · by_cases q : c < 97
    · rw [if_pos (l97.mpr q)]; rfl
    · rw [if_neg (fun z => q (l97.mp z)), if_pos (l122.mpr (by omega))]; rfl
theorem C_letterOf (A : Mm) {c : Nat} (hc : c < 256) : f_X10_letterOf (nI c) A = some (o32 (lofN c), A) := by
  rw [lof_eq hc]
  unfold f_X10_letterOf f_X10_letterOf_17
  split
  · split
    · rfl
    · split <;> rfl
  · split
    · split
      · rfl
      · split <;> rfl
    · rfl
theorem F_letterOf (A : Mm) {c : Nat} (hc : c < 256) : f_X11_letterOf (nI c) A = some (o32 (lofN c), A) := by
  rw [lof_eq hc]
  unfold f_X11_letterOf f_X11_letterOf_17
  split
  · split
    · rfl
    · split <;> rfl
  · split
    · split
      · rfl
      · split <;> rfl
    · rfl
theorem o32_n1 {c : Nat} : (o32 (lofN c) = -1) ↔ lofN c = none := by
  cases h : lofN c with
  | none => exact ⟨fun _ => rfl, fun _ => rfl⟩
  | some l =>
    have := lofN_lt h
    exact ⟨fun e => absurd e (of_eq_false (nI_n1 (by omega))), fun e => by cases e⟩
theorem uM_uM (S : Mm) (a i : Nat) (v w : Int32) : uM (uM S a i v) a i w = uM S a i w := by
  funext k x
  rw [uM_at, uM_at, uM_at]
  split <;> rfl
section WILL
variable {A0 B0 A B : Mm} {n m i : Nat} {b : Nat → Nat} {Ws : List Wl3}
theorem WS.cword (h : WS A0 B0 n m b A B i Ws) (w : WB n b) (k : Nat) (hk : k < 10000) : f_X8_isWord 202 (nI k) A = some (if (tok n b 202 i).1 = 1 ∧ (tok n b 202 i).2 = k then 1 else 0, A) := h.2.1.word w isT2 h.2.2.1 h.1 hk
theorem WS.csign (h : WS A0 B0 n m b A B i Ws) (w : WB n b) (k : Nat) (hk : k < 10000) : f_X8_isSign 202 (nI k) A = some (if (tok n b 202 i).1 = 3 ∧ (tok n b 202 i).2 = k then 1 else 0, A) := h.2.1.sign w isT2 h.2.2.1 h.1 hk
theorem WS.ft (h : WS A0 B0 n m b A B i Ws) : FTk B n b 202 i := h.2.2.2.2.2.2.1
theorem WS.fk (h : WS A0 B0 n m b A B i Ws) : FK B0 B := h.2.2.2.2.2.1
theorem WS.ck (h : WS A0 B0 n m b A B i Ws) : CK A0 A := h.2.2.2.1
theorem WS.fword (h : WS A0 B0 n m b A B i Ws) (k : Nat) (hk : k < 4) : f_X11_isWord (nI (k + 15)) B = some (if (tok n b 202 i).1 = 1 ∧ (tok n b 202 i).2 = k then 1 else 0, B) := h.ft.word (by rw [wds_2, l4]; exact hk)
theorem WS.fsign (h : WS A0 B0 n m b A B i Ws) : f_X11_isSign (nI 59) B = some (if (tok n b 202 i).1 = 3 ∧ (tok n b 202 i).2 = 59 then 1 else 0, B) := h.ft.sign (by rw [sgs_2]; decide) (by omega) (by omega)
theorem WS.im (h : WS A0 B0 n m b A B i Ws) (ht : (tok n b 202 i).1 ≠ 0) : i < m := h.2.1.lt h.1 ht
theorem WS.err (h : WS A0 B0 n m b A B i Ws) (k : Int32) : f_X8_wrong 202 k A = some (0, uM (uM A 184 2 k) 184 3 (nI (pl n b 202 i))) ∧ f_X11_errs k B = some (-1, uM (uM B 239 32 k) 239 33 (nI (pl n b 202 i))) ∧ JF A0 B0 (some (0, uM (uM A 184 2 k) 184 3 (nI (pl n b 202 i)))) (some (-1, uM (uM B 239 32 k) 239 33 (nI (pl n b 202 i)))) := ⟨h.2.1.wrong isT2 h.2.2.1 h.1 k, h.ft.errs k, JF.mk h.ck h.fk k _⟩
/-- the class skips, the reference has read on -/
theorem WS.go (h : WS A0 B0 n m b A B i Ws) (hi : i < m) {B' : Mm} (e1 : ∀ j, j ≠ 239 → B' j = B j) (e2 : ∀ i, i < 17 ∨ 20 < i → B' 239 i = B 239 i) (ft : FTk B' n b 202 (i + 1)) : WS A0 B0 n m b (uM A 202 7 (nI (i + 1))) B' (i + 1) Ws := by
  obtain ⟨h1, h2, h3, h4, h5, h6, h7, ⟨h8, h9, h10⟩, h11⟩ := h
  refine ⟨by omega, h2.congr (by rw [uM_ne _ _ _ (by decide)]) fun j p q => uM_off _ _ _ (by omega), uM_eq _ _ _ _, h4.trans ⟨fun j p q => uM_off _ _ _ (by omega), fun j p q => by rw [uM_off _ _ _ (by decide)]⟩, by rw [uM_off _ _ _ (by decide)]; exact h5, h6.of e1 e2, ft, ⟨by rw [uM_off _ _ _ (by decide)]; exact h8, by rw [uM_off _ _ _ (by decide)]; exact h9, by rw [uM_off _ _ _ (by decide)]; exact h10⟩, fun k hk => ?_⟩
  rw [uM_off _ _ _ (by decide), uM_off _ _ _ (by decide), uM_off _ _ _ (by decide), e1 259 (by decide), e1 260 (by decide), e1 261 (by decide)]
  exact h11 k hk
theorem notrow {s : Nat} (h : b s ≠ 34) : isR 202 (b s) = false := by
  unfold isR
  rw [decide_eq_false h, Bool.false_and]
theorem tok34 (hi : ts n b 202 i < n) : ((tok n b 202 i).1 = 3 ∧ (tok n b 202 i).2 = 34) ↔ b (ts n b 202 i) = 34 := by
  unfold tok
  rw [if_pos hi]
  generalize ts n b 202 i = s
  unfold tokS
  constructor
  · rintro ⟨h1, h2⟩
    by_cases z1 : isW (b s) = true
    · rw [if_pos z1] at h1
      revert h1
      cases fno (wq n b s) 0 (wds 202) with
      | none => intro h1; exact absurd h1 (by show ¬ (4 : Nat) = 3; decide)
      | some k => intro h1; exact absurd h1 (by show ¬ (1 : Nat) = 3; decide)
    · rw [if_neg z1] at h1 h2
      by_cases z2 : isD (b s) = true
      · rw [if_pos z2] at h1
        by_cases z3 : dE n b s - s ≤ 4
        · rw [if_pos z3] at h1; exact absurd h1 (by show ¬ (2 : Nat) = 3; decide)
        · rw [if_neg z3] at h1; exact absurd h1 (by show ¬ (4 : Nat) = 3; decide)
      · rw [if_neg z2] at h1 h2
        by_cases z3 : (sgs 202).contains (b s) = true
        · rw [if_pos z3] at h2; exact h2
        · rw [if_neg z3] at h1; exact absurd h1 (by show ¬ (4 : Nat) = 3; decide)
  · intro h
    rw [h, if_neg (show ¬ isW 34 = true by decide), if_neg (show ¬ isD 34 = true by decide), if_pos (show (sgs 202).contains 34 = true from by rw [sgs_2]; decide)]
    exact ⟨rfl, rfl⟩
/-- both go on, behind a token that is no row -/
theorem WS.skip (h : WS A0 B0 n m b A B i Ws) (w : WB n b) (f : FP B0 n b) (hi : i < m) (hn : ¬ ((tok n b 202 i).1 = 3 ∧ (tok n b 202 i).2 = 34)) : ∃ A' B', f_X8_skip 202 A = some A' ∧ f_X11_reads B = some B' ∧ WS A0 B0 n m b A' B' (i + 1) Ws ∧ (∀ k, k ≠ 202 → A' k = A k) ∧ ∀ k, k ≠ 239 → B' k = B k := by
  have tl := h.2.1.tsl hi
  obtain ⟨B', e, a1, a2, a3⟩ := F_nx (h.fk.fp f) w isT2 h.ft tl (notrow fun q => hn ((tok34 tl).mpr q))
  exact ⟨_, B', h.2.1.skip h.2.2.1 hi, e, h.go hi a1 a2 a3, fun k hk => uM_off _ _ _ hk, a1⟩
theorem WS.uA (h : WS A0 B0 n m b A B i Ws) {k x : Nat} (v : Int32) (hk : k = 199 ∨ k = 200 ∨ k = 201) (hx : Ws.length ≤ x) : WS A0 B0 n m b (uM A k x v) B i Ws := by
  obtain ⟨h1, h2, h3, h4, h5, h6, h7, ⟨h8, h9, h10⟩, h11⟩ := h
  refine ⟨h1, h2.congr (by rw [uM_off _ _ _ (by omega)]) fun j p q => uM_off _ _ _ (by omega), by rw [uM_off _ _ _ (by omega)]; exact h3, h4.trans ⟨fun j p q => uM_off _ _ _ (by omega), fun j p q => by rw [uM_off _ _ _ (by omega)]⟩, by rw [uM_off _ _ _ (by omega)]; exact h5, h6, h7, ⟨by rw [uM_off _ _ _ (by omega)]; exact h8, by rw [uM_off _ _ _ (by omega)]; exact h9, by rw [uM_off _ _ _ (by omega)]; exact h10⟩, fun j hj => ?_⟩
  rw [uM_n (by omega), uM_n (by omega), uM_n (by omega)]
  exact h11 j hj
theorem WS.uB (h : WS A0 B0 n m b A B i Ws) {k x : Nat} (v : Int32) (hk : k = 259 ∨ k = 260 ∨ k = 261) (hx : 144 + Ws.length ≤ x) : WS A0 B0 n m b A (uM B k x v) i Ws := by
  obtain ⟨h1, h2, h3, h4, h5, h6, h7, h8, h11⟩ := h
  refine ⟨h1, h2, h3, h4, h5, h6.u (kn_w hk (by omega)) (fun q => absurd q (by omega)), h7.congr fun j p q => by rw [uM_off _ _ _ (by omega)], h8, fun j hj => ?_⟩
  rw [uM_n (by omega), uM_n (by omega), uM_n (by omega)]
  exact h11 j hj
theorem J_pers0 {P : PP} {p : Nat} (w : WB n b) (f : FP B0 n b) (rs : RS B0 P) (hN : pN P ≤ 12) (hp : p < 12) (h6 : A0 198 6 = nI p) (h7 : A0 198 7 = nI (pN P)) (h : WS A0 B0 n m b A B i Ws) (hL : Ws.length < 12) : JF A0 B0 (f_X9_readPerson_200 A) (f_X11_readHeir (nI p) B) ∨ ∃ v A' B', f_X9_readPerson_200 A = some (1, A') ∧ f_X11_readHeir (nI p) B = some (nI v, B') ∧ WS A0 B0 n m b A' B' (i + 1) Ws ∧ v < pN P ∧ v ≠ p ∧ A' 200 Ws.length = nI v ∧ (∀ k, k ≠ 200 → k ≠ 202 → A' k = A k) ∧ (∀ k, k ≠ 239 → B' k = B k) ∧ i < m := by
  obtain ⟨t1, t2⟩ := tok_lt w isT2 i
  obtain ⟨n1, n2, n3, n4, -⟩ := h.ft.num
  have kd := h.2.1.kind h.2.2.1 h.1
  obtain ⟨⟨s5, s6, s7⟩, -⟩ := h.2.2.2.2.2.2.2
  rw [h6] at s6
  rw [h7] at s7
  have rsB : RS B P := rs.congr (h.fk.2 6 rfl) (h.fk.2 12 rfl) fun k a c => funext fun x => h.fk.1 k x (kp_o (by omega) (by omega))
  unfold f_X9_readPerson_200 f_X11_readHeir f_X9_readPerson_200_44 f_X11_readHeir_33
  rw [kd, bind_x]
  by_cases c : (tok n b 202 i).1 = 2
  · have vl := h.2.1.value h.2.2.1 h.1 (Or.inr (Or.inl c))
    have hi := h.im (by omega)
    obtain ⟨e1, e2, e3⟩ := h.err 2
    rw [if_pos (show nI (tok n b 202 i).1 = 2 by rw [c]; rfl), vl, bind_x, if_pos (n1.mpr c), n4 c]
    dsimp only
    by_cases v1 : (tok n b 202 i).2 < pN P
    · rw [if_neg (show ¬ A 198 7 ≤ nI (tok n b 202 i).2 by rw [s7]; exact nI_ge_f v1 (by omega)), F_isPerson1 rsB hN v1, bind_x, if_neg (of_eq_false i10)]
      dsimp only
      by_cases v2 : (tok n b 202 i).2 = p
      · rw [if_pos (show nI (tok n b 202 i).2 = A 198 6 by rw [s6, v2]), if_pos (show B 239 20 = nI p by rw [n4 c, v2]), e1, e2, gdw, erw]
        exact Or.inl e3
      · have np : ¬ nI (tok n b 202 i).2 = nI p := fun z => v2 ((nI_inj (by omega) (by omega)).mp z)
        rw [if_neg (show ¬ nI (tok n b 202 i).2 = A 198 6 by rw [s6]; exact np), if_neg (show ¬ B 239 20 = nI p by rw [n4 c]; exact np), gd_pos (show inB (A 198 5) 12 = true by rw [s5]; exact (inB_nI (by omega)).mpr hL), s5, ix_nI (by omega), nm_x, nm_x]
        obtain ⟨A', B', a1, b1, g, u1, u2⟩ := (h.uA (k := 200) (x := Ws.length) (nI (tok n b 202 i).2) (by omega) (Nat.le_refl _)).skip w f hi (by omega)
        rw [a1, b1]
        refine Or.inr ⟨(tok n b 202 i).2, A', B', rfl, ?_, g, v1, v2, ?_, fun k p q => ?_, u2, hi⟩
        · show some (B 239 20, B') = _
          rw [n4 c]
        · rw [u1 200 (by decide), uM_eq]
        · rw [u1 k q, uM_off _ _ _ p]
    · rw [if_pos (show A 198 7 ≤ nI (tok n b 202 i).2 by rw [s7]; exact nI_ge_t (by omega) (by omega)), F_isPerson0 rsB (Or.inr (nI_ge_t (by omega) (by omega))), bind_x, if_pos rfl]
      dsimp only
      rw [e1, e2, gdw, erw]
      exact Or.inl e3
  · obtain ⟨e1, e2, e3⟩ := h.err 1
    rw [if_neg (n_ne 2 (x := 2) rfl c (by omega) (by omega)), if_neg (fun z => c (n1.mp z))]
    dsimp only
    rw [e1, e2, gdw, erw]
    exact Or.inl e3
theorem J_pers1 {P : PP} {p : Nat} (w : WB n b) (f : FP B0 n b) (rs : RS B0 P) (hN : pN P ≤ 12) (hp : p < 12) (h6 : A0 198 6 = nI p) (h7 : A0 198 7 = nI (pN P)) (h : WS A0 B0 n m b A B i Ws) (hL : Ws.length < 12) : JF A0 B0 (f_X9_readPerson_201 A) (f_X11_readHeir (nI p) B) ∨ ∃ v A' B', f_X9_readPerson_201 A = some (1, A') ∧ f_X11_readHeir (nI p) B = some (nI v, B') ∧ WS A0 B0 n m b A' B' (i + 1) Ws ∧ v < pN P ∧ v ≠ p ∧ A' 201 Ws.length = nI v ∧ (∀ k, k ≠ 201 → k ≠ 202 → A' k = A k) ∧ (∀ k, k ≠ 239 → B' k = B k) ∧ i < m := by
  obtain ⟨t1, t2⟩ := tok_lt w isT2 i
  obtain ⟨n1, n2, n3, n4, -⟩ := h.ft.num
  have kd := h.2.1.kind h.2.2.1 h.1
  obtain ⟨⟨s5, s6, s7⟩, -⟩ := h.2.2.2.2.2.2.2
  rw [h6] at s6
  rw [h7] at s7
  have rsB : RS B P := rs.congr (h.fk.2 6 rfl) (h.fk.2 12 rfl) fun k a c => funext fun x => h.fk.1 k x (kp_o (by omega) (by omega))
  unfold f_X9_readPerson_201 f_X11_readHeir f_X9_readPerson_201_44 f_X11_readHeir_33
  rw [kd, bind_x]
  by_cases c : (tok n b 202 i).1 = 2
  · have vl := h.2.1.value h.2.2.1 h.1 (Or.inr (Or.inl c))
    have hi := h.im (by omega)
    obtain ⟨e1, e2, e3⟩ := h.err 2
    rw [if_pos (show nI (tok n b 202 i).1 = 2 by rw [c]; rfl), vl, bind_x, if_pos (n1.mpr c), n4 c]
    dsimp only
    by_cases v1 : (tok n b 202 i).2 < pN P
    · rw [if_neg (show ¬ A 198 7 ≤ nI (tok n b 202 i).2 by rw [s7]; exact nI_ge_f v1 (by omega)), F_isPerson1 rsB hN v1, bind_x, if_neg (of_eq_false i10)]
      dsimp only
      by_cases v2 : (tok n b 202 i).2 = p
      · rw [if_pos (show nI (tok n b 202 i).2 = A 198 6 by rw [s6, v2]), if_pos (show B 239 20 = nI p by rw [n4 c, v2]), e1, e2, gdw, erw]
        exact Or.inl e3
      · have np : ¬ nI (tok n b 202 i).2 = nI p := fun z => v2 ((nI_inj (by omega) (by omega)).mp z)
        rw [if_neg (show ¬ nI (tok n b 202 i).2 = A 198 6 by rw [s6]; exact np), if_neg (show ¬ B 239 20 = nI p by rw [n4 c]; exact np), gd_pos (show inB (A 198 5) 12 = true by rw [s5]; exact (inB_nI (by omega)).mpr hL), s5, ix_nI (by omega), nm_x, nm_x]
        obtain ⟨A', B', a1, b1, g, u1, u2⟩ := (h.uA (k := 201) (x := Ws.length) (nI (tok n b 202 i).2) (by omega) (Nat.le_refl _)).skip w f hi (by omega)
        rw [a1, b1]
        refine Or.inr ⟨(tok n b 202 i).2, A', B', rfl, ?_, g, v1, v2, ?_, fun k p q => ?_, u2, hi⟩
        · show some (B 239 20, B') = _
          rw [n4 c]
        · rw [u1 201 (by decide), uM_eq]
        · rw [u1 k q, uM_off _ _ _ p]
    · rw [if_pos (show A 198 7 ≤ nI (tok n b 202 i).2 by rw [s7]; exact nI_ge_t (by omega) (by omega)), F_isPerson0 rsB (Or.inr (nI_ge_t (by omega) (by omega))), bind_x, if_pos rfl]
      dsimp only
      rw [e1, e2, gdw, erw]
      exact Or.inl e3
  · obtain ⟨e1, e2, e3⟩ := h.err 1
    rw [if_neg (n_ne 2 (x := 2) rfl c (by omega) (by omega)), if_neg (fun z => c (n1.mp z))]
    dsimp only
    rw [e1, e2, gdw, erw]
    exact Or.inl e3
theorem J_rowL {s : Nat} (w : WB n b) (tpe : TP A0 n b) (f : FP B0 n b) (h : WS A0 B0 n m b A B i Ws) (hL : Ws.length < 12) (hs : ts n b 202 i = s) (hi : i < m) (h34 : b s = 34) : ∀ (d x : Nat) (set : Int32) (fc ff : Nat), x + d = n → d < fc → d < ff → s + 1 ≤ x → qE n b (s + 1) = qE n b x → bt set 31 = false → JF A0 B0 (f_X9_readRow_35 fc (nI (s + 1)) set (nI x) A) (f_X11_readRow_43 ff (nI s) set (nI (x - (s + 1))) (uM B 239 17 (nI x))) ∨ ∃ set' A' B', f_X9_readRow_35 fc (nI (s + 1)) set (nI x) A = some (1, A') ∧ f_X11_readRow_43 ff (nI s) set (nI (x - (s + 1))) (uM B 239 17 (nI x)) = some (set', B') ∧ WS A0 B0 n m b A' B' (i + 1) Ws ∧ set' ≠ -1 ∧ A' 199 Ws.length = set' ∧ (∀ k, k ≠ 199 → k ≠ 202 → A' k = A k) ∧ (∀ k, k ≠ 239 → B' k = B k) := by
  have w' := w
  obtain ⟨w1, w2⟩ := w'
  have tl := h.2.1.tsl hi
  rw [hs] at tl
  have tA : A 184 1 = nI n ∧ ∀ i, i < n → A 185 i = nI (b i) := ⟨by rw [h.2.2.2.2.1]; exact tpe.1, fun j hj => by rw [h.ck.1 185 (by omega) (by omega)]; exact tpe.2 j hj⟩
  have fx : ∀ x, FK B0 (uM B 239 17 (nI x)) := fun x => h.fk.u kn_0 (fun _ => rfl)
  have s5 := h.2.2.2.2.2.2.2.1.1
  intro d
  induction d with
  | zero =>
    intro x set fc ff e1 e2 e3 e4 e5 e6
    have e : x = n := by omega
    subst e
    obtain ⟨fc, rfl⟩ : ∃ k, fc = k + 1 := ⟨fc - 1, by omega⟩
    obtain ⟨ff, rfl⟩ : ∃ k, ff = k + 1 := ⟨ff - 1, by omega⟩
    refine Or.inl ?_
    have r0 := F_raw ((fx x).fp f) w (p := x) (by omega)
    rw [if_neg (Nat.lt_irrefl x)] at r0
    have c : f_X9_readRow_35 (fc + 1) (nI (s + 1)) set (nI x) A = some (0, uM (uM A 184 2 1) 184 3 (nI x)) := by
      show f_X9_readRow_35b (f_X9_readRow_35 fc) (nI (s + 1)) set (nI x) A = _
      unfold f_X9_readRow_35b f_X5_wrong
      rw [tA.1, if_pos (nI_ge_t (Nat.le_refl _) (by omega)), nm_x, nm_x, bind_x]
    have g : f_X11_readRow_43 (ff + 1) (nI s) set (nI (x - (s + 1))) (uM B 239 17 (nI x)) = some (-1, uM (uM (uM B 239 17 (nI x)) 239 32 1) 239 33 (nI x)) := by
      show f_X11_readRow_43b (f_X11_readRow_43 ff) (nI s) set (nI (x - (s + 1))) (uM B 239 17 (nI x)) = _
      unfold f_X11_readRow_43b f_X11_readRow_84 f_X11_errsAt
      rw [uM_eq, r0, bind_x, if_neg (show ¬ (-1 : Int32) = 34 by decide)]
      dsimp only
      rw [uM_eq, r0, bind_x, if_pos rfl]
      dsimp only
      rw [uM_eq, nm_x, nm_x, bind_x]
    rw [c, g]
    exact JF.mk h.ck (fx x) 1 (nI x)
  | succ d ih =>
    intro x set fc ff e1 e2 e3 e4 e5 e6
    obtain ⟨fc, rfl⟩ : ∃ k, fc = k + 1 := ⟨fc - 1, by omega⟩
    obtain ⟨ff, rfl⟩ : ∃ k, ff = k + 1 := ⟨ff - 1, by omega⟩
    have hx : x < n := by omega
    have lt := w2 x hx
    have r0 := F_raw ((fx x).fp f) w (p := x) (by omega)
    rw [if_pos hx] at r0
    rw [show f_X9_readRow_35 (fc + 1) (nI (s + 1)) set (nI x) A = f_X9_readRow_35b (f_X9_readRow_35 fc) (nI (s + 1)) set (nI x) A from rfl, show f_X11_readRow_43 (ff + 1) (nI s) set (nI (x - (s + 1))) (uM B 239 17 (nI x)) = f_X11_readRow_43b (f_X11_readRow_43 ff) (nI s) set (nI (x - (s + 1))) (uM B 239 17 (nI x)) from rfl]
    unfold f_X9_readRow_35b f_X11_readRow_43b
    rw [tA.1, if_neg (nI_ge_f (by omega) (by omega)), gd_t (by omega) (by omega), ix_nI (by omega), tA.2 x hx, uM_eq, r0, bind_x]
    by_cases c34 : b x = 34
    · have k34 : nI (b x) = 34 := by rw [c34]; rfl
      rw [if_pos k34, if_pos k34, pk_sub (by omega)]
      unfold f_X9_endRow f_X9_endRow_10
      obtain ⟨q1, q2, q3⟩ := h.err 2
      have pe : nI (pl n b 202 i) = nI s := by unfold pl; rw [hs, if_pos tl]
      rw [pe] at q1 q3
      have bad : ¬ (1 ≤ x - (s + 1) ∧ x - (s + 1) ≤ 28) → JF A0 B0 (some (0, uM (uM A 184 2 2) 184 3 (nI s))) (some (-1, uM (uM (uM B 239 17 (nI x)) 239 32 2) 239 33 (nI s))) := fun _ => JF.mk h.ck (fx x) 2 (nI s)
      by_cases z0 : x - (s + 1) = 0
      · rw [if_pos (show nI (x - (s + 1)) = 0 by rw [z0]; rfl), q1, gdw, gdw, F_isIn0 (Or.inl (show nI (x - (s + 1)) < 1 by rw [z0]; decide)), bind_x, if_pos rfl]
        unfold f_X11_errsAt
        rw [nm_x, nm_x, bind_x]
        exact Or.inl (bad (by omega))
      · rw [if_neg (n_ne 0 (x := 0) rfl z0 (by omega) (by omega))]
        by_cases z28 : x - (s + 1) ≤ 28
        · rw [if_pos (show nI (x - (s + 1)) ≤ 28 from nI_ge_t (b := 28) z28 (by omega)), s5, gd_t hL (by omega), ix_nI (by omega), nm_x, F_isIn1 (show ¬ nI (x - (s + 1)) < 1 from fun q => by have := (nI_ltI (b := 1) (by omega) (by omega)).mp q; omega) (show ¬ 28 < nI (x - (s + 1)) from fun q => by have := (nI_ltI (a := 28) (by omega) (by omega)).mp q; omega), bind_x, if_neg (of_eq_false i10), nm_x]
          dsimp only
          rw [uM_eq, nI_1, uM_uM]
          have g1 := h.uA (k := 199) (x := Ws.length) set (by omega) (Nat.le_refl _)
          have a1 := g1.2.1.skip g1.2.2.1 hi
          have nxt : tp n b 202 (i + 1) = x + 1 := by
            show tEn n b 202 (ts n b 202 i) = x + 1
            rw [hs]
            unfold tEn
            rw [h34, if_neg (show ¬ isW 34 = true by decide), if_neg (show ¬ isD 34 = true by decide), if_pos (show isR 202 34 = true from by unfold isR; rw [sgs_2]; decide), e5]
            have : qE n b x = x := rn_f (p := fun i => !decide (b i = 34)) (by rw [c34]; decide)
            rw [this]
          obtain ⟨B', b1, u1, u2, ft⟩ := F_rd (B := uM B 239 17 (nI (x + 1))) (r0 := 202) (i := i + 1) ((fx (x + 1)).fp f) w isT2 (by rw [uM_eq, nxt]) (by rw [nxt]; omega)
          rw [a1, b1, bind_x, bind_x]
          have v1 : ∀ j, j ≠ 239 → B' j = B j := fun j hj => by rw [u1 j hj, uM_off _ _ _ hj]
          have v2 : ∀ j, j < 17 ∨ 20 < j → B' 239 j = B 239 j := fun j hj => by rw [u2 j hj, uM_ne _ _ _ (by omega)]
          refine Or.inr ⟨set, uM (uM A 199 Ws.length set) 202 7 (nI (i + 1)), B', gd_pos (Or.inr rfl), rfl, g1.go hi v1 v2 ft, fun q => ?_, ?_, fun k p q => ?_, v1⟩
          · rw [q, b_m1 31 (by omega)] at e6
            cases e6
          · rw [uM_off _ _ _ (by decide), uM_eq]
          · rw [uM_off _ _ _ q, uM_off _ _ _ p]
        · rw [if_neg (show ¬ nI (x - (s + 1)) ≤ 28 from nI_ge_f (b := 28) (by omega) (by omega)), q1, gdw, gdw, F_isIn0 (Or.inr (show 28 < nI (x - (s + 1)) from (nI_ltI (a := 28) (by omega) (by omega)).mpr (by omega))), bind_x, if_pos rfl]
          unfold f_X11_errsAt
          rw [nm_x, nm_x, bind_x]
          exact Or.inl (bad (by omega))
    · have k34 : ¬ nI (b x) = 34 := n_ne 34 (x := 34) rfl c34 (by omega) (by omega)
      rw [if_neg k34, if_neg k34, gd_t (by omega) (by omega), C_letterOf A lt, bind_x]
      dsimp only
      rw [uM_eq, r0, bind_x, if_neg (of_eq_false (nI_n1 (by omega)))]
      dsimp only
      rw [uM_eq, r0, bind_x]
      dsimp only
      rw [F_letterOf _ lt, bind_x]
      dsimp only
      by_cases z : lofN (b x) = none
      · have z1 := o32_n1.mpr z
        rw [if_pos z1, if_pos z1]
        unfold f_X5_wrong f_X11_readRow_84 f_X11_errsAt
        rw [nm_x, nm_x, bind_x, uM_eq, nm_x, nm_x, bind_x]
        exact Or.inl (JF.mk h.ck (fx x) 1 (nI x))
      · have z1 : ¬ o32 (lofN (b x)) = -1 := fun q => z (o32_n1.mp q)
        rw [if_neg z1, if_neg z1, uM_eq, r0, bind_x]
        dsimp only
        rw [F_letterOf _ lt, bind_x]
        dsimp only
        rw [uM_eq, nm_x, nm_x, nm_x, nm_x, nm_x, nI_1, nI_1, uM_uM, show x - (s + 1) + 1 = x + 1 - (s + 1) by omega]
        refine ih (x + 1) _ fc ff (by omega) (by omega) (by omega) (by omega) ?_ ?_
        · rw [e5]
          unfold qE
          rw [show n - x = (n - (x + 1)) + 1 by omega, rn_t (p := fun i => !decide (b i = 34)) (by simp [c34])]
        · cases hl : lofN (b x) with
          | none => exact absurd hl z
          | some l =>
            have := lofN_lt hl
            show bt (set ||| shl 1 (nI l)) 31 = false
            rw [b_or, e6, bt_one (by omega) (by omega), decide_eq_false (by omega)]
            rfl
theorem J_row (w : WB n b) (tpe : TP A0 n b) (f : FP B0 n b) (h : WS A0 B0 n m b A B i Ws) (hL : Ws.length < 12) : JF A0 B0 (f_X9_readRow A) (f_X11_readRow B) ∨ ∃ set A' B', f_X9_readRow A = some (1, A') ∧ f_X11_readRow B = some (set, B') ∧ WS A0 B0 n m b A' B' (i + 1) Ws ∧ set ≠ -1 ∧ A' 199 Ws.length = set ∧ (∀ k, k ≠ 199 → k ≠ 202 → A' k = A k) ∧ (∀ k, k ≠ 239 → B' k = B k) ∧ i < m := by
  obtain ⟨w1, w2⟩ := w
  have c34 : f_X8_isSign 202 (34 : Int32) A = _ := h.csign ⟨w1, w2⟩ 34 (by omega)
  unfold f_X9_readRow f_X11_readRow f_X11_readRow_26
  rw [c34, bd, nm_x]
  dsimp only
  have r0 : ∀ p : Nat, p < 100000 → f_X11_raw (nI p) B = some (if p < n then nI (b p) else -1, B) := fun p hp => F_raw (h.fk.fp f) ⟨w1, w2⟩ hp
  obtain ⟨q1, q2, q3⟩ := h.err 1
  have e18 : B 239 18 = nI (pl n b 202 i) := h.ft.1
  by_cases p : (tok n b 202 i).1 = 3 ∧ (tok n b 202 i).2 = 34
  · have hi := h.im (by omega)
    have tl := h.2.1.tsl hi
    have hb := (tok34 tl).mp p
    have pe : pl n b 202 i = ts n b 202 i := by unfold pl; rw [if_pos tl]
    have e19 : B 239 19 = 1 := by
      rcases h.ft.2.1 with ⟨a, -⟩ | ⟨a, -⟩ | ⟨a, -⟩ | ⟨a, l, s, (⟨ne, x, y⟩ | ⟨ne, x⟩)⟩ | ⟨a, -⟩
      · omega
      · omega
      · omega
      · omega
      · exact x
      · omega
    rw [if_pos p, h.2.1.place h.2.2.1 h.1, bind_x, if_pos e19, e18, pe, r0 _ (by omega), bind_x, if_pos tl, if_pos (show nI (b (ts n b 202 i)) = 34 by rw [hb]; rfl), nm_x, nm_x, nI_1]
    dsimp only
    rcases J_rowL ⟨w1, w2⟩ tpe f h hL rfl hi hb (n - (ts n b 202 i + 1)) (ts n b 202 i + 1) 0 FU FU (by omega) (by unfold FU; omega) (by unfold FU; omega) (Nat.le_refl _) rfl (b_0 31) with r | ⟨set, A', B', a1, a2, a3, a4, a5, a6, a7⟩
    · rw [Nat.sub_self] at r
      exact Or.inl r
    · rw [Nat.sub_self] at a2
      exact Or.inr ⟨set, A', B', a1, a2, a3, a4, a5, a6, a7, hi⟩
  · rw [if_neg p, q1, gdw]
    have fe : (if B 239 19 = 1 then (f_X11_raw (B 239 18) B).bind fun q_2 => if q_2.1 = 34 then nm (uM q_2.2 239 17 (B 239 18 + 1)) fun S_3 => f_X11_readRow_43 FU (B 239 18) 0 0 S_3 else (f_X11_errs 1 q_2.2).bind fun q_1 => some (q_1.1, q_1.2) else (f_X11_errs 1 B).bind fun q_1 => some (q_1.1, q_1.2)) = some (-1, uM (uM B 239 32 1) 239 33 (nI (pl n b 202 i))) := by
      by_cases e19 : B 239 19 = 1
      · rw [if_pos e19, e18]
        have ple : pl n b 202 i ≤ n := by unfold pl; split <;> omega
        rw [r0 _ (by omega), bind_x, if_neg, q2, erw]
        by_cases hi : i < m
        · have tl := h.2.1.tsl hi
          have pe : pl n b 202 i = ts n b 202 i := by unfold pl; rw [if_pos tl]
          show ¬ (if pl n b 202 i < n then nI (b (pl n b 202 i)) else -1) = 34
          rw [pe, if_pos tl]
          exact n_ne 34 (x := 34) rfl (fun q => p ((tok34 tl).mpr q)) (by have := w2 _ tl; omega) (by omega)
        · have e0 : (tok n b 202 i).1 = 0 := (h.2.1.at h.1).2.2.2.mpr (by have := h.1; omega)
          have := h.ft.num.2.1.mpr e0
          rw [e19] at this
          exact absurd this (by decide)
      · rw [if_neg e19, q2, erw]
    rw [fe]
    exact Or.inl q3
end WILL
