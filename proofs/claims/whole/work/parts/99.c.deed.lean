/-! ===== a deed is read ===== -/
def orL (ls : List Nat) : Int32 := ls.foldl (fun s l => s ||| shl 1 (nI l)) 0
theorem orL_a (ls : List Nat) (l : Nat) : orL (ls ++ [l]) = orL ls ||| shl 1 (nI l) := by
  unfold orL
  rw [List.foldl_append]
  rfl
theorem orL_n0 (ls : List Nat) {l : Nat} (hl : l < 28) : orL (ls ++ [l]) ≠ 0 := fun e => by
  have := congrArg (fun x => bt x l) e
  simp only [orL_a, b_or, b_0, bt_one (show l < 32 by omega) (show l < 32 by omega)] at this
  simp at this
theorem take_s {ls : List Nat} {j : Nat} (h : j < ls.length) : ls.take (j + 1) = ls.take j ++ [ls.getD j 0] := by
  rw [List.take_succ, List.getD_eq_getElem?_getD, List.getElem?_eq_getElem h]
  rfl
def DS (A0 B0 A B : Mm) (dn : Nat) (ls : List Nat) : Prop := ((∀ k, k ≠ 29 → A k = A0 k) ∧ (∀ y, y < 40 * dn → A 29 y = A0 29 y) ∧ ∀ k, k < ls.length → A 29 (40 * dn + k) = nI (ls.getD k 0)) ∧ (∀ k, k ≠ 264 → B k = B0 k) ∧ (∀ y, y < 320 → B 264 y = B0 264 y) ∧ ∀ k, k < ls.length → B 264 (320 + k) = nI (ls.getD k 0)
section DEED
variable {A0 B0 : Mm} {n dn : Nat} {b : Nat → Nat}
theorem DS.push {A B : Mm} {ls : List Nat} (h : DS A0 B0 A B dn ls) (l : Nat) : DS A0 B0 (uM A 29 (40 * dn + ls.length) (nI l)) (uM B 264 (320 + ls.length) (nI l)) dn (ls ++ [l]) := by
  obtain ⟨⟨h1, h2, h3⟩, h4, h5, h6⟩ := h
  refine ⟨⟨fun k hk => by rw [uM_off _ _ _ hk]; exact h1 k hk, fun y hy => by rw [uM_ne _ _ _ (by omega)]; exact h2 y hy, fun k hk => ?_⟩, fun k hk => by rw [uM_off _ _ _ hk]; exact h4 k hk, fun y hy => by rw [uM_ne _ _ _ (by omega)]; exact h5 y hy, fun k hk => ?_⟩
  · rw [lA] at hk
    by_cases c : k = ls.length
    · rw [c, uM_eq, gA2]
    · rw [uM_ne _ _ _ (by omega), gA1 _ _ _ (by omega)]; exact h3 k (by omega)
  · rw [lA] at hk
    by_cases c : k = ls.length
    · rw [c, uM_eq, gA2]
    · rw [uM_ne _ _ _ (by omega), gA1 _ _ _ (by omega)]; exact h6 k (by omega)
theorem J_deed (hd : dn < 8) (w : WB n b) (tpe : TP A0 n b) (f : FP B0 n b) (h17 : A0 17 5 = nI dn) : ∀ (d x : Nat) (ls : List Nat) (A B : Mm) (fc ff : Nat), x + d = n → d < fc → d < ff → ls.length ≤ 40 → (∀ k, k < ls.length → ls.getD k 0 < 28) → (ls.length = 0 ∨ orL ls ≠ 0) → DS A0 B0 A B dn ls →
    (∃ ls' A' B' k p, f_X6_addDeed_17_184_18 fc (nI ls.length) (orL ls) (nI x) A = some (-1, uM (uM A' 184 2 k) 184 3 p) ∧ f_X11_readDeed_4 ff (nI ls.length) (nI x) B = some (-1, uM (uM B' 239 32 k) 239 33 p) ∧ DS A0 B0 A' B' dn ls') ∨ ∃ ls' A' B', f_X6_addDeed_17_184_18 fc (nI ls.length) (orL ls) (nI x) A = some (nI dn, uM (uM (uM A' 30 dn (nI (List.length ls'))) 31 dn (orL ls')) 17 5 (nI (dn + 1))) ∧ f_X11_readDeed_4 ff (nI ls.length) (nI x) B = some (nI (List.length ls'), B') ∧ DS A0 B0 A' B' dn ls' ∧ List.length ls' ≤ 40 ∧ (∀ k, k < List.length ls' → ls'.getD k 0 < 28) ∧ orL ls' ≠ 0 := by
  obtain ⟨w1, w2⟩ := w
  intro d
  induction d with
  | zero =>
    intro x ls A B fc ff e1 e2 e3 hl h28 hne h
    have e : x = n := by omega
    subst e
    obtain ⟨fc, rfl⟩ : ∃ k, fc = k + 1 := ⟨fc - 1, by omega⟩
    obtain ⟨ff, rfl⟩ : ∃ k, ff = k + 1 := ⟨ff - 1, by omega⟩
    have ta : A 184 1 = nI x := by rw [h.1.1 184 (by decide)]; exact tpe.1
    have a17 : A 17 5 = nI dn := by rw [h.1.1 17 (by decide)]; exact h17
    have tb : B 239 16 = nI x := by rw [h.2.1 239 (by decide)]; exact f.1
    have ce : f_X6_addDeed_17_184_18 (fc + 1) (nI ls.length) (orL ls) (nI x) A = if nI ls.length = 0 then some (-1, uM (uM A 184 2 4) 184 3 (nI x)) else some (nI dn, uM (uM (uM A 30 dn (nI ls.length)) 31 dn (orL ls)) 17 5 (nI (dn + 1))) := by
      show f_X6_addDeed_17_184_18b (f_X6_addDeed_17_184_18 fc) (nI ls.length) (orL ls) (nI x) A = _
      unfold f_X6_addDeed_17_184_18b f_X5_wrong
      rw [ta, if_pos (nI_ge_t (Nat.le_refl _) (by omega)), nm_x, nm_x, bind_x, a17, gd_t hd (by omega), nm_x, uM_off _ _ _ (by decide : (17 : Nat) ≠ 30), a17, gd_t hd (by omega), nm_x, uM_off _ _ _ (by decide : (17 : Nat) ≠ 31), uM_off _ _ _ (by decide : (17 : Nat) ≠ 30), a17, nm_x, nI_1, uM_eq, one_sub, ix_nI (by omega)]
    have fe : f_X11_readDeed_4 (ff + 1) (nI ls.length) (nI x) B = if nI ls.length = 0 then some (-1, uM (uM B 239 32 4) 239 33 (nI x)) else some (nI ls.length, B) := by
      show f_X11_readDeed_4b (f_X11_readDeed_4 ff) (nI ls.length) (nI x) B = _
      unfold f_X11_readDeed_4b f_X11_errsAt
      rw [tb, if_pos (nI_ge_t (Nat.le_refl _) (by omega)), nm_x, nm_x, bind_x]
    rw [ce, fe]
    by_cases z : ls.length = 0
    · rw [if_pos (show nI ls.length = 0 by rw [z]; rfl), if_pos (show nI ls.length = 0 by rw [z]; rfl)]
      exact Or.inl ⟨ls, A, B, 4, nI x, rfl, rfl, h⟩
    · rw [if_neg (n_ne 0 (x := 0) rfl z (by omega) (by omega)), if_neg (n_ne 0 (x := 0) rfl z (by omega) (by omega))]
      exact Or.inr ⟨ls, A, B, rfl, rfl, h, hl, h28, hne.resolve_left z⟩
  | succ d ih =>
    intro x ls A B fc ff e1 e2 e3 hl h28 hne h
    obtain ⟨fc, rfl⟩ : ∃ k, fc = k + 1 := ⟨fc - 1, by omega⟩
    obtain ⟨ff, rfl⟩ : ∃ k, ff = k + 1 := ⟨ff - 1, by omega⟩
    have hx : x < n := by omega
    have lt := w2 x hx
    have ta : A 184 1 = nI n := by rw [h.1.1 184 (by decide)]; exact tpe.1
    have ta2 : A 185 x = nI (b x) := by rw [h.1.1 185 (by decide)]; exact tpe.2 x hx
    have a17 : A 17 5 = nI dn := by rw [h.1.1 17 (by decide)]; exact h17
    have tb : B 239 16 = nI n := by rw [h.2.1 239 (by decide)]; exact f.1
    have tb2 : B 250 x = nI (b x) := by rw [h.2.1 250 (by decide)]; exact f.2.1 x hx
    have xd : nI dn * 40 + nI ls.length = nI (40 * dn + ls.length) := by
      rw [show (40 : Int32) = nI 40 from rfl, pk_mul, nI_add, Nat.mul_comm]
    have x3 : (320 : Int32) + nI ls.length = nI (320 + ls.length) := nI_add 320 ls.length
    have go := ih (x + 1)
    have ce : f_X6_addDeed_17_184_18 (fc + 1) (nI ls.length) (orL ls) (nI x) A = if isB (b x) = true then f_X6_addDeed_17_184_18 fc (nI ls.length) (orL ls) (nI (x + 1)) A else if o32 (lofN (b x)) = -1 then some (-1, uM (uM A 184 2 1) 184 3 (nI x)) else if nI ls.length = 40 then some (-1, uM (uM A 184 2 3) 184 3 (nI x)) else gd (inB (nI (40 * dn + ls.length)) 320 = true) (f_X6_addDeed_17_184_18 fc (nI (ls.length + 1)) (orL ls ||| shl 1 (o32 (lofN (b x)))) (nI (x + 1)) (uM A 29 (ix (nI (40 * dn + ls.length))) (o32 (lofN (b x))))) := by
      show f_X6_addDeed_17_184_18b (f_X6_addDeed_17_184_18 fc) (nI ls.length) (orL ls) (nI x) A = _
      unfold f_X6_addDeed_17_184_18b f_X5_wrong f_X6_addDeed_17_184_108
      rw [ta, if_neg (nI_ge_f (by omega) (by omega)), gd_t (by omega) (by omega), nm_x, ix_nI (by omega), ta2, C_isBlank A lt, bd]
      by_cases z : isB (b x) = true
      · rw [if_pos z, if_pos z, nm_x, nI_1]
      · rw [if_neg z, if_neg z, C_letterOf _ lt, bind_x]
        dsimp only
        by_cases z2 : o32 (lofN (b x)) = -1
        · rw [if_pos z2, if_pos z2, nm_x, nm_x, bind_x]
        · rw [if_neg z2, if_neg z2]
          by_cases z3 : nI ls.length = 40
          · rw [if_pos z3, if_pos z3, nm_x, nm_x, bind_x]
          · have l40 : ls.length ≠ 40 := fun q => z3 (by rw [q]; rfl)
            rw [if_neg z3, if_neg z3, gd_pos (show inB (A 17 5 * 40 + nI ls.length) 320 = true by rw [a17, xd]; exact (inB_nI (by omega)).mpr (by omega)), gd_t (by omega) (by omega), a17, xd, nm_x, nm_x, nm_x, nm_x, nI_1, nI_1]
    have fe : f_X11_readDeed_4 (ff + 1) (nI ls.length) (nI x) B = if isB (b x) = true then f_X11_readDeed_4 ff (nI ls.length) (nI (x + 1)) B else if o32 (lofN (b x)) = -1 then some (-1, uM (uM B 239 32 1) 239 33 (nI x)) else if nI ls.length = 40 then some (-1, uM (uM B 239 32 3) 239 33 (nI x)) else gd (inB (nI (320 + ls.length)) 360 = true) (f_X11_readDeed_4 ff (nI (ls.length + 1)) (nI (x + 1)) (uM B 264 (ix (nI (320 + ls.length))) (o32 (lofN (b x))))) := by
      show f_X11_readDeed_4b (f_X11_readDeed_4 ff) (nI ls.length) (nI x) B = _
      unfold f_X11_readDeed_4b f_X11_errsAt f_X11_readDeed_95
      rw [tb, if_neg (nI_ge_f (by omega) (by omega)), gd_t (by omega) (by omega), ix_nI (by omega), tb2]
      have bl : isB (b x) = true ↔ nI (b x) = 32 ∨ nI (b x) = 10 := by
        rw [show (32 : Int32) = nI 32 from rfl, show (10 : Int32) = nI 10 from rfl, eqc lt (by omega), eqc lt (by omega)]
        unfold isB
        simp
      by_cases z32 : nI (b x) = 32
      · rw [if_pos z32, if_pos (bl.mpr (Or.inl z32)), nm_x, nI_1]
      · rw [if_neg z32, gd_t (by omega) (by omega)]
        by_cases z10 : nI (b x) = 10
        · rw [if_pos z10, if_pos (bl.mpr (Or.inr z10)), nm_x, nI_1]
        · rw [if_neg z10, if_neg (fun q => (bl.mp q).elim z32 z10), gd_t (by omega) (by omega), F_letterOf _ lt, bind_x]
          dsimp only
          by_cases z2 : o32 (lofN (b x)) = -1
          · rw [if_pos z2, if_pos z2, nm_x, nm_x, bind_x]
          · rw [if_neg z2, if_neg z2]
            by_cases z3 : nI ls.length = 40
            · rw [if_pos z3, if_pos z3, nm_x, nm_x, bind_x]
            · rw [if_neg z3, if_neg z3, gd_t (by omega) (by omega), tb2, F_letterOf _ lt, bind_x]
              dsimp only
              rw [x3, nm_x, nm_x, nm_x, nI_1, nI_1]
    rw [ce, fe]
    by_cases z : isB (b x) = true
    · rw [if_pos z, if_pos z]
      exact go ls A B fc ff (by omega) (by omega) (by omega) hl h28 hne h
    · rw [if_neg z, if_neg z]
      cases hl' : lofN (b x) with
      | none =>
        rw [if_pos (show o32 none = -1 from rfl), if_pos (show o32 none = -1 from rfl)]
        exact Or.inl ⟨ls, A, B, 1, nI x, rfl, rfl, h⟩
      | some l =>
        have l28 := lofN_lt hl'
        have n1 : ¬ o32 (some l) = -1 := of_eq_false (nI_n1 (a := l) (by omega))
        rw [if_neg n1, if_neg n1]
        by_cases z3 : ls.length = 40
        · rw [if_pos (show nI ls.length = 40 by rw [z3]; rfl), if_pos (show nI ls.length = 40 by rw [z3]; rfl)]
          exact Or.inl ⟨ls, A, B, 3, nI x, rfl, rfl, h⟩
        · rw [if_neg (n_ne 40 (x := 40) rfl z3 (by omega) (by omega)), if_neg (n_ne 40 (x := 40) rfl z3 (by omega) (by omega)), gd_t (by omega) (by omega), gd_t (by omega) (by omega), ix_nI (by omega), ix_nI (by omega)]
          have r := go (ls ++ [l]) _ _ fc ff (by omega) (by omega) (by omega) (by rw [lA]; omega) (fun k hk => by
            rw [lA] at hk
            by_cases c : k = ls.length
            · rw [c, gA2]; exact l28
            · rw [gA1 _ _ _ (by omega)]; exact h28 k (by omega)) (Or.inr (orL_n0 ls l28)) (h.push l)
          rw [lA, orL_a] at r
          exact r
theorem cpw_s1 {k0 s d j : Nat} {B : Mm} : uM (cpw k0 1 s d j B) k0 (d + j) (B k0 (s + j)) = cpw k0 1 s d (j + 1) B := by
  funext k x
  by_cases h : (k0 ≤ k ∧ k < k0 + 1) ∧ x = d + j
  · obtain ⟨h1, rfl⟩ := h
    rw [cpw_i (by omega), show s + (d + j - d) = s + j by omega]
    rw [show k = k0 by omega, uM_eq]
  · rw [uM_n (by omega)]
    by_cases c : (k0 ≤ k ∧ k < k0 + 1) ∧ d ≤ x ∧ x < d + j
    · rw [cpw_i c, cpw_i (by omega)]
    · rw [cpw_o c, cpw_o (by omega)]
def deedM (dn : Nat) (ls : List Nat) (j : Nat) (B : Mm) : Mm := uM (cpw 264 1 320 (40 * dn) j (uM B 262 dn (nI ls.length))) 263 dn (orL (ls.take j))
def takenD (dn : Nat) (ls : List Nat) (B : Mm) : Mm := uM (uM (uM (uM (deedM dn ls ls.length B) 240 (124 + dn) 0) 240 (132 + dn) 0) 240 (140 + dn) 0) 239 40 (nI (dn + 1))
theorem F_td {B : Mm} {ls : List Nat} (hd : dn < 8) (hl : ls.length ≤ 40) (h40 : B 239 40 = nI dn) (hb : ∀ k, k < ls.length → B 264 (320 + k) = nI (ls.getD k 0)) : ∀ (d j fuel : Nat), j + d = ls.length → d < fuel → f_X11_takesDeed_22 fuel (nI ls.length) (nI j) (deedM dn ls j B) = some (nI dn, takenD dn ls B) := by
  have q40 : ∀ j, deedM dn ls j B 239 40 = nI dn := fun j => by
    unfold deedM
    rw [uM_off _ _ _ (by decide), cpw_o (by omega), uM_off _ _ _ (by decide)]
    exact h40
  intro d
  induction d with
  | zero =>
    intro j fuel e1 e2
    cases fuel with
    | zero => omega
    | succ fu =>
      have e : j = ls.length := by omega
      subst e
      show f_X11_takesDeed_22b (f_X11_takesDeed_22 fu) (nI ls.length) (nI ls.length) (deedM dn ls ls.length B) = _
      unfold f_X11_takesDeed_22b takenD
      have a1 : (124 : Int32) + nI dn = nI (124 + dn) := nI_add 124 dn
      have a2 : (132 : Int32) + nI dn = nI (132 + dn) := nI_add 132 dn
      have a3 : (140 : Int32) + nI dn = nI (140 + dn) := nI_add 140 dn
      rw [if_pos (nI_ge_t (Nat.le_refl _) (by omega)), q40, a1, gd_t (by omega) (by omega), nm_x, ix_nI (by omega), uM_off _ _ _ (by decide : (239 : Nat) ≠ 240), q40, a2, gd_t (by omega) (by omega), nm_x, ix_nI (by omega), uM_off _ _ _ (by decide : (239 : Nat) ≠ 240), uM_off _ _ _ (by decide : (239 : Nat) ≠ 240), q40, a3, gd_t (by omega) (by omega), nm_x, ix_nI (by omega), uM_off _ _ _ (by decide : (239 : Nat) ≠ 240), uM_off _ _ _ (by decide : (239 : Nat) ≠ 240), uM_off _ _ _ (by decide : (239 : Nat) ≠ 240), q40, nm_x, nI_1, uM_eq, one_sub]
  | succ d ih =>
    intro j fuel e1 e2
    cases fuel with
    | zero => omega
    | succ fu =>
      show f_X11_takesDeed_22b (f_X11_takesDeed_22 fu) (nI ls.length) (nI j) (deedM dn ls j B) = _
      unfold f_X11_takesDeed_22b
      have x4 : (320 : Int32) + nI j = nI (320 + j) := nI_add 320 j
      have x5 : (40 : Int32) * nI dn + nI j = nI (40 * dn + j) := by
        rw [show (40 : Int32) = nI 40 from rfl, pk_mul, nI_add]
      have v : deedM dn ls j B 264 (320 + j) = nI (ls.getD j 0) := by
        unfold deedM
        rw [uM_off _ _ _ (by decide), cpw_o (by omega), uM_off _ _ _ (by decide)]
        exact hb j (by omega)
      have v3 : deedM dn ls j B 263 dn = orL (ls.take j) := by
        unfold deedM
        rw [uM_eq]
      rw [if_neg (nI_ge_f (by omega) (by omega)), x4, q40, x5, gd_t (by omega) (by omega), nm_x, ix_nI (by omega), ix_nI (by omega), v, gd_t (by omega) (by omega), nm_x, uM_off _ _ _ (by decide : (239 : Nat) ≠ 264), q40, gd_t hd (by omega), gd_t hd (by omega), ix_nI (by omega), uM_off _ _ _ (by decide : (263 : Nat) ≠ 264), v3, nm_x, nm_x, nI_1]
      have st : uM (uM (deedM dn ls j B) 264 (40 * dn + j) (nI (ls.getD j 0))) 263 dn (orL (ls.take j) ||| shl 1 (nI (ls.getD j 0))) = deedM dn ls (j + 1) B := by
        have s1 := cpw_s1 (k0 := 264) (s := 320) (d := 40 * dn) (j := j) (B := uM B 262 dn (nI ls.length))
        rw [uM_off B _ _ (by decide : (264 : Nat) ≠ 262), hb j (by omega)] at s1
        unfold deedM
        rw [← s1, take_s (by omega), orL_a]
        funext k x
        by_cases c : k = 263 ∧ x = dn
        · obtain ⟨rfl, rfl⟩ := c
          rw [uM_eq, uM_eq]
        · rw [uM_n c, uM_n c]
          by_cases c2 : k = 264 ∧ x = 40 * dn + j
          · obtain ⟨rfl, rfl⟩ := c2
            rw [uM_eq, uM_eq]
          · rw [uM_n c2, uM_n c2, uM_n c]
      rw [st]
      exact ih (j + 1) fu (by omega) (by omega)
theorem F_takesDeed {B : Mm} {ls : List Nat} (hd : dn < 8) (hl : ls.length ≤ 40) (h40 : B 239 40 = nI dn) (hb : ∀ k, k < ls.length → B 264 (320 + k) = nI (ls.getD k 0)) : f_X11_takesDeed (nI ls.length) B = some (nI dn, takenD dn ls B) := by
  have h1 := F_td hd hl h40 hb ls.length 0 FU (by omega) (by unfold FU; omega)
  unfold f_X11_takesDeed
  rw [h40, gd_t hd (by omega), nm_x, uM_off _ _ _ (by decide : (239 : Nat) ≠ 262), h40, gd_t hd (by omega), nm_x, ix_nI (by omega)]
  rw [← h1]
  unfold deedM
  rw [cpw_0]
  rfl
end DEED
