/-! ===== a will is taken ===== -/
def cpw (k0 r s d j : Nat) (B : Mm) : Mm := fun k x => if (k0 ≤ k ∧ k < k0 + r) ∧ d ≤ x ∧ x < d + j then B k (s + (x - d)) else B k x
theorem cpw_0 (k0 r s d : Nat) (B : Mm) : cpw k0 r s d 0 B = B := by
  funext k x
  unfold cpw
  rw [if_neg (by omega)]
theorem cpw_i {k0 r s d j : Nat} {B : Mm} {k x : Nat} (h : (k0 ≤ k ∧ k < k0 + r) ∧ d ≤ x ∧ x < d + j) : cpw k0 r s d j B k x = B k (s + (x - d)) := if_pos h
theorem cpw_o {k0 r s d j : Nat} {B : Mm} {k x : Nat} (h : ¬ ((k0 ≤ k ∧ k < k0 + r) ∧ d ≤ x ∧ x < d + j)) : cpw k0 r s d j B k x = B k x := if_neg h
theorem cpw_s3 {k0 s d j : Nat} {B : Mm} : uM (uM (uM (cpw k0 3 s d j B) k0 (d + j) (B k0 (s + j))) (k0 + 1) (d + j) (B (k0 + 1) (s + j))) (k0 + 2) (d + j) (B (k0 + 2) (s + j)) = cpw k0 3 s d (j + 1) B := by
  funext k x
  by_cases h : (k0 ≤ k ∧ k < k0 + 3) ∧ x = d + j
  · obtain ⟨h1, rfl⟩ := h
    rw [cpw_i (by omega), show s + (d + j - d) = s + j by omega]
    rcases (show k = k0 ∨ k = k0 + 1 ∨ k = k0 + 2 by omega) with rfl | rfl | rfl
    · rw [uM_n (by omega), uM_n (by omega), uM_eq]
    · rw [uM_n (by omega), uM_eq]
    · rw [uM_eq]
  · rw [uM_n (by omega), uM_n (by omega), uM_n (by omega)]
    by_cases c : (k0 ≤ k ∧ k < k0 + 3) ∧ d ≤ x ∧ x < d + j
    · rw [cpw_i c, cpw_i (by omega)]
    · rw [cpw_o c, cpw_o (by omega)]
theorem F_tw {p L : Nat} (hp : p < 12) (hL : L ≤ 12) {B : Mm} : ∀ (d j fuel : Nat), j + d = L → d < fuel → f_X11_takesWill_2 fuel (nI p) (nI L) (nI j) (cpw 259 3 144 (12 * p) j B) = some (uM (cpw 259 3 144 (12 * p) L B) 258 p (nI L)) := by
  intro d
  induction d with
  | zero =>
    intro j fuel e1 e2
    cases fuel with
    | zero => omega
    | succ fu =>
      have e : j = L := by omega
      subst e
      show f_X11_takesWill_2b (f_X11_takesWill_2 fu) (nI p) (nI j) (nI j) (cpw 259 3 144 (12 * p) j B) = _
      unfold f_X11_takesWill_2b
      rw [if_pos (nI_ge_t (Nat.le_refl _) (by omega)), gd_t hp (by omega), nm_x, ix_nI (by omega)]
  | succ d ih =>
    intro j fuel e1 e2
    cases fuel with
    | zero => omega
    | succ fu =>
      show f_X11_takesWill_2b (f_X11_takesWill_2 fu) (nI p) (nI L) (nI j) (cpw 259 3 144 (12 * p) j B) = _
      unfold f_X11_takesWill_2b
      have x4 : (144 : Int32) + nI j = nI (144 + j) := nI_add 144 j
      have x5 : (12 : Int32) * nI p + nI j = nI (12 * p + j) := by
        rw [show (12 : Int32) = nI 12 from rfl, pk_mul, nI_add]
      rw [if_neg (nI_ge_f (by omega) (by omega)), x4, x5, gd_t (by omega) (by omega), gd_t (by omega) (by omega), nm_x, ix_nI (by omega), ix_nI (by omega), gd_t (by omega) (by omega), gd_t (by omega) (by omega), nm_x, gd_t (by omega) (by omega), gd_t (by omega) (by omega), nm_x, nm_x, nI_1, show cpw 259 3 144 (12 * p) j B 259 (144 + j) = B 259 (144 + j) from cpw_o (by omega), uM_off _ _ _ (by decide : (260 : Nat) ≠ 259), show cpw 259 3 144 (12 * p) j B 260 (144 + j) = B 260 (144 + j) from cpw_o (by omega), uM_off _ _ _ (by decide : (261 : Nat) ≠ 260), uM_off _ _ _ (by decide : (261 : Nat) ≠ 259), show cpw 259 3 144 (12 * p) j B 261 (144 + j) = B 261 (144 + j) from cpw_o (by omega)]
      have := cpw_s3 (k0 := 259) (s := 144) (d := 12 * p) (j := j) (B := B)
      rw [this]
      exact ih (j + 1) fu (by omega) (by omega)
def takenW (p L : Nat) (B : Mm) : Mm := uM (cpw 259 3 144 (12 * p) L B) 258 p (nI L)
theorem F_takesWill {p L : Nat} (hp : p < 12) (hL : L ≤ 12) (B : Mm) : f_X11_takesWill (nI p) (nI L) B = some (takenW p L B) := by
  have h1 := F_tw hp hL (B := B) L 0 FU (by omega) (by unfold FU; omega)
  rw [cpw_0] at h1
  unfold f_X11_takesWill
  exact h1
theorem C_takeW {A : Mm} {p L : Nat} (hp : p < 12) (hL : L ≤ 12) (h5 : A 198 5 = nI L) : ∃ A', f_X9_read_17_58 (nI p) A = some (nI L, A') ∧ (∀ x, A' 25 x = if x = p then nI L else A 25 x) ∧ (∀ x, (A' 26 x = if 12 * p ≤ x ∧ x < 12 * p + L then A 199 (x - 12 * p) else A 26 x) ∧ (A' 27 x = if 12 * p ≤ x ∧ x < 12 * p + L then A 200 (x - 12 * p) else A 27 x) ∧ (A' 28 x = if 12 * p ≤ x ∧ x < 12 * p + L then A 201 (x - 12 * p) else A 28 x)) ∧ ∀ k, k < 25 ∨ 28 < k → A' k = A k := by
  have x12 : nI p * 12 = nI (12 * p) := by
    rw [show (12 : Int32) = nI 12 from rfl, pk_mul, Nat.mul_comm]
  have i0 : ix (0 : Int32) = 0 := ix_nI (a := 0) (by omega)
  have ok : ¬ (0 : Int32) < 0 ∧ ¬ nI (12 * p) < 0 ∧ ¬ nI L < 0 ∧ ix (0 : Int32) + ix (nI L) ≤ 12 ∧ ix (nI (12 * p)) + ix (nI L) ≤ 144 := by
    rw [i0, ix_nI (by omega), ix_nI (by omega)]
    exact ⟨by decide, nI_pos (by omega), nI_pos (by omega), by omega, by omega⟩
  refine ⟨uM (rM (rM (rM A 26 (va_cpy (A 199) (A 26) 0 (12 * p) L)) 27 (va_cpy (A 200) (A 27) 0 (12 * p) L)) 28 (va_cpy (A 201) (A 28) 0 (12 * p) L)) 25 p (nI L), ?_, fun x => ?_, fun x => ⟨?_, ?_, ?_⟩, fun k hk => ?_⟩
  · unfold f_X9_read_17_58
    rw [x12, nm_x]
    simp (disch := decide) only [nm_x, rM_off, h5]
    rw [gd_pos ok, gd_pos ok, gd_pos ok, gd_t hp (by omega), i0, ix_nI (by omega), ix_nI (by omega), ix_nI (by omega), uM_off _ _ _ (by decide), rM_off _ _ (by decide), rM_off _ _ (by decide), rM_off _ _ (by decide), h5]
  · rw [uM_at]
    by_cases c : x = p
    · rw [if_pos (And.intro rfl c), if_pos c]
    · rw [if_neg (fun q => c q.2), if_neg c, rM_off _ _ (by decide), rM_off _ _ (by decide), rM_off _ _ (by decide)]
  · rw [uM_off _ _ _ (by decide), rM_off _ _ (by decide), rM_off _ _ (by decide), rM_same]
    unfold va_cpy
    rw [Nat.zero_add]
  · rw [uM_off _ _ _ (by decide), rM_off _ _ (by decide), rM_same]
    unfold va_cpy
    rw [Nat.zero_add]
  · rw [uM_off _ _ _ (by decide), rM_same]
    unfold va_cpy
    rw [Nat.zero_add]
  · rw [uM_off _ _ _ (by omega), rM_off _ _ (by omega), rM_off _ _ (by omega), rM_off _ _ (by omega)]
/-- the texts with another will -/
def willT (T : TT) (p : Nat) (Ws : List Wl3) : TT := (fun k i => if k = 1 ∧ i = p then Ws.length else if k = 2 ∧ (12 * p ≤ i ∧ i < 12 * p + Ws.length) then (Ws.getD (i - 12 * p) w0).2.1 else if k = 3 ∧ (12 * p ≤ i ∧ i < 12 * p + Ws.length) then (Ws.getD (i - 12 * p) w0).2.2 else T.1 k i, fun k i => if k = 0 ∧ (12 * p ≤ i ∧ i < 12 * p + Ws.length) then (Ws.getD (i - 12 * p) w0).1 else T.2 k i)
section WILLOP
variable {S : Mm} {P : PP} {D : DD} {T : TT} {W : Nat → Int32} {E : RE}
theorem willT_m {p : Nat} {Ws : List Wl3} (q : Nat) : tWm (willT T p Ws) q = if q = p then Ws.length else tWm T q := by
  show (if 1 = 1 ∧ q = p then Ws.length else if 1 = 2 ∧ (12 * p ≤ q ∧ q < 12 * p + Ws.length) then (Ws.getD (q - 12 * p) w0).2.1 else if 1 = 3 ∧ (12 * p ≤ q ∧ q < 12 * p + Ws.length) then (Ws.getD (q - 12 * p) w0).2.2 else T.1 1 q) = _
  by_cases c : q = p
  · rw [if_pos (And.intro rfl c), if_pos c]
  · rw [if_neg (fun z => c z.2), if_neg c, if_neg (by omega), if_neg (by omega)]
theorem willT_i {p x : Nat} {Ws : List Wl3} (h : 12 * p ≤ x ∧ x < 12 * p + Ws.length) : tWr (willT T p Ws) x = (Ws.getD (x - 12 * p) w0).1 ∧ tWt (willT T p Ws) x = (Ws.getD (x - 12 * p) w0).2.1 ∧ tWi (willT T p Ws) x = (Ws.getD (x - 12 * p) w0).2.2 := by
  refine ⟨if_pos (And.intro rfl h), ?_, ?_⟩
  · show (if 2 = 1 ∧ x = p then Ws.length else if 2 = 2 ∧ (12 * p ≤ x ∧ x < 12 * p + Ws.length) then (Ws.getD (x - 12 * p) w0).2.1 else if 2 = 3 ∧ (12 * p ≤ x ∧ x < 12 * p + Ws.length) then (Ws.getD (x - 12 * p) w0).2.2 else T.1 2 x) = _
    rw [if_neg (by omega), if_pos (And.intro rfl h)]
  · show (if 3 = 1 ∧ x = p then Ws.length else if 3 = 2 ∧ (12 * p ≤ x ∧ x < 12 * p + Ws.length) then (Ws.getD (x - 12 * p) w0).2.1 else if 3 = 3 ∧ (12 * p ≤ x ∧ x < 12 * p + Ws.length) then (Ws.getD (x - 12 * p) w0).2.2 else T.1 3 x) = _
    rw [if_neg (by omega), if_neg (by omega), if_pos (And.intro rfl h)]
theorem willT_o {p x : Nat} {Ws : List Wl3} (h : ¬ (12 * p ≤ x ∧ x < 12 * p + Ws.length)) : tWr (willT T p Ws) x = tWr T x ∧ tWt (willT T p Ws) x = tWt T x ∧ tWi (willT T p Ws) x = tWi T x := by
  refine ⟨if_neg (fun q => h q.2), ?_, ?_⟩
  · show (if 2 = 1 ∧ x = p then Ws.length else if 2 = 2 ∧ (12 * p ≤ x ∧ x < 12 * p + Ws.length) then (Ws.getD (x - 12 * p) w0).2.1 else if 2 = 3 ∧ (12 * p ≤ x ∧ x < 12 * p + Ws.length) then (Ws.getD (x - 12 * p) w0).2.2 else T.1 2 x) = _
    rw [if_neg (by omega), if_neg (fun q => h q.2), if_neg (by omega)]
  · show (if 3 = 1 ∧ x = p then Ws.length else if 3 = 2 ∧ (12 * p ≤ x ∧ x < 12 * p + Ws.length) then (Ws.getD (x - 12 * p) w0).2.1 else if 3 = 3 ∧ (12 * p ≤ x ∧ x < 12 * p + Ws.length) then (Ws.getD (x - 12 * p) w0).2.2 else T.1 3 x) = _
    rw [if_neg (by omega), if_neg (by omega), if_neg (fun q => h q.2)]
theorem willT_w {p N : Nat} {Ws : List Wl3} (w : WFT N T) (hp : p < N) (hp2 : p < 12) (hL : Ws.length ≤ 12) (hb : ∀ k, k < Ws.length → (Ws.getD k w0).2.1 < N ∧ (Ws.getD k w0).2.1 ≠ p ∧ (Ws.getD k w0).2.2 ≤ N ∧ (Ws.getD k w0).2.2 ≠ p + 1) : WFT N (willT T p Ws) := by
  obtain ⟨w1, w4, w5, w6⟩ := w
  refine ⟨w1, w4, fun q hq => ?_, w6⟩
  rw [willT_m]
  by_cases c : q = p
  · subst c
    rw [if_pos rfl]
    refine ⟨hL, fun z => by omega, fun k hk => ?_⟩
    obtain ⟨-, e2, e3⟩ := willT_i (T := T) (p := q) (x := 12 * q + k) (Ws := Ws) (by omega)
    rw [e2, e3, show 12 * q + k - 12 * q = k by omega]
    obtain ⟨b1, b2, b3, b4⟩ := hb k hk
    exact ⟨b1, b3, b2, b4⟩
  · rw [if_neg c]
    obtain ⟨u1, u2, u3⟩ := w5 q hq
    refine ⟨u1, u2, fun k hk => ?_⟩
    obtain ⟨-, e2, e3⟩ := willT_o (T := T) (p := p) (x := 12 * q + k) (Ws := Ws) (by omega)
    rw [e2, e3]
    exact u3 k hk
theorem text_none (h : RR S P D T W E) {Bm : Mm} (e : ∀ k, 239 ≤ k → Bm k = S k) (he : ∀ k, k < 239 → Bm k = uM (clB S) 184 1 0 k) : RX (uM (reB Bm) 239 16 0) := by
  have lo : ∀ k, k < 239 → uM (reB Bm) 239 16 0 k = uM (clB S) 184 1 0 k := fun k hk => by
    rw [uM_off _ _ _ (by omega), reB_off (by omega), he k hk]
  have lo2 : ∀ k, k < 239 → k ≠ 184 → uM (reB Bm) 239 16 0 k = S k := fun k hk h1 => by
    rw [lo k hk, uM_off _ _ _ h1]
    unfold clB
    rw [uM_off _ _ _ h1, uM_off _ _ _ h1]
  have hi : ∀ k, 239 < k → uM (reB Bm) 239 16 0 k = S k := fun k hk => by
    rw [uM_off _ _ _ (by omega), reB_off (by omega), e k (by omega)]
  have h9 : ∀ j, j ≠ 16 → j ≠ 0 ∧ j ≠ 34 ∧ j ≠ 35 ∧ j ≠ 17 ∧ j ≠ 28 ∧ j ≠ 29 → uM (reB Bm) 239 16 0 239 j = S 239 j := fun j h1 h2 => by
    rw [uM_ne _ _ _ h1, reB_ne h2, e 239 (by omega)]
  refine h.text (T' := T) (fun k h1 h2 => lo2 k h2 (by omega)) (h.TK.congr fun j h1 h2 h3 => lo2 _ (by omega) (by omega)) (fun k hk => hi k (by omega)) (fun j hj h1 h2 h3 h4 h5 => ?_) (h.TF.congr (h9 40 (by decide) (by decide)) (h9 22 (by decide) (by decide)) fun k p q r => hi k (by omega)) ?_ (uM_eq _ _ _ _) ?_ ?_ h.wT h.2.2.1.2.2.2.2.2 (Nat.le_refl _)
  · by_cases c : j = 0
    · subst c
      rw [uM_ne _ _ _ (by decide), h.C.1]
      unfold reB
      rw [uM_ne _ _ _ (by decide), uM_ne _ _ _ (by decide), uM_ne _ _ _ (by decide), uM_ne _ _ _ (by decide), uM_ne _ _ _ (by decide), uM_eq]
    · have q := hj
      unfold ks at q
      have q := of_decide_eq_true q
      exact h9 j h1 (by omega)
  · rw [lo 184 (by omega), uM_eq]
  · rw [lo 184 (by omega), uM_ne _ _ _ (by decide), uM_ne _ _ _ (by decide)]
    unfold clB reB
    rw [uM_ne _ _ _ (by decide), uM_eq, uM_ne _ _ _ (by decide), uM_ne _ _ _ (by decide), uM_ne _ _ _ (by decide), uM_ne _ _ _ (by decide), uM_eq]
  · rw [lo 184 (by omega), uM_ne _ _ _ (by decide), uM_ne _ _ _ (by decide)]
    unfold clB reB
    rw [uM_eq, uM_ne _ _ _ (by decide), uM_ne _ _ _ (by decide), uM_ne _ _ _ (by decide), uM_eq]
end WILLOP
