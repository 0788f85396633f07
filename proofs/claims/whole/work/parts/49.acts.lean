/-! ===== a change of owner, the end of a loan, acts ===== -/
theorem adj_congr {P : PP} {D D' : DD} (h : ∀ q, dSp D' q = dSp D q) (a b : Nat) : adj P D' a b = adj P D a b := by unfold adj; rw [h a, h b]
theorem rch_congr {P : PP} {D D' : DD} (h : ∀ q, dSp D' q = dSp D q) : ∀ (k a b : Nat), rch P D' k a b = rch P D k a b := by
  intro k
  induction k with
  | zero => intro a b; rfl
  | succ k ih =>
    intro a b
    show (rch P D' k a b || (List.range (pN P)).any (fun c => rch P D' k a c && adj P D' c b)) = (rch P D k a b || (List.range (pN P)).any (fun c => rch P D k a c && adj P D c b))
    rw [ih]
    congr 2
    funext c
    rw [ih, adj_congr h]
theorem kin_congr {P : PP} {D D' : DD} (h : ∀ q, dSp D' q = dSp D q) (a b : Nat) : kinM P D' a b = kinM P D a b := by
  unfold kinM
  congr 1
  funext k
  exact rch_congr h k a b
theorem RB.upd {B B' : Mm} {P : PP} {D D' : DD} (h : RB B P D) (hw : RW (B' 240) P D') (hs : ∀ q, dSp D' q = dSp D q) (e1 : B' 239 6 = B 239 6) (e2 : B' 239 12 = B 239 12) (e : ∀ k, 243 ≤ k → k < 250 → k ≠ 248 → B' k = B k) : RB B' P D' := by
  refine ⟨h.1.congr e1 e2 fun k a b => e k a (by omega) (by omega), hw, fun a b ha hb => ?_⟩
  rw [e 249 (by omega) (by omega) (by omega), h.2.2 a b ha hb, kin_congr hs]
theorem CH_forget {A A' : Mm} {P P' : PP} {H : HH} (h : CH A P H) (h1 : A' 34 3 = 0) (h2 : A' 34 2 = A 34 2) : CH A' P' (0, H.2) := by
  obtain ⟨_, n, hn, a, _⟩ := h
  exact ⟨h1, n, hn, by rw [h2]; exact a, fun j hj => absurd hj (Nat.not_lt_zero _)⟩
theorem FH_forget {B : Mm} {P : PP} {h : Nat → DD} (h1 : B 239 3 = 0) : FH B P (0, h) := ⟨h1, fun j hj => absurd hj (Nat.not_lt_zero _)⟩
theorem WFH_forget {P : PP} {D : DD} {T : TT} {h : Nat → DD} : WFH P D T (0, h) := ⟨Nat.zero_le _, fun j hj => absurd hj (Nat.not_lt_zero _)⟩
theorem WFH_push {P : PP} {D D' : DD} {T : TT} {H : HH} (h : WFH P D T H) (hd : WFD P D) (hr : WFR P D) (hu : WFU D T) (hl : dLn D ≤ dLn D') : WFH P D' T (pushH D H) := by
  obtain ⟨h1, h2⟩ := h
  have e : (pushH D H).1 = if H.1 = 8 then 8 else H.1 + 1 := rfl
  refine ⟨by rw [e]; split <;> omega, fun j hj => ?_⟩
  rw [e] at hj
  cases j with
  | zero => exact ⟨hd, hr, hu, hl⟩
  | succ j =>
    obtain ⟨a, b, c, d⟩ := h2 j (by split at hj <;> omega)
    refine ⟨a, b, c, ?_⟩
    cases j with
    | zero => exact d
    | succ j => exact d
theorem RR.act {S S1 S2 : Mm} {P P' : PP} {D D' : DD} {T : TT} {W W' : Nat → Int32} {E : RE} {H' : HH} (h : RR S P D T W E)
    (a0 : ∀ k, k = 0 ∨ (17 ≤ k ∧ k < 32 ∧ k ≠ 23 ∧ k ≠ 24) ∨ k = 184 ∨ k = 185 ∨ (206 ≤ k ∧ k ≠ 228 ∧ k ≠ 229) → S1 k = S k)
    (k1 : RK (fun j => S1 (1 + j)) P' D') (k2 : S1 32 1 = nI (dLn D')) (k3 : ∀ i, i < 5 * dLn D' → S1 33 i = W' i) (k4 : CH S1 P' H')
    (f0 : ∀ k, k < 239 → S2 k = S1 k)
    (b0 : ∀ k, k = 250 ∨ k = 251 ∨ (252 ≤ k ∧ k < 265 ∧ k ≠ 257 ∧ k ≠ 258) ∨ k = 269 → S2 k = S1 k) (b1 : ∀ i, ks i = true ∧ i ≠ 3 ∧ i ≠ 6 ∧ i ≠ 12 → S2 239 i = S1 239 i) (b2 : S2 258 = S1 258)
    (r1 : RB S2 P' D') (r2 : ∀ i, i < 5 * dLn D' → S2 248 i = W' i) (r3 : FH S2 P' H') (w : WFS P' D' T) (wh : WFH P' D' T H') : RX S2 := by
  obtain ⟨⟨x1, x2, x3, x4⟩, ⟨y1, y2, y3, y4, y5⟩, z1, z2, z3, z4⟩ := h
  have e0 : ∀ i, ks i = true ∧ i ≠ 3 ∧ i ≠ 6 ∧ i ≠ 12 → S2 239 i = S 239 i := fun i hi => by rw [b1 i hi, a0 239 (by omega)]
  have eb : ∀ k, k = 250 ∨ k = 251 ∨ (252 ≤ k ∧ k < 265 ∧ k ≠ 257) ∨ k = 269 → S2 k = S k := fun k hk => by
    by_cases c : k = 258
    · rw [c, b2, a0 258 (by omega)]
    · rw [b0 k (by omega), a0 k (by omega)]
  refine ⟨P', D', T, W', (H', E.2), ⟨?_, ?_, ?_, ?_⟩, ⟨⟨r1, ?_, r2⟩, r3, ?_, ?_, ?_⟩, w, wh, z3, z4⟩
  · refine ⟨k1.congr fun j hj => f0 _ (by omega), x1.2.1.congr fun j hj p q => ?_, ?_, fun i hi => ?_⟩
    · rw [f0 _ (by omega), a0 _ (by omega)]
    · rw [f0 _ (by omega)]; exact k2
    · rw [f0 _ (by omega)]; exact k3 i hi
  · exact k4.congr fun k p q => f0 k (by omega)
  · exact x3.congr (by rw [f0 0 (by omega), a0 0 (by omega)]) fun k p q r s => by rw [f0 k (by omega), a0 k (by omega)]
  · exact x4.congr (by rw [f0 _ (by omega), a0 _ (by omega)]) (by rw [f0 _ (by omega), a0 _ (by omega)])
  · exact y1.2.1.congr (e0 40 ⟨rfl, by decide⟩) (e0 22 ⟨rfl, by decide⟩) fun k p q r => eb k (by omega)
  · exact y3.congr (e0 51 ⟨rfl, by decide⟩) (eb _ (by omega))
  · unfold FT at y4 ⊢
    rw [e0 16 ⟨rfl, by decide⟩, e0 34 ⟨rfl, by decide⟩, e0 35 ⟨rfl, by decide⟩, eb _ (by omega)]
    exact y4
  · unfold FC at y5 ⊢
    rw [e0 0 ⟨rfl, by decide⟩, e0 5 ⟨rfl, by decide⟩, e0 47 ⟨rfl, by decide⟩, eb _ (by omega)]
    exact y5
/-- the new owner of a letter; what the book holds then -/
def psD (th : Bool) (D : DD) (l o : Nat) : DD := if th = true ∨ dOw D l = o ∨ dLn D = 200 then sOw D l o else sLn (sOw D l o) (dLn D + 1)
def wr5 (W : Nat → Int32) (n : Nat) (a b c d e : Int32) : Nat → Int32 := upd (upd (upd (upd (upd W n a) (n + 1) b) (n + 2) c) (n + 3) d) (n + 4) e
def psW (th : Bool) (D : DD) (W : Nat → Int32) (l o : Nat) (how : Int32) : Nat → Int32 := if th = true ∨ dOw D l = o ∨ dLn D = 200 then W else wr5 W (5 * dLn D) (nI l) (eo (dOw D l)) (eo o) (nI (dDay D)) how
theorem wr5_at {W V : Nat → Int32} {n m : Nat} {a b c d e : Int32} (h : ∀ i, i < n → V i = W i) (hm : m = n + 5) : ∀ i, i < m → wr5 V n a b c d e i = wr5 W n a b c d e i := by
  intro i hi
  unfold wr5
  by_cases k4 : i = n + 4
  · rw [k4, up_eq, up_eq]
  · by_cases k3 : i = n + 3
    · rw [up_ne _ _ k4, up_ne _ _ k4, k3, up_eq, up_eq]
    · by_cases k2 : i = n + 2
      · rw [up_ne _ _ k4, up_ne _ _ k4, up_ne _ _ k3, up_ne _ _ k3, k2, up_eq, up_eq]
      · by_cases k1 : i = n + 1
        · rw [up_ne _ _ k4, up_ne _ _ k4, up_ne _ _ k3, up_ne _ _ k3, up_ne _ _ k2, up_ne _ _ k2, k1, up_eq, up_eq]
        · by_cases k0 : i = n
          · rw [up_ne _ _ k4, up_ne _ _ k4, up_ne _ _ k3, up_ne _ _ k3, up_ne _ _ k2, up_ne _ _ k2, up_ne _ _ k1, up_ne _ _ k1, k0, up_eq, up_eq]
          · rw [up_ne _ _ k4, up_ne _ _ k4, up_ne _ _ k3, up_ne _ _ k3, up_ne _ _ k2, up_ne _ _ k2, up_ne _ _ k1, up_ne _ _ k1, up_ne _ _ k0, up_ne _ _ k0]
            exact h i (by omega)
theorem psD_sp (th : Bool) (D : DD) (l o q : Nat) : dSp (psD th D l o) q = dSp D q := by unfold psD; split <;> rfl
theorem psD_ln (th : Bool) (D : DD) (l o : Nat) : dLn D ≤ dLn (psD th D l o) ∧ (dLn D ≤ 200 → dLn (psD th D l o) ≤ 200) := by
  unfold psD
  split
  · exact ⟨Nat.le_refl _, id⟩
  · rename_i h
    show dLn D ≤ dLn D + 1 ∧ (dLn D ≤ 200 → dLn D + 1 ≤ 200)
    omega
theorem RK_ps {K : Mm} {P : PP} {D : DD} (th : Bool) {l o : Nat} (h : RK K P (sOw D l o)) : RK K P (psD th D l o) := by
  unfold psD
  split
  · exact h
  · exact RK_ln h _
theorem C_pass {A : Mm} {P : PP} {D : DD} {W : Nat → Int32} (hK : RK (fun j => A (1 + j)) P D) (hD : ∀ l, l < 28 → dOw D l ≤ pN P) (hN : pN P ≤ 12) (hL : dLn D ≤ 200) (l1 : A 32 1 = nI (dLn D)) (hW : ∀ i, i < 5 * dLn D → A 33 i = W i) {l o : Nat} (hl : l < 28) (ho : o ≤ pN P) (how : Int32) :
    ∃ A', f_X1_pass_32 1 (nI l) (eo o) how A = some A' ∧ RK (fun j => A' (1 + j)) P (psD false D l o) ∧ A' 32 1 = nI (dLn (psD false D l o)) ∧ (∀ i, i < 5 * dLn (psD false D l o) → A' 33 i = psW false D W l o how i) ∧ ∀ k, k ≠ 11 → k ≠ 32 → k ≠ 33 → A' k = A k := by
  have w := hD l hl
  have k1 := (k1l hK hl).1
  have d1 : A 1 1 = nI (dDay D) := hK.1.2.1
  have fin : ∀ A0 : Mm, (∀ j, j < 16 → A0 (1 + j) = A (1 + j)) → RK (fun j => uM A0 11 l (eo o) (1 + j)) P (psD false D l o) := fun A0 e => by
    have := RK_ow (hK.congr e) o hl
    rw [← uM_sh A0 1 10 l] at this
    exact RK_ps _ this
  unfold f_X1_pass_32 f_X1_pass_32_33
  rw [gd_t (by omega) (by omega), gd_t (by omega) (by omega), gd_t (by omega) (by omega), ix_nI (by omega)]
  show ∃ A', (if A 11 l = eo o then _ else _) = some A' ∧ _
  rw [k1, d1]
  by_cases c : dOw D l = o
  · have eD : psD false D l o = sOw D l o := if_pos (Or.inr (Or.inl c))
    have eW : psW false D W l o how = W := if_pos (Or.inr (Or.inl c))
    rw [if_pos (by rw [c])]
    refine ⟨_, rfl, fin A fun _ _ => rfl, ?_, fun i hi => ?_, fun k a _ _ => uM_off _ _ _ a⟩
    · show uM A 11 l (eo o) 32 1 = _
      rw [uM_off _ _ _ (by decide), l1, eD]
      rfl
    · show uM A 11 l (eo o) 33 i = _
      rw [uM_off _ _ _ (by decide), eW]
      rw [eD] at hi
      exact hW i hi
  · rw [if_neg (by rw [eo_inj (by omega) (by omega)]; exact c)]
    unfold f_X0_write_32
    rw [l1]
    by_cases c2 : dLn D = 200
    · have eD : psD false D l o = sOw D l o := if_pos (Or.inr (Or.inr c2))
      have eW : psW false D W l o how = W := if_pos (Or.inr (Or.inr c2))
      rw [if_neg (by rw [c2]; decide +kernel)]
      simp only [Option.bind_some, nm]
      rw [gd_t (by omega) (by omega)]
      refine ⟨_, rfl, fin A fun _ _ => rfl, ?_, fun i hi => ?_, fun k a _ _ => uM_off _ _ _ a⟩
      · show uM A 11 l (eo o) 32 1 = _
        rw [uM_off _ _ _ (by decide), l1, eD]
        rfl
      · show uM A 11 l (eo o) 33 i = _
        rw [uM_off _ _ _ (by decide), eW]
        rw [eD] at hi
        exact hW i hi
    · have hc : ¬ (false = true ∨ dOw D l = o ∨ dLn D = 200) := by simp [c, c2]
      have eD : psD false D l o = sLn (sOw D l o) (dLn D + 1) := if_neg hc
      have eW : psW false D W l o how = wr5 W (5 * dLn D) (nI l) (eo (dOw D l)) (eo o) (nI (dDay D)) how := if_neg hc
      rw [nI_lit 200, if_pos ((nI_ltI (by omega) (by omega)).mpr (by omega))]
      simp only [nm]
      rw [nI_lit 5, nI_lit 1, nI_lit 2, nI_lit 3, nI_lit 4, pk_mul, nI_add, nI_add, nI_add, nI_add, gd_t (by omega) (by omega), gd_t (by omega) (by omega), gd_t (by omega) (by omega), gd_t (by omega) (by omega), gd_t (by omega) (by omega), ix_nI (by omega), ix_nI (by omega), ix_nI (by omega), ix_nI (by omega), ix_nI (by omega), Nat.mul_comm (dLn D) 5]
      simp only [Option.bind_some]
      rw [gd_t (by omega) (by omega)]
      have o32 : ∀ (i : Nat) (v : Int32) (A0 : Mm), uM A0 33 i v 32 = A0 32 := fun i v A0 => uM_off _ _ _ (by decide)
      rw [o32, o32, o32, o32, o32, l1, nI_add]
      refine ⟨_, rfl, fin _ fun j hj => ?_, ?_, fun i hi => ?_, fun k a b c3 => ?_⟩
      · rw [uM_off _ _ _ (by omega), uM_off _ _ _ (by omega), uM_off _ _ _ (by omega), uM_off _ _ _ (by omega), uM_off _ _ _ (by omega), uM_off _ _ _ (by omega)]
      · rw [uM_off _ _ _ (by decide), uM_eq, eD]
        rfl
      · rw [uM_off _ _ _ (by decide), uM_off _ _ _ (by decide), eW]
        rw [eD] at hi
        rw [uM_row, uM_row, uM_row, uM_row, uM_row]
        exact wr5_at hW rfl i (by show i < 5 * dLn D + 5; have : i < 5 * (dLn D + 1) := hi; omega)
      · rw [uM_off _ _ _ a, uM_off _ _ _ b, uM_off _ _ _ c3, uM_off _ _ _ c3, uM_off _ _ _ c3, uM_off _ _ _ c3, uM_off _ _ _ c3]
theorem F_comesTo {B : Mm} {P : PP} {D : DD} {W : Nat → Int32} {th : Bool} (hR : RW (B 240) P D) (h5 : B 239 5 = if th = true then 1 else 0) (hD : ∀ l, l < 28 → dOw D l ≤ pN P) (hN : pN P ≤ 12) (hL : dLn D ≤ 200) (hW : ∀ i, i < 5 * dLn D → B 248 i = W i) {l o : Nat} (hl : l < 28) (ho : o ≤ pN P) (how : Int32) :
    ∃ B', f_X11_comesTo (nI l) (eo o) how B = some B' ∧ RW (B' 240) P (psD th D l o) ∧ (∀ i, i < 5 * dLn (psD th D l o) → B' 248 i = psW th D W l o how i) ∧ ∀ k, k ≠ 240 → k ≠ 248 → B' k = B k := by
  have w := hD l hl
  have n2 : B 240 2 = nI (dLn D) := hR.1.2.2
  have n0 : B 240 0 = nI (dDay D) := hR.1.1
  have hR1 := RW_ow hR hN o hl
  unfold f_X11_comesTo
  rw [F_ownerOf hR hl]
  simp only [Option.bind_some, nm]
  rw [nI_lit 4, nI_add, gd_t (by omega) (by omega), ix_nI (by omega), eo_1, uM_off _ _ _ (by decide : (239 : Nat) ≠ 240), h5]
  have same : th = true ∨ dOw D l = o ∨ dLn D = 200 → ∃ B', some (uM B 240 (4 + l) (nI o)) = some B' ∧ RW (B' 240) P (psD th D l o) ∧ (∀ i, i < 5 * dLn (psD th D l o) → B' 248 i = psW th D W l o how i) ∧ ∀ k, k ≠ 240 → k ≠ 248 → B' k = B k := fun hc => by
    have eD : psD th D l o = sOw D l o := if_pos hc
    have eW : psW th D W l o how = W := if_pos hc
    refine ⟨_, rfl, ?_, fun i hi => ?_, fun k a _ => uM_off _ _ _ a⟩
    · rw [uM_row, eD]; exact hR1
    · rw [uM_off _ _ _ (by decide), eW]
      rw [eD] at hi
      exact hW i hi
  cases th with
  | true => exact same (Or.inl rfl)
  | false =>
    rw [if_pos (by rfl)]
    by_cases c : dOw D l = o
    · rw [if_pos (by rw [c])]
      exact same (Or.inr (Or.inl c))
    · rw [if_neg (by rw [eo_inj (by omega) (by omega)]; exact c), uM_ne _ _ _ (by omega), n2]
      by_cases c2 : dLn D = 200
      · rw [if_pos (by rw [c2]; rfl)]
        exact same (Or.inr (Or.inr c2))
      · have hc : ¬ (false = true ∨ dOw D l = o ∨ dLn D = 200) := by simp [c, c2]
        have eD : psD false D l o = sLn (sOw D l o) (dLn D + 1) := if_neg hc
        have eW : psW false D W l o how = wr5 W (5 * dLn D) (nI l) (eo (dOw D l)) (eo o) (nI (dDay D)) how := if_neg hc
        have o240 : ∀ (i : Nat) (v : Int32) (A0 : Mm), uM A0 248 i v 240 = A0 240 := fun i v A0 => uM_off _ _ _ (by decide)
        rw [if_neg (show ¬ nI (dLn D) = 200 from fun e => c2 ((nI_inj (b := 200) (by omega) (by omega)).mp e)), nI_lit 5, nI_lit 1, nI_lit 2, nI_lit 3, pk_mul, nI_add, nI_add, nI_add, nI_add, gd_t (by omega) (by omega), gd_t (by omega) (by omega), gd_t (by omega) (by omega), gd_t (by omega) (by omega), gd_t (by omega) (by omega), ix_nI (by omega), ix_nI (by omega), ix_nI (by omega), ix_nI (by omega), ix_nI (by omega)]
        simp only [o240]
        rw [uM_ne B 240 _ (by omega : (2 : Nat) ≠ 4 + l), uM_ne B 240 _ (by omega : (0 : Nat) ≠ 4 + l), n2, n0, nI_add]
        refine ⟨_, rfl, ?_, fun i hi => ?_, fun k a b => ?_⟩
        · rw [uM_row, o240, o240, o240, o240, o240, uM_row, eD]
          exact RW_ln hR1 hN _
        · rw [uM_off _ _ _ (by decide), eW]
          rw [eD] at hi
          rw [uM_row, uM_row, uM_row, uM_row, uM_row, uM_off _ _ _ (by decide)]
          exact wr5_at hW rfl i (by have : i < 5 * (dLn D + 1) := hi; omega)
        · rw [uM_off _ _ _ a, uM_off _ _ _ b, uM_off _ _ _ b, uM_off _ _ _ b, uM_off _ _ _ b, uM_off _ _ _ b, uM_off _ _ _ a]
theorem C_endLoan {A : Mm} {c : Nat} {P : PP} {D : DD} (hK : RK (fun j => A (c + j)) P D) {l : Nat} (hl : l < 28) : ∃ A', f_X1_endLoan c (nI l) A = some A' ∧ RK (fun j => A' (c + j)) P (sLo D l 0 0) ∧ ∀ k, k ≠ c + 11 → k ≠ c + 12 → A' k = A k := by
  unfold f_X1_endLoan
  simp only [nm]
  rw [gd_t (by omega) (by omega), gd_t (by omega) (by omega), ix_nI (by omega)]
  refine ⟨_, rfl, ?_, fun k a b => by rw [uM_off _ _ _ b, uM_off _ _ _ a]⟩
  have := RK_lo hK 0 0 hl
  rw [eo_0, if_pos rfl, ← uM_sh A c 11 l, ← uM_sh _ c 12 l] at this
  exact this
theorem F_endsLoan {B : Mm} {P : PP} {D : DD} (hR : RW (B 240) P D) (hN : pN P ≤ 12) {l : Nat} (hl : l < 28) : ∃ B', f_X11_endsLoan (nI l) B = some B' ∧ RW (B' 240) P (sLo D l 0 0) ∧ ∀ k, k ≠ 240 → B' k = B k := by
  unfold f_X11_endsLoan
  simp only [nm]
  rw [nI_lit 32, nI_lit 60, nI_add, nI_add, gd_t (by omega) (by omega), gd_t (by omega) (by omega), ix_nI (by omega), ix_nI (by omega)]
  refine ⟨_, rfl, ?_, fun k a => by rw [uM_off _ _ _ a, uM_off _ _ _ a]⟩
  rw [uM_row, uM_row]
  exact RW_lo hR hN 0 hl (fun h => absurd rfl h)
/-! what holds of people stays -/
section WFU
variable {P : PP} {D : DD} {T : TT}
theorem WFD_ow (h : WFD P D) {l o : Nat} (ho : o ≤ pN P) : WFD P (sOw D l o) := by
  refine ⟨fun l' hl' => ⟨?_, (h.1 l' hl').2⟩, h.2⟩
  show un D.1 2 l o 2 l' ≤ pN P
  by_cases e : l' = l
  · subst e; rw [un_eq]; exact ho
  · rw [un_ne _ _ _ e]; exact (h.1 l' hl').1
theorem WFD_lo (h : WFD P D) {l o : Nat} {v : Int32} (ho : o ≤ pN P) : WFD P (sLo D l o v) := by
  refine ⟨fun l' hl' => ⟨(h.1 l' hl').1, ?_⟩, h.2⟩
  show un D.1 3 l o 3 l' ≤ pN P
  by_cases e : l' = l
  · subst e; rw [un_eq]; exact ho
  · rw [un_ne _ _ _ e]; exact (h.1 l' hl').2
theorem WFD_ps (h : WFD P D) {th : Bool} {l o : Nat} (ho : o ≤ pN P) : WFD P (psD th D l o) := by
  unfold psD
  split
  · exact WFD_ow h ho
  · exact WFD_ow h ho
theorem WFR_ps (h : WFR P D) {th : Bool} {l o : Nat} : WFR P (psD th D l o) := by
  refine ⟨⟨?_, (psD_ln th D l o).2 h.1.2⟩, ?_⟩
  · unfold psD; split <;> exact h.1.1
  · unfold psD; split <;> exact h.2
theorem WFU_ps (h : WFU D T) {th : Bool} {l o : Nat} : WFU (psD th D l o) T := by
  unfold psD; split <;> exact h
end WFU
