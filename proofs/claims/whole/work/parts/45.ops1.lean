/-! ===== the calls that only ask: first those of one row ===== -/
theorem i10 : ((1 : Int32) = 0) = False := eq_false (by decide)
theorem im10 : ((-1 : Int32) = 0) = False := eq_false (by decide)
theorem nI_n1 {a : Nat} (h : a < 2147483648) : (nI a = -1) = False := eq_false fun e => by
  have := nI_pos' (n := a) h
  rw [e] at this
  exact absurd this (by decide)
theorem le_t {a b : Nat} (h : a ≤ b) (hb : b < 2147483648) : (nI a ≤ nI b) = True := eq_true (nI_ge_t h hb)
theorem le_f {a b : Nat} (h : b < a) (ha : a < 2147483648) : (nI a ≤ nI b) = False := eq_false (nI_ge_f h ha)
theorem lt_t {a b : Nat} (h : a < b) (hb : b < 2147483648) : (nI a < nI b) = True := eq_true ((nI_ltI (by omega) (by omega)).mpr h)
theorem lt_f {a b : Nat} (h : b ≤ a) (ha : a < 2147483648) : (nI a < nI b) = False := eq_false fun e => by
  rw [nI_ltI (by omega) (by omega)] at e
  omega
theorem eq_f {a b : Nat} (h : a ≠ b) (ha : a < 2147483648) (hb : b < 2147483648) : (nI a = nI b) = False := eq_false fun e => h ((nI_inj ha hb).mp e)
theorem eq_0f {a : Nat} (h : a ≠ 0) (ha : a < 2147483648) : (nI a = 0) = False := eq_false fun e => h ((nI_0iff (by omega)).mp e)
theorem lt0_f {a : Nat} (h : a < 2147483648) : (nI a < 0) = False := eq_false (nI_pos h)
theorem gd_t {k n : Nat} {ρ : Type} {o : Option ρ} (h : k < n) (hk : k < 2147483648) : gd (inB (nI k) n = true) o = o := gd_pos ((inB_nI hk).mpr h)
theorem ne_o {y : Int32} {n : Nat} (hn : n < 2147483648) (h : y < 0 ∨ nI n ≤ y) {j : Nat} (hj : j < n) : (y = nI j) = False := eq_false fun e => by
  subst e
  rcases h with h | h
  · exact nI_pos (by omega) h
  · exact nI_ge_f hj hn h
theorem ne_o0 {y : Int32} {n : Nat} (hn : n < 2147483648) (h : y < 0 ∨ nI n ≤ y) (h0 : 0 < n) : (y = 0) = False := ne_o hn h h0
section TSW
variable {ρ : Type}
theorem tsw_nI {j : Nat} (os : List (Option ρ)) (d : Option ρ) (hj : j < 2147483648) : tsw (nI j) 0 os d = os.getD j d := by
  by_cases h : j < os.length
  · exact tsw_in os 0 d j (by rw [nI_toInt hj]; omega) h
  · rw [tsw_out os 0 d (Or.inr (by rw [nI_toInt hj]; omega)), List.getD_eq_getElem?_getD, List.getElem?_eq_none (by omega)]
    rfl
theorem tsw_o {y : Int32} {n : Nat} {os : List (Option ρ)} {d : Option ρ} (hl : os.length = n) (hn : n < 2147483648) (h : y < 0 ∨ nI n ≤ y) : tsw y 0 os d = d := by
  refine tsw_out os 0 d ?_
  rcases h with h | h
  · refine Or.inl ?_
    have := Int32.lt_iff_toInt_lt.mp h
    simpa using this
  · refine Or.inr ?_
    have := Int32.le_iff_toInt_le.mp h
    rw [nI_toInt hn] at this
    omega
end TSW
theorem Good.ex {f g : Mm → Option (Int32 × Mm)} {S S1 S2 : Mm} {r : Int32} (e1 : f S = some (r, S1)) (e2 : g S1 = some (r, S2)) (h : RX S2) : Good f g S := ⟨r, S1, S2, e1, e2, h⟩
theorem k1s {S : Mm} {P : PP} {D : DD} (h : RK (fun j => S (1 + j)) P D) : S 1 0 = dDraw D ∧ S 1 1 = nI (dDay D) ∧ S 1 2 = nI (pNear P) ∧ S 1 3 = nI (pN P) ∧ S 1 4 = livS P D := ⟨h.1.1, h.1.2.1, h.1.2.2.1, h.1.2.2.2, C_living h⟩
theorem k1p {S : Mm} {P : PP} {D : DD} (h : RK (fun j => S (1 + j)) P D) {q : Nat} (hq : q < pN P) : S 2 q = eo (pMo P q) ∧ S 3 q = eo (pFa P q) ∧ S 4 q = pBorn P q ∧ S 5 q = dDies D q ∧ S 6 q = pFr P q ∧ S 7 q = pSk P q ∧ S 8 q = dCoin D q ∧ S 9 q = eo (dSp D q) := by
  obtain ⟨a1, a2, a3, a4, a5, a6, a7, a8, _⟩ := h.2.2.1 q hq
  exact ⟨a1, a2, a3, a4, a5, a6, a7, a8⟩
theorem k1l {S : Mm} {P : PP} {D : DD} (h : RK (fun j => S (1 + j)) P D) {l : Nat} (hl : l < 28) : S 11 l = eo (dOw D l) ∧ S 12 l = eo (dLo D l) ∧ S 13 l = if dLo D l = 0 then -1 else dLa D l := h.2.2.2.1 l hl
theorem k1d {S : Mm} {P : PP} {D : DD} (h : RK (fun j => S (1 + j)) P D) {d : Nat} (hd : d < 8) : S 14 d = dSg D d ∧ S 15 d = dFg D d ∧ S 16 d = dSo D d := h.2.2.2.2 d hd
theorem t17s {S : Mm} {T : TT} (h : RTK (fun j => S (17 + j)) T) : S 17 5 = nI (tDn T) ∧ S 18 2 = nI (tLm T) := h.1
theorem t17d {S : Mm} {T : TT} (h : RTK (fun j => S (17 + j)) T) {d : Nat} (hd : d < tDn T) : S 30 d = nI (tDl T d) ∧ S 31 d = tDs T d ∧ ∀ i, i < tDl T d → S 29 (40 * d + i) = nI (tDg T (40 * d + i)) := h.2.2.2.2 d hd
theorem t17w {S : Mm} {T : TT} (h : RTK (fun j => S (17 + j)) T) {q : Nat} (hq : q < 12) : S 25 q = nI (tWm T q) ∧ ∀ k, k < tWm T q → S 26 (12 * q + k) = tWr T (12 * q + k) ∧ S 27 (12 * q + k) = nI (tWt T (12 * q + k)) ∧ S 28 (12 * q + k) = eo (tWi T (12 * q + k)) := h.2.2.2.1 q hq
section OPS1
variable {S : Mm} {P : PP} {D : DD} {T : TT} {W : Nat → Int32} {E : RE}
theorem C_isDeed0 (h : RTK (fun j => S (17 + j)) T) {x : Int32} (hx : x < 0 ∨ nI (tDn T) ≤ x) : f_X10_isDeed x S = some (0, S) := by
  unfold f_X10_isDeed f_X10_isDeed_19
  by_cases h1 : x < 0
  · rw [if_pos h1]
  · rw [if_neg h1, (t17s h).1, if_pos (hx.resolve_left h1)]
theorem C_isDeed1 (h : RTK (fun j => S (17 + j)) T) (hn : tDn T ≤ 8) {d : Nat} (hd : d < tDn T) : f_X10_isDeed (nI d) S = some (1, S) := by
  unfold f_X10_isDeed f_X10_isDeed_19
  rw [if_neg (nI_pos (by omega)), (t17s h).1, if_neg (nI_ge_f hd (by omega))]
theorem F_isDeed0 {B : Mm} (h : RTF B T) {x : Int32} (hx : x < 0 ∨ nI (tDn T) ≤ x) : f_X11_isDeed x B = some (0, B) := by
  unfold f_X11_isDeed f_X11_isDeed_16
  by_cases h1 : x < 0
  · rw [if_pos h1]
  · rw [if_neg h1, h.1.1, if_pos (hx.resolve_left h1)]
theorem F_isDeed1 {B : Mm} (h : RTF B T) (hn : tDn T ≤ 8) {d : Nat} (hd : d < tDn T) : f_X11_isDeed (nI d) B = some (1, B) := by
  unfold f_X11_isDeed f_X11_isDeed_16
  rw [if_neg (nI_pos (by omega)), h.1.1, if_neg (nI_ge_f hd (by omega))]
theorem F_isIn0 {B : Mm} {x a b : Int32} (h : x < a ∨ b < x) : f_X11_isIn x a b B = some (0, B) := by
  unfold f_X11_isIn f_X11_isIn_14
  by_cases h1 : x < a
  · rw [if_pos h1]
  · rw [if_neg h1, if_pos (h.resolve_left h1)]
theorem F_isIn1 {B : Mm} {x a b : Int32} (h1 : ¬ x < a) (h2 : ¬ b < x) : f_X11_isIn x a b B = some (1, B) := by
  unfold f_X11_isIn
  rw [if_neg h1, if_neg h2]
theorem i32_lt_of_le {a b c : Int32} (h1 : a < b) (h2 : b ≤ c) : a < c := by
  have := Int32.lt_iff_toInt_lt.mp h1
  have := Int32.le_iff_toInt_le.mp h2
  exact Int32.lt_iff_toInt_lt.mpr (by omega)
theorem i32_nle {a b : Int32} : ¬ a ≤ b ↔ b < a := by
  rw [Int32.le_iff_toInt_le, Int32.lt_iff_toInt_lt]
  omega
theorem i32_nlt {a b : Int32} : ¬ a < b ↔ b ≤ a := by
  rw [Int32.le_iff_toInt_le, Int32.lt_iff_toInt_lt]
  omega
/-- x outside of 0 .. n - 1 is outside of the bounds 0 and n - 1 -/
theorem F_isInO {B : Mm} {x : Int32} {n : Nat} (hn : n < 2147483648) (h : x < 0 ∨ nI n ≤ x) : f_X11_isIn x 0 (nI n - 1) B = some (0, B) := by
  refine F_isIn0 (h.imp id fun h => ?_)
  cases n with
  | zero =>
    have h' := Int32.le_iff_toInt_le.mp h
    rw [nI_toInt (by omega)] at h'
    refine Int32.lt_iff_toInt_lt.mpr ?_
    have : (nI 0 - 1).toInt = -1 := by decide +kernel
    omega
  | succ n =>
    rw [nI_sub1 (by omega)]
    exact i32_lt_of_le ((nI_ltI (by omega) (by omega)).mpr (by omega)) h
theorem F_isInI {B : Mm} {j n : Nat} (hn : n < 2147483648) (h : j < n) : f_X11_isIn (nI j) 0 (nI n - 1) B = some (1, B) := by
  rw [nI_sub1 (by omega)]
  exact F_isIn1 (nI_pos (by omega)) (by rw [nI_ltI (by omega) (by omega)]; omega)
theorem RR.K (h : RR S P D T W E) : RK (fun j => S (1 + j)) P D := h.1.1.1
theorem RR.TK (h : RR S P D T W E) : RTK (fun j => S (17 + j)) T := h.1.1.2.1
theorem RR.B (h : RR S P D T W E) : RB S P D := h.2.1.1.1
theorem RR.TF (h : RR S P D T W E) : RTF S T := h.2.1.1.2.1
theorem RR.C (h : RR S P D T W E) : FC S := h.2.1.2.2.2.2
theorem RR.wP (h : RR S P D T W E) : WFP P := h.2.2.1.1
theorem RR.wD (h : RR S P D T W E) : WFD P D := h.2.2.1.2.2.1
theorem RR.R (h : RR S P D T W E) : WFR P D := h.2.2.1.2.2.2.1
theorem RR.wT (h : RR S P D T W E) : WFT (pN P) T := h.2.2.1.2.2.2.2.1
theorem op_kin (x y : Int32) (h : RR S P D T W E) : Good (f_X10_kin x y) (f_X11_kin x y) S := by
  have hN := h.wP.1
  have h0 := h.C.1
  rcases nI_cs x (n := pN P) (by omega) with hx | ⟨a, ha, rfl⟩
  · refine good_id h (r := -1) ?_ ?_
    · simp only [f_X10_kin, C_isThere0 h.K hx, Option.bind_some, if_true]
    · simp only [f_X11_kin, nm, uM_id h0, F_isPerson0 h.B.1 hx, Option.bind_some, if_true, f_X11_kin_35]
  · rcases nI_cs y (n := pN P) (by omega) with hy | ⟨b, hb, rfl⟩
    · refine good_id h (r := -1) ?_ ?_
      · simp only [f_X10_kin, C_isThere1 h.K hN ha, C_isThere0 h.K hy, Option.bind_some, if_true, i10, if_false]
      · simp only [f_X11_kin, nm, uM_id h0, F_isPerson1 h.B.1 hN ha, F_isPerson0 h.B.1 hy, Option.bind_some, if_true, i10, if_false, f_X11_kin_35]
    · refine good_id h (r := nI (kinM P D a b)) ?_ ?_
      · simp only [f_X10_kin, C_isThere1 h.K hN ha, C_isThere1 h.K hN hb, C_kin h.K hN ha hb, Option.bind_some, i10, if_false]
      · simp only [f_X11_kin, nm, uM_id h0, F_isPerson1 h.B.1 hN ha, F_isPerson1 h.B.1 hN hb, Option.bind_some, i10, if_false]
        rw [nI_lit 12, ix_ab (by omega) (by omega), gd_t (by omega) (by omega), ix_nI (by omega), h.B.2.2 a b ha hb]
theorem op_at (x y : Int32) (h : RR S P D T W E) : Good (f_X10_at x y) (f_X11_at x y) S := by
  have hn := h.wT.1.1
  have h0 := h.C.1
  rcases nI_cs x (n := tDn T) (by omega) with hx | ⟨d, hd, rfl⟩
  · refine good_id h (r := -1) ?_ ?_
    · simp only [f_X10_at, C_isDeed0 h.TK hx, Option.bind_some, if_true]
    · simp only [f_X11_at, nm, uM_id h0, F_isDeed0 h.TF hx, Option.bind_some, if_true, f_X11_at_44]
  · have hl := (h.wT.2.2.2 d hd).1
    have c1 := t17d h.TK hd
    have c2 := h.TF.2.2.2.2 d hd
    rcases nI_cs y (n := tDl T d) (by omega) with hy | ⟨i, hi, rfl⟩
    · refine good_id h (r := -1) ?_ ?_
      · simp only [f_X10_at, C_isDeed1 h.TK hn hd, Option.bind_some, i10, if_false]
        rw [gd_t (by omega) (by omega), ix_nI (by omega), c1.1]
        by_cases k : y < 0
        · rw [if_pos k]
        · rw [if_neg k, if_neg (i32_nlt.mpr (hy.resolve_left k))]
      · simp only [f_X11_at, nm, uM_id h0, F_isDeed1 h.TF hn hd, Option.bind_some, i10, if_false]
        rw [gd_t (by omega) (by omega), ix_nI (by omega), c2.1, F_isInO (by omega) hy]
        simp only [Option.bind_some, if_true, f_X11_at_44]
    · refine good_id h (r := nI (tDg T (40 * d + i))) ?_ ?_
      · simp only [f_X10_at, C_isDeed1 h.TK hn hd, Option.bind_some, i10, if_false]
        rw [gd_t (by omega) (by omega), ix_nI (by omega), c1.1, nI_lit 40, pk_mul, nI_add, if_neg (nI_pos (by omega)), if_pos ((nI_ltI (by omega) (by omega)).mpr hi), gd_t (by omega) (by omega), ix_nI (by omega), Nat.mul_comm d 40, c1.2.2 i hi]
      · simp only [f_X11_at, nm, uM_id h0, F_isDeed1 h.TF hn hd, Option.bind_some, i10, if_false]
        rw [gd_t (by omega) (by omega), ix_nI (by omega), c2.1, F_isInI (by omega) hi]
        simp only [Option.bind_some, i10, if_false]
        rw [nI_lit 40, pk_mul, nI_add, gd_t (by omega) (by omega), ix_nI (by omega), c2.2.2 i hi]
theorem op_book (x y : Int32) (h : RR S P D T W E) : Good (f_X10_book x y) (f_X11_book x y) S := by
  have h0 := h.C.1
  have hL := h.R.1.2
  have l1 : S 32 1 = nI (dLn D) := h.1.1.2.2.1
  have l2 : S 240 2 = nI (dLn D) := h.B.2.1.1.2.2
  rcases nI_cs x (n := dLn D) (by omega) with hx | ⟨i, hi, rfl⟩
  · refine good_id h (r := -2) ?_ ?_
    · simp only [f_X10_book]
      rw [l1]
      by_cases k : x < 0
      · rw [if_pos k]
      · rw [if_neg k, if_pos (hx.resolve_left k)]
    · simp only [f_X11_book, nm, uM_id h0]
      rw [l2, F_isInO (by omega) hx]
      simp only [Option.bind_some, if_true, f_X11_book_45]
  · rcases nI_cs y (n := 5) (by omega) with hy | ⟨j, hj, rfl⟩
    · refine good_id h (r := -2) ?_ ?_
      · simp only [f_X10_book]
        rw [l1, if_neg (nI_pos (by omega)), if_neg (nI_ge_f hi (by omega))]
        by_cases k : y < 0
        · rw [if_pos k]
        · rw [if_neg k, if_neg]
          exact i32_nlt.mpr (hy.resolve_left k)
      · simp only [f_X11_book, nm, uM_id h0]
        rw [l2, F_isInI (by omega) hi]
        simp only [Option.bind_some, i10, if_false]
        rw [show (4 : Int32) = nI 5 - 1 by decide +kernel, F_isInO (by omega) hy]
        simp only [Option.bind_some, if_true, f_X11_book_45]
    · refine good_id h (r := W (5 * i + j)) ?_ ?_
      · simp only [f_X10_book]
        rw [l1, if_neg (nI_pos (by omega)), if_neg (nI_ge_f hi (by omega)), if_neg (nI_pos (by omega)), nI_lit 5, if_pos ((nI_ltI (by omega) (by omega)).mpr hj), pk_mul, nI_add, gd_t (by omega) (by omega), ix_nI (by omega), Nat.mul_comm i 5, h.1.1.2.2.2 _ (by omega)]
      · simp only [f_X11_book, nm, uM_id h0]
        rw [l2, F_isInI (by omega) hi]
        simp only [Option.bind_some, i10, if_false]
        rw [show (4 : Int32) = nI 5 - 1 by decide +kernel, F_isInI (by omega) hj]
        simp only [Option.bind_some, i10, if_false]
        rw [nI_lit 5, pk_mul, nI_add, gd_t (by omega) (by omega), ix_nI (by omega), h.2.1.1.2.2 _ (by omega)]
theorem op_fault (x : Int32) (h : RR S P D T W E) : Good (f_X10_fault x) (f_X11_fault x) S := by
  have h0 := h.C.1
  obtain ⟨a1, a2, a3, a4⟩ := h.1.2.2.2
  obtain ⟨b1, b2, b3, b4⟩ := h.2.1.2.2.2.1
  by_cases c : x = 0
  · refine good_id h (r := E.2.2.2.2.1) ?_ ?_
    · simp only [f_X10_fault]; rw [if_pos c, a2]
    · simp only [f_X11_fault, nm, uM_id h0]; rw [if_pos c, b2]
  · by_cases c1 : x = 1
    · refine good_id h (r := E.2.2.2.2.2) ?_ ?_
      · simp only [f_X10_fault]; rw [if_neg c, if_pos c1, a3]
      · simp only [f_X11_fault, nm, uM_id h0]; rw [if_neg c, if_pos c1, b3]
    · refine good_id h (r := -1) ?_ ?_
      · simp only [f_X10_fault]; rw [if_neg c, if_neg c1]
      · simp only [f_X11_fault, nm, uM_id h0]; rw [if_neg c, if_neg c1]
theorem op_hand (x : Int32) (h : RR S P D T W E) : Good (f_X10_hand x) (f_X11_hand x) S := by
  have h0 := h.C.1
  by_cases c : x < 1
  · refine good_id h (r := -1) ?_ ?_
    · simp only [f_X10_hand]; rw [if_pos c]
    · simp only [f_X11_hand, nm, uM_id h0]; rw [if_pos c]
  · by_cases c1 : x ≤ 268435455
    · obtain ⟨f, e⟩ := C_writers h.K h.wP h.wD x
      have a1 : agS S (rM S 182 f) := agS_rM (by decide)
      have h1 := h.scr a1
      obtain ⟨g, e2, hg⟩ := F_findsHands h1.B h.wP h.wD
      have a2 : agS (rM S 182 f) (rM (rM S 182 f) 267 g) := agS_rM (by decide)
      have h2 := h1.scr a2
      refine good_ro h (r := aloS P D x) ?_ a1 ?_ a2
      · simp only [f_X10_hand]; rw [if_neg c, if_pos c1, e]; rfl
      · simp only [f_X11_hand, nm, uM_id h1.C.1]
        rw [if_neg c, if_pos c1, e2]
        simp only [Option.bind_some]
        rw [F_aloneOf h2.B.1 h.wP (fun q hq => by rw [rM_same]; exact hg q hq)]
        rfl
    · refine good_id h (r := -1) ?_ ?_
      · simp only [f_X10_hand]; rw [if_neg c, if_neg c1]
      · simp only [f_X11_hand, nm, uM_id h0]; rw [if_neg c, if_neg c1]
theorem op_dumb (h : RR S P D T W E) : Good f_X10_dumb f_X11_dumb S := by
  obtain ⟨f, e⟩ := C_speechless h.K h.wP h.wD
  have a1 : agS S (rM S 182 f) := agS_rM (by decide)
  have h1 := h.scr a1
  obtain ⟨g, e2⟩ := F_dumb h1.B h1.C.1 h.wP h.wD
  refine good_ro h (r := dumbS P D) ?_ a1 e2 (agS_rM (by decide))
  unfold f_X10_dumb
  rw [e]
  rfl
end OPS1
