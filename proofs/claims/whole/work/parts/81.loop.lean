/-! ===== the script, act by act ===== -/
theorem two {f g : Mm → Option (Int32 × Mm)} {S : Mm} (h : Good f g S) {K : Mm → Option Int32} (hK : ∀ S2, RX S2 → K S2 = some 1) : ((f S).bind fun q => (g q.2).bind fun q' => if q.1 = q'.1 then K q'.2 else none) = some 1 := by
  obtain ⟨r, S1, S2, e1, e2, hx⟩ := h
  rw [e1]
  simp only [bind_x]
  rw [e2]
  simp only [bind_x]
  rw [if_pos trivial]
  exact hK S2 hx
theorem getD_all {ρ : Type} {r d : ρ} (hd : d = r) : ∀ (os : List ρ) (j : Nat), (∀ o ∈ os, o = r) → os.getD j d = r := by
  intro os
  induction os with
  | nil => intro j _; exact hd
  | cons a os ih =>
    intro j h
    cases j with
    | zero => exact h a (List.mem_cons_self ..)
    | succ j => exact ih j fun o ho => h o (List.mem_cons_of_mem _ ho)
theorem tsw_all {ρ : Type} {r d : Option ρ} {v : Int32} (os : List (Option ρ)) (hd : d = r) (h : ∀ o ∈ os, o = r) (hl : os.length < 1000) : tsw v 0 os d = r := by
  rcases nI_cs v (n := os.length) (by omega) with hv | ⟨j, hj, rfl⟩
  · exact (tsw_o rfl (by omega) hv).trans hd
  · exact (tsw_nI os d (by omega)).trans (getD_all hd os j h)
theorem nI_k (n k : Nat) : nI n + nI k = nI (n + k) := nI_add ..
/-- what the texts are read to: the last of the calls -/
abbrev TextOk : Prop := ∀ (x y : Int32) {S : Mm} {P : PP} {D : DD} {T : TT} {W : Nat → Int32} {E : RE}, RR S P D T W E → Good (f_X10_text x y) (f_X11_text x y) S
theorem round_ok (ht : TextOk) {xs : Nat → Int32} {Ln n : Nat} (hL : Ln ≤ 3072) (hn : n + 6 ≤ Ln) {rec : Int32 → Mm → Option Int32} (next : ∀ S2, RX S2 → rec (nI (n + 6)) S2 = some 1) {S : Mm} (hx : RX S) : f_L_18b rec xs Ln (nI n) S = some 1 := by
  obtain ⟨P, D, T, W, E, h⟩ := hx
  have a1 : nI n + 1 = nI (n + 1) := nI_k n 1
  have a2 : nI n + 2 = nI (n + 2) := nI_k n 2
  have a3 : nI n + 3 = nI (n + 3) := nI_k n 3
  have a4 : nI n + 4 = nI (n + 4) := nI_k n 4
  have a5 : nI n + 5 = nI (n + 5) := nI_k n 5
  have a6 : nI n + 6 = nI (n + 6) := nI_k n 6
  have nx : ∀ S2, RX S2 → f_L_1275 rec xs Ln (nI n) S2 = some 1 := fun S2 h2 => by
    unfold f_L_1275
    rw [nm_x, a6]
    exact next S2 h2
  have stop : ¬ Int32.ofNat Ln - 6 < nI n := by
    have e : Int32.ofNat Ln - 6 = nI (Ln - 6) := by
      show nI Ln - nI 6 = nI (Ln - 6)
      exact pk_sub (by omega)
    rw [e, nI_ltI (by omega) (by omega)]
    omega
  unfold f_L_18b
  rw [if_neg stop, gd_t (by omega) (by omega)]
  refine tsw_all _ (nx S ⟨P, D, T, W, E, h⟩) ?_ (show (33 : Nat) < 1000 by decide)
  intro o ho
  simp only [List.mem_cons, List.not_mem_nil, or_false] at ho
  rcases ho with rfl | rfl | rfl | rfl | rfl | rfl | rfl | rfl | rfl | rfl | rfl | rfl | rfl | rfl | rfl | rfl | rfl | rfl | rfl | rfl | rfl | rfl | rfl | rfl | rfl | rfl | rfl | rfl | rfl | rfl | rfl | rfl | rfl
  · simp (disch := omega) only [a1, gd_t, ix_nI]
    exact two (op_state (xs (n + 1)) h) nx
  · simp (disch := omega) only [a1, a2, a3, gd_t, ix_nI]
    exact two (op_person (xs (n + 1)) (xs (n + 2)) (xs (n + 3)) h) nx
  · simp (disch := omega) only [a1, a2, a3, gd_t, ix_nI]
    exact two (op_set (xs (n + 1)) (xs (n + 2)) (xs (n + 3)) h) nx
  · simp (disch := omega) only [a1, a2, gd_t, ix_nI]
    exact two (op_own (xs (n + 1)) (xs (n + 2)) h) nx
  · simp (disch := omega) only [a1, a2, a3, a4, a5, gd_t, ix_nI]
    exact two (op_feed (xs (n + 1)) (xs (n + 2)) (xs (n + 3)) (xs (n + 4)) (xs (n + 5)) h) nx
  · simp (disch := omega) only [a1, gd_t, ix_nI]
    exact two (op_end (xs (n + 1)) h) nx
  · simp (disch := omega) only [a1, a2, gd_t, ix_nI]
    exact two (ht (xs (n + 1)) (xs (n + 2)) h) nx
  · simp (disch := omega) only [a1, gd_t, ix_nI]
    exact two (op_fault (xs (n + 1)) h) nx
  · simp (disch := omega) only [a1, a2, gd_t, ix_nI]
    exact two (op_wed (xs (n + 1)) (xs (n + 2)) h) nx
  · simp (disch := omega) only [a1, a2, gd_t, ix_nI]
    exact two (op_part (xs (n + 1)) (xs (n + 2)) h) nx
  · simp (disch := omega) only [a1, a2, a3, a4, gd_t, ix_nI]
    exact two (op_lend (xs (n + 1)) (xs (n + 2)) (xs (n + 3)) (xs (n + 4)) h) nx
  · simp (disch := omega) only [a1, a2, gd_t, ix_nI]
    exact two (op_give (xs (n + 1)) (xs (n + 2)) h) nx
  · simp (disch := omega) only [a1, a2, a3, gd_t, ix_nI]
    exact two (op_duel (xs (n + 1)) (xs (n + 2)) (xs (n + 3)) h) nx
  · simp (disch := omega) only [a1, a2, gd_t, ix_nI]
    exact two (op_sign (xs (n + 1)) (xs (n + 2)) h) nx
  · simp (disch := omega) only [a1, gd_t, ix_nI]
    exact two (op_days (xs (n + 1)) h) nx
  · simp (disch := omega) only [a1, a2, gd_t, ix_nI]
    exact two (op_of (xs (n + 1)) (xs (n + 2)) h) nx
  · simp (disch := omega) only [a1, a2, gd_t, ix_nI]
    exact two (op_kin (xs (n + 1)) (xs (n + 2)) h) nx
  · simp (disch := omega) only [a1, a2, gd_t, ix_nI]
    exact two (op_letter (xs (n + 1)) (xs (n + 2)) h) nx
  · simp (disch := omega) only [a1, a2, gd_t, ix_nI]
    exact two (op_deed (xs (n + 1)) (xs (n + 2)) h) nx
  · simp (disch := omega) only [a1, a2, gd_t, ix_nI]
    exact two (op_at (xs (n + 1)) (xs (n + 2)) h) nx
  · simp (disch := omega) only [a1, a2, gd_t, ix_nI]
    exact two (op_book (xs (n + 1)) (xs (n + 2)) h) nx
  · simp (disch := omega) only [a1, a2, a3, gd_t, ix_nI]
    exact two (op_weddings (xs (n + 1)) (xs (n + 2)) (xs (n + 3)) h) nx
  · simp (disch := omega) only [a1, a2, gd_t, ix_nI]
    exact two (op_whenCan (xs (n + 1)) (xs (n + 2)) h) nx
  · simp (disch := omega) only [a1, gd_t, ix_nI]
    exact two (op_hand (xs (n + 1)) h) nx
  · simp (disch := omega) only [a1, a2, a3, gd_t, ix_nI]
    exact two (op_inherit (xs (n + 1)) (xs (n + 2)) (xs (n + 3)) h) nx
  · simp (disch := omega) only [a1, a2, a3, gd_t, ix_nI]
    exact two (op_worth (xs (n + 1)) (xs (n + 2)) (xs (n + 3)) h) nx
  · simp (disch := omega) only [a1, gd_t, ix_nI]
    exact two (op_silent (xs (n + 1)) h) nx
  · simp (disch := omega) only [a1, a2, gd_t, ix_nI]
    exact two (op_trace (xs (n + 1)) (xs (n + 2)) h) nx
  · simp (disch := omega) only [a1, a2, gd_t, ix_nI]
    exact two (op_best (xs (n + 1)) (xs (n + 2)) h) nx
  · exact two (op_dumb  h) nx
  · exact two (op_undo  h) nx
  · simp (disch := omega) only [a1, gd_t, ix_nI]
    by_cases c : xs (n + 1) = 0
    · rw [if_pos c]
      unfold f_L_1227 f_L_1244
      simp (disch := omega) only [a1, gd_t, ix_nI, c, if_true]
      exact two (op_back h) nx
    · rw [if_neg c]
      unfold f_L_1227 f_L_1244
      simp (disch := omega) only [a1, gd_t, ix_nI, c, if_false]
      exact two (op_take h) nx
  · simp (disch := omega) only [a1, gd_t, ix_nI]
    exact two (op_look (xs (n + 1)) h) nx
theorem stop_t {Ln n : Nat} (h : Ln < n + 6) (hL : Ln ≤ 3072) (hn : n ≤ 3072) : (Int32.ofNat Ln - 6).toInt < (nI n).toInt := by
  rw [nI_toInt (by omega)]
  by_cases c : 6 ≤ Ln
  · have e : Int32.ofNat Ln - 6 = nI (Ln - 6) := by
      show nI Ln - nI 6 = nI (Ln - 6)
      exact pk_sub (by omega)
    rw [e, nI_toInt (by omega)]
    omega
  · have : Ln = 0 ∨ Ln = 1 ∨ Ln = 2 ∨ Ln = 3 ∨ Ln = 4 ∨ Ln = 5 := by omega
    have k : (Int32.ofNat Ln - 6).toInt < 0 := by
      rcases this with rfl | rfl | rfl | rfl | rfl | rfl <;> decide
    omega
theorem pure_of (ht : TextOk) (xs : Nat → Int32) (Ln : Nat) (hL : Ln ≤ 3072) : f_L_18 xs Ln FU 0 S1 = some 1 := by
  have key : ∀ (d n fuel : Nat) (S : Mm), Ln < n + 6 + 6 * d → n ≤ 3072 → d < fuel → RX S → f_L_18 xs Ln fuel (nI n) S = some 1 := by
    intro d
    induction d with
    | zero =>
      intro n fuel S h1 h3 h2 hx
      cases fuel with
      | zero => omega
      | succ fu =>
        show f_L_18b (f_L_18 xs Ln fu) xs Ln (nI n) S = some 1
        unfold f_L_18b
        rw [if_pos]
        rw [Int32.lt_iff_toInt_lt]
        exact stop_t (by omega) hL h3
    | succ d ih =>
      intro n fuel S h1 h3 h2 hx
      cases fuel with
      | zero => omega
      | succ fu =>
        show f_L_18b (f_L_18 xs Ln fu) xs Ln (nI n) S = some 1
        by_cases c : n + 6 ≤ Ln
        · exact round_ok ht hL c (fun S2 h2 => ih (n + 6) fu S2 (by omega) (by omega) (by omega) h2) hx
        · unfold f_L_18b
          rw [if_pos]
          rw [Int32.lt_iff_toInt_lt]
          exact stop_t (by omega) hL h3
  exact key 512 0 FU S1 (by omega) (by omega) (by unfold FU; omega) init_RR
