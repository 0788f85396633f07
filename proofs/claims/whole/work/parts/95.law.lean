/-! ===== a text is told: what stays, what comes ===== -/
/-- the class runs, then the reference on what it left: both are known whatever the reference begins with -/
theorem two_sim {f g : Mm → Option (Int32 × Mm)} {S : Mm} (H : ∀ Bm : Mm, (∀ k, 239 ≤ k → Bm k = S k) → ∃ r A' B', f S = some (r, A') ∧ g Bm = some (r, B') ∧ (∀ k, 239 ≤ k → A' k = S k) ∧ ((∀ k, k < 239 → Bm k = A' k) → RX B')) : Good f g S := by
  obtain ⟨r, A', B', h1, -, h3, -⟩ := H S fun _ _ => rfl
  obtain ⟨r2, A2, B2, g1, g2, -, g4⟩ := H A' h3
  rw [h1] at g1
  cases g1
  exact ⟨r, A', B2, h1, g2, g4 fun _ _ => rfl⟩
def clB (S : Mm) : Mm := uM (uM S 184 2 0) 184 3 (-1)
def reB (S : Mm) : Mm := uM (uM (uM (uM (uM (uM S 239 0 0) 239 34 0) 239 35 (-1)) 239 17 0) 239 28 0) 239 29 0
section TEXT
variable {S : Mm} {P : PP} {D : DD} {T : TT} {W : Nat → Int32} {E : RE}
theorem RR.text {S2 : Mm} {T' : TT} (h : RR S P D T W E) (a0 : ∀ k, (k < 17 ∨ (32 ≤ k ∧ k < 184) ∨ k = 185 ∨ 206 ≤ k) → k < 239 → S2 k = S k) (ta : RTK (fun j => S2 (17 + j)) T') (b0 : ∀ k, (240 ≤ k ∧ k < 252) ∨ (265 ≤ k ∧ k < 270) → S2 k = S k) (b1 : ∀ j, ks j = true → j ≠ 16 → j ≠ 22 → j ≠ 34 → j ≠ 35 → j ≠ 40 → S2 239 j = S 239 j) (tb : RTF S2 T') (t1 : S2 184 1 = 0) (t2 : S2 239 16 = 0) (t3 : S2 184 2 = S2 239 34) (t4 : S2 184 3 = S2 239 35) (w : WFT (pN P) T') (wu : WFU D T') (wd : tDn T ≤ tDn T') : RX S2 := by
  obtain ⟨⟨x1, x2, x3, x4⟩, ⟨y1, y2, y3, y4, y5⟩, z1, z2, z3, z4⟩ := h
  obtain ⟨c1, c2, c3, c4⟩ := x1
  obtain ⟨f1, f2, f3⟩ := y1
  obtain ⟨w1, w2, w3, w4, w5, w6⟩ := z1
  refine ⟨P, D, T', W, (E.1, E.2.1, (0, fun _ => 0, S2 184 2, S2 184 3)), ⟨⟨c1.congr fun j hj => a0 _ (by omega) (by omega), ta, ?_, fun i hi => ?_⟩, ?_, ?_, ?_⟩, ⟨⟨?_, tb, fun i hi => ?_⟩, ?_, ?_, ?_, ?_⟩, ⟨w1, w2, w3, w4, w, wu⟩, ⟨z2.1, fun j hj => ?_⟩, z3, ?_⟩
  · rw [a0 32 (by omega) (by omega)]; exact c3
  · rw [a0 33 (by omega) (by omega)]; exact c4 i hi
  · exact x2.congr fun k p q => a0 k (by omega) (by omega)
  · exact x3.congr (by rw [a0 0 (by omega) (by omega)]) fun k p q r s => a0 k (by omega) (by omega)
  · exact ⟨t1, rfl, rfl, fun i hi => absurd hi (Nat.not_lt_zero i)⟩
  · exact f1.congr2 (b1 6 rfl (by decide) (by decide) (by decide) (by decide) (by decide)) (b1 12 rfl (by decide) (by decide) (by decide) (by decide) (by decide)) fun k p q r s t => b0 k (by omega)
  · rw [b0 248 (by omega)]; exact f3 i hi
  · exact y2.congr (b1 3 rfl (by decide) (by decide) (by decide) (by decide) (by decide)) (b0 241 (by omega))
  · exact y3.congr (b1 51 rfl (by decide) (by decide) (by decide) (by decide) (by decide)) (b0 269 (by omega))
  · exact ⟨t2, t3.symm, t4.symm, fun i hi => absurd hi (Nat.not_lt_zero i)⟩
  · unfold FC at y5 ⊢
    rw [b1 0 rfl (by decide) (by decide) (by decide) (by decide) (by decide), b1 5 rfl (by decide) (by decide) (by decide) (by decide) (by decide), b1 47 rfl (by decide) (by decide) (by decide) (by decide) (by decide), b0 251 (by omega)]
    exact y5
  · obtain ⟨u1, u2, u3, u4⟩ := z2.2 j hj
    exact ⟨u1, u2, fun d hd => u3 d (Nat.le_trans wd hd), u4⟩
  · exact ⟨Nat.zero_le _, fun i hi => absurd hi (Nat.not_lt_zero i)⟩
/-- what the tape is, on both sides -/
theorem RR.wb (h : RR S P D T W E) : WB E.2.2.1 E.2.2.2.1 := h.2.2.2.2.2
theorem RR.tp (h : RR S P D T W E) : TP (clB S) E.2.2.1 E.2.2.2.1 := by
  obtain ⟨c1, -, -, c4⟩ := h.1.2.2.2
  unfold clB
  exact ⟨by rw [uM_ne _ _ _ (by decide), uM_ne _ _ _ (by decide)]; exact c1, fun i hi => by rw [uM_off _ _ _ (by decide), uM_off _ _ _ (by decide)]; exact c4 i hi⟩
theorem reB_off {Bm : Mm} {k : Nat} (h : k ≠ 239) : reB Bm k = Bm k := by
  unfold reB
  rw [uM_off _ _ _ h, uM_off _ _ _ h, uM_off _ _ _ h, uM_off _ _ _ h, uM_off _ _ _ h, uM_off _ _ _ h]
theorem reB_ne {Bm : Mm} {j : Nat} (h : j ≠ 0 ∧ j ≠ 34 ∧ j ≠ 35 ∧ j ≠ 17 ∧ j ≠ 28 ∧ j ≠ 29) : reB Bm 239 j = Bm 239 j := by
  unfold reB
  rw [uM_ne _ _ _ (by omega), uM_ne _ _ _ (by omega), uM_ne _ _ _ (by omega), uM_ne _ _ _ (by omega), uM_ne _ _ _ (by omega), uM_ne _ _ _ (by omega)]
theorem RR.fp (h : RR S P D T W E) {Bm : Mm} (e : ∀ k, 239 ≤ k → Bm k = S k) : FP (reB Bm) E.2.2.1 E.2.2.2.1 := by
  obtain ⟨c1, -, -, c4⟩ := h.2.1.2.2.2.1
  obtain ⟨-, -, -, d4⟩ := h.C
  refine ⟨by rw [reB_ne (by decide), e 239 (by omega)]; exact c1, fun i hi => by rw [reB_off (by decide), e 250 (by omega)]; exact c4 i hi, fun i hi => by rw [reB_off (by decide), e 251 (by omega)]; exact d4 i hi⟩
theorem ks_kept {Bm B' : Mm} (fk : FK (reB Bm) B') {j : Nat} (hj : ks j = true) (h : j ≠ 0 ∧ j ≠ 34 ∧ j ≠ 35) : B' 239 j = Bm 239 j := by
  rw [fk.2 j hj]
  have q := hj
  unfold ks at q
  have q := of_decide_eq_true q
  exact reB_ne (by omega)
theorem CK.cl {A' : Mm} (ck : CK (clB S) A') {k : Nat} (h : k < 186 ∨ 206 ≤ k) (h2 : k ≠ 184) : A' k = S k := by
  rw [ck.1 k h h2]
  unfold clB
  rw [uM_off _ _ _ h2, uM_off _ _ _ h2]
theorem RTF.fk {B B' : Mm} (h : RTF B T) (w : WFT (pN P) T) (e1 : B' 239 40 = B 239 40) (e2 : B' 239 22 = B 239 22) (e : ∀ k x, 252 ≤ k → kp k x → B' k x = B k x) : RTF B' T := by
  obtain ⟨⟨a1, a2⟩, a3, a4, a5, a6⟩ := h
  obtain ⟨⟨w1, w2, w3⟩, w4, w5, w6⟩ := w
  refine ⟨⟨by rw [e1]; exact a1, by rw [e2]; exact a2⟩, fun k hk => ?_, fun i hi => ?_, fun q hq => ⟨?_, fun k hk => ?_⟩, fun d hd => ⟨?_, ?_, fun i hi => ?_⟩⟩
  · have kl : ∀ j, j = 252 ∨ j = 253 ∨ j = 254 → kp j k := fun j hj => by
      unfold kp
      refine ⟨?_, ?_, ?_, ?_, ?_, ?_⟩ <;> intros <;> omega
    rw [e 253 k (by omega) (kl _ (by omega)), e 252 k (by omega) (kl _ (by omega)), e 254 k (by omega) (kl _ (by omega))]
    exact a3 k hk
  · rw [e 255 i (by omega) (kp_c (by omega) (by omega)), e 256 i (by omega) (kp_c (by omega) (by omega))]
    exact a4 i hi
  · rw [e 258 q (by omega) (kp_o (by omega) (by omega))]
    exact (a5 q hq).1
  · have := (w5 q hq).1
    have kl : ∀ j, j = 259 ∨ j = 260 ∨ j = 261 → kp j (12 * q + k) := fun j hj => by
      unfold kp
      refine ⟨?_, ?_, ?_, ?_, ?_, ?_⟩ <;> intros <;> omega
    rw [e 259 _ (by omega) (kl _ (by omega)), e 260 _ (by omega) (kl _ (by omega)), e 261 _ (by omega) (kl _ (by omega))]
    exact (a5 q hq).2 k hk
  · rw [e 262 d (by omega) (kp_o (by omega) (by omega))]; exact (a6 d hd).1
  · rw [e 263 d (by omega) (kp_o (by omega) (by omega))]; exact (a6 d hd).2.1
  · have := (w6 d hd).1
    have kl : kp 264 (40 * d + i) := by
      unfold kp
      refine ⟨?_, ?_, ?_, ?_, ?_, ?_⟩ <;> intros <;> omega
    rw [e 264 _ (by omega) kl]
    exact (a6 d hd).2.2 i hi
/-- the ends of both when a fault is found -/
theorem text_fail (h : RR S P D T W E) {Bm A' B' : Mm} (e : ∀ k, 239 ≤ k → Bm k = S k) (ck : CK (clB S) A') (fk : FK (reB Bm) B') (e2 : A' 184 2 = B' 239 32) (e3 : A' 184 3 = B' 239 33) (he : ∀ k, k < 239 → Bm k = uM A' 184 1 0 k) : RX (uM (uM (uM B' 239 34 (B' 239 32)) 239 35 (B' 239 33)) 239 16 0) := by
  have lo : ∀ k, k < 239 → ∀ x, B' k x = uM A' 184 1 0 k x := fun k hk x => by
    rw [fk.1 k x (kp_o (by omega) (by omega)), reB_off (by omega), he k hk]
  have of : ∀ k, k ≠ 239 → uM (uM (uM B' 239 34 (B' 239 32)) 239 35 (B' 239 33)) 239 16 0 k = B' k := fun k hk => by
    rw [uM_off _ _ _ hk, uM_off _ _ _ hk, uM_off _ _ _ hk]
  have cl : ∀ k, k < 239 → (k < 186 ∨ 206 ≤ k) → k ≠ 184 → uM (uM (uM B' 239 34 (B' 239 32)) 239 35 (B' 239 33)) 239 16 0 k = S k := fun k hk h1 h2 => by
    rw [of k (by omega)]
    funext x
    rw [lo k hk, uM_off _ _ _ h2, ck.cl h1 h2]
  refine h.text (T' := T) (fun k h1 h2 => cl k h2 (by omega) (by omega)) (h.TK.congr fun j h1 h2 h3 => cl _ (by omega) (by omega) (by omega)) (fun k hk => ?_) (fun j hj h1 h2 h3 h4 h5 => ?_) ?_ ?_ (uM_eq _ _ _ _) ?_ ?_ h.wT h.2.2.1.2.2.2.2.2 (Nat.le_refl _)
  · rw [of k (by omega)]
    funext x
    by_cases c : k = 257
    · omega
    · rw [fk.1 k x (kp_o (by omega) (by omega)), reB_off (by omega), e k (by omega)]
  · rw [uM_ne _ _ _ h1, uM_ne _ _ _ h4, uM_ne _ _ _ h3]
    by_cases c : j = 0
    · subst c
      rw [fk.2 0 rfl]
      rw [h.C.1]
      unfold reB
      rw [uM_ne _ _ _ (by decide), uM_ne _ _ _ (by decide), uM_ne _ _ _ (by decide), uM_ne _ _ _ (by decide), uM_ne _ _ _ (by decide), uM_eq]
    · rw [ks_kept fk hj ⟨c, h3, h4⟩, e 239 (by omega)]
  · refine h.TF.fk h.wT ?_ ?_ fun k x hk9' hk => ?_
    · rw [uM_ne _ _ _ (by decide), uM_ne _ _ _ (by decide), uM_ne _ _ _ (by decide), ks_kept fk rfl (by decide), e 239 (by omega)]
    · rw [uM_ne _ _ _ (by decide), uM_ne _ _ _ (by decide), uM_ne _ _ _ (by decide), ks_kept fk rfl (by decide), e 239 (by omega)]
    · have hk9 : k ≠ 239 := hk.2.2.2.2.2
      rw [of k hk9, fk.1 k x hk, reB_off hk9, e k (by omega)]
  · rw [of 184 (by decide), lo 184 (by decide), uM_eq]
  · rw [of 184 (by decide), lo 184 (by decide), uM_ne _ _ _ (by decide), uM_ne _ _ _ (by decide), uM_ne _ _ _ (by decide), uM_eq]
    exact e2
  · rw [of 184 (by decide), lo 184 (by decide), uM_ne _ _ _ (by decide), uM_ne _ _ _ (by decide), uM_eq]
    exact e3
end TEXT
