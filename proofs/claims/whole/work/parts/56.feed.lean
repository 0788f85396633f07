/-! ===== bytes come behind the tape; signings ===== -/
theorem b_ushr (n : Nat) (hn : n < 32) (x : Int32) {i : Nat} (hi : i < 32) : bt (ushr x (nI n)) i = (decide (n + i < 32) && bt x (n + i)) := by
  have hs : ((nI n).toUInt32 &&& Int32.toUInt32 31).toBitVec.toNat % 32 = n := (by decide +kernel : ∀ n, n < 32 → ((nI n).toUInt32 &&& Int32.toUInt32 31).toBitVec.toNat % 32 = n) n hn
  unfold bt ushr
  show (x.toBitVec >>> (((nI n).toUInt32 &&& Int32.toUInt32 31).toBitVec % 32)).getLsbD i = _
  rw [BitVec.ushiftRight_eq', BitVec.getLsbD_ushiftRight]
  have e : (((nI n).toUInt32 &&& Int32.toUInt32 31).toBitVec % 32).toNat = n := by
    rw [BitVec.toNat_umod]
    exact hs
  rw [e]
  by_cases c : n + i < 32
  · simp [c]
  · simp [c, BitVec.getLsbD_of_ge _ _ (by omega : 32 ≤ n + i)]
theorem b_255 : ∀ i, i < 32 → bt (255 : Int32) i = decide (i < 8) := by decide +kernel
theorem byt_eq {s : Nat} (hs : s ≤ 24) (x : Int32) : shr x (nI s) &&& 255 = ushr x (nI s) &&& 255 := by
  refine b_ext fun i hi => ?_
  rw [b_and, b_and, b_255 i hi, b_ushr s (by omega) x hi]
  unfold shr
  rw [b_sshr s (by omega) x hi]
  by_cases c : i < 8
  · rw [if_pos (by omega)]; simp [show s + i < 32 by omega]
  · simp [c]
theorem byt_lt (x : Int32) : (x &&& 255).toBitVec.toNat < 256 := by
  obtain ⟨j, hj, e⟩ := pk_andE x (m := 255) 8 (by decide +kernel)
  rw [e, pk_tn (by omega)]
  exact hj
/-- four bytes behind a row -/
def ap4 (g : Nat → Int32) (n : Nat) (x : Int32) : Nat → Int32 := upd (upd (upd (upd g n (ushr x (nI 24) &&& 255)) (n + 1) (ushr x (nI 16) &&& 255)) (n + 2) (ushr x (nI 8) &&& 255)) (n + 3) (ushr x (nI 0) &&& 255)
theorem ap4_at (g : Nat → Int32) (n : Nat) (x : Int32) (i : Nat) : (i < n → ap4 g n x i = g i) ∧ (n ≤ i → i < n + 4 → (ap4 g n x i).toBitVec.toNat < 256) := by
  unfold ap4
  refine ⟨fun h => by rw [up_ne _ _ (by omega), up_ne _ _ (by omega), up_ne _ _ (by omega), up_ne _ _ (by omega)], fun h1 h2 => ?_⟩
  by_cases c3 : i = n + 3
  · rw [c3, up_eq]; exact byt_lt _
  · rw [up_ne _ _ c3]
    by_cases c2 : i = n + 2
    · rw [c2, up_eq]; exact byt_lt _
    · rw [up_ne _ _ c2]
      by_cases c1 : i = n + 1
      · rw [c1, up_eq]; exact byt_lt _
      · rw [up_ne _ _ c1, show i = n by omega, up_eq]; exact byt_lt _
theorem C_add1 {A : Mm} {n : Nat} (h1 : A 184 1 = nI n) (hn : n < 400) (x : Int32) {s s' : Int32} (h0 : ¬ s < 0) (e : s + -8 = s') (k3 : Int32 → Int32 → Mm → Option Mm) : f_X5_add_3b k3 x s A = k3 x s' (uM (uM A 185 n (ushr x s &&& 255)) 184 1 (nI (n + 1))) := by
  simp only [f_X5_add_3b, nm]
  rw [if_neg h0, h1, nI_lit 400, if_pos ((nI_ltI (by omega) (by omega)).mpr hn), gd_t (by omega) (by omega), ix_nI (by omega), uM_off _ _ _ (by decide : (184 : Nat) ≠ 185), h1, nI_1, e]
theorem C_add {A : Mm} {n : Nat} (h1 : A 184 1 = nI n) (hn : n + 4 ≤ 400) (x : Int32) : ∃ A', f_X5_add x A = some A' ∧ A' 184 1 = nI (n + 4) ∧ A' 185 = ap4 (A 185) n x ∧ (∀ i, i ≠ 1 → A' 184 i = A 184 i) ∧ ∀ k, k ≠ 184 → k ≠ 185 → A' k = A k := by
  unfold f_X5_add
  show ∃ A', f_X5_add_3b (f_X5_add_3 9999) x (nI 24) A = some A' ∧ _
  rw [C_add1 h1 (by omega) x (by decide +kernel) (by decide +kernel : nI 24 + -8 = nI 16)]
  show ∃ A', f_X5_add_3b (f_X5_add_3 9998) x (nI 16) _ = some A' ∧ _
  rw [C_add1 (uM_eq _ _ _ _) (by omega) x (by decide +kernel) (by decide +kernel : nI 16 + -8 = nI 8)]
  show ∃ A', f_X5_add_3b (f_X5_add_3 9997) x (nI 8) _ = some A' ∧ _
  rw [C_add1 (uM_eq _ _ _ _) (by omega) x (by decide +kernel) (by decide +kernel : nI 8 + -8 = nI 0)]
  show ∃ A', f_X5_add_3b (f_X5_add_3 9996) x (nI 0) _ = some A' ∧ _
  rw [C_add1 (uM_eq _ _ _ _) (by omega) x (by decide +kernel) (by decide +kernel : nI 0 + -8 = -8)]
  refine ⟨_, rfl, uM_eq _ _ _ _, ?_, fun i hi => ?_, fun k p q => ?_⟩
  · rw [uM_off _ _ _ (by decide), uM_row, uM_off _ _ _ (by decide), uM_row, uM_off _ _ _ (by decide), uM_row, uM_off _ _ _ (by decide), uM_row]
    rfl
  · rw [uM_ne _ _ _ hi, uM_off _ _ _ (by decide), uM_ne _ _ _ hi, uM_off _ _ _ (by decide), uM_ne _ _ _ hi, uM_off _ _ _ (by decide), uM_ne _ _ _ hi, uM_off _ _ _ (by decide)]
  · rw [uM_off _ _ _ p, uM_off _ _ _ q, uM_off _ _ _ p, uM_off _ _ _ q, uM_off _ _ _ p, uM_off _ _ _ q, uM_off _ _ _ p, uM_off _ _ _ q]
theorem F_typ1 {B : Mm} {n : Nat} (h1 : B 239 16 = nI n) (hn : n < 400) (x : Int32) {s : Nat} {s' : Int32} (hs : s ≤ 24) (e : nI s + -8 = s') (k3 : Int32 → Int32 → Mm → Option Mm) : f_X11_types_3b k3 x (nI s) B = k3 x s' (uM (uM B 250 n (ushr x (nI s) &&& 255)) 239 16 (nI (n + 1))) := by
  simp only [f_X11_types_3b, nm]
  rw [if_neg (nI_pos (by omega)), h1, gd_t (by omega) (by omega), ix_nI (by omega), uM_off _ _ _ (by decide : (239 : Nat) ≠ 250), h1, nI_1, e, byt_eq hs]
theorem F_types {B : Mm} {n : Nat} (h1 : B 239 16 = nI n) (hn : n + 4 ≤ 400) (x : Int32) : ∃ B', f_X11_types x B = some B' ∧ B' 239 16 = nI (n + 4) ∧ B' 250 = ap4 (B 250) n x ∧ (∀ i, i ≠ 16 → B' 239 i = B 239 i) ∧ ∀ k, k ≠ 239 → k ≠ 250 → B' k = B k := by
  unfold f_X11_types
  show ∃ A', f_X11_types_3b (f_X11_types_3 9999) x (nI 24) B = some A' ∧ _
  rw [F_typ1 h1 (by omega) x (by omega) (by decide +kernel : nI 24 + -8 = nI 16)]
  show ∃ A', f_X11_types_3b (f_X11_types_3 9998) x (nI 16) _ = some A' ∧ _
  rw [F_typ1 (uM_eq _ _ _ _) (by omega) x (by omega) (by decide +kernel : nI 16 + -8 = nI 8)]
  show ∃ A', f_X11_types_3b (f_X11_types_3 9997) x (nI 8) _ = some A' ∧ _
  rw [F_typ1 (uM_eq _ _ _ _) (by omega) x (by omega) (by decide +kernel : nI 8 + -8 = nI 0)]
  show ∃ A', f_X11_types_3b (f_X11_types_3 9996) x (nI 0) _ = some A' ∧ _
  rw [F_typ1 (uM_eq _ _ _ _) (by omega) x (by omega) (by decide +kernel : nI 0 + -8 = -8)]
  refine ⟨_, rfl, uM_eq _ _ _ _, ?_, fun i hi => ?_, fun k p q => ?_⟩
  · rw [uM_off _ _ _ (by decide), uM_row, uM_off _ _ _ (by decide), uM_row, uM_off _ _ _ (by decide), uM_row, uM_off _ _ _ (by decide), uM_row]
    rfl
  · rw [uM_ne _ _ _ hi, uM_off _ _ _ (by decide), uM_ne _ _ _ hi, uM_off _ _ _ (by decide), uM_ne _ _ _ hi, uM_off _ _ _ (by decide), uM_ne _ _ _ hi, uM_off _ _ _ (by decide)]
  · rw [uM_off _ _ _ p, uM_off _ _ _ q, uM_off _ _ _ p, uM_off _ _ _ q, uM_off _ _ _ p, uM_off _ _ _ q, uM_off _ _ _ p, uM_off _ _ _ q]
theorem ap4_same {g g' : Nat → Int32} {n : Nat} (h : ∀ i, i < n → g i = g' i) (x : Int32) : ∀ i, i < n + 4 → ap4 g n x i = ap4 g' n x i := by
  intro i hi
  unfold ap4
  by_cases c3 : i = n + 3
  · rw [c3, up_eq, up_eq]
  · rw [up_ne _ _ c3, up_ne _ _ c3]
    by_cases c2 : i = n + 2
    · rw [c2, up_eq, up_eq]
    · rw [up_ne _ _ c2, up_ne _ _ c2]
      by_cases c1 : i = n + 1
      · rw [c1, up_eq, up_eq]
      · rw [up_ne _ _ c1, up_ne _ _ c1]
        by_cases c0 : i = n
        · rw [c0, up_eq, up_eq]
        · rw [up_ne _ _ c0, up_ne _ _ c0]; exact h i (by omega)
section FEED
variable {S : Mm} {P : PP} {D : DD} {T : TT} {W : Nat → Int32} {E : RE}
theorem op_feed (x1 x2 x3 x4 x5 : Int32) (h : RR S P D T W E) : Good (f_X10_feed x1 x2 x3 x4 x5) (f_X11_feed x1 x2 x3 x4 x5) S := by
  have h0 := h.C.1
  obtain ⟨c1, c2, c3, c4⟩ := h.1.2.2.2
  obtain ⟨b1, b2, b3, b4⟩ := h.2.1.2.2.2.1
  obtain ⟨w1, w2⟩ := h.2.2.2.2.2
  obtain ⟨n, hn⟩ : ∃ n, n = E.2.2.1 := ⟨_, rfl⟩
  rw [← hn] at c1 b1 w1
  by_cases c : n + 20 ≤ 400
  · obtain ⟨A1, e1, p1, q1, r1, s1⟩ := C_add c1 (by omega) x1
    obtain ⟨A2, e2, p2, q2, r2, s2⟩ := C_add p1 (by omega) x2
    obtain ⟨A3, e3, p3, q3, r3, s3⟩ := C_add p2 (by omega) x3
    obtain ⟨A4, e4, p4, q4, r4, s4⟩ := C_add p3 (by omega) x4
    obtain ⟨A5, e5, p5, q5, r5, s5⟩ := C_add p4 (by omega) x5
    have fr : ∀ k, k ≠ 184 → k ≠ 185 → A5 k = S k := fun k a b => by rw [s5 k a b, s4 k a b, s3 k a b, s2 k a b, s1 k a b]
    have fr2 : ∀ i, i ≠ 1 → A5 184 i = S 184 i := fun i a => by rw [r5 i a, r4 i a, r3 i a, r2 i a, r1 i a]
    have f16 : A5 239 16 = nI n := by rw [fr _ (by decide) (by decide)]; exact b1
    obtain ⟨B1, g1, t1, u1, v1, z1⟩ := F_types f16 (by omega) x1
    obtain ⟨B2, g2, t2, u2, v2, z2⟩ := F_types t1 (by omega) x2
    obtain ⟨B3, g3, t3, u3, v3, z3⟩ := F_types t2 (by omega) x3
    obtain ⟨B4, g4, t4, u4, v4, z4⟩ := F_types t3 (by omega) x4
    obtain ⟨B5, g5, t5, u5, v5, z5⟩ := F_types t4 (by omega) x5
    have gr : ∀ k, k ≠ 239 → k ≠ 250 → B5 k = A5 k := fun k a b => by rw [z5 k a b, z4 k a b, z3 k a b, z2 k a b, z1 k a b]
    have gr2 : ∀ i, i ≠ 16 → B5 239 i = A5 239 i := fun i a => by rw [v5 i a, v4 i a, v3 i a, v2 i a, v1 i a]
    have same : ∀ i, i < n + 4 + 4 + 4 + 4 + 4 → A5 185 i = B5 250 i := by
      rw [q5, q4, q3, q2, q1, u5, u4, u3, u2, u1]
      refine ap4_same (ap4_same (ap4_same (ap4_same (ap4_same (fun i hi => ?_) x1) x2) x3) x4) x5
      rw [c4 i (by omega), fr _ (by decide) (by decide), b4 i (by omega)]
    refine Good.ex (r := nI (n + 4 + 4 + 4 + 4 + 4)) (S1 := A5) (S2 := B5) ?_ ?_ ?_
    · simp only [f_X10_feed]
      rw [c1, nI_lit 20, nI_lit 400, nI_add, if_pos (nI_ge_t (by omega) (by omega)), e1]
      simp only [Option.bind_some]
      rw [e2]
      simp only [Option.bind_some]
      rw [e3]
      simp only [Option.bind_some]
      rw [e4]
      simp only [Option.bind_some]
      rw [e5]
      simp only [Option.bind_some]
      rw [p5]
    · simp only [f_X11_feed, nm, uM_id (show A5 239 0 = 0 by rw [fr _ (by decide) (by decide)]; exact h0)]
      rw [f16, nI_lit 380, if_pos (nI_ge_t (by omega) (by omega)), g1]
      simp only [Option.bind_some]
      rw [g2]
      simp only [Option.bind_some]
      rw [g3]
      simp only [Option.bind_some]
      rw [g4]
      simp only [Option.bind_some]
      rw [g5]
      simp only [Option.bind_some]
      rw [t5]
    · refine h.tape (S1 := A5) (S2 := B5) (a' := (n + 4 + 4 + 4 + 4 + 4, fun i => (A5 185 i).toBitVec.toNat, E.2.2.2.2)) fr ⟨p5, by rw [fr2 _ (by decide)]; exact c2, by rw [fr2 _ (by decide)]; exact c3, fun i hi => (nI_tn _).symm⟩ gr (fun i _ hi => gr2 i hi) ⟨t5, by rw [gr2 _ (by decide), fr _ (by decide) (by decide)]; exact b2, by rw [gr2 _ (by decide), fr _ (by decide) (by decide)]; exact b3, fun i hi => by rw [← same i hi]; exact (nI_tn _).symm⟩ ⟨by show n + 4 + 4 + 4 + 4 + 4 ≤ 400; omega, fun i hi => ?_⟩
      show (A5 185 i).toBitVec.toNat < 256
      have hi : i < n + 4 + 4 + 4 + 4 + 4 := hi
      rw [q5]
      by_cases k5 : n + 4 + 4 + 4 + 4 ≤ i
      · exact (ap4_at _ _ _ _).2 k5 hi
      · rw [(ap4_at _ _ _ _).1 (by omega), q4]
        by_cases k4 : n + 4 + 4 + 4 ≤ i
        · exact (ap4_at _ _ _ _).2 k4 (by omega)
        · rw [(ap4_at _ _ _ _).1 (by omega), q3]
          by_cases k3 : n + 4 + 4 ≤ i
          · exact (ap4_at _ _ _ _).2 k3 (by omega)
          · rw [(ap4_at _ _ _ _).1 (by omega), q2]
            by_cases k2 : n + 4 ≤ i
            · exact (ap4_at _ _ _ _).2 k2 (by omega)
            · rw [(ap4_at _ _ _ _).1 (by omega), q1]
              by_cases k1 : n ≤ i
              · exact (ap4_at _ _ _ _).2 k1 (by omega)
              · rw [(ap4_at _ _ _ _).1 (by omega), c4 i (by omega), pk_tn (by have := w2 i (by omega); omega)]
                exact w2 i (by omega)
  · refine good_id h (r := -1) ?_ ?_
    · simp only [f_X10_feed]
      rw [c1, nI_lit 20, nI_lit 400, nI_add, if_neg (nI_ge_f (by omega) (by omega))]
    · simp only [f_X11_feed, nm, uM_id h0]
      rw [b1, nI_lit 380, if_neg (nI_ge_f (by omega) (by omega))]
theorem sub_liv {y : Int32} (hN : pN P ≤ 12) (h : y &&& (livS P D ^^^ (-1)) = 0) : ∃ i, i < 2 ^ pN P ∧ y = nI i := by
  refine ⟨y.toBitVec.toNat, ?_, (nI_tn y).symm⟩
  apply Nat.lt_pow_two_of_testBit
  intro j hj
  have e : y.toBitVec.toNat.testBit j = bt y j := by
    unfold bt
    rfl
  rw [e]
  by_cases c : j < 32
  · have := (i32_0.mp h) j c
    rw [b_and, bt_not _ c, bt_livS c] at this
    have l : liv P D j = false := by unfold liv; simp; omega
    rw [l] at this
    simpa using this
  · exact b_big (by omega)
theorem op_sign (x y : Int32) (h : RR S P D T W E) : Good (f_X10_sign x y) (f_X11_sign x y) S := by
  have hN := h.wP.1
  have hn := h.wT.1.1
  have h0 := h.C.1
  rcases nI_cs x (n := tDn T) (by omega) with hx | ⟨d, hd, rfl⟩
  · refine good_id h (r := -1) ?_ ?_
    · simp only [f_X10_sign, C_isDeed0 h.TK hx, Option.bind_some, if_true]
    · simp only [f_X11_sign, nm, uM_id h0, F_isDeed0 h.TF hx, Option.bind_some, if_true]
  · have hp := pow_N hN
    by_cases c : y ≠ 0 ∧ y &&& (livS P D ^^^ (-1)) = 0
    · obtain ⟨i, hi, rfl⟩ := sub_liv hN c.2
      have i0 : i ≠ 0 := fun e => c.1 (by rw [e]; rfl)
      obtain ⟨A1, e1, a1, a2, a3, a4, a5⟩ := act_C h
      have k3 : RK (fun j => uM A1 14 d (nI i) (1 + j)) P (sSg D d (nI i) (dFg D d) (dSo D d)) := by
        have := RKc_sg a1 d (nI i) (dFg D d) (dSo D d)
        rw [uM_id (S := uM A1 (1 + 13) d (nI i)) (a := 1 + 14) (i := d) (v := dFg D d) (by rw [uM_off _ _ _ (by decide)]; exact (k1d a1 (by omega)).2.1), uM_id (S := uM A1 (1 + 13) d (nI i)) (a := 1 + 15) (i := d) (v := dSo D d) (by rw [uM_off _ _ _ (by decide)]; exact (k1d a1 (by omega)).2.2)] at this
        exact this
      have wd3 : WFD P (sSg D d (nI i) (dFg D d) (dSo D d)) := h.wD
      obtain ⟨f, e2, hf⟩ := C_ask (c := 1) (by decide : 1 ∈ clanL) k3 h.wP wd3
      have tg := C_together (A := rM (uM A1 14 d (nI i)) 182 f) h.wP (fun q hq => by rw [rM_same]; exact hf q hq) (nI i)
      rw [tog_congr (D' := sSg D d (nI i) (dFg D d) (dSo D d)) (D := D) (fun q l => can_congr (D := D) (D' := sSg D d (nI i) (dFg D d) (dSo D d)) (fun _ => rfl) (fun _ => rfl) (fun _ => rfl) (fun _ => rfl) q l)] at tg
      obtain ⟨F, hF⟩ : ∃ F, F = tDs T d &&& (togS P D (nI i) ^^^ (-1)) := ⟨_, rfl⟩
      have s31 : uM A1 14 d (nI i) 31 d = tDs T d := by rw [uM_off _ _ _ (by decide), a5 _ (by omega)]; exact (t17d h.TK hd).2.1
      obtain ⟨S1, hS1⟩ : ∃ S1, S1 = uM (uM (rM (uM A1 14 d (nI i)) 182 f) 15 d F) 16 d (nI (dDay D)) := ⟨_, rfl⟩
      have off : ∀ k, k ≠ 14 → k ≠ 15 → k ≠ 16 → k ≠ 182 → S1 k = A1 k := fun k p q r s => by rw [hS1, uM_off _ _ _ r, uM_off _ _ _ q, rM_off _ _ s, uM_off _ _ _ p]
      have fr : ∀ k, 239 ≤ k → S1 k = S k := fun k hk => by rw [off k (by omega) (by omega) (by omega) (by omega), a5 k (by omega)]
      obtain ⟨⟨hB, hTF, hC⟩, B1, u1, d1, d2, d3, d4, d5⟩ := act_F h fr
      obtain ⟨g, u2, hg⟩ := F_findsHands d1 h.wP h.wD
      have hd' : ∀ v, f_X11_handOf (nI i) (uM (rM B1 267 g) 240 (124 + d) v) = some (togS P D (nI i), uM (rM B1 267 g) 240 (124 + d) v) := fun v => F_handOf (d1.1.congr (by rw [uM_off _ _ _ (by decide), rM_off _ _ (by decide)]) (by rw [uM_off _ _ _ (by decide), rM_off _ _ (by decide)]) fun k p q => by rw [uM_off _ _ _ (by omega), rM_off _ _ (by omega)]) h.wP (fun q hq => by rw [uM_off _ _ _ (by decide), rM_same]; exact hg q hq) (nI i)
      have s263 : ∀ v, uM (rM B1 267 g) 240 (124 + d) v 263 d = tDs T d := fun v => by rw [uM_off _ _ _ (by decide), rM_off _ _ (by decide), d4 _ (by decide) (by decide)]; exact (hTF.2.2.2.2 d hd).2.1
      obtain ⟨S2, hS2⟩ : ∃ S2, S2 = uM (uM (uM (rM B1 267 g) 240 (124 + d) (nI i)) 240 (132 + d) F) 240 (140 + d) (nI (dDay D) + 1) := ⟨_, rfl⟩
      have off2 : ∀ k, k ≠ 240 → k ≠ 267 → S2 k = B1 k := fun k p q => by rw [hS2, uM_off _ _ _ p, uM_off _ _ _ p, uM_off _ _ _ p, rM_off _ _ q]
      refine Good.ex (r := F) (S1 := S1) (S2 := S2) ?_ ?_ ?_
      · simp only [f_X10_sign, C_isDeed1 h.TK hn hd, Option.bind_some, i10, if_false]
        rw [if_neg c.1, (k1s h.K).2.2.2.2, if_pos c.2, e1]
        simp only [Option.bind_some, nm]
        rw [gd_t (by omega) (by omega), ix_nI (by omega), gd_t (by omega) (by omega)]
        simp only [f_X7_writableTogether]
        rw [e2]
        simp only [Option.bind_some]
        rw [tg]
        simp only [Option.bind_some]
        rw [s31, ← hF, gd_t (by omega) (by omega), gd_t (by omega) (by omega), uM_off (rM (uM A1 14 d (nI i)) 182 f) d F (by decide : (1 : Nat) ≠ 15), rM_off _ _ (by decide : (1 : Nat) ≠ 182), uM_off A1 d (nI i) (by decide : (1 : Nat) ≠ 14), (k1s a1).2.1]
        rw [gd_t (by omega) (by omega), ← hS1, hS1, uM_off _ _ _ (by decide : (15 : Nat) ≠ 16), uM_eq]
      · have al : f_X11_areLiving (nI i) S1 = some (1, S1) := by
          unfold f_X11_areLiving f_X11_areLiving_29
          rw [if_neg (show ¬ nI i ≤ 0 from nI_ge_f (b := 0) (by omega) (by omega)), hB.1.1.1, shl_pow _ (by omega), if_neg (nI_ge_f hi (by omega)), if_pos ((dead_out hB h.wP hi).mpr c.2)]
        simp only [f_X11_sign, nm, uM_id hC.1, F_isDeed1 hTF hn hd, Option.bind_some, i10, if_false, al, u1]
        rw [u2]
        simp only [Option.bind_some]
        rw [nI_lit 124, nI_lit 132, nI_lit 140, nI_add, nI_add, nI_add, gd_t (by omega) (by omega), gd_t (by omega) (by omega), ix_nI (by omega), ix_nI (by omega), ix_nI (by omega), ix_nI (by omega), hd']
        simp only [Option.bind_some]
        rw [s263, ← hF, gd_t (by omega) (by omega), gd_t (by omega) (by omega)]
        have r0 : uM (uM (rM B1 267 g) 240 (124 + d) (nI i)) 240 (132 + d) F 240 0 = nI (dDay D) := by rw [uM_ne _ _ _ (by omega), uM_ne _ _ _ (by omega), rM_off _ _ (by decide)]; exact d1.2.1.1.1
        rw [r0, gd_t (by omega) (by omega), ← hS2, hS2, uM_ne _ _ _ (by omega), uM_eq]
      · refine h.act2 (D' := sSg D d (nI i) F (nI (dDay D))) (W' := W) (fun k hk => by rw [off k (by omega) (by omega) (by omega) (by omega), a5 k (by omega)]) ?_ (by rw [off _ (by decide) (by decide) (by decide) (by decide)]; exact a2) (fun i hi => by rw [off _ (by decide) (by decide) (by decide) (by decide)]; exact a3 i hi) (a4.congr fun k _ _ => off k (by omega) (by omega) (by omega) (by omega)) (fun k hk => by rw [off2 k (by omega) (by omega), d4 k (by omega) (by omega)]) (fun k hk => by rw [off2 k (by omega) (by omega), d4 k (by omega) (by omega)]) (fun i _ hi => by rw [off2 _ (by decide) (by decide), d5 i hi]) ?_ (fun i hi => by rw [off2 _ (by decide) (by decide)]; exact d2 i hi) (d3.congr (by rw [off2 _ (by decide) (by decide)]) (off2 _ (by decide) (by decide))) ?_ (Nat.le_refl _)
        · refine (RKc_sg a1 d (nI i) F (nI (dDay D))).congr fun j hj => ?_
          rw [hS1]
          funext z
          rw [uM_at, uM_at, uM_at, uM_at]
          by_cases c1 : 1 + j = 16 ∧ z = d
          · rw [if_pos c1, if_pos c1]
          · rw [if_neg c1, if_neg c1]
            by_cases c2 : 1 + j = 15 ∧ z = d
            · rw [if_pos c2, if_pos c2]
            · rw [if_neg c2, if_neg c2, rM_off _ _ (by omega)]
        · refine d1.upd (D' := sSg D d (nI i) F (nI (dDay D))) ?_ (fun _ => rfl) (by rw [off2 _ (by decide) (by decide)]) (by rw [off2 _ (by decide) (by decide)]) fun k _ _ _ => off2 k (by omega) (by omega)
          rw [hS2, uM_row, uM_row, uM_row, rM_off _ _ (by decide)]
          exact RW_sg d1.2.1 hN (by omega) rfl
        · obtain ⟨w1, w2, w3, w4, w5, w6⟩ := h.2.2.1
          refine ⟨w1, w2, w3, w4, w5, fun d' h1 h2 => ?_⟩
          have ne : d' ≠ d := by omega
          show un D.2 4 d (nI i) 4 d' = 0 ∧ un (un D.2 4 d (nI i)) 5 d F 5 d' = 0 ∧ un (un (un D.2 4 d (nI i)) 5 d F) 6 d (nI (dDay D)) 6 d' = -1
          rw [un_ne _ _ _ ne, un_ne _ _ _ ne, un_ne _ _ _ ne]
          exact w6 d' h1 h2
    · refine good_id h (r := -1) ?_ ?_
      · simp only [f_X10_sign, C_isDeed1 h.TK hn hd, Option.bind_some, i10, if_false]
        by_cases c1 : y = 0
        · rw [if_pos c1]
        · rw [if_neg c1, (k1s h.K).2.2.2.2, if_neg (fun e => c ⟨c1, e⟩)]
      · have al : f_X11_areLiving y S = some (0, S) := by
          unfold f_X11_areLiving f_X11_areLiving_29
          by_cases k1 : y ≤ 0
          · rw [if_pos k1]
          · rw [if_neg k1, h.B.1.1.1, shl_pow _ (by omega)]
            by_cases k2 : nI (2 ^ pN P) ≤ y
            · rw [if_pos k2]
            · rw [if_neg k2]
              have y0 : ¬ y < 0 := fun e => k1 (by
                have a1 := Int32.lt_iff_toInt_lt.mp e
                exact Int32.le_iff_toInt_le.mpr (by omega))
              obtain ⟨i, hi, rfl⟩ := nI_of y0
              have hi2 : i < 2 ^ pN P := by
                rw [nI_leI (by omega) (by omega)] at k2
                omega
              rw [if_neg]
              intro e
              refine c ⟨fun z => k1 (by rw [z]; decide), (dead_out h.B h.wP hi2).mp e⟩
        simp only [f_X11_sign, nm, uM_id h0, F_isDeed1 h.TF hn hd, Option.bind_some, i10, if_false, al, if_true]
end FEED
