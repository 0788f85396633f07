/-! ===== the first day on which someone can write a deed ===== -/
theorem pd_th (P : PP) (T : TT) (q : Nat) (s : (DD × (Nat → Int32)) × Nat) : dLn (pdS P T true q s).1.1 = dLn s.1.1 ∧ (pdS P T true q s).1.2 = s.1.2 := by
  have e : drD P true q s.1.1 = s.1.1 := if_neg (by unfold drP; simp)
  unfold pdS
  split
  · split
    · obtain ⟨d1, d2⟩ := dieM_th P T q (sDies (drD P true q s.1.1) q (nI (dDay s.1.1))) s.1.2
      refine ⟨d1.trans ?_, d2⟩
      rw [e]
    · rw [e]
      exact ⟨rfl, rfl⟩
  · exact ⟨rfl, rfl⟩
theorem dayM_th (P : PP) (T : TT) (D : DD) (W : Nat → Int32) : dLn (dayM P T true D W).1.1 = dLn D ∧ (dayM P T true D W).1.2 = W := by
  have h1 := ff_ind (step := elS) (fun _ x => dLn x = dLn D) 28 0 (sDay D (dDay D + 1)) rfl (fun i s _ _ z => by
    unfold elS
    split
    · exact z
    · exact z)
  unfold dayM
  revert h1
  generalize ff elS 0 28 (sDay D (dDay D + 1)) = X
  intro h1
  exact ff_ind (step := pdS P T true) (fun _ x => dLn x.1.1 = dLn D ∧ x.1.2 = W) (pN P) 0 ((X, W), 0) ⟨h1, rfl⟩ (fun i s _ _ z => ⟨(pd_th P T i s).1.trans z.1, (pd_th P T i s).2.trans z.2⟩)
theorem die_dead {P : PP} {T : TT} {th : Bool} {p q : Nat} {D : DD} {W : Nat → Int32} (h : dDead D q ≠ 0) : dDead (dieM P T th p D W).1 q ≠ 0 := by
  obtain ⟨-, s2, -⟩ := dieL_same P T th p D W
  have s2 := s2 q
  rw [dead_at] at s2
  unfold dieM
  generalize dieL P T th p D W = s at s2 ⊢
  have k : dDead s.1 q ≠ 0 := by
    rw [s2]
    split
    · decide
    · exact h
  split
  · exact k
  · exact k
theorem day_dead {P : PP} {T : TT} {th : Bool} {q : Nat} {D : DD} {W : Nat → Int32} (h : dDead D q ≠ 0) : dDead (dayM P T th D W).1.1 q ≠ 0 := by
  have h1 := ff_ind (step := elS) (fun _ x => dDead x q ≠ 0) 28 0 (sDay D (dDay D + 1)) h (fun i s _ _ z => by
    unfold elS
    split
    · exact z
    · exact z)
  unfold dayM
  revert h1
  generalize ff elS 0 28 (sDay D (dDay D + 1)) = X
  intro h1
  refine ff_ind (step := pdS P T th) (fun _ x => dDead x.1.1 q ≠ 0) (pN P) 0 ((X, W), 0) h1 (fun i s _ _ z => ?_)
  unfold pdS
  split
  · split
    · refine die_dead ?_
      show dDead (drD P th i s.1.1) q ≠ 0
      rw [drD_dead]; exact z
    · show dDead (drD P th i s.1.1) q ≠ 0
      rw [drD_dead]; exact z
  · exact z
def fdM (P : PP) (T : TT) (W : Nat → Int32) (x : Int32) (q : Nat) : Nat → DD → Int32
  | 0, _ => -1
  | d + 1, D => if x &&& (letS P D q ^^^ (-1)) = 0 then nI (dDay D) else fdM P T W x q d (dayM P T true D W).1.1
theorem and_n0 (x : Int32) : x &&& ((0 : Int32) ^^^ (-1)) = x := by
  apply b_ext
  intro i hi
  rw [b_and, bt_not _ hi, b_0]
  simp
theorem fdM_dead {P : PP} {T : TT} {W : Nat → Int32} {x : Int32} {q : Nat} (hx : x ≠ 0) : ∀ d D, dDead D q ≠ 0 → fdM P T W x q d D = -1 := by
  intro d
  induction d with
  | zero => intro D _; rfl
  | succ d ih =>
    intro D h
    unfold fdM
    rw [letS_0 (by unfold liv; simp [h]), and_n0, if_neg hx]
    exact ih _ (day_dead h)
section WHEN
variable {P : PP} {D : DD} {T : TT} {W : Nat → Int32}
theorem C_first (hP : WFP P) (hw : WFT (pN P) T) {q : Nat} (hq : q < pN P) (x : Int32) : ∀ (d n fuel : Nat) (A : Mm) (D : DD), n + d = 401 → d < fuel → RK (fun j => A (166 + j)) P D → RTK (fun j => A (17 + j)) T → wdP P D → bkC true A D W → ∃ A', f_X7_firstDay_13 fuel (nI q) x (nI n) A = some (fdM P T W x q d D, A') ∧ (A' 32 1 = nI (dLn D) ∧ ∀ i, i < 5 * dLn D → A' 33 i = W i) ∧ ∀ k, k < 166 ∨ 182 ≤ k → k ≠ 23 → k ≠ 24 → k ≠ 32 → k ≠ 33 → A' k = A k := by
  have hN := hP.1
  intro d
  induction d with
  | zero =>
    intro n fuel A D h1 h2 hK hT hD hb
    cases fuel with
    | zero => omega
    | succ fu =>
      have e : n = 401 := by omega
      subst e
      refine ⟨A, ?_, hb.2, fun _ _ _ _ _ _ => rfl⟩
      show f_X7_firstDay_13b (f_X7_firstDay_13 fu) (nI q) x (nI 401) A = _
      unfold f_X7_firstDay_13b
      rw [if_pos (show (400 : Int32) < nI 401 from (nI_ltI (a := 400) (b := 401) (by omega) (by omega)).mpr (by omega))]
      rfl
  | succ d ih =>
    intro n fuel A D h1 h2 hK hT hD hb
    cases fuel with
    | zero => omega
    | succ fu =>
      show ∃ A', f_X7_firstDay_13b (f_X7_firstDay_13 fu) (nI q) x (nI n) A = _ ∧ _
      unfold f_X7_firstDay_13b
      rw [if_neg (show ¬ (400 : Int32) < nI n from fun e => by have := (nI_ltI (a := 400) (b := n) (by omega) (by omega)).mp e; omega), C_writableBy hK hP hD.1 (by omega)]
      simp only [bind_x]
      unfold fdM
      by_cases c : x &&& (letS P D q ^^^ (-1)) = 0
      · rw [if_pos c, if_pos c]
        exact ⟨A, by rw [show A 166 1 = nI (dDay D) from hK.1.2.1], hb.2, fun _ _ _ _ _ _ => rfl⟩
      · rw [if_neg c, if_neg c]
        obtain ⟨A1, e1, g1, g2, g3⟩ := C_endDay_n (c := 166) (A := A) (W := W) (show (166 : Nat) ∈ clanL by decide) hK hT hP hw hD hb
        obtain ⟨d1, d2⟩ := dayM_th P T D W
        have dk := (day_keep (th := true) (W := W) (T := T) hN hw hD).1
        rw [d2] at g2
        obtain ⟨A2, u1, u2, u3⟩ := ih (n + 1) fu A1 (dayM P T true D W).1.1 (by omega) (by omega) g1 (hT.congr fun j hj a b => g3 _ (by omega) (by omega) (by omega) (by omega) (by omega)) dk g2
        rw [d1] at u2
        refine ⟨A2, ?_, u2, fun k a b c e f => by rw [u3 k a b c e f, g3 k (by omega) b c e f]⟩
        rw [e1]
        simp only [bind_x]
        rw [nm_x, nI_1]
        exact u1
theorem F_when55 {B : Mm} (rec : Int32 → Int32 → Int32 → Int32 → Mm → Option (Int32 × Mm)) (h : RB B P D) (hT : RTF B T) (hw : WFT (pN P) T) (hP : WFP P) (hD : WFD P D) {q d n : Nat} (hq : q < pN P) (hd : d < tDn T) : f_X11_whenCan_55 rec (nI q) (nI d) (-1) (nI n) B = if tDs T d &&& (letS P D q ^^^ (-1)) = 0 then rec (nI q) (nI d) (nI (dDay D)) (nI (n + 1)) B else rec (nI q) (nI d) (-1) (nI (n + 1)) B := by
  have hN := hP.1
  have hn := hw.1.1
  have hx := (hw.2.2.2 d hd).2.1
  unfold f_X11_whenCan_55 f_X11_whenCan_84
  rw [F_doesLive h.2.1 hN hq]
  simp only [bind_x]
  by_cases l : liv P D q = true
  · rw [if_pos l, if_neg (by decide), gd_t (by omega) (by omega), ix_nI (by omega), show B 263 d = tDs T d from (hT.2.2.2.2 d hd).2.1]
    unfold f_X11_canWriteDeed
    rw [F_lettersOf h.1 h.2.1 h.2.2 hP hD hq]
    simp only [bind_x]
    by_cases c : tDs T d &&& (letS P D q ^^^ (-1)) = 0
    · rw [if_pos c, if_pos c]
      simp only [bind_x]
      rw [if_neg (by decide), nm_x, nm_x, nI_1, show B 240 0 = nI (dDay D) from h.2.1.1.1]
    · rw [if_neg c, if_neg c]
      simp only [bind_x]
      rw [if_pos trivial, nm_x, nI_1]
  · rw [if_neg l, if_pos rfl, nm_x, nI_1, letS_0 (eq_false_of_ne_true l), and_n0, if_neg hx]
theorem F_first (hP : WFP P) (hw : WFT (pN P) T) {q dd : Nat} (hq : q < pN P) (hd : dd < tDn T) : ∀ (d n fuel : Nat) (B : Mm) (D : DD), n + d = 400 → d + 2 ≤ fuel → dDay D ≤ 10000 + n → RB B P D → RTF B T → B 239 5 = 1 → wdP P D → rkF B D W → ∃ B', f_X11_whenCan_32 fuel (nI q) (nI dd) (-1) (nI (n + 1)) B = f_X11_whenCan_90 (fdM P T W (tDs T dd) q d (dayM P T true D W).1.1) B' ∧ RS B' P ∧ rkF B' D W ∧ (∀ k, k ≠ 239 → k ≠ 240 → k ≠ 248 → k ≠ 249 → k ≠ 265 → k ≠ 266 → B' k = B k) ∧ ∀ i, i ≠ 48 → B' 239 i = B 239 i := by
  have hN := hP.1
  intro d
  induction d with
  | zero =>
    intro n fuel B D h1 h2 hy hB hT h5 hD hb
    cases fuel with
    | zero => omega
    | succ fu =>
      have e : n = 400 := by omega
      subst e
      refine ⟨B, ?_, hB.1, hb, fun _ _ _ _ _ _ _ => rfl, fun _ _ => rfl⟩
      show f_X11_whenCan_32b (f_X11_whenCan_32 fu) (nI q) (nI dd) (-1) (nI 401) B = _
      unfold f_X11_whenCan_32b
      rw [if_pos (show (400 : Int32) < nI 401 from (nI_ltI (a := 400) (b := 401) (by omega) (by omega)).mpr (by omega))]
      rfl
  | succ d ih =>
    intro n fuel B D h1 h2 hy hB hT h5 hD hb
    cases fuel with
    | zero => omega
    | succ fu =>
      obtain ⟨d1, d2⟩ := dayM_th P T D W
      have dk0 := day_keep (th := true) (W := W) (T := T) hN hw hD
      have dk := dk0.1
      have hdy : dDay (dayM P T true D W).1.1 = dDay D + 1 := dk0.2.2.1
      obtain ⟨B1, e1, g1, g2, g3, g4⟩ := F_ends (B := B) (D := D) (W := W) (th := true) hB hT (by rw [h5]; rfl) hP hw hD hb
      have t1 : RTF B1 T := hT.congr (g4 _ (by decide)) (g4 _ (by decide)) fun k _ _ _ => g3 k (by omega) (by omega) (by omega) (by omega) (by omega) (by omega)
      have b1 : rkF B1 D W := fun i hi => by
        have := g2 i (by rw [d1]; exact hi)
        rw [d2] at this
        exact this
      have b2 : rkF B1 (dayM P T true D W).1.1 W := fun i hi => b1 i (by rw [d1] at hi; exact hi)
      show ∃ B', f_X11_whenCan_32b (f_X11_whenCan_32 fu) (nI q) (nI dd) (-1) (nI (n + 1)) B = _ ∧ _
      unfold f_X11_whenCan_32b
      rw [if_neg (show ¬ (400 : Int32) < nI (n + 1) from fun e => by have := (nI_ltI (a := 400) (b := n + 1) (by omega) (by omega)).mp e; omega), if_pos rfl, if_neg (show ¬ nI (n + 1) ≤ 0 from nI_ge_f (a := n + 1) (b := 0) (by omega) (by omega)), e1]
      simp only [bind_x]
      rw [F_when55 (f_X11_whenCan_32 fu) g1 t1 hw hP dk.1 hq hd]
      unfold fdM
      by_cases c : tDs T dd &&& (letS P (dayM P T true D W).1.1 q ^^^ (-1)) = 0
      · rw [if_pos c, if_pos c]
        refine ⟨B1, ?_, g1.1, b1, g3, g4⟩
        cases fu with
        | zero => omega
        | succ fv =>
          show f_X11_whenCan_32b (f_X11_whenCan_32 fv) (nI q) (nI dd) (nI (dDay (dayM P T true D W).1.1)) (nI (n + 1 + 1)) B1 = _
          unfold f_X11_whenCan_32b
          by_cases z : (400 : Int32) < nI (n + 1 + 1)
          · rw [if_pos z]
          · rw [if_neg z]
            rw [if_neg (of_eq_false (nI_n1 (by omega)))]
      · rw [if_neg c, if_neg c]
        obtain ⟨B2, u1, u2, u3, u4, u5⟩ := ih (n + 1) fu B1 (dayM P T true D W).1.1 (by omega) (by omega) (by omega) g1 t1 (by rw [g4 _ (by decide)]; exact h5) dk b2
        exact ⟨B2, u1, u2, fun i hi => u3 i (by rw [d1]; exact hi), fun k a b c e f g => by rw [u4 k a b c e f g, g3 k a b c e f g], fun i hi => by rw [u5 i hi, g4 i hi]⟩
end WHEN
section WHEN2
variable {S : Mm} {P : PP} {D : DD} {T : TT} {W : Nat → Int32} {E : RE}
theorem F_whenCan (h : RR S P D T W E) {q dd : Nat} (hq : q < pN P) (hd : dd < tDn T) : ∃ B, f_X11_whenCan (nI q) (nI dd) S = some (fdM P T W (tDs T dd) q 401 D, B) ∧ (∀ k, scr k = false → k ≠ 239 → k ≠ 240 → k ≠ 248 → k ≠ 249 → B k = S k) ∧ (∀ i, ks i = true → B 239 i = S 239 i) ∧ RB B P D ∧ rkF B D W := by
  have hN := h.wP.1
  have hn := h.wT.1.1
  obtain ⟨f4, e6, hf4⟩ := F_thinks S
  obtain ⟨B1, hB1⟩ : ∃ B1, B1 = uM (rM S 242 f4) 239 5 1 := ⟨_, rfl⟩
  have o1 : ∀ k, k ≠ 239 → k ≠ 242 → B1 k = S k := fun k a b => by rw [hB1, uM_off _ _ _ a, rM_off _ _ b]
  have o2 : ∀ i, i ≠ 5 → B1 239 i = S 239 i := fun i a => by rw [hB1, uM_ne _ _ _ a, rM_off _ _ (by decide)]
  have b1 : RB B1 P D := h.B.congr2 (o2 _ (by decide)) (o2 _ (by decide)) fun k _ _ _ _ _ => o1 k (by omega) (by omega)
  have t1 : RTF B1 T := h.TF.congr (o2 _ (by decide)) (o2 _ (by decide)) fun k _ _ _ => o1 k (by omega) (by omega)
  have r1 : rkF B1 D W := fun i hi => by rw [o1 _ (by decide) (by decide)]; exact h.2.1.1.2.2 i hi
  have s5 : B1 239 5 = 1 := by rw [hB1, uM_eq]
  have hwd : wdP P D := ⟨h.wD, h.R.1.2⟩
  have go : ∃ B2, f_X11_whenCan_32 FU (nI q) (nI dd) (-1) 0 B1 = f_X11_whenCan_90 (fdM P T W (tDs T dd) q 401 D) B2 ∧ RS B2 P ∧ rkF B2 D W ∧ (∀ k, k ≠ 239 → k ≠ 240 → k ≠ 248 → k ≠ 249 → k ≠ 265 → k ≠ 266 → B2 k = B1 k) ∧ ∀ i, i ≠ 48 → B2 239 i = B1 239 i := by
    show ∃ B2, f_X11_whenCan_32b (f_X11_whenCan_32 9999) (nI q) (nI dd) (-1) 0 B1 = _ ∧ _
    unfold f_X11_whenCan_32b
    rw [if_neg (by decide), if_pos rfl, if_pos (by decide), show (0 : Int32) = nI 0 from rfl, F_when55 (f_X11_whenCan_32 9999) b1 t1 h.wT h.wP h.wD hq hd]
    unfold fdM
    by_cases c : tDs T dd &&& (letS P D q ^^^ (-1)) = 0
    · rw [if_pos c, if_pos c]
      refine ⟨B1, ?_, b1.1, r1, fun _ _ _ _ _ _ _ => rfl, fun _ _ => rfl⟩
      show f_X11_whenCan_32b (f_X11_whenCan_32 9998) (nI q) (nI dd) (nI (dDay D)) (nI 1) B1 = _
      unfold f_X11_whenCan_32b
      have := h.R.1.1
      rw [if_neg (by decide), if_neg (of_eq_false (nI_n1 (by omega)))]
    · rw [if_neg c, if_neg c]
      exact F_first h.wP h.wT hq hd 400 0 9999 B1 D (by omega) (by omega) (by have := h.R.1.1; omega) b1 t1 s5 hwd r1
  obtain ⟨B2, e7, v1, v2, v3, v4⟩ := go
  have hw242 : RW (B2 242) P D := by
    rw [v3 _ (by decide) (by decide) (by decide) (by decide) (by decide) (by decide), hB1, uM_off _ _ _ (by decide), rM_same]
    exact h.B.2.1.congr hN hf4
  obtain ⟨B4, e9, w1, w2, w3, w4⟩ := F_endsThought (B := B2) v1 hw242 h.wP h.wD
  refine ⟨B4, ?_, fun k a b c d e => ?_, fun i hi => ?_, w1, fun i hi => ?_⟩
  · unfold f_X11_whenCan
    rw [nm_x, uM_id h.C.1, F_isPerson1 h.B.1 hN hq]
    simp only [bind_x, i10, if_false]
    rw [F_isDeed1 h.TF hn hd]
    simp only [bind_x, i10, if_false]
    rw [e6, ← hB1]
    simp only [bind_x]
    rw [e7]
    unfold f_X11_whenCan_90
    rw [e9]
    simp only [bind_x]
  · have a := of_decide_eq_false a
    rw [w2 k b c e, v3 k b c d e (by omega) (by omega), o1 k b (by omega)]
  · by_cases z : i = 5
    · rw [z, w4]; exact h.C.2.1.symm
    · have n48 : i ≠ 48 := fun e => by rw [e] at hi; cases hi
      rw [w3 i z, v4 i n48, o2 i z]
  · rw [w2 _ (by decide) (by decide) (by decide)]
    exact v2 i hi
theorem op_whenCan (x y : Int32) (h : RR S P D T W E) : Good (f_X10_whenCan x y) (f_X11_whenCan x y) S := by
  have hN := h.wP.1
  have h0 := h.C.1
  have hn := h.wT.1.1
  rcases nI_cs x (n := pN P) (by omega) with hx | ⟨q, hq, rfl⟩
  · refine good_id h (r := -1) ?_ ?_
    · simp only [f_X10_whenCan, C_lives0 h.K hx, Option.bind_some, if_true]
    · simp only [f_X11_whenCan, nm, uM_id h0, F_isPerson0 h.B.1 hx, Option.bind_some, if_true]
  rcases nI_cs y (n := tDn T) (by omega) with hy | ⟨dd, hd, rfl⟩
  · refine good_id h (r := -1) ?_ ?_
    · by_cases l : liv P D q = true
      · simp only [f_X10_whenCan, C_lives h.K hN hq, if_pos l, C_isDeed0 h.TK hy, Option.bind_some, i10, if_false, if_true]
      · simp only [f_X10_whenCan, C_lives h.K hN hq, if_neg l, Option.bind_some, if_true]
    · simp only [f_X11_whenCan, nm, uM_id h0, F_isPerson1 h.B.1 hN hq, F_isDeed0 h.TF hy, Option.bind_some, i10, if_false, if_true]
  by_cases l : liv P D q = true
  · obtain ⟨A, e1, g1, g2⟩ := C_trial h
    obtain ⟨A2, e2, u1, u2⟩ := C_first (T := T) (W := W) h.wP h.wT hq (tDs T dd) 401 0 FU A D (by omega) (by unfold FU; omega) g1 (h.TK.congr fun j hj _ _ => g2 _ (by omega)) ⟨h.wD, h.R.1.2⟩ ⟨rfl, by rw [g2 _ (by decide)]; exact h.1.1.2.2.1, fun i hi => by rw [g2 _ (by decide)]; exact h.1.1.2.2.2 i hi⟩
    have g6 : ∀ k, scr k = false → k ≠ 32 → k ≠ 33 → A2 k = S k := fun k a b c => by
      have := of_decide_eq_false a
      rw [u2 k (by omega) (by omega) (by omega) b c, g2 k (by omega)]
    have hR : RR A2 P D T W E := rr_th h g6 u1.1 u1.2 (fun _ _ _ _ _ _ => rfl) (fun _ _ => rfl) (h.B.congr2 (by rw [g6 239 rfl (by decide) (by decide)]) (by rw [g6 239 rfl (by decide) (by decide)]) fun k _ _ _ _ _ => g6 k (scr_f (by omega)) (by omega) (by omega)) (fun i hi => by rw [g6 248 rfl (by decide) (by decide)]; exact h.2.1.1.2.2 i hi)
    obtain ⟨B, e3, v1, v2, v3, v4⟩ := F_whenCan hR hq hd
    refine ⟨_, A2, B, ?_, e3, P, D, T, W, E, rr_th hR (fun _ _ _ _ => rfl) u1.1 u1.2 v1 v2 v3 v4⟩
    unfold f_X10_whenCan
    rw [C_lives h.K hN hq, if_pos l]
    simp only [bind_x, i10, if_false]
    rw [C_isDeed1 h.TK hn hd]
    simp only [bind_x, i10, if_false]
    rw [gd_t (by omega) (by omega), ix_nI (by omega), (t17d h.TK hd).2.1]
    unfold f_X7_firstDay
    rw [e1]
    simp only [bind_x]
    rw [show (0 : Int32) = nI 0 from rfl, e2]
    simp only [bind_x]
  · obtain ⟨B, e3, v1, v2, v3, v4⟩ := F_whenCan h hq hd
    have dd0 : dDead D q ≠ 0 := fun e => l (by unfold liv; rw [decide_eq_true hq, decide_eq_true e]; rfl)
    rw [fdM_dead (h.wT.2.2.2 dd hd).2.1 _ _ dd0] at e3
    refine ⟨-1, S, B, ?_, e3, P, D, T, W, E, rr_th h (fun _ _ _ _ => rfl) h.1.1.2.2.1 h.1.1.2.2.2 v1 v2 v3 v4⟩
    simp only [f_X10_whenCan, C_lives h.K hN hq, if_neg l, Option.bind_some, if_true]
end WHEN2
