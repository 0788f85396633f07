/-! ===== who would be the best heir ===== -/
def owS (p q : Nat) (l : Nat) (D : DD) : DD := if dOw D l = p + 1 then sOw D l (q + 1) else D
def gvD (p q : Nat) (D : DD) : DD := ff (owS p q) 0 28 D
theorem ow_at (D : DD) (l o j : Nat) : dOw (sOw D l o) j = if j = l then o else dOw D j := by
  by_cases c : j = l
  · rw [if_pos c, c]; exact un_eq _ _ _ _
  · rw [if_neg c]; exact un_ne _ _ _ c
theorem gvD_keep {P : PP} {D : DD} {p q : Nat} (hq : q < pN P) (h : WFD P D) : WFD P (gvD p q D) ∧ dLn (gvD p q D) = dLn D := by
  have h1 := ff_ind (step := owS p q) (fun _ x => WFD P x ∧ dLn x = dLn D) 28 0 D ⟨h, rfl⟩ (fun i s _ _ z => by
    unfold owS
    split
    · exact ⟨WFD_ow z.1 (by omega), z.2⟩
    · exact z)
  unfold gvD
  revert h1
  generalize ff (owS p q) 0 28 D = X
  exact id
def nB (P : PP) (T : TT) (D : DD) : Nat := cntF (tDn T) (spkP P D T)
def bsS (P : PP) (T : TT) (D : DD) (p q : Nat) (s : Int32 × Int32) : Int32 × Int32 :=
  if q = p then s else if liv P D q = true then (if nI (nB P T (gvD p q D)) ≤ s.2 then s else (nI q, nI (nB P T (gvD p q D)))) else s
section BEST
variable {P : PP} {D : DD} {T : TT} {W : Nat → Int32}
def endB (k : Int32 → Int32 → Int32 → Int32 → Int32 → Mm → Option (Int32 × Mm)) (x1 x2 x3 x4 x5 : Int32) (S : Mm) : Option (Int32 × Mm) :=
  (f_X7_spoken 166 S).bind fun q_1 =>
   (f_J6_bitCount_0f7a4 q_1.1 q_1.2).bind fun q_2 =>
   if q_2.1 ≤ x4 then (
    f_X7_bestHeir_121 k x1 x2 x3 x4 x5 q_2.2
   ) else (
    f_X7_bestHeir_121 k x1 x2 x5 q_2.1 x5 q_2.2
   )
theorem C_best55 (k8 : Int32 → Int32 → Int32 → Int32 → Int32 → Mm → Option (Int32 × Mm)) (x2 x3 x4 : Int32) (hN : pN P ≤ 12) {p q : Nat} (hp : p < pN P) (hq : q < pN P) (hw : ∀ l, l < 28 → dOw D l ≤ pN P) : ∀ (d l fuel : Nat) (A : Mm) (Dc : DD), l + d = 28 → d < fuel → RK (fun j => A (166 + j)) P Dc → (∀ j, l ≤ j → j < 28 → dOw Dc j = dOw D j) → (∀ j, j < 28 → A 11 j = eo (dOw D j)) → ∃ A', f_X7_bestHeir_55 k8 fuel (nI p) x2 x3 x4 (nI q) (nI l) A = endB k8 (nI p) x2 x3 x4 (nI q) A' ∧ RK (fun j => A' (166 + j)) P (ff (owS p q) l d Dc) ∧ ∀ k, k ≠ 176 → A' k = A k := by
  intro d
  induction d with
  | zero =>
    intro l fuel A Dc h1 h2 hK ho h11
    cases fuel with
    | zero => omega
    | succ fu =>
      have e : l = 28 := by omega
      subst e
      refine ⟨A, ?_, hK, fun _ _ => rfl⟩
      show f_X7_bestHeir_55b k8 (f_X7_bestHeir_55 k8 fu) (nI p) x2 x3 x4 (nI q) (nI 28) A = _
      unfold f_X7_bestHeir_55b endB
      rw [if_pos (show (28 : Int32) ≤ nI 28 from nI_ge_t (a := 28) (by omega) (by omega))]
  | succ d ih =>
    intro l fuel A Dc h1 h2 hK ho h11
    cases fuel with
    | zero => omega
    | succ fu =>
      have hl : l < 28 := by omega
      have wo := hw l hl
      show ∃ A', f_X7_bestHeir_55b k8 (f_X7_bestHeir_55 k8 fu) (nI p) x2 x3 x4 (nI q) (nI l) A = endB k8 (nI p) x2 x3 x4 (nI q) A' ∧ RK (fun j => A' (166 + j)) P (ff (owS p q) (l + 1) d (owS p q l Dc)) ∧ _
      unfold f_X7_bestHeir_55b f_X7_bestHeir_88
      rw [if_neg (show ¬ (28 : Int32) ≤ nI l from nI_ge_f (a := 28) (by omega) (by omega)), gd_t (by omega) (by omega), gd_t (by omega) (by omega), ix_nI (by omega), h11 l hl]
      by_cases c : dOw D l = p + 1
      · have e : owS p q l Dc = sOw Dc l (q + 1) := if_pos (by rw [ho l (Nat.le_refl _) hl]; exact c)
        have eq1 : nI q = eo (q + 1) := ((eo_nI (by omega) (by omega)).mpr rfl).symm
        rw [if_pos ((eo_nI (by omega) (by omega)).mpr c), nm_x, nm_x, nI_1]
        have r2 := RKc_ow (c := 166) hK (q + 1) hl
        rw [← eq1] at r2
        obtain ⟨A', u1, u2, u3⟩ := ih (l + 1) fu (uM A 176 l (nI q)) (sOw Dc l (q + 1)) (by omega) (by omega) r2 (fun j a b => by rw [ow_at, if_neg (by omega)]; exact ho j (by omega) b) (fun j hj => by rw [uM_off _ _ _ (by decide)]; exact h11 j hj)
        rw [e]
        exact ⟨A', u1, u2, fun k hk => by rw [u3 k hk, uM_off _ _ _ hk]⟩
      · have e : owS p q l Dc = Dc := if_neg (by rw [ho l (Nat.le_refl _) hl]; exact c)
        rw [if_neg (by rw [eo_nI (by omega) (by omega)]; exact c), nm_x, nI_1, e]
        exact ih (l + 1) fu A Dc (by omega) (by omega) hK (fun j a b => ho j (by omega) b) h11
theorem C_best8 (hP : WFP P) (hw : WFT (pN P) T) (hD : WFD P D) {p : Nat} (hp : p < pN P) (x2 : Int32) {S : Mm} (hK : RK (fun j => S (1 + j)) P D) (hT : RTK (fun j => S (17 + j)) T) : ∀ (d q fuel : Nat) (A : Mm) (s : Int32 × Int32), q + d = pN P → d < fuel → (∀ k, k < 166 ∨ 183 ≤ k → A k = S k) → ∃ A', f_X7_bestHeir_8 fuel (nI p) x2 s.1 s.2 (nI q) A = some (if x2 = 0 then (ff (bsS P T D p) q d s).1 else (ff (bsS P T D p) q d s).2, A') ∧ ∀ k, k < 166 ∨ 183 ≤ k → A' k = S k := by
  have hN := hP.1
  have hn := hw.1.1
  intro d
  induction d with
  | zero =>
    intro q fuel A s h1 h2 hA
    cases fuel with
    | zero => omega
    | succ fu =>
      refine ⟨A, ?_, hA⟩
      show f_X7_bestHeir_8b (f_X7_bestHeir_8 fu) (nI p) x2 s.1 s.2 (nI q) A = _
      unfold f_X7_bestHeir_8b
      rw [hA 1 (by omega), show S 1 3 = nI (pN P) from hK.1.2.2.2, if_pos (nI_ge_t (by omega) (by omega))]
      show _ = some (if x2 = 0 then s.1 else s.2, A)
      split <;> rfl
  | succ d ih =>
    intro q fuel A s h1 h2 hA
    cases fuel with
    | zero => omega
    | succ fu =>
      have hq : q < pN P := by omega
      have aK : RK (fun j => A (1 + j)) P D := hK.congr fun j hj => hA _ (by omega)
      have next : ∀ (A1 : Mm) (s1 : Int32 × Int32), s1 = bsS P T D p q s → (∀ k, k < 166 ∨ 183 ≤ k → A1 k = S k) → ∃ A', f_X7_bestHeir_121 (f_X7_bestHeir_8 fu) (nI p) x2 s1.1 s1.2 (nI q) A1 = some (if x2 = 0 then (ff (bsS P T D p) (q + 1) d (bsS P T D p q s)).1 else (ff (bsS P T D p) (q + 1) d (bsS P T D p q s)).2, A') ∧ ∀ k, k < 166 ∨ 183 ≤ k → A' k = S k := fun A1 s1 es a1 => by
        subst es
        unfold f_X7_bestHeir_121
        rw [nm_x, nI_1]
        exact ih (q + 1) fu A1 _ (by omega) (by omega) a1
      show ∃ A', f_X7_bestHeir_8b (f_X7_bestHeir_8 fu) (nI p) x2 s.1 s.2 (nI q) A = some (if x2 = 0 then (ff (bsS P T D p) (q + 1) d (bsS P T D p q s)).1 else (ff (bsS P T D p) (q + 1) d (bsS P T D p q s)).2, A') ∧ _
      unfold f_X7_bestHeir_8b
      rw [hA 1 (by omega), show S 1 3 = nI (pN P) from hK.1.2.2.2, if_neg (nI_ge_f (by omega) (by omega))]
      by_cases c : q = p
      · rw [if_pos (by rw [c])]
        exact next A s (by unfold bsS; rw [if_pos c]) hA
      · rw [if_neg (by rw [nI_inj (by omega) (by omega)]; exact c), C_lives aK hN hq]
        simp only [bind_x]
        by_cases l : liv P D q = true
        · rw [if_pos l, if_neg (by decide)]
          obtain ⟨A1, e1, g1, g2⟩ := C_become (A := A) (c0 := 166) (c1 := 1) (Or.inr (by omega))
          have k1 : RK (fun j => A1 (166 + j)) P D := aK.cong2 hN fun j i hji => g1 j i hji
          obtain ⟨A2, e2, u1, u2⟩ := C_best55 (D := D) (f_X7_bestHeir_8 fu) x2 s.1 s.2 hN hp hq (fun l hl => (hD.1 l hl).1) 28 0 FU A1 D (by omega) (by unfold FU; omega) k1 (fun _ _ _ => rfl) (fun j hj => by rw [g2 _ (by decide)]; exact (k1l aK hj).1)
          have u1 : RK (fun j => A2 (166 + j)) P (gvD p q D) := u1
          have g3 : ∀ k, k < 166 ∨ 183 ≤ k → A2 k = S k := fun k hk => by rw [u2 k (by omega), g2 k (by omega), hA k hk]
          obtain ⟨f, e3⟩ := C_spoken (c := 166) (A := A2) (show (166 : Nat) ∈ clanL by decide) u1 (hT.congr fun j hj _ _ => g3 _ (by omega)) hP (gvD_keep hq hD).1 hn
          rw [e1]
          simp only [bind_x]
          rw [show (0 : Int32) = nI 0 from rfl, e2]
          unfold endB
          rw [e3]
          simp only [bind_x]
          unfold spkS
          rw [J_bitS _ _ (by omega)]
          simp only [bind_x]
          have g4 : ∀ k, k < 166 ∨ 183 ≤ k → (rM A2 182 f) k = S k := fun k hk => by rw [rM_off _ _ (by omega), g3 k hk]
          show ∃ A', (if nI (nB P T (gvD p q D)) ≤ s.2 then f_X7_bestHeir_121 (f_X7_bestHeir_8 fu) (nI p) x2 s.1 s.2 (nI q) (rM A2 182 f) else f_X7_bestHeir_121 (f_X7_bestHeir_8 fu) (nI p) x2 (nI q) (nI (nB P T (gvD p q D))) (nI q) (rM A2 182 f)) = _ ∧ _
          by_cases z : nI (nB P T (gvD p q D)) ≤ s.2
          · rw [if_pos z]
            exact next _ s (by unfold bsS; rw [if_neg c, if_pos l, if_pos z]) g4
          · rw [if_neg z]
            exact next _ (nI q, nI (nB P T (gvD p q D))) (by unfold bsS; rw [if_neg c, if_pos l, if_neg z]) g4
        · rw [if_neg l, if_pos rfl]
          exact next A s (by unfold bsS; rw [if_neg c, if_neg l]) hA
def endD (S : Mm) : Option (Int32 × Mm) :=
   (f_X11_spokenDeeds S).bind fun q_1 =>
   (f_X11_ones q_1.1 q_1.2).bind fun q_2 =>
   (f_X11_endsThought q_2.2).bind fun S_3 =>
   some (q_2.1, S_3)
theorem F_deeds6 (hN : pN P ≤ 12) {p q : Nat} (hp : p < pN P) (hq : q < pN P) : ∀ (d l fuel : Nat) (B : Mm) (Dc : DD), l + d = 28 → d < fuel → RB B P Dc → WFD P Dc → ∃ B', f_X11_deedsBy_6 fuel (nI p) (nI q) (nI l) B = endD B' ∧ RB B' P (ff (owS p q) l d Dc) ∧ ∀ k, k ≠ 240 → B' k = B k := by
  intro d
  induction d with
  | zero =>
    intro l fuel B Dc h1 h2 hB hD
    cases fuel with
    | zero => omega
    | succ fu =>
      have e : l = 28 := by omega
      subst e
      refine ⟨B, ?_, hB, fun _ _ => rfl⟩
      show f_X11_deedsBy_6b (f_X11_deedsBy_6 fu) (nI p) (nI q) (nI 28) B = _
      unfold f_X11_deedsBy_6b endD
      rw [if_pos (show (28 : Int32) ≤ nI 28 from nI_ge_t (a := 28) (by omega) (by omega))]
  | succ d ih =>
    intro l fuel B Dc h1 h2 hB hD
    cases fuel with
    | zero => omega
    | succ fu =>
      have hl : l < 28 := by omega
      have wo := (hD.1 l hl).1
      show ∃ B', f_X11_deedsBy_6b (f_X11_deedsBy_6 fu) (nI p) (nI q) (nI l) B = _ ∧ RB B' P (ff (owS p q) (l + 1) d (owS p q l Dc)) ∧ _
      unfold f_X11_deedsBy_6b f_X11_deedsBy_32
      rw [if_neg (show ¬ (28 : Int32) ≤ nI l from nI_ge_f (a := 28) (by omega) (by omega)), F_ownerOf hB.2.1 hl]
      simp only [bind_x]
      by_cases c : dOw Dc l = p + 1
      · have e : owS p q l Dc = sOw Dc l (q + 1) := if_pos c
        rw [if_pos ((eo_nI (by omega) (by omega)).mpr c), nI_lit 4, nI_add, gd_t (by omega) (by omega), nm_x, nm_x, nI_1, nI_1, ix_nI (by omega)]
        obtain ⟨B', u1, u2, u3⟩ := ih (l + 1) fu (uM B 240 (4 + l) (nI (q + 1))) (sOw Dc l (q + 1)) (by omega) (by omega) (RB_pass hB (by rw [uM_row]; exact RW_ow hB.2.1 hN (q + 1) hl) (fun _ => rfl) (fun k a _ => uM_off _ _ _ a)) (WFD_ow hD (by omega))
        rw [e]
        exact ⟨B', u1, u2, fun k hk => by rw [u3 k hk, uM_off _ _ _ hk]⟩
      · have e : owS p q l Dc = Dc := if_neg c
        rw [if_neg (by rw [eo_nI (by omega) (by omega)]; exact c), nm_x, nI_1, e]
        exact ih (l + 1) fu B Dc (by omega) (by omega) hB hD
theorem F_deedsBy {B : Mm} (hP : WFP P) (hw : WFT (pN P) T) (hB : RB B P D) (hT : RTF B T) (h5 : B 239 5 = 0) (hD : WFD P D) {p q : Nat} (hp : p < pN P) (hq : q < pN P) : ∃ B', f_X11_deedsBy (nI p) (nI q) B = some (nI (nB P T (gvD p q D)), B') ∧ RB B' P D ∧ (∀ k, k ≠ 239 → k ≠ 240 → k ≠ 242 → k ≠ 249 → k ≠ 267 → B' k = B k) ∧ ∀ i, B' 239 i = B 239 i := by
  have hN := hP.1
  have hn := hw.1.1
  obtain ⟨f4, e6, hf4⟩ := F_thinks B
  obtain ⟨B1, hB1⟩ : ∃ B1, B1 = uM (rM B 242 f4) 239 5 1 := ⟨_, rfl⟩
  have o1 : ∀ k, k ≠ 239 → k ≠ 242 → B1 k = B k := fun k a b => by rw [hB1, uM_off _ _ _ a, rM_off _ _ b]
  have o2 : ∀ i, i ≠ 5 → B1 239 i = B 239 i := fun i a => by rw [hB1, uM_ne _ _ _ a, rM_off _ _ (by decide)]
  have b1 : RB B1 P D := hB.congr2 (o2 _ (by decide)) (o2 _ (by decide)) fun k _ _ _ _ _ => o1 k (by omega) (by omega)
  have t1 : RTF B1 T := hT.congr (o2 _ (by decide)) (o2 _ (by decide)) fun k _ _ _ => o1 k (by omega) (by omega)
  obtain ⟨B2, e7, v1, v2⟩ := F_deeds6 hN hp hq 28 0 FU B1 D (by omega) (by unfold FU; omega) b1 hD
  have v1 : RB B2 P (gvD p q D) := v1
  obtain ⟨f5, e8⟩ := F_spoken v1 (t1.congr (by rw [v2 _ (by decide)]) (by rw [v2 _ (by decide)]) fun k _ _ _ => v2 k (by omega)) hP (gvD_keep hq hD).1 hn
  have hw242 : RW ((rM B2 267 f5) 242) P D := by
    rw [rM_off _ _ (by decide), v2 _ (by decide), hB1, uM_off _ _ _ (by decide), rM_same]
    exact hB.2.1.congr hN hf4
  obtain ⟨B3, e9, w1, w2, w3, w4⟩ := F_endsThought (B := rM B2 267 f5) (RB_rM (by decide) v1).1 hw242 hP hD
  refine ⟨B3, ?_, w1, fun k a b c d e => ?_, fun i => ?_⟩
  · unfold f_X11_deedsBy
    rw [e6, ← hB1]
    simp only [bind_x]
    rw [show (0 : Int32) = nI 0 from rfl, e7]
    unfold endD
    rw [e8]
    simp only [bind_x]
    unfold spkS
    rw [F_onesS _ _ (by omega)]
    simp only [bind_x]
    rw [e9]
    rfl
  · rw [w2 k a b d, rM_off _ _ e, v2 k b, o1 k a c]
  · by_cases z : i = 5
    · rw [z, w4, h5]
    · rw [w3 i z, rM_off _ _ (by decide), v2 _ (by decide), o2 i z]
theorem F_best33 (hP : WFP P) (hw : WFT (pN P) T) (hD : WFD P D) {p : Nat} (hp : p < pN P) (x2 : Int32) {S : Mm} (hB : RB S P D) (hT : RTF S T) (h5 : S 239 5 = 0) : ∀ (d q fuel : Nat) (B : Mm) (s : Int32 × Int32), q + d = pN P → d < fuel → RB B P D → (∀ k, k ≠ 239 → k ≠ 240 → k ≠ 242 → k ≠ 249 → k ≠ 267 → B k = S k) → (∀ i, B 239 i = S 239 i) → ∃ B', f_X11_best_33 fuel (nI p) x2 s.1 s.2 (nI q) B = some (if x2 = 0 then (ff (bsS P T D p) q d s).1 else (ff (bsS P T D p) q d s).2, B') ∧ RB B' P D ∧ (∀ k, k ≠ 239 → k ≠ 240 → k ≠ 242 → k ≠ 249 → k ≠ 267 → B' k = S k) ∧ ∀ i, B' 239 i = S 239 i := by
  have hN := hP.1
  have hn := hw.1.1
  intro d
  induction d with
  | zero =>
    intro q fuel B s h1 h2 bB b1 b2
    cases fuel with
    | zero => omega
    | succ fu =>
      refine ⟨B, ?_, bB, b1, b2⟩
      show f_X11_best_33b (f_X11_best_33 fu) (nI p) x2 s.1 s.2 (nI q) B = _
      unfold f_X11_best_33b
      rw [show B 239 6 = nI (pN P) from bB.1.1.1, if_pos (nI_ge_t (by omega) (by omega))]
      show _ = some (if x2 = 0 then s.1 else s.2, B)
      split <;> rfl
  | succ d ih =>
    intro q fuel B s h1 h2 bB b1 b2
    cases fuel with
    | zero => omega
    | succ fu =>
      have hq : q < pN P := by omega
      have next : ∀ (B1 : Mm) (s1 : Int32 × Int32), s1 = bsS P T D p q s → RB B1 P D → (∀ k, k ≠ 239 → k ≠ 240 → k ≠ 242 → k ≠ 249 → k ≠ 267 → B1 k = S k) → (∀ i, B1 239 i = S 239 i) → ∃ B', f_X11_best_99 (f_X11_best_33 fu) (nI p) x2 s1.1 s1.2 (nI q) B1 = some (if x2 = 0 then (ff (bsS P T D p) (q + 1) d (bsS P T D p q s)).1 else (ff (bsS P T D p) (q + 1) d (bsS P T D p q s)).2, B') ∧ RB B' P D ∧ (∀ k, k ≠ 239 → k ≠ 240 → k ≠ 242 → k ≠ 249 → k ≠ 267 → B' k = S k) ∧ ∀ i, B' 239 i = S 239 i := fun B1 s1 es c1 c2 c3 => by
        subst es
        unfold f_X11_best_99
        rw [nm_x, nI_1]
        exact ih (q + 1) fu B1 _ (by omega) (by omega) c1 c2 c3
      show ∃ B', f_X11_best_33b (f_X11_best_33 fu) (nI p) x2 s.1 s.2 (nI q) B = some (if x2 = 0 then (ff (bsS P T D p) (q + 1) d (bsS P T D p q s)).1 else (ff (bsS P T D p) (q + 1) d (bsS P T D p q s)).2, B') ∧ _
      unfold f_X11_best_33b
      rw [show B 239 6 = nI (pN P) from bB.1.1.1, if_neg (nI_ge_f (by omega) (by omega))]
      by_cases c : q = p
      · rw [if_pos (by rw [c])]
        exact next B s (by unfold bsS; rw [if_pos c]) bB b1 b2
      · rw [if_neg (by rw [nI_inj (by omega) (by omega)]; exact c), F_doesLive bB.2.1 hN hq]
        simp only [bind_x]
        by_cases l : liv P D q = true
        · rw [if_pos l, if_neg (by decide)]
          obtain ⟨B1, e1, g1, g2, g3⟩ := F_deedsBy hP hw bB (hT.congr (b2 _) (b2 _) fun k _ _ _ => b1 k (by omega) (by omega) (by omega) (by omega) (by omega)) (by rw [b2, h5]) hD hp hq
          rw [e1]
          simp only [bind_x]
          have c2 : ∀ k, k ≠ 239 → k ≠ 240 → k ≠ 242 → k ≠ 249 → k ≠ 267 → B1 k = S k := fun k a b c d e => by rw [g2 k a b c d e, b1 k a b c d e]
          have c3 : ∀ i, B1 239 i = S 239 i := fun i => by rw [g3, b2]
          unfold f_X11_best_82 f_X11_best_97
          by_cases z : nI (nB P T (gvD p q D)) ≤ s.2
          · rw [if_pos z, if_pos z]
            exact next _ s (by unfold bsS; rw [if_neg c, if_pos l, if_pos z]) g1 c2 c3
          · rw [if_neg z, if_neg z]
            exact next _ (nI q, nI (nB P T (gvD p q D))) (by unfold bsS; rw [if_neg c, if_pos l, if_neg z]) g1 c2 c3
        · rw [if_neg l, if_pos rfl]
          exact next B s (by unfold bsS; rw [if_neg c, if_neg l]) bB b1 b2
end BEST
section BEST2
variable {S : Mm} {P : PP} {D : DD} {T : TT} {W : Nat → Int32} {E : RE}
theorem op_best (x y : Int32) (h : RR S P D T W E) : Good (f_X10_best x y) (f_X11_best x y) S := by
  have hN := h.wP.1
  have h0 := h.C.1
  rcases nI_cs x (n := pN P) (by omega) with hx | ⟨p, hp, rfl⟩
  · refine good_id h (r := -1) ?_ ?_
    · simp only [f_X10_best, C_lives0 h.K hx, Option.bind_some, if_true]
    · simp only [f_X11_best, nm, uM_id h0, F_isLiving0 h.B.1 hx, Option.bind_some, if_true]
  by_cases l : liv P D p = true
  rotate_left
  · refine good_id h (r := -1) ?_ ?_
    · simp only [f_X10_best, C_lives h.K hN hp, if_neg l, Option.bind_some, if_true]
    · simp only [f_X11_best, nm, uM_id h0, F_isLiving h.B.1 h.B.2.1 hN hp, if_neg l, Option.bind_some, if_true]
  by_cases r : y < 0 ∨ 1 < y
  · refine good_id h (r := -1) ?_ ?_
    · simp only [f_X10_best, C_lives h.K hN hp, if_pos l, Option.bind_some, i10, if_false]
      by_cases z : y < 0
      · rw [if_pos z]
      · rw [if_neg z, if_neg (i32_nle.mpr (r.resolve_left z))]
    · simp only [f_X11_best, nm, uM_id h0, F_isLiving h.B.1 h.B.2.1 hN hp, if_pos l, F_isIn0 r, Option.bind_some, i10, if_false, if_true]
  have r1 : ¬ y < 0 := fun e => r (Or.inl e)
  have r2 : ¬ 1 < y := fun e => r (Or.inr e)
  obtain ⟨A, e1, g1⟩ := C_best8 h.wP h.wT h.wD hp y h.K h.TK (pN P) 0 FU S (-1, -1) (by omega) (by unfold FU; omega) (fun _ _ => rfl)
  have hag : agS S A := ⟨fun k a b => g1 k (by have := of_decide_eq_false a; omega), fun i _ => by rw [g1 _ (by decide)]⟩
  have hR := h.scr hag
  obtain ⟨B, e2, v1, v2, v3⟩ := F_best33 h.wP h.wT h.wD hp y hR.B hR.TF hR.C.2.1 (pN P) 0 FU A (-1, -1) (by omega) (by unfold FU; omega) hR.B (fun _ _ _ _ _ _ => rfl) (fun _ => rfl)
  refine ⟨if y = 0 then (ff (bsS P T D p) 0 (pN P) (-1, -1)).1 else (ff (bsS P T D p) 0 (pN P) (-1, -1)).2, A, B, ?_, ?_, P, D, T, W, E, rr_th hR (fun _ _ _ _ => rfl) hR.1.1.2.2.1 hR.1.1.2.2.2 (fun k a b c d e => ?_) (fun i _ => v3 i) v1 (fun i hi => ?_)⟩
  rotate_left
  · unfold f_X11_best
    rw [nm_x, uM_id hR.C.1, F_isLiving hR.B.1 hR.B.2.1 hN hp, if_pos l]
    simp only [bind_x, i10, if_false]
    rw [F_isIn1 r1 r2]
    simp only [bind_x, i10, if_false]
    exact e2
  · have a := of_decide_eq_false a
    exact v2 k b c (by omega) e (by omega)
  · rw [v2 _ (by decide) (by decide) (by decide) (by decide) (by decide)]
    exact hR.2.1.1.2.2 i hi
  · unfold f_X10_best
    rw [C_lives h.K hN hp, if_pos l]
    simp only [bind_x, i10, if_false]
    rw [if_neg r1, if_pos (i32_nlt.mp r2)]
    unfold f_X7_bestHeir
    rw [show (0 : Int32) = nI 0 from rfl, e1]
    simp only [bind_x]
    rfl
end BEST2
