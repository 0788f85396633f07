/-! ===== the reference reads one token at a time ===== -/
def rW (n : Nat) (b : Nat → Nat) (s : Nat) : Int32 := fnd (fun w => decide (wl b s (wE n b s) = w)) 0 (lawW ++ wilW)
def rE (n : Nat) (b : Nat → Nat) (s : Nat) : Nat := if isW (b s) = true then wE n b s else if isD (b s) = true then dE n b s else s + 1
def rK (n : Nat) (b : Nat → Nat) (s : Nat) : Int32 := if isW (b s) = true then (if rW n b s = -1 then 1 else 2) else if isD (b s) = true then (if dE n b s - s ≤ 4 then 3 else 1) else if lawL.contains (b s) = true then 4 else 1
/-- of a token's value: what is told of it -/
def rVok (n : Nat) (b : Nat → Nat) (s : Nat) (v : Int32) : Prop := if isW (b s) = true then v = rW n b s else if isD (b s) = true then (dE n b s - s ≤ 4 → v = nI (nvF b s (dE n b s - s))) else v = nI (b s)
def FP (B : Mm) (n : Nat) (b : Nat → Nat) : Prop := B 239 16 = nI n ∧ (∀ i, i < n → B 250 i = nI (b i)) ∧ ∀ i, i < 93 → B 251 i = nI (wdN i)
def rs (B0 B : Mm) (p s : Nat) (k v : Int32) : Prop := (∀ j, j ≠ 239 → B j = B0 j) ∧ (∀ i, i < 17 ∨ 20 < i → B 239 i = B0 239 i) ∧ B 239 17 = nI p ∧ B 239 18 = nI s ∧ B 239 19 = k ∧ B 239 20 = v
section READS
variable {B0 B : Mm} {n : Nat} {b : Nat → Nat}
theorem rs.FP {p s : Nat} {k v : Int32} (h : rs B0 B p s k v) (f : FP B0 n b) : FP B n b := by
  obtain ⟨h1, h2, -⟩ := h
  obtain ⟨f1, f2, f3⟩ := f
  exact ⟨by rw [h2 16 (by omega)]; exact f1, fun i hi => by rw [h1 _ (by decide)]; exact f2 i hi, fun i hi => by rw [h1 _ (by decide)]; exact f3 i hi⟩
theorem rs.s17 {p s : Nat} {k v : Int32} (h : rs B0 B p s k v) (q : Nat) : rs B0 (uM B 239 17 (nI q)) q s k v := by
  obtain ⟨h1, h2, h3, h4, h5, h6⟩ := h
  exact ⟨fun j hj => by rw [uM_off _ _ _ hj, h1 j hj], fun i hi => by rw [uM_ne _ _ _ (by omega), h2 i hi], uM_eq _ _ _ _, by rw [uM_ne _ _ _ (by decide)]; exact h4, by rw [uM_ne _ _ _ (by decide)]; exact h5, by rw [uM_ne _ _ _ (by decide)]; exact h6⟩
theorem rs.s18 {p s : Nat} {k v : Int32} (h : rs B0 B p s k v) (q : Nat) : rs B0 (uM B 239 18 (nI q)) p q k v := by
  obtain ⟨h1, h2, h3, h4, h5, h6⟩ := h
  exact ⟨fun j hj => by rw [uM_off _ _ _ hj, h1 j hj], fun i hi => by rw [uM_ne _ _ _ (by omega), h2 i hi], by rw [uM_ne _ _ _ (by decide)]; exact h3, uM_eq _ _ _ _, by rw [uM_ne _ _ _ (by decide)]; exact h5, by rw [uM_ne _ _ _ (by decide)]; exact h6⟩
theorem rs.s19 {p s : Nat} {k v : Int32} (h : rs B0 B p s k v) (q : Int32) : rs B0 (uM B 239 19 q) p s q v := by
  obtain ⟨h1, h2, h3, h4, h5, h6⟩ := h
  exact ⟨fun j hj => by rw [uM_off _ _ _ hj, h1 j hj], fun i hi => by rw [uM_ne _ _ _ (by omega), h2 i hi], by rw [uM_ne _ _ _ (by decide)]; exact h3, by rw [uM_ne _ _ _ (by decide)]; exact h4, uM_eq _ _ _ _, by rw [uM_ne _ _ _ (by decide)]; exact h6⟩
theorem rs.s20 {p s : Nat} {k v : Int32} (h : rs B0 B p s k v) (q : Int32) : rs B0 (uM B 239 20 q) p s k q := by
  obtain ⟨h1, h2, h3, h4, h5, h6⟩ := h
  exact ⟨fun j hj => by rw [uM_off _ _ _ hj, h1 j hj], fun i hi => by rw [uM_ne _ _ _ (by omega), h2 i hi], by rw [uM_ne _ _ _ (by decide)]; exact h3, by rw [uM_ne _ _ _ (by decide)]; exact h4, by rw [uM_ne _ _ _ (by decide)]; exact h5, uM_eq _ _ _ _⟩
theorem rs.tr {B1 : Mm} {p s p' s' : Nat} {k v k' v' : Int32} (h : rs B0 B1 p s k v) (h' : rs B1 B p' s' k' v') : rs B0 B p' s' k' v' := ⟨fun j hj => (h'.1 j hj).trans (h.1 j hj), fun i hi => (h'.2.1 i hi).trans (h.2.1 i hi), h'.2.2⟩
theorem F_raw (f : FP B n b) (w : WB n b) {p : Nat} (hp : p < 100000) : f_X11_raw (nI p) B = some (if p < n then nI (b p) else -1, B) := by
  unfold f_X11_raw
  have := w.1
  rw [f.1]
  by_cases c : p < n
  · rw [if_neg (nI_ge_f c (by omega)), gd_t (by omega) (by omega), ix_nI (by omega), f.2.1 p c, if_pos c]
  · rw [if_pos (nI_ge_t (by omega) (by omega)), if_neg c]
theorem m1_32 : ((-1 : Int32) = 32) = False ∧ ((-1 : Int32) = 10) = False := ⟨eq_false (by decide), eq_false (by decide)⟩
theorem F_reads95 (f : FP B0 n b) (w : WB n b) {s : Nat} (hs : s < n) : ∀ (d x fuel : Nat) (B : Mm) (v : Int32), x + d = n → d < fuel → s < x → (∀ i, s ≤ i → i < x → isW (b i) = true) → rs B0 B x s 1 v → ∃ B', f_X11_reads_95 fuel B = some B' ∧ rs B0 B' (rn (fun i => isW (b i)) d x) s (if fnd (fun w => decide (wl b s (rn (fun i => isW (b i)) d x) = w)) 0 (lawW ++ wilW) = -1 then 1 else 2) (fnd (fun w => decide (wl b s (rn (fun i => isW (b i)) d x) = w)) 0 (lawW ++ wilW)) := by
  have w0 := w
  obtain ⟨w1, w2⟩ := w
  have stop : ∀ (x : Nat) (B : Mm) (v : Int32), x ≤ n → s < x → (∀ i, s ≤ i → i < x → isW (b i) = true) → rs B0 B x s 1 v → ∃ B', ((f_X11_wordAt (B 239 18) (B 239 17) B).bind fun q_3 => nm (uM q_3.2 239 20 q_3.1) fun S_4 => if (S_4 239 20) = (-1 : Int32) then some S_4 else nm (uM S_4 239 19 (2 : Int32)) fun S_5 => some S_5) = some B' ∧ rs B0 B' x s (if fnd (fun w => decide (wl b s x = w)) 0 (lawW ++ wilW) = -1 then 1 else 2) (fnd (fun w => decide (wl b s x = w)) 0 (lawW ++ wilW)) := fun x B v hx hsx hj h => by
    have fB := h.FP f
    rw [h.2.2.1, h.2.2.2.1, F_wordAt fB.2.2 fB.2.1 w2 w1 (by omega : s ≤ x) hx (fun i a c => by
      have := hj i a c
      intro e
      rw [e] at this
      exact absurd this (by decide))]
    simp only [bind_x]
    rw [nm_x, uM_eq]
    by_cases c : fnd (fun w => decide (wl b s x = w)) 0 (lawW ++ wilW) = -1
    · rw [if_pos c, if_pos c]
      exact ⟨_, rfl, h.s20 _⟩
    · rw [if_neg c, if_neg c, nm_x]
      exact ⟨_, rfl, (h.s20 _).s19 2⟩
  intro d
  induction d with
  | zero =>
    intro x fuel B v e1 e2 hsx hj h
    cases fuel with
    | zero => omega
    | succ fu =>
      show ∃ B', f_X11_reads_95b (f_X11_reads_95 fu) B = some B' ∧ _
      unfold f_X11_reads_95b
      rw [h.2.2.1, F_raw (h.FP f) w0 (by omega), if_neg (by omega)]
      simp only [bind_x]
      rw [F_isLetterM]
      simp only [bind_x]
      rw [if_pos trivial]
      have := stop x B v (by omega) hsx hj h
      exact this
  | succ d ih =>
    intro x fuel B v e1 e2 hsx hj h
    cases fuel with
    | zero => omega
    | succ fu =>
      show ∃ B', f_X11_reads_95b (f_X11_reads_95 fu) B = some B' ∧ _
      unfold f_X11_reads_95b
      rw [h.2.2.1, F_raw (h.FP f) w0 (by omega), if_pos (by omega)]
      simp only [bind_x]
      rw [F_isLetterC B (w2 x (by omega))]
      simp only [bind_x]
      unfold rn
      by_cases z : isW (b x) = true
      · rw [if_pos z, if_neg (of_eq_false i10), if_pos z, nm_x, h.2.2.1, nI_1]
        exact ih (x + 1) fu _ v (by omega) (by omega) (by omega) (fun i a c => by
          by_cases e : i = x
          · rw [e]; exact z
          · exact hj i a (by omega)) (h.s17 (x + 1))
      · rw [if_neg z, if_pos rfl, if_neg z]
        have := stop x B v (by omega) hsx hj h
        exact this
theorem F_reads171 (f : FP B0 n b) (w : WB n b) {s : Nat} (hs : s < n) : ∀ (d x fuel : Nat) (B : Mm) (v : Int32), x + d = n → d < fuel → s < x → (∀ i, s ≤ i → i < x → isD (b i) = true) → rs B0 B x s 1 v → (x - s ≤ 4 → v = nI (nvF b s (x - s))) → ∃ B' v', f_X11_reads_171 fuel B = some B' ∧ rs B0 B' (rn (fun i => isD (b i)) d x) s (if rn (fun i => isD (b i)) d x - s ≤ 4 then 3 else 1) v' ∧ (rn (fun i => isD (b i)) d x - s ≤ 4 → v' = nI (nvF b s (rn (fun i => isD (b i)) d x - s))) := by
  have w0 := w
  obtain ⟨w1, w2⟩ := w
  have stop : ∀ (x : Nat) (B : Mm) (v : Int32), x ≤ n → s < x → rs B0 B x s 1 v → (x - s ≤ 4 → v = nI (nvF b s (x - s))) → ∃ B' v', (if (5 : Int32) ≤ (B 239 17) - (B 239 18) then some B else nm (uM B 239 19 (3 : Int32)) fun S_3 => some S_3) = some B' ∧ rs B0 B' x s (if x - s ≤ 4 then 3 else 1) v' ∧ (x - s ≤ 4 → v' = nI (nvF b s (x - s))) := fun x B v hx hsx h hv => by
    rw [h.2.2.1, h.2.2.2.1, pk_sub (by omega)]
    by_cases c : x - s ≤ 4
    · rw [if_neg (show ¬ (5 : Int32) ≤ nI (x - s) from nI_ge_f (a := 5) (by omega) (by omega)), if_pos c, nm_x]
      exact ⟨_, v, rfl, h.s19 3, hv⟩
    · rw [if_pos (show (5 : Int32) ≤ nI (x - s) from nI_ge_t (a := 5) (by omega) (by omega)), if_neg c]
      exact ⟨_, v, rfl, h, hv⟩
  intro d
  induction d with
  | zero =>
    intro x fuel B v e1 e2 hsx hj h hv
    cases fuel with
    | zero => omega
    | succ fu =>
      show ∃ B' v', f_X11_reads_171b (f_X11_reads_171 fu) B = some B' ∧ _
      unfold f_X11_reads_171b
      rw [h.2.2.1, F_raw (h.FP f) w0 (by omega), if_neg (by omega)]
      simp only [bind_x]
      rw [F_isDigitM]
      simp only [bind_x]
      rw [if_pos trivial]
      have := stop x B v (by omega) hsx h hv
      exact this
  | succ d ih =>
    intro x fuel B v e1 e2 hsx hj h hv
    cases fuel with
    | zero => omega
    | succ fu =>
      have lt := w2 x (by omega)
      show ∃ B' v', f_X11_reads_171b (f_X11_reads_171 fu) B = some B' ∧ _
      unfold f_X11_reads_171b f_X11_reads_223
      rw [h.2.2.1, F_raw (h.FP f) w0 (by omega), if_pos (by omega)]
      simp only [bind_x]
      rw [F_isDigitC B lt]
      simp only [bind_x]
      unfold rn
      by_cases z : isD (b x) = true
      · rw [if_pos z, if_neg (of_eq_false i10), if_pos z]
        have hj2 : ∀ i, s ≤ i → i < x + 1 → isD (b i) = true := fun i a c => by
          by_cases e : i = x
          · rw [e]; exact z
          · exact hj i a (by omega)
        have go : ∀ u : Int32, (x + 1 - s ≤ 4 → u = nI (nvF b s (x + 1 - s))) → ∃ B' v', f_X11_reads_171 fu (uM (uM B 239 20 u) 239 17 ((uM B 239 20 u) 239 17 + 1)) = some B' ∧ rs B0 B' (rn (fun i => isD (b i)) d (x + 1)) s (if rn (fun i => isD (b i)) d (x + 1) - s ≤ 4 then 3 else 1) v' ∧ (rn (fun i => isD (b i)) d (x + 1) - s ≤ 4 → v' = nI (nvF b s (rn (fun i => isD (b i)) d (x + 1) - s))) := fun u hu => by
          rw [(h.s20 u).2.2.1, nI_1]
          exact ih (x + 1) fu _ u (by omega) (by omega) (by omega) hj2 ((h.s20 u).s17 (x + 1)) hu
        by_cases c : (10000 : Int32) ≤ B 239 20
        · rw [if_pos c, nm_x, nm_x]
          refine go _ fun q => ?_
          have hv := hv (by omega)
          rw [h.2.2.2.2.2, hv] at c
          have lt2 := (nvF_le w0 s (x - s) (by omega) (fun i hi => hj _ (by omega) (by omega))).1
          exact absurd c (nI_ge_f (a := 10000) lt2 (by omega))
        · rw [if_neg c, h.2.2.1, F_raw (h.FP f) w0 (by omega), if_pos (by omega)]
          simp only [bind_x]
          rw [nm_x, nm_x]
          refine go _ fun q => ?_
          have hv := hv (by omega)
          have lt2 := (nvF_le w0 s (x - s) (by omega) (fun i hi => hj _ (by omega) (by omega))).1
          have dj := z
          unfold isD at dj
          have dj := of_decide_eq_true dj
          rw [h.2.2.2.2.2, hv, nI_lit 10, pk_mul, nI_add, nI_lit 48, pk_sub (by omega)]
          congr 1
          rw [show x + 1 - s = (x - s) + 1 by omega]
          show _ = (if x - s < 4 then nvF b s (x - s) * 10 + (b (s + (x - s)) - 48) else nvF b s (x - s))
          rw [if_pos (by omega), show s + (x - s) = x by omega]
          omega
      · rw [if_neg z, if_pos rfl, if_neg z]
        have := stop x B v (by omega) hsx h hv
        exact this
theorem F_reads (f : FP B0 n b) (w : WB n b) : ∀ (d p fuel : Nat) (B : Mm) (s : Nat) (k v : Int32), p + d = n → d < fuel → rs B0 B p s k v → ∃ B' v', f_X11_reads_0 fuel B = some B' ∧ (if sk n b p < n then rs B0 B' (rE n b (sk n b p)) (sk n b p) (rK n b (sk n b p)) v' ∧ rVok n b (sk n b p) v' else rs B0 B' n n 0 v') := by
  have w0 := w
  obtain ⟨w1, w2⟩ := w
  intro d
  induction d with
  | zero =>
    intro p fuel B s k v e1 e2 h
    cases fuel with
    | zero => omega
    | succ fu =>
      have e : p = n := by omega
      subst e
      have es : sk p b p = p := by unfold sk; rw [Nat.sub_self]; rfl
      have r0 := F_raw (h.FP f) w0 (p := p) (by omega)
      rw [if_neg (Nat.lt_irrefl p)] at r0
      rw [es]
      simp only [Nat.lt_irrefl, if_false]
      have h2 := (h.s18 p).s19 1
      have r1 := F_raw (h2.FP f) w0 (p := p) (by omega)
      rw [if_neg (Nat.lt_irrefl p)] at r1
      refine ⟨uM (uM (uM B 239 18 (nI p)) 239 19 1) 239 19 0, v, ?_, h2.s19 0⟩
      show f_X11_reads_0b (f_X11_reads_0 fu) B = _
      unfold f_X11_reads_0b
      rw [h.2.2.1, r0]
      simp only [bind_x]
      rw [if_neg (of_eq_false m1_32.1), h.2.2.1, r0]
      simp only [bind_x]
      rw [if_neg (of_eq_false m1_32.2), nm_x, nm_x, h.2.2.1, h2.2.2.1, r1]
      simp only [bind_x]
      rw [if_pos trivial, nm_x]
  | succ d ih =>
    intro p fuel B s k v e1 e2 h
    cases fuel with
    | zero => omega
    | succ fu =>
      have hp : p < n := by omega
      have lt := w2 p hp
      have r0 := F_raw (h.FP f) w0 (p := p) (by omega)
      rw [if_pos hp] at r0
      show ∃ B' v', f_X11_reads_0b (f_X11_reads_0 fu) B = some B' ∧ _
      unfold f_X11_reads_0b f_X11_reads_26
      rw [h.2.2.1, r0]
      simp only [bind_x]
      have blank : isB (b p) = true → ∃ B' v', (nm (uM B 239 17 ((B 239 17) + (1 : Int32))) fun S_1 => f_X11_reads_0 fu S_1) = some B' ∧ (if sk n b p < n then rs B0 B' (rE n b (sk n b p)) (sk n b p) (rK n b (sk n b p)) v' ∧ rVok n b (sk n b p) v' else rs B0 B' n n 0 v') := fun z => by
        have e : sk n b p = sk n b (p + 1) := by
          unfold sk
          rw [show n - p = (n - (p + 1)) + 1 by omega, rn_t (p := fun i => isB (b i)) z]
        rw [nm_x, h.2.2.1, nI_1, e]
        exact ih (p + 1) fu _ s k v (by omega) (by omega) (h.s17 (p + 1))
      by_cases c32 : b p = 32
      · rw [if_pos (show nI (b p) = 32 by rw [c32]; rfl)]
        have := blank (by unfold isB; rw [c32]; rfl)
        exact this
      · rw [if_neg (show ¬ nI (b p) = 32 from fun q => c32 ((eqc (k := 32) lt (by omega)).mp q)), h.2.2.1, r0]
        simp only [bind_x]
        by_cases c10 : b p = 10
        · rw [if_pos (show nI (b p) = 10 by rw [c10]; rfl)]
          have := blank (by unfold isB; rw [c10]; rfl)
          exact this
        · have nb : isB (b p) = false := by unfold isB; simp [c32, c10]
          have es : sk n b p = p := rn_f (p := fun i => isB (b i)) nb
          rw [es]
          simp only [hp, if_true]
          have h2 := (h.s18 p).s19 1
          have r1 := F_raw (h2.FP f) w0 (p := p) (by omega)
          rw [if_pos hp] at r1
          have h3 := (h2.s17 (p + 1)).s20 (nI (b p))
          rw [if_neg (show ¬ nI (b p) = 10 from fun q => c10 ((eqc (k := 10) lt (by omega)).mp q)), nm_x, nm_x, h.2.2.1, h2.2.2.1, r1]
          simp only [bind_x]
          rw [if_neg (of_eq_false (nI_n1 (by omega))), nm_x, nm_x, h2.2.2.1, nI_1, F_isLetterC _ lt]
          simp only [bind_x]
          by_cases z1 : isW (b p) = true
          · rw [if_pos z1, if_neg (of_eq_false i10)]
            obtain ⟨B', g1, g2⟩ := F_reads95 f w0 hp (n - (p + 1)) (p + 1) FU _ _ (by omega) (by unfold FU; omega) (by omega) (fun i a c => by rw [show i = p by omega]; exact z1) h3
            have ew : rn (fun i => isW (b i)) (n - (p + 1)) (p + 1) = wE n b p := by
              unfold wE
              rw [show n - p = (n - (p + 1)) + 1 by omega, rn_t (p := fun i => isW (b i)) z1]
            rw [ew] at g2
            have ek : rK n b p = if rW n b p = -1 then 1 else 2 := if_pos z1
            have ee : rE n b p = wE n b p := if_pos z1
            refine ⟨B', rW n b p, g1, ?_, ?_⟩
            · rw [ek, ee]; exact g2
            · unfold rVok; rw [if_pos z1]
          · rw [if_neg z1, if_pos rfl, F_isDigitC _ lt]
            simp only [bind_x]
            by_cases z2 : isD (b p) = true
            · rw [if_pos z2, if_neg (of_eq_false i10), nm_x]
              have dj := z2
              unfold isD at dj
              have dj := of_decide_eq_true dj
              have v1 : nI (b p) - 48 = nI (nvF b p 1) := by
                rw [nI_lit 48, pk_sub (by omega)]
                congr 1
                show b p - 48 = 0 * 10 + (b (p + 0) - 48)
                rw [Nat.add_zero]; omega
              rw [v1]
              obtain ⟨B', v', g1, g2, g3⟩ := F_reads171 f w0 hp (n - (p + 1)) (p + 1) FU _ _ (by omega) (by unfold FU; omega) (by omega) (fun i a c => by rw [show i = p by omega]; exact z2) (h3.s20 (nI (nvF b p 1))) (fun _ => by rw [show p + 1 - p = 1 by omega])
              have ew : rn (fun i => isD (b i)) (n - (p + 1)) (p + 1) = dE n b p := by
                unfold dE
                rw [show n - p = (n - (p + 1)) + 1 by omega, rn_t (p := fun i => isD (b i)) z2]
              rw [ew] at g2 g3
              have ek : rK n b p = if dE n b p - p ≤ 4 then 3 else 1 := by unfold rK; rw [if_neg z1, if_pos z2]
              have ee : rE n b p = dE n b p := by unfold rE; rw [if_neg z1, if_pos z2]
              refine ⟨B', v', g1, ?_, ?_⟩
              · rw [ek, ee]; exact g2
              · unfold rVok; rw [if_neg z1, if_pos z2]; exact g3
            · rw [if_neg z2, if_pos rfl, F_isMark _ lt]
              simp only [bind_x]
              have ee : rE n b p = p + 1 := by unfold rE; rw [if_neg z1, if_neg z2]
              have ev : rVok n b p (nI (b p)) := by unfold rVok; rw [if_neg z1, if_neg z2]
              by_cases z3 : lawL.contains (b p) = true
              · have ek : rK n b p = 4 := by unfold rK; rw [if_neg z1, if_neg z2, if_pos z3]
                rw [if_pos z3, if_neg (of_eq_false i10), nm_x]
                refine ⟨_, nI (b p), rfl, ?_, ev⟩
                rw [ek, ee]; exact h3.s19 4
              · have ek : rK n b p = 1 := by unfold rK; rw [if_neg z1, if_neg z2, if_neg z3]
                rw [if_neg z3, if_pos rfl]
                refine ⟨_, nI (b p), rfl, ?_, ev⟩
                rw [ek, ee]; exact h3
end READS
