/-! ===== kin in the reference: all ways at once ===== -/
theorem uM_rMs (S : Mm) (a i : Nat) (f : Nat → Int32) (v : Int32) : uM (rM S a f) a i v = rM S a (upd f i v) := by
  rw [uM_rM, rM_same]
  funext k
  by_cases h : k = a
  · subst h; rw [rM_same, rM_same]
  · rw [rM_off _ _ h, rM_off _ _ h, rM_off _ _ h]
theorem rM_rM (S : Mm) (a : Nat) (f g : Nat → Int32) : rM (rM S a f) a g = rM S a g := by
  funext k
  by_cases h : k = a
  · subst h; rw [rM_same, rM_same]
  · rw [rM_off _ _ h, rM_off _ _ h, rM_off _ _ h]
theorem rM_id (S : Mm) (a : Nat) : rM S a (S a) = S := by
  funext k
  by_cases h : k = a
  · subst h; rw [rM_same]
  · rw [rM_off _ _ h]
theorem ff_ind {σ : Type} {step : Nat → σ → σ} (I : Nat → σ → Prop) : ∀ (d lo : Nat) (s : σ), I lo s → (∀ i s, lo ≤ i → i < lo + d → I i s → I (i + 1) (step i s)) → I (lo + d) (ff step lo d s) := by
  intro d
  induction d with
  | zero => intro lo s h _; exact h
  | succ d ih =>
    intro lo s h hs
    unfold ff
    have := ih (lo + 1) (step lo s) (hs lo s (Nat.le_refl _) (by omega) h) (fun i s h1 h2 h3 => hs i s (by omega) (by omega) h3)
    rwa [show lo + 1 + d = lo + (d + 1) by omega] at this
/-- a row of 144 holds a table -/
def Mat (s : Nat → Int32) (M : Nat → Nat → Nat) : Prop := ∀ a b, a < 12 → b < 12 → s (12 * a + b) = nI (M a b)
def um (M : Nat → Nat → Nat) (a b v : Nat) : Nat → Nat → Nat := fun x y => if x = a ∧ y = b then v else M x y
theorem Mat.upd {s : Nat → Int32} {M : Nat → Nat → Nat} {a b v : Nat} (h : Mat s M) (ha : a < 12) (hb : b < 12) : Mat (upd s (12 * a + b) (nI v)) (um M a b v) := by
  intro x y hx hy
  unfold _root_.Jvm.Pilot.CLetterHeirsLaw_law_r4966_e256d3.upd um
  by_cases e : x = a ∧ y = b
  · rw [if_pos e, if_pos (by rw [e.1, e.2])]
  · rw [if_neg e, if_neg (by omega)]
    exact h x y hx hy
theorem ix_ab {a b : Nat} (ha : a < 12) (hb : b < 12) : nI 12 * nI a + nI b = nI (12 * a + b) := by rw [pk_mul, nI_add]
/-- the first table -/
theorem F_kin0 (B : Mm) : ∃ s, f_X11_findsKin B = f_X11_findsKin_40 FU 0 (rM B 249 s) ∧ Mat s (fun a b => if a = b then 0 else 99) := by
  unfold f_X11_findsKin
  have := itr_for (fun _ _ => none) (fun k => f_X11_findsKin_2b k) (fun f i (s : Nat → Int32) => f (nI i) (rM B 249 s)) 144 (fun i s => upd s i (if i / 12 = i % 12 then 0 else 99)) (fun s => f_X11_findsKin_40 FU 0 (rM B 249 s)) (fun i s => ∀ j, j < i → s j = nI (if j / 12 = j % 12 then 0 else 99)) ?_ ?_ 144 0 FU (B 249) (by omega) (by unfold FU; omega) (fun j h => by omega)
  · have h := this.1
    rw [rM_id] at h
    refine ⟨_, h, fun a b ha hb => ?_⟩
    rw [this.2 (12 * a + b) (by omega), show (12 * a + b) / 12 = a by omega, show (12 * a + b) % 12 = b by omega]
  · intro rec i s hi hI
    refine ⟨?_, fun j hj => ?_⟩
    · show f_X11_findsKin_2b rec (nI i) (rM B 249 s) = _
      have hir : irem (nI i) (nI 12) = nI (i % 12) := pk_rem (by omega) (by omega) (by omega)
      simp only [f_X11_findsKin_2b, f_X11_findsKin_31, nm]
      rw [nI_lit 144, nI_lit 12, if_neg (by rw [nI_leI (by omega) (by omega)]; omega), hir, pk_div (by omega) (by omega) (by omega), gd_pos ((inB_nI (by omega)).mpr (by omega)), gd_pos ((inB_nI (by omega)).mpr (by omega)), ix_nI (by omega), nI_1, uM_rMs, uM_rMs]
      by_cases e : i / 12 = i % 12
      · rw [if_pos (by rw [e]), if_pos e]
      · rw [if_neg (by rw [nI_inj (by omega) (by omega)]; exact e), if_neg e]
    · show (upd s i _) j = _
      unfold upd
      by_cases e : j = i
      · subst e; rw [if_pos rfl]; split <;> rfl
      · rw [if_neg e]; exact hI j (by omega)
  · intro rec s hI
    show f_X11_findsKin_2b rec (nI 144) (rM B 249 s) = _
    unfold f_X11_findsKin_2b
    rw [nI_lit 144, if_pos (by rw [nI_leI (by omega) (by omega)]; omega)]
def lk (P : PP) (D : DD) (q b : Nat) : Prop := pMo P q = b + 1 ∨ pFa P q = b + 1 ∨ dSp D q = b + 1
theorem F_areNear {B : Mm} {s : Nat → Int32} {M : Nat → Nat → Nat} {q c : Nat} (hs : Mat s M) (hq : q < 12) (hc : c ≤ 12) : ∃ s', f_X11_areNear (nI q) (eo c) (rM B 249 s) = some (rM B 249 s') ∧ Mat s' (if c = 0 then M else um (um M q (c - 1) 1) (c - 1) q 1) := by
  simp only [f_X11_areNear, nm]
  have h1 : ¬ nI q = -1 := fun e => by
    have := nI_pos' (n := q) (by omega)
    rw [e] at this
    exact absurd this (by decide)
  rw [if_neg h1]
  cases c with
  | zero => rw [eo_0, if_pos rfl]; exact ⟨s, rfl, by rw [if_pos rfl]; exact hs⟩
  | succ c =>
    rw [eo_s]
    have h2 : ¬ nI c = -1 := fun e => by
      have := nI_pos' (n := c) (by omega)
      rw [e] at this
      exact absurd this (by decide)
    rw [if_neg h2, nI_lit 12, ix_ab (by omega) (by omega), ix_ab (by omega) (by omega), gd_pos ((inB_nI (by omega)).mpr (by omega)), gd_pos ((inB_nI (by omega)).mpr (by omega)), ix_nI (by omega), ix_nI (by omega), uM_rMs, uM_rMs]
    refine ⟨_, rfl, ?_⟩
    rw [if_neg (by omega), Nat.add_sub_cancel]
    exact (hs.upd (by omega) (by omega)).upd (by omega) (by omega)
/-- the table with the steps of one -/
theorem F_kin1 {B : Mm} {P : PP} {D : DD} (hS : RS B P) (hW : RW (B 240) P D) (hP : WFP P) (hD : WFD P D) {s : Nat → Int32} (hs : Mat s (fun a b => if a = b then 0 else 99)) : ∃ s', f_X11_findsKin_40 FU 0 (rM B 249 s) = f_X11_findsKin_92 FU 0 (rM B 249 s') ∧ Mat s' (fun a b => if a = b then 0 else if a < pN P ∧ b < pN P ∧ adj P D a b = true then 1 else 99) := by
  have hN := hP.1
  have key : ∀ (d lo fuel : Nat) (s : Nat → Int32) (M : Nat → Nat → Nat), lo + d = pN P → d < fuel → Mat s M → (∀ a b, M a b = if a = b then 0 else if (a < lo ∧ (pMo P a = b + 1 ∨ pFa P a = b + 1 ∨ dSp D a = b + 1)) ∨ (b < lo ∧ (pMo P b = a + 1 ∨ pFa P b = a + 1 ∨ dSp D b = a + 1)) then 1 else 99) → ∃ s', f_X11_findsKin_40 fuel (nI lo) (rM B 249 s) = f_X11_findsKin_92 FU 0 (rM B 249 s') ∧ Mat s' (fun a b => if a = b then 0 else if a < pN P ∧ b < pN P ∧ adj P D a b = true then 1 else 99) := by
    intro d
    induction d with
    | zero =>
      intro lo fuel s M h1 h2 hs hM
      cases fuel with
      | zero => omega
      | succ f =>
        have e : lo = pN P := by omega
        subst e
        refine ⟨s, ?_, fun a b ha hb => ?_⟩
        · show f_X11_findsKin_40b (f_X11_findsKin_40 f) (nI (pN P)) (rM B 249 s) = _
          unfold f_X11_findsKin_40b
          rw [rM_off _ _ (by decide), hS.1.1, if_pos (by rw [nI_leI (by omega) (by omega)]; omega)]
        · rw [hs a b ha hb, hM a b]
          congr 1
          show _ = (if a = b then 0 else if a < pN P ∧ b < pN P ∧ adj P D a b = true then 1 else 99)
          by_cases e : a = b
          · rw [if_pos e, if_pos e]
          · rw [if_neg e, if_neg e]
            have b1 : a < pN P → (pMo P a = b + 1 ∨ pFa P a = b + 1 ∨ dSp D a = b + 1) → b < pN P := fun ha' h => by
              have m := hP.2.2 a ha'
              have m2 := hD.2.1 a ha'
              omega
            have b2 : b < pN P → (pMo P b = a + 1 ∨ pFa P b = a + 1 ∨ dSp D b = a + 1) → a < pN P := fun ha' h => by
              have m := hP.2.2 b ha'
              have m2 := hD.2.1 b ha'
              omega
            by_cases c : (a < pN P ∧ (pMo P a = b + 1 ∨ pFa P a = b + 1 ∨ dSp D a = b + 1)) ∨ (b < pN P ∧ (pMo P b = a + 1 ∨ pFa P b = a + 1 ∨ dSp D b = a + 1))
            · rw [if_pos c, if_pos]
              rcases c with ⟨c1, c2⟩ | ⟨c1, c2⟩
              · exact ⟨c1, b1 c1 c2, decide_eq_true (by omega)⟩
              · exact ⟨b2 c1 c2, c1, decide_eq_true (by omega)⟩
            · rw [if_neg c, if_neg]
              rintro ⟨c1, c2, c3⟩
              have c4 := of_decide_eq_true c3
              exact c (by omega)
    | succ d ih =>
      intro lo fuel s M h1 h2 hs hM
      cases fuel with
      | zero => omega
      | succ f =>
        have hlo : lo < pN P := by omega
        have q := hS.2 lo hlo
        have m := hP.2.2 lo hlo
        have m2 := hD.2.1 lo hlo
        obtain ⟨s1, e1, g1⟩ := F_areNear (B := B) hs (q := lo) (c := pMo P lo) (by omega) (by omega)
        obtain ⟨s2, e2, g2⟩ := F_areNear (B := B) g1 (q := lo) (c := pFa P lo) (by omega) (by omega)
        obtain ⟨s3, e3, g3⟩ := F_areNear (B := B) g2 (q := lo) (c := dSp D lo) (by omega) (by omega)
        have hW2 : RW ((rM B 249 s2) 240) P D := by rw [rM_off _ _ (by decide)]; exact hW
        have step : f_X11_findsKin_40 (f + 1) (nI lo) (rM B 249 s) = f_X11_findsKin_40 f (nI (lo + 1)) (rM B 249 s3) := by
          show f_X11_findsKin_40b (f_X11_findsKin_40 f) (nI lo) (rM B 249 s) = _
          simp only [f_X11_findsKin_40b, nm]
          rw [rM_off _ _ (by decide), hS.1.1, if_neg (by rw [nI_leI (by omega) (by omega)]; omega), gd_pos ((inB_nI (by omega)).mpr (by omega)), ix_nI (by omega), rM_off _ _ (by decide), q.1, nI_eo, e1]
          simp only [Option.bind_some]
          rw [gd_pos ((inB_nI (by omega)).mpr (by omega)), rM_off _ _ (by decide), q.2.1, nI_eo, e2]
          simp only [Option.bind_some]
          rw [F_spouseOf hW2 hN hlo]
          simp only [Option.bind_some]
          rw [e3]
          simp only [Option.bind_some]
          rw [nI_1]
        rw [step]
        refine ih (lo + 1) f s3 _ (by omega) (by omega) g3 (fun a b => ?_)
        have hMab := hM a b
        have nb : ∀ (M : Nat → Nat → Nat) (c : Nat) (a b : Nat), (if c = 0 then M else um (um M lo (c - 1) 1) (c - 1) lo 1) a b = if c ≠ 0 ∧ ((a = lo ∧ b + 1 = c) ∨ (b = lo ∧ a + 1 = c)) then 1 else M a b := by
          intro M c a b
          by_cases hc : c = 0
          · rw [if_pos hc, if_neg (by omega)]
          · rw [if_neg hc]
            unfold um
            by_cases k1 : a = c - 1 ∧ b = lo
            · rw [if_pos k1, if_pos (by omega)]
            · rw [if_neg k1]
              by_cases k2 : a = lo ∧ b = c - 1
              · rw [if_pos k2, if_pos (by omega)]
              · rw [if_neg k2, if_neg (by omega)]
        rw [nb, nb, nb, hMab]
        by_cases e : a = b
        · subst e
          rw [if_neg (fun h => by obtain ⟨g0, ⟨g1, g2⟩ | ⟨g1, g2⟩⟩ := h <;> exact m2.2 (by rw [← g2, g1])), if_neg (fun h => by obtain ⟨g0, ⟨g1, g2⟩ | ⟨g1, g2⟩⟩ := h <;> (have := m.2; omega)), if_neg (fun h => by obtain ⟨g0, ⟨g1, g2⟩ | ⟨g1, g2⟩⟩ := h <;> (have := m.1; omega)), if_pos rfl, if_pos rfl]
        · rw [if_neg e, if_neg e]
          by_cases c3 : dSp D lo ≠ 0 ∧ ((a = lo ∧ b + 1 = dSp D lo) ∨ (b = lo ∧ a + 1 = dSp D lo))
          · rw [if_pos c3, if_pos]
            obtain ⟨_, ⟨rfl, c⟩ | ⟨rfl, c⟩⟩ := c3
            · exact Or.inl ⟨Nat.lt_succ_self _, Or.inr (Or.inr c.symm)⟩
            · exact Or.inr ⟨Nat.lt_succ_self _, Or.inr (Or.inr c.symm)⟩
          · rw [if_neg c3]
            by_cases c2 : pFa P lo ≠ 0 ∧ ((a = lo ∧ b + 1 = pFa P lo) ∨ (b = lo ∧ a + 1 = pFa P lo))
            · rw [if_pos c2, if_pos]
              obtain ⟨_, ⟨rfl, c⟩ | ⟨rfl, c⟩⟩ := c2
              · exact Or.inl ⟨Nat.lt_succ_self _, Or.inr (Or.inl c.symm)⟩
              · exact Or.inr ⟨Nat.lt_succ_self _, Or.inr (Or.inl c.symm)⟩
            · rw [if_neg c2]
              by_cases c1 : pMo P lo ≠ 0 ∧ ((a = lo ∧ b + 1 = pMo P lo) ∨ (b = lo ∧ a + 1 = pMo P lo))
              · rw [if_pos c1, if_pos]
                obtain ⟨_, ⟨rfl, c⟩ | ⟨rfl, c⟩⟩ := c1
                · exact Or.inl ⟨Nat.lt_succ_self _, Or.inl c.symm⟩
                · exact Or.inr ⟨Nat.lt_succ_self _, Or.inl c.symm⟩
              · rw [if_neg c1]
                by_cases c0 : (a < lo ∧ (pMo P a = b + 1 ∨ pFa P a = b + 1 ∨ dSp D a = b + 1)) ∨ (b < lo ∧ (pMo P b = a + 1 ∨ pFa P b = a + 1 ∨ dSp D b = a + 1))
                · rw [if_pos c0, if_pos]
                  rcases c0 with ⟨h5, h6⟩ | ⟨h5, h6⟩
                  · exact Or.inl ⟨Nat.lt_succ_of_lt h5, h6⟩
                  · exact Or.inr ⟨Nat.lt_succ_of_lt h5, h6⟩
                · rw [if_neg c0, if_neg]
                  intro c9
                  apply c0
                  rcases c9 with ⟨h5, h6⟩ | ⟨h5, h6⟩
                  · by_cases ea : a = lo
                    · subst ea
                      rcases h6 with h6 | h6 | h6
                      · exact absurd ⟨fun z => Nat.succ_ne_zero b (h6.symm.trans z), Or.inl ⟨rfl, h6.symm⟩⟩ c1
                      · exact absurd ⟨fun z => Nat.succ_ne_zero b (h6.symm.trans z), Or.inl ⟨rfl, h6.symm⟩⟩ c2
                      · exact absurd ⟨fun z => Nat.succ_ne_zero b (h6.symm.trans z), Or.inl ⟨rfl, h6.symm⟩⟩ c3
                    · exact Or.inl ⟨Nat.lt_of_le_of_ne (Nat.le_of_lt_succ h5) ea, h6⟩
                  · by_cases ea : b = lo
                    · subst ea
                      rcases h6 with h6 | h6 | h6
                      · exact absurd ⟨fun z => Nat.succ_ne_zero a (h6.symm.trans z), Or.inr ⟨rfl, h6.symm⟩⟩ c1
                      · exact absurd ⟨fun z => Nat.succ_ne_zero a (h6.symm.trans z), Or.inr ⟨rfl, h6.symm⟩⟩ c2
                      · exact absurd ⟨fun z => Nat.succ_ne_zero a (h6.symm.trans z), Or.inr ⟨rfl, h6.symm⟩⟩ c3
                    · exact Or.inr ⟨Nat.lt_of_le_of_ne (Nat.le_of_lt_succ h5) ea, h6⟩
  exact key (pN P) 0 FU s _ (by omega) (by unfold FU; omega) hs (fun a b => by simp)
