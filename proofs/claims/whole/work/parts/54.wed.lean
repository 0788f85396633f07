/-! ===== weddings and partings ===== -/
def prE (P : PP) (m q : Nat) : Bool := decide (m ≠ 0 ∧ (pMo P q = m ∨ pFa P q = m))
def mayW (P : PP) (D : DD) (a b : Nat) : Bool := decide (a ≠ b) && liv P D a && liv P D b && decide (dSp D a = 0) && decide (dSp D b = 0) && !prE P (a + 1) b && !prE P (b + 1) a && !prE P (pMo P a) b && !prE P (pFa P a) b
abbrev jnD (D : DD) (a b : Nat) : DD := sSp (sSp D a (b + 1)) b (a + 1)
abbrev spD (D : DD) (a b : Nat) : DD := sSp (sSp D a 0) b 0
theorem jn_sp {D : DD} {a b : Nat} (q : Nat) : dSp (jnD D a b) q = if q = b then a + 1 else if q = a then b + 1 else dSp D q := by
  show un (un D.1 4 a (b + 1)) 4 b (a + 1) 4 q = _
  by_cases c : q = b
  · subst c; rw [un_eq, if_pos rfl]
  · rw [un_ne _ _ _ c, if_neg c]
    by_cases c2 : q = a
    · subst c2; rw [un_eq, if_pos rfl]
    · rw [un_ne _ _ _ c2, if_neg c2]
theorem sp_sp {D : DD} {a b : Nat} (q : Nat) : dSp (spD D a b) q = if q = b then 0 else if q = a then 0 else dSp D q := by
  show un (un D.1 4 a 0) 4 b 0 4 q = _
  by_cases c : q = b
  · subst c; rw [un_eq, if_pos rfl]
  · rw [un_ne _ _ _ c, if_neg c]
    by_cases c2 : q = a
    · subst c2; rw [un_eq, if_pos rfl]
    · rw [un_ne _ _ _ c2, if_neg c2]
section WED
variable {P : PP} {D : DD}
theorem C_isParent {A : Mm} {c m q : Nat} (h : RK (fun j => A (c + j)) P D) (hP : WFP P) (hm : m ≤ 12) (hq : q < pN P) : f_X1_isParent c (eo m) (nI q) A = some (if prE P m q = true then 1 else 0, A) := by
  have hN := hP.1
  have w := hP.2.2 q hq
  have k1 : A (c + 1) q = eo (pMo P q) := (h.2.2.1 q hq).1
  have k2 : A (c + 2) q = eo (pFa P q) := (h.2.2.1 q hq).2.1
  unfold f_X1_isParent f_X1_isParent_29 f_X1_isParent_25 prE
  by_cases c0 : m = 0
  · rw [if_pos ((eo_m1 (by omega)).mpr c0), if_neg (by simp [c0])]
  · rw [if_neg (by rw [eo_m1 (by omega)]; exact c0), gd_t (by omega) (by omega), gd_t (by omega) (by omega), ix_nI (by omega), k1, k2]
    by_cases c1 : pMo P q = m
    · rw [if_pos (by rw [c1]), if_pos (by simp [c0, c1])]
    · rw [if_neg (by rw [eo_inj (by omega) (by omega)]; exact c1)]
      by_cases c2 : pFa P q = m
      · rw [if_pos (by rw [c2]), if_pos (by simp [c0, c2])]
      · rw [if_neg (by rw [eo_inj (by omega) (by omega)]; exact c2), if_neg (by simp [c1, c2])]
theorem F_isChild {B : Mm} {m q : Nat} (h : RS B P) (hP : WFP P) (hm : m ≤ 12) (h0 : m ≠ 0) (hq : q < pN P) : f_X11_isChild (nI q) (eo m) B = some (if prE P m q = true then 1 else 0, B) := by
  have hN := hP.1
  have w := hP.2.2 q hq
  have k1 : B 243 q = nI (pMo P q) := (h.2 q hq).1
  have k2 : B 244 q = nI (pFa P q) := (h.2 q hq).2.1
  unfold f_X11_isChild f_X11_isChild_24 prE
  rw [gd_t (by omega) (by omega), gd_t (by omega) (by omega), ix_nI (by omega), k1, k2, nI_eo, nI_eo]
  by_cases c1 : pMo P q = m
  · rw [if_pos (by rw [c1]), if_pos (by simp [h0, c1])]
  · rw [if_neg (by rw [eo_inj (by omega) (by omega)]; exact c1)]
    by_cases c2 : pFa P q = m
    · rw [if_pos (by rw [c2]), if_pos (by simp [h0, c2])]
    · rw [if_neg (by rw [eo_inj (by omega) (by omega)]; exact c2), if_neg (by simp [c1, c2])]
theorem C_mayWed {A : Mm} {c a b : Nat} (h : RK (fun j => A (c + j)) P D) (hP : WFP P) (hD : WFD P D) (ha : a < pN P) (hb : b < pN P) : f_X1_mayWed c (nI a) (nI b) A = some (if mayW P D a b = true then 1 else 0, A) := by
  have hN := hP.1
  have wa := hP.2.2 a ha
  have k1 : A (c + 1) a = eo (pMo P a) := (h.2.2.1 a ha).1
  have k2 : A (c + 2) a = eo (pFa P a) := (h.2.2.1 a ha).2.1
  have s1 : A (c + 8) a = eo (dSp D a) := (h.2.2.1 a ha).2.2.2.2.2.2.2.1
  have s2 : A (c + 8) b = eo (dSp D b) := (h.2.2.1 b hb).2.2.2.2.2.2.2.1
  have d1 := (hD.2.1 a ha).1
  have d2 := (hD.2.1 b hb).1
  unfold f_X1_mayWed f_X1_mayWed_95 mayW
  by_cases c0 : a = b
  · rw [if_pos (by rw [c0]), if_neg (by simp [c0])]
  · rw [if_neg (by rw [nI_inj (by omega) (by omega)]; exact c0), C_lives h hN ha]
    simp only [Option.bind_some]
    by_cases c1 : liv P D a = true
    · rw [if_pos c1, if_neg (by decide), C_lives h hN hb]
      simp only [Option.bind_some]
      by_cases c2 : liv P D b = true
      · rw [if_pos c2, if_neg (by decide), gd_t (by omega) (by omega), gd_t (by omega) (by omega), ix_nI (by omega), ix_nI (by omega), s1, s2]
        by_cases c3 : dSp D a = 0
        · rw [if_pos ((eo_m1 (by omega)).mpr c3)]
          by_cases c4 : dSp D b = 0
          · rw [if_pos ((eo_m1 (by omega)).mpr c4), show nI a = eo (a + 1) from (eo_s a).symm, C_isParent h hP (by omega) hb]
            simp only [Option.bind_some]
            by_cases c5 : prE P (a + 1) b = true
            · rw [if_pos c5, if_neg (by decide), if_neg (by simp [c5])]
            · rw [if_neg c5, if_pos rfl, eo_s, show nI b = eo (b + 1) from (eo_s b).symm, C_isParent h hP (by omega) ha, eo_s]
              simp only [Option.bind_some]
              by_cases c6 : prE P (b + 1) a = true
              · rw [if_pos c6, if_neg (by decide), if_neg (by simp [c6])]
              · rw [if_neg c6, if_pos rfl, gd_t (by omega) (by omega), k1, C_isParent h hP (by omega) hb]
                simp only [Option.bind_some]
                by_cases c7 : prE P (pMo P a) b = true
                · rw [if_pos c7, if_neg (by decide), if_neg (by simp [c7])]
                · rw [if_neg c7, if_pos rfl, gd_t (by omega) (by omega), k2, C_isParent h hP (by omega) hb]
                  simp only [Option.bind_some]
                  by_cases c8 : prE P (pFa P a) b = true
                  · rw [if_pos c8, if_neg (by decide), if_neg (by simp [c8])]
                  · rw [if_neg c8, if_pos rfl, if_pos (by simp [c0, c1, c2, c3, c4, c5, c6, c7, c8])]
          · rw [if_neg (by rw [eo_m1 (by omega)]; exact c4), if_neg (by simp [c4])]
        · rw [if_neg (by rw [eo_m1 (by omega)]; exact c3), if_neg (by simp [c3])]
      · rw [if_neg c2, if_pos rfl, if_neg (by simp [c2])]
    · rw [if_neg c1, if_pos rfl, if_neg (by simp [c1])]
theorem F_common {B : Mm} {a b : Nat} (h : RS B P) (hP : WFP P) (ha : a < pN P) (hb : b < pN P) : f_X11_haveParentInCommon (nI a) (nI b) B = some (if prE P (pMo P a) b = true ∨ prE P (pFa P a) b = true then 1 else 0, B) := by
  have hN := hP.1
  have wa := hP.2.2 a ha
  have k1 : B 243 a = nI (pMo P a) := (h.2 a ha).1
  have k2 : B 244 a = nI (pFa P a) := (h.2 a ha).2.1
  have z : ∀ m, (nI m ≤ 0) = (nI m ≤ nI 0) := fun _ => rfl
  have second : f_X11_haveParentInCommon_27 (nI a) (nI b) B = some (if prE P (pFa P a) b = true then 1 else 0, B) := by
    unfold f_X11_haveParentInCommon_27 f_X11_haveParentInCommon_56
    rw [gd_t (by omega) (by omega), gd_t (by omega) (by omega), ix_nI (by omega), k2]
    by_cases c : pFa P a = 0
    · rw [if_pos (by rw [c]; decide), if_neg (by unfold prE; simp [c])]
    · rw [if_neg (by rw [z]; exact nI_ge_f (by omega) (by omega)), nI_eo, F_isChild h hP (by omega) c hb]
      simp only [Option.bind_some]
      cases prE P (pFa P a) b <;> rfl
  unfold f_X11_haveParentInCommon
  rw [gd_t (by omega) (by omega), gd_t (by omega) (by omega), ix_nI (by omega), k1]
  by_cases c : pMo P a = 0
  · have e : prE P (pMo P a) b = false := by unfold prE; simp [c]
    rw [if_pos (by rw [c]; decide), second, e]
    simp
  · rw [if_neg (by rw [z]; exact nI_ge_f (by omega) (by omega)), nI_eo, F_isChild h hP (by omega) c hb]
    simp only [Option.bind_some]
    by_cases c2 : prE P (pMo P a) b = true
    · rw [if_pos c2, if_neg (by decide), if_pos (Or.inl c2)]
    · rw [if_neg c2, if_pos rfl, second]
      simp [c2]
theorem F_canWed {B : Mm} {a b : Nat} (h : RB B P D) (hP : WFP P) (hD : WFD P D) (ha : a < pN P) (hb : b < pN P) : f_X11_canWed (nI a) (nI b) B = some (if mayW P D a b = true then 1 else 0, B) := by
  have hN := hP.1
  have d1 := (hD.2.1 a ha).1
  have d2 := (hD.2.1 b hb).1
  unfold f_X11_canWed f_X11_canWed_72 mayW
  rw [F_isLiving h.1 h.2.1 hN ha]
  simp only [Option.bind_some]
  by_cases c1 : liv P D a = true
  · rw [if_pos c1, if_neg (by decide), F_isLiving h.1 h.2.1 hN hb]
    simp only [Option.bind_some]
    by_cases c2 : liv P D b = true
    · rw [if_pos c2, if_neg (by decide)]
      by_cases c0 : a = b
      · rw [if_pos (by rw [c0]), if_neg (by simp [c0])]
      · rw [if_neg (by rw [nI_inj (by omega) (by omega)]; exact c0), F_spouseOf h.2.1 hN ha]
        simp only [Option.bind_some]
        by_cases c3 : dSp D a = 0
        · rw [if_pos ((eo_m1 (by omega)).mpr c3), F_spouseOf h.2.1 hN hb]
          simp only [Option.bind_some]
          by_cases c4 : dSp D b = 0
          · have i1 := F_isChild h.1 hP (m := b + 1) (q := a) (by omega) (by omega) ha
            have i2 := F_isChild h.1 hP (m := a + 1) (q := b) (by omega) (by omega) hb
            rw [eo_s] at i1 i2
            rw [if_pos ((eo_m1 (by omega)).mpr c4), i1]
            simp only [Option.bind_some]
            by_cases c6 : prE P (b + 1) a = true
            · rw [if_pos c6, if_neg (by decide), if_neg (by simp [c6])]
            · rw [if_neg c6, if_pos rfl, i2]
              simp only [Option.bind_some]
              by_cases c5 : prE P (a + 1) b = true
              · rw [if_pos c5, if_neg (by decide), if_neg (by simp [c5])]
              · rw [if_neg c5, if_pos rfl, F_common h.1 hP ha hb]
                simp only [Option.bind_some]
                by_cases c7 : prE P (pMo P a) b = true ∨ prE P (pFa P a) b = true
                · rw [if_pos c7, if_neg (by decide), if_neg]
                  rcases c7 with c7 | c7 <;> simp [c7]
                · rw [if_neg c7, if_pos rfl, if_pos]
                  have c8 : ¬ prE P (pMo P a) b = true := fun e => c7 (Or.inl e)
                  have c9 : ¬ prE P (pFa P a) b = true := fun e => c7 (Or.inr e)
                  simp [c0, c1, c2, c3, c4, c5, c6, c8, c9]
          · rw [if_neg (by rw [eo_m1 (by omega)]; exact c4), if_neg (by simp [c4])]
        · rw [if_neg (by rw [eo_m1 (by omega)]; exact c3), if_neg (by simp [c3])]
    · rw [if_neg c2, if_pos rfl, if_neg (by simp [c2])]
  · rw [if_neg c1, if_pos rfl, if_neg (by simp [c1])]
/-- what a wedding asks -/
theorem mayW_of {a b : Nat} (h : mayW P D a b = true) : a ≠ b ∧ liv P D a = true ∧ liv P D b = true ∧ dSp D a = 0 ∧ dSp D b = 0 ∧ pMo P b ≠ a + 1 ∧ pFa P b ≠ a + 1 ∧ pMo P a ≠ b + 1 ∧ pFa P a ≠ b + 1 := by
  unfold mayW prE at h
  simp at h
  obtain ⟨⟨⟨⟨⟨⟨⟨⟨h1, h2⟩, h3⟩, h4⟩, h5⟩, h6⟩, h7⟩, -⟩, -⟩ := h
  exact ⟨h1, h2, h3, h4, h5, h6.1, h6.2, h7.1, h7.2⟩
theorem WFD_jn (h : WFD P D) {a b : Nat} (hm : mayW P D a b = true) : WFD P (jnD D a b) := by
  obtain ⟨c0, c1, c2, c3, c4, c5, c6, c7, c8⟩ := mayW_of hm
  have ha := liv_lt c1
  have hb := liv_lt c2
  have la : dDead D a = 0 := by unfold liv at c1; simp [ha] at c1; exact c1
  have lb : dDead D b = 0 := by unfold liv at c2; simp [hb] at c2; exact c2
  refine ⟨h.1, fun q hq => ?_, fun x y hx hy e => ?_, fun x y hx hy hd e => ?_⟩
  · rw [jn_sp]
    have := h.2.1 q hq
    split
    · omega
    · split <;> omega
  · rw [jn_sp] at e
    split at e
    · rename_i k
      subst k
      have : y = a := by omega
      subst this
      exact ⟨c5, c6, c7, c8⟩
    · split at e
      · rename_i k1 k
        subst k
        have : y = b := by omega
        subst this
        exact ⟨c7, c8, c5, c6⟩
      · exact h.2.2.1 x y hx hy e
  · have hd' : dDead D x = 0 := hd
    rw [jn_sp] at e
    rw [jn_sp]
    show dDead D y = 0 ∧ _
    split at e
    · rename_i k; have : y = a := by omega
      subst this; rw [if_neg c0, if_pos rfl]; exact ⟨la, by omega⟩
    · rename_i k1
      split at e
      · rename_i k; have : y = b := by omega
        subst this; rw [if_pos rfl]; exact ⟨lb, by omega⟩
      · rename_i k2
        obtain ⟨p, q⟩ := h.2.2.2 x y hx hy hd' e
        refine ⟨p, ?_⟩
        rw [if_neg (fun z => by subst z; omega), if_neg (fun z => by subst z; omega)]
        exact q
theorem WFD_sp (h : WFD P D) {a b : Nat} (h1 : dSp D a = b + 1) (h2 : dSp D b = a + 1) : WFD P (spD D a b) := by
  refine ⟨h.1, fun q hq => ?_, fun x y hx hy e => ?_, fun x y hx hy hd e => ?_⟩
  · rw [sp_sp]
    have := h.2.1 q hq
    split
    · omega
    · split <;> omega
  · rw [sp_sp] at e
    split at e
    · omega
    · split at e
      · omega
      · exact h.2.2.1 x y hx hy e
  · rw [sp_sp] at e
    rw [sp_sp]
    split at e
    · omega
    · split at e
      · omega
      · rename_i k1 k2
        obtain ⟨p, q⟩ := h.2.2.2 x y hx hy hd e
        refine ⟨p, ?_⟩
        rw [if_neg (fun z => by subst z; omega), if_neg (fun z => by subst z; omega)]
        exact q
theorem adj_jn {a b : Nat} (c0 : a ≠ b) (c3 : dSp D a = 0) (c4 : dSp D b = 0) (q i : Nat) : adj P (jnD D a b) q i = (adj P D q i || decide (q = a ∧ i = b) || decide (q = b ∧ i = a)) := by
  unfold adj
  rw [jn_sp, jn_sp, Bool.eq_iff_iff]
  simp only [Bool.or_eq_true, decide_eq_true_eq]
  by_cases k1 : q = b
  · subst k1
    rw [if_pos rfl]
    by_cases k2 : i = q
    · subst k2; rw [if_pos rfl]; omega
    · rw [if_neg k2]
      by_cases k3 : i = a
      · subst k3; rw [if_pos rfl]; omega
      · rw [if_neg k3]; omega
  · rw [if_neg k1]
    by_cases k4 : q = a
    · subst k4
      rw [if_pos rfl]
      by_cases k2 : i = b
      · subst k2; rw [if_pos rfl]; omega
      · rw [if_neg k2]
        by_cases k3 : i = q
        · subst k3; rw [if_pos rfl]; omega
        · rw [if_neg k3]; omega
    · rw [if_neg k4]
      by_cases k2 : i = b
      · subst k2; rw [if_pos rfl]; omega
      · rw [if_neg k2]
        by_cases k3 : i = a
        · subst k3; rw [if_pos rfl]; omega
        · rw [if_neg k3]; omega
theorem adj_sp {a b : Nat} (c0 : a ≠ b) (h1 : dSp D a = b + 1) (h2 : dSp D b = a + 1) (np : pMo P a ≠ b + 1 ∧ pFa P a ≠ b + 1 ∧ pMo P b ≠ a + 1 ∧ pFa P b ≠ a + 1) (q i : Nat) : adj P (spD D a b) q i = (adj P D q i && !decide (q = a ∧ i = b) && !decide (q = b ∧ i = a)) := by
  unfold adj
  rw [sp_sp, sp_sp, Bool.eq_iff_iff]
  simp only [Bool.and_eq_true, Bool.not_eq_true', decide_eq_false_iff_not, decide_eq_true_eq]
  by_cases k1 : q = b
  · subst k1
    rw [if_pos rfl]
    by_cases k2 : i = q
    · subst k2; rw [if_pos rfl]; omega
    · rw [if_neg k2]
      by_cases k3 : i = a
      · subst k3; rw [if_pos rfl]; omega
      · rw [if_neg k3]; omega
  · rw [if_neg k1]
    by_cases k4 : q = a
    · subst k4
      rw [if_pos rfl]
      by_cases k2 : i = b
      · subst k2; rw [if_pos rfl]; omega
      · rw [if_neg k2]
        by_cases k3 : i = q
        · subst k3; rw [if_pos rfl]; omega
        · rw [if_neg k3]; omega
    · rw [if_neg k4]
      by_cases k2 : i = b
      · subst k2; rw [if_pos rfl]; omega
      · rw [if_neg k2]
        by_cases k3 : i = a
        · subst k3; rw [if_pos rfl]; omega
        · rw [if_neg k3]; omega
theorem C_join {A : Mm} {c a b : Nat} (h : RK (fun j => A (c + j)) P D) (hN : pN P ≤ 12) (hm : mayW P D a b = true) : ∃ A', f_X1_join c (nI a) (nI b) A = some A' ∧ RK (fun j => A' (c + j)) P (jnD D a b) ∧ ∀ k, k ≠ c + 8 → k ≠ c + 9 → A' k = A k := by
  obtain ⟨c0, c1, c2, c3, c4, -⟩ := mayW_of hm
  have ha := liv_lt c1
  have hb := liv_lt c2
  unfold f_X1_join f_X1_link
  simp only [nm]
  simp (disch := omega) only [gd_t, ix_nI, Option.bind_some]
  rw [uM_ne _ _ _ (Ne.symm c0), uM_off _ _ _ (by omega), uM_off _ _ _ (by omega)]
  refine ⟨_, rfl, ?_, fun k p q => by rw [uM_off _ _ _ q, uM_off _ _ _ q, uM_off _ _ _ p, uM_off _ _ _ p]⟩
  rw [uM_sh, uM_sh, uM_sh, uM_sh]
  refine ⟨h.1, h.2.1, fun q hq => ?_, h.2.2.2.1, h.2.2.2.2⟩
  obtain ⟨a1, a2, a3, a4, a5, a6, a7, a8, a9⟩ := h.2.2.1 q hq
  refine ⟨a1, a2, a3, a4, a5, a6, a7, ?_, fun i hi => ?_⟩
  · rw [uM_off _ _ _ (by decide), uM_off _ _ _ (by decide), jn_sp]
    by_cases k : q = b
    · subst k; rw [uM_eq, if_pos rfl, eo_s]
    · rw [uM_ne _ _ _ k, if_neg k]
      by_cases k2 : q = a
      · subst k2; rw [uM_eq, if_pos rfl, eo_s]
      · rw [uM_ne _ _ _ k2, if_neg k2]; exact a8
  · rw [adj_jn c0 c3 c4]
    have hl : bt (A (c + 9) q) i = (decide (i < pN P) && adj P D q i) := a9 i hi
    by_cases k : q = b
    · subst k
      rw [uM_eq, b_or, hl, bt_one (by omega) hi]
      by_cases z : i = a
      · subst z; simp [ha]
      · simp [z, Ne.symm c0]
    · rw [uM_ne _ _ _ k]
      by_cases k2 : q = a
      · subst k2
        rw [uM_eq, b_or, hl, bt_one (by omega) hi]
        by_cases z : i = b
        · subst z; simp [hb]
        · simp [z, c0]
      · rw [uM_ne _ _ _ k2, uM_off _ _ _ (by decide), uM_off _ _ _ (by decide)]
        simp only [k, k2, false_and, decide_false, Bool.or_false]
        exact hl
theorem C_separate {A : Mm} {c a b : Nat} (h : RK (fun j => A (c + j)) P D) (hN : pN P ≤ 12) (hD : WFD P D) (ha : a < pN P) (hb : b < pN P) (h1 : dSp D a = b + 1) (h2 : dSp D b = a + 1) : ∃ A', f_X1_separate c (nI a) (nI b) A = some A' ∧ RK (fun j => A' (c + j)) P (spD D a b) ∧ ∀ k, k ≠ c + 8 → k ≠ c + 9 → A' k = A k := by
  have c0 : a ≠ b := fun e => (hD.2.1 a ha).2 (by rw [h1, e])
  have np := hD.2.2.1 a b ha hb h1
  unfold f_X1_separate f_X1_unlink
  simp only [nm]
  simp (disch := omega) only [gd_t, ix_nI, Option.bind_some]
  rw [uM_ne _ _ _ (Ne.symm c0), uM_off _ _ _ (by omega), uM_off _ _ _ (by omega)]
  refine ⟨_, rfl, ?_, fun k p q => by rw [uM_off _ _ _ q, uM_off _ _ _ q, uM_off _ _ _ p, uM_off _ _ _ p]⟩
  rw [uM_sh, uM_sh, uM_sh, uM_sh]
  refine ⟨h.1, h.2.1, fun q hq => ?_, h.2.2.2.1, h.2.2.2.2⟩
  obtain ⟨a1, a2, a3, a4, a5, a6, a7, a8, a9⟩ := h.2.2.1 q hq
  refine ⟨a1, a2, a3, a4, a5, a6, a7, ?_, fun i hi => ?_⟩
  · rw [uM_off _ _ _ (by decide), uM_off _ _ _ (by decide), sp_sp]
    by_cases k : q = b
    · subst k; rw [uM_eq, if_pos rfl, eo_0]
    · rw [uM_ne _ _ _ k, if_neg k]
      by_cases k2 : q = a
      · subst k2; rw [uM_eq, if_pos rfl, eo_0]
      · rw [uM_ne _ _ _ k2, if_neg k2]; exact a8
  · rw [adj_sp c0 h1 h2 np]
    have hl : bt (A (c + 9) q) i = (decide (i < pN P) && adj P D q i) := a9 i hi
    by_cases k : q = b
    · subst k
      rw [uM_eq, b_and, hl, bt_not _ hi, bt_one (by omega) hi]
      by_cases z : i = a
      · subst z; simp
      · simp [z, Ne.symm c0]
    · rw [uM_ne _ _ _ k]
      by_cases k2 : q = a
      · subst k2
        rw [uM_eq, b_and, hl, bt_not _ hi, bt_one (by omega) hi]
        by_cases z : i = b
        · subst z; simp
        · simp [z, c0]
      · rw [uM_ne _ _ _ k2, uM_off _ _ _ (by decide), uM_off _ _ _ (by decide)]
        simp only [k, k2, false_and, decide_false, Bool.not_false, Bool.and_true]
        exact hl
/-- kin is found anew -/
theorem F_kinNew {B : Mm} (hS : RS B P) (hW : RW (B 240) P D) (hP : WFP P) (hD : WFD P D) : ∃ B', f_X11_findsKin B = some B' ∧ RB B' P D ∧ ∀ k, k ≠ 249 → B' k = B k := by
  obtain ⟨s, e, g⟩ := F_findsKin hS hW hP hD
  refine ⟨_, e, ⟨hS.congr (by rw [rM_off _ _ (by decide)]) (by rw [rM_off _ _ (by decide)]) fun k a b => rM_off _ _ (by omega), by rw [rM_off _ _ (by decide)]; exact hW, g⟩, fun k hk => rM_off _ _ hk⟩
theorem F_sp2 {B : Mm} (h : RB B P D) (hP : WFP P) {a b u v : Nat} (ha : a < pN P) (hb : b < pN P) (hD : WFD P (sSp (sSp D a u) b v)) : ∃ B', f_X11_findsKin (uM (uM B 240 (112 + a) (nI u)) 240 (112 + b) (nI v)) = some B' ∧ RB B' P (sSp (sSp D a u) b v) ∧ ∀ k, k ≠ 240 → k ≠ 249 → B' k = B k := by
  have hN := hP.1
  obtain ⟨B', e, g1, g2⟩ := F_kinNew (B := uM (uM B 240 (112 + a) (nI u)) 240 (112 + b) (nI v)) (D := sSp (sSp D a u) b v) (h.1.congr (by rw [uM_off _ _ _ (by decide), uM_off _ _ _ (by decide)]) (by rw [uM_off _ _ _ (by decide), uM_off _ _ _ (by decide)]) fun k p q => by rw [uM_off _ _ _ (by omega), uM_off _ _ _ (by omega)]) (by rw [uM_row, uM_row]; exact RW_sp (RW_sp h.2.1 hN ha u) hN hb v) hP hD
  exact ⟨B', e, g1, fun k p q => by rw [g2 k q, uM_off _ _ _ p, uM_off _ _ _ p]⟩
theorem F_weds {B : Mm} (h : RB B P D) (hP : WFP P) (hD : WFD P D) {a b : Nat} (hm : mayW P D a b = true) : ∃ B', f_X11_weds (nI a) (nI b) B = some B' ∧ RB B' P (jnD D a b) ∧ ∀ k, k ≠ 240 → k ≠ 249 → B' k = B k := by
  obtain ⟨c0, c1, c2, c3, c4, -⟩ := mayW_of hm
  have ha := liv_lt c1
  have hb := liv_lt c2
  have hN := hP.1
  obtain ⟨B', e, g⟩ := F_sp2 h hP ha hb (WFD_jn hD hm)
  refine ⟨B', ?_, g⟩
  unfold f_X11_weds
  simp only [nm]
  rw [nI_lit 112, nI_add, nI_add, gd_t (by omega) (by omega), gd_t (by omega) (by omega), ix_nI (by omega), ix_nI (by omega), nI_1, nI_1, e]
  rfl
end WED
section WED2
variable {S : Mm} {P : PP} {D : DD} {T : TT} {W : Nat → Int32} {E : RE}
theorem op_wed (x y : Int32) (h : RR S P D T W E) : Good (f_X10_wed x y) (f_X11_wed x y) S := by
  have hN := h.wP.1
  have h0 := h.C.1
  rcases lv_cases h x with ⟨u1, u2⟩ | ⟨a, rfl, va, ha, u1, u2⟩
  · refine good_id h (r := 0) ?_ ?_
    · simp only [f_X10_wed, f_X1_mayWed]
      by_cases c : x = y
      · rw [if_pos c]; rfl
      · rw [if_neg c, u1]; rfl
    · simp only [f_X11_wed, nm, uM_id h0, f_X11_canWed, u2 S h.B]; rfl
  · rcases lv_cases h y with ⟨w1, w2⟩ | ⟨b, rfl, vb, hb, w1, w2⟩
    · refine good_id h (r := 0) ?_ ?_
      · simp only [f_X10_wed, f_X1_mayWed]
        by_cases c : nI a = y
        · rw [if_pos c]; rfl
        · rw [if_neg c, u1]
          simp only [Option.bind_some, i10, if_false]
          rw [w1]; rfl
      · simp only [f_X11_wed, nm, uM_id h0, f_X11_canWed, u2 S h.B, Option.bind_some, i10, if_false, w2 S h.B]; rfl
    · by_cases m : mayW P D a b = true
      · obtain ⟨A1, e1, a1, a2, a3, a4, a5⟩ := act_C h
        obtain ⟨S1, e2, b1, b2⟩ := C_join a1 hN m
        have fr : ∀ k, 239 ≤ k → S1 k = S k := fun k hk => by rw [b2 k (by omega) (by omega), a5 k (by omega)]
        obtain ⟨⟨hB, _, hC⟩, B1, u1, d1, d2, d3, d4, d5⟩ := act_F h fr
        obtain ⟨S2, u2, m1, m2⟩ := F_weds d1 h.wP h.wD m
        refine Good.ex (r := 1) (S1 := S1) (S2 := S2) ?_ ?_ ?_
        · simp only [f_X10_wed, C_mayWed h.K h.wP h.wD ha hb, if_pos m, Option.bind_some, i10, if_false, e1]
          rw [e2]; rfl
        · simp only [f_X11_wed, nm, uM_id hC.1, F_canWed hB h.wP h.wD ha hb, if_pos m, Option.bind_some, i10, if_false, u1]
          rw [u2]; rfl
        · refine h.act2 (D' := jnD D a b) (W' := W) (fun k hk => by rw [b2 k (by omega) (by omega), a5 k (by omega)]) b1 (by rw [b2 _ (by decide) (by decide)]; exact a2) (fun i hi => by rw [b2 _ (by decide) (by decide)]; exact a3 i hi) (a4.congr fun k _ _ => b2 k (by omega) (by omega)) (fun k hk => by rw [m2 k (by omega) (by omega), d4 k (by omega) (by omega)]) (fun k hk => by rw [m2 k (by omega) (by omega), d4 k (by omega) (by omega)]) (fun i _ hi => by rw [m2 _ (by decide) (by decide), d5 i hi]) m1 (fun i hi => by rw [m2 _ (by decide) (by decide)]; exact d2 i hi) (d3.congr (by rw [m2 _ (by decide) (by decide)]) (m2 _ (by decide) (by decide))) ?_ (Nat.le_refl _)
          obtain ⟨w1, w2, w3, w4, w5, w6⟩ := h.2.2.1
          exact ⟨w1, w2, WFD_jn w3 m, w4, w5, w6⟩
      · refine good_id h (r := 0) ?_ ?_
        · simp only [f_X10_wed, C_mayWed h.K h.wP h.wD ha hb, if_neg m, Option.bind_some, if_true]
        · simp only [f_X11_wed, nm, uM_id h0, F_canWed h.B h.wP h.wD ha hb, if_neg m, Option.bind_some, if_true]
theorem op_part (x y : Int32) (h : RR S P D T W E) : Good (f_X10_part x y) (f_X11_part x y) S := by
  have hN := h.wP.1
  have h0 := h.C.1
  rcases nI_cs x (n := pN P) (by omega) with hx | ⟨a, ha, rfl⟩
  · refine good_id h (r := 0) ?_ ?_
    · simp only [f_X10_part, C_isThere0 h.K hx, Option.bind_some, if_true]
    · simp only [f_X11_part, nm, uM_id h0, F_isPerson0 h.B.1 hx, Option.bind_some, if_true]
  · rcases nI_cs y (n := pN P) (by omega) with hy | ⟨b, hb, rfl⟩
    · refine good_id h (r := 0) ?_ ?_
      · simp only [f_X10_part, C_isThere1 h.K hN ha, C_isThere0 h.K hy, Option.bind_some, i10, if_false, if_true]
      · simp only [f_X11_part, nm, uM_id h0, F_isPerson1 h.B.1 hN ha, F_isPerson0 h.B.1 hy, Option.bind_some, i10, if_false, if_true]
    · have s1 := (k1p h.K ha).2.2.2.2.2.2.2
      have s2 := (k1p h.K hb).2.2.2.2.2.2.2
      have d1 := h.wD.2.1 a ha
      have d2 := h.wD.2.1 b hb
      have cls : f_X10_part (nI a) (nI b) S = if dSp D a = b + 1 then if dSp D b = a + 1 then (f_X2_keep_32 1 S).bind fun S_3 => (f_X1_separate 1 (nI a) (nI b) S_3).bind fun S_4 => some (1, S_4) else some (0, S) else some (0, S) := by
        simp only [f_X10_part, C_isThere1 h.K hN ha, C_isThere1 h.K hN hb, Option.bind_some, i10, if_false]
        rw [gd_t (by omega) (by omega), gd_t (by omega) (by omega), ix_nI (by omega), ix_nI (by omega), s1, s2]
        simp only [eo_nI (n := dSp D a) (q := b) (by omega) (by omega), eo_nI (n := dSp D b) (q := a) (by omega) (by omega)]
      have ref : ∀ B, RB B P D → B 239 0 = 0 → f_X11_part (nI a) (nI b) B = if a = b then some (0, B) else if dSp D a = b + 1 then if dSp D b = a + 1 then (f_X11_keepsAhead B).bind fun S_6 => (f_X11_findsKin (uM (uM S_6 240 (112 + a) (nI 0)) 240 (112 + b) (nI 0))).bind fun S_9 => some (1, S_9) else some (0, B) else some (0, B) := fun B hB hz => by
        simp only [f_X11_part, nm, uM_id hz, F_isPerson1 hB.1 hN ha, F_isPerson1 hB.1 hN hb, Option.bind_some, i10, if_false, F_spouseOf hB.2.1 hN ha, F_spouseOf hB.2.1 hN hb]
        simp only [eo_nI (n := dSp D a) (q := b) (by omega) (by omega), eo_nI (n := dSp D b) (q := a) (by omega) (by omega), nI_inj (a := a) (b := b) (by omega) (by omega)]
        simp (disch := omega) only [nI_lit 112, nI_add, gd_t, ix_nI]
        rfl
      by_cases c1 : dSp D a = b + 1
      · have cab : a ≠ b := fun e => d1.2 (by rw [c1, e])
        by_cases c2 : dSp D b = a + 1
        · obtain ⟨A1, e1, a1, a2, a3, a4, a5⟩ := act_C h
          obtain ⟨S1, e2, b1, b2⟩ := C_separate a1 hN h.wD ha hb c1 c2
          have fr : ∀ k, 239 ≤ k → S1 k = S k := fun k hk => by rw [b2 k (by omega) (by omega), a5 k (by omega)]
          obtain ⟨⟨hB, _, hC⟩, B1, u1, d1, d2, d3, d4, d5⟩ := act_F h fr
          obtain ⟨S2, u2, m1, m2⟩ := F_sp2 (u := 0) (v := 0) d1 h.wP ha hb (WFD_sp h.wD c1 c2)
          refine Good.ex (r := 1) (S1 := S1) (S2 := S2) ?_ ?_ ?_
          · rw [cls, if_pos c1, if_pos c2, e1]
            simp only [Option.bind_some]
            rw [e2]; rfl
          · rw [ref S1 hB hC.1, if_neg cab, if_pos c1, if_pos c2, u1]
            simp only [Option.bind_some]
            rw [u2]; rfl
          · refine h.act2 (D' := spD D a b) (W' := W) (fun k hk => by rw [b2 k (by omega) (by omega), a5 k (by omega)]) b1 (by rw [b2 _ (by decide) (by decide)]; exact a2) (fun i hi => by rw [b2 _ (by decide) (by decide)]; exact a3 i hi) (a4.congr fun k _ _ => b2 k (by omega) (by omega)) (fun k hk => by rw [m2 k (by omega) (by omega), d4 k (by omega) (by omega)]) (fun k hk => by rw [m2 k (by omega) (by omega), d4 k (by omega) (by omega)]) (fun i _ hi => by rw [m2 _ (by decide) (by decide), d5 i hi]) m1 (fun i hi => by rw [m2 _ (by decide) (by decide)]; exact d2 i hi) (d3.congr (by rw [m2 _ (by decide) (by decide)]) (m2 _ (by decide) (by decide))) ?_ (Nat.le_refl _)
            obtain ⟨w1, w2, w3, w4, w5, w6⟩ := h.2.2.1
            exact ⟨w1, w2, WFD_sp w3 c1 c2, w4, w5, w6⟩
        · exact good_id h (r := 0) (by rw [cls, if_pos c1, if_neg c2]) (by rw [ref S h.B h0, if_neg cab, if_pos c1, if_neg c2])
      · refine good_id h (r := 0) (by rw [cls, if_neg c1]) ?_
        rw [ref S h.B h0]
        by_cases k : a = b
        · rw [if_pos k]
        · rw [if_neg k, if_neg c1]
end WED2
