/-! ===== a deed is told; every text ===== -/
def deedT (T : TT) (dn : Nat) (ls : List Nat) : TT := (fun k i => if k = 0 ∧ i = 0 then dn + 1 else if k = 4 ∧ i = dn then ls.length else if k = 5 ∧ 40 * dn ≤ i then ls.getD (i - 40 * dn) 0 else T.1 k i, fun k i => if k = 1 ∧ i = dn then orL ls else T.2 k i)
section DEEDOP
variable {S : Mm} {P : PP} {D : DD} {T : TT} {W : Nat → Int32} {E : RE}
theorem deedT_l {dn : Nat} {ls : List Nat} (d : Nat) : tDl (deedT T dn ls) d = if d = dn then ls.length else tDl T d := by
  show (if 4 = 0 ∧ d = 0 then dn + 1 else if 4 = 4 ∧ d = dn then ls.length else if 4 = 5 ∧ 40 * dn ≤ d then ls.getD (d - 40 * dn) 0 else T.1 4 d) = _
  rw [if_neg (by omega)]
  by_cases c : d = dn
  · rw [if_pos (And.intro rfl c), if_pos c]
  · rw [if_neg (fun z => c z.2), if_neg c, if_neg (by omega)]
theorem deedT_g {dn : Nat} {ls : List Nat} (i : Nat) : tDg (deedT T dn ls) i = if 40 * dn ≤ i then ls.getD (i - 40 * dn) 0 else tDg T i := by
  show (if 5 = 0 ∧ i = 0 then dn + 1 else if 5 = 4 ∧ i = dn then ls.length else if 5 = 5 ∧ 40 * dn ≤ i then ls.getD (i - 40 * dn) 0 else T.1 5 i) = _
  rw [if_neg (by omega), if_neg (by omega)]
  by_cases c : 40 * dn ≤ i
  · rw [if_pos (And.intro rfl c), if_pos c]
  · rw [if_neg (fun z => c z.2), if_neg c]
theorem deedT_s {dn : Nat} {ls : List Nat} (d : Nat) : tDs (deedT T dn ls) d = if d = dn then orL ls else tDs T d := by
  show (if 1 = 1 ∧ d = dn then orL ls else T.2 1 d) = _
  by_cases c : d = dn
  · rw [if_pos (And.intro rfl c), if_pos c]
  · rw [if_neg (fun z => c z.2), if_neg c]
theorem deedT_n {dn : Nat} {ls : List Nat} : tDn (deedT T dn ls) = dn + 1 := rfl
theorem deedT_w {N : Nat} {ls : List Nat} (w : WFT N T) (hd : tDn T < 8) (hl : ls.length ≤ 40) (h28 : ∀ k, k < ls.length → ls.getD k 0 < 28) (hne : orL ls ≠ 0) : WFT N (deedT T (tDn T) ls) := by
  obtain ⟨⟨w1, w2, w3⟩, w4, w5, w6⟩ := w
  refine ⟨⟨by rw [deedT_n]; omega, w2, w3⟩, w4, w5, fun d hd2 => ?_⟩
  rw [deedT_n] at hd2
  rw [deedT_l, deedT_s]
  by_cases c : d = tDn T
  · rw [if_pos c, if_pos c]
    refine ⟨hl, hne, fun i hi => ?_⟩
    rw [deedT_g, if_pos (by omega), show 40 * d + i - 40 * tDn T = i by omega]
    exact h28 i hi
  · rw [if_neg c, if_neg c]
    obtain ⟨u1, u2, u3⟩ := w6 d (by omega)
    refine ⟨u1, u2, fun i hi => ?_⟩
    rw [deedT_g, if_neg (by omega)]
    exact u3 i hi
theorem op_tdeed (y : Int32) (h : RR S P D T W E) : Good (f_X10_text 2 y) (f_X11_text 2 y) S := by
  have n20 : ¬ (2 : Int32) = 0 := by decide
  have n21 : ¬ (2 : Int32) = 1 := by decide
  have hdn := h.wT.1.1
  have d17 : S 17 5 = nI (tDn T) := h.TK.1.1
  have d40 : S 239 40 = nI (tDn T) := h.TF.1.1
  have c70 : f_X10_text 2 y S = f_X10_text_70 2 (-1) (clB S) := by
    unfold f_X10_text f_X5_faultless
    rw [nm_x, nm_x, bind_x, if_neg n20, if_neg n21]
    rfl
  by_cases c8 : tDn T = 8
  · refine good_none h (C_none c70 (Or.inr ?_)) fun Bm he => F_none ?_
    · rw [d17, c8]; exact nI_ge_t (a := 8) (Nat.le_refl 8) (by omega)
    · unfold f_X11_canText f_X11_canText_25 f_X11_canText_43
      rw [if_neg n20, if_neg n21, if_pos rfl, if_pos]
      rw [reB_ne (by decide), he 239 (by omega), d40, c8]
      exact nI_ge_t (a := 8) (Nat.le_refl 8) (by omega)
  · have hd : tDn T < 8 := by omega
    refine two_sim fun Bm he => ?_
    have w := h.wb
    have tp0 := h.tp
    have fp := h.fp he
    obtain ⟨n, hn⟩ : ∃ n, n = E.2.2.1 := ⟨_, rfl⟩
    obtain ⟨b, hb⟩ : ∃ b, b = E.2.2.2.1 := ⟨_, rfl⟩
    rw [← hn, ← hb] at w tp0 fp
    have w1 := w.1
    have k17 : clB S 17 5 = nI (tDn T) := by rw [clB_off (by decide)]; exact d17
    have c0 : f_X10_text 2 y S = ((f_X6_addDeed_17_184_18 FU (nI ([] : List Nat).length) (orL []) (nI 0) (clB S)).bind fun q_1 => f_X10_text_99 q_1.1 q_1.2) := by
      rw [c70]
      unfold f_X10_text_70 f_X6_addDeed_17_184
      rw [if_pos rfl, k17, if_neg (show ¬ (8 : Int32) ≤ nI (tDn T) from nI_ge_f (a := 8) (by omega) (by omega)), if_pos (show nI (tDn T) < 8 from (nI_ltI (b := 8) (by omega) (by omega)).mpr hd)]
      rfl
    have r0 : f_X11_text 2 y Bm = ((f_X11_readDeed_4 FU (nI ([] : List Nat).length) (nI 0) (reB Bm)).bind fun q_8 => if q_8.1 = (-1 : Int32) then nm (uM q_8.2 239 34 (q_8.2 239 32)) fun S_9 => nm (uM S_9 239 35 (S_9 239 33)) fun S_10 => f_X11_text_69 2 y q_8.1 S_10 else f_X11_text_69 2 y q_8.1 q_8.2) := by
      unfold f_X11_text f_X11_canText f_X11_canText_25 f_X11_canText_39
      rw [nm_x, nm_x, nm_x, nm_x, nm_x, nm_x, show uM (uM (uM (uM (uM (uM Bm 239 0 0) 239 34 0) 239 35 (-1)) 239 17 0) 239 28 0) 239 29 0 = reB Bm from rfl, if_neg n20, if_neg n21, if_pos rfl, if_neg (show ¬ (8 : Int32) ≤ reB Bm 239 40 by
        rw [reB_ne (by decide), he 239 (by omega), d40]
        exact nI_ge_f (a := 8) (by omega) (by omega)), bo]
      unfold f_X11_readsText
      rw [if_pos rfl, bind_id]
      rfl
    obtain ⟨⟨k1, k2⟩, kl, kc, kw, kd⟩ := h.TK
    obtain ⟨⟨f1, f2⟩, fl, fc, fw, fd⟩ := h.TF
    have hwT := h.wT
    rcases J_deed hd w tp0 fp k17 n 0 [] (clB S) (reB Bm) FU FU (by omega) (by unfold FU; omega) (by unfold FU; omega) (by show 0 ≤ 40; omega) (fun k hk => absurd hk (Nat.not_lt_zero k)) (Or.inl rfl) ⟨⟨fun _ _ => rfl, fun _ _ => rfl, fun k hk => absurd hk (Nat.not_lt_zero k)⟩, fun _ _ => rfl, fun _ _ => rfl, fun k hk => absurd hk (Nat.not_lt_zero k)⟩ with ⟨ls', A', B', k, pl', a3, b3, ⟨⟨s1, s2, s3⟩, s4, s5, s6⟩⟩ | ⟨ls', A', B', a3, b3, ⟨⟨s1, s2, s3⟩, s4, s5, s6⟩, hl, h28, hne⟩
    · -- a fault
      refine ⟨-1, uM (uM (uM A' 184 2 k) 184 3 pl') 184 1 0, uM (uM (uM (uM (uM B' 239 32 k) 239 33 pl') 239 34 k) 239 35 pl') 239 16 0, ?_, ?_, fun z hz => ?_, fun hbm => ?_⟩
      · rw [c0, a3, bind_x]
        rfl
      · rw [r0, b3, bind_x, if_pos rfl, nm_x, nm_x]
        unfold f_X11_text_69
        rw [nm_x, if_pos rfl]
        dsimp only
        rw [uM_ne _ _ _ (by decide : (33 : Nat) ≠ 34), uM_eq, uM_ne _ _ _ (by decide : (32 : Nat) ≠ 33), uM_eq]
      · rw [uM_off _ _ _ (by omega), uM_off _ _ _ (by omega), uM_off _ _ _ (by omega), s1 z (by omega), clB_off (by omega)]
      · have of : ∀ z, z ≠ 239 → uM (uM (uM (uM (uM B' 239 32 k) 239 33 pl') 239 34 k) 239 35 pl') 239 16 0 z = B' z := fun z hz => by
          rw [uM_off _ _ _ hz, uM_off _ _ _ hz, uM_off _ _ _ hz, uM_off _ _ _ hz, uM_off _ _ _ hz]
        have lo : ∀ z, z < 239 → uM (uM (uM (uM (uM B' 239 32 k) 239 33 pl') 239 34 k) 239 35 pl') 239 16 0 z = uM (uM (uM A' 184 2 k) 184 3 pl') 184 1 0 z := fun z hz => by
          rw [of z (by omega), s4 z (by omega), reB_off (by omega), hbm z hz]
        have lo2 : ∀ z, z < 239 → z ≠ 184 → z ≠ 29 → uM (uM (uM (uM (uM B' 239 32 k) 239 33 pl') 239 34 k) 239 35 pl') 239 16 0 z = S z := fun z hz h1 h2 => by
          rw [lo z hz, uM_off _ _ _ h1, uM_off _ _ _ h1, uM_off _ _ _ h1, s1 z h2, clB_off h1]
        have hi : ∀ z, 239 < z → z ≠ 264 → uM (uM (uM (uM (uM B' 239 32 k) 239 33 pl') 239 34 k) 239 35 pl') 239 16 0 z = S z := fun z hz h1 => by
          rw [of z (by omega), s4 z h1, reB_off (by omega), he z (by omega)]
        have h9 : ∀ j, j ≠ 16 → j ≠ 34 → j ≠ 35 → j ≠ 32 → j ≠ 33 → uM (uM (uM (uM (uM B' 239 32 k) 239 33 pl') 239 34 k) 239 35 pl') 239 16 0 239 j = reB Bm 239 j := fun j h1 h2 h3 h4 h5 => by
          rw [uM_ne _ _ _ h1, uM_ne _ _ _ h3, uM_ne _ _ _ h2, uM_ne _ _ _ h5, uM_ne _ _ _ h4, s4 239 (by decide)]
        refine h.text (T' := T) (fun z h1 h2 => lo2 z h2 (by omega) (by omega)) ⟨⟨?_, ?_⟩, fun z hz => ?_, fun z hz => ?_, fun q hq => ?_, fun d hd2 => ?_⟩ (fun z hz => hi z (by omega) (by omega)) (fun j hj h1 h2 h3 h4 h5 => ?_) ⟨⟨?_, ?_⟩, fun z hz => ?_, fun z hz => ?_, fun q hq => ?_, fun d hd2 => ?_⟩ ?_ (uM_eq _ _ _ _) ?_ ?_ h.wT h.2.2.1.2.2.2.2.2 (Nat.le_refl _)
        · show uM _ 239 16 0 17 5 = _
          rw [lo2 17 (by omega) (by omega) (by omega)]; exact k1
        · show uM _ 239 16 0 18 2 = _
          rw [lo2 18 (by omega) (by omega) (by omega)]; exact k2
        · show uM _ 239 16 0 20 z = _ ∧ uM _ 239 16 0 21 z = _ ∧ uM _ 239 16 0 22 z = _
          rw [lo2 20 (by omega) (by omega) (by omega), lo2 21 (by omega) (by omega) (by omega), lo2 22 (by omega) (by omega) (by omega)]
          exact kl z hz
        · show uM _ 239 16 0 19 z = _
          rw [lo2 19 (by omega) (by omega) (by omega)]
          exact kc z hz
        · show uM _ 239 16 0 25 q = _ ∧ ∀ k, _ → uM _ 239 16 0 26 (12 * q + k) = _ ∧ uM _ 239 16 0 27 (12 * q + k) = _ ∧ uM _ 239 16 0 28 (12 * q + k) = _
          rw [lo2 25 (by omega) (by omega) (by omega), lo2 26 (by omega) (by omega) (by omega), lo2 27 (by omega) (by omega) (by omega), lo2 28 (by omega) (by omega) (by omega)]
          exact kw q hq
        · show uM _ 239 16 0 30 d = _ ∧ uM _ 239 16 0 31 d = _ ∧ ∀ i, _ → uM _ 239 16 0 29 (40 * d + i) = _
          rw [lo2 30 (by omega) (by omega) (by omega), lo2 31 (by omega) (by omega) (by omega)]
          obtain ⟨u1, u2, u3⟩ := kd d hd2
          have := (hwT.2.2.2 d hd2).1
          refine ⟨u1, u2, fun i hi2 => ?_⟩
          rw [lo 29 (by omega), uM_off _ _ _ (by decide), uM_off _ _ _ (by decide), uM_off _ _ _ (by decide), s2 _ (by omega), clB_off (by decide)]
          exact u3 i hi2
        · by_cases c : j = 0
          · subst c
            rw [h9 0 (by decide) (by decide) (by decide) (by decide) (by decide), h.C.1]
            unfold reB
            rw [uM_ne _ _ _ (by decide), uM_ne _ _ _ (by decide), uM_ne _ _ _ (by decide), uM_ne _ _ _ (by decide), uM_ne _ _ _ (by decide), uM_eq]
          · have q := hj
            unfold ks at q
            have q := of_decide_eq_true q
            rw [h9 j h1 h3 h4 (by omega) (by omega), reB_ne (by omega), he 239 (by omega)]
        · rw [h9 40 (by decide) (by decide) (by decide) (by decide) (by decide), reB_ne (by decide), he 239 (by omega)]; exact f1
        · rw [h9 22 (by decide) (by decide) (by decide) (by decide) (by decide), reB_ne (by decide), he 239 (by omega)]; exact f2
        · rw [hi 252 (by omega) (by omega), hi 253 (by omega) (by omega), hi 254 (by omega) (by omega)]
          exact fl z hz
        · rw [hi 255 (by omega) (by omega), hi 256 (by omega) (by omega)]
          exact fc z hz
        · rw [hi 258 (by omega) (by omega), hi 259 (by omega) (by omega), hi 260 (by omega) (by omega), hi 261 (by omega) (by omega)]
          exact fw q hq
        · rw [hi 262 (by omega) (by omega), hi 263 (by omega) (by omega)]
          obtain ⟨u1, u2, u3⟩ := fd d hd2
          have := (hwT.2.2.2 d hd2).1
          refine ⟨u1, u2, fun i hi2 => ?_⟩
          rw [of 264 (by decide), s5 _ (by omega), reB_off (by decide), he 264 (by omega)]
          exact u3 i hi2
        · rw [lo 184 (by omega), uM_eq]
        · rw [lo 184 (by omega), uM_ne _ _ _ (by decide), uM_ne _ _ _ (by decide), uM_eq, uM_ne _ _ _ (by decide), uM_ne _ _ _ (by decide), uM_eq]
        · rw [lo 184 (by omega), uM_ne _ _ _ (by decide), uM_eq, uM_ne _ _ _ (by decide), uM_eq]
    · -- it stands
      have L1 : ¬ nI ls'.length = -1 := of_eq_false (nI_n1 (by omega))
      have b40 : uM B' 239 16 0 239 40 = nI (tDn T) := by
        rw [uM_ne _ _ _ (by decide), s4 239 (by decide), reB_ne (by decide), he 239 (by omega)]; exact d40
      have tk := F_takesDeed (B := uM B' 239 16 0) hd hl b40 fun k hk => by rw [uM_off _ _ _ (by decide)]; exact s6 k hk
      refine ⟨nI (tDn T), uM (uM (uM (uM A' 30 (tDn T) (nI ls'.length)) 31 (tDn T) (orL ls')) 17 5 (nI (tDn T + 1))) 184 1 0, takenD (tDn T) ls' (uM B' 239 16 0), ?_, ?_, fun z hz => ?_, fun hbm => ?_⟩
      · rw [c0, a3, bind_x]
        rfl
      · rw [r0, b3, bind_x, if_neg L1]
        unfold f_X11_text_69
        rw [nm_x, if_neg L1, if_pos rfl, tk]
        rfl
      · rw [uM_off _ _ _ (by omega), uM_off _ _ _ (by omega), uM_off _ _ _ (by omega), uM_off _ _ _ (by omega), s1 z (by omega), clB_off (by omega)]
      · have of : ∀ z x, z ≠ 239 → z ≠ 240 → z ≠ 262 → z ≠ 263 → z ≠ 264 → takenD (tDn T) ls' (uM B' 239 16 0) z x = B' z x := fun z x h1 h2 h3 h4 h5 => by
          unfold takenD deedM
          rw [uM_off _ _ _ h1, uM_off _ _ _ h2, uM_off _ _ _ h2, uM_off _ _ _ h2, uM_off _ _ _ h4, cpw_o (by omega), uM_off _ _ _ h3, uM_off _ _ _ h1]
        have lo : ∀ z, z < 239 → takenD (tDn T) ls' (uM B' 239 16 0) z = uM (uM (uM (uM A' 30 (tDn T) (nI ls'.length)) 31 (tDn T) (orL ls')) 17 5 (nI (tDn T + 1))) 184 1 0 z := fun z hz => by
          funext x
          rw [of z x (by omega) (by omega) (by omega) (by omega) (by omega), s4 z (by omega), reB_off (by omega), hbm z hz]
        have lo2 : ∀ z, z < 239 → z ≠ 184 → z ≠ 17 → z ≠ 29 → z ≠ 30 → z ≠ 31 → takenD (tDn T) ls' (uM B' 239 16 0) z = S z := fun z hz h1 h2 h3 h4 h5 => by
          rw [lo z hz, uM_off _ _ _ h1, uM_off _ _ _ h2, uM_off _ _ _ h5, uM_off _ _ _ h4, s1 z h3, clB_off h1]
        have hi : ∀ z, 239 < z → z ≠ 240 → z ≠ 262 → z ≠ 263 → z ≠ 264 → takenD (tDn T) ls' (uM B' 239 16 0) z = S z := fun z hz h2 h3 h4 h5 => by
          funext x
          rw [of z x (by omega) h2 h3 h4 h5, s4 z h5, reB_off (by omega), he z (by omega)]
        have h9 : ∀ j, j ≠ 40 → takenD (tDn T) ls' (uM B' 239 16 0) 239 j = uM B' 239 16 0 239 j := fun j h1 => by
          unfold takenD deedM
          rw [uM_ne _ _ _ h1, uM_off _ _ _ (by decide), uM_off _ _ _ (by decide), uM_off _ _ _ (by decide), uM_off _ _ _ (by decide), cpw_o (by omega), uM_off _ _ _ (by decide)]
        have h9' : ∀ j, j ≠ 40 → j ≠ 16 → takenD (tDn T) ls' (uM B' 239 16 0) 239 j = reB Bm 239 j := fun j h1 h2 => by
          rw [h9 j h1, uM_ne _ _ _ h2, s4 239 (by decide)]
        have rw240 : ∀ x, S 240 x = B' 240 x := fun x => by
          rw [s4 240 (by decide), reB_off (by decide), he 240 (by omega)]
        have h240 : takenD (tDn T) ls' (uM B' 239 16 0) 240 = S 240 := by
          funext x
          have wu := h.2.2.1.2.2.2.2.2 (tDn T) (Nat.le_refl _) hd
          have ww := h.B.2.1.2.2.2.2 (tDn T) hd
          unfold takenD deedM
          rw [uM_off _ _ _ (by decide : (240 : Nat) ≠ 239)]
          by_cases x1 : x = 140 + tDn T
          · rw [x1, uM_eq, ww.2.2, wu.2.2]; decide
          · rw [uM_ne _ _ _ x1]
            by_cases x2 : x = 132 + tDn T
            · rw [x2, uM_eq, ww.2.1, wu.2.1]
            · rw [uM_ne _ _ _ x2]
              by_cases x3 : x = 124 + tDn T
              · rw [x3, uM_eq, ww.1, wu.1]
              · rw [uM_ne _ _ _ x3, uM_off _ _ _ (by decide), cpw_o (by omega), uM_off _ _ _ (by decide), uM_off _ _ _ (by decide), rw240]
        have h262 : ∀ x, takenD (tDn T) ls' (uM B' 239 16 0) 262 x = if x = tDn T then nI ls'.length else S 262 x := fun x => by
          unfold takenD deedM
          rw [uM_off _ _ _ (by decide), uM_off _ _ _ (by decide), uM_off _ _ _ (by decide), uM_off _ _ _ (by decide), uM_off _ _ _ (by decide), cpw_o (by omega)]
          by_cases c : x = tDn T
          · rw [c, uM_eq, if_pos rfl]
          · rw [uM_ne _ _ _ c, if_neg c, uM_off _ _ _ (by decide), s4 262 (by decide), reB_off (by decide), he 262 (by omega)]
        have h263 : ∀ x, takenD (tDn T) ls' (uM B' 239 16 0) 263 x = if x = tDn T then orL ls' else S 263 x := fun x => by
          unfold takenD deedM
          rw [uM_off _ _ _ (by decide), uM_off _ _ _ (by decide), uM_off _ _ _ (by decide), uM_off _ _ _ (by decide)]
          by_cases c : x = tDn T
          · rw [c, uM_eq, if_pos rfl, List.take_length]
          · rw [uM_ne _ _ _ c, if_neg c, cpw_o (by omega), uM_off _ _ _ (by decide), uM_off _ _ _ (by decide), s4 263 (by decide), reB_off (by decide), he 263 (by omega)]
        have h264 : ∀ x, takenD (tDn T) ls' (uM B' 239 16 0) 264 x = if 40 * tDn T ≤ x ∧ x < 40 * tDn T + ls'.length then B' 264 (320 + (x - 40 * tDn T)) else B' 264 x := fun x => by
          unfold takenD deedM
          rw [uM_off _ _ _ (by decide), uM_off _ _ _ (by decide), uM_off _ _ _ (by decide), uM_off _ _ _ (by decide), uM_off _ _ _ (by decide)]
          by_cases c : 40 * tDn T ≤ x ∧ x < 40 * tDn T + ls'.length
          · rw [cpw_i (by omega), if_pos c, uM_off _ _ _ (by decide), uM_off _ _ _ (by decide)]
          · rw [cpw_o (by omega), if_neg c, uM_off _ _ _ (by decide), uM_off _ _ _ (by decide)]
        refine h.text (T' := deedT T (tDn T) ls') (fun z h1 h2 => lo2 z h2 (by omega) (by omega) (by omega) (by omega) (by omega)) ⟨⟨?_, ?_⟩, fun z hz => ?_, fun z hz => ?_, fun q hq => ?_, fun d hd2 => ?_⟩ (fun z hz => ?_) (fun j hj h1 h2 h3 h4 h5 => ?_) ⟨⟨?_, ?_⟩, fun z hz => ?_, fun z hz => ?_, fun q hq => ?_, fun d hd2 => ?_⟩ ?_ ?_ ?_ ?_ (deedT_w h.wT hd hl h28 hne) (fun d hd2 => h.2.2.1.2.2.2.2.2 d (by rw [deedT_n] at hd2; omega)) (by rw [deedT_n]; omega)
        · show takenD (tDn T) ls' (uM B' 239 16 0) 17 5 = _
          rw [lo 17 (by omega), uM_off _ _ _ (by decide), uM_eq, deedT_n]
        · show takenD (tDn T) ls' (uM B' 239 16 0) 18 2 = _
          rw [lo2 18 (by omega) (by omega) (by omega) (by omega) (by omega) (by omega)]; exact k2
        · show takenD (tDn T) ls' (uM B' 239 16 0) 20 z = _ ∧ takenD (tDn T) ls' (uM B' 239 16 0) 21 z = _ ∧ takenD (tDn T) ls' (uM B' 239 16 0) 22 z = _
          rw [lo2 20 (by omega) (by omega) (by omega) (by omega) (by omega) (by omega), lo2 21 (by omega) (by omega) (by omega) (by omega) (by omega) (by omega), lo2 22 (by omega) (by omega) (by omega) (by omega) (by omega) (by omega)]
          exact kl z hz
        · show takenD (tDn T) ls' (uM B' 239 16 0) 19 z = _
          rw [lo2 19 (by omega) (by omega) (by omega) (by omega) (by omega) (by omega)]
          exact kc z hz
        · show takenD (tDn T) ls' (uM B' 239 16 0) 25 q = _ ∧ ∀ k, _ → takenD (tDn T) ls' (uM B' 239 16 0) 26 (12 * q + k) = _ ∧ takenD (tDn T) ls' (uM B' 239 16 0) 27 (12 * q + k) = _ ∧ takenD (tDn T) ls' (uM B' 239 16 0) 28 (12 * q + k) = _
          rw [lo2 25 (by omega) (by omega) (by omega) (by omega) (by omega) (by omega), lo2 26 (by omega) (by omega) (by omega) (by omega) (by omega) (by omega), lo2 27 (by omega) (by omega) (by omega) (by omega) (by omega) (by omega), lo2 28 (by omega) (by omega) (by omega) (by omega) (by omega) (by omega)]
          exact kw q hq
        · rw [deedT_n] at hd2
          show takenD (tDn T) ls' (uM B' 239 16 0) 30 d = _ ∧ takenD (tDn T) ls' (uM B' 239 16 0) 31 d = _ ∧ ∀ i, i < tDl (deedT T (tDn T) ls') d → takenD (tDn T) ls' (uM B' 239 16 0) 29 (40 * d + i) = _
          rw [lo 30 (by omega), lo 31 (by omega), lo 29 (by omega), uM_off _ _ _ (by decide : (30 : Nat) ≠ 184), uM_off _ _ _ (by decide : (30 : Nat) ≠ 17), uM_off _ _ _ (by decide : (30 : Nat) ≠ 31), uM_off _ _ _ (by decide : (31 : Nat) ≠ 184), uM_off _ _ _ (by decide : (31 : Nat) ≠ 17), uM_off _ _ _ (by decide : (29 : Nat) ≠ 184), uM_off _ _ _ (by decide : (29 : Nat) ≠ 17), uM_off _ _ _ (by decide : (29 : Nat) ≠ 31), uM_off _ _ _ (by decide : (29 : Nat) ≠ 30), deedT_l, deedT_s]
          by_cases c : d = tDn T
          · subst c
            rw [if_pos rfl, if_pos rfl, uM_eq, uM_eq]
            refine ⟨rfl, rfl, fun i hi2 => ?_⟩
            rw [deedT_g, if_pos (by omega), show 40 * tDn T + i - 40 * tDn T = i by omega]
            exact s3 i hi2
          · rw [if_neg c, if_neg c, uM_ne _ _ _ c, uM_ne _ _ _ c, uM_off _ _ _ (by decide : (31 : Nat) ≠ 30), s1 30 (by decide), s1 31 (by decide), clB_off (by decide), clB_off (by decide)]
            obtain ⟨u1, u2, u3⟩ := kd d (by omega)
            have := (hwT.2.2.2 d (by omega)).1
            refine ⟨u1, u2, fun i hi2 => ?_⟩
            rw [deedT_g, if_neg (by omega), s2 _ (by omega), clB_off (by decide)]
            exact u3 i hi2
        · by_cases c : z = 240
          · rw [c]; exact h240
          · exact hi z (by omega) c (by omega) (by omega) (by omega)
        · by_cases c : j = 0
          · subst c
            rw [h9' 0 (by decide) (by decide), h.C.1]
            unfold reB
            rw [uM_ne _ _ _ (by decide), uM_ne _ _ _ (by decide), uM_ne _ _ _ (by decide), uM_ne _ _ _ (by decide), uM_ne _ _ _ (by decide), uM_eq]
          · have q := hj
            unfold ks at q
            have q := of_decide_eq_true q
            rw [h9' j h5 h1, reB_ne (by omega), he 239 (by omega)]
        · unfold takenD; rw [uM_eq, deedT_n]
        · rw [h9' 22 (by decide) (by decide), reB_ne (by decide), he 239 (by omega)]; exact f2
        · rw [hi 252 (by omega) (by omega) (by omega) (by omega) (by omega), hi 253 (by omega) (by omega) (by omega) (by omega) (by omega), hi 254 (by omega) (by omega) (by omega) (by omega) (by omega)]
          exact fl z hz
        · rw [hi 255 (by omega) (by omega) (by omega) (by omega) (by omega), hi 256 (by omega) (by omega) (by omega) (by omega) (by omega)]
          exact fc z hz
        · rw [hi 258 (by omega) (by omega) (by omega) (by omega) (by omega), hi 259 (by omega) (by omega) (by omega) (by omega) (by omega), hi 260 (by omega) (by omega) (by omega) (by omega) (by omega), hi 261 (by omega) (by omega) (by omega) (by omega) (by omega)]
          exact fw q hq
        · rw [deedT_n] at hd2
          rw [h262, h263, deedT_l, deedT_s]
          by_cases c : d = tDn T
          · subst c
            rw [if_pos rfl, if_pos rfl, if_pos rfl, if_pos rfl]
            refine ⟨rfl, rfl, fun i hi2 => ?_⟩
            rw [h264, if_pos (by omega), deedT_g, if_pos (by omega), show 40 * tDn T + i - 40 * tDn T = i by omega]
            exact s6 i hi2
          · rw [if_neg c, if_neg c, if_neg c, if_neg c]
            obtain ⟨u1, u2, u3⟩ := fd d (by omega)
            have := (hwT.2.2.2 d (by omega)).1
            refine ⟨u1, u2, fun i hi2 => ?_⟩
            rw [h264, if_neg (by omega), deedT_g, if_neg (by omega), s5 _ (by omega), reB_off (by decide), he 264 (by omega)]
            exact u3 i hi2
        · rw [lo 184 (by omega), uM_eq]
        · rw [h9 16 (by decide), uM_eq]
        · rw [lo 184 (by omega), uM_ne _ _ _ (by decide), uM_off _ _ _ (by decide), uM_off _ _ _ (by decide), uM_off _ _ _ (by decide), s1 184 (by decide), h9' 34 (by decide) (by decide)]
          unfold clB reB
          rw [uM_ne _ _ _ (by decide), uM_eq, uM_ne _ _ _ (by decide), uM_ne _ _ _ (by decide), uM_ne _ _ _ (by decide), uM_ne _ _ _ (by decide), uM_eq]
        · rw [lo 184 (by omega), uM_ne _ _ _ (by decide), uM_off _ _ _ (by decide), uM_off _ _ _ (by decide), uM_off _ _ _ (by decide), s1 184 (by decide), h9' 35 (by decide) (by decide)]
          unfold clB reB
          rw [uM_eq, uM_ne _ _ _ (by decide), uM_ne _ _ _ (by decide), uM_ne _ _ _ (by decide), uM_eq]
/-- every text -/
theorem op_text : TextOk := by
  intro x y S P D T W E h
  by_cases c0 : x = 0
  · rw [c0]; exact op_law y h
  · by_cases c1 : x = 1
    · rw [c1]; exact op_will y h
    · by_cases c2 : x = 2
      · rw [c2]; exact op_tdeed y h
      · refine good_none h (C_none ?_ (Or.inl c2)) fun Bm he => F_none ?_
        · unfold f_X10_text f_X5_faultless
          rw [nm_x, nm_x, bind_x, if_neg c0, if_neg c1]
          rfl
        · unfold f_X11_canText f_X11_canText_25 f_X11_canText_43
          rw [if_neg c0, if_neg c1, if_neg c2]
end DEEDOP
