/-! ===== signings; what is told of people ===== -/
theorem can_congr {P : PP} {D D' : DD} (h1 : ∀ l, dLo D' l = dLo D l) (h2 : ∀ l, dOw D' l = dOw D l) (h3 : ∀ q, dSp D' q = dSp D q) (h4 : ∀ q, dDead D' q = dDead D q) (q l : Nat) : can P D' q l = can P D q l := by
  unfold can liv
  simp only [h1, h2, h4, kin_congr h3]
theorem tog_congr {P : PP} {D D' : DD} (h : ∀ q l, can P D' q l = can P D q l) (x : Int32) : togS P D' x = togS P D x := by
  unfold togS
  simp only [h]
theorem adj_congr2 {P P' : PP} {D : DD} (h1 : ∀ q, pMo P' q = pMo P q) (h2 : ∀ q, pFa P' q = pFa P q) (a b : Nat) : adj P' D a b = adj P D a b := by unfold adj; rw [h1, h1, h2, h2]
theorem rch_congr2 {P P' : PP} {D : DD} (h0 : pN P' = pN P) (h1 : ∀ q, pMo P' q = pMo P q) (h2 : ∀ q, pFa P' q = pFa P q) : ∀ (k a b : Nat), rch P' D k a b = rch P D k a b := by
  intro k
  induction k with
  | zero => intro a b; rfl
  | succ k ih =>
    intro a b
    show (rch P' D k a b || (List.range (pN P')).any (fun c => rch P' D k a c && adj P' D c b)) = (rch P D k a b || (List.range (pN P)).any (fun c => rch P D k a c && adj P D c b))
    rw [ih, h0]
    congr 2
    funext c
    rw [ih, adj_congr2 h1 h2]
theorem kin_congr2 {P P' : PP} {D : DD} (h0 : pN P' = pN P) (h1 : ∀ q, pMo P' q = pMo P q) (h2 : ∀ q, pFa P' q = pFa P q) (a b : Nat) : kinM P' D a b = kinM P D a b := by
  unfold kinM
  rw [h0]
  congr 1
  funext k
  exact rch_congr2 h0 h1 h2 k a b
abbrev pNearS (P : PP) (n : Nat) : PP := (un P.1 0 1 n, P.2)
abbrev pFrS (P : PP) (q : Nat) (v : Int32) : PP := (P.1, un P.2 1 q v)
abbrev pSkS (P : PP) (q : Nat) (v : Int32) : PP := (P.1, un P.2 2 q v)
section SETP
variable {K : Mm} {P : PP} {D : DD}
theorem RK_near (h : RK K P D) (n : Nat) : RK (uM K 0 2 (nI n)) (pNearS P n) D := ⟨⟨h.1.1, h.1.2.1, rfl, h.1.2.2.2⟩, h.2.1, h.2.2.1, h.2.2.2.1, h.2.2.2.2⟩
theorem RK_fr (h : RK K P D) (q : Nat) (v : Int32) : RK (uM K 5 q v) (pFrS P q v) D := by
  refine ⟨h.1, h.2.1, fun q' hq' => ?_, h.2.2.2.1, h.2.2.2.2⟩
  obtain ⟨a1, a2, a3, a4, a5, a6⟩ := h.2.2.1 q' hq'
  refine ⟨a1, a2, a3, a4, ?_, a6⟩
  by_cases e : q' = q
  · subst e; rw [uM_eq]; exact (un_eq _ _ _ _).symm
  · rw [uM_ne _ _ _ e, a5]; exact (un_ne _ _ _ e).symm
theorem RK_sk (h : RK K P D) (q : Nat) (v : Int32) : RK (uM K 6 q v) (pSkS P q v) D := by
  refine ⟨h.1, h.2.1, fun q' hq' => ?_, h.2.2.2.1, h.2.2.2.2⟩
  obtain ⟨a1, a2, a3, a4, a5, a6, a7⟩ := h.2.2.1 q' hq'
  refine ⟨a1, a2, a3, a4, a5, ?_, a7⟩
  by_cases e : q' = q
  · subst e; rw [uM_eq]; exact (un_eq _ _ _ _).symm
  · rw [uM_ne _ _ _ e, a6]; exact (un_ne _ _ _ e).symm
theorem RB_near {B : Mm} (h : RB B P D) (n : Nat) : RB (uM B 239 12 (eo n)) (pNearS P n) D := by
  refine ⟨⟨⟨by rw [uM_ne _ _ _ (by decide)]; exact h.1.1.1, uM_eq _ _ _ _⟩, h.1.2⟩, h.2.1, fun a b ha hb => ?_⟩
  rw [uM_off _ _ _ (by decide), h.2.2 a b ha hb, kin_congr2 (P := P) (P' := pNearS P n) rfl (fun _ => rfl) (fun _ => rfl)]
  try rfl
theorem RB_fr {B : Mm} (h : RB B P D) (q : Nat) (v : Int32) : RB (uM B 246 q v) (pFrS P q v) D := by
  refine ⟨⟨h.1.1, fun q' hq' => ?_⟩, h.2.1, fun a b ha hb => ?_⟩
  · obtain ⟨a1, a2, a3, a4, a5⟩ := h.1.2 q' hq'
    refine ⟨a1, a2, a3, ?_, a5⟩
    by_cases e : q' = q
    · subst e; rw [uM_eq]; exact (un_eq _ _ _ _).symm
    · rw [uM_ne _ _ _ e, a4]; exact (un_ne _ _ _ e).symm
  · rw [uM_off _ _ _ (by decide), h.2.2 a b ha hb, kin_congr2 (P := P) (P' := pFrS P q v) rfl (fun _ => rfl) (fun _ => rfl)]
theorem RB_sk {B : Mm} (h : RB B P D) (q : Nat) (v : Int32) : RB (uM B 247 q v) (pSkS P q v) D := by
  refine ⟨⟨h.1.1, fun q' hq' => ?_⟩, h.2.1, fun a b ha hb => ?_⟩
  · obtain ⟨a1, a2, a3, a4, a5⟩ := h.1.2 q' hq'
    refine ⟨a1, a2, a3, a4, ?_⟩
    by_cases e : q' = q
    · subst e; rw [uM_eq]; exact (un_eq _ _ _ _).symm
    · rw [uM_ne _ _ _ e, a5]; exact (un_ne _ _ _ e).symm
  · rw [uM_off _ _ _ (by decide), h.2.2 a b ha hb, kin_congr2 (P := P) (P' := pSkS P q v) rfl (fun _ => rfl) (fun _ => rfl)]
theorem RB_dies {B : Mm} (h : RB B P D) (hN : pN P ≤ 12) {q : Nat} (hq : q < pN P) (v : Int32) : RB (uM B 240 (88 + q) (v + 1)) P (sDies D q v) := h.upd (by rw [uM_row]; exact RW_dies h.2.1 hN hq rfl) (fun _ => rfl) (by rw [uM_off _ _ _ (by decide)]) (by rw [uM_off _ _ _ (by decide)]) fun k _ _ _ => uM_off _ _ _ (by omega)
end SETP
theorem WFK_sk {P : PP} (h : WFK P) {q m : Nat} (hm : m ≤ 99) : WFK (pSkS P q (nI m)) := by
  intro q2 hq2
  show ∃ s, s ≤ 99 ∧ un P.2 2 q (nI m) 2 q2 = nI s
  by_cases z : q2 = q
  · subst z; rw [un_eq]; exact ⟨m, hm, rfl⟩
  · rw [un_ne _ _ _ z]; exact h q2 hq2
theorem WFR_coin {P : PP} {D : DD} (h : WFR P D) {q m : Nat} (hm : m ≤ 99999) : WFR P (sCoin D q (nI m)) := by
  refine ⟨h.1, fun q2 hq2 => ?_⟩
  show ∃ c, c ≤ 99999 ∧ un D.2 3 q (nI m) 3 q2 = nI c
  by_cases z : q2 = q
  · subst z; rw [un_eq]; exact ⟨m, hm, rfl⟩
  · rw [un_ne _ _ _ z]; exact h.2 q2 hq2
section SET
variable {S : Mm} {P : PP} {D : DD} {T : TT} {W : Nat → Int32} {E : RE}
theorem set_end (h : RR S P D T W E) {a i b j : Nat} {v w : Int32} {P' : PP} {D' : DD} (ha : 1 ≤ a ∧ a < 17) (hb : (b = 239 ∧ j = 12) ∨ b = 240 ∨ b = 246 ∨ b = 247) (hK : RK (fun k => uM S a i v (1 + k)) P' D') (hL : dLn D' = dLn D) (hB : ∀ B : Mm, RB B P D → RB (uM B b j w) P' D') (hw : WFS P' D' T) : RX (uM (uM (uM (uM S a i v) 34 3 0) b j w) 239 3 0) := by
  have fr : ∀ k, 17 ≤ k → k ≠ 34 → uM (uM S a i v) 34 3 0 k = S k := fun k p q => by rw [uM_off _ _ _ q, uM_off _ _ _ (by omega)]
  have hB1 := hB _ (h.B.congr2 (B' := uM (uM S a i v) 34 3 0) (by rw [fr _ (by decide) (by decide)]) (by rw [fr _ (by decide) (by decide)]) fun k _ _ _ _ _ => fr k (by omega) (by omega))
  refine h.act (S1 := uM (uM S a i v) 34 3 0) (P' := P') (D' := D') (W' := W) (H' := (0, E.1.2)) (fun k hk => by rw [uM_off _ _ _ (by omega), uM_off _ _ _ (by omega)]) (RKc_off hK (by omega)) ?_ (fun i hi => ?_) ?_ (fun k hk => by rw [uM_off _ _ _ (by omega), uM_off _ _ _ (by omega)]) (fun k hk => by rw [uM_off _ _ _ (by omega), uM_off _ _ _ (by omega)]) (fun i hi => ?_) ?_ ?_ (fun i hi => ?_) ?_ hw WFH_forget
  · rw [fr _ (by decide) (by decide), hL]; exact h.1.1.2.2.1
  · rw [fr _ (by decide) (by decide)]; rw [hL] at hi; exact h.1.1.2.2.2 i hi
  · exact CH_forget h.1.2.1 (uM_eq _ _ _ _) (by rw [uM_ne _ _ _ (by decide), uM_off _ _ _ (by omega)])
  · rw [uM_ne _ _ _ hi.2.1, uM_at, if_neg]
    omega
  · rw [uM_off _ _ _ (by decide), uM_off _ _ _ (by omega)]
  · exact hB1.congr2 (by rw [uM_ne _ _ _ (by decide)]) (by rw [uM_ne _ _ _ (by decide)]) fun k _ _ _ _ _ => uM_off _ _ _ (by omega)
  · rw [uM_off _ _ _ (by decide), uM_off _ _ _ (by omega), fr _ (by decide) (by decide)]; rw [hL] at hi; exact h.2.1.1.2.2 i hi
  · exact FH_forget (uM_eq _ _ _ _)
theorem op_set (x y v : Int32) (h : RR S P D T W E) : Good (f_X10_set x y v) (f_X11_set x y v) S := by
  have hN := h.wP.1
  have h0 := h.C.1
  have ws := h.2.2.1
  have fr : ∀ a i w k, a < 17 → 35 ≤ k → uM (uM S a i w) 34 3 0 k = S k := fun a i w k p q => by rw [uM_off _ _ _ (by omega), uM_off _ _ _ (by omega)]
  have hBu : ∀ a i w, a < 17 → RB (uM (uM S a i w) 34 3 0) P D := fun a i w ha => h.B.congr2 (by rw [fr _ _ _ _ ha (by decide)]) (by rw [fr _ _ _ _ ha (by decide)]) fun k _ _ _ _ _ => fr _ _ _ _ ha (by omega)
  have h0u : ∀ a i w, a < 17 → uM (uM S a i w) 34 3 0 239 0 = 0 := fun a i w ha => by rw [fr _ _ _ _ ha (by decide)]; exact h0
  by_cases c4 : x = 4
  · subst c4
    rcases nI_cs v (n := 4) (by omega) with hv | ⟨n, hn, rfl⟩
    · refine good_id h (r := 0) ?_ ?_
      · simp only [f_X10_set, if_true]
        by_cases k : v < 0
        · rw [if_pos k]
        · rw [if_neg k, if_neg (i32_nle.mpr (i32_lt_of_le (b := 4) (by decide) (hv.resolve_left k)))]
      · simp only [f_X11_set, nm, uM_id h0, f_X11_canSet, if_true]
        rw [show (3 : Int32) = nI 4 - 1 by decide +kernel, F_isInO (by omega) hv]
        rfl
    · refine Good.ex (r := 1) (S1 := uM (uM S 1 2 (nI n)) 34 3 0) (S2 := uM (uM (uM (uM S 1 2 (nI n)) 34 3 0) 239 12 (eo n)) 239 3 0) ?_ ?_ ?_
      · simp only [f_X10_set, f_X10_set_50, f_X2_forget, nm, Option.bind_some, if_true]
        rw [if_neg (nI_pos (by omega)), if_pos (show nI n ≤ (3 : Int32) from nI_ge_t (b := 3) (by omega) (by omega))]
      · simp only [f_X11_set, nm, uM_id (h0u 1 2 (nI n) (by decide)), f_X11_canSet, f_X11_set_33, f_X11_set_45, f_X11_set_57, f_X11_set_72, f_X11_set_84, if_true]
        rw [show (3 : Int32) = nI 4 - 1 by decide +kernel, F_isInI (by omega) hn]
        rfl
      · refine set_end h (P' := pNearS P n) (D' := D) (by decide) (Or.inl ⟨rfl, rfl⟩) (by rw [uM_sh0]; exact RK_near h.K n) rfl (fun B hB => RB_near hB n) ?_
        exact ⟨⟨ws.1.1, by show n ≤ 3; omega, ws.1.2.2⟩, ws.2.1, ws.2.2.1, ws.2.2.2.1, ws.2.2.2.2.1, ws.2.2.2.2.2⟩
  · rcases lv_cases h y with ⟨u1, u2⟩ | ⟨q, rfl, vq, hq, u1, u2⟩
    · refine good_id h (r := 0) ?_ ?_
      · simp only [f_X10_set]
        rw [if_neg c4, u1]; rfl
      · simp only [f_X11_set, nm, uM_id h0, f_X11_canSet]
        rw [if_neg c4, u2 S h.B]; rfl
    · rcases nI_cs x (n := 4) (by omega) with hx | ⟨j, hj, rfl⟩
      · refine good_id h (r := 0) ?_ ?_
        · simp only [f_X10_set]
          rw [if_neg c4, u1]
          simp only [Option.bind_some, i10, if_false, f_X10_setOfPerson]
          rw [tsw_o (n := 4) rfl (by omega) hx]
          rfl
        · simp only [f_X11_set, nm, uM_id h0, f_X11_canSet, f_X11_canSet_108]
          rw [if_neg c4, u2 S h.B]
          simp only [Option.bind_some, i10, if_false]
          rw [if_neg (show ¬ x = 0 from of_eq_false (ne_o0 (by omega) hx (by omega))), if_neg (show ¬ x = 1 from of_eq_false (ne_o (by omega) hx (j := 1) (by omega))), if_neg (show ¬ x = 2 from of_eq_false (ne_o (by omega) hx (j := 2) (by omega))), if_neg (show ¬ x = 3 from of_eq_false (ne_o (by omega) hx (j := 3) (by omega)))]
          rfl
      · have hj2 : j = 0 ∨ j = 1 ∨ j = 2 ∨ j = 3 := by omega
        have cls : ∀ o, (f_X10_setOfPerson (nI j) (nI q) v S = o) → f_X10_set (nI j) (nI q) v S = o.bind fun q_3 => if q_3.1 = 0 then some (0, q_3.2) else f_X10_set_50 q_3.2 := fun o ho => by
          simp only [f_X10_set]
          rw [if_neg c4, u1]
          simp only [Option.bind_some, i10, if_false]
          rw [ho]
        rcases hj2 with rfl | rfl | rfl | rfl
        · have cl2 : f_X10_setOfPerson (nI 0) (nI q) v S = if v = -1 then some (1, uM S 5 q v) else if v ≤ nI (dDay D) then some (0, S) else if v ≤ 9999 then some (1, uM S 5 q v) else some (0, S) := by
            simp only [f_X10_setOfPerson, f_X10_setOfPerson_57, nm]
            rw [tsw_nI _ _ (by omega)]
            simp only [List.getD_cons_zero]
            rw [gd_t (by omega) (by omega), ix_nI (by omega), (k1s h.K).2.1]
          have hday := h.R.1.1
          have ref : ∀ B, RB B P D → B 239 0 = 0 → f_X11_set (nI 0) (nI q) v B = if v = -1 then some (1, uM (uM B 240 (88 + q) (v + 1)) 239 3 0) else if v ≤ nI (dDay D) then some (0, B) else if v ≤ 9999 then some (1, uM (uM B 240 (88 + q) (v + 1)) 239 3 0) else some (0, B) := fun B hB hz => by
            have d0 : B 240 0 = nI (dDay D) := hB.2.1.1.1
            simp only [f_X11_set, nm, uM_id hz, f_X11_canSet, f_X11_canSet_51, f_X11_set_33, f_X11_set_45, f_X11_set_57, f_X11_set_72, f_X11_set_84]
            rw [if_neg (by decide +kernel : ¬ nI 0 = 4), u2 B hB]
            simp only [Option.bind_some, i10, if_false]
            simp only [(eq_true (by decide +kernel) : (nI 0 = 0) = True), (eq_false (by decide +kernel) : (nI 0 = 1) = False), (eq_false (by decide +kernel) : (nI 0 = 2) = False), (eq_false (by decide +kernel) : (nI 0 = 3) = False), (eq_false (by decide +kernel) : (nI 0 = 4) = False), if_true, if_false]
            rw [d0]
            have e : ∀ C : Mm, gd (inB (88 + nI q) 148 = true) (some ((1 : Int32), uM (uM C 240 (ix (88 + nI q)) (v + 1)) 239 3 0)) = some (1, uM (uM C 240 (88 + q) (v + 1)) 239 3 0) := fun C => by
              rw [nI_lit 88, nI_add, gd_t (by omega) (by omega), ix_nI (by omega)]
            by_cases k1 : v = -1
            · rw [if_pos k1, if_pos k1]
              simp only [Option.bind_some, i10, if_false]
              exact e B
            · rw [if_neg k1, if_neg k1]
              by_cases k2 : v ≤ nI (dDay D)
              · rw [if_pos k2, F_isIn0 (Or.inl (by rw [nI_1]; exact i32_nle.mp fun k => (by
                  have a1 := Int32.le_iff_toInt_le.mp k
                  have a2 := Int32.le_iff_toInt_le.mp k2
                  rw [nI_toInt (by omega)] at a1 a2
                  omega)))]
                rfl
              · rw [if_neg k2]
                have k3 : ¬ v < nI (dDay D) + 1 := fun k => k2 (by
                  rw [nI_1] at k
                  have a1 := Int32.lt_iff_toInt_lt.mp k
                  refine Int32.le_iff_toInt_le.mpr ?_
                  rw [nI_toInt (by omega)] at a1 ⊢
                  omega)
                by_cases k4 : v ≤ 9999
                · rw [if_pos k4, F_isIn1 k3 (i32_nlt.mpr k4)]
                  simp only [Option.bind_some, i10, if_false]
                  exact e B
                · rw [if_neg k4, F_isIn0 (Or.inr (i32_nle.mp k4))]
                  rfl
          have fin : RX (uM (uM (uM (uM S 5 q v) 34 3 0) 240 (88 + q) (v + 1)) 239 3 0) := set_end h (P' := P) (D' := sDies D q v) (by decide) (Or.inr (Or.inl rfl)) (RKc_dies h.K q v) rfl (fun B hB => RB_dies hB hN hq v) ws
          have yes : (v = -1 ∨ (¬ v ≤ nI (dDay D) ∧ v ≤ 9999)) → Good (f_X10_set (nI 0) (nI q) v) (f_X11_set (nI 0) (nI q) v) S := fun k => by
            refine Good.ex (r := 1) (S1 := uM (uM S 5 q v) 34 3 0) (S2 := uM (uM (uM (uM S 5 q v) 34 3 0) 240 (88 + q) (v + 1)) 239 3 0) ?_ ?_ fin
            · rw [cls _ cl2]
              rcases k with k | ⟨k1, k2⟩
              · rw [if_pos k]; rfl
              · by_cases k3 : v = -1
                · rw [if_pos k3]; rfl
                · rw [if_neg k3, if_neg k1, if_pos k2]; rfl
            · rw [ref _ (hBu 5 q v (by decide)) (h0u 5 q v (by decide))]
              rcases k with k | ⟨k1, k2⟩
              · rw [if_pos k]
              · by_cases k3 : v = -1
                · rw [if_pos k3]
                · rw [if_neg k3, if_neg k1, if_pos k2]
          by_cases k1 : v = -1
          · exact yes (Or.inl k1)
          · by_cases k2 : v ≤ nI (dDay D)
            · refine good_id h (r := 0) ?_ ?_
              · rw [cls _ cl2, if_neg k1, if_pos k2]; rfl
              · rw [ref S h.B h0, if_neg k1, if_pos k2]
            · by_cases k3 : v ≤ 9999
              · exact yes (Or.inr ⟨k2, k3⟩)
              · refine good_id h (r := 0) ?_ ?_
                · rw [cls _ cl2, if_neg k1, if_neg k2, if_neg k3]; rfl
                · rw [ref S h.B h0, if_neg k1, if_neg k2, if_neg k3]
        · have cl2 : f_X10_setOfPerson (nI 1) (nI q) v S = if v < 0 then some (0, S) else if v ≤ 9999 then some (1, uM S 6 q v) else some (0, S) := by
            simp only [f_X10_setOfPerson, nm]
            rw [tsw_nI _ _ (by omega)]
            simp only [List.getD_cons_succ, List.getD_cons_zero]
            rw [gd_t (by omega) (by omega), ix_nI (by omega)]
          have ref : ∀ B, RB B P D → B 239 0 = 0 → f_X11_set (nI 1) (nI q) v B = if v < 0 then some (0, B) else if v ≤ 9999 then some (1, uM (uM B 246 q v) 239 3 0) else some (0, B) := fun B hB hz => by
            simp only [f_X11_set, nm, uM_id hz, f_X11_canSet, f_X11_canSet_108, f_X11_set_33, f_X11_set_45, f_X11_set_57, f_X11_set_72, f_X11_set_84]
            rw [if_neg (by decide +kernel : ¬ nI 1 = 4), u2 B hB]
            simp only [Option.bind_some, i10, if_false]
            simp only [(eq_false (by decide +kernel) : (nI 1 = 0) = False), (eq_true (by decide +kernel) : (nI 1 = 1) = True), (eq_false (by decide +kernel) : (nI 1 = 2) = False), (eq_false (by decide +kernel) : (nI 1 = 3) = False), (eq_false (by decide +kernel) : (nI 1 = 4) = False), if_true, if_false]
            by_cases k1 : v < 0
            · rw [if_pos k1, F_isIn0 (Or.inl k1)]
              rfl
            · rw [if_neg k1]
              by_cases k2 : v ≤ 9999
              · rw [if_pos k2, F_isIn1 k1 (i32_nlt.mpr k2)]
                simp (disch := omega) only [Option.bind_some, i10, if_false, nI_lit 100, nI_add, gd_t, ix_nI]
                rfl
              · rw [if_neg k2, F_isIn0 (Or.inr (i32_nle.mp k2))]
                rfl
          by_cases k1 : v < 0
          · exact good_id h (r := 0) (by rw [cls _ cl2, if_pos k1]; rfl) (by rw [ref S h.B h0, if_pos k1])
          · by_cases k2 : v ≤ 9999
            · refine Good.ex (r := 1) (S1 := uM (uM S 6 q v) 34 3 0) (S2 := uM (uM (uM (uM S 6 q v) 34 3 0) 246 q v) 239 3 0) ?_ ?_ ?_
              · rw [cls _ cl2, if_neg k1, if_pos k2]; rfl
              · rw [ref _ (hBu 6 q v (by decide)) (h0u 6 q v (by decide)), if_neg k1, if_pos k2]
              · obtain ⟨m, hm, rfl⟩ := nI_of2 (M := 9999) (n := 9999) (by decide +kernel) k1 k2
                exact set_end h (P' := pFrS P q (nI m)) (D' := D) (by decide) (Or.inr (Or.inr (Or.inl rfl))) (by rw [uM_sh S 1 5 q (nI m)]; exact RK_fr h.K q (nI m)) rfl (fun B hB => RB_fr hB q (nI m)) ws
            · exact good_id h (r := 0) (by rw [cls _ cl2, if_neg k1, if_neg k2]; rfl) (by rw [ref S h.B h0, if_neg k1, if_neg k2])
        · have cl2 : f_X10_setOfPerson (nI 2) (nI q) v S = if v < 0 then some (0, S) else if v ≤ 99 then some (1, uM S 7 q v) else some (0, S) := by
            simp only [f_X10_setOfPerson, nm]
            rw [tsw_nI _ _ (by omega)]
            simp only [List.getD_cons_succ, List.getD_cons_zero]
            rw [gd_t (by omega) (by omega), ix_nI (by omega)]
          have ref : ∀ B, RB B P D → B 239 0 = 0 → f_X11_set (nI 2) (nI q) v B = if v < 0 then some (0, B) else if v ≤ 99 then some (1, uM (uM B 247 q v) 239 3 0) else some (0, B) := fun B hB hz => by
            simp only [f_X11_set, nm, uM_id hz, f_X11_canSet, f_X11_canSet_108, f_X11_set_33, f_X11_set_45, f_X11_set_57, f_X11_set_72, f_X11_set_84]
            rw [if_neg (by decide +kernel : ¬ nI 2 = 4), u2 B hB]
            simp only [Option.bind_some, i10, if_false]
            simp only [(eq_false (by decide +kernel) : (nI 2 = 0) = False), (eq_false (by decide +kernel) : (nI 2 = 1) = False), (eq_true (by decide +kernel) : (nI 2 = 2) = True), (eq_false (by decide +kernel) : (nI 2 = 3) = False), (eq_false (by decide +kernel) : (nI 2 = 4) = False), if_true, if_false]
            by_cases k1 : v < 0
            · rw [if_pos k1, F_isIn0 (Or.inl k1)]
              rfl
            · rw [if_neg k1]
              by_cases k2 : v ≤ 99
              · rw [if_pos k2, F_isIn1 k1 (i32_nlt.mpr k2)]
                simp (disch := omega) only [Option.bind_some, i10, if_false, nI_lit 100, nI_add, gd_t, ix_nI]
                rfl
              · rw [if_neg k2, F_isIn0 (Or.inr (i32_nle.mp k2))]
                rfl
          by_cases k1 : v < 0
          · exact good_id h (r := 0) (by rw [cls _ cl2, if_pos k1]; rfl) (by rw [ref S h.B h0, if_pos k1])
          · by_cases k2 : v ≤ 99
            · refine Good.ex (r := 1) (S1 := uM (uM S 7 q v) 34 3 0) (S2 := uM (uM (uM (uM S 7 q v) 34 3 0) 247 q v) 239 3 0) ?_ ?_ ?_
              · rw [cls _ cl2, if_neg k1, if_pos k2]; rfl
              · rw [ref _ (hBu 7 q v (by decide)) (h0u 7 q v (by decide)), if_neg k1, if_pos k2]
              · obtain ⟨m, hm, rfl⟩ := nI_of2 (M := 99) (n := 99) (by decide +kernel) k1 k2
                exact set_end h (P' := pSkS P q (nI m)) (D' := D) (by decide) (Or.inr (Or.inr (Or.inr rfl))) (by rw [uM_sh S 1 6 q (nI m)]; exact RK_sk h.K q (nI m)) rfl (fun B hB => RB_sk hB q (nI m)) ⟨ws.1, WFK_sk ws.2.1 hm, ws.2.2.1, ws.2.2.2.1, ws.2.2.2.2.1, ws.2.2.2.2.2⟩
            · exact good_id h (r := 0) (by rw [cls _ cl2, if_neg k1, if_neg k2]; rfl) (by rw [ref S h.B h0, if_neg k1, if_neg k2])
        · have cl2 : f_X10_setOfPerson (nI 3) (nI q) v S = if v < 0 then some (0, S) else if v ≤ 99999 then some (1, uM S 8 q v) else some (0, S) := by
            simp only [f_X10_setOfPerson, nm]
            rw [tsw_nI _ _ (by omega)]
            simp only [List.getD_cons_succ, List.getD_cons_zero]
            rw [gd_t (by omega) (by omega), ix_nI (by omega)]
          have ref : ∀ B, RB B P D → B 239 0 = 0 → f_X11_set (nI 3) (nI q) v B = if v < 0 then some (0, B) else if v ≤ 99999 then some (1, uM (uM B 240 (100 + q) v) 239 3 0) else some (0, B) := fun B hB hz => by
            simp only [f_X11_set, nm, uM_id hz, f_X11_canSet, f_X11_canSet_108, f_X11_set_33, f_X11_set_45, f_X11_set_57, f_X11_set_72, f_X11_set_84]
            rw [if_neg (by decide +kernel : ¬ nI 3 = 4), u2 B hB]
            simp only [Option.bind_some, i10, if_false]
            simp only [(eq_false (by decide +kernel) : (nI 3 = 0) = False), (eq_false (by decide +kernel) : (nI 3 = 1) = False), (eq_false (by decide +kernel) : (nI 3 = 2) = False), (eq_true (by decide +kernel) : (nI 3 = 3) = True), (eq_false (by decide +kernel) : (nI 3 = 4) = False), if_true, if_false]
            by_cases k1 : v < 0
            · rw [if_pos k1, F_isIn0 (Or.inl k1)]
              rfl
            · rw [if_neg k1]
              by_cases k2 : v ≤ 99999
              · rw [if_pos k2, F_isIn1 k1 (i32_nlt.mpr k2)]
                simp (disch := omega) only [Option.bind_some, i10, if_false, nI_lit 100, nI_add, gd_t, ix_nI]
              · rw [if_neg k2, F_isIn0 (Or.inr (i32_nle.mp k2))]
                rfl
          by_cases k1 : v < 0
          · exact good_id h (r := 0) (by rw [cls _ cl2, if_pos k1]; rfl) (by rw [ref S h.B h0, if_pos k1])
          · by_cases k2 : v ≤ 99999
            · refine Good.ex (r := 1) (S1 := uM (uM S 8 q v) 34 3 0) (S2 := uM (uM (uM (uM S 8 q v) 34 3 0) 240 (100 + q) v) 239 3 0) ?_ ?_ ?_
              · rw [cls _ cl2, if_neg k1, if_pos k2]; rfl
              · rw [ref _ (hBu 8 q v (by decide)) (h0u 8 q v (by decide)), if_neg k1, if_pos k2]
              · obtain ⟨m, hm, rfl⟩ := nI_of2 (M := 99999) (n := 99999) (by decide +kernel) k1 k2
                exact set_end h (P' := P) (D' := sCoin D q (nI m)) (by decide) (Or.inr (Or.inl rfl)) (RKc_coin h.K q (nI m)) rfl (fun B hB => RB_coin hB hN hq (nI m)) ⟨ws.1, ws.2.1, ws.2.2.1, WFR_coin ws.2.2.2.1 hm, ws.2.2.2.2.1, ws.2.2.2.2.2⟩
            · exact good_id h (r := 0) (by rw [cls _ cl2, if_neg k1, if_neg k2]; rfl) (by rw [ref S h.B h0, if_neg k1, if_neg k2])
end SET
