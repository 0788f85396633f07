/-! ===== a will is told ===== -/
section WILLOP2
variable {S : Mm} {P : PP} {D : DD} {T : TT} {W : Nat → Int32} {E : RE}
theorem good_none {x y : Int32} (h : RR S P D T W E) (c : f_X10_text x y S = some (-1, uM (clB S) 184 1 0)) (r : ∀ Bm : Mm, (∀ k, 239 ≤ k → Bm k = S k) → f_X11_text x y Bm = some (-1, uM (reB Bm) 239 16 0)) : Good (f_X10_text x y) (f_X11_text x y) S := by
  refine two_sim fun Bm he => ⟨-1, _, _, c, r Bm he, fun k hk => ?_, fun hbm => text_none h he hbm⟩
  rw [uM_off _ _ _ (by omega)]
  unfold clB
  rw [uM_off _ _ _ (by omega), uM_off _ _ _ (by omega)]
theorem clB_off {k : Nat} (h : k ≠ 184) : clB S k = S k := by
  unfold clB
  rw [uM_off _ _ _ h, uM_off _ _ _ h]
theorem RR.rsB (h : RR S P D T W E) {Bm : Mm} (e : ∀ k, 239 ≤ k → Bm k = S k) : RS (reB Bm) P := h.B.1.congr (by rw [reB_ne (by decide), e 239 (by omega)]) (by rw [reB_ne (by decide), e 239 (by omega)]) fun k p q => by rw [reB_off (by omega), e k (by omega)]
theorem RR.rwB (h : RR S P D T W E) {Bm : Mm} (e : ∀ k, 239 ≤ k → Bm k = S k) : RW (reB Bm 240) P D := by
  rw [reB_off (by decide), e 240 (by omega)]
  exact h.B.2.1
theorem RR.kcl (h : RR S P D T W E) : RK (fun j => clB S (1 + j)) P D := h.K.congr fun j hj => clB_off (by omega)
/-- what the class does with a text that can't be -/
theorem C_none {x y : Int32} (c : f_X10_text x y S = f_X10_text_70 x (-1) (clB S)) (hx : x ≠ 2 ∨ 8 ≤ S 17 5) : f_X10_text x y S = some (-1, uM (clB S) 184 1 0) := by
  rw [c]
  unfold f_X10_text_70 f_X10_text_99
  by_cases z : x = 2
  · rw [if_pos z, if_pos (show (8 : Int32) ≤ clB S 17 5 by rw [clB_off (by decide)]; exact hx.resolve_left (fun q => q z)), nm_x]
  · rw [if_neg z, nm_x]
theorem F_none {x y : Int32} {Bm : Mm} (c : f_X11_canText x y (reB Bm) = some (0, reB Bm)) : f_X11_text x y Bm = some (-1, uM (reB Bm) 239 16 0) := by
  unfold f_X11_text
  rw [nm_x, nm_x, nm_x, nm_x, nm_x, nm_x, show uM (uM (uM (uM (uM (uM Bm 239 0 0) 239 34 0) 239 35 (-1)) 239 17 0) 239 28 0) 239 29 0 = reB Bm from rfl, c, bind_x, if_pos rfl]
  unfold f_X11_text_69
  rw [nm_x, if_pos rfl]
theorem op_will (y : Int32) (h : RR S P D T W E) : Good (f_X10_text 1 y) (f_X11_text 1 y) S := by
  have hN := h.wP.1
  have c10 : f_X10_text 1 y S = ((f_X1_lives 1 y (clB S)).bind fun q_3 => if q_3.1 = 0 then f_X10_text_70 1 (-1) q_3.2 else (f_X9_read_17 y (q_3.2 1 3) q_3.2).bind fun q_4 => f_X10_text_99 q_4.1 q_4.2) := by
    unfold f_X10_text f_X5_faultless
    rw [nm_x, nm_x, bind_x, if_neg (of_eq_false i10), if_pos rfl]
    rfl
  have n2 : ¬ (1 : Int32) = 2 := by decide
  have r25 : ∀ Bm : Mm, f_X11_canText_25 1 Bm = some (0, Bm) := fun Bm => by
    unfold f_X11_canText_25 f_X11_canText_43
    rw [if_neg n2]
  rcases nI_cs y (n := pN P) (by omega) with hy | ⟨p, hp, rfl⟩
  · refine good_none h (C_none ?_ (Or.inl n2)) fun Bm he => F_none ?_
    · rw [c10, C_lives0 h.kcl hy, bz]
    · unfold f_X11_canText
      rw [if_neg (of_eq_false i10), if_pos rfl, F_isPerson0 (h.rsB he) hy, bz, r25]
  · have hp12 : p < 12 := by omega
    by_cases lv : liv P D p = true
    · -- one who lives
      refine two_sim fun Bm he => ?_
      have w := h.wb
      have tp0 := h.tp
      have fp := h.fp he
      have rs := h.rsB he
      obtain ⟨n, hn⟩ : ∃ n, n = E.2.2.1 := ⟨_, rfl⟩
      obtain ⟨b, hb⟩ : ∃ b, b = E.2.2.2.1 := ⟨_, rfl⟩
      rw [← hn, ← hb] at w tp0 fp
      have w1 := w.1
      obtain ⟨A1, m, a1, tp1, tk1, h7, fr1⟩ := C_cut isT2 w tp0
      have lm : m ≤ 400 := tk1.2.1
      have k3 : clB S 1 3 = nI (pN P) := h.kcl.1.2.2.2
      obtain ⟨A2, hA2⟩ : ∃ X, X = uM (uM (uM A1 198 5 0) 198 6 (nI p)) 198 7 (nI (pN P)) := ⟨_, rfl⟩
      have o2 : ∀ k, k ≠ 198 → A2 k = A1 k := fun k hk => by rw [hA2, uM_off _ _ _ hk, uM_off _ _ _ hk, uM_off _ _ _ hk]
      have tk2 : TK A2 n b 202 m := tk1.congr (by rw [o2 202 (by decide)]) fun j p q => o2 j (by omega)
      have ck2 : CK (clB S) A2 := ⟨fun j p q => by rw [o2 j (by omega), fr1 j (by omega)], fun j p q => by rw [o2 184 (by decide), fr1 184 (by omega)]⟩
      have tpe : TP A2 n b := by
        unfold TP
        rw [o2 184 (by decide), o2 185 (by decide)]
        exact tp1
      have h6 : A2 198 6 = nI p := by rw [hA2, uM_ne _ _ _ (by decide), uM_eq]
      have h7' : A2 198 7 = nI (pN P) := by rw [hA2, uM_eq]
      obtain ⟨B1, b1, g1, g2, ft⟩ := F_rd (r0 := 202) (i := 0) fp w isT2 (by unfold reB; rw [uM_ne _ _ _ (by decide), uM_ne _ _ _ (by decide), uM_eq]; rfl) (Nat.zero_le _)
      have fk1 : FK (reB Bm) B1 := FK.rfl.of g1 g2
      have st : WS A2 (reB Bm) n m b A2 B1 0 [] := ⟨Nat.zero_le _, tk2, by rw [o2 202 (by decide), h7]; rfl, CK.rfl, rfl, fk1, ft, ⟨by rw [hA2, uM_ne _ _ _ (by decide), uM_ne _ _ _ (by decide), uM_eq]; rfl, rfl, rfl⟩, fun k hk => absurd hk (Nat.not_lt_zero k)⟩
      have c0 : f_X10_text 1 (nI p) S = ((f_X9_read_17_25 FU (nI p) (nI 0) A2).bind fun q_2 => f_X10_text_99 q_2.1 q_2.2) := by
        rw [c10, C_lives h.kcl hN hp, if_pos lv, bo]
        dsimp only
        rw [k3]
        unfold f_X9_read_17
        rw [a1, bind_x, nm_x, nm_x, nm_x, ← hA2]
        rfl
      have r0 : f_X11_text 1 (nI p) Bm = ((f_X11_readWill_2 FU (nI p) (nI ([] : List Wl3).length) B1).bind fun q_8 => if q_8.1 = (-1 : Int32) then nm (uM q_8.2 239 34 (q_8.2 239 32)) fun S_9 => nm (uM S_9 239 35 (S_9 239 33)) fun S_10 => f_X11_text_69 1 (nI p) q_8.1 S_10 else f_X11_text_69 1 (nI p) q_8.1 q_8.2) := by
        unfold f_X11_text f_X11_canText f_X11_canText_39
        rw [nm_x, nm_x, nm_x, nm_x, nm_x, nm_x, show uM (uM (uM (uM (uM (uM Bm 239 0 0) 239 34 0) 239 35 (-1)) 239 17 0) 239 28 0) 239 29 0 = reB Bm from rfl, if_neg (of_eq_false i10), if_pos rfl, F_isPerson1 rs hN hp, bo, F_doesLive (h.rwB he) hN hp, if_pos lv, bo, bo]
        unfold f_X11_readsText
        rw [if_neg n2, b1, bind_x, if_neg (of_eq_false i10), bind_id]
        rfl
      rcases J_wlines w tpe fp rs hN hp12 h6 h7' m 0 [] A2 B1 0 FU FU lm (by omega) (by unfold FU; omega) (by unfold FU; omega) (Nat.le_refl _) (by show 0 ≤ 12; omega) st (fun k hk => absurd hk (Nat.not_lt_zero k)) with ⟨A3, B3, a3, b3, ck3, fk3, e2, e3⟩ | ⟨i', Ws, A3, B3, a3, b3, g3, hL, hbd⟩
      · have ck := ck2.trans ck3
        refine ⟨-1, uM A3 184 1 0, _, ?_, ?_, fun k hk => ?_, fun hbm => text_fail h he ck fk3 e2 e3 hbm⟩
        · rw [c0, a3, bind_x]
          rfl
        · rw [r0, b3, bind_x, if_pos rfl, nm_x, nm_x]
          unfold f_X11_text_69
          rw [nm_x, if_pos rfl, uM_ne _ _ _ (by decide : (33 : Nat) ≠ 34)]
        · rw [uM_off _ _ _ (by omega), ck.cl (by omega) (by omega)]
      · have ck := ck2.trans g3.ck
        have fk := g3.fk
        obtain ⟨A4, a4, v1, v2, v4⟩ := C_takeW hp12 hL g3.2.2.2.2.2.2.2.1.1
        have L1 : ¬ nI Ws.length = -1 := of_eq_false (nI_n1 (by omega))
        have tk := F_takesWill hp12 hL (uM B3 239 16 0)
        have e184 : ∀ x, A3 184 x = clB S 184 x := fun x => by
          rw [g3.2.2.2.2.1, o2 184 (by decide), fr1 184 (by omega)]
        refine ⟨nI Ws.length, uM A4 184 1 0, takenW p Ws.length (uM B3 239 16 0), ?_, ?_, fun k hk => ?_, fun hbm => ?_⟩
        · rw [c0, a3, a4, bind_x]
          rfl
        · rw [r0, b3, bind_x, if_neg L1]
          unfold f_X11_text_69
          rw [nm_x, if_neg L1, if_neg n2, if_neg (of_eq_false i10), tk]
          rfl
        · rw [uM_off _ _ _ (by omega), v4 k (by omega), ck.cl (by omega) (by omega)]
        · have of : ∀ k x, k ≠ 239 → ¬ (258 ≤ k ∧ k < 262) → takenW p Ws.length (uM B3 239 16 0) k x = B3 k x := fun k x h1 h2 => by
            unfold takenW
            rw [uM_off _ _ _ (by omega), cpw_o (by omega), uM_off _ _ _ h1]
          have o9 : ∀ x, takenW p Ws.length (uM B3 239 16 0) 239 x = uM B3 239 16 0 239 x := fun x => by
            unfold takenW
            rw [uM_off _ _ _ (by decide), cpw_o (by omega)]
          have lo : ∀ k, k < 239 → takenW p Ws.length (uM B3 239 16 0) k = uM A4 184 1 0 k := fun k hk => by
            funext x
            rw [of k x (by omega) (by omega), fk.1 k x (kp_o (by omega) (by omega)), reB_off (by omega), hbm k hk]
          have lo2 : ∀ k, k < 25 ∨ 28 < k → k < 239 → (k < 186 ∨ 206 ≤ k) → k ≠ 184 → takenW p Ws.length (uM B3 239 16 0) k = S k := fun k p q r s => by
            rw [lo k q, uM_off _ _ _ s, v4 k p, ck.cl r s]
          have hi : ∀ k, 239 < k → ¬ (258 ≤ k ∧ k < 262) → ∀ x, kp k x → takenW p Ws.length (uM B3 239 16 0) k x = S k x := fun k p q x r => by
            rw [of k x (by omega) q, fk.1 k x r, reB_off (by omega), he k (by omega)]
          have hw : ∀ k, k = 259 ∨ k = 260 ∨ k = 261 → ∀ x, x < 144 → takenW p Ws.length (uM B3 239 16 0) k x = if 12 * p ≤ x ∧ x < 12 * p + Ws.length then B3 k (144 + (x - 12 * p)) else S k x := fun k hk x hx => by
            unfold takenW
            rw [uM_off _ _ _ (by omega)]
            by_cases c : 12 * p ≤ x ∧ x < 12 * p + Ws.length
            · rw [cpw_i (by omega), if_pos c, uM_off _ _ _ (by omega)]
            · have kk : kp k x := by
                unfold kp
                refine ⟨?_, ?_, ?_, ?_, ?_, ?_⟩ <;> intros <;> omega
              rw [cpw_o (by omega), if_neg c, uM_off _ _ _ (by omega), fk.1 k x kk, reB_off (by omega), he k (by omega)]
          have h258 : ∀ x, takenW p Ws.length (uM B3 239 16 0) 258 x = if x = p then nI Ws.length else S 258 x := fun x => by
            unfold takenW
            rw [uM_at]
            by_cases c : x = p
            · rw [if_pos (And.intro rfl c), if_pos c]
            · rw [if_neg (fun q => c q.2), if_neg c, cpw_o (by omega), uM_off _ _ _ (by decide), fk.1 258 x (kp_o (by omega) (by omega)), reB_off (by omega), he 258 (by omega)]
          have rows := g3.2.2.2.2.2.2.2.2
          obtain ⟨⟨k1, k2⟩, kl, kc, kw, kd⟩ := h.TK
          obtain ⟨⟨f1, f2⟩, fl, fc, fw, fd⟩ := h.TF
          have hwT := h.wT
          refine h.text (T' := willT T p Ws) (fun k p q => lo2 k (by omega) q (by omega) (by omega)) ⟨⟨?_, ?_⟩, fun k hk => ?_, fun i hi => ?_, fun q hq => ?_, fun d hd => ?_⟩ (fun k hk => ?_) (fun j hj p1 p2 p3 p4 p5 => ?_) ⟨⟨?_, ?_⟩, fun k hk => ?_, fun i hi' => ?_, fun q hq => ?_, fun d hd => ?_⟩ ?_ ?_ ?_ ?_ (willT_w h.wT hp hp12 hL hbd) h.2.2.1.2.2.2.2.2 (Nat.le_refl _)
          · show takenW p Ws.length (uM B3 239 16 0) 17 5 = _
            rw [lo2 17 (by omega) (by omega) (by omega) (by omega)]; exact k1
          · show takenW p Ws.length (uM B3 239 16 0) 18 2 = _
            rw [lo2 18 (by omega) (by omega) (by omega) (by omega)]; exact k2
          · show takenW p Ws.length (uM B3 239 16 0) 20 k = _ ∧ takenW p Ws.length (uM B3 239 16 0) 21 k = _ ∧ takenW p Ws.length (uM B3 239 16 0) 22 k = _
            rw [lo2 20 (by omega) (by omega) (by omega) (by omega), lo2 21 (by omega) (by omega) (by omega) (by omega), lo2 22 (by omega) (by omega) (by omega) (by omega)]
            exact kl k hk
          · show takenW p Ws.length (uM B3 239 16 0) 19 i = _
            rw [lo2 19 (by omega) (by omega) (by omega) (by omega)]
            exact kc i hi
          · show takenW p Ws.length (uM B3 239 16 0) 25 q = _ ∧ ∀ k, k < tWm (willT T p Ws) q → takenW p Ws.length (uM B3 239 16 0) 26 (12 * q + k) = _ ∧ takenW p Ws.length (uM B3 239 16 0) 27 (12 * q + k) = _ ∧ takenW p Ws.length (uM B3 239 16 0) 28 (12 * q + k) = _
            obtain ⟨u1, u2⟩ := kw q hq
            have wm := (hwT.2.2.1 q hq).1
            rw [willT_m, lo 25 (by omega), lo 26 (by omega), lo 27 (by omega), lo 28 (by omega), uM_off _ _ _ (by decide), uM_off _ _ _ (by decide), uM_off _ _ _ (by decide), uM_off _ _ _ (by decide), v1]
            by_cases c : q = p
            · subst c
              rw [if_pos rfl, if_pos rfl]
              refine ⟨rfl, fun k hk => ?_⟩
              obtain ⟨t1, t2, t3⟩ := willT_i (T := T) (p := q) (x := 12 * q + k) (Ws := Ws) (by omega)
              obtain ⟨s1, s2, s3⟩ := v2 (12 * q + k)
              rw [if_pos (show 12 * q ≤ 12 * q + k ∧ 12 * q + k < 12 * q + Ws.length by omega)] at s1 s2 s3
              rw [t1, t2, t3, s1, s2, s3, show 12 * q + k - 12 * q = k by omega]
              exact (rows k hk).1
            · rw [if_neg c, if_neg c, ck.cl (k := 25) (by omega) (by omega)]
              refine ⟨u1, fun k hk => ?_⟩
              obtain ⟨t1, t2, t3⟩ := willT_o (T := T) (p := p) (x := 12 * q + k) (Ws := Ws) (by omega)
              obtain ⟨s1, s2, s3⟩ := v2 (12 * q + k)
              rw [if_neg (show ¬ (12 * p ≤ 12 * q + k ∧ 12 * q + k < 12 * p + Ws.length) by omega)] at s1 s2 s3
              rw [t1, t2, t3, s1, s2, s3, ck.cl (k := 26) (by omega) (by omega), ck.cl (k := 27) (by omega) (by omega), ck.cl (k := 28) (by omega) (by omega)]
              exact u2 k hk
          · show takenW p Ws.length (uM B3 239 16 0) 30 d = _ ∧ takenW p Ws.length (uM B3 239 16 0) 31 d = _ ∧ ∀ i, _ → takenW p Ws.length (uM B3 239 16 0) 29 (40 * d + i) = _
            rw [lo2 30 (by omega) (by omega) (by omega) (by omega), lo2 31 (by omega) (by omega) (by omega) (by omega), lo2 29 (by omega) (by omega) (by omega) (by omega)]
            exact kd d hd
          · funext x
            by_cases c : k = 257
            · omega
            · exact hi k (by omega) (by omega) x (kp_o (by omega) (by omega))
          · rw [o9 j, uM_ne _ _ _ p1]
            by_cases c : j = 0
            · subst c
              rw [fk.2 0 rfl, h.C.1]
              unfold reB
              rw [uM_ne _ _ _ (by decide), uM_ne _ _ _ (by decide), uM_ne _ _ _ (by decide), uM_ne _ _ _ (by decide), uM_ne _ _ _ (by decide), uM_eq]
            · rw [ks_kept fk hj ⟨c, p3, p4⟩, he 239 (by omega)]
          · rw [o9 40, uM_ne _ _ _ (by decide), ks_kept fk rfl (by decide), he 239 (by omega)]; exact f1
          · rw [o9 22, uM_ne _ _ _ (by decide), ks_kept fk rfl (by decide), he 239 (by omega)]; exact f2
          · have hk : k < tLm T := hk
            have := hwT.1.2.1
            have kk : ∀ z, z = 252 ∨ z = 253 ∨ z = 254 → kp z k := fun z hz => by
              unfold kp
              refine ⟨?_, ?_, ?_, ?_, ?_, ?_⟩ <;> intros <;> omega
            rw [hi 252 (by omega) (by omega) k (kk _ (by omega)), hi 253 (by omega) (by omega) k (kk _ (by omega)), hi 254 (by omega) (by omega) k (kk _ (by omega))]
            exact fl k hk
          · have hi' : i < tCl T := hi'
            have := hwT.1.2.2
            rw [hi 255 (by omega) (by omega) i (kp_c (by omega) (by omega)), hi 256 (by omega) (by omega) i (kp_c (by omega) (by omega))]
            exact fc i hi'
          · obtain ⟨u1, u2⟩ := fw q hq
            have wm := (hwT.2.2.1 q hq).1
            rw [willT_m, h258]
            by_cases c : q = p
            · subst c
              rw [if_pos rfl, if_pos rfl]
              refine ⟨rfl, fun k hk => ?_⟩
              obtain ⟨t1, t2, t3⟩ := willT_i (T := T) (p := q) (x := 12 * q + k) (Ws := Ws) (by omega)
              have cc : 12 * q ≤ 12 * q + k ∧ 12 * q + k < 12 * q + Ws.length := by omega
              rw [t1, t2, t3, hw 259 (by omega) _ (by omega), hw 260 (by omega) _ (by omega), hw 261 (by omega) _ (by omega), if_pos cc, if_pos cc, if_pos cc, show 12 * q + k - 12 * q = k by omega]
              exact (rows k hk).2
            · rw [if_neg c, if_neg c]
              refine ⟨u1, fun k hk => ?_⟩
              obtain ⟨t1, t2, t3⟩ := willT_o (T := T) (p := p) (x := 12 * q + k) (Ws := Ws) (by omega)
              have cc : ¬ (12 * p ≤ 12 * q + k ∧ 12 * q + k < 12 * p + Ws.length) := by omega
              rw [t1, t2, t3, hw 259 (by omega) _ (by omega), hw 260 (by omega) _ (by omega), hw 261 (by omega) _ (by omega), if_neg cc, if_neg cc, if_neg cc]
              exact u2 k hk
          · have hd : d < tDn T := hd
            obtain ⟨u1, u2, u3⟩ := fd d hd
            have := (hwT.2.2.2 d hd).1
            have := hwT.1.1
            rw [hi 262 (by omega) (by omega) d (kp_o (by omega) (by omega)), hi 263 (by omega) (by omega) d (kp_o (by omega) (by omega))]
            refine ⟨u1, u2, fun i hi2 => ?_⟩
            have hi2 : i < tDl T d := hi2
            have kk : kp 264 (40 * d + i) := by
              unfold kp
              refine ⟨?_, ?_, ?_, ?_, ?_, ?_⟩ <;> intros <;> omega
            rw [hi 264 (by omega) (by omega) _ kk]
            exact u3 i hi2
          · rw [lo 184 (by omega), uM_eq]
          · rw [o9 16, uM_eq]
          · rw [lo 184 (by omega), uM_ne _ _ _ (by decide), v4 184 (by omega), e184 2, o9 34, uM_ne _ _ _ (by decide), fk.2 34 rfl]
            unfold clB reB
            rw [uM_ne _ _ _ (by decide), uM_eq, uM_ne _ _ _ (by decide), uM_ne _ _ _ (by decide), uM_ne _ _ _ (by decide), uM_ne _ _ _ (by decide), uM_eq]
          · rw [lo 184 (by omega), uM_ne _ _ _ (by decide), v4 184 (by omega), e184 3, o9 35, uM_ne _ _ _ (by decide), fk.2 35 rfl]
            unfold clB reB
            rw [uM_eq, uM_ne _ _ _ (by decide), uM_ne _ _ _ (by decide), uM_ne _ _ _ (by decide), uM_eq]
    · -- one who is dead
      refine good_none h (C_none ?_ (Or.inl n2)) fun Bm he => F_none ?_
      · rw [c10, C_lives h.kcl hN hp, if_neg lv, bz]
      · unfold f_X11_canText
        rw [if_neg (of_eq_false i10), if_pos rfl, F_isPerson1 (h.rsB he) hN hp, bo, F_doesLive (h.rwB he) hN hp, if_neg lv, bz, r25]
end WILLOP2
