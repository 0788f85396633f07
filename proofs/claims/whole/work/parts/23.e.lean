def bootG {ρ : Type} (mc ms : Nat) (Z0 : Sh) (S0 : Mm) (K : Nat → Nat → Sh → Mm → Option ρ) : Option ρ :=
  gd (1 ≤ mc ∧ 12 ≤ ms ∧ Z0.length < 1048576) <|
  nm (Z0 ++ [(12, 12, List.replicate 12 none)]) fun Z_1 =>
  nm (rM S0 Z0.length (fun _ => 0)) fun S_1 =>
  gd (239 ≤ mc ∧ 10694 ≤ ms) <| (f_X10_init Z0.length Z_1 S_1).bind fun q_1 => gd (q_1.1.length ≤ 1048576) <|
  gd (240 ≤ mc ∧ 10748 ≤ ms ∧ q_1.1.length < 1048576) <|
  nm (q_1.1 ++ [(13, 54, List.replicate 54 none)]) fun Z_2 =>
  nm (rM q_1.2 q_1.1.length (fun _ => 0)) fun S_2 =>
  gd (270 ≤ mc ∧ 20163 ≤ ms) <| (f_X11_init q_1.1.length Z_2 S_2).bind fun q_2 => gd (q_2.1.length ≤ 1048576) <|
  K Z0.length q_1.1.length q_2.1 q_2.2
theorem bootK_G {ρ : Type} (K : Nat → Nat → Sh → Mm → Option ρ) : bootK K = bootG 600000 7302250 [] (fun _ _ => 0) K := rfl
set_option maxRecDepth 100000 in
set_option maxHeartbeats 4000000 in
theorem start_key {p : Program} {e : Env} {s : State} {m : MethodId} {below : List Frame} {meth : Method} {c : Code} {X : CX} {b L : Nat} {xs : Nat → Int32} (M0 : ML X p e s m b below meth c L xs) {mc ms : Nat} (hc : (eR (LE p e s m b below meth c)).cells = mc) (hs : (eR (LE p e s m b below meth c)).slots = ms) (Z0 : Sh) (S0 : Mm) : At X (LE p e s m b below meth c) true (lQ p e s m b below meth c) 0 [some (.ref (1048576 + 4)), none, none, none] [] Z0 S0 0 0 (bootG mc ms Z0 S0 fun a c Z S => gd (Z = Z1 ∧ a = 0 ∧ c = 239) (f_L_18 xs L FU 0 S)) := by
  have F := M0.1
  have hRm := M0.2.1
  unfold bootG
  refine k_new (mc := mc) (ms := ms) F cfX10 hdX10 dL_law_0 cl_L_7 win_10 wii_10 hc hs ?_
  refine a_nmZ (fun Z_1 => ?_)
  refine a_nmS (fun S_1 => ?_)
  refine a_dup F dL_law_3 rfl ?_
  refine k_call (mc := mc) (ms := ms) F (As := []) (c_X10_init X Z0.length Z_1 S_1) mw_X10_init ml_L_9 im_X10_init rfl hRm (Nat.le_of_ble_eq_true rfl) hc hs rfl rfl (Nat.le_of_ble_eq_true rfl) dL_law_4 rfl (fun q_1 => ?_)
  refine a_astore_n (L' := [some (.ref (1048576 + 4)), some (.ref Z0.length), none, none]) F dL_law_7 rfl (lt_b rfl) rfl ?_
  refine k_new (mc := mc) (ms := ms) F cfX11 hdX11 dL_law_8 cl_L_10 win_11 wii_11 hc hs ?_
  refine a_nmZ (fun Z_2 => ?_)
  refine a_nmS (fun S_2 => ?_)
  refine a_dup F dL_law_11 rfl ?_
  refine k_call (mc := mc) (ms := ms) F (As := []) (c_X11_init X q_1.1.length Z_2 S_2) mw_X11_init ml_L_12 im_X11_init rfl hRm (Nat.le_of_ble_eq_true rfl) hc hs rfl rfl (Nat.le_of_ble_eq_true rfl) dL_law_12 rfl (fun q_2 => ?_)
  refine a_astore_n (L' := [some (.ref (1048576 + 4)), some (.ref Z0.length), some (.ref q_1.1.length), none]) F dL_law_15 rfl (lt_b rfl) rfl ?_
  refine a_iconst F dL_law_16 ki_0 ?_
  refine a_istore_n (L' := [some (.ref (1048576 + 4)), some (.ref Z0.length), some (.ref q_1.1.length), some (.int 0)]) F dL_law_17 rfl (lt_b rfl) rfl ?_
  refine a_end ?_
  exact a_bf (b_L_18 M0 FU 0 q_2.2)
