/-! The law: its loop over the computed methods. -/
abbrev LE (p : Program) (e : Env) (s : State) (m : MethodId) (b : Nat) (below : List Frame) (meth : Method) (c : Code) : FE := (p, e, room_1, s, m, #[Value.ref b], below, meth, c)
def lQ (p : Program) (e : Env) (s : State) (m : MethodId) (b : Nat) (below : List Frame) (meth : Method) (c : Code) : Int32 → State → Prop := fun _ => lw_Z below #[Value.ref b] s
/-- the script outside the world -/
def Sc (X : CX) (s : State) (b Ln : Nat) (xs : Nat → Int32) : Prop := va_X b Ln xs s s.heap ∧ b < s.heap.size ∧ ¬ aF X b ∧ xad X 4 = b
def ML (X : CX) (p : Program) (e : Env) (s : State) (m : MethodId) (b : Nat) (below : List Frame) (meth : Method) (c : Code) (Ln : Nat) (xs : Nat → Int32) : Prop :=
  Fr X (LE p e s m b below meth c) RL code 4 ∧ Rm (LE p e s m b below meth c) 800 ∧ (270 ≤ (eR (LE p e s m b below meth c)).cells ∧ 20163 ≤ (eR (LE p e s m b below meth c)).slots) ∧ Sc X s b Ln xs ∧ meth.sig.returnType = ret ∧ meth.locks = false ∧ s.heap.size = xb X
section LAW
variable {ρ : Type} {X : CX} {Qf : ρ → State → Prop} {pc : Nat} {L : List (Option Value)} {st : List Value} {Z : Sh} {S : Mm} {n w : Nat} {o : Option ρ} {p : Program} {e : Env} {s : State} {m : MethodId} {below : List Frame} {meth : Method} {c : Code} {b Ln : Nat} {xs : Nat → Int32} {bb : Bool}
theorem a_sln (F : Fr X (LE p e s m b below meth c) RL code 4) (hX : Sc X s b Ln xs) (d : decode code pc = .ok (.arraylength, 1)) (g : At X (LE p e s m b below meth c) bb Qf (pc + 1) L (.int (Int32.ofNat Ln) :: st) Z S n w o) : At X (LE p e s m b below meth c) bb Qf pc L (.ref (1048576 + 4) :: st) Z S n w o := by
  intro r ho hZ ls H locs hl hs hP hS
  have e2 : (Value.ref (1048576 + 4) :: st).map (cV X) = .ref b :: st.map (cV X) := by simp only [List.map_cons, cV, gA_str, hX.2.2.2]
  rw [e2]
  exact va_slen F.1 F.2.1 hX.1 hX.2.1 hX.2.2.1 hS d (g r ho hZ ls H locs hl hs hP hS)
theorem a_sld (F : Fr X (LE p e s m b below meth c) RL code 4) (hX : Sc X s b Ln xs) {i : Int32} (d : decode code pc = .ok (.iaload, 1)) (g : At X (LE p e s m b below meth c) bb Qf (pc + 1) L (.int (xs (ix i)) :: st) Z S n w o) : At X (LE p e s m b below meth c) bb Qf pc L (.int i :: .ref (1048576 + 4) :: st) Z S n w (if inB i Ln = true then o else none) := by
  intro r ho hZ ls H locs hl hs hP hS
  by_cases hi : inB i Ln = true
  · rw [if_pos hi] at ho
    have e2 : (Value.int i :: Value.ref (1048576 + 4) :: st).map (cV X) = .int i :: .ref b :: st.map (cV X) := by simp only [List.map_cons, cV, gA_str, hX.2.2.2]
    rw [e2]
    exact va_sld F.1 F.2.1 hX.1 hX.2.1 hX.2.2.1 hS (inB_vp hi) d (g r ho hZ ls H locs hl hs hP hS)
  · rw [if_neg hi] at ho
    cases ho
theorem a_lret (M0 : ML X p e s m b below meth c Ln xs) (d : decode code pc = .ok (.ireturn, 1)) : At X (LE p e s m b below meth c) false (lQ p e s m b below meth c) pc L [.int 1] Z1 S 270 20163 (some 1) := by
  intro r ho hZ ls H locs hl hs hP hS
  obtain ⟨F, -, -, hX, hr, hk, hxb⟩ := M0
  refine va_forget (fun q hq => by rw [hxb]; exact hS.2.2 q hq) ?_
  refine W.widen (k := 600000) (n := 7302250) (Nat.le_of_ble_eq_true rfl) (Nat.le_of_ble_eq_true rfl) ?_
  exact lw_ret F.1 F.2.1 hr hk d
end LAW
theorem ki_6 : Int32.ofInt (6) = (6 : Int32) := by decide +kernel
theorem mw_X11_image : MW yX11_image cX11_image 3 (some .boolean) 1 := ⟨mG 1862 (by decide +kernel) (by decide +kernel), mG 134 (by decide +kernel) (by decide +kernel), by decide +kernel, ⟨by decide +kernel, by decide +kernel⟩, by decide +kernel, by decide⟩
theorem ml_L_151 : Cond.methodLink RL 151 yX11_image ∈ lwG := mG 1859 (by decide +kernel) (by decide +kernel)
theorem im_X11_image : Cond.instanceMethod yX11_image ∈ lwG := mG 1860 (by decide +kernel) (by decide +kernel)
theorem se_X11_image : Cond.selects RX11 yX11_image yX11_image ∈ lwG := mG 1861 (by decide +kernel) (by decide +kernel)
theorem mw_X10_image : MW yX10_image cX10_image 2 (some .boolean) 1 := ⟨mG 1201 (by decide +kernel) (by decide +kernel), mG 123 (by decide +kernel) (by decide +kernel), by decide +kernel, ⟨by decide +kernel, by decide +kernel⟩, by decide +kernel, by decide⟩
theorem ml_L_147 : Cond.methodLink RL 147 yX10_image ∈ lwG := mG 1198 (by decide +kernel) (by decide +kernel)
theorem im_X10_image : Cond.instanceMethod yX10_image ∈ lwG := mG 1199 (by decide +kernel) (by decide +kernel)
theorem se_X10_image : Cond.selects RX10 yX10_image yX10_image ∈ lwG := mG 1200 (by decide +kernel) (by decide +kernel)
theorem mw_X10_state : MW yX10_state cX10_state 3 (some .int) 1 := ⟨mG 549 (by decide +kernel) (by decide +kernel), mG 123 (by decide +kernel) (by decide +kernel), by decide +kernel, ⟨by decide +kernel, by decide +kernel⟩, by decide +kernel, by decide⟩
theorem ml_L_13 : Cond.methodLink RL 13 yX10_state ∈ lwG := mG 546 (by decide +kernel) (by decide +kernel)
theorem im_X10_state : Cond.instanceMethod yX10_state ∈ lwG := mG 547 (by decide +kernel) (by decide +kernel)
theorem se_X10_state : Cond.selects RX10 yX10_state yX10_state ∈ lwG := mG 548 (by decide +kernel) (by decide +kernel)
theorem mw_X11_state : MW yX11_state cX11_state 3 (some .int) 1 := ⟨mG 1402 (by decide +kernel) (by decide +kernel), mG 134 (by decide +kernel) (by decide +kernel), by decide +kernel, ⟨by decide +kernel, by decide +kernel⟩, by decide +kernel, by decide⟩
theorem ml_L_17 : Cond.methodLink RL 17 yX11_state ∈ lwG := mG 1399 (by decide +kernel) (by decide +kernel)
theorem im_X11_state : Cond.instanceMethod yX11_state ∈ lwG := mG 1400 (by decide +kernel) (by decide +kernel)
theorem se_X11_state : Cond.selects RX11 yX11_state yX11_state ∈ lwG := mG 1401 (by decide +kernel) (by decide +kernel)
theorem mw_X10_person : MW yX10_person cX10_person 4 (some .int) 3 := ⟨mG 557 (by decide +kernel) (by decide +kernel), mG 123 (by decide +kernel) (by decide +kernel), by decide +kernel, ⟨by decide +kernel, by decide +kernel⟩, by decide +kernel, by decide⟩
theorem ml_L_18 : Cond.methodLink RL 18 yX10_person ∈ lwG := mG 554 (by decide +kernel) (by decide +kernel)
theorem im_X10_person : Cond.instanceMethod yX10_person ∈ lwG := mG 555 (by decide +kernel) (by decide +kernel)
theorem se_X10_person : Cond.selects RX10 yX10_person yX10_person ∈ lwG := mG 556 (by decide +kernel) (by decide +kernel)
theorem mw_X11_person : MW yX11_person cX11_person 6 (some .int) 3 := ⟨mG 1406 (by decide +kernel) (by decide +kernel), mG 134 (by decide +kernel) (by decide +kernel), by decide +kernel, ⟨by decide +kernel, by decide +kernel⟩, by decide +kernel, by decide⟩
theorem ml_L_22 : Cond.methodLink RL 22 yX11_person ∈ lwG := mG 1403 (by decide +kernel) (by decide +kernel)
theorem im_X11_person : Cond.instanceMethod yX11_person ∈ lwG := mG 1404 (by decide +kernel) (by decide +kernel)
theorem se_X11_person : Cond.selects RX11 yX11_person yX11_person ∈ lwG := mG 1405 (by decide +kernel) (by decide +kernel)
theorem mw_X10_set : MW yX10_set cX10_set 4 (some .boolean) 3 := ⟨mG 574 (by decide +kernel) (by decide +kernel), mG 123 (by decide +kernel) (by decide +kernel), by decide +kernel, ⟨by decide +kernel, by decide +kernel⟩, by decide +kernel, by decide⟩
theorem ml_L_23 : Cond.methodLink RL 23 yX10_set ∈ lwG := mG 571 (by decide +kernel) (by decide +kernel)
theorem im_X10_set : Cond.instanceMethod yX10_set ∈ lwG := mG 572 (by decide +kernel) (by decide +kernel)
theorem se_X10_set : Cond.selects RX10 yX10_set yX10_set ∈ lwG := mG 573 (by decide +kernel) (by decide +kernel)
theorem mw_X11_set : MW yX11_set cX11_set 4 (some .boolean) 3 := ⟨mG 1423 (by decide +kernel) (by decide +kernel), mG 134 (by decide +kernel) (by decide +kernel), by decide +kernel, ⟨by decide +kernel, by decide +kernel⟩, by decide +kernel, by decide⟩
theorem ml_L_27 : Cond.methodLink RL 27 yX11_set ∈ lwG := mG 1420 (by decide +kernel) (by decide +kernel)
theorem im_X11_set : Cond.instanceMethod yX11_set ∈ lwG := mG 1421 (by decide +kernel) (by decide +kernel)
theorem se_X11_set : Cond.selects RX11 yX11_set yX11_set ∈ lwG := mG 1422 (by decide +kernel) (by decide +kernel)
theorem mw_X10_own : MW yX10_own cX10_own 3 (some .boolean) 2 := ⟨mG 587 (by decide +kernel) (by decide +kernel), mG 123 (by decide +kernel) (by decide +kernel), by decide +kernel, ⟨by decide +kernel, by decide +kernel⟩, by decide +kernel, by decide⟩
theorem ml_L_28 : Cond.methodLink RL 28 yX10_own ∈ lwG := mG 584 (by decide +kernel) (by decide +kernel)
theorem im_X10_own : Cond.instanceMethod yX10_own ∈ lwG := mG 585 (by decide +kernel) (by decide +kernel)
theorem se_X10_own : Cond.selects RX10 yX10_own yX10_own ∈ lwG := mG 586 (by decide +kernel) (by decide +kernel)
theorem mw_X11_own : MW yX11_own cX11_own 3 (some .boolean) 2 := ⟨mG 1439 (by decide +kernel) (by decide +kernel), mG 134 (by decide +kernel) (by decide +kernel), by decide +kernel, ⟨by decide +kernel, by decide +kernel⟩, by decide +kernel, by decide⟩
theorem ml_L_32 : Cond.methodLink RL 32 yX11_own ∈ lwG := mG 1436 (by decide +kernel) (by decide +kernel)
theorem im_X11_own : Cond.instanceMethod yX11_own ∈ lwG := mG 1437 (by decide +kernel) (by decide +kernel)
theorem se_X11_own : Cond.selects RX11 yX11_own yX11_own ∈ lwG := mG 1438 (by decide +kernel) (by decide +kernel)
theorem mw_X10_feed : MW yX10_feed cX10_feed 6 (some .int) 5 := ⟨mG 606 (by decide +kernel) (by decide +kernel), mG 123 (by decide +kernel) (by decide +kernel), by decide +kernel, ⟨by decide +kernel, by decide +kernel⟩, by decide +kernel, by decide⟩
theorem ml_L_33 : Cond.methodLink RL 33 yX10_feed ∈ lwG := mG 603 (by decide +kernel) (by decide +kernel)
theorem im_X10_feed : Cond.instanceMethod yX10_feed ∈ lwG := mG 604 (by decide +kernel) (by decide +kernel)
theorem se_X10_feed : Cond.selects RX10 yX10_feed yX10_feed ∈ lwG := mG 605 (by decide +kernel) (by decide +kernel)
theorem mw_X11_feed : MW yX11_feed cX11_feed 6 (some .int) 5 := ⟨mG 1459 (by decide +kernel) (by decide +kernel), mG 134 (by decide +kernel) (by decide +kernel), by decide +kernel, ⟨by decide +kernel, by decide +kernel⟩, by decide +kernel, by decide⟩
theorem ml_L_37 : Cond.methodLink RL 37 yX11_feed ∈ lwG := mG 1456 (by decide +kernel) (by decide +kernel)
theorem im_X11_feed : Cond.instanceMethod yX11_feed ∈ lwG := mG 1457 (by decide +kernel) (by decide +kernel)
theorem se_X11_feed : Cond.selects RX11 yX11_feed yX11_feed ∈ lwG := mG 1458 (by decide +kernel) (by decide +kernel)
theorem mw_X10_end : MW yX10_end cX10_end 2 (some .boolean) 1 := ⟨mG 614 (by decide +kernel) (by decide +kernel), mG 123 (by decide +kernel) (by decide +kernel), by decide +kernel, ⟨by decide +kernel, by decide +kernel⟩, by decide +kernel, by decide⟩
theorem ml_L_38 : Cond.methodLink RL 38 yX10_end ∈ lwG := mG 611 (by decide +kernel) (by decide +kernel)
theorem im_X10_end : Cond.instanceMethod yX10_end ∈ lwG := mG 612 (by decide +kernel) (by decide +kernel)
theorem se_X10_end : Cond.selects RX10 yX10_end yX10_end ∈ lwG := mG 613 (by decide +kernel) (by decide +kernel)
theorem mw_X11_end : MW yX11_end cX11_end 2 (some .boolean) 1 := ⟨mG 1467 (by decide +kernel) (by decide +kernel), mG 134 (by decide +kernel) (by decide +kernel), by decide +kernel, ⟨by decide +kernel, by decide +kernel⟩, by decide +kernel, by decide⟩
theorem ml_L_42 : Cond.methodLink RL 42 yX11_end ∈ lwG := mG 1464 (by decide +kernel) (by decide +kernel)
theorem im_X11_end : Cond.instanceMethod yX11_end ∈ lwG := mG 1465 (by decide +kernel) (by decide +kernel)
theorem se_X11_end : Cond.selects RX11 yX11_end yX11_end ∈ lwG := mG 1466 (by decide +kernel) (by decide +kernel)
theorem mw_X10_text : MW yX10_text cX10_text 4 (some .int) 2 := ⟨mG 618 (by decide +kernel) (by decide +kernel), mG 123 (by decide +kernel) (by decide +kernel), by decide +kernel, ⟨by decide +kernel, by decide +kernel⟩, by decide +kernel, by decide⟩
theorem ml_L_43 : Cond.methodLink RL 43 yX10_text ∈ lwG := mG 615 (by decide +kernel) (by decide +kernel)
theorem im_X10_text : Cond.instanceMethod yX10_text ∈ lwG := mG 616 (by decide +kernel) (by decide +kernel)
theorem se_X10_text : Cond.selects RX10 yX10_text yX10_text ∈ lwG := mG 617 (by decide +kernel) (by decide +kernel)
theorem mw_X11_text : MW yX11_text cX11_text 4 (some .int) 2 := ⟨mG 1471 (by decide +kernel) (by decide +kernel), mG 134 (by decide +kernel) (by decide +kernel), by decide +kernel, ⟨by decide +kernel, by decide +kernel⟩, by decide +kernel, by decide⟩
theorem ml_L_47 : Cond.methodLink RL 47 yX11_text ∈ lwG := mG 1468 (by decide +kernel) (by decide +kernel)
theorem im_X11_text : Cond.instanceMethod yX11_text ∈ lwG := mG 1469 (by decide +kernel) (by decide +kernel)
theorem se_X11_text : Cond.selects RX11 yX11_text yX11_text ∈ lwG := mG 1470 (by decide +kernel) (by decide +kernel)
theorem mw_X10_fault : MW yX10_fault cX10_fault 2 (some .int) 1 := ⟨mG 897 (by decide +kernel) (by decide +kernel), mG 123 (by decide +kernel) (by decide +kernel), by decide +kernel, ⟨by decide +kernel, by decide +kernel⟩, by decide +kernel, by decide⟩
theorem ml_L_48 : Cond.methodLink RL 48 yX10_fault ∈ lwG := mG 894 (by decide +kernel) (by decide +kernel)
theorem im_X10_fault : Cond.instanceMethod yX10_fault ∈ lwG := mG 895 (by decide +kernel) (by decide +kernel)
theorem se_X10_fault : Cond.selects RX10 yX10_fault yX10_fault ∈ lwG := mG 896 (by decide +kernel) (by decide +kernel)
theorem mw_X11_fault : MW yX11_fault cX11_fault 2 (some .int) 1 := ⟨mG 1596 (by decide +kernel) (by decide +kernel), mG 134 (by decide +kernel) (by decide +kernel), by decide +kernel, ⟨by decide +kernel, by decide +kernel⟩, by decide +kernel, by decide⟩
theorem ml_L_51 : Cond.methodLink RL 51 yX11_fault ∈ lwG := mG 1593 (by decide +kernel) (by decide +kernel)
theorem im_X11_fault : Cond.instanceMethod yX11_fault ∈ lwG := mG 1594 (by decide +kernel) (by decide +kernel)
theorem se_X11_fault : Cond.selects RX11 yX11_fault yX11_fault ∈ lwG := mG 1595 (by decide +kernel) (by decide +kernel)
theorem mw_X10_wed : MW yX10_wed cX10_wed 3 (some .boolean) 2 := ⟨mG 901 (by decide +kernel) (by decide +kernel), mG 123 (by decide +kernel) (by decide +kernel), by decide +kernel, ⟨by decide +kernel, by decide +kernel⟩, by decide +kernel, by decide⟩
theorem ml_L_52 : Cond.methodLink RL 52 yX10_wed ∈ lwG := mG 898 (by decide +kernel) (by decide +kernel)
theorem im_X10_wed : Cond.instanceMethod yX10_wed ∈ lwG := mG 899 (by decide +kernel) (by decide +kernel)
theorem se_X10_wed : Cond.selects RX10 yX10_wed yX10_wed ∈ lwG := mG 900 (by decide +kernel) (by decide +kernel)
theorem mw_X11_wed : MW yX11_wed cX11_wed 3 (some .boolean) 2 := ⟨mG 1600 (by decide +kernel) (by decide +kernel), mG 134 (by decide +kernel) (by decide +kernel), by decide +kernel, ⟨by decide +kernel, by decide +kernel⟩, by decide +kernel, by decide⟩
theorem ml_L_55 : Cond.methodLink RL 55 yX11_wed ∈ lwG := mG 1597 (by decide +kernel) (by decide +kernel)
theorem im_X11_wed : Cond.instanceMethod yX11_wed ∈ lwG := mG 1598 (by decide +kernel) (by decide +kernel)
theorem se_X11_wed : Cond.selects RX11 yX11_wed yX11_wed ∈ lwG := mG 1599 (by decide +kernel) (by decide +kernel)
theorem mw_X10_part : MW yX10_part cX10_part 3 (some .boolean) 2 := ⟨mG 927 (by decide +kernel) (by decide +kernel), mG 123 (by decide +kernel) (by decide +kernel), by decide +kernel, ⟨by decide +kernel, by decide +kernel⟩, by decide +kernel, by decide⟩
theorem ml_L_56 : Cond.methodLink RL 56 yX10_part ∈ lwG := mG 924 (by decide +kernel) (by decide +kernel)
theorem im_X10_part : Cond.instanceMethod yX10_part ∈ lwG := mG 925 (by decide +kernel) (by decide +kernel)
theorem se_X10_part : Cond.selects RX10 yX10_part yX10_part ∈ lwG := mG 926 (by decide +kernel) (by decide +kernel)
theorem mw_X11_part : MW yX11_part cX11_part 3 (some .boolean) 2 := ⟨mG 1624 (by decide +kernel) (by decide +kernel), mG 134 (by decide +kernel) (by decide +kernel), by decide +kernel, ⟨by decide +kernel, by decide +kernel⟩, by decide +kernel, by decide⟩
theorem ml_L_59 : Cond.methodLink RL 59 yX11_part ∈ lwG := mG 1621 (by decide +kernel) (by decide +kernel)
theorem im_X11_part : Cond.instanceMethod yX11_part ∈ lwG := mG 1622 (by decide +kernel) (by decide +kernel)
theorem se_X11_part : Cond.selects RX11 yX11_part yX11_part ∈ lwG := mG 1623 (by decide +kernel) (by decide +kernel)
theorem mw_X10_lend : MW yX10_lend cX10_lend 6 (some .boolean) 4 := ⟨mG 939 (by decide +kernel) (by decide +kernel), mG 123 (by decide +kernel) (by decide +kernel), by decide +kernel, ⟨by decide +kernel, by decide +kernel⟩, by decide +kernel, by decide⟩
theorem ml_L_60 : Cond.methodLink RL 60 yX10_lend ∈ lwG := mG 936 (by decide +kernel) (by decide +kernel)
theorem im_X10_lend : Cond.instanceMethod yX10_lend ∈ lwG := mG 937 (by decide +kernel) (by decide +kernel)
theorem se_X10_lend : Cond.selects RX10 yX10_lend yX10_lend ∈ lwG := mG 938 (by decide +kernel) (by decide +kernel)
theorem mw_X11_lend : MW yX11_lend cX11_lend 6 (some .boolean) 4 := ⟨mG 1628 (by decide +kernel) (by decide +kernel), mG 134 (by decide +kernel) (by decide +kernel), by decide +kernel, ⟨by decide +kernel, by decide +kernel⟩, by decide +kernel, by decide⟩
theorem ml_L_64 : Cond.methodLink RL 64 yX11_lend ∈ lwG := mG 1625 (by decide +kernel) (by decide +kernel)
theorem im_X11_lend : Cond.instanceMethod yX11_lend ∈ lwG := mG 1626 (by decide +kernel) (by decide +kernel)
theorem se_X11_lend : Cond.selects RX11 yX11_lend yX11_lend ∈ lwG := mG 1627 (by decide +kernel) (by decide +kernel)
theorem mw_X10_give : MW yX10_give cX10_give 3 (some .boolean) 2 := ⟨mG 947 (by decide +kernel) (by decide +kernel), mG 123 (by decide +kernel) (by decide +kernel), by decide +kernel, ⟨by decide +kernel, by decide +kernel⟩, by decide +kernel, by decide⟩
theorem ml_L_65 : Cond.methodLink RL 65 yX10_give ∈ lwG := mG 944 (by decide +kernel) (by decide +kernel)
theorem im_X10_give : Cond.instanceMethod yX10_give ∈ lwG := mG 945 (by decide +kernel) (by decide +kernel)
theorem se_X10_give : Cond.selects RX10 yX10_give yX10_give ∈ lwG := mG 946 (by decide +kernel) (by decide +kernel)
theorem mw_X11_give : MW yX11_give cX11_give 3 (some .boolean) 2 := ⟨mG 1640 (by decide +kernel) (by decide +kernel), mG 134 (by decide +kernel) (by decide +kernel), by decide +kernel, ⟨by decide +kernel, by decide +kernel⟩, by decide +kernel, by decide⟩
theorem ml_L_68 : Cond.methodLink RL 68 yX11_give ∈ lwG := mG 1637 (by decide +kernel) (by decide +kernel)
theorem im_X11_give : Cond.instanceMethod yX11_give ∈ lwG := mG 1638 (by decide +kernel) (by decide +kernel)
theorem se_X11_give : Cond.selects RX11 yX11_give yX11_give ∈ lwG := mG 1639 (by decide +kernel) (by decide +kernel)
theorem mw_X10_duel : MW yX10_duel cX10_duel 6 (some .int) 3 := ⟨mG 951 (by decide +kernel) (by decide +kernel), mG 123 (by decide +kernel) (by decide +kernel), by decide +kernel, ⟨by decide +kernel, by decide +kernel⟩, by decide +kernel, by decide⟩
theorem ml_L_69 : Cond.methodLink RL 69 yX10_duel ∈ lwG := mG 948 (by decide +kernel) (by decide +kernel)
theorem im_X10_duel : Cond.instanceMethod yX10_duel ∈ lwG := mG 949 (by decide +kernel) (by decide +kernel)
theorem se_X10_duel : Cond.selects RX10 yX10_duel yX10_duel ∈ lwG := mG 950 (by decide +kernel) (by decide +kernel)
theorem mw_X11_duel : MW yX11_duel cX11_duel 5 (some .int) 3 := ⟨mG 1644 (by decide +kernel) (by decide +kernel), mG 134 (by decide +kernel) (by decide +kernel), by decide +kernel, ⟨by decide +kernel, by decide +kernel⟩, by decide +kernel, by decide⟩
theorem ml_L_72 : Cond.methodLink RL 72 yX11_duel ∈ lwG := mG 1641 (by decide +kernel) (by decide +kernel)
theorem im_X11_duel : Cond.instanceMethod yX11_duel ∈ lwG := mG 1642 (by decide +kernel) (by decide +kernel)
theorem se_X11_duel : Cond.selects RX11 yX11_duel yX11_duel ∈ lwG := mG 1643 (by decide +kernel) (by decide +kernel)
theorem mw_X10_sign : MW yX10_sign cX10_sign 3 (some .int) 2 := ⟨mG 961 (by decide +kernel) (by decide +kernel), mG 123 (by decide +kernel) (by decide +kernel), by decide +kernel, ⟨by decide +kernel, by decide +kernel⟩, by decide +kernel, by decide⟩
theorem ml_L_73 : Cond.methodLink RL 73 yX10_sign ∈ lwG := mG 958 (by decide +kernel) (by decide +kernel)
theorem im_X10_sign : Cond.instanceMethod yX10_sign ∈ lwG := mG 959 (by decide +kernel) (by decide +kernel)
theorem se_X10_sign : Cond.selects RX10 yX10_sign yX10_sign ∈ lwG := mG 960 (by decide +kernel) (by decide +kernel)
theorem mw_X11_sign : MW yX11_sign cX11_sign 3 (some .int) 2 := ⟨mG 1654 (by decide +kernel) (by decide +kernel), mG 134 (by decide +kernel) (by decide +kernel), by decide +kernel, ⟨by decide +kernel, by decide +kernel⟩, by decide +kernel, by decide⟩
theorem ml_L_76 : Cond.methodLink RL 76 yX11_sign ∈ lwG := mG 1651 (by decide +kernel) (by decide +kernel)
theorem im_X11_sign : Cond.instanceMethod yX11_sign ∈ lwG := mG 1652 (by decide +kernel) (by decide +kernel)
theorem se_X11_sign : Cond.selects RX11 yX11_sign yX11_sign ∈ lwG := mG 1653 (by decide +kernel) (by decide +kernel)
theorem mw_X10_days : MW yX10_days cX10_days 4 (some .int) 1 := ⟨mG 989 (by decide +kernel) (by decide +kernel), mG 123 (by decide +kernel) (by decide +kernel), by decide +kernel, ⟨by decide +kernel, by decide +kernel⟩, by decide +kernel, by decide⟩
theorem ml_L_77 : Cond.methodLink RL 77 yX10_days ∈ lwG := mG 986 (by decide +kernel) (by decide +kernel)
theorem im_X10_days : Cond.instanceMethod yX10_days ∈ lwG := mG 987 (by decide +kernel) (by decide +kernel)
theorem se_X10_days : Cond.selects RX10 yX10_days yX10_days ∈ lwG := mG 988 (by decide +kernel) (by decide +kernel)
theorem mw_X11_days : MW yX11_days cX11_days 4 (some .int) 1 := ⟨mG 1682 (by decide +kernel) (by decide +kernel), mG 134 (by decide +kernel) (by decide +kernel), by decide +kernel, ⟨by decide +kernel, by decide +kernel⟩, by decide +kernel, by decide⟩
theorem ml_L_80 : Cond.methodLink RL 80 yX11_days ∈ lwG := mG 1679 (by decide +kernel) (by decide +kernel)
theorem im_X11_days : Cond.instanceMethod yX11_days ∈ lwG := mG 1680 (by decide +kernel) (by decide +kernel)
theorem se_X11_days : Cond.selects RX11 yX11_days yX11_days ∈ lwG := mG 1681 (by decide +kernel) (by decide +kernel)
theorem mw_X10_of : MW yX10_of cX10_of 3 (some .int) 2 := ⟨mG 1039 (by decide +kernel) (by decide +kernel), mG 123 (by decide +kernel) (by decide +kernel), by decide +kernel, ⟨by decide +kernel, by decide +kernel⟩, by decide +kernel, by decide⟩
theorem ml_L_81 : Cond.methodLink RL 81 yX10_of ∈ lwG := mG 1036 (by decide +kernel) (by decide +kernel)
theorem im_X10_of : Cond.instanceMethod yX10_of ∈ lwG := mG 1037 (by decide +kernel) (by decide +kernel)
theorem se_X10_of : Cond.selects RX10 yX10_of yX10_of ∈ lwG := mG 1038 (by decide +kernel) (by decide +kernel)
theorem mw_X11_of : MW yX11_of cX11_of 3 (some .int) 2 := ⟨mG 1738 (by decide +kernel) (by decide +kernel), mG 134 (by decide +kernel) (by decide +kernel), by decide +kernel, ⟨by decide +kernel, by decide +kernel⟩, by decide +kernel, by decide⟩
theorem ml_L_84 : Cond.methodLink RL 84 yX11_of ∈ lwG := mG 1735 (by decide +kernel) (by decide +kernel)
theorem im_X11_of : Cond.instanceMethod yX11_of ∈ lwG := mG 1736 (by decide +kernel) (by decide +kernel)
theorem se_X11_of : Cond.selects RX11 yX11_of yX11_of ∈ lwG := mG 1737 (by decide +kernel) (by decide +kernel)
theorem mw_X10_kin : MW yX10_kin cX10_kin 3 (some .int) 2 := ⟨mG 1045 (by decide +kernel) (by decide +kernel), mG 123 (by decide +kernel) (by decide +kernel), by decide +kernel, ⟨by decide +kernel, by decide +kernel⟩, by decide +kernel, by decide⟩
theorem ml_L_85 : Cond.methodLink RL 85 yX10_kin ∈ lwG := mG 1042 (by decide +kernel) (by decide +kernel)
theorem im_X10_kin : Cond.instanceMethod yX10_kin ∈ lwG := mG 1043 (by decide +kernel) (by decide +kernel)
theorem se_X10_kin : Cond.selects RX10 yX10_kin yX10_kin ∈ lwG := mG 1044 (by decide +kernel) (by decide +kernel)
theorem mw_X11_kin : MW yX11_kin cX11_kin 3 (some .int) 2 := ⟨mG 1742 (by decide +kernel) (by decide +kernel), mG 134 (by decide +kernel) (by decide +kernel), by decide +kernel, ⟨by decide +kernel, by decide +kernel⟩, by decide +kernel, by decide⟩
theorem ml_L_88 : Cond.methodLink RL 88 yX11_kin ∈ lwG := mG 1739 (by decide +kernel) (by decide +kernel)
theorem im_X11_kin : Cond.instanceMethod yX11_kin ∈ lwG := mG 1740 (by decide +kernel) (by decide +kernel)
theorem se_X11_kin : Cond.selects RX11 yX11_kin yX11_kin ∈ lwG := mG 1741 (by decide +kernel) (by decide +kernel)
theorem mw_X10_letter : MW yX10_letter cX10_letter 3 (some .int) 2 := ⟨mG 1050 (by decide +kernel) (by decide +kernel), mG 123 (by decide +kernel) (by decide +kernel), by decide +kernel, ⟨by decide +kernel, by decide +kernel⟩, by decide +kernel, by decide⟩
theorem ml_L_89 : Cond.methodLink RL 89 yX10_letter ∈ lwG := mG 1047 (by decide +kernel) (by decide +kernel)
theorem im_X10_letter : Cond.instanceMethod yX10_letter ∈ lwG := mG 1048 (by decide +kernel) (by decide +kernel)
theorem se_X10_letter : Cond.selects RX10 yX10_letter yX10_letter ∈ lwG := mG 1049 (by decide +kernel) (by decide +kernel)
theorem mw_X11_letter : MW yX11_letter cX11_letter 3 (some .int) 2 := ⟨mG 1746 (by decide +kernel) (by decide +kernel), mG 134 (by decide +kernel) (by decide +kernel), by decide +kernel, ⟨by decide +kernel, by decide +kernel⟩, by decide +kernel, by decide⟩
theorem ml_L_92 : Cond.methodLink RL 92 yX11_letter ∈ lwG := mG 1743 (by decide +kernel) (by decide +kernel)
theorem im_X11_letter : Cond.instanceMethod yX11_letter ∈ lwG := mG 1744 (by decide +kernel) (by decide +kernel)
theorem se_X11_letter : Cond.selects RX11 yX11_letter yX11_letter ∈ lwG := mG 1745 (by decide +kernel) (by decide +kernel)
theorem mw_X10_deed : MW yX10_deed cX10_deed 4 (some .int) 2 := ⟨mG 1071 (by decide +kernel) (by decide +kernel), mG 123 (by decide +kernel) (by decide +kernel), by decide +kernel, ⟨by decide +kernel, by decide +kernel⟩, by decide +kernel, by decide⟩
theorem ml_L_93 : Cond.methodLink RL 93 yX10_deed ∈ lwG := mG 1068 (by decide +kernel) (by decide +kernel)
theorem im_X10_deed : Cond.instanceMethod yX10_deed ∈ lwG := mG 1069 (by decide +kernel) (by decide +kernel)
theorem se_X10_deed : Cond.selects RX10 yX10_deed yX10_deed ∈ lwG := mG 1070 (by decide +kernel) (by decide +kernel)
theorem mw_X11_deed : MW yX11_deed cX11_deed 3 (some .int) 2 := ⟨mG 1770 (by decide +kernel) (by decide +kernel), mG 134 (by decide +kernel) (by decide +kernel), by decide +kernel, ⟨by decide +kernel, by decide +kernel⟩, by decide +kernel, by decide⟩
theorem ml_L_96 : Cond.methodLink RL 96 yX11_deed ∈ lwG := mG 1767 (by decide +kernel) (by decide +kernel)
theorem im_X11_deed : Cond.instanceMethod yX11_deed ∈ lwG := mG 1768 (by decide +kernel) (by decide +kernel)
theorem se_X11_deed : Cond.selects RX11 yX11_deed yX11_deed ∈ lwG := mG 1769 (by decide +kernel) (by decide +kernel)
theorem mw_X10_at : MW yX10_at cX10_at 3 (some .int) 2 := ⟨mG 1084 (by decide +kernel) (by decide +kernel), mG 123 (by decide +kernel) (by decide +kernel), by decide +kernel, ⟨by decide +kernel, by decide +kernel⟩, by decide +kernel, by decide⟩
theorem ml_L_97 : Cond.methodLink RL 97 yX10_at ∈ lwG := mG 1081 (by decide +kernel) (by decide +kernel)
theorem im_X10_at : Cond.instanceMethod yX10_at ∈ lwG := mG 1082 (by decide +kernel) (by decide +kernel)
theorem se_X10_at : Cond.selects RX10 yX10_at yX10_at ∈ lwG := mG 1083 (by decide +kernel) (by decide +kernel)
theorem mw_X11_at : MW yX11_at cX11_at 3 (some .int) 2 := ⟨mG 1786 (by decide +kernel) (by decide +kernel), mG 134 (by decide +kernel) (by decide +kernel), by decide +kernel, ⟨by decide +kernel, by decide +kernel⟩, by decide +kernel, by decide⟩
theorem ml_L_100 : Cond.methodLink RL 100 yX11_at ∈ lwG := mG 1783 (by decide +kernel) (by decide +kernel)
theorem im_X11_at : Cond.instanceMethod yX11_at ∈ lwG := mG 1784 (by decide +kernel) (by decide +kernel)
theorem se_X11_at : Cond.selects RX11 yX11_at yX11_at ∈ lwG := mG 1785 (by decide +kernel) (by decide +kernel)
theorem mw_X10_book : MW yX10_book cX10_book 3 (some .int) 2 := ⟨mG 1088 (by decide +kernel) (by decide +kernel), mG 123 (by decide +kernel) (by decide +kernel), by decide +kernel, ⟨by decide +kernel, by decide +kernel⟩, by decide +kernel, by decide⟩
theorem ml_L_101 : Cond.methodLink RL 101 yX10_book ∈ lwG := mG 1085 (by decide +kernel) (by decide +kernel)
theorem im_X10_book : Cond.instanceMethod yX10_book ∈ lwG := mG 1086 (by decide +kernel) (by decide +kernel)
theorem se_X10_book : Cond.selects RX10 yX10_book yX10_book ∈ lwG := mG 1087 (by decide +kernel) (by decide +kernel)
theorem mw_X11_book : MW yX11_book cX11_book 3 (some .int) 2 := ⟨mG 1790 (by decide +kernel) (by decide +kernel), mG 134 (by decide +kernel) (by decide +kernel), by decide +kernel, ⟨by decide +kernel, by decide +kernel⟩, by decide +kernel, by decide⟩
theorem ml_L_104 : Cond.methodLink RL 104 yX11_book ∈ lwG := mG 1787 (by decide +kernel) (by decide +kernel)
theorem im_X11_book : Cond.instanceMethod yX11_book ∈ lwG := mG 1788 (by decide +kernel) (by decide +kernel)
theorem se_X11_book : Cond.selects RX11 yX11_book yX11_book ∈ lwG := mG 1789 (by decide +kernel) (by decide +kernel)
theorem mw_X10_weddings : MW yX10_weddings cX10_weddings 4 (some .int) 3 := ⟨mG 1108 (by decide +kernel) (by decide +kernel), mG 123 (by decide +kernel) (by decide +kernel), by decide +kernel, ⟨by decide +kernel, by decide +kernel⟩, by decide +kernel, by decide⟩
theorem ml_L_105 : Cond.methodLink RL 105 yX10_weddings ∈ lwG := mG 1105 (by decide +kernel) (by decide +kernel)
theorem im_X10_weddings : Cond.instanceMethod yX10_weddings ∈ lwG := mG 1106 (by decide +kernel) (by decide +kernel)
theorem se_X10_weddings : Cond.selects RX10 yX10_weddings yX10_weddings ∈ lwG := mG 1107 (by decide +kernel) (by decide +kernel)
theorem mw_X11_weddings : MW yX11_weddings cX11_weddings 5 (some .int) 3 := ⟨mG 1802 (by decide +kernel) (by decide +kernel), mG 134 (by decide +kernel) (by decide +kernel), by decide +kernel, ⟨by decide +kernel, by decide +kernel⟩, by decide +kernel, by decide⟩
theorem ml_L_108 : Cond.methodLink RL 108 yX11_weddings ∈ lwG := mG 1799 (by decide +kernel) (by decide +kernel)
theorem im_X11_weddings : Cond.instanceMethod yX11_weddings ∈ lwG := mG 1800 (by decide +kernel) (by decide +kernel)
theorem se_X11_weddings : Cond.selects RX11 yX11_weddings yX11_weddings ∈ lwG := mG 1801 (by decide +kernel) (by decide +kernel)
theorem mw_X10_whenCan : MW yX10_whenCan cX10_whenCan 3 (some .int) 2 := ⟨mG 1136 (by decide +kernel) (by decide +kernel), mG 123 (by decide +kernel) (by decide +kernel), by decide +kernel, ⟨by decide +kernel, by decide +kernel⟩, by decide +kernel, by decide⟩
theorem ml_L_109 : Cond.methodLink RL 109 yX10_whenCan ∈ lwG := mG 1133 (by decide +kernel) (by decide +kernel)
theorem im_X10_whenCan : Cond.instanceMethod yX10_whenCan ∈ lwG := mG 1134 (by decide +kernel) (by decide +kernel)
theorem se_X10_whenCan : Cond.selects RX10 yX10_whenCan yX10_whenCan ∈ lwG := mG 1135 (by decide +kernel) (by decide +kernel)
theorem mw_X11_whenCan : MW yX11_whenCan cX11_whenCan 5 (some .int) 2 := ⟨mG 1822 (by decide +kernel) (by decide +kernel), mG 134 (by decide +kernel) (by decide +kernel), by decide +kernel, ⟨by decide +kernel, by decide +kernel⟩, by decide +kernel, by decide⟩
theorem ml_L_112 : Cond.methodLink RL 112 yX11_whenCan ∈ lwG := mG 1819 (by decide +kernel) (by decide +kernel)
theorem im_X11_whenCan : Cond.instanceMethod yX11_whenCan ∈ lwG := mG 1820 (by decide +kernel) (by decide +kernel)
theorem se_X11_whenCan : Cond.selects RX11 yX11_whenCan yX11_whenCan ∈ lwG := mG 1821 (by decide +kernel) (by decide +kernel)
theorem mw_X10_hand : MW yX10_hand cX10_hand 2 (some .int) 1 := ⟨mG 1145 (by decide +kernel) (by decide +kernel), mG 123 (by decide +kernel) (by decide +kernel), by decide +kernel, ⟨by decide +kernel, by decide +kernel⟩, by decide +kernel, by decide⟩
theorem ml_L_113 : Cond.methodLink RL 113 yX10_hand ∈ lwG := mG 1142 (by decide +kernel) (by decide +kernel)
theorem im_X10_hand : Cond.instanceMethod yX10_hand ∈ lwG := mG 1143 (by decide +kernel) (by decide +kernel)
theorem se_X10_hand : Cond.selects RX10 yX10_hand yX10_hand ∈ lwG := mG 1144 (by decide +kernel) (by decide +kernel)
theorem mw_X11_hand : MW yX11_hand cX11_hand 2 (some .int) 1 := ⟨mG 1794 (by decide +kernel) (by decide +kernel), mG 134 (by decide +kernel) (by decide +kernel), by decide +kernel, ⟨by decide +kernel, by decide +kernel⟩, by decide +kernel, by decide⟩
theorem ml_L_116 : Cond.methodLink RL 116 yX11_hand ∈ lwG := mG 1791 (by decide +kernel) (by decide +kernel)
theorem im_X11_hand : Cond.instanceMethod yX11_hand ∈ lwG := mG 1792 (by decide +kernel) (by decide +kernel)
theorem se_X11_hand : Cond.selects RX11 yX11_hand yX11_hand ∈ lwG := mG 1793 (by decide +kernel) (by decide +kernel)
theorem mw_X10_inherit : MW yX10_inherit cX10_inherit 4 (some .int) 3 := ⟨mG 1150 (by decide +kernel) (by decide +kernel), mG 123 (by decide +kernel) (by decide +kernel), by decide +kernel, ⟨by decide +kernel, by decide +kernel⟩, by decide +kernel, by decide⟩
theorem ml_L_117 : Cond.methodLink RL 117 yX10_inherit ∈ lwG := mG 1147 (by decide +kernel) (by decide +kernel)
theorem im_X10_inherit : Cond.instanceMethod yX10_inherit ∈ lwG := mG 1148 (by decide +kernel) (by decide +kernel)
theorem se_X10_inherit : Cond.selects RX10 yX10_inherit yX10_inherit ∈ lwG := mG 1149 (by decide +kernel) (by decide +kernel)
theorem mw_X11_inherit : MW yX11_inherit cX11_inherit 5 (some .int) 3 := ⟨mG 1834 (by decide +kernel) (by decide +kernel), mG 134 (by decide +kernel) (by decide +kernel), by decide +kernel, ⟨by decide +kernel, by decide +kernel⟩, by decide +kernel, by decide⟩
theorem ml_L_120 : Cond.methodLink RL 120 yX11_inherit ∈ lwG := mG 1831 (by decide +kernel) (by decide +kernel)
theorem im_X11_inherit : Cond.instanceMethod yX11_inherit ∈ lwG := mG 1832 (by decide +kernel) (by decide +kernel)
theorem se_X11_inherit : Cond.selects RX11 yX11_inherit yX11_inherit ∈ lwG := mG 1833 (by decide +kernel) (by decide +kernel)
theorem mw_X10_worth : MW yX10_worth cX10_worth 4 (some .int) 3 := ⟨mG 1160 (by decide +kernel) (by decide +kernel), mG 123 (by decide +kernel) (by decide +kernel), by decide +kernel, ⟨by decide +kernel, by decide +kernel⟩, by decide +kernel, by decide⟩
theorem ml_L_121 : Cond.methodLink RL 121 yX10_worth ∈ lwG := mG 1157 (by decide +kernel) (by decide +kernel)
theorem im_X10_worth : Cond.instanceMethod yX10_worth ∈ lwG := mG 1158 (by decide +kernel) (by decide +kernel)
theorem se_X10_worth : Cond.selects RX10 yX10_worth yX10_worth ∈ lwG := mG 1159 (by decide +kernel) (by decide +kernel)
theorem mw_X11_worth : MW yX11_worth cX11_worth 4 (some .int) 3 := ⟨mG 1838 (by decide +kernel) (by decide +kernel), mG 134 (by decide +kernel) (by decide +kernel), by decide +kernel, ⟨by decide +kernel, by decide +kernel⟩, by decide +kernel, by decide⟩
theorem ml_L_124 : Cond.methodLink RL 124 yX11_worth ∈ lwG := mG 1835 (by decide +kernel) (by decide +kernel)
theorem im_X11_worth : Cond.instanceMethod yX11_worth ∈ lwG := mG 1836 (by decide +kernel) (by decide +kernel)
theorem se_X11_worth : Cond.selects RX11 yX11_worth yX11_worth ∈ lwG := mG 1837 (by decide +kernel) (by decide +kernel)
theorem mw_X10_silent : MW yX10_silent cX10_silent 2 (some .int) 1 := ⟨mG 1165 (by decide +kernel) (by decide +kernel), mG 123 (by decide +kernel) (by decide +kernel), by decide +kernel, ⟨by decide +kernel, by decide +kernel⟩, by decide +kernel, by decide⟩
theorem ml_L_125 : Cond.methodLink RL 125 yX10_silent ∈ lwG := mG 1162 (by decide +kernel) (by decide +kernel)
theorem im_X10_silent : Cond.instanceMethod yX10_silent ∈ lwG := mG 1163 (by decide +kernel) (by decide +kernel)
theorem se_X10_silent : Cond.selects RX10 yX10_silent yX10_silent ∈ lwG := mG 1164 (by decide +kernel) (by decide +kernel)
theorem mw_X11_silent : MW yX11_silent cX11_silent 4 (some .int) 1 := ⟨mG 1842 (by decide +kernel) (by decide +kernel), mG 134 (by decide +kernel) (by decide +kernel), by decide +kernel, ⟨by decide +kernel, by decide +kernel⟩, by decide +kernel, by decide⟩
theorem ml_L_128 : Cond.methodLink RL 128 yX11_silent ∈ lwG := mG 1839 (by decide +kernel) (by decide +kernel)
theorem im_X11_silent : Cond.instanceMethod yX11_silent ∈ lwG := mG 1840 (by decide +kernel) (by decide +kernel)
theorem se_X11_silent : Cond.selects RX11 yX11_silent yX11_silent ∈ lwG := mG 1841 (by decide +kernel) (by decide +kernel)
theorem mw_X10_trace : MW yX10_trace cX10_trace 3 (some .int) 2 := ⟨mG 1092 (by decide +kernel) (by decide +kernel), mG 123 (by decide +kernel) (by decide +kernel), by decide +kernel, ⟨by decide +kernel, by decide +kernel⟩, by decide +kernel, by decide⟩
theorem ml_L_129 : Cond.methodLink RL 129 yX10_trace ∈ lwG := mG 1089 (by decide +kernel) (by decide +kernel)
theorem im_X10_trace : Cond.instanceMethod yX10_trace ∈ lwG := mG 1090 (by decide +kernel) (by decide +kernel)
theorem se_X10_trace : Cond.selects RX10 yX10_trace yX10_trace ∈ lwG := mG 1091 (by decide +kernel) (by decide +kernel)
theorem mw_X11_trace : MW yX11_trace cX11_trace 5 (some .int) 2 := ⟨mG 1850 (by decide +kernel) (by decide +kernel), mG 134 (by decide +kernel) (by decide +kernel), by decide +kernel, ⟨by decide +kernel, by decide +kernel⟩, by decide +kernel, by decide⟩
theorem ml_L_132 : Cond.methodLink RL 132 yX11_trace ∈ lwG := mG 1847 (by decide +kernel) (by decide +kernel)
theorem im_X11_trace : Cond.instanceMethod yX11_trace ∈ lwG := mG 1848 (by decide +kernel) (by decide +kernel)
theorem se_X11_trace : Cond.selects RX11 yX11_trace yX11_trace ∈ lwG := mG 1849 (by decide +kernel) (by decide +kernel)
theorem mw_X10_best : MW yX10_best cX10_best 3 (some .int) 2 := ⟨mG 1177 (by decide +kernel) (by decide +kernel), mG 123 (by decide +kernel) (by decide +kernel), by decide +kernel, ⟨by decide +kernel, by decide +kernel⟩, by decide +kernel, by decide⟩
theorem ml_L_133 : Cond.methodLink RL 133 yX10_best ∈ lwG := mG 1174 (by decide +kernel) (by decide +kernel)
theorem im_X10_best : Cond.instanceMethod yX10_best ∈ lwG := mG 1175 (by decide +kernel) (by decide +kernel)
theorem se_X10_best : Cond.selects RX10 yX10_best yX10_best ∈ lwG := mG 1176 (by decide +kernel) (by decide +kernel)
theorem mw_X11_best : MW yX11_best cX11_best 7 (some .int) 2 := ⟨mG 1854 (by decide +kernel) (by decide +kernel), mG 134 (by decide +kernel) (by decide +kernel), by decide +kernel, ⟨by decide +kernel, by decide +kernel⟩, by decide +kernel, by decide⟩
theorem ml_L_136 : Cond.methodLink RL 136 yX11_best ∈ lwG := mG 1851 (by decide +kernel) (by decide +kernel)
theorem im_X11_best : Cond.instanceMethod yX11_best ∈ lwG := mG 1852 (by decide +kernel) (by decide +kernel)
theorem se_X11_best : Cond.selects RX11 yX11_best yX11_best ∈ lwG := mG 1853 (by decide +kernel) (by decide +kernel)
theorem mw_X10_dumb : MW yX10_dumb cX10_dumb 1 (some .int) 0 := ⟨mG 1185 (by decide +kernel) (by decide +kernel), mG 123 (by decide +kernel) (by decide +kernel), by decide +kernel, ⟨by decide +kernel, by decide +kernel⟩, by decide +kernel, by decide⟩
theorem ml_L_137 : Cond.methodLink RL 137 yX10_dumb ∈ lwG := mG 1182 (by decide +kernel) (by decide +kernel)
theorem im_X10_dumb : Cond.instanceMethod yX10_dumb ∈ lwG := mG 1183 (by decide +kernel) (by decide +kernel)
theorem se_X10_dumb : Cond.selects RX10 yX10_dumb yX10_dumb ∈ lwG := mG 1184 (by decide +kernel) (by decide +kernel)
theorem mw_X11_dumb : MW yX11_dumb cX11_dumb 3 (some .int) 0 := ⟨mG 1798 (by decide +kernel) (by decide +kernel), mG 134 (by decide +kernel) (by decide +kernel), by decide +kernel, ⟨by decide +kernel, by decide +kernel⟩, by decide +kernel, by decide⟩
theorem ml_L_141 : Cond.methodLink RL 141 yX11_dumb ∈ lwG := mG 1795 (by decide +kernel) (by decide +kernel)
theorem im_X11_dumb : Cond.instanceMethod yX11_dumb ∈ lwG := mG 1796 (by decide +kernel) (by decide +kernel)
theorem se_X11_dumb : Cond.selects RX11 yX11_dumb yX11_dumb ∈ lwG := mG 1797 (by decide +kernel) (by decide +kernel)
theorem mw_X10_undo : MW yX10_undo cX10_undo 1 (some .boolean) 0 := ⟨mG 1193 (by decide +kernel) (by decide +kernel), mG 123 (by decide +kernel) (by decide +kernel), by decide +kernel, ⟨by decide +kernel, by decide +kernel⟩, by decide +kernel, by decide⟩
theorem ml_L_142 : Cond.methodLink RL 142 yX10_undo ∈ lwG := mG 1190 (by decide +kernel) (by decide +kernel)
theorem im_X10_undo : Cond.instanceMethod yX10_undo ∈ lwG := mG 1191 (by decide +kernel) (by decide +kernel)
theorem se_X10_undo : Cond.selects RX10 yX10_undo yX10_undo ∈ lwG := mG 1192 (by decide +kernel) (by decide +kernel)
theorem mw_X11_undo : MW yX11_undo cX11_undo 2 (some .boolean) 0 := ⟨mG 1386 (by decide +kernel) (by decide +kernel), mG 134 (by decide +kernel) (by decide +kernel), by decide +kernel, ⟨by decide +kernel, by decide +kernel⟩, by decide +kernel, by decide⟩
theorem ml_L_146 : Cond.methodLink RL 146 yX11_undo ∈ lwG := mG 1383 (by decide +kernel) (by decide +kernel)
theorem im_X11_undo : Cond.instanceMethod yX11_undo ∈ lwG := mG 1384 (by decide +kernel) (by decide +kernel)
theorem se_X11_undo : Cond.selects RX11 yX11_undo yX11_undo ∈ lwG := mG 1385 (by decide +kernel) (by decide +kernel)
theorem mw_X10_look : MW yX10_look cX10_look 2 (some .int) 1 := ⟨mG 1100 (by decide +kernel) (by decide +kernel), mG 123 (by decide +kernel) (by decide +kernel), by decide +kernel, ⟨by decide +kernel, by decide +kernel⟩, by decide +kernel, by decide⟩
theorem ml_L_152 : Cond.methodLink RL 152 yX10_look ∈ lwG := mG 1097 (by decide +kernel) (by decide +kernel)
theorem im_X10_look : Cond.instanceMethod yX10_look ∈ lwG := mG 1098 (by decide +kernel) (by decide +kernel)
theorem se_X10_look : Cond.selects RX10 yX10_look yX10_look ∈ lwG := mG 1099 (by decide +kernel) (by decide +kernel)
theorem mw_X11_look : MW yX11_look cX11_look 2 (some .int) 1 := ⟨mG 1882 (by decide +kernel) (by decide +kernel), mG 134 (by decide +kernel) (by decide +kernel), by decide +kernel, ⟨by decide +kernel, by decide +kernel⟩, by decide +kernel, by decide⟩
theorem ml_L_155 : Cond.methodLink RL 155 yX11_look ∈ lwG := mG 1879 (by decide +kernel) (by decide +kernel)
theorem im_X11_look : Cond.instanceMethod yX11_look ∈ lwG := mG 1880 (by decide +kernel) (by decide +kernel)
theorem se_X11_look : Cond.selects RX11 yX11_look yX11_look ∈ lwG := mG 1881 (by decide +kernel) (by decide +kernel)
set_option maxRecDepth 100000 in
def f_L_1275 (k18 : Int32 → Mm → Option Int32) (xs : Nat → Int32) (Ln : Nat) (x3 : Int32) (S : Mm) : Option Int32 :=
  nm (x3 + (6 : Int32)) fun x3_1 =>
  k18 x3_1 S
set_option maxRecDepth 100000 in
set_option maxHeartbeats 4000000 in
theorem b_L_1275 {p : Program} {e : Env} {s : State} {m : MethodId} {below : List Frame} {meth : Method} {c : Code} {X : CX} {b Ln : Nat} {xs : Nat → Int32} (M0 : ML X p e s m b below meth c Ln xs) {k18 : Int32 → Mm → Option Int32} (hk18 : ∀ (x3 : Int32) (S : Mm), At X (LE p e s m b below meth c) false (lQ p e s m b below meth c) 18 [some (.ref (1048576 + 4)), some (.ref 0), some (.ref 239), some (.int x3)] [] Z1 S 270 20163 (k18 x3 S)) (x3 : Int32) (S : Mm) : At X (LE p e s m b below meth c) false (lQ p e s m b below meth c) 1275 [some (.ref (1048576 + 4)), some (.ref 0), some (.ref 239), some (.int x3)] [] Z1 S 270 20163 (f_L_1275 k18 xs Ln x3 S) := by
  have F := M0.1
  unfold f_L_1275
  refine a_iincN (L' := fun x3_1 => [some (.ref (1048576 + 4)), some (.ref 0), some (.ref 239), some (.int x3_1)]) F dL_law_1275 rfl ki_6 (lt_b rfl) (fun _ => rfl) (fun x3_1 => ?_)
  refine a_goto F 18 dL_law_1278 (by decide) ?_
  exact hk18 x3_1 S
set_option maxRecDepth 100000 in
def f_L_1244 (k18 : Int32 → Mm → Option Int32) (xs : Nat → Int32) (Ln : Nat) (x3 t0 t2 : Int32) (S : Mm) : Option Int32 :=
  (f_X11_image t2 S).bind fun q_1 =>
  if t0 = q_1.1 then (
   f_L_1275 k18 xs Ln x3 q_1.2
  ) else (
   none
  )
set_option maxRecDepth 100000 in
set_option maxHeartbeats 4000000 in
theorem b_L_1244 {p : Program} {e : Env} {s : State} {m : MethodId} {below : List Frame} {meth : Method} {c : Code} {X : CX} {b Ln : Nat} {xs : Nat → Int32} (M0 : ML X p e s m b below meth c Ln xs) {k18 : Int32 → Mm → Option Int32} (hk18 : ∀ (x3 : Int32) (S : Mm), At X (LE p e s m b below meth c) false (lQ p e s m b below meth c) 18 [some (.ref (1048576 + 4)), some (.ref 0), some (.ref 239), some (.int x3)] [] Z1 S 270 20163 (k18 x3 S)) (x3 t0 t2 : Int32) (S : Mm) : At X (LE p e s m b below meth c) false (lQ p e s m b below meth c) 1244 [some (.ref (1048576 + 4)), some (.ref 0), some (.ref 239), some (.int x3)] [.int t2, .ref 239, .int t0] Z1 S 270 20163 (f_L_1244 k18 xs Ln x3 t0 t2 S) := by
  have F := M0.1
  unfold f_L_1244
  refine a_callVI F (As := [.int t2]) cfX11 rfl (c_X11_image X t2 S) mw_X11_image ml_L_151 im_X11_image se_X11_image M0.2.1 (Nat.le_of_ble_eq_true rfl) M0.2.2.1 rfl rfl (Nat.le_of_ble_eq_true rfl) zl_239 zk_239 dL_law_1244 rfl (fun q_1 => ?_)
  refine a_icmp_eq F 1275 dL_law_1247 (by decide) ?_ ?_
  · exact b_L_1275 M0 hk18 x3 q_1.2
  · refine a_iconst F dL_law_1250 ki_0 ?_
    exact a_none
set_option maxRecDepth 100000 in
def f_L_1227 (k18 : Int32 → Mm → Option Int32) (xs : Nat → Int32) (Ln : Nat) (x3 t1 : Int32) (S : Mm) : Option Int32 :=
  (f_X10_image t1 S).bind fun q_1 =>
  gd (inB (x3 + (1 : Int32)) Ln = true) <|
  if (xs (ix (x3 + (1 : Int32)))) = 0 then (
   f_L_1244 k18 xs Ln x3 q_1.1 (0 : Int32) q_1.2
  ) else (
   f_L_1244 k18 xs Ln x3 q_1.1 (1 : Int32) q_1.2
  )
set_option maxRecDepth 100000 in
set_option maxHeartbeats 4000000 in
theorem b_L_1227 {p : Program} {e : Env} {s : State} {m : MethodId} {below : List Frame} {meth : Method} {c : Code} {X : CX} {b Ln : Nat} {xs : Nat → Int32} (M0 : ML X p e s m b below meth c Ln xs) {k18 : Int32 → Mm → Option Int32} (hk18 : ∀ (x3 : Int32) (S : Mm), At X (LE p e s m b below meth c) false (lQ p e s m b below meth c) 18 [some (.ref (1048576 + 4)), some (.ref 0), some (.ref 239), some (.int x3)] [] Z1 S 270 20163 (k18 x3 S)) (x3 t1 : Int32) (S : Mm) : At X (LE p e s m b below meth c) false (lQ p e s m b below meth c) 1227 [some (.ref (1048576 + 4)), some (.ref 0), some (.ref 239), some (.int x3)] [.int t1, .ref 0] Z1 S 270 20163 (f_L_1227 k18 xs Ln x3 t1 S) := by
  have F := M0.1
  unfold f_L_1227
  refine a_callVI F (As := [.int t1]) cfX10 rfl (c_X10_image X t1 S) mw_X10_image ml_L_147 im_X10_image se_X10_image M0.2.1 (Nat.le_of_ble_eq_true rfl) M0.2.2.1 rfl rfl (Nat.le_of_ble_eq_true rfl) zl_0 zk_0 dL_law_1227 rfl (fun q_1 => ?_)
  refine a_aload_n F dL_law_1230 rfl rfl ?_
  refine a_aload_n F dL_law_1231 rfl rfl ?_
  refine a_iload_n F dL_law_1232 rfl rfl ?_
  refine a_iconst F dL_law_1233 ki_1 ?_
  refine a_iadd F dL_law_1234 ?_
  refine a_gd (a_sld F M0.2.2.2.1 dL_law_1235 ?_)
  refine a_if_eq F 1243 dL_law_1236 (by decide) ?_ ?_
  · refine a_iconst F dL_law_1243 ki_0 ?_
    exact b_L_1244 M0 hk18 x3 q_1.1 (0 : Int32) q_1.2
  · refine a_iconst F dL_law_1239 ki_1 ?_
    refine a_goto F 1244 dL_law_1240 (by decide) ?_
    exact b_L_1244 M0 hk18 x3 q_1.1 (1 : Int32) q_1.2
set_option maxRecDepth 100000 in
def f_L_18b (k18 : Int32 → Mm → Option Int32) (xs : Nat → Int32) (Ln : Nat) (x3 : Int32) (S : Mm) : Option Int32 :=
  if ((Int32.ofNat Ln) - (6 : Int32)) < x3 then (
   some 1
  ) else (
   gd (inB x3 Ln = true) <|
   tsw ((xs (ix x3)) &&& (63 : Int32)) 0 [
    (
     gd (inB (x3 + (1 : Int32)) Ln = true) <|
     (f_X10_state (xs (ix (x3 + (1 : Int32)))) S).bind fun q_1 =>
     gd (inB (x3 + (1 : Int32)) Ln = true) <|
     (f_X11_state (xs (ix (x3 + (1 : Int32)))) q_1.2).bind fun q_2 =>
     if q_1.1 = q_2.1 then (
      f_L_1275 k18 xs Ln x3 q_2.2
     ) else (
      none
     )
    ),
    (
     gd (inB (x3 + (1 : Int32)) Ln = true) <|
     gd (inB (x3 + (2 : Int32)) Ln = true) <|
     gd (inB (x3 + (3 : Int32)) Ln = true) <|
     (f_X10_person (xs (ix (x3 + (1 : Int32)))) (xs (ix (x3 + (2 : Int32)))) (xs (ix (x3 + (3 : Int32)))) S).bind fun q_3 =>
     gd (inB (x3 + (1 : Int32)) Ln = true) <|
     gd (inB (x3 + (2 : Int32)) Ln = true) <|
     gd (inB (x3 + (3 : Int32)) Ln = true) <|
     (f_X11_person (xs (ix (x3 + (1 : Int32)))) (xs (ix (x3 + (2 : Int32)))) (xs (ix (x3 + (3 : Int32)))) q_3.2).bind fun q_4 =>
     if q_3.1 = q_4.1 then (
      f_L_1275 k18 xs Ln x3 q_4.2
     ) else (
      none
     )
    ),
    (
     gd (inB (x3 + (1 : Int32)) Ln = true) <|
     gd (inB (x3 + (2 : Int32)) Ln = true) <|
     gd (inB (x3 + (3 : Int32)) Ln = true) <|
     (f_X10_set (xs (ix (x3 + (1 : Int32)))) (xs (ix (x3 + (2 : Int32)))) (xs (ix (x3 + (3 : Int32)))) S).bind fun q_5 =>
     gd (inB (x3 + (1 : Int32)) Ln = true) <|
     gd (inB (x3 + (2 : Int32)) Ln = true) <|
     gd (inB (x3 + (3 : Int32)) Ln = true) <|
     (f_X11_set (xs (ix (x3 + (1 : Int32)))) (xs (ix (x3 + (2 : Int32)))) (xs (ix (x3 + (3 : Int32)))) q_5.2).bind fun q_6 =>
     if q_5.1 = q_6.1 then (
      f_L_1275 k18 xs Ln x3 q_6.2
     ) else (
      none
     )
    ),
    (
     gd (inB (x3 + (1 : Int32)) Ln = true) <|
     gd (inB (x3 + (2 : Int32)) Ln = true) <|
     (f_X10_own (xs (ix (x3 + (1 : Int32)))) (xs (ix (x3 + (2 : Int32)))) S).bind fun q_7 =>
     gd (inB (x3 + (1 : Int32)) Ln = true) <|
     gd (inB (x3 + (2 : Int32)) Ln = true) <|
     (f_X11_own (xs (ix (x3 + (1 : Int32)))) (xs (ix (x3 + (2 : Int32)))) q_7.2).bind fun q_8 =>
     if q_7.1 = q_8.1 then (
      f_L_1275 k18 xs Ln x3 q_8.2
     ) else (
      none
     )
    ),
    (
     gd (inB (x3 + (1 : Int32)) Ln = true) <|
     gd (inB (x3 + (2 : Int32)) Ln = true) <|
     gd (inB (x3 + (3 : Int32)) Ln = true) <|
     gd (inB (x3 + (4 : Int32)) Ln = true) <|
     gd (inB (x3 + (5 : Int32)) Ln = true) <|
     (f_X10_feed (xs (ix (x3 + (1 : Int32)))) (xs (ix (x3 + (2 : Int32)))) (xs (ix (x3 + (3 : Int32)))) (xs (ix (x3 + (4 : Int32)))) (xs (ix (x3 + (5 : Int32)))) S).bind fun q_9 =>
     gd (inB (x3 + (1 : Int32)) Ln = true) <|
     gd (inB (x3 + (2 : Int32)) Ln = true) <|
     gd (inB (x3 + (3 : Int32)) Ln = true) <|
     gd (inB (x3 + (4 : Int32)) Ln = true) <|
     gd (inB (x3 + (5 : Int32)) Ln = true) <|
     (f_X11_feed (xs (ix (x3 + (1 : Int32)))) (xs (ix (x3 + (2 : Int32)))) (xs (ix (x3 + (3 : Int32)))) (xs (ix (x3 + (4 : Int32)))) (xs (ix (x3 + (5 : Int32)))) q_9.2).bind fun q_10 =>
     if q_9.1 = q_10.1 then (
      f_L_1275 k18 xs Ln x3 q_10.2
     ) else (
      none
     )
    ),
    (
     gd (inB (x3 + (1 : Int32)) Ln = true) <|
     (f_X10_end (xs (ix (x3 + (1 : Int32)))) S).bind fun q_11 =>
     gd (inB (x3 + (1 : Int32)) Ln = true) <|
     (f_X11_end (xs (ix (x3 + (1 : Int32)))) q_11.2).bind fun q_12 =>
     if q_11.1 = q_12.1 then (
      f_L_1275 k18 xs Ln x3 q_12.2
     ) else (
      none
     )
    ),
    (
     gd (inB (x3 + (1 : Int32)) Ln = true) <|
     gd (inB (x3 + (2 : Int32)) Ln = true) <|
     (f_X10_text (xs (ix (x3 + (1 : Int32)))) (xs (ix (x3 + (2 : Int32)))) S).bind fun q_13 =>
     gd (inB (x3 + (1 : Int32)) Ln = true) <|
     gd (inB (x3 + (2 : Int32)) Ln = true) <|
     (f_X11_text (xs (ix (x3 + (1 : Int32)))) (xs (ix (x3 + (2 : Int32)))) q_13.2).bind fun q_14 =>
     if q_13.1 = q_14.1 then (
      f_L_1275 k18 xs Ln x3 q_14.2
     ) else (
      none
     )
    ),
    (
     gd (inB (x3 + (1 : Int32)) Ln = true) <|
     (f_X10_fault (xs (ix (x3 + (1 : Int32)))) S).bind fun q_15 =>
     gd (inB (x3 + (1 : Int32)) Ln = true) <|
     (f_X11_fault (xs (ix (x3 + (1 : Int32)))) q_15.2).bind fun q_16 =>
     if q_15.1 = q_16.1 then (
      f_L_1275 k18 xs Ln x3 q_16.2
     ) else (
      none
     )
    ),
    (
     gd (inB (x3 + (1 : Int32)) Ln = true) <|
     gd (inB (x3 + (2 : Int32)) Ln = true) <|
     (f_X10_wed (xs (ix (x3 + (1 : Int32)))) (xs (ix (x3 + (2 : Int32)))) S).bind fun q_17 =>
     gd (inB (x3 + (1 : Int32)) Ln = true) <|
     gd (inB (x3 + (2 : Int32)) Ln = true) <|
     (f_X11_wed (xs (ix (x3 + (1 : Int32)))) (xs (ix (x3 + (2 : Int32)))) q_17.2).bind fun q_18 =>
     if q_17.1 = q_18.1 then (
      f_L_1275 k18 xs Ln x3 q_18.2
     ) else (
      none
     )
    ),
    (
     gd (inB (x3 + (1 : Int32)) Ln = true) <|
     gd (inB (x3 + (2 : Int32)) Ln = true) <|
     (f_X10_part (xs (ix (x3 + (1 : Int32)))) (xs (ix (x3 + (2 : Int32)))) S).bind fun q_19 =>
     gd (inB (x3 + (1 : Int32)) Ln = true) <|
     gd (inB (x3 + (2 : Int32)) Ln = true) <|
     (f_X11_part (xs (ix (x3 + (1 : Int32)))) (xs (ix (x3 + (2 : Int32)))) q_19.2).bind fun q_20 =>
     if q_19.1 = q_20.1 then (
      f_L_1275 k18 xs Ln x3 q_20.2
     ) else (
      none
     )
    ),
    (
     gd (inB (x3 + (1 : Int32)) Ln = true) <|
     gd (inB (x3 + (2 : Int32)) Ln = true) <|
     gd (inB (x3 + (3 : Int32)) Ln = true) <|
     gd (inB (x3 + (4 : Int32)) Ln = true) <|
     (f_X10_lend (xs (ix (x3 + (1 : Int32)))) (xs (ix (x3 + (2 : Int32)))) (xs (ix (x3 + (3 : Int32)))) (xs (ix (x3 + (4 : Int32)))) S).bind fun q_21 =>
     gd (inB (x3 + (1 : Int32)) Ln = true) <|
     gd (inB (x3 + (2 : Int32)) Ln = true) <|
     gd (inB (x3 + (3 : Int32)) Ln = true) <|
     gd (inB (x3 + (4 : Int32)) Ln = true) <|
     (f_X11_lend (xs (ix (x3 + (1 : Int32)))) (xs (ix (x3 + (2 : Int32)))) (xs (ix (x3 + (3 : Int32)))) (xs (ix (x3 + (4 : Int32)))) q_21.2).bind fun q_22 =>
     if q_21.1 = q_22.1 then (
      f_L_1275 k18 xs Ln x3 q_22.2
     ) else (
      none
     )
    ),
    (
     gd (inB (x3 + (1 : Int32)) Ln = true) <|
     gd (inB (x3 + (2 : Int32)) Ln = true) <|
     (f_X10_give (xs (ix (x3 + (1 : Int32)))) (xs (ix (x3 + (2 : Int32)))) S).bind fun q_23 =>
     gd (inB (x3 + (1 : Int32)) Ln = true) <|
     gd (inB (x3 + (2 : Int32)) Ln = true) <|
     (f_X11_give (xs (ix (x3 + (1 : Int32)))) (xs (ix (x3 + (2 : Int32)))) q_23.2).bind fun q_24 =>
     if q_23.1 = q_24.1 then (
      f_L_1275 k18 xs Ln x3 q_24.2
     ) else (
      none
     )
    ),
    (
     gd (inB (x3 + (1 : Int32)) Ln = true) <|
     gd (inB (x3 + (2 : Int32)) Ln = true) <|
     gd (inB (x3 + (3 : Int32)) Ln = true) <|
     (f_X10_duel (xs (ix (x3 + (1 : Int32)))) (xs (ix (x3 + (2 : Int32)))) (xs (ix (x3 + (3 : Int32)))) S).bind fun q_25 =>
     gd (inB (x3 + (1 : Int32)) Ln = true) <|
     gd (inB (x3 + (2 : Int32)) Ln = true) <|
     gd (inB (x3 + (3 : Int32)) Ln = true) <|
     (f_X11_duel (xs (ix (x3 + (1 : Int32)))) (xs (ix (x3 + (2 : Int32)))) (xs (ix (x3 + (3 : Int32)))) q_25.2).bind fun q_26 =>
     if q_25.1 = q_26.1 then (
      f_L_1275 k18 xs Ln x3 q_26.2
     ) else (
      none
     )
    ),
    (
     gd (inB (x3 + (1 : Int32)) Ln = true) <|
     gd (inB (x3 + (2 : Int32)) Ln = true) <|
     (f_X10_sign (xs (ix (x3 + (1 : Int32)))) (xs (ix (x3 + (2 : Int32)))) S).bind fun q_27 =>
     gd (inB (x3 + (1 : Int32)) Ln = true) <|
     gd (inB (x3 + (2 : Int32)) Ln = true) <|
     (f_X11_sign (xs (ix (x3 + (1 : Int32)))) (xs (ix (x3 + (2 : Int32)))) q_27.2).bind fun q_28 =>
     if q_27.1 = q_28.1 then (
      f_L_1275 k18 xs Ln x3 q_28.2
     ) else (
      none
     )
    ),
    (
     gd (inB (x3 + (1 : Int32)) Ln = true) <|
     (f_X10_days (xs (ix (x3 + (1 : Int32)))) S).bind fun q_29 =>
     gd (inB (x3 + (1 : Int32)) Ln = true) <|
     (f_X11_days (xs (ix (x3 + (1 : Int32)))) q_29.2).bind fun q_30 =>
     if q_29.1 = q_30.1 then (
      f_L_1275 k18 xs Ln x3 q_30.2
     ) else (
      none
     )
    ),
    (
     gd (inB (x3 + (1 : Int32)) Ln = true) <|
     gd (inB (x3 + (2 : Int32)) Ln = true) <|
     (f_X10_of (xs (ix (x3 + (1 : Int32)))) (xs (ix (x3 + (2 : Int32)))) S).bind fun q_31 =>
     gd (inB (x3 + (1 : Int32)) Ln = true) <|
     gd (inB (x3 + (2 : Int32)) Ln = true) <|
     (f_X11_of (xs (ix (x3 + (1 : Int32)))) (xs (ix (x3 + (2 : Int32)))) q_31.2).bind fun q_32 =>
     if q_31.1 = q_32.1 then (
      f_L_1275 k18 xs Ln x3 q_32.2
     ) else (
      none
     )
    ),
    (
     gd (inB (x3 + (1 : Int32)) Ln = true) <|
     gd (inB (x3 + (2 : Int32)) Ln = true) <|
     (f_X10_kin (xs (ix (x3 + (1 : Int32)))) (xs (ix (x3 + (2 : Int32)))) S).bind fun q_33 =>
     gd (inB (x3 + (1 : Int32)) Ln = true) <|
     gd (inB (x3 + (2 : Int32)) Ln = true) <|
     (f_X11_kin (xs (ix (x3 + (1 : Int32)))) (xs (ix (x3 + (2 : Int32)))) q_33.2).bind fun q_34 =>
     if q_33.1 = q_34.1 then (
      f_L_1275 k18 xs Ln x3 q_34.2
     ) else (
      none
     )
    ),
    (
     gd (inB (x3 + (1 : Int32)) Ln = true) <|
     gd (inB (x3 + (2 : Int32)) Ln = true) <|
     (f_X10_letter (xs (ix (x3 + (1 : Int32)))) (xs (ix (x3 + (2 : Int32)))) S).bind fun q_35 =>
     gd (inB (x3 + (1 : Int32)) Ln = true) <|
     gd (inB (x3 + (2 : Int32)) Ln = true) <|
     (f_X11_letter (xs (ix (x3 + (1 : Int32)))) (xs (ix (x3 + (2 : Int32)))) q_35.2).bind fun q_36 =>
     if q_35.1 = q_36.1 then (
      f_L_1275 k18 xs Ln x3 q_36.2
     ) else (
      none
     )
    ),
    (
     gd (inB (x3 + (1 : Int32)) Ln = true) <|
     gd (inB (x3 + (2 : Int32)) Ln = true) <|
     (f_X10_deed (xs (ix (x3 + (1 : Int32)))) (xs (ix (x3 + (2 : Int32)))) S).bind fun q_37 =>
     gd (inB (x3 + (1 : Int32)) Ln = true) <|
     gd (inB (x3 + (2 : Int32)) Ln = true) <|
     (f_X11_deed (xs (ix (x3 + (1 : Int32)))) (xs (ix (x3 + (2 : Int32)))) q_37.2).bind fun q_38 =>
     if q_37.1 = q_38.1 then (
      f_L_1275 k18 xs Ln x3 q_38.2
     ) else (
      none
     )
    ),
    (
     gd (inB (x3 + (1 : Int32)) Ln = true) <|
     gd (inB (x3 + (2 : Int32)) Ln = true) <|
     (f_X10_at (xs (ix (x3 + (1 : Int32)))) (xs (ix (x3 + (2 : Int32)))) S).bind fun q_39 =>
     gd (inB (x3 + (1 : Int32)) Ln = true) <|
     gd (inB (x3 + (2 : Int32)) Ln = true) <|
     (f_X11_at (xs (ix (x3 + (1 : Int32)))) (xs (ix (x3 + (2 : Int32)))) q_39.2).bind fun q_40 =>
     if q_39.1 = q_40.1 then (
      f_L_1275 k18 xs Ln x3 q_40.2
     ) else (
      none
     )
    ),
    (
     gd (inB (x3 + (1 : Int32)) Ln = true) <|
     gd (inB (x3 + (2 : Int32)) Ln = true) <|
     (f_X10_book (xs (ix (x3 + (1 : Int32)))) (xs (ix (x3 + (2 : Int32)))) S).bind fun q_41 =>
     gd (inB (x3 + (1 : Int32)) Ln = true) <|
     gd (inB (x3 + (2 : Int32)) Ln = true) <|
     (f_X11_book (xs (ix (x3 + (1 : Int32)))) (xs (ix (x3 + (2 : Int32)))) q_41.2).bind fun q_42 =>
     if q_41.1 = q_42.1 then (
      f_L_1275 k18 xs Ln x3 q_42.2
     ) else (
      none
     )
    ),
    (
     gd (inB (x3 + (1 : Int32)) Ln = true) <|
     gd (inB (x3 + (2 : Int32)) Ln = true) <|
     gd (inB (x3 + (3 : Int32)) Ln = true) <|
     (f_X10_weddings (xs (ix (x3 + (1 : Int32)))) (xs (ix (x3 + (2 : Int32)))) (xs (ix (x3 + (3 : Int32)))) S).bind fun q_43 =>
     gd (inB (x3 + (1 : Int32)) Ln = true) <|
     gd (inB (x3 + (2 : Int32)) Ln = true) <|
     gd (inB (x3 + (3 : Int32)) Ln = true) <|
     (f_X11_weddings (xs (ix (x3 + (1 : Int32)))) (xs (ix (x3 + (2 : Int32)))) (xs (ix (x3 + (3 : Int32)))) q_43.2).bind fun q_44 =>
     if q_43.1 = q_44.1 then (
      f_L_1275 k18 xs Ln x3 q_44.2
     ) else (
      none
     )
    ),
    (
     gd (inB (x3 + (1 : Int32)) Ln = true) <|
     gd (inB (x3 + (2 : Int32)) Ln = true) <|
     (f_X10_whenCan (xs (ix (x3 + (1 : Int32)))) (xs (ix (x3 + (2 : Int32)))) S).bind fun q_45 =>
     gd (inB (x3 + (1 : Int32)) Ln = true) <|
     gd (inB (x3 + (2 : Int32)) Ln = true) <|
     (f_X11_whenCan (xs (ix (x3 + (1 : Int32)))) (xs (ix (x3 + (2 : Int32)))) q_45.2).bind fun q_46 =>
     if q_45.1 = q_46.1 then (
      f_L_1275 k18 xs Ln x3 q_46.2
     ) else (
      none
     )
    ),
    (
     gd (inB (x3 + (1 : Int32)) Ln = true) <|
     (f_X10_hand (xs (ix (x3 + (1 : Int32)))) S).bind fun q_47 =>
     gd (inB (x3 + (1 : Int32)) Ln = true) <|
     (f_X11_hand (xs (ix (x3 + (1 : Int32)))) q_47.2).bind fun q_48 =>
     if q_47.1 = q_48.1 then (
      f_L_1275 k18 xs Ln x3 q_48.2
     ) else (
      none
     )
    ),
    (
     gd (inB (x3 + (1 : Int32)) Ln = true) <|
     gd (inB (x3 + (2 : Int32)) Ln = true) <|
     gd (inB (x3 + (3 : Int32)) Ln = true) <|
     (f_X10_inherit (xs (ix (x3 + (1 : Int32)))) (xs (ix (x3 + (2 : Int32)))) (xs (ix (x3 + (3 : Int32)))) S).bind fun q_49 =>
     gd (inB (x3 + (1 : Int32)) Ln = true) <|
     gd (inB (x3 + (2 : Int32)) Ln = true) <|
     gd (inB (x3 + (3 : Int32)) Ln = true) <|
     (f_X11_inherit (xs (ix (x3 + (1 : Int32)))) (xs (ix (x3 + (2 : Int32)))) (xs (ix (x3 + (3 : Int32)))) q_49.2).bind fun q_50 =>
     if q_49.1 = q_50.1 then (
      f_L_1275 k18 xs Ln x3 q_50.2
     ) else (
      none
     )
    ),
    (
     gd (inB (x3 + (1 : Int32)) Ln = true) <|
     gd (inB (x3 + (2 : Int32)) Ln = true) <|
     gd (inB (x3 + (3 : Int32)) Ln = true) <|
     (f_X10_worth (xs (ix (x3 + (1 : Int32)))) (xs (ix (x3 + (2 : Int32)))) (xs (ix (x3 + (3 : Int32)))) S).bind fun q_51 =>
     gd (inB (x3 + (1 : Int32)) Ln = true) <|
     gd (inB (x3 + (2 : Int32)) Ln = true) <|
     gd (inB (x3 + (3 : Int32)) Ln = true) <|
     (f_X11_worth (xs (ix (x3 + (1 : Int32)))) (xs (ix (x3 + (2 : Int32)))) (xs (ix (x3 + (3 : Int32)))) q_51.2).bind fun q_52 =>
     if q_51.1 = q_52.1 then (
      f_L_1275 k18 xs Ln x3 q_52.2
     ) else (
      none
     )
    ),
    (
     gd (inB (x3 + (1 : Int32)) Ln = true) <|
     (f_X10_silent (xs (ix (x3 + (1 : Int32)))) S).bind fun q_53 =>
     gd (inB (x3 + (1 : Int32)) Ln = true) <|
     (f_X11_silent (xs (ix (x3 + (1 : Int32)))) q_53.2).bind fun q_54 =>
     if q_53.1 = q_54.1 then (
      f_L_1275 k18 xs Ln x3 q_54.2
     ) else (
      none
     )
    ),
    (
     gd (inB (x3 + (1 : Int32)) Ln = true) <|
     gd (inB (x3 + (2 : Int32)) Ln = true) <|
     (f_X10_trace (xs (ix (x3 + (1 : Int32)))) (xs (ix (x3 + (2 : Int32)))) S).bind fun q_55 =>
     gd (inB (x3 + (1 : Int32)) Ln = true) <|
     gd (inB (x3 + (2 : Int32)) Ln = true) <|
     (f_X11_trace (xs (ix (x3 + (1 : Int32)))) (xs (ix (x3 + (2 : Int32)))) q_55.2).bind fun q_56 =>
     if q_55.1 = q_56.1 then (
      f_L_1275 k18 xs Ln x3 q_56.2
     ) else (
      none
     )
    ),
    (
     gd (inB (x3 + (1 : Int32)) Ln = true) <|
     gd (inB (x3 + (2 : Int32)) Ln = true) <|
     (f_X10_best (xs (ix (x3 + (1 : Int32)))) (xs (ix (x3 + (2 : Int32)))) S).bind fun q_57 =>
     gd (inB (x3 + (1 : Int32)) Ln = true) <|
     gd (inB (x3 + (2 : Int32)) Ln = true) <|
     (f_X11_best (xs (ix (x3 + (1 : Int32)))) (xs (ix (x3 + (2 : Int32)))) q_57.2).bind fun q_58 =>
     if q_57.1 = q_58.1 then (
      f_L_1275 k18 xs Ln x3 q_58.2
     ) else (
      none
     )
    ),
    (
     (f_X10_dumb S).bind fun q_59 =>
     (f_X11_dumb q_59.2).bind fun q_60 =>
     if q_59.1 = q_60.1 then (
      f_L_1275 k18 xs Ln x3 q_60.2
     ) else (
      none
     )
    ),
    (
     (f_X10_undo S).bind fun q_61 =>
     (f_X11_undo q_61.2).bind fun q_62 =>
     if q_61.1 = q_62.1 then (
      f_L_1275 k18 xs Ln x3 q_62.2
     ) else (
      none
     )
    ),
    (
     gd (inB (x3 + (1 : Int32)) Ln = true) <|
     if (xs (ix (x3 + (1 : Int32)))) = 0 then (
      f_L_1227 k18 xs Ln x3 (0 : Int32) S
     ) else (
      f_L_1227 k18 xs Ln x3 (1 : Int32) S
     )
    ),
    (
     gd (inB (x3 + (1 : Int32)) Ln = true) <|
     (f_X10_look (xs (ix (x3 + (1 : Int32)))) S).bind fun q_63 =>
     gd (inB (x3 + (1 : Int32)) Ln = true) <|
     (f_X11_look (xs (ix (x3 + (1 : Int32)))) q_63.2).bind fun q_64 =>
     if q_63.1 = q_64.1 then (
      f_L_1275 k18 xs Ln x3 q_64.2
     ) else (
      none
     )
    )
   ] (
    f_L_1275 k18 xs Ln x3 S
   )
  )
set_option maxRecDepth 100000 in
set_option maxHeartbeats 4000000 in
theorem b_L_18b {p : Program} {e : Env} {s : State} {m : MethodId} {below : List Frame} {meth : Method} {c : Code} {X : CX} {b Ln : Nat} {xs : Nat → Int32} (M0 : ML X p e s m b below meth c Ln xs) {k18 : Int32 → Mm → Option Int32} (hk18 : ∀ (x3 : Int32) (S : Mm), At X (LE p e s m b below meth c) false (lQ p e s m b below meth c) 18 [some (.ref (1048576 + 4)), some (.ref 0), some (.ref 239), some (.int x3)] [] Z1 S 270 20163 (k18 x3 S)) (x3 : Int32) (S : Mm) : At X (LE p e s m b below meth c) false (lQ p e s m b below meth c) 18 [some (.ref (1048576 + 4)), some (.ref 0), some (.ref 239), some (.int x3)] [] Z1 S 270 20163 (f_L_18b k18 xs Ln x3 S) := by
  have F := M0.1
  unfold f_L_18b
  refine a_iload_n F dL_law_18 rfl rfl ?_
  refine a_aload_n F dL_law_19 rfl rfl ?_
  refine a_sln F M0.2.2.2.1 dL_law_20 ?_
  refine a_bipush F dL_law_21 kb_6 ?_
  refine a_isub F dL_law_23 ?_
  refine a_icmp_gt F 1281 dL_law_24 (by decide) ?_ ?_
  · refine a_iconst F dL_law_1281 ki_1 ?_
    exact a_lret M0 dL_law_1282
  · refine a_aload_n F dL_law_27 rfl rfl ?_
    refine a_iload_n F dL_law_28 rfl rfl ?_
    refine a_gd (a_sld F M0.2.2.2.1 dL_law_29 ?_)
    refine a_bipush F dL_law_30 kb_63 ?_
    refine a_iand F dL_law_32 ?_
    refine a_tsw F [180, 203, 246, 289, 322, 385, 408, 441, 464, 497, 530, 583, 616, 659, 692, 715, 748, 781, 814, 847, 880, 913, 956, 989, 1012, 1055, 1098, 1121, 1154, 1187, 1200, 1213, 1252] 1275 dL_law_33 (by decide +kernel) (by decide +kernel) (by decide +kernel) ?_ ⟨?_, ?_, ?_, ?_, ?_, ?_, ?_, ?_, ?_, ?_, ?_, ?_, ?_, ?_, ?_, ?_, ?_, ?_, ?_, ?_, ?_, ?_, ?_, ?_, ?_, ?_, ?_, ?_, ?_, ?_, ?_, ?_, ?_, trivial⟩
    · exact b_L_1275 M0 hk18 x3 S
    · refine a_aload_n F dL_law_180 rfl rfl ?_
      refine a_aload_n F dL_law_181 rfl rfl ?_
      refine a_iload_n F dL_law_182 rfl rfl ?_
      refine a_iconst F dL_law_183 ki_1 ?_
      refine a_iadd F dL_law_184 ?_
      refine a_gd (a_sld F M0.2.2.2.1 dL_law_185 ?_)
      refine a_callVI F (As := [.int (xs (ix (x3 + (1 : Int32))))]) cfX10 rfl (c_X10_state X (xs (ix (x3 + (1 : Int32)))) S) mw_X10_state ml_L_13 im_X10_state se_X10_state M0.2.1 (Nat.le_of_ble_eq_true rfl) M0.2.2.1 rfl rfl (Nat.le_of_ble_eq_true rfl) zl_0 zk_0 dL_law_186 rfl (fun q_1 => ?_)
      refine a_aload_n F dL_law_189 rfl rfl ?_
      refine a_aload_n F dL_law_190 rfl rfl ?_
      refine a_iload_n F dL_law_191 rfl rfl ?_
      refine a_iconst F dL_law_192 ki_1 ?_
      refine a_iadd F dL_law_193 ?_
      refine a_gd (a_sld F M0.2.2.2.1 dL_law_194 ?_)
      refine a_callVI F (As := [.int (xs (ix (x3 + (1 : Int32))))]) cfX11 rfl (c_X11_state X (xs (ix (x3 + (1 : Int32)))) q_1.2) mw_X11_state ml_L_17 im_X11_state se_X11_state M0.2.1 (Nat.le_of_ble_eq_true rfl) M0.2.2.1 rfl rfl (Nat.le_of_ble_eq_true rfl) zl_239 zk_239 dL_law_195 rfl (fun q_2 => ?_)
      refine a_icmp_eq F 1275 dL_law_198 (by decide) ?_ ?_
      · exact b_L_1275 M0 hk18 x3 q_2.2
      · refine a_iconst F dL_law_201 ki_0 ?_
        exact a_none
    · refine a_aload_n F dL_law_203 rfl rfl ?_
      refine a_aload_n F dL_law_204 rfl rfl ?_
      refine a_iload_n F dL_law_205 rfl rfl ?_
      refine a_iconst F dL_law_206 ki_1 ?_
      refine a_iadd F dL_law_207 ?_
      refine a_gd (a_sld F M0.2.2.2.1 dL_law_208 ?_)
      refine a_aload_n F dL_law_209 rfl rfl ?_
      refine a_iload_n F dL_law_210 rfl rfl ?_
      refine a_iconst F dL_law_211 ki_2 ?_
      refine a_iadd F dL_law_212 ?_
      refine a_gd (a_sld F M0.2.2.2.1 dL_law_213 ?_)
      refine a_aload_n F dL_law_214 rfl rfl ?_
      refine a_iload_n F dL_law_215 rfl rfl ?_
      refine a_iconst F dL_law_216 ki_3 ?_
      refine a_iadd F dL_law_217 ?_
      refine a_gd (a_sld F M0.2.2.2.1 dL_law_218 ?_)
      refine a_callVI F (As := [.int (xs (ix (x3 + (1 : Int32)))), .int (xs (ix (x3 + (2 : Int32)))), .int (xs (ix (x3 + (3 : Int32))))]) cfX10 rfl (c_X10_person X (xs (ix (x3 + (1 : Int32)))) (xs (ix (x3 + (2 : Int32)))) (xs (ix (x3 + (3 : Int32)))) S) mw_X10_person ml_L_18 im_X10_person se_X10_person M0.2.1 (Nat.le_of_ble_eq_true rfl) M0.2.2.1 rfl rfl (Nat.le_of_ble_eq_true rfl) zl_0 zk_0 dL_law_219 rfl (fun q_3 => ?_)
      refine a_aload_n F dL_law_222 rfl rfl ?_
      refine a_aload_n F dL_law_223 rfl rfl ?_
      refine a_iload_n F dL_law_224 rfl rfl ?_
      refine a_iconst F dL_law_225 ki_1 ?_
      refine a_iadd F dL_law_226 ?_
      refine a_gd (a_sld F M0.2.2.2.1 dL_law_227 ?_)
      refine a_aload_n F dL_law_228 rfl rfl ?_
      refine a_iload_n F dL_law_229 rfl rfl ?_
      refine a_iconst F dL_law_230 ki_2 ?_
      refine a_iadd F dL_law_231 ?_
      refine a_gd (a_sld F M0.2.2.2.1 dL_law_232 ?_)
      refine a_aload_n F dL_law_233 rfl rfl ?_
      refine a_iload_n F dL_law_234 rfl rfl ?_
      refine a_iconst F dL_law_235 ki_3 ?_
      refine a_iadd F dL_law_236 ?_
      refine a_gd (a_sld F M0.2.2.2.1 dL_law_237 ?_)
      refine a_callVI F (As := [.int (xs (ix (x3 + (1 : Int32)))), .int (xs (ix (x3 + (2 : Int32)))), .int (xs (ix (x3 + (3 : Int32))))]) cfX11 rfl (c_X11_person X (xs (ix (x3 + (1 : Int32)))) (xs (ix (x3 + (2 : Int32)))) (xs (ix (x3 + (3 : Int32)))) q_3.2) mw_X11_person ml_L_22 im_X11_person se_X11_person M0.2.1 (Nat.le_of_ble_eq_true rfl) M0.2.2.1 rfl rfl (Nat.le_of_ble_eq_true rfl) zl_239 zk_239 dL_law_238 rfl (fun q_4 => ?_)
      refine a_icmp_eq F 1275 dL_law_241 (by decide) ?_ ?_
      · exact b_L_1275 M0 hk18 x3 q_4.2
      · refine a_iconst F dL_law_244 ki_0 ?_
        exact a_none
    · refine a_aload_n F dL_law_246 rfl rfl ?_
      refine a_aload_n F dL_law_247 rfl rfl ?_
      refine a_iload_n F dL_law_248 rfl rfl ?_
      refine a_iconst F dL_law_249 ki_1 ?_
      refine a_iadd F dL_law_250 ?_
      refine a_gd (a_sld F M0.2.2.2.1 dL_law_251 ?_)
      refine a_aload_n F dL_law_252 rfl rfl ?_
      refine a_iload_n F dL_law_253 rfl rfl ?_
      refine a_iconst F dL_law_254 ki_2 ?_
      refine a_iadd F dL_law_255 ?_
      refine a_gd (a_sld F M0.2.2.2.1 dL_law_256 ?_)
      refine a_aload_n F dL_law_257 rfl rfl ?_
      refine a_iload_n F dL_law_258 rfl rfl ?_
      refine a_iconst F dL_law_259 ki_3 ?_
      refine a_iadd F dL_law_260 ?_
      refine a_gd (a_sld F M0.2.2.2.1 dL_law_261 ?_)
      refine a_callVI F (As := [.int (xs (ix (x3 + (1 : Int32)))), .int (xs (ix (x3 + (2 : Int32)))), .int (xs (ix (x3 + (3 : Int32))))]) cfX10 rfl (c_X10_set X (xs (ix (x3 + (1 : Int32)))) (xs (ix (x3 + (2 : Int32)))) (xs (ix (x3 + (3 : Int32)))) S) mw_X10_set ml_L_23 im_X10_set se_X10_set M0.2.1 (Nat.le_of_ble_eq_true rfl) M0.2.2.1 rfl rfl (Nat.le_of_ble_eq_true rfl) zl_0 zk_0 dL_law_262 rfl (fun q_5 => ?_)
      refine a_aload_n F dL_law_265 rfl rfl ?_
      refine a_aload_n F dL_law_266 rfl rfl ?_
      refine a_iload_n F dL_law_267 rfl rfl ?_
      refine a_iconst F dL_law_268 ki_1 ?_
      refine a_iadd F dL_law_269 ?_
      refine a_gd (a_sld F M0.2.2.2.1 dL_law_270 ?_)
      refine a_aload_n F dL_law_271 rfl rfl ?_
      refine a_iload_n F dL_law_272 rfl rfl ?_
      refine a_iconst F dL_law_273 ki_2 ?_
      refine a_iadd F dL_law_274 ?_
      refine a_gd (a_sld F M0.2.2.2.1 dL_law_275 ?_)
      refine a_aload_n F dL_law_276 rfl rfl ?_
      refine a_iload_n F dL_law_277 rfl rfl ?_
      refine a_iconst F dL_law_278 ki_3 ?_
      refine a_iadd F dL_law_279 ?_
      refine a_gd (a_sld F M0.2.2.2.1 dL_law_280 ?_)
      refine a_callVI F (As := [.int (xs (ix (x3 + (1 : Int32)))), .int (xs (ix (x3 + (2 : Int32)))), .int (xs (ix (x3 + (3 : Int32))))]) cfX11 rfl (c_X11_set X (xs (ix (x3 + (1 : Int32)))) (xs (ix (x3 + (2 : Int32)))) (xs (ix (x3 + (3 : Int32)))) q_5.2) mw_X11_set ml_L_27 im_X11_set se_X11_set M0.2.1 (Nat.le_of_ble_eq_true rfl) M0.2.2.1 rfl rfl (Nat.le_of_ble_eq_true rfl) zl_239 zk_239 dL_law_281 rfl (fun q_6 => ?_)
      refine a_icmp_eq F 1275 dL_law_284 (by decide) ?_ ?_
      · exact b_L_1275 M0 hk18 x3 q_6.2
      · refine a_iconst F dL_law_287 ki_0 ?_
        exact a_none
    · refine a_aload_n F dL_law_289 rfl rfl ?_
      refine a_aload_n F dL_law_290 rfl rfl ?_
      refine a_iload_n F dL_law_291 rfl rfl ?_
      refine a_iconst F dL_law_292 ki_1 ?_
      refine a_iadd F dL_law_293 ?_
      refine a_gd (a_sld F M0.2.2.2.1 dL_law_294 ?_)
      refine a_aload_n F dL_law_295 rfl rfl ?_
      refine a_iload_n F dL_law_296 rfl rfl ?_
      refine a_iconst F dL_law_297 ki_2 ?_
      refine a_iadd F dL_law_298 ?_
      refine a_gd (a_sld F M0.2.2.2.1 dL_law_299 ?_)
      refine a_callVI F (As := [.int (xs (ix (x3 + (1 : Int32)))), .int (xs (ix (x3 + (2 : Int32))))]) cfX10 rfl (c_X10_own X (xs (ix (x3 + (1 : Int32)))) (xs (ix (x3 + (2 : Int32)))) S) mw_X10_own ml_L_28 im_X10_own se_X10_own M0.2.1 (Nat.le_of_ble_eq_true rfl) M0.2.2.1 rfl rfl (Nat.le_of_ble_eq_true rfl) zl_0 zk_0 dL_law_300 rfl (fun q_7 => ?_)
      refine a_aload_n F dL_law_303 rfl rfl ?_
      refine a_aload_n F dL_law_304 rfl rfl ?_
      refine a_iload_n F dL_law_305 rfl rfl ?_
      refine a_iconst F dL_law_306 ki_1 ?_
      refine a_iadd F dL_law_307 ?_
      refine a_gd (a_sld F M0.2.2.2.1 dL_law_308 ?_)
      refine a_aload_n F dL_law_309 rfl rfl ?_
      refine a_iload_n F dL_law_310 rfl rfl ?_
      refine a_iconst F dL_law_311 ki_2 ?_
      refine a_iadd F dL_law_312 ?_
      refine a_gd (a_sld F M0.2.2.2.1 dL_law_313 ?_)
      refine a_callVI F (As := [.int (xs (ix (x3 + (1 : Int32)))), .int (xs (ix (x3 + (2 : Int32))))]) cfX11 rfl (c_X11_own X (xs (ix (x3 + (1 : Int32)))) (xs (ix (x3 + (2 : Int32)))) q_7.2) mw_X11_own ml_L_32 im_X11_own se_X11_own M0.2.1 (Nat.le_of_ble_eq_true rfl) M0.2.2.1 rfl rfl (Nat.le_of_ble_eq_true rfl) zl_239 zk_239 dL_law_314 rfl (fun q_8 => ?_)
      refine a_icmp_eq F 1275 dL_law_317 (by decide) ?_ ?_
      · exact b_L_1275 M0 hk18 x3 q_8.2
      · refine a_iconst F dL_law_320 ki_0 ?_
        exact a_none
    · refine a_aload_n F dL_law_322 rfl rfl ?_
      refine a_aload_n F dL_law_323 rfl rfl ?_
      refine a_iload_n F dL_law_324 rfl rfl ?_
      refine a_iconst F dL_law_325 ki_1 ?_
      refine a_iadd F dL_law_326 ?_
      refine a_gd (a_sld F M0.2.2.2.1 dL_law_327 ?_)
      refine a_aload_n F dL_law_328 rfl rfl ?_
      refine a_iload_n F dL_law_329 rfl rfl ?_
      refine a_iconst F dL_law_330 ki_2 ?_
      refine a_iadd F dL_law_331 ?_
      refine a_gd (a_sld F M0.2.2.2.1 dL_law_332 ?_)
      refine a_aload_n F dL_law_333 rfl rfl ?_
      refine a_iload_n F dL_law_334 rfl rfl ?_
      refine a_iconst F dL_law_335 ki_3 ?_
      refine a_iadd F dL_law_336 ?_
      refine a_gd (a_sld F M0.2.2.2.1 dL_law_337 ?_)
      refine a_aload_n F dL_law_338 rfl rfl ?_
      refine a_iload_n F dL_law_339 rfl rfl ?_
      refine a_iconst F dL_law_340 ki_4 ?_
      refine a_iadd F dL_law_341 ?_
      refine a_gd (a_sld F M0.2.2.2.1 dL_law_342 ?_)
      refine a_aload_n F dL_law_343 rfl rfl ?_
      refine a_iload_n F dL_law_344 rfl rfl ?_
      refine a_iconst F dL_law_345 ki_5 ?_
      refine a_iadd F dL_law_346 ?_
      refine a_gd (a_sld F M0.2.2.2.1 dL_law_347 ?_)
      refine a_callVI F (As := [.int (xs (ix (x3 + (1 : Int32)))), .int (xs (ix (x3 + (2 : Int32)))), .int (xs (ix (x3 + (3 : Int32)))), .int (xs (ix (x3 + (4 : Int32)))), .int (xs (ix (x3 + (5 : Int32))))]) cfX10 rfl (c_X10_feed X (xs (ix (x3 + (1 : Int32)))) (xs (ix (x3 + (2 : Int32)))) (xs (ix (x3 + (3 : Int32)))) (xs (ix (x3 + (4 : Int32)))) (xs (ix (x3 + (5 : Int32)))) S) mw_X10_feed ml_L_33 im_X10_feed se_X10_feed M0.2.1 (Nat.le_of_ble_eq_true rfl) M0.2.2.1 rfl rfl (Nat.le_of_ble_eq_true rfl) zl_0 zk_0 dL_law_348 rfl (fun q_9 => ?_)
      refine a_aload_n F dL_law_351 rfl rfl ?_
      refine a_aload_n F dL_law_352 rfl rfl ?_
      refine a_iload_n F dL_law_353 rfl rfl ?_
      refine a_iconst F dL_law_354 ki_1 ?_
      refine a_iadd F dL_law_355 ?_
      refine a_gd (a_sld F M0.2.2.2.1 dL_law_356 ?_)
      refine a_aload_n F dL_law_357 rfl rfl ?_
      refine a_iload_n F dL_law_358 rfl rfl ?_
      refine a_iconst F dL_law_359 ki_2 ?_
      refine a_iadd F dL_law_360 ?_
      refine a_gd (a_sld F M0.2.2.2.1 dL_law_361 ?_)
      refine a_aload_n F dL_law_362 rfl rfl ?_
      refine a_iload_n F dL_law_363 rfl rfl ?_
      refine a_iconst F dL_law_364 ki_3 ?_
      refine a_iadd F dL_law_365 ?_
      refine a_gd (a_sld F M0.2.2.2.1 dL_law_366 ?_)
      refine a_aload_n F dL_law_367 rfl rfl ?_
      refine a_iload_n F dL_law_368 rfl rfl ?_
      refine a_iconst F dL_law_369 ki_4 ?_
      refine a_iadd F dL_law_370 ?_
      refine a_gd (a_sld F M0.2.2.2.1 dL_law_371 ?_)
      refine a_aload_n F dL_law_372 rfl rfl ?_
      refine a_iload_n F dL_law_373 rfl rfl ?_
      refine a_iconst F dL_law_374 ki_5 ?_
      refine a_iadd F dL_law_375 ?_
      refine a_gd (a_sld F M0.2.2.2.1 dL_law_376 ?_)
      refine a_callVI F (As := [.int (xs (ix (x3 + (1 : Int32)))), .int (xs (ix (x3 + (2 : Int32)))), .int (xs (ix (x3 + (3 : Int32)))), .int (xs (ix (x3 + (4 : Int32)))), .int (xs (ix (x3 + (5 : Int32))))]) cfX11 rfl (c_X11_feed X (xs (ix (x3 + (1 : Int32)))) (xs (ix (x3 + (2 : Int32)))) (xs (ix (x3 + (3 : Int32)))) (xs (ix (x3 + (4 : Int32)))) (xs (ix (x3 + (5 : Int32)))) q_9.2) mw_X11_feed ml_L_37 im_X11_feed se_X11_feed M0.2.1 (Nat.le_of_ble_eq_true rfl) M0.2.2.1 rfl rfl (Nat.le_of_ble_eq_true rfl) zl_239 zk_239 dL_law_377 rfl (fun q_10 => ?_)
      refine a_icmp_eq F 1275 dL_law_380 (by decide) ?_ ?_
      · exact b_L_1275 M0 hk18 x3 q_10.2
      · refine a_iconst F dL_law_383 ki_0 ?_
        exact a_none
    · refine a_aload_n F dL_law_385 rfl rfl ?_
      refine a_aload_n F dL_law_386 rfl rfl ?_
      refine a_iload_n F dL_law_387 rfl rfl ?_
      refine a_iconst F dL_law_388 ki_1 ?_
      refine a_iadd F dL_law_389 ?_
      refine a_gd (a_sld F M0.2.2.2.1 dL_law_390 ?_)
      refine a_callVI F (As := [.int (xs (ix (x3 + (1 : Int32))))]) cfX10 rfl (c_X10_end X (xs (ix (x3 + (1 : Int32)))) S) mw_X10_end ml_L_38 im_X10_end se_X10_end M0.2.1 (Nat.le_of_ble_eq_true rfl) M0.2.2.1 rfl rfl (Nat.le_of_ble_eq_true rfl) zl_0 zk_0 dL_law_391 rfl (fun q_11 => ?_)
      refine a_aload_n F dL_law_394 rfl rfl ?_
      refine a_aload_n F dL_law_395 rfl rfl ?_
      refine a_iload_n F dL_law_396 rfl rfl ?_
      refine a_iconst F dL_law_397 ki_1 ?_
      refine a_iadd F dL_law_398 ?_
      refine a_gd (a_sld F M0.2.2.2.1 dL_law_399 ?_)
      refine a_callVI F (As := [.int (xs (ix (x3 + (1 : Int32))))]) cfX11 rfl (c_X11_end X (xs (ix (x3 + (1 : Int32)))) q_11.2) mw_X11_end ml_L_42 im_X11_end se_X11_end M0.2.1 (Nat.le_of_ble_eq_true rfl) M0.2.2.1 rfl rfl (Nat.le_of_ble_eq_true rfl) zl_239 zk_239 dL_law_400 rfl (fun q_12 => ?_)
      refine a_icmp_eq F 1275 dL_law_403 (by decide) ?_ ?_
      · exact b_L_1275 M0 hk18 x3 q_12.2
      · refine a_iconst F dL_law_406 ki_0 ?_
        exact a_none
    · refine a_aload_n F dL_law_408 rfl rfl ?_
      refine a_aload_n F dL_law_409 rfl rfl ?_
      refine a_iload_n F dL_law_410 rfl rfl ?_
      refine a_iconst F dL_law_411 ki_1 ?_
      refine a_iadd F dL_law_412 ?_
      refine a_gd (a_sld F M0.2.2.2.1 dL_law_413 ?_)
      refine a_aload_n F dL_law_414 rfl rfl ?_
      refine a_iload_n F dL_law_415 rfl rfl ?_
      refine a_iconst F dL_law_416 ki_2 ?_
      refine a_iadd F dL_law_417 ?_
      refine a_gd (a_sld F M0.2.2.2.1 dL_law_418 ?_)
      refine a_callVI F (As := [.int (xs (ix (x3 + (1 : Int32)))), .int (xs (ix (x3 + (2 : Int32))))]) cfX10 rfl (c_X10_text X (xs (ix (x3 + (1 : Int32)))) (xs (ix (x3 + (2 : Int32)))) S) mw_X10_text ml_L_43 im_X10_text se_X10_text M0.2.1 (Nat.le_of_ble_eq_true rfl) M0.2.2.1 rfl rfl (Nat.le_of_ble_eq_true rfl) zl_0 zk_0 dL_law_419 rfl (fun q_13 => ?_)
      refine a_aload_n F dL_law_422 rfl rfl ?_
      refine a_aload_n F dL_law_423 rfl rfl ?_
      refine a_iload_n F dL_law_424 rfl rfl ?_
      refine a_iconst F dL_law_425 ki_1 ?_
      refine a_iadd F dL_law_426 ?_
      refine a_gd (a_sld F M0.2.2.2.1 dL_law_427 ?_)
      refine a_aload_n F dL_law_428 rfl rfl ?_
      refine a_iload_n F dL_law_429 rfl rfl ?_
      refine a_iconst F dL_law_430 ki_2 ?_
      refine a_iadd F dL_law_431 ?_
      refine a_gd (a_sld F M0.2.2.2.1 dL_law_432 ?_)
      refine a_callVI F (As := [.int (xs (ix (x3 + (1 : Int32)))), .int (xs (ix (x3 + (2 : Int32))))]) cfX11 rfl (c_X11_text X (xs (ix (x3 + (1 : Int32)))) (xs (ix (x3 + (2 : Int32)))) q_13.2) mw_X11_text ml_L_47 im_X11_text se_X11_text M0.2.1 (Nat.le_of_ble_eq_true rfl) M0.2.2.1 rfl rfl (Nat.le_of_ble_eq_true rfl) zl_239 zk_239 dL_law_433 rfl (fun q_14 => ?_)
      refine a_icmp_eq F 1275 dL_law_436 (by decide) ?_ ?_
      · exact b_L_1275 M0 hk18 x3 q_14.2
      · refine a_iconst F dL_law_439 ki_0 ?_
        exact a_none
    · refine a_aload_n F dL_law_441 rfl rfl ?_
      refine a_aload_n F dL_law_442 rfl rfl ?_
      refine a_iload_n F dL_law_443 rfl rfl ?_
      refine a_iconst F dL_law_444 ki_1 ?_
      refine a_iadd F dL_law_445 ?_
      refine a_gd (a_sld F M0.2.2.2.1 dL_law_446 ?_)
      refine a_callVI F (As := [.int (xs (ix (x3 + (1 : Int32))))]) cfX10 rfl (c_X10_fault X (xs (ix (x3 + (1 : Int32)))) S) mw_X10_fault ml_L_48 im_X10_fault se_X10_fault M0.2.1 (Nat.le_of_ble_eq_true rfl) M0.2.2.1 rfl rfl (Nat.le_of_ble_eq_true rfl) zl_0 zk_0 dL_law_447 rfl (fun q_15 => ?_)
      refine a_aload_n F dL_law_450 rfl rfl ?_
      refine a_aload_n F dL_law_451 rfl rfl ?_
      refine a_iload_n F dL_law_452 rfl rfl ?_
      refine a_iconst F dL_law_453 ki_1 ?_
      refine a_iadd F dL_law_454 ?_
      refine a_gd (a_sld F M0.2.2.2.1 dL_law_455 ?_)
      refine a_callVI F (As := [.int (xs (ix (x3 + (1 : Int32))))]) cfX11 rfl (c_X11_fault X (xs (ix (x3 + (1 : Int32)))) q_15.2) mw_X11_fault ml_L_51 im_X11_fault se_X11_fault M0.2.1 (Nat.le_of_ble_eq_true rfl) M0.2.2.1 rfl rfl (Nat.le_of_ble_eq_true rfl) zl_239 zk_239 dL_law_456 rfl (fun q_16 => ?_)
      refine a_icmp_eq F 1275 dL_law_459 (by decide) ?_ ?_
      · exact b_L_1275 M0 hk18 x3 q_16.2
      · refine a_iconst F dL_law_462 ki_0 ?_
        exact a_none
    · refine a_aload_n F dL_law_464 rfl rfl ?_
      refine a_aload_n F dL_law_465 rfl rfl ?_
      refine a_iload_n F dL_law_466 rfl rfl ?_
      refine a_iconst F dL_law_467 ki_1 ?_
      refine a_iadd F dL_law_468 ?_
      refine a_gd (a_sld F M0.2.2.2.1 dL_law_469 ?_)
      refine a_aload_n F dL_law_470 rfl rfl ?_
      refine a_iload_n F dL_law_471 rfl rfl ?_
      refine a_iconst F dL_law_472 ki_2 ?_
      refine a_iadd F dL_law_473 ?_
      refine a_gd (a_sld F M0.2.2.2.1 dL_law_474 ?_)
      refine a_callVI F (As := [.int (xs (ix (x3 + (1 : Int32)))), .int (xs (ix (x3 + (2 : Int32))))]) cfX10 rfl (c_X10_wed X (xs (ix (x3 + (1 : Int32)))) (xs (ix (x3 + (2 : Int32)))) S) mw_X10_wed ml_L_52 im_X10_wed se_X10_wed M0.2.1 (Nat.le_of_ble_eq_true rfl) M0.2.2.1 rfl rfl (Nat.le_of_ble_eq_true rfl) zl_0 zk_0 dL_law_475 rfl (fun q_17 => ?_)
      refine a_aload_n F dL_law_478 rfl rfl ?_
      refine a_aload_n F dL_law_479 rfl rfl ?_
      refine a_iload_n F dL_law_480 rfl rfl ?_
      refine a_iconst F dL_law_481 ki_1 ?_
      refine a_iadd F dL_law_482 ?_
      refine a_gd (a_sld F M0.2.2.2.1 dL_law_483 ?_)
      refine a_aload_n F dL_law_484 rfl rfl ?_
      refine a_iload_n F dL_law_485 rfl rfl ?_
      refine a_iconst F dL_law_486 ki_2 ?_
      refine a_iadd F dL_law_487 ?_
      refine a_gd (a_sld F M0.2.2.2.1 dL_law_488 ?_)
      refine a_callVI F (As := [.int (xs (ix (x3 + (1 : Int32)))), .int (xs (ix (x3 + (2 : Int32))))]) cfX11 rfl (c_X11_wed X (xs (ix (x3 + (1 : Int32)))) (xs (ix (x3 + (2 : Int32)))) q_17.2) mw_X11_wed ml_L_55 im_X11_wed se_X11_wed M0.2.1 (Nat.le_of_ble_eq_true rfl) M0.2.2.1 rfl rfl (Nat.le_of_ble_eq_true rfl) zl_239 zk_239 dL_law_489 rfl (fun q_18 => ?_)
      refine a_icmp_eq F 1275 dL_law_492 (by decide) ?_ ?_
      · exact b_L_1275 M0 hk18 x3 q_18.2
      · refine a_iconst F dL_law_495 ki_0 ?_
        exact a_none
    · refine a_aload_n F dL_law_497 rfl rfl ?_
      refine a_aload_n F dL_law_498 rfl rfl ?_
      refine a_iload_n F dL_law_499 rfl rfl ?_
      refine a_iconst F dL_law_500 ki_1 ?_
      refine a_iadd F dL_law_501 ?_
      refine a_gd (a_sld F M0.2.2.2.1 dL_law_502 ?_)
      refine a_aload_n F dL_law_503 rfl rfl ?_
      refine a_iload_n F dL_law_504 rfl rfl ?_
      refine a_iconst F dL_law_505 ki_2 ?_
      refine a_iadd F dL_law_506 ?_
      refine a_gd (a_sld F M0.2.2.2.1 dL_law_507 ?_)
      refine a_callVI F (As := [.int (xs (ix (x3 + (1 : Int32)))), .int (xs (ix (x3 + (2 : Int32))))]) cfX10 rfl (c_X10_part X (xs (ix (x3 + (1 : Int32)))) (xs (ix (x3 + (2 : Int32)))) S) mw_X10_part ml_L_56 im_X10_part se_X10_part M0.2.1 (Nat.le_of_ble_eq_true rfl) M0.2.2.1 rfl rfl (Nat.le_of_ble_eq_true rfl) zl_0 zk_0 dL_law_508 rfl (fun q_19 => ?_)
      refine a_aload_n F dL_law_511 rfl rfl ?_
      refine a_aload_n F dL_law_512 rfl rfl ?_
      refine a_iload_n F dL_law_513 rfl rfl ?_
      refine a_iconst F dL_law_514 ki_1 ?_
      refine a_iadd F dL_law_515 ?_
      refine a_gd (a_sld F M0.2.2.2.1 dL_law_516 ?_)
      refine a_aload_n F dL_law_517 rfl rfl ?_
      refine a_iload_n F dL_law_518 rfl rfl ?_
      refine a_iconst F dL_law_519 ki_2 ?_
      refine a_iadd F dL_law_520 ?_
      refine a_gd (a_sld F M0.2.2.2.1 dL_law_521 ?_)
      refine a_callVI F (As := [.int (xs (ix (x3 + (1 : Int32)))), .int (xs (ix (x3 + (2 : Int32))))]) cfX11 rfl (c_X11_part X (xs (ix (x3 + (1 : Int32)))) (xs (ix (x3 + (2 : Int32)))) q_19.2) mw_X11_part ml_L_59 im_X11_part se_X11_part M0.2.1 (Nat.le_of_ble_eq_true rfl) M0.2.2.1 rfl rfl (Nat.le_of_ble_eq_true rfl) zl_239 zk_239 dL_law_522 rfl (fun q_20 => ?_)
      refine a_icmp_eq F 1275 dL_law_525 (by decide) ?_ ?_
      · exact b_L_1275 M0 hk18 x3 q_20.2
      · refine a_iconst F dL_law_528 ki_0 ?_
        exact a_none
    · refine a_aload_n F dL_law_530 rfl rfl ?_
      refine a_aload_n F dL_law_531 rfl rfl ?_
      refine a_iload_n F dL_law_532 rfl rfl ?_
      refine a_iconst F dL_law_533 ki_1 ?_
      refine a_iadd F dL_law_534 ?_
      refine a_gd (a_sld F M0.2.2.2.1 dL_law_535 ?_)
      refine a_aload_n F dL_law_536 rfl rfl ?_
      refine a_iload_n F dL_law_537 rfl rfl ?_
      refine a_iconst F dL_law_538 ki_2 ?_
      refine a_iadd F dL_law_539 ?_
      refine a_gd (a_sld F M0.2.2.2.1 dL_law_540 ?_)
      refine a_aload_n F dL_law_541 rfl rfl ?_
      refine a_iload_n F dL_law_542 rfl rfl ?_
      refine a_iconst F dL_law_543 ki_3 ?_
      refine a_iadd F dL_law_544 ?_
      refine a_gd (a_sld F M0.2.2.2.1 dL_law_545 ?_)
      refine a_aload_n F dL_law_546 rfl rfl ?_
      refine a_iload_n F dL_law_547 rfl rfl ?_
      refine a_iconst F dL_law_548 ki_4 ?_
      refine a_iadd F dL_law_549 ?_
      refine a_gd (a_sld F M0.2.2.2.1 dL_law_550 ?_)
      refine a_callVI F (As := [.int (xs (ix (x3 + (1 : Int32)))), .int (xs (ix (x3 + (2 : Int32)))), .int (xs (ix (x3 + (3 : Int32)))), .int (xs (ix (x3 + (4 : Int32))))]) cfX10 rfl (c_X10_lend X (xs (ix (x3 + (1 : Int32)))) (xs (ix (x3 + (2 : Int32)))) (xs (ix (x3 + (3 : Int32)))) (xs (ix (x3 + (4 : Int32)))) S) mw_X10_lend ml_L_60 im_X10_lend se_X10_lend M0.2.1 (Nat.le_of_ble_eq_true rfl) M0.2.2.1 rfl rfl (Nat.le_of_ble_eq_true rfl) zl_0 zk_0 dL_law_551 rfl (fun q_21 => ?_)
      refine a_aload_n F dL_law_554 rfl rfl ?_
      refine a_aload_n F dL_law_555 rfl rfl ?_
      refine a_iload_n F dL_law_556 rfl rfl ?_
      refine a_iconst F dL_law_557 ki_1 ?_
      refine a_iadd F dL_law_558 ?_
      refine a_gd (a_sld F M0.2.2.2.1 dL_law_559 ?_)
      refine a_aload_n F dL_law_560 rfl rfl ?_
      refine a_iload_n F dL_law_561 rfl rfl ?_
      refine a_iconst F dL_law_562 ki_2 ?_
      refine a_iadd F dL_law_563 ?_
      refine a_gd (a_sld F M0.2.2.2.1 dL_law_564 ?_)
      refine a_aload_n F dL_law_565 rfl rfl ?_
      refine a_iload_n F dL_law_566 rfl rfl ?_
      refine a_iconst F dL_law_567 ki_3 ?_
      refine a_iadd F dL_law_568 ?_
      refine a_gd (a_sld F M0.2.2.2.1 dL_law_569 ?_)
      refine a_aload_n F dL_law_570 rfl rfl ?_
      refine a_iload_n F dL_law_571 rfl rfl ?_
      refine a_iconst F dL_law_572 ki_4 ?_
      refine a_iadd F dL_law_573 ?_
      refine a_gd (a_sld F M0.2.2.2.1 dL_law_574 ?_)
      refine a_callVI F (As := [.int (xs (ix (x3 + (1 : Int32)))), .int (xs (ix (x3 + (2 : Int32)))), .int (xs (ix (x3 + (3 : Int32)))), .int (xs (ix (x3 + (4 : Int32))))]) cfX11 rfl (c_X11_lend X (xs (ix (x3 + (1 : Int32)))) (xs (ix (x3 + (2 : Int32)))) (xs (ix (x3 + (3 : Int32)))) (xs (ix (x3 + (4 : Int32)))) q_21.2) mw_X11_lend ml_L_64 im_X11_lend se_X11_lend M0.2.1 (Nat.le_of_ble_eq_true rfl) M0.2.2.1 rfl rfl (Nat.le_of_ble_eq_true rfl) zl_239 zk_239 dL_law_575 rfl (fun q_22 => ?_)
      refine a_icmp_eq F 1275 dL_law_578 (by decide) ?_ ?_
      · exact b_L_1275 M0 hk18 x3 q_22.2
      · refine a_iconst F dL_law_581 ki_0 ?_
        exact a_none
    · refine a_aload_n F dL_law_583 rfl rfl ?_
      refine a_aload_n F dL_law_584 rfl rfl ?_
      refine a_iload_n F dL_law_585 rfl rfl ?_
      refine a_iconst F dL_law_586 ki_1 ?_
      refine a_iadd F dL_law_587 ?_
      refine a_gd (a_sld F M0.2.2.2.1 dL_law_588 ?_)
      refine a_aload_n F dL_law_589 rfl rfl ?_
      refine a_iload_n F dL_law_590 rfl rfl ?_
      refine a_iconst F dL_law_591 ki_2 ?_
      refine a_iadd F dL_law_592 ?_
      refine a_gd (a_sld F M0.2.2.2.1 dL_law_593 ?_)
      refine a_callVI F (As := [.int (xs (ix (x3 + (1 : Int32)))), .int (xs (ix (x3 + (2 : Int32))))]) cfX10 rfl (c_X10_give X (xs (ix (x3 + (1 : Int32)))) (xs (ix (x3 + (2 : Int32)))) S) mw_X10_give ml_L_65 im_X10_give se_X10_give M0.2.1 (Nat.le_of_ble_eq_true rfl) M0.2.2.1 rfl rfl (Nat.le_of_ble_eq_true rfl) zl_0 zk_0 dL_law_594 rfl (fun q_23 => ?_)
      refine a_aload_n F dL_law_597 rfl rfl ?_
      refine a_aload_n F dL_law_598 rfl rfl ?_
      refine a_iload_n F dL_law_599 rfl rfl ?_
      refine a_iconst F dL_law_600 ki_1 ?_
      refine a_iadd F dL_law_601 ?_
      refine a_gd (a_sld F M0.2.2.2.1 dL_law_602 ?_)
      refine a_aload_n F dL_law_603 rfl rfl ?_
      refine a_iload_n F dL_law_604 rfl rfl ?_
      refine a_iconst F dL_law_605 ki_2 ?_
      refine a_iadd F dL_law_606 ?_
      refine a_gd (a_sld F M0.2.2.2.1 dL_law_607 ?_)
      refine a_callVI F (As := [.int (xs (ix (x3 + (1 : Int32)))), .int (xs (ix (x3 + (2 : Int32))))]) cfX11 rfl (c_X11_give X (xs (ix (x3 + (1 : Int32)))) (xs (ix (x3 + (2 : Int32)))) q_23.2) mw_X11_give ml_L_68 im_X11_give se_X11_give M0.2.1 (Nat.le_of_ble_eq_true rfl) M0.2.2.1 rfl rfl (Nat.le_of_ble_eq_true rfl) zl_239 zk_239 dL_law_608 rfl (fun q_24 => ?_)
      refine a_icmp_eq F 1275 dL_law_611 (by decide) ?_ ?_
      · exact b_L_1275 M0 hk18 x3 q_24.2
      · refine a_iconst F dL_law_614 ki_0 ?_
        exact a_none
    · refine a_aload_n F dL_law_616 rfl rfl ?_
      refine a_aload_n F dL_law_617 rfl rfl ?_
      refine a_iload_n F dL_law_618 rfl rfl ?_
      refine a_iconst F dL_law_619 ki_1 ?_
      refine a_iadd F dL_law_620 ?_
      refine a_gd (a_sld F M0.2.2.2.1 dL_law_621 ?_)
      refine a_aload_n F dL_law_622 rfl rfl ?_
      refine a_iload_n F dL_law_623 rfl rfl ?_
      refine a_iconst F dL_law_624 ki_2 ?_
      refine a_iadd F dL_law_625 ?_
      refine a_gd (a_sld F M0.2.2.2.1 dL_law_626 ?_)
      refine a_aload_n F dL_law_627 rfl rfl ?_
      refine a_iload_n F dL_law_628 rfl rfl ?_
      refine a_iconst F dL_law_629 ki_3 ?_
      refine a_iadd F dL_law_630 ?_
      refine a_gd (a_sld F M0.2.2.2.1 dL_law_631 ?_)
      refine a_callVI F (As := [.int (xs (ix (x3 + (1 : Int32)))), .int (xs (ix (x3 + (2 : Int32)))), .int (xs (ix (x3 + (3 : Int32))))]) cfX10 rfl (c_X10_duel X (xs (ix (x3 + (1 : Int32)))) (xs (ix (x3 + (2 : Int32)))) (xs (ix (x3 + (3 : Int32)))) S) mw_X10_duel ml_L_69 im_X10_duel se_X10_duel M0.2.1 (Nat.le_of_ble_eq_true rfl) M0.2.2.1 rfl rfl (Nat.le_of_ble_eq_true rfl) zl_0 zk_0 dL_law_632 rfl (fun q_25 => ?_)
      refine a_aload_n F dL_law_635 rfl rfl ?_
      refine a_aload_n F dL_law_636 rfl rfl ?_
      refine a_iload_n F dL_law_637 rfl rfl ?_
      refine a_iconst F dL_law_638 ki_1 ?_
      refine a_iadd F dL_law_639 ?_
      refine a_gd (a_sld F M0.2.2.2.1 dL_law_640 ?_)
      refine a_aload_n F dL_law_641 rfl rfl ?_
      refine a_iload_n F dL_law_642 rfl rfl ?_
      refine a_iconst F dL_law_643 ki_2 ?_
      refine a_iadd F dL_law_644 ?_
      refine a_gd (a_sld F M0.2.2.2.1 dL_law_645 ?_)
      refine a_aload_n F dL_law_646 rfl rfl ?_
      refine a_iload_n F dL_law_647 rfl rfl ?_
      refine a_iconst F dL_law_648 ki_3 ?_
      refine a_iadd F dL_law_649 ?_
      refine a_gd (a_sld F M0.2.2.2.1 dL_law_650 ?_)
      refine a_callVI F (As := [.int (xs (ix (x3 + (1 : Int32)))), .int (xs (ix (x3 + (2 : Int32)))), .int (xs (ix (x3 + (3 : Int32))))]) cfX11 rfl (c_X11_duel X (xs (ix (x3 + (1 : Int32)))) (xs (ix (x3 + (2 : Int32)))) (xs (ix (x3 + (3 : Int32)))) q_25.2) mw_X11_duel ml_L_72 im_X11_duel se_X11_duel M0.2.1 (Nat.le_of_ble_eq_true rfl) M0.2.2.1 rfl rfl (Nat.le_of_ble_eq_true rfl) zl_239 zk_239 dL_law_651 rfl (fun q_26 => ?_)
      refine a_icmp_eq F 1275 dL_law_654 (by decide) ?_ ?_
      · exact b_L_1275 M0 hk18 x3 q_26.2
      · refine a_iconst F dL_law_657 ki_0 ?_
        exact a_none
    · refine a_aload_n F dL_law_659 rfl rfl ?_
      refine a_aload_n F dL_law_660 rfl rfl ?_
      refine a_iload_n F dL_law_661 rfl rfl ?_
      refine a_iconst F dL_law_662 ki_1 ?_
      refine a_iadd F dL_law_663 ?_
      refine a_gd (a_sld F M0.2.2.2.1 dL_law_664 ?_)
      refine a_aload_n F dL_law_665 rfl rfl ?_
      refine a_iload_n F dL_law_666 rfl rfl ?_
      refine a_iconst F dL_law_667 ki_2 ?_
      refine a_iadd F dL_law_668 ?_
      refine a_gd (a_sld F M0.2.2.2.1 dL_law_669 ?_)
      refine a_callVI F (As := [.int (xs (ix (x3 + (1 : Int32)))), .int (xs (ix (x3 + (2 : Int32))))]) cfX10 rfl (c_X10_sign X (xs (ix (x3 + (1 : Int32)))) (xs (ix (x3 + (2 : Int32)))) S) mw_X10_sign ml_L_73 im_X10_sign se_X10_sign M0.2.1 (Nat.le_of_ble_eq_true rfl) M0.2.2.1 rfl rfl (Nat.le_of_ble_eq_true rfl) zl_0 zk_0 dL_law_670 rfl (fun q_27 => ?_)
      refine a_aload_n F dL_law_673 rfl rfl ?_
      refine a_aload_n F dL_law_674 rfl rfl ?_
      refine a_iload_n F dL_law_675 rfl rfl ?_
      refine a_iconst F dL_law_676 ki_1 ?_
      refine a_iadd F dL_law_677 ?_
      refine a_gd (a_sld F M0.2.2.2.1 dL_law_678 ?_)
      refine a_aload_n F dL_law_679 rfl rfl ?_
      refine a_iload_n F dL_law_680 rfl rfl ?_
      refine a_iconst F dL_law_681 ki_2 ?_
      refine a_iadd F dL_law_682 ?_
      refine a_gd (a_sld F M0.2.2.2.1 dL_law_683 ?_)
      refine a_callVI F (As := [.int (xs (ix (x3 + (1 : Int32)))), .int (xs (ix (x3 + (2 : Int32))))]) cfX11 rfl (c_X11_sign X (xs (ix (x3 + (1 : Int32)))) (xs (ix (x3 + (2 : Int32)))) q_27.2) mw_X11_sign ml_L_76 im_X11_sign se_X11_sign M0.2.1 (Nat.le_of_ble_eq_true rfl) M0.2.2.1 rfl rfl (Nat.le_of_ble_eq_true rfl) zl_239 zk_239 dL_law_684 rfl (fun q_28 => ?_)
      refine a_icmp_eq F 1275 dL_law_687 (by decide) ?_ ?_
      · exact b_L_1275 M0 hk18 x3 q_28.2
      · refine a_iconst F dL_law_690 ki_0 ?_
        exact a_none
    · refine a_aload_n F dL_law_692 rfl rfl ?_
      refine a_aload_n F dL_law_693 rfl rfl ?_
      refine a_iload_n F dL_law_694 rfl rfl ?_
      refine a_iconst F dL_law_695 ki_1 ?_
      refine a_iadd F dL_law_696 ?_
      refine a_gd (a_sld F M0.2.2.2.1 dL_law_697 ?_)
      refine a_callVI F (As := [.int (xs (ix (x3 + (1 : Int32))))]) cfX10 rfl (c_X10_days X (xs (ix (x3 + (1 : Int32)))) S) mw_X10_days ml_L_77 im_X10_days se_X10_days M0.2.1 (Nat.le_of_ble_eq_true rfl) M0.2.2.1 rfl rfl (Nat.le_of_ble_eq_true rfl) zl_0 zk_0 dL_law_698 rfl (fun q_29 => ?_)
      refine a_aload_n F dL_law_701 rfl rfl ?_
      refine a_aload_n F dL_law_702 rfl rfl ?_
      refine a_iload_n F dL_law_703 rfl rfl ?_
      refine a_iconst F dL_law_704 ki_1 ?_
      refine a_iadd F dL_law_705 ?_
      refine a_gd (a_sld F M0.2.2.2.1 dL_law_706 ?_)
      refine a_callVI F (As := [.int (xs (ix (x3 + (1 : Int32))))]) cfX11 rfl (c_X11_days X (xs (ix (x3 + (1 : Int32)))) q_29.2) mw_X11_days ml_L_80 im_X11_days se_X11_days M0.2.1 (Nat.le_of_ble_eq_true rfl) M0.2.2.1 rfl rfl (Nat.le_of_ble_eq_true rfl) zl_239 zk_239 dL_law_707 rfl (fun q_30 => ?_)
      refine a_icmp_eq F 1275 dL_law_710 (by decide) ?_ ?_
      · exact b_L_1275 M0 hk18 x3 q_30.2
      · refine a_iconst F dL_law_713 ki_0 ?_
        exact a_none
    · refine a_aload_n F dL_law_715 rfl rfl ?_
      refine a_aload_n F dL_law_716 rfl rfl ?_
      refine a_iload_n F dL_law_717 rfl rfl ?_
      refine a_iconst F dL_law_718 ki_1 ?_
      refine a_iadd F dL_law_719 ?_
      refine a_gd (a_sld F M0.2.2.2.1 dL_law_720 ?_)
      refine a_aload_n F dL_law_721 rfl rfl ?_
      refine a_iload_n F dL_law_722 rfl rfl ?_
      refine a_iconst F dL_law_723 ki_2 ?_
      refine a_iadd F dL_law_724 ?_
      refine a_gd (a_sld F M0.2.2.2.1 dL_law_725 ?_)
      refine a_callVI F (As := [.int (xs (ix (x3 + (1 : Int32)))), .int (xs (ix (x3 + (2 : Int32))))]) cfX10 rfl (c_X10_of X (xs (ix (x3 + (1 : Int32)))) (xs (ix (x3 + (2 : Int32)))) S) mw_X10_of ml_L_81 im_X10_of se_X10_of M0.2.1 (Nat.le_of_ble_eq_true rfl) M0.2.2.1 rfl rfl (Nat.le_of_ble_eq_true rfl) zl_0 zk_0 dL_law_726 rfl (fun q_31 => ?_)
      refine a_aload_n F dL_law_729 rfl rfl ?_
      refine a_aload_n F dL_law_730 rfl rfl ?_
      refine a_iload_n F dL_law_731 rfl rfl ?_
      refine a_iconst F dL_law_732 ki_1 ?_
      refine a_iadd F dL_law_733 ?_
      refine a_gd (a_sld F M0.2.2.2.1 dL_law_734 ?_)
      refine a_aload_n F dL_law_735 rfl rfl ?_
      refine a_iload_n F dL_law_736 rfl rfl ?_
      refine a_iconst F dL_law_737 ki_2 ?_
      refine a_iadd F dL_law_738 ?_
      refine a_gd (a_sld F M0.2.2.2.1 dL_law_739 ?_)
      refine a_callVI F (As := [.int (xs (ix (x3 + (1 : Int32)))), .int (xs (ix (x3 + (2 : Int32))))]) cfX11 rfl (c_X11_of X (xs (ix (x3 + (1 : Int32)))) (xs (ix (x3 + (2 : Int32)))) q_31.2) mw_X11_of ml_L_84 im_X11_of se_X11_of M0.2.1 (Nat.le_of_ble_eq_true rfl) M0.2.2.1 rfl rfl (Nat.le_of_ble_eq_true rfl) zl_239 zk_239 dL_law_740 rfl (fun q_32 => ?_)
      refine a_icmp_eq F 1275 dL_law_743 (by decide) ?_ ?_
      · exact b_L_1275 M0 hk18 x3 q_32.2
      · refine a_iconst F dL_law_746 ki_0 ?_
        exact a_none
    · refine a_aload_n F dL_law_748 rfl rfl ?_
      refine a_aload_n F dL_law_749 rfl rfl ?_
      refine a_iload_n F dL_law_750 rfl rfl ?_
      refine a_iconst F dL_law_751 ki_1 ?_
      refine a_iadd F dL_law_752 ?_
      refine a_gd (a_sld F M0.2.2.2.1 dL_law_753 ?_)
      refine a_aload_n F dL_law_754 rfl rfl ?_
      refine a_iload_n F dL_law_755 rfl rfl ?_
      refine a_iconst F dL_law_756 ki_2 ?_
      refine a_iadd F dL_law_757 ?_
      refine a_gd (a_sld F M0.2.2.2.1 dL_law_758 ?_)
      refine a_callVI F (As := [.int (xs (ix (x3 + (1 : Int32)))), .int (xs (ix (x3 + (2 : Int32))))]) cfX10 rfl (c_X10_kin X (xs (ix (x3 + (1 : Int32)))) (xs (ix (x3 + (2 : Int32)))) S) mw_X10_kin ml_L_85 im_X10_kin se_X10_kin M0.2.1 (Nat.le_of_ble_eq_true rfl) M0.2.2.1 rfl rfl (Nat.le_of_ble_eq_true rfl) zl_0 zk_0 dL_law_759 rfl (fun q_33 => ?_)
      refine a_aload_n F dL_law_762 rfl rfl ?_
      refine a_aload_n F dL_law_763 rfl rfl ?_
      refine a_iload_n F dL_law_764 rfl rfl ?_
      refine a_iconst F dL_law_765 ki_1 ?_
      refine a_iadd F dL_law_766 ?_
      refine a_gd (a_sld F M0.2.2.2.1 dL_law_767 ?_)
      refine a_aload_n F dL_law_768 rfl rfl ?_
      refine a_iload_n F dL_law_769 rfl rfl ?_
      refine a_iconst F dL_law_770 ki_2 ?_
      refine a_iadd F dL_law_771 ?_
      refine a_gd (a_sld F M0.2.2.2.1 dL_law_772 ?_)
      refine a_callVI F (As := [.int (xs (ix (x3 + (1 : Int32)))), .int (xs (ix (x3 + (2 : Int32))))]) cfX11 rfl (c_X11_kin X (xs (ix (x3 + (1 : Int32)))) (xs (ix (x3 + (2 : Int32)))) q_33.2) mw_X11_kin ml_L_88 im_X11_kin se_X11_kin M0.2.1 (Nat.le_of_ble_eq_true rfl) M0.2.2.1 rfl rfl (Nat.le_of_ble_eq_true rfl) zl_239 zk_239 dL_law_773 rfl (fun q_34 => ?_)
      refine a_icmp_eq F 1275 dL_law_776 (by decide) ?_ ?_
      · exact b_L_1275 M0 hk18 x3 q_34.2
      · refine a_iconst F dL_law_779 ki_0 ?_
        exact a_none
    · refine a_aload_n F dL_law_781 rfl rfl ?_
      refine a_aload_n F dL_law_782 rfl rfl ?_
      refine a_iload_n F dL_law_783 rfl rfl ?_
      refine a_iconst F dL_law_784 ki_1 ?_
      refine a_iadd F dL_law_785 ?_
      refine a_gd (a_sld F M0.2.2.2.1 dL_law_786 ?_)
      refine a_aload_n F dL_law_787 rfl rfl ?_
      refine a_iload_n F dL_law_788 rfl rfl ?_
      refine a_iconst F dL_law_789 ki_2 ?_
      refine a_iadd F dL_law_790 ?_
      refine a_gd (a_sld F M0.2.2.2.1 dL_law_791 ?_)
      refine a_callVI F (As := [.int (xs (ix (x3 + (1 : Int32)))), .int (xs (ix (x3 + (2 : Int32))))]) cfX10 rfl (c_X10_letter X (xs (ix (x3 + (1 : Int32)))) (xs (ix (x3 + (2 : Int32)))) S) mw_X10_letter ml_L_89 im_X10_letter se_X10_letter M0.2.1 (Nat.le_of_ble_eq_true rfl) M0.2.2.1 rfl rfl (Nat.le_of_ble_eq_true rfl) zl_0 zk_0 dL_law_792 rfl (fun q_35 => ?_)
      refine a_aload_n F dL_law_795 rfl rfl ?_
      refine a_aload_n F dL_law_796 rfl rfl ?_
      refine a_iload_n F dL_law_797 rfl rfl ?_
      refine a_iconst F dL_law_798 ki_1 ?_
      refine a_iadd F dL_law_799 ?_
      refine a_gd (a_sld F M0.2.2.2.1 dL_law_800 ?_)
      refine a_aload_n F dL_law_801 rfl rfl ?_
      refine a_iload_n F dL_law_802 rfl rfl ?_
      refine a_iconst F dL_law_803 ki_2 ?_
      refine a_iadd F dL_law_804 ?_
      refine a_gd (a_sld F M0.2.2.2.1 dL_law_805 ?_)
      refine a_callVI F (As := [.int (xs (ix (x3 + (1 : Int32)))), .int (xs (ix (x3 + (2 : Int32))))]) cfX11 rfl (c_X11_letter X (xs (ix (x3 + (1 : Int32)))) (xs (ix (x3 + (2 : Int32)))) q_35.2) mw_X11_letter ml_L_92 im_X11_letter se_X11_letter M0.2.1 (Nat.le_of_ble_eq_true rfl) M0.2.2.1 rfl rfl (Nat.le_of_ble_eq_true rfl) zl_239 zk_239 dL_law_806 rfl (fun q_36 => ?_)
      refine a_icmp_eq F 1275 dL_law_809 (by decide) ?_ ?_
      · exact b_L_1275 M0 hk18 x3 q_36.2
      · refine a_iconst F dL_law_812 ki_0 ?_
        exact a_none
    · refine a_aload_n F dL_law_814 rfl rfl ?_
      refine a_aload_n F dL_law_815 rfl rfl ?_
      refine a_iload_n F dL_law_816 rfl rfl ?_
      refine a_iconst F dL_law_817 ki_1 ?_
      refine a_iadd F dL_law_818 ?_
      refine a_gd (a_sld F M0.2.2.2.1 dL_law_819 ?_)
      refine a_aload_n F dL_law_820 rfl rfl ?_
      refine a_iload_n F dL_law_821 rfl rfl ?_
      refine a_iconst F dL_law_822 ki_2 ?_
      refine a_iadd F dL_law_823 ?_
      refine a_gd (a_sld F M0.2.2.2.1 dL_law_824 ?_)
      refine a_callVI F (As := [.int (xs (ix (x3 + (1 : Int32)))), .int (xs (ix (x3 + (2 : Int32))))]) cfX10 rfl (c_X10_deed X (xs (ix (x3 + (1 : Int32)))) (xs (ix (x3 + (2 : Int32)))) S) mw_X10_deed ml_L_93 im_X10_deed se_X10_deed M0.2.1 (Nat.le_of_ble_eq_true rfl) M0.2.2.1 rfl rfl (Nat.le_of_ble_eq_true rfl) zl_0 zk_0 dL_law_825 rfl (fun q_37 => ?_)
      refine a_aload_n F dL_law_828 rfl rfl ?_
      refine a_aload_n F dL_law_829 rfl rfl ?_
      refine a_iload_n F dL_law_830 rfl rfl ?_
      refine a_iconst F dL_law_831 ki_1 ?_
      refine a_iadd F dL_law_832 ?_
      refine a_gd (a_sld F M0.2.2.2.1 dL_law_833 ?_)
      refine a_aload_n F dL_law_834 rfl rfl ?_
      refine a_iload_n F dL_law_835 rfl rfl ?_
      refine a_iconst F dL_law_836 ki_2 ?_
      refine a_iadd F dL_law_837 ?_
      refine a_gd (a_sld F M0.2.2.2.1 dL_law_838 ?_)
      refine a_callVI F (As := [.int (xs (ix (x3 + (1 : Int32)))), .int (xs (ix (x3 + (2 : Int32))))]) cfX11 rfl (c_X11_deed X (xs (ix (x3 + (1 : Int32)))) (xs (ix (x3 + (2 : Int32)))) q_37.2) mw_X11_deed ml_L_96 im_X11_deed se_X11_deed M0.2.1 (Nat.le_of_ble_eq_true rfl) M0.2.2.1 rfl rfl (Nat.le_of_ble_eq_true rfl) zl_239 zk_239 dL_law_839 rfl (fun q_38 => ?_)
      refine a_icmp_eq F 1275 dL_law_842 (by decide) ?_ ?_
      · exact b_L_1275 M0 hk18 x3 q_38.2
      · refine a_iconst F dL_law_845 ki_0 ?_
        exact a_none
    · refine a_aload_n F dL_law_847 rfl rfl ?_
      refine a_aload_n F dL_law_848 rfl rfl ?_
      refine a_iload_n F dL_law_849 rfl rfl ?_
      refine a_iconst F dL_law_850 ki_1 ?_
      refine a_iadd F dL_law_851 ?_
      refine a_gd (a_sld F M0.2.2.2.1 dL_law_852 ?_)
      refine a_aload_n F dL_law_853 rfl rfl ?_
      refine a_iload_n F dL_law_854 rfl rfl ?_
      refine a_iconst F dL_law_855 ki_2 ?_
      refine a_iadd F dL_law_856 ?_
      refine a_gd (a_sld F M0.2.2.2.1 dL_law_857 ?_)
      refine a_callVI F (As := [.int (xs (ix (x3 + (1 : Int32)))), .int (xs (ix (x3 + (2 : Int32))))]) cfX10 rfl (c_X10_at X (xs (ix (x3 + (1 : Int32)))) (xs (ix (x3 + (2 : Int32)))) S) mw_X10_at ml_L_97 im_X10_at se_X10_at M0.2.1 (Nat.le_of_ble_eq_true rfl) M0.2.2.1 rfl rfl (Nat.le_of_ble_eq_true rfl) zl_0 zk_0 dL_law_858 rfl (fun q_39 => ?_)
      refine a_aload_n F dL_law_861 rfl rfl ?_
      refine a_aload_n F dL_law_862 rfl rfl ?_
      refine a_iload_n F dL_law_863 rfl rfl ?_
      refine a_iconst F dL_law_864 ki_1 ?_
      refine a_iadd F dL_law_865 ?_
      refine a_gd (a_sld F M0.2.2.2.1 dL_law_866 ?_)
      refine a_aload_n F dL_law_867 rfl rfl ?_
      refine a_iload_n F dL_law_868 rfl rfl ?_
      refine a_iconst F dL_law_869 ki_2 ?_
      refine a_iadd F dL_law_870 ?_
      refine a_gd (a_sld F M0.2.2.2.1 dL_law_871 ?_)
      refine a_callVI F (As := [.int (xs (ix (x3 + (1 : Int32)))), .int (xs (ix (x3 + (2 : Int32))))]) cfX11 rfl (c_X11_at X (xs (ix (x3 + (1 : Int32)))) (xs (ix (x3 + (2 : Int32)))) q_39.2) mw_X11_at ml_L_100 im_X11_at se_X11_at M0.2.1 (Nat.le_of_ble_eq_true rfl) M0.2.2.1 rfl rfl (Nat.le_of_ble_eq_true rfl) zl_239 zk_239 dL_law_872 rfl (fun q_40 => ?_)
      refine a_icmp_eq F 1275 dL_law_875 (by decide) ?_ ?_
      · exact b_L_1275 M0 hk18 x3 q_40.2
      · refine a_iconst F dL_law_878 ki_0 ?_
        exact a_none
    · refine a_aload_n F dL_law_880 rfl rfl ?_
      refine a_aload_n F dL_law_881 rfl rfl ?_
      refine a_iload_n F dL_law_882 rfl rfl ?_
      refine a_iconst F dL_law_883 ki_1 ?_
      refine a_iadd F dL_law_884 ?_
      refine a_gd (a_sld F M0.2.2.2.1 dL_law_885 ?_)
      refine a_aload_n F dL_law_886 rfl rfl ?_
      refine a_iload_n F dL_law_887 rfl rfl ?_
      refine a_iconst F dL_law_888 ki_2 ?_
      refine a_iadd F dL_law_889 ?_
      refine a_gd (a_sld F M0.2.2.2.1 dL_law_890 ?_)
      refine a_callVI F (As := [.int (xs (ix (x3 + (1 : Int32)))), .int (xs (ix (x3 + (2 : Int32))))]) cfX10 rfl (c_X10_book X (xs (ix (x3 + (1 : Int32)))) (xs (ix (x3 + (2 : Int32)))) S) mw_X10_book ml_L_101 im_X10_book se_X10_book M0.2.1 (Nat.le_of_ble_eq_true rfl) M0.2.2.1 rfl rfl (Nat.le_of_ble_eq_true rfl) zl_0 zk_0 dL_law_891 rfl (fun q_41 => ?_)
      refine a_aload_n F dL_law_894 rfl rfl ?_
      refine a_aload_n F dL_law_895 rfl rfl ?_
      refine a_iload_n F dL_law_896 rfl rfl ?_
      refine a_iconst F dL_law_897 ki_1 ?_
      refine a_iadd F dL_law_898 ?_
      refine a_gd (a_sld F M0.2.2.2.1 dL_law_899 ?_)
      refine a_aload_n F dL_law_900 rfl rfl ?_
      refine a_iload_n F dL_law_901 rfl rfl ?_
      refine a_iconst F dL_law_902 ki_2 ?_
      refine a_iadd F dL_law_903 ?_
      refine a_gd (a_sld F M0.2.2.2.1 dL_law_904 ?_)
      refine a_callVI F (As := [.int (xs (ix (x3 + (1 : Int32)))), .int (xs (ix (x3 + (2 : Int32))))]) cfX11 rfl (c_X11_book X (xs (ix (x3 + (1 : Int32)))) (xs (ix (x3 + (2 : Int32)))) q_41.2) mw_X11_book ml_L_104 im_X11_book se_X11_book M0.2.1 (Nat.le_of_ble_eq_true rfl) M0.2.2.1 rfl rfl (Nat.le_of_ble_eq_true rfl) zl_239 zk_239 dL_law_905 rfl (fun q_42 => ?_)
      refine a_icmp_eq F 1275 dL_law_908 (by decide) ?_ ?_
      · exact b_L_1275 M0 hk18 x3 q_42.2
      · refine a_iconst F dL_law_911 ki_0 ?_
        exact a_none
    · refine a_aload_n F dL_law_913 rfl rfl ?_
      refine a_aload_n F dL_law_914 rfl rfl ?_
      refine a_iload_n F dL_law_915 rfl rfl ?_
      refine a_iconst F dL_law_916 ki_1 ?_
      refine a_iadd F dL_law_917 ?_
      refine a_gd (a_sld F M0.2.2.2.1 dL_law_918 ?_)
      refine a_aload_n F dL_law_919 rfl rfl ?_
      refine a_iload_n F dL_law_920 rfl rfl ?_
      refine a_iconst F dL_law_921 ki_2 ?_
      refine a_iadd F dL_law_922 ?_
      refine a_gd (a_sld F M0.2.2.2.1 dL_law_923 ?_)
      refine a_aload_n F dL_law_924 rfl rfl ?_
      refine a_iload_n F dL_law_925 rfl rfl ?_
      refine a_iconst F dL_law_926 ki_3 ?_
      refine a_iadd F dL_law_927 ?_
      refine a_gd (a_sld F M0.2.2.2.1 dL_law_928 ?_)
      refine a_callVI F (As := [.int (xs (ix (x3 + (1 : Int32)))), .int (xs (ix (x3 + (2 : Int32)))), .int (xs (ix (x3 + (3 : Int32))))]) cfX10 rfl (c_X10_weddings X (xs (ix (x3 + (1 : Int32)))) (xs (ix (x3 + (2 : Int32)))) (xs (ix (x3 + (3 : Int32)))) S) mw_X10_weddings ml_L_105 im_X10_weddings se_X10_weddings M0.2.1 (Nat.le_of_ble_eq_true rfl) M0.2.2.1 rfl rfl (Nat.le_of_ble_eq_true rfl) zl_0 zk_0 dL_law_929 rfl (fun q_43 => ?_)
      refine a_aload_n F dL_law_932 rfl rfl ?_
      refine a_aload_n F dL_law_933 rfl rfl ?_
      refine a_iload_n F dL_law_934 rfl rfl ?_
      refine a_iconst F dL_law_935 ki_1 ?_
      refine a_iadd F dL_law_936 ?_
      refine a_gd (a_sld F M0.2.2.2.1 dL_law_937 ?_)
      refine a_aload_n F dL_law_938 rfl rfl ?_
      refine a_iload_n F dL_law_939 rfl rfl ?_
      refine a_iconst F dL_law_940 ki_2 ?_
      refine a_iadd F dL_law_941 ?_
      refine a_gd (a_sld F M0.2.2.2.1 dL_law_942 ?_)
      refine a_aload_n F dL_law_943 rfl rfl ?_
      refine a_iload_n F dL_law_944 rfl rfl ?_
      refine a_iconst F dL_law_945 ki_3 ?_
      refine a_iadd F dL_law_946 ?_
      refine a_gd (a_sld F M0.2.2.2.1 dL_law_947 ?_)
      refine a_callVI F (As := [.int (xs (ix (x3 + (1 : Int32)))), .int (xs (ix (x3 + (2 : Int32)))), .int (xs (ix (x3 + (3 : Int32))))]) cfX11 rfl (c_X11_weddings X (xs (ix (x3 + (1 : Int32)))) (xs (ix (x3 + (2 : Int32)))) (xs (ix (x3 + (3 : Int32)))) q_43.2) mw_X11_weddings ml_L_108 im_X11_weddings se_X11_weddings M0.2.1 (Nat.le_of_ble_eq_true rfl) M0.2.2.1 rfl rfl (Nat.le_of_ble_eq_true rfl) zl_239 zk_239 dL_law_948 rfl (fun q_44 => ?_)
      refine a_icmp_eq F 1275 dL_law_951 (by decide) ?_ ?_
      · exact b_L_1275 M0 hk18 x3 q_44.2
      · refine a_iconst F dL_law_954 ki_0 ?_
        exact a_none
    · refine a_aload_n F dL_law_956 rfl rfl ?_
      refine a_aload_n F dL_law_957 rfl rfl ?_
      refine a_iload_n F dL_law_958 rfl rfl ?_
      refine a_iconst F dL_law_959 ki_1 ?_
      refine a_iadd F dL_law_960 ?_
      refine a_gd (a_sld F M0.2.2.2.1 dL_law_961 ?_)
      refine a_aload_n F dL_law_962 rfl rfl ?_
      refine a_iload_n F dL_law_963 rfl rfl ?_
      refine a_iconst F dL_law_964 ki_2 ?_
      refine a_iadd F dL_law_965 ?_
      refine a_gd (a_sld F M0.2.2.2.1 dL_law_966 ?_)
      refine a_callVI F (As := [.int (xs (ix (x3 + (1 : Int32)))), .int (xs (ix (x3 + (2 : Int32))))]) cfX10 rfl (c_X10_whenCan X (xs (ix (x3 + (1 : Int32)))) (xs (ix (x3 + (2 : Int32)))) S) mw_X10_whenCan ml_L_109 im_X10_whenCan se_X10_whenCan M0.2.1 (Nat.le_of_ble_eq_true rfl) M0.2.2.1 rfl rfl (Nat.le_of_ble_eq_true rfl) zl_0 zk_0 dL_law_967 rfl (fun q_45 => ?_)
      refine a_aload_n F dL_law_970 rfl rfl ?_
      refine a_aload_n F dL_law_971 rfl rfl ?_
      refine a_iload_n F dL_law_972 rfl rfl ?_
      refine a_iconst F dL_law_973 ki_1 ?_
      refine a_iadd F dL_law_974 ?_
      refine a_gd (a_sld F M0.2.2.2.1 dL_law_975 ?_)
      refine a_aload_n F dL_law_976 rfl rfl ?_
      refine a_iload_n F dL_law_977 rfl rfl ?_
      refine a_iconst F dL_law_978 ki_2 ?_
      refine a_iadd F dL_law_979 ?_
      refine a_gd (a_sld F M0.2.2.2.1 dL_law_980 ?_)
      refine a_callVI F (As := [.int (xs (ix (x3 + (1 : Int32)))), .int (xs (ix (x3 + (2 : Int32))))]) cfX11 rfl (c_X11_whenCan X (xs (ix (x3 + (1 : Int32)))) (xs (ix (x3 + (2 : Int32)))) q_45.2) mw_X11_whenCan ml_L_112 im_X11_whenCan se_X11_whenCan M0.2.1 (Nat.le_of_ble_eq_true rfl) M0.2.2.1 rfl rfl (Nat.le_of_ble_eq_true rfl) zl_239 zk_239 dL_law_981 rfl (fun q_46 => ?_)
      refine a_icmp_eq F 1275 dL_law_984 (by decide) ?_ ?_
      · exact b_L_1275 M0 hk18 x3 q_46.2
      · refine a_iconst F dL_law_987 ki_0 ?_
        exact a_none
    · refine a_aload_n F dL_law_989 rfl rfl ?_
      refine a_aload_n F dL_law_990 rfl rfl ?_
      refine a_iload_n F dL_law_991 rfl rfl ?_
      refine a_iconst F dL_law_992 ki_1 ?_
      refine a_iadd F dL_law_993 ?_
      refine a_gd (a_sld F M0.2.2.2.1 dL_law_994 ?_)
      refine a_callVI F (As := [.int (xs (ix (x3 + (1 : Int32))))]) cfX10 rfl (c_X10_hand X (xs (ix (x3 + (1 : Int32)))) S) mw_X10_hand ml_L_113 im_X10_hand se_X10_hand M0.2.1 (Nat.le_of_ble_eq_true rfl) M0.2.2.1 rfl rfl (Nat.le_of_ble_eq_true rfl) zl_0 zk_0 dL_law_995 rfl (fun q_47 => ?_)
      refine a_aload_n F dL_law_998 rfl rfl ?_
      refine a_aload_n F dL_law_999 rfl rfl ?_
      refine a_iload_n F dL_law_1000 rfl rfl ?_
      refine a_iconst F dL_law_1001 ki_1 ?_
      refine a_iadd F dL_law_1002 ?_
      refine a_gd (a_sld F M0.2.2.2.1 dL_law_1003 ?_)
      refine a_callVI F (As := [.int (xs (ix (x3 + (1 : Int32))))]) cfX11 rfl (c_X11_hand X (xs (ix (x3 + (1 : Int32)))) q_47.2) mw_X11_hand ml_L_116 im_X11_hand se_X11_hand M0.2.1 (Nat.le_of_ble_eq_true rfl) M0.2.2.1 rfl rfl (Nat.le_of_ble_eq_true rfl) zl_239 zk_239 dL_law_1004 rfl (fun q_48 => ?_)
      refine a_icmp_eq F 1275 dL_law_1007 (by decide) ?_ ?_
      · exact b_L_1275 M0 hk18 x3 q_48.2
      · refine a_iconst F dL_law_1010 ki_0 ?_
        exact a_none
    · refine a_aload_n F dL_law_1012 rfl rfl ?_
      refine a_aload_n F dL_law_1013 rfl rfl ?_
      refine a_iload_n F dL_law_1014 rfl rfl ?_
      refine a_iconst F dL_law_1015 ki_1 ?_
      refine a_iadd F dL_law_1016 ?_
      refine a_gd (a_sld F M0.2.2.2.1 dL_law_1017 ?_)
      refine a_aload_n F dL_law_1018 rfl rfl ?_
      refine a_iload_n F dL_law_1019 rfl rfl ?_
      refine a_iconst F dL_law_1020 ki_2 ?_
      refine a_iadd F dL_law_1021 ?_
      refine a_gd (a_sld F M0.2.2.2.1 dL_law_1022 ?_)
      refine a_aload_n F dL_law_1023 rfl rfl ?_
      refine a_iload_n F dL_law_1024 rfl rfl ?_
      refine a_iconst F dL_law_1025 ki_3 ?_
      refine a_iadd F dL_law_1026 ?_
      refine a_gd (a_sld F M0.2.2.2.1 dL_law_1027 ?_)
      refine a_callVI F (As := [.int (xs (ix (x3 + (1 : Int32)))), .int (xs (ix (x3 + (2 : Int32)))), .int (xs (ix (x3 + (3 : Int32))))]) cfX10 rfl (c_X10_inherit X (xs (ix (x3 + (1 : Int32)))) (xs (ix (x3 + (2 : Int32)))) (xs (ix (x3 + (3 : Int32)))) S) mw_X10_inherit ml_L_117 im_X10_inherit se_X10_inherit M0.2.1 (Nat.le_of_ble_eq_true rfl) M0.2.2.1 rfl rfl (Nat.le_of_ble_eq_true rfl) zl_0 zk_0 dL_law_1028 rfl (fun q_49 => ?_)
      refine a_aload_n F dL_law_1031 rfl rfl ?_
      refine a_aload_n F dL_law_1032 rfl rfl ?_
      refine a_iload_n F dL_law_1033 rfl rfl ?_
      refine a_iconst F dL_law_1034 ki_1 ?_
      refine a_iadd F dL_law_1035 ?_
      refine a_gd (a_sld F M0.2.2.2.1 dL_law_1036 ?_)
      refine a_aload_n F dL_law_1037 rfl rfl ?_
      refine a_iload_n F dL_law_1038 rfl rfl ?_
      refine a_iconst F dL_law_1039 ki_2 ?_
      refine a_iadd F dL_law_1040 ?_
      refine a_gd (a_sld F M0.2.2.2.1 dL_law_1041 ?_)
      refine a_aload_n F dL_law_1042 rfl rfl ?_
      refine a_iload_n F dL_law_1043 rfl rfl ?_
      refine a_iconst F dL_law_1044 ki_3 ?_
      refine a_iadd F dL_law_1045 ?_
      refine a_gd (a_sld F M0.2.2.2.1 dL_law_1046 ?_)
      refine a_callVI F (As := [.int (xs (ix (x3 + (1 : Int32)))), .int (xs (ix (x3 + (2 : Int32)))), .int (xs (ix (x3 + (3 : Int32))))]) cfX11 rfl (c_X11_inherit X (xs (ix (x3 + (1 : Int32)))) (xs (ix (x3 + (2 : Int32)))) (xs (ix (x3 + (3 : Int32)))) q_49.2) mw_X11_inherit ml_L_120 im_X11_inherit se_X11_inherit M0.2.1 (Nat.le_of_ble_eq_true rfl) M0.2.2.1 rfl rfl (Nat.le_of_ble_eq_true rfl) zl_239 zk_239 dL_law_1047 rfl (fun q_50 => ?_)
      refine a_icmp_eq F 1275 dL_law_1050 (by decide) ?_ ?_
      · exact b_L_1275 M0 hk18 x3 q_50.2
      · refine a_iconst F dL_law_1053 ki_0 ?_
        exact a_none
    · refine a_aload_n F dL_law_1055 rfl rfl ?_
      refine a_aload_n F dL_law_1056 rfl rfl ?_
      refine a_iload_n F dL_law_1057 rfl rfl ?_
      refine a_iconst F dL_law_1058 ki_1 ?_
      refine a_iadd F dL_law_1059 ?_
      refine a_gd (a_sld F M0.2.2.2.1 dL_law_1060 ?_)
      refine a_aload_n F dL_law_1061 rfl rfl ?_
      refine a_iload_n F dL_law_1062 rfl rfl ?_
      refine a_iconst F dL_law_1063 ki_2 ?_
      refine a_iadd F dL_law_1064 ?_
      refine a_gd (a_sld F M0.2.2.2.1 dL_law_1065 ?_)
      refine a_aload_n F dL_law_1066 rfl rfl ?_
      refine a_iload_n F dL_law_1067 rfl rfl ?_
      refine a_iconst F dL_law_1068 ki_3 ?_
      refine a_iadd F dL_law_1069 ?_
      refine a_gd (a_sld F M0.2.2.2.1 dL_law_1070 ?_)
      refine a_callVI F (As := [.int (xs (ix (x3 + (1 : Int32)))), .int (xs (ix (x3 + (2 : Int32)))), .int (xs (ix (x3 + (3 : Int32))))]) cfX10 rfl (c_X10_worth X (xs (ix (x3 + (1 : Int32)))) (xs (ix (x3 + (2 : Int32)))) (xs (ix (x3 + (3 : Int32)))) S) mw_X10_worth ml_L_121 im_X10_worth se_X10_worth M0.2.1 (Nat.le_of_ble_eq_true rfl) M0.2.2.1 rfl rfl (Nat.le_of_ble_eq_true rfl) zl_0 zk_0 dL_law_1071 rfl (fun q_51 => ?_)
      refine a_aload_n F dL_law_1074 rfl rfl ?_
      refine a_aload_n F dL_law_1075 rfl rfl ?_
      refine a_iload_n F dL_law_1076 rfl rfl ?_
      refine a_iconst F dL_law_1077 ki_1 ?_
      refine a_iadd F dL_law_1078 ?_
      refine a_gd (a_sld F M0.2.2.2.1 dL_law_1079 ?_)
      refine a_aload_n F dL_law_1080 rfl rfl ?_
      refine a_iload_n F dL_law_1081 rfl rfl ?_
      refine a_iconst F dL_law_1082 ki_2 ?_
      refine a_iadd F dL_law_1083 ?_
      refine a_gd (a_sld F M0.2.2.2.1 dL_law_1084 ?_)
      refine a_aload_n F dL_law_1085 rfl rfl ?_
      refine a_iload_n F dL_law_1086 rfl rfl ?_
      refine a_iconst F dL_law_1087 ki_3 ?_
      refine a_iadd F dL_law_1088 ?_
      refine a_gd (a_sld F M0.2.2.2.1 dL_law_1089 ?_)
      refine a_callVI F (As := [.int (xs (ix (x3 + (1 : Int32)))), .int (xs (ix (x3 + (2 : Int32)))), .int (xs (ix (x3 + (3 : Int32))))]) cfX11 rfl (c_X11_worth X (xs (ix (x3 + (1 : Int32)))) (xs (ix (x3 + (2 : Int32)))) (xs (ix (x3 + (3 : Int32)))) q_51.2) mw_X11_worth ml_L_124 im_X11_worth se_X11_worth M0.2.1 (Nat.le_of_ble_eq_true rfl) M0.2.2.1 rfl rfl (Nat.le_of_ble_eq_true rfl) zl_239 zk_239 dL_law_1090 rfl (fun q_52 => ?_)
      refine a_icmp_eq F 1275 dL_law_1093 (by decide) ?_ ?_
      · exact b_L_1275 M0 hk18 x3 q_52.2
      · refine a_iconst F dL_law_1096 ki_0 ?_
        exact a_none
    · refine a_aload_n F dL_law_1098 rfl rfl ?_
      refine a_aload_n F dL_law_1099 rfl rfl ?_
      refine a_iload_n F dL_law_1100 rfl rfl ?_
      refine a_iconst F dL_law_1101 ki_1 ?_
      refine a_iadd F dL_law_1102 ?_
      refine a_gd (a_sld F M0.2.2.2.1 dL_law_1103 ?_)
      refine a_callVI F (As := [.int (xs (ix (x3 + (1 : Int32))))]) cfX10 rfl (c_X10_silent X (xs (ix (x3 + (1 : Int32)))) S) mw_X10_silent ml_L_125 im_X10_silent se_X10_silent M0.2.1 (Nat.le_of_ble_eq_true rfl) M0.2.2.1 rfl rfl (Nat.le_of_ble_eq_true rfl) zl_0 zk_0 dL_law_1104 rfl (fun q_53 => ?_)
      refine a_aload_n F dL_law_1107 rfl rfl ?_
      refine a_aload_n F dL_law_1108 rfl rfl ?_
      refine a_iload_n F dL_law_1109 rfl rfl ?_
      refine a_iconst F dL_law_1110 ki_1 ?_
      refine a_iadd F dL_law_1111 ?_
      refine a_gd (a_sld F M0.2.2.2.1 dL_law_1112 ?_)
      refine a_callVI F (As := [.int (xs (ix (x3 + (1 : Int32))))]) cfX11 rfl (c_X11_silent X (xs (ix (x3 + (1 : Int32)))) q_53.2) mw_X11_silent ml_L_128 im_X11_silent se_X11_silent M0.2.1 (Nat.le_of_ble_eq_true rfl) M0.2.2.1 rfl rfl (Nat.le_of_ble_eq_true rfl) zl_239 zk_239 dL_law_1113 rfl (fun q_54 => ?_)
      refine a_icmp_eq F 1275 dL_law_1116 (by decide) ?_ ?_
      · exact b_L_1275 M0 hk18 x3 q_54.2
      · refine a_iconst F dL_law_1119 ki_0 ?_
        exact a_none
    · refine a_aload_n F dL_law_1121 rfl rfl ?_
      refine a_aload_n F dL_law_1122 rfl rfl ?_
      refine a_iload_n F dL_law_1123 rfl rfl ?_
      refine a_iconst F dL_law_1124 ki_1 ?_
      refine a_iadd F dL_law_1125 ?_
      refine a_gd (a_sld F M0.2.2.2.1 dL_law_1126 ?_)
      refine a_aload_n F dL_law_1127 rfl rfl ?_
      refine a_iload_n F dL_law_1128 rfl rfl ?_
      refine a_iconst F dL_law_1129 ki_2 ?_
      refine a_iadd F dL_law_1130 ?_
      refine a_gd (a_sld F M0.2.2.2.1 dL_law_1131 ?_)
      refine a_callVI F (As := [.int (xs (ix (x3 + (1 : Int32)))), .int (xs (ix (x3 + (2 : Int32))))]) cfX10 rfl (c_X10_trace X (xs (ix (x3 + (1 : Int32)))) (xs (ix (x3 + (2 : Int32)))) S) mw_X10_trace ml_L_129 im_X10_trace se_X10_trace M0.2.1 (Nat.le_of_ble_eq_true rfl) M0.2.2.1 rfl rfl (Nat.le_of_ble_eq_true rfl) zl_0 zk_0 dL_law_1132 rfl (fun q_55 => ?_)
      refine a_aload_n F dL_law_1135 rfl rfl ?_
      refine a_aload_n F dL_law_1136 rfl rfl ?_
      refine a_iload_n F dL_law_1137 rfl rfl ?_
      refine a_iconst F dL_law_1138 ki_1 ?_
      refine a_iadd F dL_law_1139 ?_
      refine a_gd (a_sld F M0.2.2.2.1 dL_law_1140 ?_)
      refine a_aload_n F dL_law_1141 rfl rfl ?_
      refine a_iload_n F dL_law_1142 rfl rfl ?_
      refine a_iconst F dL_law_1143 ki_2 ?_
      refine a_iadd F dL_law_1144 ?_
      refine a_gd (a_sld F M0.2.2.2.1 dL_law_1145 ?_)
      refine a_callVI F (As := [.int (xs (ix (x3 + (1 : Int32)))), .int (xs (ix (x3 + (2 : Int32))))]) cfX11 rfl (c_X11_trace X (xs (ix (x3 + (1 : Int32)))) (xs (ix (x3 + (2 : Int32)))) q_55.2) mw_X11_trace ml_L_132 im_X11_trace se_X11_trace M0.2.1 (Nat.le_of_ble_eq_true rfl) M0.2.2.1 rfl rfl (Nat.le_of_ble_eq_true rfl) zl_239 zk_239 dL_law_1146 rfl (fun q_56 => ?_)
      refine a_icmp_eq F 1275 dL_law_1149 (by decide) ?_ ?_
      · exact b_L_1275 M0 hk18 x3 q_56.2
      · refine a_iconst F dL_law_1152 ki_0 ?_
        exact a_none
    · refine a_aload_n F dL_law_1154 rfl rfl ?_
      refine a_aload_n F dL_law_1155 rfl rfl ?_
      refine a_iload_n F dL_law_1156 rfl rfl ?_
      refine a_iconst F dL_law_1157 ki_1 ?_
      refine a_iadd F dL_law_1158 ?_
      refine a_gd (a_sld F M0.2.2.2.1 dL_law_1159 ?_)
      refine a_aload_n F dL_law_1160 rfl rfl ?_
      refine a_iload_n F dL_law_1161 rfl rfl ?_
      refine a_iconst F dL_law_1162 ki_2 ?_
      refine a_iadd F dL_law_1163 ?_
      refine a_gd (a_sld F M0.2.2.2.1 dL_law_1164 ?_)
      refine a_callVI F (As := [.int (xs (ix (x3 + (1 : Int32)))), .int (xs (ix (x3 + (2 : Int32))))]) cfX10 rfl (c_X10_best X (xs (ix (x3 + (1 : Int32)))) (xs (ix (x3 + (2 : Int32)))) S) mw_X10_best ml_L_133 im_X10_best se_X10_best M0.2.1 (Nat.le_of_ble_eq_true rfl) M0.2.2.1 rfl rfl (Nat.le_of_ble_eq_true rfl) zl_0 zk_0 dL_law_1165 rfl (fun q_57 => ?_)
      refine a_aload_n F dL_law_1168 rfl rfl ?_
      refine a_aload_n F dL_law_1169 rfl rfl ?_
      refine a_iload_n F dL_law_1170 rfl rfl ?_
      refine a_iconst F dL_law_1171 ki_1 ?_
      refine a_iadd F dL_law_1172 ?_
      refine a_gd (a_sld F M0.2.2.2.1 dL_law_1173 ?_)
      refine a_aload_n F dL_law_1174 rfl rfl ?_
      refine a_iload_n F dL_law_1175 rfl rfl ?_
      refine a_iconst F dL_law_1176 ki_2 ?_
      refine a_iadd F dL_law_1177 ?_
      refine a_gd (a_sld F M0.2.2.2.1 dL_law_1178 ?_)
      refine a_callVI F (As := [.int (xs (ix (x3 + (1 : Int32)))), .int (xs (ix (x3 + (2 : Int32))))]) cfX11 rfl (c_X11_best X (xs (ix (x3 + (1 : Int32)))) (xs (ix (x3 + (2 : Int32)))) q_57.2) mw_X11_best ml_L_136 im_X11_best se_X11_best M0.2.1 (Nat.le_of_ble_eq_true rfl) M0.2.2.1 rfl rfl (Nat.le_of_ble_eq_true rfl) zl_239 zk_239 dL_law_1179 rfl (fun q_58 => ?_)
      refine a_icmp_eq F 1275 dL_law_1182 (by decide) ?_ ?_
      · exact b_L_1275 M0 hk18 x3 q_58.2
      · refine a_iconst F dL_law_1185 ki_0 ?_
        exact a_none
    · refine a_aload_n F dL_law_1187 rfl rfl ?_
      refine a_callVI F (As := []) cfX10 rfl (c_X10_dumb X S) mw_X10_dumb ml_L_137 im_X10_dumb se_X10_dumb M0.2.1 (Nat.le_of_ble_eq_true rfl) M0.2.2.1 rfl rfl (Nat.le_of_ble_eq_true rfl) zl_0 zk_0 dL_law_1188 rfl (fun q_59 => ?_)
      refine a_aload_n F dL_law_1191 rfl rfl ?_
      refine a_callVI F (As := []) cfX11 rfl (c_X11_dumb X q_59.2) mw_X11_dumb ml_L_141 im_X11_dumb se_X11_dumb M0.2.1 (Nat.le_of_ble_eq_true rfl) M0.2.2.1 rfl rfl (Nat.le_of_ble_eq_true rfl) zl_239 zk_239 dL_law_1192 rfl (fun q_60 => ?_)
      refine a_icmp_eq F 1275 dL_law_1195 (by decide) ?_ ?_
      · exact b_L_1275 M0 hk18 x3 q_60.2
      · refine a_iconst F dL_law_1198 ki_0 ?_
        exact a_none
    · refine a_aload_n F dL_law_1200 rfl rfl ?_
      refine a_callVI F (As := []) cfX10 rfl (c_X10_undo X S) mw_X10_undo ml_L_142 im_X10_undo se_X10_undo M0.2.1 (Nat.le_of_ble_eq_true rfl) M0.2.2.1 rfl rfl (Nat.le_of_ble_eq_true rfl) zl_0 zk_0 dL_law_1201 rfl (fun q_61 => ?_)
      refine a_aload_n F dL_law_1204 rfl rfl ?_
      refine a_callVI F (As := []) cfX11 rfl (c_X11_undo X q_61.2) mw_X11_undo ml_L_146 im_X11_undo se_X11_undo M0.2.1 (Nat.le_of_ble_eq_true rfl) M0.2.2.1 rfl rfl (Nat.le_of_ble_eq_true rfl) zl_239 zk_239 dL_law_1205 rfl (fun q_62 => ?_)
      refine a_icmp_eq F 1275 dL_law_1208 (by decide) ?_ ?_
      · exact b_L_1275 M0 hk18 x3 q_62.2
      · refine a_iconst F dL_law_1211 ki_0 ?_
        exact a_none
    · refine a_aload_n F dL_law_1213 rfl rfl ?_
      refine a_aload_n F dL_law_1214 rfl rfl ?_
      refine a_iload_n F dL_law_1215 rfl rfl ?_
      refine a_iconst F dL_law_1216 ki_1 ?_
      refine a_iadd F dL_law_1217 ?_
      refine a_gd (a_sld F M0.2.2.2.1 dL_law_1218 ?_)
      refine a_if_eq F 1226 dL_law_1219 (by decide) ?_ ?_
      · refine a_iconst F dL_law_1226 ki_0 ?_
        exact b_L_1227 M0 hk18 x3 (0 : Int32) S
      · refine a_iconst F dL_law_1222 ki_1 ?_
        refine a_goto F 1227 dL_law_1223 (by decide) ?_
        exact b_L_1227 M0 hk18 x3 (1 : Int32) S
    · refine a_aload_n F dL_law_1252 rfl rfl ?_
      refine a_aload_n F dL_law_1253 rfl rfl ?_
      refine a_iload_n F dL_law_1254 rfl rfl ?_
      refine a_iconst F dL_law_1255 ki_1 ?_
      refine a_iadd F dL_law_1256 ?_
      refine a_gd (a_sld F M0.2.2.2.1 dL_law_1257 ?_)
      refine a_callVI F (As := [.int (xs (ix (x3 + (1 : Int32))))]) cfX10 rfl (c_X10_look X (xs (ix (x3 + (1 : Int32)))) S) mw_X10_look ml_L_152 im_X10_look se_X10_look M0.2.1 (Nat.le_of_ble_eq_true rfl) M0.2.2.1 rfl rfl (Nat.le_of_ble_eq_true rfl) zl_0 zk_0 dL_law_1258 rfl (fun q_63 => ?_)
      refine a_aload_n F dL_law_1261 rfl rfl ?_
      refine a_aload_n F dL_law_1262 rfl rfl ?_
      refine a_iload_n F dL_law_1263 rfl rfl ?_
      refine a_iconst F dL_law_1264 ki_1 ?_
      refine a_iadd F dL_law_1265 ?_
      refine a_gd (a_sld F M0.2.2.2.1 dL_law_1266 ?_)
      refine a_callVI F (As := [.int (xs (ix (x3 + (1 : Int32))))]) cfX11 rfl (c_X11_look X (xs (ix (x3 + (1 : Int32)))) q_63.2) mw_X11_look ml_L_155 im_X11_look se_X11_look M0.2.1 (Nat.le_of_ble_eq_true rfl) M0.2.2.1 rfl rfl (Nat.le_of_ble_eq_true rfl) zl_239 zk_239 dL_law_1267 rfl (fun q_64 => ?_)
      refine a_icmp_eq F 1275 dL_law_1270 (by decide) ?_ ?_
      · exact b_L_1275 M0 hk18 x3 q_64.2
      · refine a_iconst F dL_law_1273 ki_0 ?_
        exact a_none
def f_L_18 (xs : Nat → Int32) (Ln : Nat) : Nat → Int32 → Mm → Option Int32 := itr (fun _ _ => none) (fun k => f_L_18b k xs Ln)
theorem b_L_18 {p : Program} {e : Env} {s : State} {m : MethodId} {below : List Frame} {meth : Method} {c : Code} {X : CX} {b Ln : Nat} {xs : Nat → Int32} (M0 : ML X p e s m b below meth c Ln xs) : ∀ (n : Nat) (x3 : Int32) (S : Mm), At X (LE p e s m b below meth c) false (lQ p e s m b below meth c) 18 [some (.ref (1048576 + 4)), some (.ref 0), some (.ref 239), some (.int x3)] [] Z1 S 270 20163 (f_L_18 xs Ln n x3 S) := by
  intro n
  induction n with
  | zero => intros; exact a_none
  | succ n ih => intro x3 S; exact b_L_18b M0 ih x3 S
