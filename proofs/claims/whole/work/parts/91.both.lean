/-! ===== reading on both sides: what is drafted, where one stands ===== -/
/-- the reference's entries that are kept while a text is read -/
def kp (j x : Nat) : Prop := (j = 252 ∨ j = 253 ∨ j = 254 → x < 16) ∧ (j = 255 ∨ j = 256 → x < 400) ∧ j ≠ 257 ∧ (j = 259 ∨ j = 260 ∨ j = 261 → x < 144) ∧ (j = 264 → x < 320) ∧ j ≠ 239
def FK (B0 B : Mm) : Prop := (∀ j x, kp j x → B j x = B0 j x) ∧ ∀ j, ks j = true → B 239 j = B0 239 j
/-- the class's cells that are kept while a text is read -/
def CK (A0 A : Mm) : Prop := (∀ j, (j < 186 ∨ 206 ≤ j) → j ≠ 184 → A j = A0 j) ∧ ∀ j, j ≠ 2 → j ≠ 3 → A 184 j = A0 184 j
theorem kp_o {j x : Nat} (h : j < 252 ∨ 265 ≤ j ∨ j = 258 ∨ j = 262 ∨ j = 263) (h2 : j ≠ 239) : kp j x := by
  unfold kp
  refine ⟨?_, ?_, ?_, ?_, ?_, ?_⟩ <;> intros <;> omega
theorem kp_c {j x : Nat} (h : j = 255 ∨ j = 256) (h2 : x < 400) : kp j x := by
  unfold kp
  refine ⟨?_, ?_, ?_, ?_, ?_, ?_⟩ <;> intros <;> omega
theorem kn_c {j x : Nat} (h : j = 255 ∨ j = 256) (h2 : 400 ≤ x) : ¬ kp j x := fun q => absurd (q.2.1 h) (by omega)
theorem kn_l {j x : Nat} (h : j = 252 ∨ j = 253 ∨ j = 254) (h2 : 16 ≤ x) : ¬ kp j x := fun q => absurd (q.1 h) (by omega)
theorem kn_w {j x : Nat} (h : j = 259 ∨ j = 260 ∨ j = 261) (h2 : 144 ≤ x) : ¬ kp j x := fun q => absurd (q.2.2.2.1 h) (by omega)
theorem kn_d {x : Nat} (h2 : 320 ≤ x) : ¬ kp 264 x := fun q => absurd (q.2.2.2.2.1 _root_.rfl) (by omega)
theorem kn_p {x : Nat} : ¬ kp 257 x := fun q => q.2.2.1 _root_.rfl
theorem kn_0 {x : Nat} : ¬ kp 239 x := fun q => q.2.2.2.2.2 _root_.rfl
theorem FK.rfl {B : Mm} : FK B B := ⟨fun _ _ _ => _root_.rfl, fun _ _ => _root_.rfl⟩
theorem CK.rfl {B : Mm} : CK B B := ⟨fun _ _ _ => _root_.rfl, fun _ _ _ => _root_.rfl⟩
theorem FK.trans {B0 B1 B2 : Mm} (h : FK B0 B1) (g : FK B1 B2) : FK B0 B2 := ⟨fun j x k => (g.1 j x k).trans (h.1 j x k), fun j k => (g.2 j k).trans (h.2 j k)⟩
theorem CK.trans {B0 B1 B2 : Mm} (h : CK B0 B1) (g : CK B1 B2) : CK B0 B2 := ⟨fun j x k => (g.1 j x k).trans (h.1 j x k), fun j k l => (g.2 j k l).trans (h.2 j k l)⟩
theorem FK.u {B0 B : Mm} (h : FK B0 B) {j x : Nat} {v : Int32} (h1 : ¬ kp j x) (h2 : j = 239 → ks x = false) : FK B0 (uM B j x v) := by
  refine ⟨fun k y hk => ?_, fun k hk => ?_⟩
  · rw [uM_n (fun e => h1 (by rw [← e.1, ← e.2]; exact hk))]
    exact h.1 k y hk
  · rw [uM_n (fun e => by rw [e.2, h2 e.1.symm] at hk; cases hk)]
    exact h.2 k hk
theorem FK.of {B0 B B' : Mm} (h : FK B0 B) (e1 : ∀ j, j ≠ 239 → B' j = B j) (e2 : ∀ i, i < 17 ∨ 20 < i → B' 239 i = B 239 i) : FK B0 B' := by
  refine ⟨fun k y hk => ?_, fun k hk => ?_⟩
  · rw [e1 k hk.2.2.2.2.2]; exact h.1 k y hk
  · rw [e2 k ?_]
    · exact h.2 k hk
    · have q := hk
      unfold ks at q
      have q := of_decide_eq_true q
      omega
theorem FK.fp {B0 B : Mm} {n : Nat} {b : Nat → Nat} (h : FK B0 B) (f : FP B0 n b) : FP B n b := by
  obtain ⟨f1, f2, f3⟩ := f
  exact ⟨by rw [h.2 16 (by decide)]; exact f1, fun i hi => by rw [h.1 250 i (kp_o (by decide) (by decide))]; exact f2 i hi, fun i hi => by rw [h.1 251 i (kp_o (by decide) (by decide))]; exact f3 i hi⟩
theorem gA1 {α : Type} (l : List α) (x d : α) {j : Nat} (h : j < l.length) : (l ++ [x]).getD j d = l.getD j d := by
  simp [List.getD_eq_getElem?_getD, List.getElem?_append_left h]
theorem gA2 {α : Type} (l : List α) (x d : α) : (l ++ [x]).getD l.length d = x := by
  simp [List.getD_eq_getElem?_getD]
theorem lA {α : Type} (l : List α) (x : α) : (l ++ [x]).length = l.length + 1 := by simp
/-- the class's draft of the law: where it stands, its code -/
def CS (A0 A : Mm) (i : Nat) (cs : List Nat) : Prop := (∀ k, k ≠ 187 → k ≠ 188 → k ≠ 194 → A k = A0 k) ∧ (∀ j, j ≠ 1 → A 187 j = A0 187 j) ∧ (∀ j, j ≠ 7 → A 194 j = A0 194 j) ∧ A 194 7 = nI i ∧ A 187 1 = nI cs.length ∧ ∀ j, j < cs.length → A 188 j = nI (cs.getD j 0)
/-- the reference's: with what waits, and how much is open -/
def FS (B0 B : Mm) (n : Nat) (b : Nat → Nat) (i : Nat) (cs pe : List Nat) (o : Nat) : Prop := (∀ k, k ≠ 239 → k ≠ 255 → k ≠ 256 → k ≠ 257 → B k = B0 k) ∧ FK B0 B ∧ FTk B n b 194 i ∧ (B 239 28 = nI cs.length ∧ ∀ j, j < cs.length → B 255 (400 + j) = nI (opN (cs.getD j 0)) ∧ B 256 (400 + j) = nI (argN (cs.getD j 0))) ∧ B 239 29 = nI o ∧ B 239 31 = nI pe.length ∧ ∀ j, j < pe.length → B 257 j = nI (pe.getD j 0)
section BOTH
variable {A0 A B0 B : Mm} {n m i : Nat} {b : Nat → Nat} {cs pe : List Nat} {o : Nat}
theorem isT1 : isT 194 := Or.inl rfl
theorem isT2 : isT 202 := Or.inr rfl
theorem CS.tk (h : CS A0 A i cs) (t : TK A0 n b 194 m) : TK A n b 194 m := by
  obtain ⟨h1, h2, h3, -⟩ := h
  unfold TK TKs at t ⊢
  rw [h3 6 (by decide), h1 (194 + 1) (by decide) (by decide) (by decide), h1 (194 + 2) (by decide) (by decide) (by decide), h1 (194 + 3) (by decide) (by decide) (by decide)]
  exact t
theorem CS.skip (h : CS A0 A i cs) : CS A0 (uM A 194 7 (nI (i + 1))) (i + 1) cs := by
  obtain ⟨h1, h2, h3, h4, h5, h6⟩ := h
  refine ⟨fun k p q r => by rw [uM_off _ _ _ r]; exact h1 k p q r, fun j hj => by rw [uM_off _ _ _ (by decide)]; exact h2 j hj, fun j hj => by rw [uM_ne _ _ _ hj]; exact h3 j hj, uM_eq _ _ _ _, by rw [uM_off _ _ _ (by decide)]; exact h5, fun j hj => by rw [uM_off _ _ _ (by decide)]; exact h6 j hj⟩
theorem CS.add (h : CS A0 A i cs) (hl : cs.length < 400) (c : Nat) : ∃ A', f_X3_add_187 (nI c) A = some A' ∧ CS A0 A' i (cs ++ [c]) := by
  obtain ⟨h1, h2, h3, h4, h5, h6⟩ := h
  refine ⟨uM (uM A 188 cs.length (nI c)) 187 1 (nI (cs.length + 1)), ?_, fun k p q r => ?_, fun j hj => ?_, fun j hj => ?_, ?_, ?_, fun j hj => ?_⟩
  · unfold f_X3_add_187
    rw [h5, if_pos (show nI cs.length < 400 from (nI_ltI (b := 400) (by omega) (by omega)).mpr hl), gd_t hl (by omega), ix_nI (by omega), nm_x, uM_off _ _ _ (by decide), h5, nm_x, nI_1]
  · rw [uM_off _ _ _ p, uM_off _ _ _ q]; exact h1 k p q r
  · rw [uM_ne _ _ _ hj, uM_off _ _ _ (by decide)]; exact h2 j hj
  · rw [uM_off _ _ _ (by decide), uM_off _ _ _ (by decide)]; exact h3 j hj
  · rw [uM_off _ _ _ (by decide), uM_off _ _ _ (by decide)]; exact h4
  · rw [uM_eq, lA]
  · rw [lA] at hj
    rw [uM_off _ _ _ (by decide)]
    by_cases e : j = cs.length
    · rw [e, uM_eq, gA2]
    · rw [uM_ne _ _ _ e, gA1 _ _ _ (by omega)]; exact h6 j (by omega)
theorem CS.ck (h : CS A0 A i cs) : CK A0 A := ⟨fun j p q => h.1 j (by omega) (by omega) (by omega), fun j p q => by rw [h.1 184 (by decide) (by decide) (by decide)]⟩
theorem FS.emit (h : FS B0 B n b i cs pe o) (hl : cs.length < 400) {c : Nat} {x y : Int32} (hx : x = nI (opN c)) (hy : y = nI (argN c)) : ∃ B', f_X11_emits x y B = some B' ∧ FS B0 B' n b i (cs ++ [c]) pe o := by
  subst hx
  subst hy
  obtain ⟨h1, h2, h3, ⟨h4, h5⟩, h6, h7, h8⟩ := h
  refine ⟨uM (uM (uM B 255 (400 + cs.length) (nI (opN c))) 256 (400 + cs.length) (nI (argN c))) 239 28 (nI (cs.length + 1)), ?_, fun k p q r s => ?_, ?_, ?_, ⟨?_, fun j hj => ?_⟩, ?_, ?_, fun j hj => ?_⟩
  · unfold f_X11_emits
    have e4 : (400 : Int32) = nI 400 := rfl
    simp (disch := omega) only [nm_x, uM_off, h4, e4, nI_add, gd_t, ix_nI, nI_1]
  · rw [uM_off _ _ _ p, uM_off _ _ _ r, uM_off _ _ _ q]; exact h1 k p q r s
  · exact ((h2.u (kn_c (Or.inl rfl) (by omega)) (fun q => absurd q (by decide))).u (kn_c (Or.inr rfl) (by omega)) (fun q => absurd q (by decide))).u kn_0 (fun _ => rfl)
  · exact h3.congr fun j p q => by rw [uM_ne _ _ _ (by omega), uM_off _ _ _ (by decide), uM_off _ _ _ (by decide)]
  · rw [uM_eq, lA]
  · rw [lA] at hj
    have k5 : ∀ x : Nat, uM (uM (uM B 255 (400 + cs.length) (nI (opN c))) 256 (400 + cs.length) (nI (argN c))) 239 28 (nI (cs.length + 1)) 255 x = uM B 255 (400 + cs.length) (nI (opN c)) 255 x := fun x => by
      rw [uM_off _ _ _ (by decide : (255 : Nat) ≠ 239), uM_off _ _ _ (by decide : (255 : Nat) ≠ 256)]
    have k6 : ∀ x : Nat, uM (uM (uM B 255 (400 + cs.length) (nI (opN c))) 256 (400 + cs.length) (nI (argN c))) 239 28 (nI (cs.length + 1)) 256 x = uM (uM B 255 (400 + cs.length) (nI (opN c))) 256 (400 + cs.length) (nI (argN c)) 256 x := fun x => by
      rw [uM_off _ _ _ (by decide : (256 : Nat) ≠ 239)]
    rw [k5, k6]
    by_cases e : j = cs.length
    · rw [e, uM_eq, uM_eq, gA2]
      exact ⟨rfl, rfl⟩
    · rw [uM_ne _ _ _ (by omega), uM_ne _ _ _ (by omega), uM_off _ _ _ (by decide : (256 : Nat) ≠ 255), gA1 _ _ _ (by omega)]
      exact h5 j (by omega)
  · rw [uM_ne _ _ _ (by decide), uM_off _ _ _ (by decide), uM_off _ _ _ (by decide)]; exact h6
  · rw [uM_ne _ _ _ (by decide), uM_off _ _ _ (by decide), uM_off _ _ _ (by decide)]; exact h7
  · rw [uM_off _ _ _ (by decide), uM_off _ _ _ (by decide), uM_off _ _ _ (by decide)]; exact h8 j hj
/-- of a token that is no row: how it ends -/
theorem rE_tEn {r0 s : Nat} (h : isR r0 (b s) = false) : rE n b s = tEn n b r0 s := by
  unfold rE tEn
  rw [if_neg (show ¬ isR r0 (b s) = true by rw [h]; decide)]
theorem isR1 (c : Nat) : isR 194 c = false := by
  unfold isR
  rw [sgs_1, show lawL.contains 34 = false from by decide, Bool.and_false]
theorem rE_le {s : Nat} (hs : s < n) : s < rE n b s ∧ rE n b s ≤ n := by
  unfold rE
  have pos : ∀ p : Nat → Bool, p s = true → s < rn p (n - s) s ∧ rn p (n - s) s ≤ n := fun p hp => by
    have := rn_ge p (n - s - 1) (s + 1)
    rw [show n - s = (n - s - 1) + 1 by omega, rn_t hp]
    omega
  by_cases z1 : isW (b s) = true
  · rw [if_pos z1]
    exact pos (fun i => isW (b i)) z1
  · rw [if_neg z1]
    by_cases z2 : isD (b s) = true
    · rw [if_pos z2]
      exact pos (fun i => isD (b i)) z2
    · rw [if_neg z2]
      omega
/-- reading on, when the token is no row -/
theorem F_nx {r0 : Nat} (f : FP B n b) (w : WB n b) (hr : isT r0) (h : FTk B n b r0 i) (hi : ts n b r0 i < n) (hn : isR r0 (b (ts n b r0 i)) = false) : ∃ B', f_X11_reads B = some B' ∧ (∀ j, j ≠ 239 → B' j = B j) ∧ (∀ i, i < 17 ∨ 20 < i → B' 239 i = B 239 i) ∧ FTk B' n b r0 (i + 1) := by
  obtain ⟨-, -, h⟩ := h
  rw [if_pos hi] at h
  have e : rE n b (ts n b r0 i) = tp n b r0 (i + 1) := rE_tEn hn
  have le := rE_le (b := b) hi
  rw [e] at h le
  exact F_rd f w hr h le.2
theorem FS.read (h : FS B0 B n b i cs pe o) (f : FP B0 n b) (w : WB n b) (hi : ts n b 194 i < n) : ∃ B', f_X11_reads B = some B' ∧ FS B0 B' n b (i + 1) cs pe o := by
  obtain ⟨h1, h2, h3, ⟨h4, h5⟩, h6, h7, h8⟩ := h
  obtain ⟨B', e, a1, a2, a3⟩ := F_nx (h2.fp f) w isT1 h3 hi (isR1 _)
  refine ⟨B', e, fun k p q r s => by rw [a1 k p]; exact h1 k p q r s, h2.of a1 a2, a3, ⟨by rw [a2 28 (by omega)]; exact h4, fun j hj => by rw [a1 255 (by decide), a1 256 (by decide)]; exact h5 j hj⟩, by rw [a2 29 (by omega)]; exact h6, by rw [a2 31 (by omega)]; exact h7, fun j hj => by rw [a1 257 (by decide)]; exact h8 j hj⟩
theorem FS.wait (h : FS B0 B n b i cs pe o) (hl : pe.length < 40) (x : Nat) : ∃ B', f_X11_waits (nI x) B = some B' ∧ FS B0 B' n b i cs (pe ++ [x]) o := by
  obtain ⟨h1, h2, h3, ⟨h4, h5⟩, h6, h7, h8⟩ := h
  refine ⟨uM (uM B 257 pe.length (nI x)) 239 31 (nI (pe.length + 1)), ?_, fun k p q r s => ?_, ?_, ?_, ⟨?_, fun j hj => ?_⟩, ?_, ?_, fun j hj => ?_⟩
  · unfold f_X11_waits
    rw [h7, gd_t (by omega) (by omega), ix_nI (by omega), nm_x, uM_off _ _ _ (by decide), h7, nm_x, nI_1]
  · rw [uM_off _ _ _ p, uM_off _ _ _ s]; exact h1 k p q r s
  · exact (h2.u kn_p (fun q => absurd q (by decide))).u kn_0 (fun _ => rfl)
  · exact h3.congr fun j p q => by rw [uM_ne _ _ _ (by omega), uM_off _ _ _ (by decide)]
  · rw [uM_ne _ _ _ (by decide), uM_off _ _ _ (by decide)]; exact h4
  · rw [uM_off _ _ _ (by decide), uM_off _ _ _ (by decide), uM_off _ _ _ (by decide), uM_off _ _ _ (by decide)]; exact h5 j hj
  · rw [uM_ne _ _ _ (by decide), uM_off _ _ _ (by decide)]; exact h6
  · rw [uM_eq, lA]
  · rw [lA] at hj
    rw [uM_off _ _ _ (by decide)]
    by_cases e : j = pe.length
    · rw [e, uM_eq, gA2]
    · rw [uM_ne _ _ _ e, gA1 _ _ _ (by omega)]; exact h8 j (by omega)
/-- how much is open is told anew -/
theorem FS.op (h : FS B0 B n b i cs pe o) (o' : Nat) : FS B0 (uM B 239 29 (nI o')) n b i cs pe o' := by
  obtain ⟨h1, h2, h3, ⟨h4, h5⟩, h6, h7, h8⟩ := h
  exact ⟨fun k p q r s => by rw [uM_off _ _ _ p]; exact h1 k p q r s, h2.u kn_0 (fun _ => rfl), h3.congr fun j p q => by rw [uM_ne _ _ _ (by omega)], ⟨by rw [uM_ne _ _ _ (by decide)]; exact h4, fun j hj => by rw [uM_off _ _ _ (by decide), uM_off _ _ _ (by decide)]; exact h5 j hj⟩, uM_eq _ _ _ _, by rw [uM_ne _ _ _ (by decide)]; exact h7, fun j hj => by rw [uM_off _ _ _ (by decide)]; exact h8 j hj⟩
/-- the last that waits comes out -/
theorem FS.pop {x : Nat} (h : FS B0 B n b i cs (pe ++ [x]) o) : FS B0 (uM B 239 31 (nI pe.length)) n b i cs pe o := by
  obtain ⟨h1, h2, h3, ⟨h4, h5⟩, h6, h7, h8⟩ := h
  exact ⟨fun k p q r s => by rw [uM_off _ _ _ p]; exact h1 k p q r s, h2.u kn_0 (fun _ => rfl), h3.congr fun j p q => by rw [uM_ne _ _ _ (by omega)], ⟨by rw [uM_ne _ _ _ (by decide)]; exact h4, fun j hj => by rw [uM_off _ _ _ (by decide), uM_off _ _ _ (by decide)]; exact h5 j hj⟩, by rw [uM_ne _ _ _ (by decide)]; exact h6, uM_eq _ _ _ _, fun j hj => by
    rw [uM_off _ _ _ (by decide)]
    have := h8 j (by rw [lA]; omega)
    rw [gA1 _ _ _ hj] at this
    exact this⟩
/-- what waits on top is not x -/
def nt (pe : List Nat) (x : Nat) : Prop := pe.length = 0 ∨ pe.getD (pe.length - 1) 0 ≠ x
theorem nt_a {pe : List Nat} {x y : Nat} (h : y ≠ x) : nt (pe ++ [y]) x := by
  refine Or.inr ?_
  rw [lA, Nat.add_sub_cancel, gA2]
  exact h
theorem FS.settle0 {x : Nat} (h : FS B0 B n b i cs pe o) (hx : nt pe x) (lx : x < 100) (lp : ∀ y, y ∈ pe → y < 100) (hl : pe.length ≤ 40) (fuel : Nat) : f_X11_settles_0 (fuel + 1) (nI x) B = some B := by
  obtain ⟨h1, h2, h3, h4, h6, h7, h8⟩ := h
  show f_X11_settles_0b (f_X11_settles_0 fuel) (nI x) B = some B
  unfold f_X11_settles_0b
  rw [h7]
  by_cases c : pe.length = 0
  · rw [if_pos (show nI pe.length ≤ 0 by rw [c]; exact nI_ge_t (b := 0) (Nat.le_refl 0) (by omega))]
  · have hlt : pe.length - 1 < pe.length := by omega
    rw [if_neg (show ¬ nI pe.length ≤ 0 from nI_ge_f (b := 0) (by omega) (by omega)), nI_sub1 (by omega), gd_t (by omega) (by omega), ix_nI (by omega), h8 _ hlt, if_neg]
    intro e
    have hm : pe.getD (pe.length - 1) 0 ∈ pe := by
      rw [List.getD_eq_getElem?_getD, List.getElem?_eq_getElem hlt]
      exact List.getElem_mem hlt
    have := lp _ hm
    have := (nI_inj (by omega) (by omega)).mp e
    rcases hx with q | q
    · exact c q
    · exact q this
theorem rep_s {α : Type} (l : List α) (k : Nat) (x : α) : l ++ List.replicate (k + 1) x = (l ++ List.replicate k x) ++ [x] := by
  rw [List.replicate_succ', List.append_assoc]
theorem rep_c {α : Type} (l : List α) (k : Nat) (x : α) : l ++ List.replicate (k + 1) x = (l ++ [x]) ++ List.replicate k x := by
  rw [List.replicate_succ, List.append_assoc]
  rfl
theorem FS.settle {x : Nat} (hx : nt pe x) (h9 : x = 9 ∨ x = 10 ∨ x = 11) (lp : ∀ y, y ∈ pe → y < 100) : ∀ (k : Nat) (cs : List Nat) (B : Mm) (o fuel : Nat), k < fuel → FS B0 B n b i cs (pe ++ List.replicate k x) o → cs.length + k ≤ 400 → pe.length + k ≤ 40 → (x = 9 → k ≤ o) → ∃ B', f_X11_settles_0 fuel (nI x) B = some B' ∧ FS B0 B' n b i (cs ++ List.replicate k (19998 + x)) pe (if x = 9 then o - k else o) := by
  intro k
  induction k with
  | zero =>
    intro cs B o fuel hf h hl1 hl2 ho
    cases fuel with
    | zero => omega
    | succ fu =>
      rw [List.replicate_zero, List.append_nil] at h
      refine ⟨B, FS.settle0 h hx (by omega) lp (by omega) fu, ?_⟩
      rw [List.replicate_zero, List.append_nil, Nat.sub_zero]
      split <;> exact h
  | succ k ih =>
    intro cs B o fuel hf h hl1 hl2 ho
    cases fuel with
    | zero => omega
    | succ fu =>
      rw [rep_s] at h
      have h' := h.pop
      obtain ⟨B2, e2, g2⟩ := h'.emit (c := 19998 + x) (by omega) (x := nI x) (y := 0) (by
        unfold opN
        rw [if_neg (by omega), if_neg (by omega)]
        exact congrArg nI (by omega)) (by
        unfold argN
        rw [if_neg (by omega), if_neg (by omega)]
        rfl)
      have ll : (pe ++ List.replicate k x).length = pe.length + k := by simp
      have h8 := h.2.2.2.2.2.2 (pe ++ List.replicate k x).length (by rw [lA]; omega)
      rw [gA2] at h8
      have h7 := h.2.2.2.2.2.1
      rw [lA] at h7
      show ∃ B', f_X11_settles_0b (f_X11_settles_0 fu) (nI x) B = some B' ∧ _
      unfold f_X11_settles_0b
      rw [h7, if_neg (show ¬ nI ((pe ++ List.replicate k x).length + 1) ≤ 0 from nI_ge_f (b := 0) (by omega) (by omega)), nI_sub1 (by omega), Nat.add_sub_cancel, gd_t (by omega) (by omega), ix_nI (by omega), h8, if_pos rfl, nm_x, e2]
      simp only [bind_x]
      rw [rep_c]
      rcases h9 with e | e
      · subst e
        have g3 := g2.op (o - 1)
        obtain ⟨B3, e3, g4⟩ := ih (cs ++ [19998 + 9]) _ (o - 1) fu (by omega) g3 (by rw [lA]; omega) (by omega) (fun _ => by have := ho rfl; omega)
        rw [if_pos (show nI 9 = 9 from rfl), nm_x, g2.2.2.2.2.1, nI_sub1 (by have := ho rfl; omega)]
        refine ⟨B3, e3, ?_⟩
        rw [if_pos rfl] at g4 ⊢
        rw [show o - (k + 1) = o - 1 - k by omega]
        exact g4
      · have ne : ¬ x = 9 := by omega
        obtain ⟨B3, e3, g4⟩ := ih (cs ++ [19998 + x]) _ o fu (by omega) g2 (by rw [lA]; omega) (by omega) (fun q => absurd q ne)
        rw [if_neg (show ¬ nI x = 9 from fun q => ne ((nI_inj (b := 9) (by omega) (by omega)).mp q))]
        refine ⟨B3, e3, ?_⟩
        rw [if_neg ne] at g4 ⊢
        exact g4
/-! ===== both at once ===== -/
def JS (A0 B0 : Mm) (n m : Nat) (b : Nat → Nat) (A B : Mm) (i : Nat) (cs pe : List Nat) (o : Nat) : Prop := i ≤ m ∧ CS A0 A i cs ∧ FS B0 B n b i cs pe o
/-- both end with the same fault -/
def JF (A0 B0 : Mm) (c g : Option (Int32 × Mm)) : Prop := ∃ A' B', c = some (0, A') ∧ g = some (-1, B') ∧ CK A0 A' ∧ FK B0 B' ∧ A' 184 2 = B' 239 32 ∧ A' 184 3 = B' 239 33
theorem CK.err {A0 A : Mm} (h : CK A0 A) (k p : Int32) : CK A0 (uM (uM A 184 2 k) 184 3 p) := by
  refine ⟨fun j p q => ?_, fun j p q => ?_⟩
  · rw [uM_off _ _ _ q, uM_off _ _ _ q]; exact h.1 j p q
  · rw [uM_ne _ _ _ q, uM_ne _ _ _ p]; exact h.2 j p q
theorem FK.err {B0 B : Mm} (h : FK B0 B) (k p : Int32) : FK B0 (uM (uM B 239 32 k) 239 33 p) := (h.u kn_0 (fun _ => _root_.rfl)).u kn_0 (fun _ => _root_.rfl)
theorem JF.mk {A0 A B0 B : Mm} (h : CK A0 A) (g : FK B0 B) (k p : Int32) : JF A0 B0 (some (0, uM (uM A 184 2 k) 184 3 p)) (some (-1, uM (uM B 239 32 k) 239 33 p)) := by
  refine ⟨_, _, rfl, rfl, h.err k p, g.err k p, ?_, ?_⟩
  · rw [uM_ne _ _ _ (by decide), uM_eq, uM_ne _ _ _ (by decide), uM_eq]
  · rw [uM_eq, uM_eq]
theorem FTk.errs {r0 : Nat} (h : FTk B n b r0 i) (k : Int32) : f_X11_errs k B = some (-1, uM (uM B 239 32 k) 239 33 (nI (pl n b r0 i))) := by
  unfold f_X11_errs
  rw [nm_x, uM_ne _ _ _ (by decide), h.1, nm_x]
theorem JS.err (h : JS A0 B0 n m b A B i cs pe o) (t : TK A0 n b 194 m) (k : Int32) : f_X8_wrong 194 k A = some (0, uM (uM A 184 2 k) 184 3 (nI (pl n b 194 i))) ∧ f_X11_errs k B = some (-1, uM (uM B 239 32 k) 239 33 (nI (pl n b 194 i))) ∧ JF A0 B0 (some (0, uM (uM A 184 2 k) 184 3 (nI (pl n b 194 i)))) (some (-1, uM (uM B 239 32 k) 239 33 (nI (pl n b 194 i)))) := by
  obtain ⟨h1, h2, h3⟩ := h
  exact ⟨(h2.tk t).wrong isT1 h2.2.2.2.1 h1 k, h3.2.2.1.errs k, JF.mk h2.ck h3.2.1 k _⟩
end BOTH
