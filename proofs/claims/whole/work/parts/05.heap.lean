/-! The rules that read and write memory, call, and return. -/
def inB (i : Int32) (n : Nat) : Bool := decide (0 ≤ i.toInt) && decide (i.toInt < n)
theorem inB_vp {i : Int32} {n : Nat} (h : inB i n = true) : vp_in i n := by
  unfold inB at h
  rw [Bool.and_eq_true, decide_eq_true_eq, decide_eq_true_eq] at h
  exact vp_in_iff.mpr h
abbrev ix (i : Int32) : Nat := i.toNatClampNeg
theorem inB_lt {i : Int32} {n : Nat} (h : inB i n = true) : ix i < n := Nat.not_le.mp fun q => inB_vp h (Or.inr q)
def Wp (X : CX) (b : Bool) (Z : Sh) (S : Mm) (t : State) : Prop := (b = true → t.heap.size = xb X + Z.length) ∧ va_P (xD X) vwCl (cW X Z S) t.heap
def Wd (X : CX) (b : Bool) (Z : Sh) (S : Mm) (U : State) : Prop := Wp X b Z S U ∧ va_K (xD X) vwCl (tyW X) U ∧ Sx X U
theorem nw_all {P : Cond → Prop} (h : ∀ (a : String) (i : Nat) (x : MethodName) (h : String), Cond.methodLinkNest a i x h ∈ nwL → P (.methodLinkNest a i x h)) : ∀ w ∈ nwL, P w := by
  intro w hw
  have hw2 := hw
  simp only [nwL, List.mem_cons, List.not_mem_nil, or_false] at hw2
  rcases hw2 with rfl | rfl | rfl | rfl | rfl | rfl | rfl | rfl | rfl <;> exact h _ _ _ _ hw
theorem Sx.warm {X : CX} {u U : State} (hW : u.WarmedH U.vm) (hz : xb X ≤ U.heap.size) (hq : ∀ a : Nat, a < u.heap.size → ¬ aF X a → U.heap[a]? = u.heap[a]?) (h : Sx X u) : Sx X U := by
  obtain ⟨-, h1, h2, h3, h4, h5, h6⟩ := h
  exact ⟨hz, (h1.moved hW.alike).kept hq, (h2.moved hW.alike).kept hq, (h3.moved hW.alike).kept hq, nw_all fun a i x k hm => va_Nw.warmM hW (h4 _ hm), fun q hm => (h5 q hm).warm hW, h6.moved hW.alike⟩
theorem Sx.same {X : CX} {u U : State} (hv : U.vm = u.vm) (hh : U.heap = u.heap) (h : Sx X u) : Sx X U := by
  obtain ⟨h0, h1, h2, h3, h4, h5, h6⟩ := h
  have hA : u.vm.Alike U.vm := by rw [hv]; exact Vm.Alike.refl u.vm
  have hq : ∀ a : Nat, a < u.heap.size → ¬ aF X a → U.heap[a]? = u.heap[a]? := fun a _ _ => by rw [hh]
  exact ⟨by rw [hh]; exact h0, (h1.moved hA).kept hq, (h2.moved hA).kept hq, (h3.moved hA).kept hq, nw_all fun a i x k hm => (h4 _ hm).same rfl hv.symm, fun q hm => (h5 q hm).same hv, h6.moved hA⟩
theorem upd_upd_cF {X : CX} {ci N : Nat} {R : Nat → Option Nat} {f : Nat → Int32} {k : Nat} {v : Int32} (hi : fI ci k = true) : (cF X ci N R f).set k (.int v) = cF X ci N R (upd f k v) := by
  apply List.ext_getElem?
  intro j
  rw [List.getElem?_set]
  have hlen : (cF X ci N R f).length = N := by simp [cF]
  by_cases hj : j < N
  · by_cases hk : k = j
    · subst hk
      rw [if_pos rfl, if_pos (by rw [hlen]; exact hj), cF_get hj, if_pos hi]
      simp [upd]
    · rw [if_neg hk, cF_get hj, cF_get hj]
      have : upd f k v j = f j := by simp [upd, Ne.symm hk]
      rw [this]
  · by_cases hk : k = j
    · subst hk
      rw [if_pos rfl, if_neg (by rw [hlen]; exact hj), List.getElem?_eq_none (by simp [cF]; omega)]
    · rw [if_neg hk, List.getElem?_eq_none (by rw [hlen]; omega), List.getElem?_eq_none (by simp [cF]; omega)]
section HEAP
variable {ρ : Type} {X : CX} {E : FE} {b : Bool} {Qf : ρ → State → Prop} {pc : Nat} {L : List (Option Value)} {st : List Value} {Z : Sh} {S : Mm} {n w : Nat} {o : Option ρ} {own : String} {cc : ByteArray} {nL : Nat}
theorem a_getI (F : Fr X E own cc nL) {ci N idx a k : Nat} {C : String} {T : u_T} {ty : Nat → FieldType} (cf : CF ci C T N ty) (d : decode cc pc = .ok (.getfield idx, 3)) (hw : Cond.fieldLink own idx (T k).1 (T k).2.1 (T k).2.2.1 ∈ lwG) (hk : k < N) (hi : fI ci k = true) (ha : a < Z.length) (hz : sK Z a = (ci + 2, N)) (g : At X E b Qf (pc + 3) L (.int (S a k) :: st) Z S n w o) : At X E b Qf pc L (.ref a :: st) Z S n w o := by
  intro r ho hZ ls H locs hl hs hP hS
  obtain ⟨hx, hb, hml, hown, hts, hK, hxb, hSx⟩ := F
  have he : (cW X Z S)[a]? = some (gA X a, .inr (ci, cF X ci N (sR Z a) (S a))) := by rw [cW_get X Z S ha, cE_obj hz, gA_lo (by omega)]
  exact va_get hx hb hts cf.2.1 hown hK hP a he cf.1 k hk (hts _ hw) (fun _ h => h) (v := .int (S a k)) (by rw [cF_get hk, if_pos hi]) d (g r ho hZ ls H locs hl hs hP hS)
theorem a_getR (F : Fr X E own cc nL) {ci N idx a k c : Nat} {C : String} {T : u_T} {ty : Nat → FieldType} (cf : CF ci C T N ty) (d : decode cc pc = .ok (.getfield idx, 3)) (hw : Cond.fieldLink own idx (T k).1 (T k).2.1 (T k).2.2.1 ∈ lwG) (hk : k < N) (hi : fI ci k = false) (ha : a < Z.length) (hz : sK Z a = (ci + 2, N)) (hr : sR Z a k = some c) (g : At X E b Qf (pc + 3) L (.ref c :: st) Z S n w o) : At X E b Qf pc L (.ref a :: st) Z S n w o := by
  intro r ho hZ ls H locs hl hs hP hS
  obtain ⟨hx, hb, hml, hown, hts, hK, hxb, hSx⟩ := F
  have he : (cW X Z S)[a]? = some (gA X a, .inr (ci, cF X ci N (sR Z a) (S a))) := by rw [cW_get X Z S ha, cE_obj hz, gA_lo (by omega)]
  exact va_get hx hb hts cf.2.1 hown hK hP a he cf.1 k hk (hts _ hw) (fun _ h => h) (v := .ref (gA X c)) (by rw [cF_get hk, if_neg (by rw [hi]; decide), hr]; rfl) d (g r ho hZ ls H locs hl hs hP hS)
/-- a field's new value, at the machine -/
theorem a_put0 (F : Fr X E own cc nL) {ci N idx a k : Nat} {C : String} {T : u_T} {ty : Nat → FieldType} (cf : CF ci C T N ty) (d : decode cc pc = .ok (.putfield idx, 3)) (hw : Cond.fieldLink own idx (T k).1 (T k).2.1 (T k).2.2.1 ∈ lwG) (hk : k < N) (ha : a < Z.length) (hz : sK Z a = (ci + 2, N)) (hfin : (T k).2.2.2 = true → (eF E).name = "<init>" ∧ (T k).1 = own) {v : Value} (hn : narrow (ty k) v = v) (hfit : fits (ty k) v = true) {Q : State → Prop} {ls : Array Slot} {H : Heap} {locs : List Loc} {rest : List Value} (hP : va_P (xD X) vwCl (cW X Z S) H) (hS : va_S (aF X) (eS E).heap H locs) (hZ : Z.length ≤ 1048576)
    (kk : ∀ (H1 : Heap) (locs1 : List Loc), H1.size = H.size → va_P (xD X) vwCl ((cW X Z S).set a (gA X a, .inr (ci, (cF X ci N (sR Z a) (S a)).set k v))) H1 → va_S (aF X) (eS E).heap H1 locs1 → W (eP E) (xL X) (eE E) (eR E) (eS E) (eM E) (eA E) (eB E) (eF E) (eC E) H1 locs1 n w Q (F0 (eM E) (pc + 3) ls rest)) : W (eP E) (xL X) (eE E) (eR E) (eS E) (eM E) (eA E) (eB E) (eF E) (eC E) H locs n w Q (F0 (eM E) pc ls (v :: .ref (gA X a) :: rest)) := by
  obtain ⟨hx, hb, hml, hown, hts, hK, hxb, hSx⟩ := F
  obtain ⟨hc, hin, hty, hnm⟩ := cf
  have he : (cW X Z S)[a]? = some (gA X a, .inr (ci, cF X ci N (sR Z a) (S a))) := by rw [cW_get X Z S ha, cE_obj hz, gA_lo (by omega)]
  have hD := cW_D X Z S
  have hap := va_apart (own := own) hts hin ty hty hnm hK hc
  obtain ⟨r, h1, cell, q1, q2, q3, q4⟩ := hP a _ he
  have hr : r = (C, T, N) := Option.some.inj (h1.symm.trans hc)
  subst hr
  obtain ⟨hSl, hfc, kC, hkC, hkind⟩ := hK.1 ci _ hc
  obtain ⟨cf', kf, fi, f, hi, hsl⟩ := hSl k hk
  have hlay := hts _ (hin _ (u_in_lay hk))
  have hst := (u_facts hfc hkC (u_lays hts hin hk) hi).1
  have hlen : k < (cF X ci N (sR Z a) (S a)).length := by simp [cF]; exact hk
  by_cases hf : (T k).2.2.2 = true
  · unfold u_lay at hlay
    rw [if_pos hf] at hlay
    have hcf : (eM E).cls = cf' := by
      obtain ⟨_, _, c', _, _, _, -, -, hf', -, -, -, hown2, -⟩ := Cond.laysFinal_spec hlay
      have e1 : c' = cf' := by have := hi.symm.trans hf'; simp at this; exact this.1.symm
      rw [(hfin hf).2] at hown2
      rw [← e1]; exact Option.some.inj (hown.symm.trans hown2)
    have h6 := u_fits hfc hkC hkind (Or.inr hlay) hi (hty k hk) hn hfit
    refine W.putFinK hx hb hown (hts _ hw) hi hst hcf (hfin hf).1 (by rw [q2]; exact h6) q1 q3 (by rw [hsl]; exact k2_hasslot (q4 k hk)) rfl rfl d fun H' e1 e2 e3 => ?_
    rw [hsl] at e1 ⊢
    exact kk H' _ e2 (hP.set hD he ⟨_, hc, t_OB.to (V := updV (vp_V (cF X ci N (sR Z a) (S a))) k v) ⟨_, e1, q2, q3, t_set q4 hap hk v⟩ (fun j _ => vp_updV_set hlen v j)⟩ e3) (hS.put e2 e3 (hD.2 a _ he))
  · unfold u_lay at hlay
    rw [if_neg hf] at hlay
    have h6 := u_store hfc hkC hkind hlay hi (hty k hk) hn hfit
    refine W.putK hx hb (f := f) ⟨hown, hts _ hw, ⟨_, _, _, hi⟩, hst⟩ (by rw [q2]; exact h6) q1 q3 (by rw [hsl]; exact k2_hasslot (q4 k hk)) rfl rfl d fun H' e1 e2 e3 => ?_
    rw [hsl] at e1 ⊢
    exact kk H' _ e2 (hP.set hD he ⟨_, hc, t_OB.to (V := updV (vp_V (cF X ci N (sR Z a) (S a))) k v) ⟨_, e1, q2, q3, t_set q4 hap hk v⟩ (fun j _ => vp_updV_set hlen v j)⟩ e3) (hS.put e2 e3 (hD.2 a _ he))
theorem narrow_01 {v : Int32} (h : v = 0 ∨ v = 1) : narrow .boolean (.int v) = .int v := by rcases h with rfl | rfl <;> decide +kernel
theorem fits_b (v : Int32) (h : v = 0 ∨ v = 1) : fits .boolean (.int v) = true := by rcases h with rfl | rfl <;> decide +kernel
theorem a_putI (F : Fr X E own cc nL) {ci N idx a k : Nat} {C : String} {T : u_T} {ty : Nat → FieldType} (cf : CF ci C T N ty) (d : decode cc pc = .ok (.putfield idx, 3)) (hw : Cond.fieldLink own idx (T k).1 (T k).2.1 (T k).2.2.1 ∈ lwG) (hk : k < N) (hi : fI ci k = true) (hfin : (T k).2.2.2 = false) (ht : ty k = .int) (ha : a < Z.length) (hz : sK Z a = (ci + 2, N)) {v : Int32} (g : At X E b Qf (pc + 3) L st Z (uM S a k v) n w o) : At X E b Qf pc L (.int v :: .ref a :: st) Z S n w o := by
  intro r ho hZ ls H locs hl hs hP hS
  refine a_put0 F cf d hw hk ha hz (fun q => by rw [hfin] at q; cases q) (v := .int v) (by rw [ht]; exact vp_nar_int v) (by rw [ht]; rfl) hP hS hZ fun H1 locs1 z hP1 hS1 => ?_
  refine g r ho hZ ls H1 locs1 hl (fun q => z.trans (hs q)) ?_ hS1
  rw [uM_rM, ← cW_rM (e := .inr (ci, cF X ci N (sR Z a) (upd (S a) k v))) (cE_obj hz).symm, ← upd_upd_cF hi, ← gA_lo (X := X) (k := a) (by omega)]
  exact hP1
theorem a_putZK (F : Fr X E own cc nL) {ci N idx a k : Nat} {C : String} {T : u_T} {ty : Nat → FieldType} (cf : CF ci C T N ty) (d : decode cc pc = .ok (.putfield idx, 3)) (hw : Cond.fieldLink own idx (T k).1 (T k).2.1 (T k).2.2.1 ∈ lwG) (hk : k < N) (hi : fI ci k = true) (hfin : (T k).2.2.2 = false) (ht : ty k = .boolean) (ha : a < Z.length) (hz : sK Z a = (ci + 2, N)) {v : Int32} (hv : v = 0 ∨ v = 1) (g : At X E b Qf (pc + 3) L st Z (uM S a k v) n w o) : At X E b Qf pc L (.int v :: .ref a :: st) Z S n w o := by
  intro r ho hZ ls H locs hl hs hP hS
  refine a_put0 F cf d hw hk ha hz (fun q => by rw [hfin] at q; cases q) (v := .int v) (by rw [ht]; exact narrow_01 hv) (by rw [ht]; exact fits_b v hv) hP hS hZ fun H1 locs1 z hP1 hS1 => ?_
  refine g r ho hZ ls H1 locs1 hl (fun q => z.trans (hs q)) ?_ hS1
  rw [uM_rM, ← cW_rM (e := .inr (ci, cF X ci N (sR Z a) (upd (S a) k v))) (cE_obj hz).symm, ← upd_upd_cF hi, ← gA_lo (X := X) (k := a) (by omega)]
  exact hP1
theorem a_putZ (F : Fr X E own cc nL) {ci N idx a k : Nat} {C : String} {T : u_T} {ty : Nat → FieldType} (cf : CF ci C T N ty) (d : decode cc pc = .ok (.putfield idx, 3)) (hw : Cond.fieldLink own idx (T k).1 (T k).2.1 (T k).2.2.1 ∈ lwG) (hk : k < N) (hi : fI ci k = true) (hfin : (T k).2.2.2 = false) (ht : ty k = .boolean) (ha : a < Z.length) (hz : sK Z a = (ci + 2, N)) {v : Int32} (g : At X E b Qf (pc + 3) L st Z (uM S a k v) n w o) : At X E b Qf pc L (.int v :: .ref a :: st) Z S n w (if v = 0 ∨ v = 1 then o else none) := by
  intro r ho
  by_cases hv : v = 0 ∨ v = 1
  · rw [if_pos hv] at ho
    exact a_putZK F cf d hw hk hi hfin ht ha hz hv g r ho
  · rw [if_neg hv] at ho
    cases ho
theorem a_iald (F : Fr X E own cc nL) {a m : Nat} {i : Int32} (d : decode cc pc = .ok (.iaload, 1)) (ha : a < Z.length) (hz : sK Z a = (0, m)) (g : At X E b Qf (pc + 1) L (.int (S a (ix i)) :: st) Z S n w o) : At X E b Qf pc L (.int i :: .ref a :: st) Z S n w (if inB i m = true then o else none) := by
  intro r ho hZ ls H locs hl hs hP hS
  by_cases hi : inB i m = true
  · rw [if_pos hi] at ho
    have he : (cW X Z S)[a]? = some (gA X a, .inl (xI X, m, .inl (S a))) := by rw [cW_get X Z S ha, cE_arr hz, gA_lo (by omega)]
    exact va_iald F.1 F.2.1 F.2.2.2.2.2.1 hP a 0 he rfl (inB_vp hi) d (g r ho hZ ls H locs hl hs hP hS)
  · rw [if_neg hi] at ho
    cases ho
theorem a_ialdK (F : Fr X E own cc nL) {a m : Nat} {i : Int32} (k : Nat) (d : decode cc pc = .ok (.iaload, 1)) (ha : a < Z.length) (hz : sK Z a = (0, m)) (hi : inB i m = true) (hk : ix i = k) (g : At X E b Qf (pc + 1) L (.int (S a k) :: st) Z S n w o) : At X E b Qf pc L (.int i :: .ref a :: st) Z S n w o := by
  have h := a_iald (Qf := Qf) F d ha hz (i := i) (by rw [hk]; exact g)
  rw [if_pos hi] at h
  exact h
theorem a_iast (F : Fr X E own cc nL) {a m : Nat} {i v : Int32} (d : decode cc pc = .ok (.iastore, 1)) (ha : a < Z.length) (hz : sK Z a = (0, m)) (g : At X E b Qf (pc + 1) L st Z (uM S a (ix i) v) n w o) : At X E b Qf pc L (.int v :: .int i :: .ref a :: st) Z S n w (if inB i m = true then o else none) := by
  intro r ho hZ ls H locs hl hs hP hS
  by_cases hi : inB i m = true
  · rw [if_pos hi] at ho
    have he : (cW X Z S)[a]? = some (gA X a, .inl (xI X, m, .inl (S a))) := by rw [cW_get X Z S ha, cE_arr hz, gA_lo (by omega)]
    have hD := cW_D X Z S
    refine W.iast F.1 F.2.1 (hP a _ he) ((F.2.2.2.2.2.1.2 0 _ rfl).1 m (fun j => .int (S a j))) (fun q => by cases q) (by show ¬ (i < 0 ∨ (arrV _ _ _).slots.size ≤ _); rw [arrV_size]; exact inB_vp hi) rfl rfl d fun H1 e z oq => ?_
    refine g r ho hZ ls H1 _ hl (fun q => z.trans (hs q)) ?_ (hS.put z oq (hD.2 a _ he))
    rw [uM_rM, ← cW_rM (e := .inl (xI X, m, .inl (upd (S a) (ix i) v))) (cE_arr hz).symm, ← gA_lo (X := X) (k := a) (by omega)]
    refine hP.set hD he ?_ oq
    show H1[gA X a]? = some (vp_cell _ _)
    rw [e]
    show some ((vp_cell _ (m, .inl (S a))).setSlot _ _) = _
    rw [vp_cell_i, vp_cell_i, arrV_store]
    congr 2
    funext q
    by_cases hq : q = ix i
    · subst hq
      simp [updV, upd]
    · simp [updV, upd, hq]
  · rw [if_neg hi] at ho
    cases ho
theorem a_iastK (F : Fr X E own cc nL) {a m : Nat} {i v : Int32} (k : Nat) (d : decode cc pc = .ok (.iastore, 1)) (ha : a < Z.length) (hz : sK Z a = (0, m)) (hi : inB i m = true) (hk : ix i = k) (g : At X E b Qf (pc + 1) L st Z (uM S a k v) n w o) : At X E b Qf pc L (.int v :: .int i :: .ref a :: st) Z S n w o := by
  have h := a_iast (Qf := Qf) F d ha hz (i := i) (v := v) (by rw [hk]; exact g)
  rw [if_pos hi] at h
  exact h
theorem a_alen (F : Fr X E own cc nL) {a m : Nat} {v : Int32} (d : decode cc pc = .ok (.arraylength, 1)) (ha : a < Z.length) (hz : sK Z a = (0, m)) (hv : Int32.ofNat m = v) (g : At X E b Qf (pc + 1) L (.int v :: st) Z S n w o) : At X E b Qf pc L (.ref a :: st) Z S n w o := by
  intro r ho hZ ls H locs hl hs hP hS
  have he : (cW X Z S)[a]? = some (gA X a, .inl (xI X, m, .inl (S a))) := by rw [cW_get X Z S ha, cE_arr hz, gA_lo (by omega)]
  exact va_alen F.1 F.2.1 F.2.2.2.2.2.1 hP a 0 he (ty := .int) rfl hv d (g r ho hZ ls H locs hl hs hP hS)
theorem a_aald (F : Fr X E own cc nL) {a m : Nat} {i : Int32} (f : Nat → Nat) (d : decode cc pc = .ok (.aaload, 1)) (ha : a < Z.length) (hz : sK Z a = (1, m)) (hr : ∀ k, k < m → sR Z a k = some (f k)) (g : inB i m = true → At X E b Qf (pc + 1) L (.ref (f (ix i)) :: st) Z S n w o) : At X E b Qf pc L (.int i :: .ref a :: st) Z S n w (if inB i m = true then o else none) := by
  intro r ho hZ ls H locs hl hs hP hS
  by_cases hi : inB i m = true
  · rw [if_pos hi] at ho
    have he : (cW X Z S)[a]? = some (gA X a, .inl (xC X, m, .inr (.inr (.inr (.inr (fun j => (sR Z a j).map (gA X))))))) := by rw [cW_get X Z S ha, cE_row hz, gA_lo (by omega)]
    refine va_aldq F.1 F.2.1 F.2.2.2.2.2.1 hP a 1 he rfl (inB_vp hi) d ?_
    rw [hr _ (inB_lt hi)]
    exact g hi r ho hZ ls H locs hl hs hP hS
  · rw [if_neg hi] at ho
    cases ho
/-- a row is copied into another one -/
theorem a_copy (F : Fr X E own cc nL) (hb0 : b = false) {a0 a1 m0 m1 idx : Nat} {sp dp c : Int32} (d : decode cc pc = .ok (.invokestatic idx, 3)) (hw : Cond.methodLink own idx arraycopyName ∈ lwG) (hL : L.length = nL) (ha0 : a0 < Z.length) (hz0 : sK Z a0 = (0, m0)) (ha1 : a1 < Z.length) (hz1 : sK Z a1 = (0, m1)) (hst : st.length ≤ 8) (hcat : (st.map fun v => v.category).sum ≤ 8) (hfr : 1 ≤ (eR E).frames) (hlo : 64 ≤ (eR E).locals)
    (hN : Cond.native arraycopyName ∈ lwG) (hSt : Cond.static arraycopyName ∈ lwG) (hIn : Cond.initialized "java/lang/System" ∈ lwG)
    (g : At X E b Qf (pc + 3) L st Z (rM S a1 (va_cpy (S a0) (S a1) (ix sp) (ix dp) (ix c))) n w o) : At X E b Qf pc L (.int c :: .int dp :: .ref a1 :: .int sp :: .ref a0 :: st) Z S n w (if ¬ sp < 0 ∧ ¬ dp < 0 ∧ ¬ c < 0 ∧ ix sp + ix c ≤ m0 ∧ ix dp + ix c ≤ m1 then o else none) := by
  intro r ho hZ ls H locs hl hs hP hS
  by_cases hi : ¬ sp < 0 ∧ ¬ dp < 0 ∧ ¬ c < 0 ∧ ix sp + ix c ≤ m0 ∧ ix dp + ix c ≤ m1
  · rw [if_pos hi] at ho
    obtain ⟨i1, i2, i3, i4, i5⟩ := hi
    have he0 : (cW X Z S)[a0]? = some (gA X a0, .inl (xI X, m0, .inl (S a0))) := by rw [cW_get X Z S ha0, cE_arr hz0, gA_lo (by omega)]
    have he1 : (cW X Z S)[a1]? = some (gA X a1, .inl (xI X, m1, .inl (S a1))) := by rw [cW_get X Z S ha1, cE_arr hz1, gA_lo (by omega)]
    obtain ⟨hx, hb, hml, hown, hts, hK, hxb, hSx⟩ := F
    refine va_copyi hx hb (hml.trans (hL.symm.trans hl.1.symm)) hown (hts _ hw) (hts _ hN) (hts _ hSt) (hts _ hIn) hK hP (cW_D X Z S) hS a0 a1 0 0 he0 he1 (ty := .int) rfl rfl rfl i1 i2 i3 i4 i5 (fun _ _ => rfl) hfr ?_ d fun H1 locs1 hP1 hD1 hS1 => ?_
    · have : ((st.map (cV X)).map fun v => v.category) = st.map fun v => v.category := by simp [Function.comp_def, cV_cat]
      rw [this]
      have h2 : nativeFrameWords "java/lang/System" "arraycopy" 5 + 11 ≤ 56 := by decide +kernel
      omega
    · refine g r ho hZ ls H1 locs1 hl (fun q => by rw [hb0] at q; cases q) ?_ hS1
      rw [← cW_rM (e := .inl (xI X, m1, .inl (va_cpy (S a0) (S a1) (ix sp) (ix dp) (ix c)))) (cE_arr hz1).symm, ← gA_lo (X := X) (k := a1) (by omega)]
      exact hP1
  · rw [if_neg hi] at ho
    cases ho
end HEAP
/-! contracts: a method of no allocation, with an int for an answer, or none -/
def Rm (E : FE) (dd : Nat) : Prop := dd ≤ (eR E).frames ∧ 100 * dd ≤ (eR E).locals
def mQi (X : CX) (Z : Sh) (E : FE) (r : Int32 × Mm) : State → Prop := MQ (eB E) (va_Qi (fun (v : Int32) (_ : Unit) => v = r.1) (fun _ t => Wp X false Z r.2 t) (aF X)) (eA E) (eS E) 0 0 (aF X)
def mQv (X : CX) (Z : Sh) (E : FE) (r : Mm) : State → Prop := MQ (eB E) (va_Qv (fun (_ : Unit) => True) (fun _ t => Wp X false Z r t) (aF X)) (eA E) (eS E) 0 0 (aF X)
def wsM (y : MethodName) (cc : ByteArray) (nL : Nat) (ret : Option FieldType) : List Cond := Cond.code y cc nL ret :: lwG
def rmM (dd : Nat) : Room := { frames := dd, cells := 0, slots := 0, locals := 100 * dd }
def CtI (X : CX) (Z : Sh) (y : MethodName) (cc : ByteArray) (nL : Nat) (ret : Option FieldType) (dd : Nat) (av : List Value) (S : Mm) (o : Option (Int32 × Mm)) : Prop :=
  ∀ r, o = some r → Met (xL X) y (wsM y cc nL ret) (rmM dd) (va_Pc (av.map (cV X)) (Wd X false Z S)) (va_Qi (fun (v : Int32) (_ : Unit) => v = r.1) (fun _ t => Wp X false Z r.2 t) (aF X)) 0 0 (aF X)
def CtV (X : CX) (Z : Sh) (y : MethodName) (cc : ByteArray) (nL : Nat) (dd : Nat) (av : List Value) (S : Mm) (o : Option Mm) : Prop :=
  ∀ r, o = some r → Met (xL X) y (wsM y cc nL none) (rmM dd) (va_Pc (av.map (cV X)) (Wd X false Z S)) (va_Qv (fun (_ : Unit) => True) (fun _ t => Wp X false Z r t) (aF X)) 0 0 (aF X)
theorem lv_args_mem : ∀ (vs : List Value) (k : Nat), (∀ v ∈ vs, v.category = 1) → ∀ (i : Nat) (v : Value), vs[i]? = some v → (k + i, v) ∈ lv_args k vs := by
  intro vs
  induction vs with
  | nil => intro k _ i v h; simp at h
  | cons a vs ih =>
    intro k hc i v h
    have ha := hc a List.mem_cons_self
    unfold lv_args
    rw [if_neg (by omega)]
    cases i with
    | zero =>
      simp at h
      subst h
      exact List.mem_cons_self
    | succ i =>
      simp at h
      have := ih (k + 1) (fun v hv => hc v (List.mem_cons_of_mem _ hv)) i v h
      rw [show k + 1 + i = k + (i + 1) by omega] at this
      exact List.mem_cons_of_mem _ this
theorem lg_sl_cat : ∀ (vs : List Value), (∀ v ∈ vs, v.category = 1) → (lg_sl vs).length = vs.length := by
  intro vs
  induction vs with
  | nil => intro _; rfl
  | cons a vs ih =>
    intro hc
    have ha := hc a List.mem_cons_self
    have h2 := ih (fun v hv => hc v (List.mem_cons_of_mem _ hv))
    unfold lg_sl at h2 ⊢
    rw [List.flatMap_cons, List.length_append, h2, if_neg (by omega)]
    simp
    omega
/-- a method's locals at its entry -/
def L0 (av : List Value) (nL : Nat) : List (Option Value) := av.map some ++ List.replicate (nL - av.length) none
theorem cL_entry {X : CX} {av : List Value} {nL : Nat} {ls : Array Slot} (hc : ∀ v ∈ av, v.category = 1) (h : lv_has ls nL (lv_args 0 (av.map (cV X)))) : lv_has ls nL (cL X (L0 av nL)) := by
  refine ⟨h.1, h.2.1, fun q hq => h.2.2 q ?_⟩
  obtain ⟨v, h1, h2, h3⟩ := cL_of hq
  have hlt : q.1 < av.length := by
    by_cases hq1 : q.1 < av.length
    · exact hq1
    · unfold L0 at h1
      rw [List.getElem?_append_right (by simp; omega)] at h1
      have := List.mem_of_getElem? h1
      have := (List.mem_replicate.mp this).2
      cases this
  unfold L0 at h1
  rw [List.getElem?_append_left (by simp; exact hlt), List.getElem?_map] at h1
  have h4 : av[q.1]? = some v := by
    cases h5 : av[q.1]? with
    | none => rw [h5] at h1; cases h1
    | some u => rw [h5] at h1; cases h1; rfl
  have := lv_args_mem (av.map (cV X)) 0 (fun u hu => by obtain ⟨u', h6, rfl⟩ := List.mem_map.mp hu; rw [cV_cat]; exact hc u' h6) q.1 (cV X v) (by rw [List.getElem?_map, h4]; rfl)
  rw [Nat.zero_add, ← h3] at this
  exact this
theorem L0_len {av : List Value} {nL : Nat} (h : av.length ≤ nL) : (L0 av nL).length = nL := by simp [L0]; omega
theorem entM {X : CX} {Z : Sh} {y : MethodName} {own : String} {cc : ByteArray} {nL : Nat} {ret : Option FieldType} {dd : Nat} {av : List Value} {S : Mm} {Qc : Array Value → State → Outcome → State → Prop} (hy : plainName y.cls = true) (hyo : y.cls = own) (hn : av.length ≤ nL) (hc : ∀ v ∈ av, v.category = 1) (hZ : Z.length ≤ 1048576) (body : ∀ E : FE, Fr X E own cc nL → Rm E dd → (eF E).sig.returnType = ret → (eF E).locks = false → Wc X E false (MQ (eB E) Qc (eA E) (eS E) 0 0 (aF X)) 0 (L0 av nL) [] Z S 0 0) : Met (xL X) y (wsM y cc nL ret) (rmM dd) (va_Pc (av.map (cV X)) (Wd X false Z S)) Qc 0 0 (aF X) := by
  refine Met.ofW (cc := cc) (maxL := nL) (ret := ret) hy rfl ?_
  intro p e s m args below meth c s₁ B hml hv
  obtain ⟨rfl, ⟨⟨-, hP⟩, hK, hSx⟩⟩ := hv
  have hts := atoms_spec (ws := wsM y cc nL ret) B.pre
  have hown : s.vm.findClass own = some m.cls := hyo ▸ findClass_of_methodNamed B.named
  have hxb : xb X ≤ s.heap.size := hSx.1
  have hb := body (p, e, rmM dd, s, m, (av.map (cV X)).toArray, below, meth, c) ⟨B.exec, B.bytes, hml, hown, fun w hw => hts w (List.mem_cons_of_mem _ hw), hK, hxb, hSx⟩ ⟨Nat.le_refl _, Nat.le_refl _⟩ B.returns B.notSynchronized
  have hlen : (lg_sl (av.map (cV X))).length ≤ nL := by
    rw [lg_sl_cat _ (fun u hu => by obtain ⟨u', h6, rfl⟩ := List.mem_map.mp hu; rw [cV_cat]; exact hc u' h6)]
    simp
    exact hn
  have hl := lv_entry (av.map (cV X)) (n := nL) hlen
  rw [lg_entry_eq]
  refine hb hZ _ s.heap [] ?_ (fun q => by cases q) hP va_S.rf
  rw [L0_len hn]
  exact cL_entry hc hl
theorem ctI_of {X : CX} {Z : Sh} {y : MethodName} {own : String} {cc : ByteArray} {nL : Nat} {ret : Option FieldType} {dd : Nat} {av : List Value} {S : Mm} {o : Option (Int32 × Mm)} (hy : plainName y.cls = true) (hyo : y.cls = own) (hn : av.length ≤ nL) (hc : ∀ v ∈ av, v.category = 1) (hZ : Z.length ≤ 1048576) (body : ∀ E : FE, Fr X E own cc nL → Rm E dd → (eF E).sig.returnType = ret → (eF E).locks = false → At X E false (mQi X Z E) 0 (L0 av nL) [] Z S 0 0 o) : CtI X Z y cc nL ret dd av S o :=
  fun r hr => entM hy hyo hn hc hZ fun E F R h1 h2 => body E F R h1 h2 r hr
theorem ctV_of {X : CX} {Z : Sh} {y : MethodName} {own : String} {cc : ByteArray} {nL : Nat} {dd : Nat} {av : List Value} {S : Mm} {o : Option Mm} (hy : plainName y.cls = true) (hyo : y.cls = own) (hn : av.length ≤ nL) (hc : ∀ v ∈ av, v.category = 1) (hZ : Z.length ≤ 1048576) (body : ∀ E : FE, Fr X E own cc nL → Rm E dd → (eF E).sig.returnType = none → (eF E).locks = false → At X E false (mQv X Z E) 0 (L0 av nL) [] Z S 0 0 o) : CtV X Z y cc nL dd av S o :=
  fun r hr => entM hy hyo hn hc hZ fun E F R h1 h2 => body E F R h1 h2 r hr
section RET
variable {X : CX} {E : FE} {pc : Nat} {L : List (Option Value)} {Z : Sh} {S : Mm} {own : String} {cc : ByteArray} {nL : Nat}
theorem a_iret (F : Fr X E own cc nL) {v : Int32} (hr : (eF E).sig.returnType = some .int) (hk : (eF E).locks = false) (d : decode cc pc = .ok (.ireturn, 1)) : At X E false (mQi X Z E) pc L [.int v] Z S 0 0 (some (v, S)) := by
  intro r ho hZ ls H locs hl hs hP hS
  cases ho
  exact W.iret F.1 F.2.1 hr (fun t ht hW => ⟨⟨v, (), rfl, rfl, fun q => by (cases q), by rw [ht]; exact hP⟩, hS.F ht⟩) hS.2.2 d hk
theorem a_zretK (F : Fr X E own cc nL) {v : Int32} (hr : (eF E).sig.returnType = some .boolean) (hk : (eF E).locks = false) (d : decode cc pc = .ok (.ireturn, 1)) (hv : v = 0 ∨ v = 1) : At X E false (mQi X Z E) pc L [.int v] Z S 0 0 (some (v, S)) := by
  intro r ho hZ ls H locs hl hs hP hS
  cases ho
  exact W.zret F.1 F.2.1 hr (narrow_01 hv) (fun t ht hW => ⟨⟨v, (), rfl, rfl, fun q => by (cases q), by rw [ht]; exact hP⟩, hS.F ht⟩) hS.2.2 d hk
theorem a_zret (F : Fr X E own cc nL) {v : Int32} (hr : (eF E).sig.returnType = some .boolean) (hk : (eF E).locks = false) (d : decode cc pc = .ok (.ireturn, 1)) : At X E false (mQi X Z E) pc L [.int v] Z S 0 0 (if v = 0 ∨ v = 1 then some (v, S) else none) := by
  intro r ho
  by_cases hv : v = 0 ∨ v = 1
  · rw [if_pos hv] at ho
    exact a_zretK F hr hk d hv r ho
  · rw [if_neg hv] at ho
    cases ho
theorem a_vret (F : Fr X E own cc nL) (hr : (eF E).sig.returnType = none) (hk : (eF E).locks = false) (d : decode cc pc = .ok (.return_, 1)) : At X E false (mQv X Z E) pc L [] Z S 0 0 (some S) := by
  intro r ho hZ ls H locs hl hs hP hS
  cases ho
  exact W.vret F.1 F.2.1 hr (fun t ht hW => ⟨⟨(), rfl, trivial, fun q => by (cases q), by rw [ht]; exact hP⟩, hS.F ht⟩) hS.2.2 d hk
end RET
/-- the words of a method that is called -/
def MW (y : MethodName) (cc : ByteArray) (nL : Nat) (ret : Option FieldType) (np : Nat) : Prop := Cond.code y cc nL ret ∈ lwG ∧ Cond.initialized y.cls ∈ lwG ∧ plainName y.cls = true ∧ (y.cls ≠ "java/lang/invoke/MethodHandle" ∧ y.cls ≠ "java/lang/invoke/VarHandle") ∧ (parseMethodDescriptor y.desc).map (fun d => d.parameters.length) = some np ∧ nL ≤ 80
theorem gw_M {y : MethodName} {cc : ByteArray} {nL : Nat} {ret : Option FieldType} {np : Nat} (h : MW y cc nL ret np) : GoodIn lwG (wsM y cc nL ret) := by
  intro w hw
  have hm : w ∈ lwG := by
    rcases List.mem_cons.mp hw with rfl | hw
    · exact h.1
    · exact hw
  exact ⟨hm, good_of_word (List.mem_filter.mp hm).2⟩
theorem Wd_blind {X : CX} {b : Bool} {Z : Sh} {S : Mm} {av : List Value} : FrameBlind (va_Pc av (Wd X b Z S)) := by
  intro a U g mk h
  obtain ⟨h0, h1, h2, h3⟩ := h
  exact ⟨h0, h1, va_K.moved (u := U) (U := U.calling g mk a) (Vm.Alike.refl U.vm) h2, Sx.same (u := U) (U := U.calling g mk a) rfl rfl h3⟩
section CALL
variable {ρ : Type} {X : CX} {E : FE} {Qf : ρ → State → Prop} {pc : Nat} {L : List (Option Value)} {st : List Value} {Z : Sh} {S : Mm} {n w : Nat} {own : String} {cc : ByteArray} {nL : Nat}
theorem wd_at (F : Fr X E own cc nL) {b : Bool} {H : Heap} {locs : List Loc} (hs : b = true → H.size = xb X + Z.length) (hP : va_P (xD X) vwCl (cW X Z S) H) (hS : va_S (aF X) (eS E).heap H locs) (U : State) (hU : U.heap = H) (hW : (eS E).WarmedH U.vm) : Wd X b Z S U :=
  ⟨⟨fun q => by rw [hU]; exact hs q, by rw [hU]; exact hP⟩, va_K.moved hW.alike F.2.2.2.2.2.1, Sx.warm hW (by rw [hU]; exact Nat.le_trans F.2.2.2.2.2.2.1 hS.1) (fun a h1 h2 => by rw [hU]; exact hS.2.1 a h1 h2) F.2.2.2.2.2.2.2⟩
theorem cat_map (X : CX) (st : List Value) : (st.map (cV X)).map (fun v => v.category) = st.map fun v => v.category := by simp [Function.comp_def, cV_cat]
theorem cw_of {y : MethodName} {bytes : ByteArray} {maxL idx np dd d2 : Nat} {ret : Option FieldType} (F : Fr X E own cc nL) (m : MW y bytes maxL ret np) (hl : Cond.methodLink own idx y ∈ lwG) (R : Rm E dd) (hd : d2 + 1 ≤ dd) : CallB (eR E) (eS E) (eA E) own idx y bytes maxL ret (wsM y bytes maxL ret) (rmM d2) 0 0 np := by
  obtain ⟨m1, m2, m3, m4, m5, m6⟩ := m
  have hts := F.2.2.2.2.1
  refine callB_of np hts (gw_M ⟨m1, m2, m3, m4, m5, m6⟩) rfl rfl rfl (hts _ m2) (hts _ hl) ⟨m4.1, m4.2, m5⟩ ⟨Nat.le_trans hd R.1, ?_⟩
  have h2 := R.2
  show 8 + (maxL + 11) + 100 * d2 ≤ _
  omega
theorem a_callVI (F : Fr X E own cc nL) {y : MethodName} {bytes : ByteArray} {maxL idx np dd d2 ci a N : Nat} {T : u_T} {ty : Nat → FieldType} {C : String} {ret : Option FieldType} {As : List Value} {oc : Option (Int32 × Mm)} {k : Int32 × Mm → Option ρ} (cf : CF ci C T N ty) (hyC : y.cls = C) (hM : CtI X Z y bytes maxL ret d2 (.ref a :: As) S oc) (m : MW y bytes maxL ret np) (hl : Cond.methodLink own idx y ∈ lwG) (hin : Cond.instanceMethod y ∈ lwG) (hse : Cond.selects C y y ∈ lwG) (R : Rm E dd) (hd : d2 + 1 ≤ dd) (hnw : n ≤ (eR E).cells ∧ w ≤ (eR E).slots) (hL : L.length = nL) (hnp : As.length = np) (hcat : (st.map fun v => v.category).sum ≤ 8) (ha : a < Z.length) (hz : sK Z a = (ci + 2, N)) (d : decode cc pc = .ok (.invokevirtual idx, 3))
    {sk : List Value} (hsk : As.reverse ++ .ref a :: st = sk) (g : ∀ r, At X E false Qf (pc + 3) L (.int r.1 :: st) Z r.2 n w (k r)) : At X E false Qf pc L sk Z S n w (oc.bind k) := by
  intro r ho hZ ls H locs hl2 hs hP hS
  subst hsk
  cases hoc : oc with
  | none => rw [hoc] at ho; cases ho
  | some q =>
    rw [hoc] at ho
    have he : (cW X Z S)[a]? = some (gA X a, .inr (ci, cF X ci N (sR Z a) (S a))) := by rw [cW_get X Z S ha, cE_obj hz, gA_lo (by omega)]
    have hts := F.2.2.2.2.1
    have hstk : ((As.reverse ++ .ref a :: st).map (cV X)) = (As.map (cV X)).reverse ++ .ref (gA X a) :: st.map (cV X) := by simp [cV]
    rw [hstk]
    refine va_calli (va_runV (As := As.map (cV X)) (rest := st.map (cV X)) (nL := nL) (b := gA X a) ⟨F.1, F.2.1, F.2.2.1, F.2.2.2.1, hts⟩ (hM q hoc) ⟨cw_of F m hl R hd, hts _ hin, hts _ hse⟩ ⟨Wd_blind, va_recv F.2.2.2.2.2.1 hP cf.1 he, fun U hU hW => ⟨rfl, wd_at F hs hP hS U hU hW⟩⟩ rfl (by rw [List.length_map]; exact hnp) (hl2.1.trans hL) rfl (lv_room (by rw [cat_map]; exact hcat)) d ⟨hnw.1, hnw.2⟩) hS (fun q _ h => h) (fun _ h => h) (fun v u t H1 locs1 ht hvm hw hB hz1 hk1 hS1 => ?_)
    rw [hw]
    exact g q r ho hZ ls H1 locs1 hl2 (fun q => by cases q) (by rw [← ht]; exact hB.2) hS1
theorem a_callVV (F : Fr X E own cc nL) {y : MethodName} {bytes : ByteArray} {maxL idx np dd d2 ci a N : Nat} {T : u_T} {ty : Nat → FieldType} {C : String} {As : List Value} {oc : Option Mm} {k : Mm → Option ρ} (cf : CF ci C T N ty) (hyC : y.cls = C) (hM : CtV X Z y bytes maxL d2 (.ref a :: As) S oc) (m : MW y bytes maxL none np) (hl : Cond.methodLink own idx y ∈ lwG) (hin : Cond.instanceMethod y ∈ lwG) (hse : Cond.selects C y y ∈ lwG) (R : Rm E dd) (hd : d2 + 1 ≤ dd) (hnw : n ≤ (eR E).cells ∧ w ≤ (eR E).slots) (hL : L.length = nL) (hnp : As.length = np) (hcat : (st.map fun v => v.category).sum ≤ 8) (ha : a < Z.length) (hz : sK Z a = (ci + 2, N)) (d : decode cc pc = .ok (.invokevirtual idx, 3))
    {sk : List Value} (hsk : As.reverse ++ .ref a :: st = sk) (g : ∀ r, At X E false Qf (pc + 3) L st Z r n w (k r)) : At X E false Qf pc L sk Z S n w (oc.bind k) := by
  intro r ho hZ ls H locs hl2 hs hP hS
  subst hsk
  cases hoc : oc with
  | none => rw [hoc] at ho; cases ho
  | some q =>
    rw [hoc] at ho
    have he : (cW X Z S)[a]? = some (gA X a, .inr (ci, cF X ci N (sR Z a) (S a))) := by rw [cW_get X Z S ha, cE_obj hz, gA_lo (by omega)]
    have hts := F.2.2.2.2.1
    have hstk : ((As.reverse ++ .ref a :: st).map (cV X)) = (As.map (cV X)).reverse ++ .ref (gA X a) :: st.map (cV X) := by simp [cV]
    rw [hstk]
    refine va_callv (va_runV (As := As.map (cV X)) (rest := st.map (cV X)) (nL := nL) (b := gA X a) ⟨F.1, F.2.1, F.2.2.1, F.2.2.2.1, hts⟩ (hM q hoc) ⟨cw_of F m hl R hd, hts _ hin, hts _ hse⟩ ⟨Wd_blind, va_recv F.2.2.2.2.2.1 hP cf.1 he, fun U hU hW => ⟨rfl, wd_at F hs hP hS U hU hW⟩⟩ rfl (by rw [List.length_map]; exact hnp) (hl2.1.trans hL) rfl (lv_room (by rw [cat_map]; exact hcat)) d ⟨hnw.1, hnw.2⟩) hS (fun q _ h => h) (fun _ h => h) (fun u t H1 locs1 ht hvm hw hB hz1 hk1 hS1 => ?_)
    exact g q r ho hZ ls H1 locs1 hl2 (fun q => by cases q) (by rw [← ht]; exact hB.2) hS1
theorem a_callSI (F : Fr X E own cc nL) {y : MethodName} {bytes : ByteArray} {maxL idx np dd d2 : Nat} {ret : Option FieldType} {As : List Value} {oc : Option (Int32 × Mm)} {k : Int32 × Mm → Option ρ} (hM : CtI X Z y bytes maxL ret d2 As S oc) (m : MW y bytes maxL ret np) (hl : Cond.methodLink own idx y ∈ lwG) (hst : Cond.static y ∈ lwG) (R : Rm E dd) (hd : d2 + 1 ≤ dd) (hnw : n ≤ (eR E).cells ∧ w ≤ (eR E).slots) (hL : L.length = nL) (hnp : As.length = np) (hcat : (st.map fun v => v.category).sum ≤ 8) (d : decode cc pc = .ok (.invokestatic idx, 3))
    {sk : List Value} (hsk : As.reverse ++ st = sk) (g : ∀ r, At X E false Qf (pc + 3) L (.int r.1 :: st) Z r.2 n w (k r)) : At X E false Qf pc L sk Z S n w (oc.bind k) := by
  intro r ho hZ ls H locs hl2 hs hP hS
  subst hsk
  cases hoc : oc with
  | none => rw [hoc] at ho; cases ho
  | some q =>
    rw [hoc] at ho
    have hts := F.2.2.2.2.1
    have hstk : ((As.reverse ++ st).map (cV X)) = (As.map (cV X)).reverse ++ st.map (cV X) := by simp
    rw [hstk]
    refine va_calli (va_runS (As := As.map (cV X)) (rest := st.map (cV X)) (nL := nL) ⟨F.1, F.2.1, F.2.2.1, F.2.2.2.1, hts⟩ (hM q hoc) ⟨cw_of F m hl R hd, hts _ hst⟩ ⟨Wd_blind, fun U hU hW => ⟨rfl, wd_at F hs hP hS U hU hW⟩⟩ rfl (by rw [List.length_map]; exact hnp) (hl2.1.trans hL) rfl (lv_room (by rw [cat_map]; exact hcat)) d ⟨hnw.1, hnw.2⟩) hS (fun q _ h => h) (fun _ h => h) (fun v u t H1 locs1 ht hvm hw hB hz1 hk1 hS1 => ?_)
    rw [hw]
    exact g q r ho hZ ls H1 locs1 hl2 (fun q => by cases q) (by rw [← ht]; exact hB.2) hS1
end CALL
