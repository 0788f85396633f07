/-! More rules: names for values, fewer locals, switches, text constants, calls of nest mates. -/
def nm {α β : Type} (v : α) (k : α → β) : β := k v
def itr {T : Type} (bot : T) (G : T → T) : Nat → T
  | 0 => bot
  | n + 1 => G (itr bot G n)
def FU : Nat := 10000
def tsw {ρ : Type} (x : Int32) (lo : Int) : List (Option ρ) → Option ρ → Option ρ
  | [], d => d
  | o :: os, d => if x.toInt = lo then o else tsw x (lo + 1) os d
def lmask (ks : List Bool) (L : List (Option Value)) : List (Option Value) := List.zipWith (fun k v => if k = true then v else none) ks L
section MORE
variable {ρ : Type} {X : CX} {E : FE} {b : Bool} {Qf : ρ → State → Prop} {pc : Nat} {L : List (Option Value)} {st : List Value} {Z : Sh} {S : Mm} {n w : Nat} {o : Option ρ} {own : String} {cc : ByteArray} {nL : Nat}
theorem a_nmS {k : Mm → Option ρ} (g : ∀ S1, At X E b Qf pc L st Z S1 n w (k S1)) : At X E b Qf pc L st Z S n w (nm S k) := g S
theorem a_mask (ks : List Bool) {L' : List (Option Value)} (hl : ks.length = L.length) (h : lmask ks L = L') (g : At X E b Qf pc L' st Z S n w o) : At X E b Qf pc L st Z S n w o := by
  subst h
  refine a_sub (by simp [lmask, hl]) (fun i v hv => ?_) g
  unfold lmask at hv
  rw [List.getElem?_zipWith] at hv
  cases h1 : ks[i]? with
  | none => rw [h1] at hv; cases hv
  | some k =>
    cases h2 : L[i]? with
    | none => rw [h1, h2] at hv; cases hv
    | some u =>
      rw [h1, h2] at hv
      cases k with
      | true => simp at hv; rw [hv]
      | false => simp at hv
theorem a_istore_nN (F : Fr X E own cc nL) {q : Fin 4} {i : Nat} {x : Int32} {L' : Int32 → List (Option Value)} {k : Int32 → Option ρ} (d : decode cc pc = .ok (.istore_n q, 1)) (hi : (q : Nat) = i) (hn : i < L.length) (hL : ∀ y, L.set i (some (.int y)) = L' y) (g : ∀ y, At X E b Qf (pc + 1) (L' y) st Z S n w (k y)) : At X E b Qf pc L (.int x :: st) Z S n w (nm x k) := a_istore_n F d hi hn (hL x) (g x)
theorem a_istoreN (F : Fr X E own cc nL) {i : Nat} {x : Int32} {L' : Int32 → List (Option Value)} {k : Int32 → Option ρ} (d : decode cc pc = .ok (.istore i, 2)) (hn : i < L.length) (hL : ∀ y, L.set i (some (.int y)) = L' y) (g : ∀ y, At X E b Qf (pc + 2) (L' y) st Z S n w (k y)) : At X E b Qf pc L (.int x :: st) Z S n w (nm x k) := a_istore F d hn (hL x) (g x)
theorem a_iincN (F : Fr X E own cc nL) {i : Nat} {c : Int} {x c' : Int32} {L' : Int32 → List (Option Value)} {k : Int32 → Option ρ} (d : decode cc pc = .ok (.iinc i c, 3)) (hx : L[i]? = some (some (.int x))) (hc : Int32.ofInt c = c') (hn : i < L.length) (hL : ∀ y, L.set i (some (.int y)) = L' y) (g : ∀ y, At X E b Qf (pc + 3) (L' y) st Z S n w (k y)) : At X E b Qf pc L st Z S n w (nm (x + c') k) := a_iinc F d hx (by rw [hc]) hn (hL (x + c')) (g (x + c'))
theorem a_ldcw (F : Fr X E own cc nL) {i : Nat} {v : Int32} (d : decode cc pc = .ok (.ldc_w i, 3)) (hw : Cond.constant own i v ∈ lwG) (g : At X E b Qf (pc + 3) L (.int v :: st) Z S n w o) : At X E b Qf pc L st Z S n w o :=
  fun r ho hz ls H locs hl hs hP hS => lv_ldcw F.1 F.2.1 F.2.2.2.1 (F.2.2.2.2.1 _ hw) d (g r ho hz ls H locs hl hs hP hS)
def i2b (x : Int32) : Int32 := x.toInt8.toInt32
theorem a_i2b (F : Fr X E own cc nL) {x : Int32} (d : decode cc pc = .ok (.i2b, 1)) (g : At X E b Qf (pc + 1) L (.int (i2b x) :: st) Z S n w o) : At X E b Qf pc L (.int x :: st) Z S n w o :=
  fun r ho hz ls H locs hl hs hP hS => lv_i2b F.1 F.2.1 d rfl (g r ho hz ls H locs hl hs hP hS)
/-- a branch whose side is known -/
theorem a_ifT {c : Prop} [Decidable c] {o2 : Option ρ} (hc : c) (g : At X E b Qf pc L st Z S n w (if c then o else o2)) : At X E b Qf pc L st Z S n w o := by rw [if_pos hc] at g; exact g
theorem a_ifF {c : Prop} [Decidable c] {o2 : Option ρ} (hc : ¬ c) (g : At X E b Qf pc L st Z S n w (if c then o2 else o)) : At X E b Qf pc L st Z S n w o := by rw [if_neg hc] at g; exact g
def AtAll (X : CX) (E : FE) (b : Bool) (Qf : ρ → State → Prop) (L : List (Option Value)) (st : List Value) (Z : Sh) (S : Mm) (n w : Nat) : List Nat → List (Option ρ) → Prop
  | [], [] => True
  | t :: ts, o :: os => At X E b Qf t L st Z S n w o ∧ AtAll X E b Qf L st Z S n w ts os
  | _, _ => False
theorem atAll_len {X : CX} {E : FE} {b : Bool} {Qf : ρ → State → Prop} {L : List (Option Value)} {st : List Value} {Z : Sh} {S : Mm} {n w : Nat} : ∀ {ts : List Nat} {os : List (Option ρ)}, AtAll X E b Qf L st Z S n w ts os → ts.length = os.length := by
  intro ts
  induction ts with
  | nil => intro os h; cases os with
    | nil => rfl
    | cons => exact h.elim
  | cons t ts ih => intro os h; cases os with
    | nil => exact h.elim
    | cons o os => simp [ih h.2]
theorem atAll_get {X : CX} {E : FE} {b : Bool} {Qf : ρ → State → Prop} {L : List (Option Value)} {st : List Value} {Z : Sh} {S : Mm} {n w : Nat} : ∀ {ts : List Nat} {os : List (Option ρ)}, AtAll X E b Qf L st Z S n w ts os → ∀ (i t : Nat) (o : Option ρ), ts[i]? = some t → os[i]? = some o → At X E b Qf t L st Z S n w o := by
  intro ts
  induction ts with
  | nil => intro os h i t o ht; simp at ht
  | cons t ts ih => intro os h i t' o' ht ho; cases os with
    | nil => exact h.elim
    | cons o os => cases i with
      | zero => simp at ht ho; subst ht; subst ho; exact h.1
      | succ i => simp at ht ho; exact ih h.2 i t' o' ht ho
theorem tsw_in {x : Int32} : ∀ (os : List (Option ρ)) (lo : Int) (d : Option ρ) (i : Nat), x.toInt = lo + i → i < os.length → tsw x lo os d = os.getD i d := by
  intro os
  induction os with
  | nil => intro lo d i _ h; simp at h
  | cons o os ih => intro lo d i hx hi; cases i with
    | zero => unfold tsw; rw [if_pos (by omega)]; rfl
    | succ i => unfold tsw; rw [if_neg (by omega), ih (lo + 1) d i (by omega) (by simp at hi; omega)]; simp
theorem tsw_out {x : Int32} : ∀ (os : List (Option ρ)) (lo : Int) (d : Option ρ), (x.toInt < lo ∨ lo + os.length ≤ x.toInt) → tsw x lo os d = d := by
  intro os
  induction os with
  | nil => intro lo d _; rfl
  | cons o os ih => intro lo d h; unfold tsw; simp at h; rw [if_neg (by omega), ih (lo + 1) d (by omega)]
theorem a_tsw (F : Fr X E own cc nL) {dflt lo hi : Int} {offs : Array Int} {len : Nat} {x : Int32} {od : Option ρ} (ts : List Nat) {os : List (Option ρ)} (td : Nat) (d : decode cc pc = .ok (.tableswitch dflt lo hi offs, len)) (hhi : hi = lo + ts.length - 1) (hoffs : offs.toList.map (fun q => (pc : Int) + q) = ts.map (fun t : Nat => (t : Int))) (ht : (pc : Int) + dflt = (td : Int)) (gd : At X E b Qf td L st Z S n w od) (g : AtAll X E b Qf L st Z S n w ts os) : At X E b Qf pc L (.int x :: st) Z S n w (tsw x lo os od) := by
  intro r ho hz ls H locs hl hs hP hS
  have hlen := atAll_len g
  by_cases h1 : x.toInt < lo ∨ hi < x.toInt
  · rw [tsw_out os lo od (by rcases h1 with h | h <;> omega)] at ho
    exact lv_tableOut F.1 F.2.1 d h1 ht (gd r ho hz ls H locs hl hs hP hS)
  · have h2 : ¬ x.toInt < lo := fun h => h1 (Or.inl h)
    have h3 : ¬ hi < x.toInt := fun h => h1 (Or.inr h)
    have h4 : (x.toInt - lo).toNat < ts.length := by omega
    rw [tsw_in os lo od (x.toInt - lo).toNat (by omega) (by omega)] at ho
    have h5 : ts[(x.toInt - lo).toNat]? = some ts[(x.toInt - lo).toNat] := List.getElem?_eq_getElem h4
    have h6 : os[(x.toInt - lo).toNat]? = some (os[(x.toInt - lo).toNat]'(by omega)) := List.getElem?_eq_getElem (by omega)
    rw [List.getD_eq_getElem?_getD, h6] at ho
    have h7 : (offs.toList.map (fun q => (pc : Int) + q))[(x.toInt - lo).toNat]? = some ((ts[(x.toInt - lo).toNat] : Nat) : Int) := by rw [hoffs, List.getElem?_map, h5]; rfl
    rw [List.getElem?_map] at h7
    cases h8 : offs.toList[(x.toInt - lo).toNat]? with
    | none => rw [h8] at h7; cases h7
    | some off =>
      rw [h8] at h7
      refine lv_tableIn F.1 F.2.1 d h2 h3 (off := off) (by rw [← Array.getElem?_toList]; exact h8) (by simpa using h7) (atAll_get g _ _ _ h5 h6 r ho hz ls H locs hl hs hP hS)
/-- a text constant's fields and bytes -/
theorem gA_str (X : CX) (i : Nat) : gA X (1048576 + i) = xad X i := by unfold gA; rw [if_neg (by omega), Nat.add_sub_cancel_left]
theorem gA_byt (X : CX) (i : Nat) : gA X (2097152 + i) = xad X (1048576 + i) := by
  have h := gA_str X (1048576 + i)
  rwa [show 1048576 + (1048576 + i) = 2097152 + i by omega] at h
theorem a_sVal (F : Fr X E own cc nL) {i idx : Nat} (hi : i < 4) (d : decode cc pc = .ok (.getfield idx, 3)) (hw : Cond.fieldLink own idx "java/lang/String" "value" "[B" ∈ lwG) (g : At X E b Qf (pc + 3) L (.ref (2097152 + i) :: st) Z S n w o) : At X E b Qf pc L (.ref (1048576 + i) :: st) Z S n w o := by
  intro r ho hZ ls H locs hl hs hP hS
  have h := (F.2.2.2.2.2.2.2.2.1.1 i hi).2.2.1
  have e : (Value.ref (1048576 + i) :: st).map (cV X) = .ref (xad X i) :: st.map (cV X) := by simp [cV, gA_str]
  rw [e]
  refine vk_getf F.1 F.2.1 h hS F.2.2.2.1 (F.2.2.2.2.1 _ hw) (fun _ q => q) d ?_
  have h2 := g r ho hZ ls H locs hl hs hP hS
  have e2 : (Value.ref (2097152 + i) :: st).map (cV X) = .ref (xad X (1048576 + i)) :: st.map (cV X) := by simp [cV, gA_byt]
  rw [e2] at h2
  exact h2
theorem a_sCod (F : Fr X E own cc nL) {i idx : Nat} (hi : i < 4) (d : decode cc pc = .ok (.getfield idx, 3)) (hw : Cond.fieldLink own idx "java/lang/String" "coder" "B" ∈ lwG) (g : At X E b Qf (pc + 3) L (.int 0 :: st) Z S n w o) : At X E b Qf pc L (.ref (1048576 + i) :: st) Z S n w o := by
  intro r ho hZ ls H locs hl hs hP hS
  have h := (F.2.2.2.2.2.2.2.2.1.1 i hi).2.1
  have e : (Value.ref (1048576 + i) :: st).map (cV X) = .ref (xad X i) :: st.map (cV X) := by simp [cV, gA_str]
  rw [e]
  exact vk_getf F.1 F.2.1 h hS F.2.2.2.1 (F.2.2.2.2.1 _ hw) (fun _ q => q) d (g r ho hZ ls H locs hl hs hP hS)
theorem a_sLen (F : Fr X E own cc nL) {i : Nat} (hi : i < 4) (d : decode cc pc = .ok (.arraylength, 1)) (g : At X E b Qf (pc + 1) L (.int (Int32.ofNat (sxL.getD i 0)) :: st) Z S n w o) : At X E b Qf pc L (.ref (2097152 + i) :: st) Z S n w o := by
  intro r ho hZ ls H locs hl hs hP hS
  have h := (F.2.2.2.2.2.2.2.2.1.1 i hi).2.2.2
  have e2 : (Value.ref (2097152 + i) :: st).map (cV X) = .ref (xad X (1048576 + i)) :: st.map (cV X) := by simp [cV, gA_byt]
  rw [e2]
  exact va_tlen F.1 F.2.1 h hS rfl d (g r ho hZ ls H locs hl hs hP hS)
theorem a_sBld (F : Fr X E own cc nL) {i : Nat} {k : Int32} (hi : i < 4) (d : decode cc pc = .ok (.baload, 1)) (g : At X E b Qf (pc + 1) L (.int ((sxB.getD i []).getD (ix k) 0) :: st) Z S n w o) : At X E b Qf pc L (.int k :: .ref (2097152 + i) :: st) Z S n w (if inB k (sxL.getD i 0) = true then o else none) := by
  intro r ho hZ ls H locs hl hs hP hS
  by_cases hk : inB k (sxL.getD i 0) = true
  · rw [if_pos hk] at ho
    have h := (F.2.2.2.2.2.2.2.2.1.1 i hi).2.2.2
    have e2 : (Value.int k :: Value.ref (2097152 + i) :: st).map (cV X) = .int k :: .ref (xad X (1048576 + i)) :: st.map (cV X) := by simp [cV, gA_byt]
    rw [e2]
    exact va_tb F.1 F.2.1 h hS (inB_vp hk) rfl d (g r ho hZ ls H locs hl hs hP hS)
  · rw [if_neg hk] at ho
    cases ho
theorem a_getCo (F : Fr X E own cc nL) {idx : Nat} (d : decode cc pc = .ok (.getstatic idx, 3)) (hw : Cond.fieldLink own idx "java/lang/String" "COMPACT_STRINGS" "Z" ∈ lwG) (g : At X E b Qf (pc + 3) L (.int 1 :: st) Z S n w o) : At X E b Qf pc L st Z S n w o :=
  fun r ho hZ ls H locs hl hs hP hS => va_gets F.1 F.2.1 F.2.2.2.2.2.2.2.2.2.1 hS F.2.2.2.1 (F.2.2.2.2.1 _ hw) (fun _ q => q) d (g r ho hZ ls H locs hl hs hP hS)
theorem a_getFm (F : Fr X E own cc nL) {idx : Nat} (d : decode cc pc = .ok (.getstatic idx, 3)) (hw : Cond.fieldLink own idx "jdk/internal/util/Preconditions" "SIOOBE_FORMATTER" "Ljava/util/function/BiFunction;" ∈ lwG) (g : At X E b Qf (pc + 3) L (.float 0 :: st) Z S n w o) : At X E b Qf pc L st Z S n w o :=
  fun r ho hZ ls H locs hl hs hP hS => va_gets F.1 F.2.1 F.2.2.2.2.2.2.2.2.2.2.1 hS F.2.2.2.1 (F.2.2.2.2.1 _ hw) (fun _ q => q) d (g r ho hZ ls H locs hl hs hP hS)
end MORE
section CALL2
variable {ρ : Type} {X : CX} {E : FE} {Qf : ρ → State → Prop} {pc : Nat} {L : List (Option Value)} {st : List Value} {Z : Sh} {S : Mm} {n w : Nat} {own : String} {cc : ByteArray} {nL : Nat}
theorem a_callTI (F : Fr X E own cc nL) {y : MethodName} {bytes : ByteArray} {maxL idx np dd d2 i : Nat} {ret : Option FieldType} {As : List Value} {oc : Option (Int32 × Mm)} {k : Int32 × Mm → Option ρ} (hi : i < 4) (hM : CtI X Z y bytes maxL ret d2 (.ref (1048576 + i) :: As) S oc) (m : MW y bytes maxL ret np) (hl : Cond.methodLink own idx y ∈ lwG) (hin : Cond.instanceMethod y ∈ lwG) (hse : Cond.selects "java/lang/String" y y ∈ lwG) (R : Rm E dd) (hd : d2 + 1 ≤ dd) (hnw : n ≤ (eR E).cells ∧ w ≤ (eR E).slots) (hL : L.length = nL) (hnp : As.length = np) (hcat : (st.map fun v => v.category).sum ≤ 8) (d : decode cc pc = .ok (.invokevirtual idx, 3))
    {sk : List Value} (hsk : As.reverse ++ .ref (1048576 + i) :: st = sk) (g : ∀ r, At X E false Qf (pc + 3) L (.int r.1 :: st) Z r.2 n w (k r)) : At X E false Qf pc L sk Z S n w (oc.bind k) := by
  intro r ho hZ ls H locs hl2 hs hP hS
  subst hsk
  cases hoc : oc with
  | none => rw [hoc] at ho; cases ho
  | some q =>
    rw [hoc] at ho
    have hts := F.2.2.2.2.1
    have hstk : ((As.reverse ++ .ref (1048576 + i) :: st).map (cV X)) = (As.map (cV X)).reverse ++ .ref (xad X i) :: st.map (cV X) := by simp [cV, gA_str]
    have hMq := hM q hoc
    rw [List.map_cons, show cV X (.ref (1048576 + i)) = .ref (xad X i) by simp [cV, gA_str]] at hMq
    rw [hstk]
    refine va_calli (va_runV (As := As.map (cV X)) (rest := st.map (cV X)) (nL := nL) (b := xad X i) ⟨F.1, F.2.1, F.2.2.1, F.2.2.2.1, hts⟩ hMq ⟨cw_of F m hl R hd, hts _ hin, hts _ hse⟩ ⟨Wd_blind, vk_recv F.2.2.2.2.2.2.2.2.1 hi hS, fun U hU hW => ⟨rfl, wd_at F hs hP hS U hU hW⟩⟩ rfl (by rw [List.length_map]; exact hnp) (hl2.1.trans hL) rfl (lv_room (by rw [cat_map]; exact hcat)) d ⟨hnw.1, hnw.2⟩) hS (fun q _ h => h) (fun _ h => h) (fun v u t H1 locs1 ht hvm hw hB hz1 hk1 hS1 => ?_)
    rw [hw]
    exact g q r ho hZ ls H1 locs1 hl2 (fun q => by cases q) (by rw [← ht]; exact hB.2) hS1
theorem a_callSV (F : Fr X E own cc nL) {y : MethodName} {bytes : ByteArray} {maxL idx np dd d2 : Nat} {As : List Value} {oc : Option Mm} {k : Mm → Option ρ} (hM : CtV X Z y bytes maxL d2 As S oc) (m : MW y bytes maxL none np) (hl : Cond.methodLink own idx y ∈ lwG) (hst : Cond.static y ∈ lwG) (R : Rm E dd) (hd : d2 + 1 ≤ dd) (hnw : n ≤ (eR E).cells ∧ w ≤ (eR E).slots) (hL : L.length = nL) (hnp : As.length = np) (hcat : (st.map fun v => v.category).sum ≤ 8) (d : decode cc pc = .ok (.invokestatic idx, 3))
    {sk : List Value} (hsk : As.reverse ++ st = sk) (g : ∀ r, At X E false Qf (pc + 3) L st Z r n w (k r)) : At X E false Qf pc L sk Z S n w (oc.bind k) := by
  intro r ho hZ ls H locs hl2 hs hP hS
  subst hsk
  cases hoc : oc with
  | none => rw [hoc] at ho; cases ho
  | some q =>
    rw [hoc] at ho
    have hts := F.2.2.2.2.1
    have hstk : ((As.reverse ++ st).map (cV X)) = (As.map (cV X)).reverse ++ st.map (cV X) := by simp
    rw [hstk]
    refine va_callv (va_runS (As := As.map (cV X)) (rest := st.map (cV X)) (nL := nL) ⟨F.1, F.2.1, F.2.2.1, F.2.2.2.1, hts⟩ (hM q hoc) ⟨cw_of F m hl R hd, hts _ hst⟩ ⟨Wd_blind, fun U hU hW => ⟨rfl, wd_at F hs hP hS U hU hW⟩⟩ rfl (by rw [List.length_map]; exact hnp) (hl2.1.trans hL) rfl (lv_room (by rw [cat_map]; exact hcat)) d ⟨hnw.1, hnw.2⟩) hS (fun q _ h => h) (fun _ h => h) (fun u t H1 locs1 ht hvm hw hB hz1 hk1 hS1 => ?_)
    exact g q r ho hZ ls H1 locs1 hl2 (fun q => by cases q) (by rw [← ht]; exact hB.2) hS1
theorem a_callNI (F : Fr X E own cc nL) {y : MethodName} {bytes : ByteArray} {maxL idx np dd d2 : Nat} {host : String} {ret : Option FieldType} {As : List Value} {oc : Option (Int32 × Mm)} {k : Int32 × Mm → Option ρ} (hM : CtI X Z y bytes maxL ret d2 As S oc) (m : MW y bytes maxL ret np) (hl : Cond.methodLinkNest own idx y host ∈ nwL) (hst : Cond.static y ∈ lwG) (R : Rm E dd) (hd : d2 + 1 ≤ dd) (hnw : n ≤ (eR E).cells ∧ w ≤ (eR E).slots) (hL : L.length = nL) (hnp : As.length = np) (hcat : (st.map fun v => v.category).sum ≤ 8) (d : decode cc pc = .ok (.invokestatic idx, 3))
    {sk : List Value} (hsk : As.reverse ++ st = sk) (g : ∀ r, At X E false Qf (pc + 3) L (.int r.1 :: st) Z r.2 n w (k r)) : At X E false Qf pc L sk Z S n w (oc.bind k) := by
  intro r ho hZ ls H locs hl2 hs hP hS
  subst hsk
  cases hoc : oc with
  | none => rw [hoc] at ho; cases ho
  | some q =>
    rw [hoc] at ho
    have hts := F.2.2.2.2.1
    have hstk : ((As.reverse ++ st).map (cV X)) = (As.map (cV X)).reverse ++ st.map (cV X) := by simp
    rw [hstk]
    have hcn : va_CN (eR E) (eS E) (eA E) own idx y host bytes maxL ret (wsM y bytes maxL ret) (rmM d2) 0 0 np := va_cnB np hts (gw_M m) rfl rfl rfl (F.2.2.2.2.2.2.2.2.2.2.2.1 _ hl) (hts _ m.2.1) ⟨m.2.2.2.1.1, m.2.2.2.1.2, m.2.2.2.2.1⟩ ⟨Nat.le_trans hd R.1, by have h2 := R.2; have h3 := m.2.2.2.2.2; show 8 + (maxL + 11) + 100 * d2 ≤ _; omega⟩
    refine va_calli (va_runSN (As := As.map (cV X)) (rest := st.map (cV X)) (nL := nL) ⟨F.1, F.2.1, F.2.2.1, F.2.2.2.1, hts⟩ (hM q hoc) ⟨hcn, hts _ hst, trivial⟩ ⟨Wd_blind, fun U hU hW => ⟨rfl, wd_at F hs hP hS U hU hW⟩⟩ rfl (by rw [List.length_map]; exact hnp) (hl2.1.trans hL) rfl (lv_room (by rw [cat_map]; exact hcat)) d ⟨hnw.1, hnw.2⟩) hS (fun q _ h => h) (fun _ h => h) (fun v u t H1 locs1 ht hvm hw hB hz1 hk1 hS1 => ?_)
    rw [hw]
    exact g q r ho hZ ls H1 locs1 hl2 (fun q => by cases q) (by rw [← ht]; exact hB.2) hS1
/-- an answer of a small type -/
theorem a_nret (F : Fr X E own cc nL) {v : Int32} {ty : FieldType} (hr : (eF E).sig.returnType = some ty) (hk : (eF E).locks = false) (d : decode cc pc = .ok (.ireturn, 1)) : At X E false (mQi X Z E) pc L [.int v] Z S 0 0 (if narrow ty (.int v) = .int v then some (v, S) else none) := by
  intro r ho hZ ls H locs hl hs hP hS
  by_cases hv : narrow ty (.int v) = .int v
  · rw [if_pos hv] at ho
    cases ho
    exact W.zret F.1 F.2.1 hr hv (fun t ht hW => ⟨⟨v, (), rfl, rfl, fun q => by (cases q), by rw [ht]; exact hP⟩, hS.F ht⟩) hS.2.2 d hk
  · rw [if_neg hv] at ho
    cases ho
end CALL2
/-- a method's setting, all of it -/
def MF (X : CX) (E : FE) (own : String) (cc : ByteArray) (nL dd : Nat) (ret : Option FieldType) : Prop := Fr X E own cc nL ∧ Rm E dd ∧ (eF E).sig.returnType = ret ∧ (eF E).locks = false
