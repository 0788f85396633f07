/-! A world of numbers: memory is a function from (cell, slot) to int; its shape (kinds, lengths, references) is a list. One rule an instruction, over this world; each is proved once out of the kit's rows. -/
abbrev Mm : Type := Nat → Nat → Int32
/-- the tables' words that hold in every later state, too -/
def lwG : List Cond := lw_tbl.filter goodWord
theorem mG {w : Cond} (i : Nat) (h : lw_tbl[i]? = some w) (hg : goodWord w = true) : w ∈ lwG := List.mem_filter.mpr ⟨List.mem_of_getElem? h, hg⟩
/-- a cell's kind (0: row of ints, 1: row of Clans, k + 2: object of class k), its length, its references -/
abbrev Sh : Type := List (Nat × Nat × List (Option Nat))
abbrev CX : Type := Launch × va_G × Nat × (Nat → Nat) × ClassId × ClassId × Option Nat
abbrev xL (X : CX) : Launch := X.1
abbrev xD (X : CX) : va_G := X.2.1
abbrev xb (X : CX) : Nat := X.2.2.1
abbrev xad (X : CX) : Nat → Nat := X.2.2.2.1
abbrev xI (X : CX) : ClassId := X.2.2.2.2.1
abbrev xC (X : CX) : ClassId := X.2.2.2.2.2.1
abbrev xf (X : CX) : Option Nat := X.2.2.2.2.2.2
def gA (X : CX) (k : Nat) : Nat := if k < 1048576 then xb X + k else xad X (k - 1048576)
theorem gA_lo {X : CX} {k : Nat} (h : k < 1048576) : gA X k = xb X + k := if_pos h
def fI (ci j : Nat) : Bool := match vwCl[ci]? with
  | some r => (r.2.1 j).2.2.1 == "I" || (r.2.1 j).2.2.1 == "Z"
  | none => false
def sK (Z : Sh) (k : Nat) : Nat × Nat := ((Z.getD k (0, 0, [])).1, (Z.getD k (0, 0, [])).2.1)
def sR (Z : Sh) (k j : Nat) : Option Nat := (Z.getD k (0, 0, [])).2.2.getD j none
def sW (Z : Sh) : Nat := (Z.map (fun q => q.2.1)).sum
def cF (X : CX) (ci N : Nat) (R : Nat → Option Nat) (f : Nat → Int32) : List Value := (List.range N).map (fun j => if fI ci j = true then .int (f j) else va_rf ((R j).map (gA X)))
def cE (X : CX) (k : Nat × Nat) (R : Nat → Option Nat) (f : Nat → Int32) : va_E := match k.1 with
  | 0 => .inl (xI X, k.2, .inl f)
  | 1 => .inl (xC X, k.2, .inr (.inr (.inr (.inr (fun j => (R j).map (gA X))))))
  | ci + 2 => .inr (ci, cF X ci k.2 R f)
def cW (X : CX) (Z : Sh) (S : Mm) : va_W := (List.range Z.length).map (fun k => (xb X + k, cE X (sK Z k) (sR Z k) (S k)))
def tyW (X : CX) : List (ClassId × FieldType) := [(xI X, .int), (xC X, .object RX1)]
def cV (X : CX) : Value → Value
  | .ref k => .ref (gA X k)
  | .float _ => va_rf (xf X)
  | v => v
theorem cV_cat (X : CX) (v : Value) : (cV X v).category = v.category := by
  cases v with
  | float q => show (va_rf (xf X)).category = _; cases xf X <;> rfl
  | _ => rfl
def cL (X : CX) (L : List (Option Value)) : List (Nat × Value) := (List.range L.length).filterMap (fun i => match L.getD i none with
  | some v => if v.category = 1 then some (i, cV X v) else none
  | none => none)
theorem cL_mem {X : CX} {L : List (Option Value)} {i : Nat} {v : Value} (h : L[i]? = some (some v)) (hc : v.category = 1) : (i, cV X v) ∈ cL X L := by
  refine List.mem_filterMap.mpr ⟨i, List.mem_range.mpr (List.getElem?_eq_some_iff.mp h).1, ?_⟩
  rw [List.getD_eq_getElem?_getD, h]
  simp [hc]
theorem cL_of {X : CX} {L : List (Option Value)} {q : Nat × Value} (h : q ∈ cL X L) : ∃ v, L[q.1]? = some (some v) ∧ v.category = 1 ∧ q.2 = cV X v := by
  obtain ⟨i, hi, e⟩ := List.mem_filterMap.mp h
  have hi := List.mem_range.mp hi
  rw [List.getD_eq_getElem?_getD] at e
  cases hL : L[i]? with
  | none => rw [hL] at e; simp at e
  | some o =>
    rw [hL] at e
    cases o with
    | none => simp at e
    | some v =>
      simp only [Option.getD_some] at e
      by_cases hc : v.category = 1
      · rw [if_pos hc] at e
        cases e
        exact ⟨v, hL, hc, rfl⟩
      · rw [if_neg hc] at e
        cases e
theorem cL_at {ls : Array Slot} {n : Nat} {X : CX} {L : List (Option Value)} {i : Nat} {v : Value} (hl : lv_has ls n (cL X L)) (h : L[i]? = some (some v)) (hc : v.category = 1) : ls[i]? = some (.val (cV X v)) := hl.2.2 _ (cL_mem h hc)
theorem cL_set {ls : Array Slot} {n : Nat} {X : CX} {L : List (Option Value)} {i : Nat} {v : Value} (hc : v.category = 1) (hl : lv_has ls n ((i, cV X v) :: (cL X L).filter (fun q => !(q.1 == i) && !(q.1 + 1 == i && q.2.category == 2)))) : lv_has ls n (cL X (L.set i (some v))) := by
  refine ⟨hl.1, hl.2.1, fun q hq => hl.2.2 q ?_⟩
  obtain ⟨w, h1, h2, h3⟩ := cL_of hq
  by_cases hi : q.1 = i
  · rw [hi] at h1
    rw [List.getElem?_set] at h1
    simp only [if_true] at h1
    split at h1
    · cases h1
      refine List.mem_cons.mpr (Or.inl ?_)
      rw [← hi, ← h3]
    · cases h1
  · refine List.mem_cons_of_mem _ (List.mem_filter.mpr ⟨?_, ?_⟩)
    · rw [List.getElem?_set, if_neg (fun e => hi e.symm)] at h1
      have := cL_mem (X := X) h1 h2
      rw [← h3] at this
      exact this
    · have : q.2.category = 1 := by rw [h3, cV_cat]; exact h2
      simp [hi, this]
theorem cL_sub {ls : Array Slot} {n : Nat} {X : CX} {L L' : List (Option Value)} (h : ∀ (i : Nat) (v : Value), L'[i]? = some (some v) → L[i]? = some (some v)) (hl : lv_has ls n (cL X L)) : lv_has ls n (cL X L') := by
  refine ⟨hl.1, hl.2.1, fun q hq => hl.2.2 q ?_⟩
  obtain ⟨w, h1, h2, h3⟩ := cL_of hq
  have := cL_mem (X := X) (h _ _ h1) h2
  rw [← h3] at this
  exact this
/-- the method's setting: program, environment, room, state at entry, method, arguments, frames below, the method's row and code -/
abbrev FE : Type := Program × Env × Room × State × MethodId × Array Value × List Frame × Method × Code
abbrev eP (E : FE) : Program := E.1
abbrev eE (E : FE) : Env := E.2.1
abbrev eR (E : FE) : Room := E.2.2.1
abbrev eS (E : FE) : State := E.2.2.2.1
abbrev eM (E : FE) : MethodId := E.2.2.2.2.1
abbrev eA (E : FE) : Array Value := E.2.2.2.2.2.1
abbrev eB (E : FE) : List Frame := E.2.2.2.2.2.2.1
abbrev eF (E : FE) : Method := E.2.2.2.2.2.2.2.1
abbrev eC (E : FE) : Code := E.2.2.2.2.2.2.2.2
def aF (X : CX) : Nat → Prop := fun q => xb X ≤ q
/-- the text constants: four texts, their bytes, the launch's compact strings -/
def sxB : List (List Int32) := [[104, 101, 105, 114, 32, 119, 104, 101, 110, 32, 111, 114, 32, 97, 110, 100, 32, 110, 111, 116, 32, 108, 101, 116, 116, 101, 114, 32, 118, 111, 119, 101, 108, 32, 97, 103, 101, 32, 107, 105, 110, 32, 99, 104, 105, 108, 100, 32, 115, 112, 111, 117, 115, 101, 32, 111, 119, 110, 115, 32, 115, 107, 105, 108, 108, 32, 99, 111, 105, 110, 32, 100, 97, 121], [59, 43, 45, 42, 47, 40, 41, 60, 61, 62], [108, 101, 97, 118, 101, 32, 116, 111, 32, 105, 102, 32, 114, 101, 115, 116], [59, 34]]
def sxL : List Nat := [74, 10, 16, 2]
def nwL : List Cond := [.methodLinkNest RX10 18 yX6_init RX10, .methodLinkNest RX6 11 yX3_init RX10, .methodLinkNest RX10 25 yX0_init RX10, .methodLinkNest RX10 48 yX5_init RX10, .methodLinkNest RX4 11 yX3_init RX10, .methodLinkNest RX8 47 yX10_isBlank RX10, .methodLinkNest RX9 125 yX10_letterOf RX10, .methodLinkNest RX6 62 yX10_isBlank RX10, .methodLinkNest RX6 66 yX10_letterOf RX10]
def srL : List (String × Nat × String × Nat) := [(RX4, 20, "heir when or and not letter vowel age kin child spouse owns skill coin day", 0), (RX4, 22, ";+-*/()<=>", 1), (RX9, 39, "leave to if rest", 2), (RX9, 41, ";\"", 3)]
def Sx (X : CX) (U : State) : Prop := xb X ≤ U.heap.size ∧ vk_S 4 sxL sxB (xad X) (fun i => xad X (1048576 + i)) (aF X) U U.heap ∧ va_Z "java/lang/String" "COMPACT_STRINGS" "Z" (.int 1) (aF X) U U.heap ∧ va_Z "jdk/internal/util/Preconditions" "SIOOBE_FORMATTER" "Ljava/util/function/BiFunction;" (va_rf (xf X)) (aF X) U U.heap ∧ (∀ w ∈ nwL, va_Nw w U) ∧ (∀ q ∈ srL, vk_R q.1 q.2.1 q.2.2.1 (xad X q.2.2.2) U) ∧ va_AO RX1 U
def Fr (X : CX) (E : FE) (own : String) (cc : ByteArray) (nL : Nat) : Prop :=
  (eP E).tables.exec = Jvm.exec ∧ (eC E).code = cc ∧ (eC E).maxLocals = nL ∧ (eS E).vm.findClass own = some (eM E).cls ∧ (∀ w ∈ lwG, w.before (eA E) (eS E) = true) ∧ va_K (xD X) vwCl (tyW X) (eS E) ∧ xb X ≤ (eS E).heap.size ∧ Sx X (eS E)
def Wc (X : CX) (E : FE) (b : Bool) (Q : State → Prop) (pc : Nat) (L : List (Option Value)) (st : List Value) (Z : Sh) (S : Mm) (n w : Nat) : Prop :=
  Z.length ≤ 1048576 → ∀ (ls : Array Slot) (H : Heap) (locs : List Loc), lv_has ls L.length (cL X L) → (b = true → H.size = xb X + Z.length) → va_P (xD X) vwCl (cW X Z S) H → va_S (aF X) (eS E).heap H locs →
    W (eP E) (xL X) (eE E) (eR E) (eS E) (eM E) (eA E) (eB E) (eF E) (eC E) H locs n w Q (F0 (eM E) pc ls (st.map (cV X)))
/-- from here on, whenever the computed end is there, the machine comes to it -/
def At {ρ : Type} (X : CX) (E : FE) (b : Bool) (Qf : ρ → State → Prop) (pc : Nat) (L : List (Option Value)) (st : List Value) (Z : Sh) (S : Mm) (n w : Nat) (o : Option ρ) : Prop :=
  ∀ r, o = some r → Wc X E b (Qf r) pc L st Z S n w
theorem cW_len (X : CX) (Z : Sh) (S : Mm) : (cW X Z S).length = Z.length := by simp [cW]
theorem cW_get (X : CX) (Z : Sh) (S : Mm) {k : Nat} (h : k < Z.length) : (cW X Z S)[k]? = some (xb X + k, cE X (sK Z k) (sR Z k) (S k)) := by
  unfold cW
  rw [List.getElem?_map, List.getElem?_range h]
  rfl
theorem cW_ext {X : CX} {ws : va_W} {Z : Sh} {S : Mm} (hl : ws.length = Z.length) (h : ∀ k, k < Z.length → ws[k]? = some (xb X + k, cE X (sK Z k) (sR Z k) (S k))) : ws = cW X Z S := by
  apply List.ext_getElem?
  intro k
  by_cases hk : k < Z.length
  · rw [h k hk, cW_get X Z S hk]
  · rw [List.getElem?_eq_none (by omega), List.getElem?_eq_none (by rw [cW_len]; omega)]
theorem cW_D (X : CX) (Z : Sh) (S : Mm) : va_D (aF X) (cW X Z S) := by
  have key : ∀ (i : Nat) (p : Nat × va_E), (cW X Z S)[i]? = some p → p.1 = xb X + i := by
    intro i p h
    have hi : i < Z.length := by rw [← cW_len X Z S]; exact (List.getElem?_eq_some_iff.mp h).1
    rw [cW_get X Z S hi] at h
    cases h
    rfl
  refine ⟨fun i j p q h1 h2 e => ?_, fun k q h => ?_⟩
  · have a := key i p h1
    have b := key j q h2
    omega
  · show xb X ≤ q.1
    rw [key k q h]
    omega
/-- writing one int -/
def uM (S : Mm) (a i : Nat) (v : Int32) : Mm := fun k j => if k = a ∧ j = i then v else S k j
theorem uM_same (S : Mm) (a i : Nat) (v : Int32) : uM S a i v a i = v := by simp [uM]
theorem uM_row (S : Mm) (a i : Nat) (v : Int32) : uM S a i v a = upd (S a) i v := by funext j; simp [uM, upd]
theorem uM_off (S : Mm) {a k : Nat} (i : Nat) (v : Int32) (h : k ≠ a) : uM S a i v k = S k := by funext j; simp [uM, h]
def rM (S : Mm) (a : Nat) (f : Nat → Int32) : Mm := fun k => if k = a then f else S k
theorem rM_same (S : Mm) (a : Nat) (f : Nat → Int32) : rM S a f a = f := by simp [rM]
theorem rM_off (S : Mm) {a k : Nat} (f : Nat → Int32) (h : k ≠ a) : rM S a f k = S k := by simp [rM, h]
theorem uM_rM (S : Mm) (a i : Nat) (v : Int32) : uM S a i v = rM S a (upd (S a) i v) := by
  funext k
  by_cases h : k = a
  · subst h; rw [uM_row, rM_same]
  · rw [uM_off S i v h, rM_off S _ h]
theorem cW_rM {X : CX} {Z : Sh} {S : Mm} {a : Nat} {f : Nat → Int32} {e : va_E} (he : e = cE X (sK Z a) (sR Z a) f) : (cW X Z S).set a (xb X + a, e) = cW X Z (rM S a f) := by
  refine cW_ext (by rw [List.length_set, cW_len]) fun k hk => ?_
  rw [List.getElem?_set]
  by_cases h : a = k
  · subst h
    rw [if_pos rfl, if_pos (by rw [cW_len]; exact hk), rM_same, he]
  · rw [if_neg h, cW_get X Z S hk, rM_off S f (fun q => h q.symm)]
/-- what a class's tables say -/
def CF (ci : Nat) (C : String) (T : u_T) (N : Nat) (ty : Nat → FieldType) : Prop := vwCl[ci]? = some (C, T, N) ∧ (∀ w ∈ u_ws C T N, w ∈ lwG) ∧ (∀ k, k < N → parseFieldDescriptor (T k).2.2.1 = some (ty k)) ∧ ∀ a, a < N → ∀ b, b < N → a ≠ b → (T a).2.1 ≠ (T b).2.1
theorem cF_get {X : CX} {ci N : Nat} {R : Nat → Option Nat} {f : Nat → Int32} {k : Nat} (hk : k < N) : (cF X ci N R f)[k]? = some (if fI ci k = true then .int (f k) else va_rf ((R k).map (gA X))) := by
  unfold cF
  rw [List.getElem?_map, List.getElem?_range hk]
  rfl
theorem cE_obj {X : CX} {ci N : Nat} {kk : Nat × Nat} {R : Nat → Option Nat} {f : Nat → Int32} (h : kk = (ci + 2, N)) : cE X kk R f = .inr (ci, cF X ci N R f) := by subst h; rfl
theorem cE_arr {X : CX} {n : Nat} {kk : Nat × Nat} {R : Nat → Option Nat} {f : Nat → Int32} (h : kk = (0, n)) : cE X kk R f = .inl (xI X, n, .inl f) := by subst h; rfl
theorem cE_row {X : CX} {n : Nat} {kk : Nat × Nat} {R : Nat → Option Nat} {f : Nat → Int32} (h : kk = (1, n)) : cE X kk R f = .inl (xC X, n, .inr (.inr (.inr (.inr (fun j => (R j).map (gA X)))))) := by subst h; rfl
section RULES
variable {ρ : Type} {X : CX} {E : FE} {b : Bool} {Qf : ρ → State → Prop} {pc : Nat} {L : List (Option Value)} {st : List Value} {Z : Sh} {S : Mm} {n w : Nat} {o : Option ρ} {own : String} {cc : ByteArray} {nL : Nat}
theorem a_iload_n (F : Fr X E own cc nL) {k : Fin 4} {i : Nat} {x : Int32} (d : decode cc pc = .ok (.iload_n k, 1)) (hi : (k : Nat) = i) (hL : L[i]? = some (some (.int x))) (g : At X E b Qf (pc + 1) L (.int x :: st) Z S n w o) : At X E b Qf pc L st Z S n w o :=
  fun r ho hz ls H locs hl hs hP hS => lv_iload_n F.1 F.2.1 d hi (cL_at hl hL rfl) (g r ho hz ls H locs hl hs hP hS)
theorem a_iload (F : Fr X E own cc nL) {i : Nat} {x : Int32} (d : decode cc pc = .ok (.iload i, 2)) (hL : L[i]? = some (some (.int x))) (g : At X E b Qf (pc + 2) L (.int x :: st) Z S n w o) : At X E b Qf pc L st Z S n w o :=
  fun r ho hz ls H locs hl hs hP hS => lv_iload F.1 F.2.1 d (cL_at hl hL rfl) (g r ho hz ls H locs hl hs hP hS)
theorem a_aload_n (F : Fr X E own cc nL) {k : Fin 4} {i : Nat} {x : Nat} (d : decode cc pc = .ok (.aload_n k, 1)) (hi : (k : Nat) = i) (hL : L[i]? = some (some (.ref x))) (g : At X E b Qf (pc + 1) L (.ref x :: st) Z S n w o) : At X E b Qf pc L st Z S n w o :=
  fun r ho hz ls H locs hl hs hP hS => lv_aload_n F.1 F.2.1 d hi (cL_at hl hL rfl) (g r ho hz ls H locs hl hs hP hS)
theorem a_aload (F : Fr X E own cc nL) {i : Nat} {x : Nat} (d : decode cc pc = .ok (.aload i, 2)) (hL : L[i]? = some (some (.ref x))) (g : At X E b Qf (pc + 2) L (.ref x :: st) Z S n w o) : At X E b Qf pc L st Z S n w o :=
  fun r ho hz ls H locs hl hs hP hS => lv_aload F.1 F.2.1 d (cL_at hl hL rfl) (g r ho hz ls H locs hl hs hP hS)
theorem a_istore_n (F : Fr X E own cc nL) {k : Fin 4} {i : Nat} {x : Int32} {L' : List (Option Value)} (d : decode cc pc = .ok (.istore_n k, 1)) (hi : (k : Nat) = i) (hn : i < L.length) (hL : L.set i (some (.int x)) = L') (g : At X E b Qf (pc + 1) L' st Z S n w o) : At X E b Qf pc L (.int x :: st) Z S n w o :=
  fun r ho hz ls H locs hl hs hP hS => lv_istore_n F.1 F.2.1 d hi hl hn rfl fun ls' hl' => g r ho hz ls' H locs (by rw [← hL, List.length_set]; exact cL_set (v := .int x) rfl hl') hs hP hS
theorem a_istore (F : Fr X E own cc nL) {i : Nat} {x : Int32} {L' : List (Option Value)} (d : decode cc pc = .ok (.istore i, 2)) (hn : i < L.length) (hL : L.set i (some (.int x)) = L') (g : At X E b Qf (pc + 2) L' st Z S n w o) : At X E b Qf pc L (.int x :: st) Z S n w o :=
  fun r ho hz ls H locs hl hs hP hS => lv_istore F.1 F.2.1 d hl hn rfl fun ls' hl' => g r ho hz ls' H locs (by rw [← hL, List.length_set]; exact cL_set (v := .int x) rfl hl') hs hP hS
theorem a_astore_n (F : Fr X E own cc nL) {k : Fin 4} {i x : Nat} {L' : List (Option Value)} (d : decode cc pc = .ok (.astore_n k, 1)) (hi : (k : Nat) = i) (hn : i < L.length) (hL : L.set i (some (.ref x)) = L') (g : At X E b Qf (pc + 1) L' st Z S n w o) : At X E b Qf pc L (.ref x :: st) Z S n w o :=
  fun r ho hz ls H locs hl hs hP hS => lv_astore_n F.1 F.2.1 d hi hl hn rfl fun ls' hl' => g r ho hz ls' H locs (by rw [← hL, List.length_set]; exact cL_set (v := .ref x) rfl hl') hs hP hS
theorem a_iconst (F : Fr X E own cc nL) {c : Int} {v : Int32} (d : decode cc pc = .ok (.iconst c, 1)) (hv : Int32.ofInt c = v) (g : At X E b Qf (pc + 1) L (.int v :: st) Z S n w o) : At X E b Qf pc L st Z S n w o :=
  fun r ho hz ls H locs hl hs hP hS => lv_iconst F.1 F.2.1 d hv (g r ho hz ls H locs hl hs hP hS)
theorem a_bipush (F : Fr X E own cc nL) {c : Int} {v : Int32} (d : decode cc pc = .ok (.bipush c, 2)) (hv : (Int8.ofInt c).toInt32 = v) (g : At X E b Qf (pc + 2) L (.int v :: st) Z S n w o) : At X E b Qf pc L st Z S n w o :=
  fun r ho hz ls H locs hl hs hP hS => lv_bipush F.1 F.2.1 d hv (g r ho hz ls H locs hl hs hP hS)
theorem a_sipush (F : Fr X E own cc nL) {c : Int} {v : Int32} (d : decode cc pc = .ok (.sipush c, 3)) (hv : (Int16.ofInt c).toInt32 = v) (g : At X E b Qf (pc + 3) L (.int v :: st) Z S n w o) : At X E b Qf pc L st Z S n w o :=
  fun r ho hz ls H locs hl hs hP hS => lv_sipush F.1 F.2.1 d hv (g r ho hz ls H locs hl hs hP hS)
theorem a_ldc (F : Fr X E own cc nL) {i : Nat} {v : Int32} (d : decode cc pc = .ok (.ldc i, 2)) (hw : Cond.constant own i v ∈ lwG) (g : At X E b Qf (pc + 2) L (.int v :: st) Z S n w o) : At X E b Qf pc L st Z S n w o :=
  fun r ho hz ls H locs hl hs hP hS => lv_ldc F.1 F.2.1 F.2.2.2.1 (F.2.2.2.2.1 _ hw) d (g r ho hz ls H locs hl hs hP hS)
theorem a_null (F : Fr X E own cc nL) (d : decode cc pc = .ok (.aconst_null, 1)) (g : At X E b Qf (pc + 1) L (.null :: st) Z S n w o) : At X E b Qf pc L st Z S n w o :=
  fun r ho hz ls H locs hl hs hP hS => lv_null F.1 F.2.1 d (g r ho hz ls H locs hl hs hP hS)
theorem a_iinc (F : Fr X E own cc nL) {i : Nat} {c : Int} {x v : Int32} {L' : List (Option Value)} (d : decode cc pc = .ok (.iinc i c, 3)) (hx : L[i]? = some (some (.int x))) (hv : x + Int32.ofInt c = v) (hn : i < L.length) (hL : L.set i (some (.int v)) = L') (g : At X E b Qf (pc + 3) L' st Z S n w o) : At X E b Qf pc L st Z S n w o := by
  intro r ho hz ls H locs hl hs hP hS
  obtain ⟨k, hk⟩ := List.getElem?_of_mem (cL_mem (X := X) hx rfl)
  exact lv_iinc F.1 F.2.1 d hl hk hv hn rfl fun ls' hl' => g r ho hz ls' H locs (by rw [← hL, List.length_set]; exact cL_set (v := .int v) rfl hl') hs hP hS
theorem a_dup (F : Fr X E own cc nL) {v : Value} (d : decode cc pc = .ok (.dup, 1)) (hc : v.category = 1) (g : At X E b Qf (pc + 1) L (v :: v :: st) Z S n w o) : At X E b Qf pc L (v :: st) Z S n w o :=
  fun r ho hz ls H locs hl hs hP hS => lv_dup F.1 F.2.1 d (by rw [cV_cat]; exact hc) (g r ho hz ls H locs hl hs hP hS)
theorem a_dup2 (F : Fr X E own cc nL) {v u : Value} (d : decode cc pc = .ok (.dup2, 1)) (hc : v.category = 1) (hu : u.category = 1) (g : At X E b Qf (pc + 1) L (v :: u :: v :: u :: st) Z S n w o) : At X E b Qf pc L (v :: u :: st) Z S n w o :=
  fun r ho hz ls H locs hl hs hP hS => lv_dup2_11 F.1 F.2.1 d (by rw [cV_cat]; exact hc) (by rw [cV_cat]; exact hu) (g r ho hz ls H locs hl hs hP hS)
theorem a_pop (F : Fr X E own cc nL) {v : Value} (d : decode cc pc = .ok (.pop, 1)) (hc : v.category = 1) (g : At X E b Qf (pc + 1) L st Z S n w o) : At X E b Qf pc L (v :: st) Z S n w o :=
  fun r ho hz ls H locs hl hs hP hS => lv_pop F.1 F.2.1 d (by rw [cV_cat]; exact hc) (g r ho hz ls H locs hl hs hP hS)
theorem a_iadd (F : Fr X E own cc nL) {x y : Int32} (d : decode cc pc = .ok (.iadd, 1)) (g : At X E b Qf (pc + 1) L (.int (x + y) :: st) Z S n w o) : At X E b Qf pc L (.int y :: .int x :: st) Z S n w o :=
  fun r ho hz ls H locs hl hs hP hS => lv_iadd F.1 F.2.1 d (g r ho hz ls H locs hl hs hP hS)
theorem a_isub (F : Fr X E own cc nL) {x y : Int32} (d : decode cc pc = .ok (.isub, 1)) (g : At X E b Qf (pc + 1) L (.int (x - y) :: st) Z S n w o) : At X E b Qf pc L (.int y :: .int x :: st) Z S n w o :=
  fun r ho hz ls H locs hl hs hP hS => lv_isub F.1 F.2.1 d (g r ho hz ls H locs hl hs hP hS)
theorem a_imul (F : Fr X E own cc nL) {x y : Int32} (d : decode cc pc = .ok (.imul, 1)) (g : At X E b Qf (pc + 1) L (.int (x * y) :: st) Z S n w o) : At X E b Qf pc L (.int y :: .int x :: st) Z S n w o :=
  fun r ho hz ls H locs hl hs hP hS => lv_imul F.1 F.2.1 d (g r ho hz ls H locs hl hs hP hS)
theorem a_iand (F : Fr X E own cc nL) {x y : Int32} (d : decode cc pc = .ok (.iand, 1)) (g : At X E b Qf (pc + 1) L (.int (x &&& y) :: st) Z S n w o) : At X E b Qf pc L (.int y :: .int x :: st) Z S n w o :=
  fun r ho hz ls H locs hl hs hP hS => lv_iand F.1 F.2.1 d (g r ho hz ls H locs hl hs hP hS)
theorem a_ior (F : Fr X E own cc nL) {x y : Int32} (d : decode cc pc = .ok (.ior, 1)) (g : At X E b Qf (pc + 1) L (.int (x ||| y) :: st) Z S n w o) : At X E b Qf pc L (.int y :: .int x :: st) Z S n w o :=
  fun r ho hz ls H locs hl hs hP hS => lv_ior F.1 F.2.1 d (g r ho hz ls H locs hl hs hP hS)
theorem a_ixor (F : Fr X E own cc nL) {x y : Int32} (d : decode cc pc = .ok (.ixor, 1)) (g : At X E b Qf (pc + 1) L (.int (x ^^^ y) :: st) Z S n w o) : At X E b Qf pc L (.int y :: .int x :: st) Z S n w o :=
  fun r ho hz ls H locs hl hs hP hS => lv_ixor F.1 F.2.1 d (g r ho hz ls H locs hl hs hP hS)
/-- shifts, quotients: as the machine counts them -/
def shl (x y : Int32) : Int32 := x <<< (y &&& 31)
def shr (x y : Int32) : Int32 := x >>> (y &&& 31)
def ushr (x y : Int32) : Int32 := (x.toUInt32 >>> (y.toUInt32 &&& Int32.toUInt32 31)).toInt32
def irem (x y : Int32) : Int32 := x - x / y * y
theorem a_ishl (F : Fr X E own cc nL) {x y : Int32} (d : decode cc pc = .ok (.ishl, 1)) (g : At X E b Qf (pc + 1) L (.int (shl x y) :: st) Z S n w o) : At X E b Qf pc L (.int y :: .int x :: st) Z S n w o :=
  fun r ho hz ls H locs hl hs hP hS => lv_ishl F.1 F.2.1 d (g r ho hz ls H locs hl hs hP hS)
theorem a_ishr (F : Fr X E own cc nL) {x y : Int32} (d : decode cc pc = .ok (.ishr, 1)) (g : At X E b Qf (pc + 1) L (.int (shr x y) :: st) Z S n w o) : At X E b Qf pc L (.int y :: .int x :: st) Z S n w o :=
  fun r ho hz ls H locs hl hs hP hS => lv_ishr F.1 F.2.1 d (g r ho hz ls H locs hl hs hP hS)
theorem a_iushr (F : Fr X E own cc nL) {x y : Int32} (d : decode cc pc = .ok (.iushr, 1)) (g : At X E b Qf (pc + 1) L (.int (ushr x y) :: st) Z S n w o) : At X E b Qf pc L (.int y :: .int x :: st) Z S n w o :=
  fun r ho hz ls H locs hl hs hP hS => lv_iushr F.1 F.2.1 d rfl (g r ho hz ls H locs hl hs hP hS)
theorem a_idiv (F : Fr X E own cc nL) {x y : Int32} (d : decode cc pc = .ok (.idiv, 1)) (g : At X E b Qf (pc + 1) L (.int (x / y) :: st) Z S n w o) : At X E b Qf pc L (.int y :: .int x :: st) Z S n w (if y = 0 then none else o) := by
  intro r ho hz ls H locs hl hs hP hS
  by_cases hy : y = 0
  · rw [if_pos hy] at ho; cases ho
  · rw [if_neg hy] at ho
    exact lv_idiv F.1 F.2.1 d hy (g r ho hz ls H locs hl hs hP hS)
theorem a_irem (F : Fr X E own cc nL) {x y : Int32} (d : decode cc pc = .ok (.irem, 1)) (g : At X E b Qf (pc + 1) L (.int (irem x y) :: st) Z S n w o) : At X E b Qf pc L (.int y :: .int x :: st) Z S n w (if y = 0 then none else o) := by
  intro r ho hz ls H locs hl hs hP hS
  by_cases hy : y = 0
  · rw [if_pos hy] at ho; cases ho
  · rw [if_neg hy] at ho
    exact lv_irem F.1 F.2.1 d hy (g r ho hz ls H locs hl hs hP hS)
def i2c (x : Int32) : Int32 := (x.toUInt32 % 65536).toInt32
theorem a_i2c (F : Fr X E own cc nL) {x : Int32} (d : decode cc pc = .ok (.i2c, 1)) (g : At X E b Qf (pc + 1) L (.int (i2c x) :: st) Z S n w o) : At X E b Qf pc L (.int x :: st) Z S n w o :=
  fun r ho hz ls H locs hl hs hP hS => lv_i2c F.1 F.2.1 d rfl (g r ho hz ls H locs hl hs hP hS)
theorem a_goto (F : Fr X E own cc nL) {off : Int} (tgt : Nat) (d : decode cc pc = .ok (.goto off, 3)) (ht : (pc : Int) + off = (tgt : Int)) (g : At X E b Qf tgt L st Z S n w o) : At X E b Qf pc L st Z S n w o :=
  fun r ho hz ls H locs hl hs hP hS => lv_goto F.1 F.2.1 d ht (g r ho hz ls H locs hl hs hP hS)
theorem at_if {c : Prop} [Decidable c] {o1 o2 : Option ρ} {r : ρ} (ho : (if c then o1 else o2) = some r) : (c → o1 = some r) ∧ (¬ c → o2 = some r) := ⟨fun h => by rw [if_pos h] at ho; exact ho, fun h => by rw [if_neg h] at ho; exact ho⟩
theorem a_if_eq (F : Fr X E own cc nL) {x : Int32} {off : Int} {o2 : Option ρ} (tgt : Nat) (d : decode cc pc = .ok (.ifCond .eq off, 3)) (ht : (pc : Int) + off = (tgt : Int)) (gt : At X E b Qf tgt L st Z S n w o) (gf : At X E b Qf (pc + 3) L st Z S n w o2) : At X E b Qf pc L (.int x :: st) Z S n w (if x = 0 then o else o2) :=
  fun r ho hz ls H locs hl hs hP hS => lv_if_eq F.1 F.2.1 d ht (fun q => gt r ((at_if ho).1 q) hz ls H locs hl hs hP hS) (fun q => gf r ((at_if ho).2 q) hz ls H locs hl hs hP hS)
theorem a_if_ne (F : Fr X E own cc nL) {x : Int32} {off : Int} {o2 : Option ρ} (tgt : Nat) (d : decode cc pc = .ok (.ifCond .ne off, 3)) (ht : (pc : Int) + off = (tgt : Int)) (gf : At X E b Qf (pc + 3) L st Z S n w o2) (gt : At X E b Qf tgt L st Z S n w o) : At X E b Qf pc L (.int x :: st) Z S n w (if x = 0 then o2 else o) :=
  fun r ho hz ls H locs hl hs hP hS => lv_if_ne F.1 F.2.1 d ht (fun q => gt r ((at_if ho).2 q) hz ls H locs hl hs hP hS) (fun q => gf r ((at_if ho).1 q) hz ls H locs hl hs hP hS)
theorem a_if_lt (F : Fr X E own cc nL) {x : Int32} {off : Int} {o2 : Option ρ} (tgt : Nat) (d : decode cc pc = .ok (.ifCond .lt off, 3)) (ht : (pc : Int) + off = (tgt : Int)) (gt : At X E b Qf tgt L st Z S n w o) (gf : At X E b Qf (pc + 3) L st Z S n w o2) : At X E b Qf pc L (.int x :: st) Z S n w (if x < 0 then o else o2) :=
  fun r ho hz ls H locs hl hs hP hS => lv_if_lt F.1 F.2.1 d ht (fun q => gt r ((at_if ho).1 q) hz ls H locs hl hs hP hS) (fun q => gf r ((at_if ho).2 q) hz ls H locs hl hs hP hS)
theorem a_if_ge (F : Fr X E own cc nL) {x : Int32} {off : Int} {o2 : Option ρ} (tgt : Nat) (d : decode cc pc = .ok (.ifCond .ge off, 3)) (ht : (pc : Int) + off = (tgt : Int)) (gt : At X E b Qf tgt L st Z S n w o) (gf : At X E b Qf (pc + 3) L st Z S n w o2) : At X E b Qf pc L (.int x :: st) Z S n w (if 0 ≤ x then o else o2) :=
  fun r ho hz ls H locs hl hs hP hS => lv_if_ge F.1 F.2.1 d ht (fun q => gt r ((at_if ho).1 q) hz ls H locs hl hs hP hS) (fun q => gf r ((at_if ho).2 q) hz ls H locs hl hs hP hS)
theorem a_if_gt (F : Fr X E own cc nL) {x : Int32} {off : Int} {o2 : Option ρ} (tgt : Nat) (d : decode cc pc = .ok (.ifCond .gt off, 3)) (ht : (pc : Int) + off = (tgt : Int)) (gt : At X E b Qf tgt L st Z S n w o) (gf : At X E b Qf (pc + 3) L st Z S n w o2) : At X E b Qf pc L (.int x :: st) Z S n w (if 0 < x then o else o2) :=
  fun r ho hz ls H locs hl hs hP hS => lv_if_gt F.1 F.2.1 d ht (fun q => gt r ((at_if ho).1 q) hz ls H locs hl hs hP hS) (fun q => gf r ((at_if ho).2 q) hz ls H locs hl hs hP hS)
theorem a_if_le (F : Fr X E own cc nL) {x : Int32} {off : Int} {o2 : Option ρ} (tgt : Nat) (d : decode cc pc = .ok (.ifCond .le off, 3)) (ht : (pc : Int) + off = (tgt : Int)) (gt : At X E b Qf tgt L st Z S n w o) (gf : At X E b Qf (pc + 3) L st Z S n w o2) : At X E b Qf pc L (.int x :: st) Z S n w (if x ≤ 0 then o else o2) :=
  fun r ho hz ls H locs hl hs hP hS => lv_if_le F.1 F.2.1 d ht (fun q => gt r ((at_if ho).1 q) hz ls H locs hl hs hP hS) (fun q => gf r ((at_if ho).2 q) hz ls H locs hl hs hP hS)
theorem a_icmp_eq (F : Fr X E own cc nL) {x y : Int32} {off : Int} {o2 : Option ρ} (tgt : Nat) (d : decode cc pc = .ok (.if_icmp .eq off, 3)) (ht : (pc : Int) + off = (tgt : Int)) (gt : At X E b Qf tgt L st Z S n w o) (gf : At X E b Qf (pc + 3) L st Z S n w o2) : At X E b Qf pc L (.int y :: .int x :: st) Z S n w (if x = y then o else o2) :=
  fun r ho hz ls H locs hl hs hP hS => lv_icmp_eq F.1 F.2.1 d ht (fun q => gt r ((at_if ho).1 q) hz ls H locs hl hs hP hS) (fun q => gf r ((at_if ho).2 q) hz ls H locs hl hs hP hS)
theorem a_icmp_ne (F : Fr X E own cc nL) {x y : Int32} {off : Int} {o2 : Option ρ} (tgt : Nat) (d : decode cc pc = .ok (.if_icmp .ne off, 3)) (ht : (pc : Int) + off = (tgt : Int)) (gf : At X E b Qf (pc + 3) L st Z S n w o2) (gt : At X E b Qf tgt L st Z S n w o) : At X E b Qf pc L (.int y :: .int x :: st) Z S n w (if x = y then o2 else o) :=
  fun r ho hz ls H locs hl hs hP hS => lv_icmp_ne F.1 F.2.1 d ht (fun q => gt r ((at_if ho).2 q) hz ls H locs hl hs hP hS) (fun q => gf r ((at_if ho).1 q) hz ls H locs hl hs hP hS)
theorem a_icmp_lt (F : Fr X E own cc nL) {x y : Int32} {off : Int} {o2 : Option ρ} (tgt : Nat) (d : decode cc pc = .ok (.if_icmp .lt off, 3)) (ht : (pc : Int) + off = (tgt : Int)) (gt : At X E b Qf tgt L st Z S n w o) (gf : At X E b Qf (pc + 3) L st Z S n w o2) : At X E b Qf pc L (.int y :: .int x :: st) Z S n w (if x < y then o else o2) :=
  fun r ho hz ls H locs hl hs hP hS => lv_icmp_lt F.1 F.2.1 d ht (fun q => gt r ((at_if ho).1 q) hz ls H locs hl hs hP hS) (fun q => gf r ((at_if ho).2 q) hz ls H locs hl hs hP hS)
theorem a_icmp_ge (F : Fr X E own cc nL) {x y : Int32} {off : Int} {o2 : Option ρ} (tgt : Nat) (d : decode cc pc = .ok (.if_icmp .ge off, 3)) (ht : (pc : Int) + off = (tgt : Int)) (gt : At X E b Qf tgt L st Z S n w o) (gf : At X E b Qf (pc + 3) L st Z S n w o2) : At X E b Qf pc L (.int y :: .int x :: st) Z S n w (if y ≤ x then o else o2) :=
  fun r ho hz ls H locs hl hs hP hS => lv_icmp_ge F.1 F.2.1 d ht (fun q => gt r ((at_if ho).1 q) hz ls H locs hl hs hP hS) (fun q => gf r ((at_if ho).2 q) hz ls H locs hl hs hP hS)
theorem a_icmp_gt (F : Fr X E own cc nL) {x y : Int32} {off : Int} {o2 : Option ρ} (tgt : Nat) (d : decode cc pc = .ok (.if_icmp .gt off, 3)) (ht : (pc : Int) + off = (tgt : Int)) (gt : At X E b Qf tgt L st Z S n w o) (gf : At X E b Qf (pc + 3) L st Z S n w o2) : At X E b Qf pc L (.int y :: .int x :: st) Z S n w (if y < x then o else o2) :=
  fun r ho hz ls H locs hl hs hP hS => lv_icmp_gt F.1 F.2.1 d ht (fun q => gt r ((at_if ho).1 q) hz ls H locs hl hs hP hS) (fun q => gf r ((at_if ho).2 q) hz ls H locs hl hs hP hS)
theorem a_icmp_le (F : Fr X E own cc nL) {x y : Int32} {off : Int} {o2 : Option ρ} (tgt : Nat) (d : decode cc pc = .ok (.if_icmp .le off, 3)) (ht : (pc : Int) + off = (tgt : Int)) (gt : At X E b Qf tgt L st Z S n w o) (gf : At X E b Qf (pc + 3) L st Z S n w o2) : At X E b Qf pc L (.int y :: .int x :: st) Z S n w (if x ≤ y then o else o2) :=
  fun r ho hz ls H locs hl hs hP hS => lv_icmp_le F.1 F.2.1 d ht (fun q => gt r ((at_if ho).1 q) hz ls H locs hl hs hP hS) (fun q => gf r ((at_if ho).2 q) hz ls H locs hl hs hP hS)
theorem a_ifnull (F : Fr X E own cc nL) {x : Nat} {off : Int} (d : decode cc pc = .ok (.ifnull off, 3)) (g : At X E b Qf (pc + 3) L st Z S n w o) : At X E b Qf pc L (.ref x :: st) Z S n w o :=
  fun r ho hz ls H locs hl hs hP hS => lv_ifnull F.1 F.2.1 d (g r ho hz ls H locs hl hs hP hS)
theorem a_ifnullN (F : Fr X E own cc nL) {off : Int} (tgt : Nat) (d : decode cc pc = .ok (.ifnull off, 3)) (ht : (pc : Int) + off = (tgt : Int)) (g : At X E b Qf tgt L st Z S n w o) : At X E b Qf pc L (.null :: st) Z S n w o :=
  fun r ho hz ls H locs hl hs hP hS => lv_ifnullN F.1 F.2.1 d ht (g r ho hz ls H locs hl hs hP hS)
/-- fewer locals known -/
theorem a_sub {L' : List (Option Value)} (hn : L'.length = L.length) (h : ∀ (i : Nat) (v : Value), L'[i]? = some (some v) → L[i]? = some (some v)) (g : At X E b Qf pc L' st Z S n w o) : At X E b Qf pc L st Z S n w o :=
  fun r ho hz ls H locs hl hs hP hS => g r ho hz ls H locs (by rw [hn]; exact cL_sub h hl) hs hP hS
/-- the parted computation is the same -/
theorem a_eq {o2 : Option ρ} (h : o = o2) (g : At X E b Qf pc L st Z S n w o2) : At X E b Qf pc L st Z S n w o := h ▸ g
theorem a_none : At X E b Qf pc L st Z S n w (none : Option ρ) := fun r ho => by cases ho
end RULES
