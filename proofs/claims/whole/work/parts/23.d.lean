def stm : Nat → Term := fun i => match i with
  | 0 => .string RX4 20
  | 1 => .string RX4 22
  | 2 => .string RX9 39
  | _ => .string RX9 41
def stB (t : Cond) : Bool := decide (t ∈ flatC (Jvm.Cond.and given_1 narrow_1))
theorem st_1 : ∀ i : Nat, i < 4 → stB (Cond.exactly (stm i) "java/lang/String") = true := by decide +kernel
theorem st_2 : ∀ i : Nat, i < 4 → stB (Cond.eq (.field (stm i) "java/lang/String" "coder" "B") (.int 0)) = true := by decide +kernel
theorem st_3 : ∀ i : Nat, i < 4 → stB (Cond.arrayOf (.field (stm i) "java/lang/String" "value" "[B") .byte) = true := by decide +kernel
theorem st_4 : ∀ i : Nat, i < 4 → stB (Cond.eq (.length (.field (stm i) "java/lang/String" "value" "[B")) (.int (Int32.ofNat (sxL.getD i 0)))) = true := by decide +kernel
theorem st_5 : ∀ i : Nat, i < 4 → ∀ j : Nat, j < sxL.getD i 0 → stB (Cond.eq (.elem (.field (stm i) "java/lang/String" "value" "[B") (.int (Int32.ofNat j))) (.int ((sxB.getD i []).getD j 0))) = true := by decide +kernel
theorem st_6 : ∀ i : Nat, i < 4 → ∀ j : Nat, j < 4 → i ≠ j → stB (Cond.not (Cond.eq (stm i) (stm j))) = true ∨ stB (Cond.not (Cond.eq (stm j) (stm i))) = true := by decide +kernel
theorem st_7 : stB (Cond.eq (Term.static "java/lang/String" "COMPACT_STRINGS" "Z") (.int 1)) = true := by decide +kernel
theorem st_8 : stB (Cond.isRef (Term.static "jdk/internal/util/Preconditions" "SIOOBE_FORMATTER" "Ljava/util/function/BiFunction;")) = true := by decide +kernel
theorem st_9 : ∀ w ∈ nwL, w ∈ lw_tbl := by decide +kernel
theorem st_10 : ∀ q ∈ srL, Cond.stringRef q.1 q.2.1 q.2.2.1 ∈ lw_tbl := by decide +kernel
theorem st_11 : Cond.arrayOver (.object RX1) ∈ lw_tbl := by decide +kernel
theorem st_12 : Cond.laysStatic "java/lang/String" "COMPACT_STRINGS" "Z" ∈ lw_tbl ∧ Cond.initialized "java/lang/String" ∈ lw_tbl ∧ Cond.laysStatic "jdk/internal/util/Preconditions" "SIOOBE_FORMATTER" "Ljava/util/function/BiFunction;" ∈ lw_tbl ∧ Cond.initialized "jdk/internal/util/Preconditions" ∈ lw_tbl := by decide +kernel
theorem st_13 : Cond.arrayClass .int ∈ lw_tbl := by decide +kernel
theorem st_14 : ∀ k : Nat, k < 12 → (vwCl[k]?.map fun q => Cond.instantiable q.1 q.2.2).all (fun w => decide (w ∈ lw_tbl)) = true := by decide +kernel
theorem va_Zrf {C n d : String} {A : Nat → Prop} {U : State} {H : Heap} (h : va_Zq C n d A U H) : ∃ o : Option Nat, va_Z C n d (va_rf o) A U H := by
  rcases h with h | ⟨t, h⟩
  · exact ⟨none, h⟩
  · exact ⟨some t, h⟩
theorem cl_u : ∀ (k : Nat) (q : vw_C), vwCl[k]? = some q → ∀ w ∈ u_ws q.1 q.2.1 q.2.2, w ∈ lw_tbl := by
  intro k q hq w hw
  have key : ∀ {ci : Nat} {C : String} {T : u_T} {N : Nat} {ty : Nat → FieldType}, CF ci C T N ty → ∀ w ∈ u_ws C T N, w ∈ lw_tbl := fun cf w hw => (List.mem_filter.mp (cf.2.1 w hw)).1
  match k, hq with
  | 0, hq => cases hq; exact key cfX0 w hw
  | 1, hq => cases hq; exact key cfX1 w hw
  | 2, hq => cases hq; exact key cfX2 w hw
  | 3, hq => cases hq; exact key cfX3 w hw
  | 4, hq => cases hq; exact key cfX4 w hw
  | 5, hq => cases hq; exact key cfX5 w hw
  | 6, hq => cases hq; exact key cfX6 w hw
  | 7, hq => cases hq; exact key cfX7 w hw
  | 8, hq => cases hq; exact key cfX8 w hw
  | 9, hq => cases hq; exact key cfX9 w hw
  | 10, hq => cases hq; exact key cfX10 w hw
  | 11, hq => cases hq; exact key cfX11 w hw
  | k + 12, hq => simp [vwCl] at hq
theorem a_bf {ρ : Type} {X : CX} {E : FE} {Qf : ρ → State → Prop} {pc : Nat} {L : List (Option Value)} {st : List Value} {Z : Sh} {S : Mm} {n w : Nat} {o : Option ρ} (g : At X E false Qf pc L st Z S n w o) : At X E true Qf pc L st Z S n w o :=
  fun r ho hz ls H locs hl hs hP hS => g r ho hz ls H locs hl (fun q => by cases q) hP hS
set_option maxRecDepth 100000 in
theorem a_end {X : CX} {E : FE} {Qf : Int32 → State → Prop} {st : List Value} {Z : Sh} {S : Mm} {n w a c : Nat} {o : Option Int32} {sc : Option Value} {i : Option Value} (g : At X E true Qf 18 [sc, some (.ref 0), some (.ref 239), i] st Z1 S n w o) : At X E true Qf 18 [sc, some (.ref a), some (.ref c), i] st Z S n w (gd (Z = Z1 ∧ a = 0 ∧ c = 239) o) := by
  intro r ho
  obtain ⟨⟨h1, h2, h3⟩, ho2⟩ := at_gd ho
  rw [h1, h2, h3]
  exact g r ho2
