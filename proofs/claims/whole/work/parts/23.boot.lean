/-! The law from its entry: the two objects are made (computed once), then the loop. -/
def bootK {ρ : Type} (K : Nat → Nat → Sh → Mm → Option ρ) : Option ρ :=
  gd (1 ≤ 600000 ∧ 12 ≤ 7302250 ∧ ([] : Sh).length < 1048576) <|
  nm (([] : Sh) ++ [(12, 12, List.replicate 12 none)]) fun Z_1 =>
  nm (rM (fun _ _ => 0) ([] : Sh).length (fun _ => 0)) fun S_1 =>
  gd (239 ≤ 600000 ∧ 10694 ≤ 7302250) <| (f_X10_init ([] : Sh).length Z_1 S_1).bind fun q_1 => gd (q_1.1.length ≤ 1048576) <|
  gd (240 ≤ 600000 ∧ 10748 ≤ 7302250 ∧ q_1.1.length < 1048576) <|
  nm (q_1.1 ++ [(13, 54, List.replicate 54 none)]) fun Z_2 =>
  nm (rM q_1.2 q_1.1.length (fun _ => 0)) fun S_2 =>
  gd (270 ≤ 600000 ∧ 20163 ≤ 7302250) <| (f_X11_init q_1.1.length Z_2 S_2).bind fun q_2 => gd (q_2.1.length ≤ 1048576) <|
  K ([] : Sh).length q_1.1.length q_2.1 q_2.2
def bootR : Option (Nat × Nat × Sh × Mm) := bootK (fun a c Z S => some (a, c, Z, S))
theorem bootK_eq {ρ : Type} (K : Nat → Nat → Sh → Mm → Option ρ) : bootK K = bootR.bind (fun r => K r.1 r.2.1 r.2.2.1 r.2.2.2) := by
  unfold bootR bootK
  simp only [nm]
  generalize f_X10_init _ _ _ = o1
  cases o1 with
  | none => simp [gd]
  | some q =>
    simp only [Option.bind_some]
    generalize f_X11_init _ _ _ = o2
    cases o2 with
    | none => simp [gd]
    | some q2 =>
      simp only [Option.bind_some]
      unfold gd
      split <;> try rfl
      split <;> try rfl
      split <;> try rfl
      split <;> try rfl
      split <;> try rfl
      split <;> rfl
def shB (a b : Sh) : Bool := decide (a = b)
def bootB : Bool := match bootR with
  | some r => Nat.beq r.1 0 && (Nat.beq r.2.1 239 && shB r.2.2.1 Z1)
  | none => false
theorem boot_ok : bootB = true := by decide +kernel
/-- the memory behind the two constructors -/
def S1 : Mm := match bootR with
  | some r => r.2.2.2
  | none => fun _ _ => 0
theorem boot_eq : bootR = some (0, 239, Z1, S1) := by
  have h := boot_ok
  unfold bootB at h
  unfold S1
  cases hb : bootR with
  | none => rw [hb] at h; cases h
  | some r =>
    rw [hb] at h
    obtain ⟨a, b, c, d⟩ := r
    simp only [Bool.and_eq_true] at h
    obtain ⟨h1, h2, h3⟩ := h
    have e1 : a = 0 := Nat.eq_of_beq_eq_true h1
    have e2 : b = 239 := Nat.eq_of_beq_eq_true h2
    have e3 : c = Z1 := of_decide_eq_true h3
    subst e1; subst e2; subst e3
    rfl
