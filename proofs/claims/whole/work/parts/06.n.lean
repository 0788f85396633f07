/-! Math.max, Math.min -/
def imax (x y : Int32) : Int32 := if x < y then y else x
def imin (x y : Int32) : Int32 := if y < x then y else x
section MM
variable {ρ : Type} {X : CX} {E : FE} {b : Bool} {Qf : ρ → State → Prop} {pc : Nat} {L : List (Option Value)} {st : List Value} {Z : Sh} {S : Mm} {n w : Nat} {o : Option ρ} {own : String} {cc : ByteArray} {nL : Nat}
theorem a_mmax (F : Fr X E own cc nL) {idx : Nat} {x y : Int32} (d : decode cc pc = .ok (.invokestatic idx, 3)) (hL : L.length = nL) (hw : Cond.methodLink own idx Lib.Math.max.name ∈ lwG) (h1 : Cond.static Lib.Math.max.name ∈ lwG) (h2 : Cond.initialized "java/lang/Math" ∈ lwG) (h3 : Cond.code Lib.Math.max.name Lib.Math.max.code 2 (some .int) ∈ lwG) (hcat : (st.map fun v => v.category).sum ≤ 8) (hfr : 1 ≤ (eR E).frames) (hlo : 64 ≤ (eR E).locals) (hnw : n ≤ (eR E).cells ∧ w ≤ (eR E).slots) (g : At X E b Qf (pc + 3) L (.int (imax x y) :: st) Z S n w o) : At X E b Qf pc L (.int y :: .int x :: st) Z S n w o := by
  intro r ho hz ls H locs hl hs hP hS
  obtain ⟨hx, hb, hml, hown, hts, -⟩ := F
  exact va_mmax hx hb (hml.trans (hL.symm.trans hl.1.symm)) hown (hts _ hw) (hts _ h1) (hts _ h2) (hts _ h3) hfr (by rw [cat_map]; omega) hnw.1 hnw.2 d (g r ho hz ls H locs hl hs hP hS)
theorem a_mmin (F : Fr X E own cc nL) {idx : Nat} {x y : Int32} (d : decode cc pc = .ok (.invokestatic idx, 3)) (hL : L.length = nL) (hw : Cond.methodLink own idx Lib.Math.min.name ∈ lwG) (h1 : Cond.static Lib.Math.min.name ∈ lwG) (h2 : Cond.initialized "java/lang/Math" ∈ lwG) (h3 : Cond.code Lib.Math.min.name Lib.Math.min.code 2 (some .int) ∈ lwG) (hcat : (st.map fun v => v.category).sum ≤ 8) (hfr : 1 ≤ (eR E).frames) (hlo : 64 ≤ (eR E).locals) (hnw : n ≤ (eR E).cells ∧ w ≤ (eR E).slots) (g : At X E b Qf (pc + 3) L (.int (imin x y) :: st) Z S n w o) : At X E b Qf pc L (.int y :: .int x :: st) Z S n w o := by
  intro r ho hz ls H locs hl hs hP hS
  obtain ⟨hx, hb, hml, hown, hts, -⟩ := F
  exact va_mmin hx hb (hml.trans (hL.symm.trans hl.1.symm)) hown (hts _ hw) (hts _ h1) (hts _ h2) (hts _ h3) hfr (by rw [cat_map]; omega) hnw.1 hnw.2 d (g r ho hz ls H locs hl hs hP hS)
end MM
