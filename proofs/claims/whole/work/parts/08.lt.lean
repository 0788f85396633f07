theorem lt_b {a b : Nat} (h : Nat.ble (a + 1) b = true) : a < b := Nat.le_of_ble_eq_true h
section NUL
variable {ρ : Type} {X : CX} {E : FE} {b : Bool} {Qf : ρ → State → Prop} {pc : Nat} {L : List (Option Value)} {st : List Value} {Z : Sh} {S : Mm} {n w : Nat} {o : Option ρ} {own : String} {cc : ByteArray} {nL : Nat}
theorem a_aload_nN (F : Fr X E own cc nL) {k : Fin 4} {i : Nat} (d : decode cc pc = .ok (.aload_n k, 1)) (hi : (k : Nat) = i) (hL : L[i]? = some (some .null)) (g : At X E b Qf (pc + 1) L (.null :: st) Z S n w o) : At X E b Qf pc L st Z S n w o :=
  fun r ho hz ls H locs hl hs hP hS => lv_aload_nN F.1 F.2.1 d hi (cL_at hl hL rfl) (g r ho hz ls H locs hl hs hP hS)
theorem a_aloadN (F : Fr X E own cc nL) {i : Nat} (d : decode cc pc = .ok (.aload i, 2)) (hL : L[i]? = some (some .null)) (g : At X E b Qf (pc + 2) L (.null :: st) Z S n w o) : At X E b Qf pc L st Z S n w o :=
  fun r ho hz ls H locs hl hs hP hS => lv_aloadN F.1 F.2.1 d (cL_at hl hL rfl) (g r ho hz ls H locs hl hs hP hS)
end NUL
