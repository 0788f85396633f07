/-! ===== whom a set of letters needs ===== -/
def outS (P : PP) (D : DD) (q : Nat) : Int32 := livS P D &&& (shl 1 (nI q) ^^^ (-1))
def needP (P : PP) (D : DD) (x : Int32) (q : Nat) : Bool := liv P D q && decide (x &&& (togS P D (outS P D q) ^^^ (-1)) ≠ 0)
def needS (P : PP) (D : DD) (x : Int32) : Int32 := if x &&& (togS P D (livS P D) ^^^ (-1)) = 0 then setF (pN P) (needP P D x) else 0
theorem outS_dead {P : PP} {D : DD} {q : Nat} (hq : q < 32) (h : liv P D q = false) : outS P D q = livS P D := by
  refine b_ext fun i hi => ?_
  unfold outS
  rw [b_and, b_xor, b_m1 i hi, bt_livS hi, bt_one hq hi]
  by_cases c : i = q
  · subst c; rw [h]; rfl
  · simp [c]
theorem C_needed {A : Mm} {P : PP} {D : DD} (h : RK (fun j => A (1 + j)) P D) (hP : WFP P) (hD : WFD P D) (x : Int32) : ∃ f, f_X7_needed x A = some (needS P D x, rM A 182 f) := by
  have hN := hP.1
  obtain ⟨f, e, hf⟩ := C_ask (c := 1) (by decide : 1 ∈ clanL) h hP hD
  refine ⟨f, ?_⟩
  have h3 : A 1 3 = nI (pN P) := h.1.2.2.2
  have h4 : A 1 4 = livS P D := C_living h
  have hg : ∀ q, q < 12 → (rM A 182 f) 182 q = letS P D q := fun q hq => by rw [rM_same]; exact hf q hq
  unfold f_X7_needed
  rw [e]
  simp only [Option.bind_some]
  rw [rM_off _ _ (by decide), h4, C_together hP hg]
  simp only [Option.bind_some]
  unfold needS
  by_cases c0 : x &&& (togS P D (livS P D) ^^^ (-1)) = 0
  · rw [if_pos c0, if_pos c0]
    refine loop_set (fun _ _ _ _ => none) (fun k => f_X7_needed_32b k) (fun g i a => g x a (nI i) (rM A 182 f)) (pN P) _ (fun a => some (a, rM A 182 f)) (by omega) ?_ ?_
    · intro rec i a hi
      show f_X7_needed_32b rec x a (nI i) (rM A 182 f) = _
      simp only [f_X7_needed_32b, f_X7_needed_77, nm]
      rw [rM_off _ _ (by decide), h3, h4, if_neg (nI_ge_f hi (by omega))]
      rw [show livS P D &&& (shl 1 (nI i) ^^^ (-1)) = outS P D i from rfl, C_together hP hg]
      simp only [Option.bind_some]
      rw [nI_1]
      by_cases l : liv P D i = true
      · by_cases c : x &&& (togS P D (outS P D i) ^^^ (-1)) = 0
        · rw [if_pos c, if_neg (fun e9 => by unfold needP at e9; rw [Bool.and_eq_true] at e9; exact (of_decide_eq_true e9.2) c)]
        · rw [if_neg c, if_pos (by unfold needP; rw [Bool.and_eq_true]; exact ⟨l, decide_eq_true c⟩)]
      · have l0 : liv P D i = false := by simpa using l
        rw [outS_dead (by omega) l0, if_pos c0, if_neg (fun e9 => by unfold needP at e9; rw [Bool.and_eq_true] at e9; exact l e9.1)]
    · intro rec a
      show f_X7_needed_32b rec x a (nI (pN P)) (rM A 182 f) = _
      simp only [f_X7_needed_32b]
      rw [rM_off _ _ (by decide), h3, if_pos (nI_ge_t (Nat.le_refl _) (by omega))]
  · rw [if_neg c0, if_neg c0]
theorem F_neededFor {B : Mm} {P : PP} {D : DD} (h : RB B P D) (hP : WFP P) (hf : ∀ q, q < 12 → B 267 q = letS P D q) (x : Int32) : f_X11_neededFor x B = some (needS P D x, B) := by
  have hN := hP.1
  have h6 : B 239 6 = nI (pN P) := h.1.1.1
  unfold f_X11_neededFor
  rw [F_livingOnes h hP]
  simp only [Option.bind_some]
  rw [F_handOf h.1 hP hf]
  simp only [Option.bind_some]
  unfold needS
  by_cases c0 : x &&& (togS P D (livS P D) ^^^ (-1)) = 0
  · rw [if_pos c0, if_pos c0]
    refine loop_set (fun _ _ _ _ _ => none) (fun k => f_X11_neededFor_24b k) (fun g i a => g x (livS P D) a (nI i) B) (pN P) _ (fun a => some (a, B)) (by omega) ?_ ?_
    · intro rec i a hi
      show f_X11_neededFor_24b rec x (livS P D) a (nI i) B = _
      simp only [f_X11_neededFor_24b, f_X11_neededFor_69, nm]
      rw [h6, if_neg (nI_ge_f hi (by omega))]
      rw [show livS P D &&& (shl 1 (nI i) ^^^ (-1)) = outS P D i from rfl, F_handOf h.1 hP hf]
      simp only [Option.bind_some]
      rw [nI_1]
      by_cases l : liv P D i = true
      · rw [if_pos ((tb_1 (by omega)).mpr (by rw [bt_livS (by omega)]; exact l))]
        by_cases c : x &&& (togS P D (outS P D i) ^^^ (-1)) = 0
        · rw [if_pos c, if_neg (fun e9 => by unfold needP at e9; rw [Bool.and_eq_true] at e9; exact (of_decide_eq_true e9.2) c)]
        · rw [if_neg c, if_pos (by unfold needP; rw [Bool.and_eq_true]; exact ⟨l, decide_eq_true c⟩)]
      · rw [if_neg (fun e9 => l (by have := (tb_1 (by omega)).mp e9; rw [bt_livS (by omega)] at this; exact this)), if_neg (fun e9 => by unfold needP at e9; rw [Bool.and_eq_true] at e9; exact l e9.1)]
    · intro rec a
      show f_X11_neededFor_24b rec x (livS P D) a (nI (pN P)) B = _
      simp only [f_X11_neededFor_24b]
      rw [h6, if_pos (nI_ge_t (Nat.le_refl _) (by omega))]
  · rw [if_neg c0, if_neg c0]
