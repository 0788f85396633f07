/-! ===== who lives and can write nothing ===== -/
def dumbS (P : PP) (D : DD) : Int32 := setF (pN P) (fun q => liv P D q && decide (letS P D q = 0))
theorem C_speechless {A : Mm} {P : PP} {D : DD} (h : RK (fun j => A (1 + j)) P D) (hP : WFP P) (hD : WFD P D) : ∃ f, f_X7_speechless A = some (dumbS P D, rM A 182 f) := by
  have hN := hP.1
  obtain ⟨f, e, hf⟩ := C_ask (c := 1) (by decide : 1 ∈ clanL) h hP hD
  refine ⟨f, ?_⟩
  have h3 : A 1 3 = nI (pN P) := h.1.2.2.2
  have hk : RK (fun j => (rM A 182 f) (1 + j)) P D := RK_rM (by decide : 1 ∈ clanL) (by decide) h
  unfold f_X7_speechless dumbS
  rw [e]
  simp only [Option.bind_some]
  refine loop_set (fun _ _ _ => none) (fun k => f_X7_speechless_12b k) (fun g i a => g a (nI i) (rM A 182 f)) (pN P) _ (fun a => some (a, rM A 182 f)) (by omega) ?_ ?_
  · intro rec i a hi
    show f_X7_speechless_12b rec a (nI i) (rM A 182 f) = _
    simp only [f_X7_speechless_12b, f_X7_speechless_49, nm]
    rw [C_lives hk hN hi, rM_off _ _ (by decide), h3, if_neg (nI_ge_f hi (by omega))]
    simp only [Option.bind_some]
    rw [nI_1]
    by_cases l : liv P D i = true
    · rw [if_pos l, if_neg (by decide), gd_pos ((inB_nI (by omega)).mpr (by omega)), ix_nI (by omega), rM_same, hf i (by omega)]
      by_cases c : letS P D i = 0
      · rw [if_pos c, if_pos (by rw [Bool.and_eq_true]; exact ⟨l, decide_eq_true c⟩)]
      · rw [if_neg c, if_neg (fun e9 => by rw [Bool.and_eq_true] at e9; exact c (of_decide_eq_true e9.2))]
    · rw [if_neg l, if_pos rfl, if_neg (fun e9 => by rw [Bool.and_eq_true] at e9; exact l e9.1)]
  · intro rec a
    show f_X7_speechless_12b rec a (nI (pN P)) (rM A 182 f) = _
    simp only [f_X7_speechless_12b]
    rw [rM_off _ _ (by decide), h3, if_pos (nI_ge_t (Nat.le_refl _) (by omega))]
theorem F_dumb {B : Mm} {P : PP} {D : DD} (h : RB B P D) (h0 : B 239 0 = 0) (hP : WFP P) (hD : WFD P D) : ∃ f, f_X11_dumb B = some (dumbS P D, rM B 267 f) := by
  have hN := hP.1
  obtain ⟨f, e, hf⟩ := F_findsHands h hP hD
  refine ⟨f, ?_⟩
  have hk : RB (rM B 267 f) P D := RB_rM (by decide) h
  have h6 : (rM B 267 f) 239 6 = nI (pN P) := hk.1.1.1
  unfold f_X11_dumb dumbS
  simp only [nm]
  rw [uM_id h0, e]
  simp only [Option.bind_some]
  refine loop_set (fun _ _ _ => none) (fun k => f_X11_dumb_13b k) (fun g i a => g a (nI i) (rM B 267 f)) (pN P) _ (fun a => some (a, rM B 267 f)) (by omega) ?_ ?_
  · intro rec i a hi
    show f_X11_dumb_13b rec a (nI i) (rM B 267 f) = _
    simp only [f_X11_dumb_13b, f_X11_dumb_44, nm]
    rw [F_doesLive hk.2.1 hN hi, h6, if_neg (nI_ge_f hi (by omega))]
    simp only [Option.bind_some]
    rw [nI_1]
    by_cases l : liv P D i = true
    · rw [if_pos l, if_neg (by decide), gd_pos ((inB_nI (by omega)).mpr (by omega)), ix_nI (by omega), rM_same, hf i (by omega)]
      by_cases c : letS P D i = 0
      · rw [if_pos c, if_pos (by rw [Bool.and_eq_true]; exact ⟨l, decide_eq_true c⟩)]
      · rw [if_neg c, if_neg (fun e9 => by rw [Bool.and_eq_true] at e9; exact c (of_decide_eq_true e9.2))]
    · rw [if_neg l, if_pos rfl, if_neg (fun e9 => by rw [Bool.and_eq_true] at e9; exact l e9.1)]
  · intro rec a
    show f_X11_dumb_13b rec a (nI (pN P)) (rM B 267 f) = _
    simp only [f_X11_dumb_13b]
    rw [h6, if_pos (nI_ge_t (Nat.le_refl _) (by omega))]
