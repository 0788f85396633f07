/-! ===== the fewest signers of a set of letters ===== -/
def pc (n : Nat) : Nat := pcB 32 n
theorem F_ones1 (B : Mm) {n : Nat} (hn : n < 4096) : f_X11_ones (nI n) B = some (nI (pc n), B) := F_ones B (Nat.lt_trans hn (by decide)) 32 (Nat.lt_trans hn (by decide)) rfl
theorem J_pc (A : Mm) {n : Nat} (hn : n < 4096) : f_J6_bitCount_0f7a4 (nI n) A = some (nI (pc n), A) := J_bitCount A (Nat.lt_trans hn (by decide))
theorem pc_le {n : Nat} (hn : n < 4096) : pc n ≤ 12 := by
  have h1 : pcB (12 + 20) n = pcB 12 n + pcB 20 (n / 2 ^ 12) := pcB_add 12 20 n
  have h2 : n / 2 ^ 12 = 0 := Nat.div_eq_of_lt hn
  rw [h2, pcB_0] at h1
  have h3 : pcB 12 n + 0 ≤ 12 := pcB_le 12 n
  rw [← h1] at h3
  exact h3
theorem bt_nI {n j : Nat} (hj : j < 32) : bt (nI n) j = n.testBit j := by
  unfold bt
  show (BitVec.ofNat 32 n).getLsbD j = _
  rw [BitVec.getLsbD_ofNat]
  simp [hj]
theorem shl_pow : ∀ n, n < 13 → shl 1 (nI n) = nI (2 ^ n) := by decide +kernel
def sgT (P : PP) (D : DD) (x : Int32) (i b : Nat) : Nat := if nI i &&& (livS P D ^^^ (-1)) = 0 ∧ (b = 0 ∨ pc i < pc b) ∧ x &&& (togS P D (nI i) ^^^ (-1)) = 0 then i else b
def sv (b : Nat) : Int32 := if b = 0 then -1 else nI b
def sc (b : Nat) : Int32 := nI (if b = 0 then 13 else pc b)
def sgnS (P : PP) (D : DD) (x : Int32) : Int32 := sv (ff (sgT P D x) 1 (2 ^ pN P - 1) 0)
theorem pow_N {n : Nat} (h : n ≤ 12) : 1 ≤ 2 ^ n ∧ 2 ^ n ≤ 4096 := ⟨Nat.one_le_two_pow, by have := Nat.pow_le_pow_right (n := 2) (by decide) h; exact this⟩
theorem sc_lt {i b : Nat} (hi : i < 4096) (hb : b < 4096) : nI (pc i) < sc b ↔ (b = 0 ∨ pc i < pc b) := by
  have h1 := pc_le hi
  have h2 := pc_le hb
  unfold sc
  rw [nI_ltI (by omega) (by split <;> omega)]
  split
  · omega
  · omega
theorem sv_m1 {b : Nat} (hb : b < 4096) : sv b = -1 ↔ b = 0 := by
  unfold sv
  by_cases c : b = 0
  · rw [if_pos c]; exact iff_of_true rfl c
  · rw [if_neg c]
    refine iff_of_false (fun e => ?_) c
    have := nI_pos' (n := b) (by omega)
    rw [e] at this
    exact absurd this (by decide)
theorem C_signers {A : Mm} {P : PP} {D : DD} (h : RK (fun j => A (1 + j)) P D) (hP : WFP P) (hD : WFD P D) (x : Int32) : ∃ f, f_X7_signers x A = some (sgnS P D x, rM A 182 f) := by
  have hN := hP.1
  obtain ⟨f, e, hf⟩ := C_ask (c := 1) (by decide : 1 ∈ clanL) h hP hD
  refine ⟨f, ?_⟩
  have h3 : A 1 3 = nI (pN P) := h.1.2.2.2
  have h4 : A 1 4 = livS P D := C_living h
  have hg : ∀ q, q < 12 → (rM A 182 f) 182 q = letS P D q := fun q hq => by rw [rM_same]; exact hf q hq
  have hp := pow_N hN
  unfold f_X7_signers
  rw [e]
  simp only [Option.bind_some]
  refine (itr_for (fun _ _ _ _ _ => none) (fun k => f_X7_signers_16b k) (fun g i b => g x (sv b) (sc b) (nI i) (rM A 182 f)) (2 ^ pN P) (sgT P D x) (fun b => some (sv b, rM A 182 f)) (fun i b => b < i) ?_ ?_ (2 ^ pN P - 1) 1 FU 0 (by omega) (by unfold FU; omega) (by decide)).1
  · intro rec i b hi hb
    have hb2 : b < 4096 := by omega
    have hi2 : i < 4096 := by omega
    refine ⟨?_, by show sgT P D x i b < i + 1; unfold sgT; split <;> omega⟩
    show f_X7_signers_16b rec x (sv b) (sc b) (nI i) (rM A 182 f) = _
    simp only [f_X7_signers_16b, f_X7_signers_79, nm]
    rw [rM_off _ _ (by decide), h3, h4, shl_pow _ (by omega), if_neg (nI_ge_f hi (by omega)), J_pc _ hi2]
    simp only [Option.bind_some]
    rw [C_together hP hg]
    simp only [Option.bind_some]
    rw [nI_1]
    unfold sgT
    by_cases c1 : nI i &&& (livS P D ^^^ (-1)) = 0
    · rw [if_pos c1]
      by_cases c2 : (b = 0 ∨ pc i < pc b)
      · rw [if_pos ((sc_lt hi2 hb2).mpr c2)]
        by_cases c3 : x &&& (togS P D (nI i) ^^^ (-1)) = 0
        · rw [if_pos c3, if_pos ⟨c1, c2, c3⟩]
          have hi0 : i ≠ 0 := by omega
          unfold sv sc
          rw [if_neg hi0, if_neg hi0, J_pc _ hi2]
          rfl
        · rw [if_neg c3, if_neg (fun e9 => c3 e9.2.2)]
      · rw [if_neg (fun e9 => c2 ((sc_lt hi2 hb2).mp e9)), if_neg (fun e9 => c2 e9.2.1)]
    · rw [if_neg c1, if_neg (fun e9 => c1 e9.1)]
  · intro rec b hb
    show f_X7_signers_16b rec x (sv b) (sc b) (nI (2 ^ pN P)) (rM A 182 f) = _
    simp only [f_X7_signers_16b]
    rw [rM_off _ _ (by decide), h3, shl_pow _ (by omega), if_pos (nI_ge_t (Nat.le_refl _) (by omega))]
theorem dead_out {B : Mm} {P : PP} {D : DD} (h : RB B P D) (hP : WFP P) {i : Nat} (hi : i < 2 ^ pN P) : (nI i &&& B 240 3 = 0) ↔ (nI i &&& (livS P D ^^^ (-1)) = 0) := by
  have hN := hP.1
  rw [i32_0, i32_0]
  refine forall_congr' fun j => imp_congr_right fun hj => ?_
  rw [b_and, b_and, bt_not _ hj, bt_livS hj, bt_nI hj]
  by_cases c : j < pN P
  · rw [h.2.1.2.1 j c]
    unfold liv
    simp [c]
  · rw [Nat.testBit_lt_two_pow (Nat.lt_of_lt_of_le hi (Nat.pow_le_pow_right (by decide) (by omega)))]
    simp
theorem F_signersOf {B : Mm} {P : PP} {D : DD} (h : RB B P D) (hP : WFP P) (hf : ∀ q, q < 12 → B 267 q = letS P D q) (x : Int32) : f_X11_signersOf x B = some (sgnS P D x, B) := by
  have hN := hP.1
  have h6 : B 239 6 = nI (pN P) := h.1.1.1
  have hp := pow_N hN
  unfold f_X11_signersOf
  refine (itr_for (fun _ _ _ _ => none) (fun k => f_X11_signersOf_4b k) (fun g i b => g x (sv b) (nI i) B) (2 ^ pN P) (sgT P D x) (fun b => some (sv b, B)) (fun i b => b < i) ?_ ?_ (2 ^ pN P - 1) 1 FU 0 (by omega) (by unfold FU; omega) (by decide)).1
  · intro rec i b hi hb
    have hb2 : b < 4096 := by omega
    have hi2 : i < 4096 := by omega
    refine ⟨?_, by show sgT P D x i b < i + 1; unfold sgT; split <;> omega⟩
    show f_X11_signersOf_4b rec x (sv b) (nI i) B = _
    simp only [f_X11_signersOf_4b, f_X11_signersOf_60, f_X11_signersOf_46, nm]
    rw [h6, shl_pow _ (by omega), if_neg (nI_ge_f hi (by omega)), F_ones1 _ hi2, F_handOf h.1 hP hf]
    simp only [Option.bind_some]
    rw [nI_1]
    have hi0 : i ≠ 0 := by omega
    have hsv : nI i = sv i := by unfold sv; rw [if_neg hi0]
    unfold sgT
    by_cases c1 : nI i &&& (livS P D ^^^ (-1)) = 0
    · rw [if_pos ((dead_out h hP hi).mpr c1)]
      by_cases c0 : b = 0
      · rw [if_pos ((sv_m1 hb2).mpr c0)]
        by_cases c3 : x &&& (togS P D (nI i) ^^^ (-1)) = 0
        · rw [if_pos c3, if_pos ⟨c1, Or.inl c0, c3⟩, ← hsv]
        · rw [if_neg c3, if_neg (fun e9 => c3 e9.2.2)]
      · rw [if_neg (fun e9 => c0 ((sv_m1 hb2).mp e9))]
        have hsb : sv b = nI b := by unfold sv; rw [if_neg c0]
        rw [show f_X11_ones (sv b) B = some (nI (pc b), B) by rw [hsb]; exact F_ones1 _ hb2]
        simp only [Option.bind_some]
        rw [F_handOf h.1 hP hf]
        simp only [Option.bind_some]
        have z1 := pc_le hi2
        have z2 := pc_le hb2
        by_cases c2 : pc i < pc b
        · rw [if_pos ((nI_ltI (by omega) (by omega)).mpr c2)]
          by_cases c3 : x &&& (togS P D (nI i) ^^^ (-1)) = 0
          · rw [if_pos c3, if_pos ⟨c1, Or.inr c2, c3⟩, ← hsv]
          · rw [if_neg c3, if_neg (fun e9 => c3 e9.2.2)]
        · rw [if_neg (fun e9 => c2 ((nI_ltI (by omega) (by omega)).mp e9)), if_neg (fun e9 => e9.2.1.elim c0 c2)]
    · rw [if_neg (fun e9 => c1 ((dead_out h hP hi).mp e9)), if_neg (fun e9 => c1 e9.1)]
  · intro rec b hb
    show f_X11_signersOf_4b rec x (sv b) (nI (2 ^ pN P)) B = _
    simp only [f_X11_signersOf_4b]
    rw [h6, shl_pow _ (by omega), if_pos (nI_ge_t (Nat.le_refl _) (by omega))]
