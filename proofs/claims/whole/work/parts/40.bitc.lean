theorem s_u' : ∀ n, n < 32 → (((nI n).toUInt32 &&& Int32.toUInt32 31).toBitVec % 32).toNat = n := by decide +kernel
theorem J_bitCount (A : Mm) {n : Nat} (hn : n < 4294967296) : f_J6_bitCount_0f7a4 (nI n) A = some (nI (pcB 32 n), A) := by
  have us : ∀ (m k : Nat), m < 4294967296 → k < 32 → ushr (nI m) (nI k) = nI (m / 2 ^ k) := by
    intro m k hm hk
    unfold ushr
    exact pk_ushrN (by omega) (nI k) k (s_u' k hk)
  have hsw := swar (n % 256) (n / 256 % 256) (n / 65536 % 256) (n / 16777216) (by omega) (by omega) (by omega) (by omega) (n := n) (by omega) rfl rfl rfl rfl rfl rfl
  obtain ⟨g1, g2, g3, g4, g5, g6, g7, g8⟩ := hsw
  simp only [f_J6_bitCount_0f7a4, nm]
  rw [nI_lit 1, nI_lit 1431655765, nI_lit 858993459, nI_lit 2, nI_lit 4, nI_lit 252645135, nI_lit 8, nI_lit 16, nI_lit 63]
  rw [us n 1 hn (by omega), nI_and, pk_sub (by simpa using g7)]
  rw [us _ 2 (by simpa using g1) (by omega), nI_and, nI_and, nI_add]
  rw [us _ 4 (by simpa using g2) (by omega), nI_add, nI_and]
  rw [us _ 8 (by simpa using g4) (by omega), nI_add]
  rw [us _ 16 (by simpa using g5) (by omega), nI_add, nI_and]
  refine congrArg some (Prod.ext ?_ rfl)
  show nI _ = nI _
  refine congrArg nI ?_
  have a63 : ∀ x, x &&& 63 = x % 64 := fun x => Nat.and_two_pow_sub_one_eq_mod x 6
  rw [a63]
  have hp : pcB 32 n = pcB 8 (n % 256) + pcB 8 (n / 256 % 256) + pcB 8 (n / 65536 % 256) + pcB 8 (n / 16777216) := by
    rw [show (32 : Nat) = 8 + (8 + (8 + 8)) from rfl, pcB_add, pcB_add, pcB_add, ← pcB_mod 8 n, ← pcB_mod 8 (n / 2 ^ 8), ← pcB_mod 8 (n / 2 ^ 8 / 2 ^ 8)]
    have e1 : n / 2 ^ 8 / 2 ^ 8 = n / 65536 := by rw [Nat.div_div_eq_div_mul]
    have e2 : n / 2 ^ 8 / 2 ^ 8 / 2 ^ 8 = n / 16777216 := by rw [Nat.div_div_eq_div_mul, Nat.div_div_eq_div_mul]
    rw [e2, e1]
    show _ + (_ + (_ + _)) = _
    simp only [show (2 : Nat) ^ 8 = 256 from rfl]
    omega
  rw [hp]
  exact g8
