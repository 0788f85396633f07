theorem and_split {x y m M : Nat} (hx : x < 256) (hm : m < 256) : (x + 256 * y) &&& (m + 256 * M) = (x &&& m) + 256 * (y &&& M) := by
  have h1 := Nat.and_mod_two_pow (a := x + 256 * y) (b := m + 256 * M) (n := 8)
  have h2 : ((x + 256 * y) &&& (m + 256 * M)) / 256 = y &&& M := by
    have := Nat.shiftRight_and_distrib (a := x + 256 * y) (b := m + 256 * M) (i := 8)
    rw [Nat.shiftRight_eq_div_pow, Nat.shiftRight_eq_div_pow, Nat.shiftRight_eq_div_pow] at this
    rw [show (256 : Nat) = 2 ^ 8 from rfl, this]
    congr 1
    · omega
    · omega
  rw [show (2 : Nat) ^ 8 = 256 from rfl, show (x + 256 * y) % 256 = x by omega, show (m + 256 * M) % 256 = m by omega] at h1
  omega
/-- one byte's steps -/
def q1 (n : Nat) : Nat := n - ((n / 2) &&& 85)
def q2 (a : Nat) : Nat := (a &&& 51) + ((a / 4) &&& 51)
theorem q1_h : ∀ n, n < 256 → ∀ b, b < 2 → (n / 2 + 128 * b) &&& 85 = (n / 2) &&& 85 := by decide +kernel
theorem q1_le : ∀ n, n < 256 → (n / 2) &&& 85 ≤ n ∧ q1 n < 256 := by decide +kernel
theorem q2_h : ∀ n, n < 256 → ∀ b, b < 4 → (n / 4 + 64 * b) &&& 51 = (n / 4) &&& 51 := by decide +kernel
theorem q2_le : ∀ n, n < 256 → (q1 n &&& 51) + ((q1 n / 4) &&& 51) < 256 ∧ q2 (q1 n) % 16 ≤ 4 ∧ q2 (q1 n) / 16 ≤ 4 := by decide +kernel
theorem q3_h : ∀ n, n < 256 → (q2 (q1 n) + q2 (q1 n) / 16) % 16 = pcB 8 n := by decide +kernel
theorem step1 {x y M : Nat} (hx : x < 256) : (x + 256 * y) - (((x + 256 * y) / 2) &&& (85 + 256 * M)) = q1 x + 256 * (y - ((y / 2) &&& M)) := by
  have e : (x + 256 * y) / 2 = (x / 2 + 128 * (y % 2)) + 256 * (y / 2) := by omega
  rw [e, and_split (by omega) (by omega), q1_h x hx _ (by omega)]
  have h1 := (q1_le x hx).1
  have h2 : (y / 2) &&& M ≤ y / 2 := Nat.and_le_left
  unfold q1
  omega
theorem step2 {x y M : Nat} (hx : x < 256) : ((x + 256 * y) &&& (51 + 256 * M)) + (((x + 256 * y) / 4) &&& (51 + 256 * M)) = q2 x + 256 * ((y &&& M) + ((y / 4) &&& M)) := by
  have e : (x + 256 * y) / 4 = (x / 4 + 64 * (y % 4)) + 256 * (y / 4) := by omega
  rw [e, and_split hx (by omega), and_split (by omega) (by omega), q2_h x hx _ (by omega)]
  unfold q2
  omega
theorem pcB_add : ∀ (v w n : Nat), pcB (v + w) n = pcB v n + pcB w (n / 2 ^ v) := by
  intro v
  induction v with
  | zero => intro w n; simp [pcB]
  | succ v ih =>
    intro w n
    rw [show v + 1 + w = (v + w) + 1 by omega, pcB_s, pcB_s, ih, Nat.pow_succ, Nat.mul_comm (2 ^ v) 2, ← Nat.div_div_eq_div_mul, Nat.add_assoc]
theorem pcB_mod : ∀ (w n : Nat), pcB w (n % 2 ^ w) = pcB w n := by
  intro w
  induction w with
  | zero => intro n; rfl
  | succ w ih =>
    intro n
    have h1 : n % 2 ^ (w + 1) % 2 = n % 2 := Nat.mod_mod_of_dvd n ⟨2 ^ w, by rw [Nat.pow_succ, Nat.mul_comm]⟩
    have h2 : n % 2 ^ (w + 1) / 2 = n / 2 % 2 ^ w := by rw [Nat.pow_succ, Nat.mul_comm, Nat.mod_mul_right_div_self]
    rw [pcB_s, pcB_s, h1, h2, ih]
theorem sw_es {b0 b1 b2 b3 b s : Nat} (eb : b = b0 + 256 * (b1 + 256 * (b2 + 256 * (b3 + 256 * 0)))) (hs : s = b + b / 16) : s = (b0 + b0 / 16 + 16 * (b1 % 16)) + 256 * ((b1 + b1 / 16 + 16 * (b2 % 16)) + 256 * ((b2 + b2 / 16 + 16 * (b3 % 16)) + 256 * ((b3 + b3 / 16) + 256 * 0))) := by
  have h : b / 16 = b0 / 16 + 16 * (b1 + 256 * (b2 + 256 * b3)) := by omega
  rw [hs, h]
  omega
theorem sw_le {x0 x1 x2 x3 : Nat} (h0 : x0 < 256) (h1 : x1 < 256) (h2 : x2 < 256) (h3 : x3 < 256) : x0 + 256 * (x1 + 256 * (x2 + 256 * (x3 + 256 * 0))) < 4294967296 := by omega
theorem sw_fin {p0 p1 p2 p3 c d e : Nat} (h0 : p0 ≤ 8) (h1 : p1 ≤ 8) (h2 : p2 ≤ 8) (h3 : p3 ≤ 8) (hc : c = p0 + 256 * (p1 + 256 * (p2 + 256 * (p3 + 256 * 0)))) (hd : d = c + c / 256) (he : e = d + d / 65536) : d < 4294967296 ∧ e < 4294967296 ∧ e % 64 = p0 + p1 + p2 + p3 := by
  have x1 : c / 256 = p1 + 256 * (p2 + 256 * p3) := by omega
  have x2 : d = (p0 + p1) + 256 * ((p1 + p2) + 256 * ((p2 + p3) + 256 * p3)) := by rw [hd, x1, hc]; omega
  have x3 : d / 65536 = (p2 + p3) + 256 * p3 := by rw [x2]; omega
  have x4 : e = (p0 + p1 + p2 + p3) + 64 * (4 * ((p1 + p2 + p3) + 256 * ((p2 + p3) + 256 * p3))) := by rw [he, x3, x2]; omega
  clear hc hd he x1
  refine ⟨by omega, by omega, ?_⟩
  rw [x4, Nat.add_mul_mod_self_left]
  omega
