theorem swar (n0 n1 n2 n3 : Nat) (h0 : n0 < 256) (h1 : n1 < 256) (h2 : n2 < 256) (h3 : n3 < 256) {n a b s c d e : Nat} (hn : n = n0 + 256 * (n1 + 256 * (n2 + 256 * (n3 + 256 * 0)))) (ha : a = n - ((n / 2) &&& 1431655765)) (hb : b = (a &&& 858993459) + ((a / 4) &&& 858993459)) (hs : s = b + b / 16) (hc : c = s &&& 252645135) (hd : d = c + c / 256) (he : e = d + d / 65536) : a < 4294967296 ∧ b < 4294967296 ∧ s < 4294967296 ∧ c < 4294967296 ∧ d < 4294967296 ∧ e < 4294967296 ∧ (n / 2) &&& 1431655765 ≤ n ∧ e % 64 = pcB 8 n0 + pcB 8 n1 + pcB 8 n2 + pcB 8 n3 := by
  have ea : a = q1 n0 + 256 * (q1 n1 + 256 * (q1 n2 + 256 * (q1 n3 + 256 * 0))) := by
    rw [ha, hn, show (1431655765 : Nat) = 85 + 256 * (85 + 256 * (85 + 256 * (85 + 256 * 0))) from rfl, step1 h0, step1 h1, step1 h2, step1 h3]
    rfl
  have l0 := (q1_le n0 h0).2
  have l1 := (q1_le n1 h1).2
  have l2 := (q1_le n2 h2).2
  have l3 := (q1_le n3 h3).2
  have eb : b = q2 (q1 n0) + 256 * (q2 (q1 n1) + 256 * (q2 (q1 n2) + 256 * (q2 (q1 n3) + 256 * 0))) := by
    rw [hb, ea, show (858993459 : Nat) = 51 + 256 * (51 + 256 * (51 + 256 * (51 + 256 * 0))) from rfl, step2 l0, step2 l1, step2 l2, step2 l3]
    rfl
  have m0 := q2_le n0 h0
  have m1 := q2_le n1 h1
  have m2 := q2_le n2 h2
  have m3 := q2_le n3 h3
  have p0 := q3_h n0 h0
  have p1 := q3_h n1 h1
  have p2 := q3_h n2 h2
  have p3 := q3_h n3 h3
  have z0 := pcB_le 8 n0
  have z1 := pcB_le 8 n1
  have z2 := pcB_le 8 n2
  have z3 := pcB_le 8 n3
  generalize q2 (q1 n0) = b0 at *
  generalize q2 (q1 n1) = b1 at *
  generalize q2 (q1 n2) = b2 at *
  generalize q2 (q1 n3) = b3 at *
  have es := sw_es eb hs
  have a15 : ∀ x, x &&& 15 = x % 16 := fun x => Nat.and_two_pow_sub_one_eq_mod x 4
  have t0 : b0 + b0 / 16 + 16 * (b1 % 16) < 256 := by clear hn ha hb hs hc hd he ea eb es p0 p1 p2 p3; omega
  have t1 : b1 + b1 / 16 + 16 * (b2 % 16) < 256 := by clear hn ha hb hs hc hd he ea eb es p0 p1 p2 p3; omega
  have t2 : b2 + b2 / 16 + 16 * (b3 % 16) < 256 := by clear hn ha hb hs hc hd he ea eb es p0 p1 p2 p3; omega
  have t3 : b3 + b3 / 16 < 256 := by clear hn ha hb hs hc hd he ea eb es p0 p1 p2 p3; omega
  have ec : c = pcB 8 n0 + 256 * (pcB 8 n1 + 256 * (pcB 8 n2 + 256 * (pcB 8 n3 + 256 * 0))) := by
    rw [hc, es, show (252645135 : Nat) = 15 + 256 * (15 + 256 * (15 + 256 * (15 + 256 * 0))) from rfl, and_split t0 (by decide), and_split t1 (by decide), and_split t2 (by decide), and_split t3 (by decide), a15, a15, a15, a15, Nat.add_mul_mod_self_left, Nat.add_mul_mod_self_left, Nat.add_mul_mod_self_left, p0, p1, p2, p3, Nat.zero_and]
  have le : (n / 2) &&& 1431655765 ≤ n := Nat.le_trans Nat.and_le_left (Nat.div_le_self n 2)
  obtain ⟨f1, f2, f3⟩ := sw_fin z0 z1 z2 z3 ec hd he
  have ga : a < 4294967296 := by rw [ea]; exact sw_le l0 l1 l2 l3
  have gb : b < 4294967296 := by rw [eb]; exact sw_le (by clear hn ha hb hs hc hd he ea eb es p0 p1 p2 p3; omega) (by clear hn ha hb hs hc hd he ea eb es p0 p1 p2 p3; omega) (by clear hn ha hb hs hc hd he ea eb es p0 p1 p2 p3; omega) (by clear hn ha hb hs hc hd he ea eb es p0 p1 p2 p3; omega)
  have gs : s < 4294967296 := by rw [es]; exact sw_le t0 t1 t2 t3
  have gc : c < 4294967296 := Nat.lt_of_le_of_lt (Nat.le_trans (Nat.le_of_eq hc) Nat.and_le_left) gs
  exact ⟨ga, gb, gs, gc, f1, f2, le, f3⟩
