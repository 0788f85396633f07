/-! ===== the relation at the start ===== -/
def P0 : PP := (fun k i => if k = 0 ∧ i = 1 then 1 else 0, fun _ _ => 0)
def D0 : DD := (fun _ _ => 0, fun k _ => if k = 6 then -1 else 0)
def T0 : TT := (fun _ _ => 0, fun _ _ => 0)
def scL : List (Nat × Nat × Int32) := [(1, 0, 0), (1, 1, 0), (1, 2, 1), (1, 3, 0), (1, 4, 0), (17, 5, 0), (18, 2, 0), (32, 1, 0), (34, 3, 0), (34, 2, 0), (0, 11, 0), (184, 1, 0), (184, 2, 0), (184, 3, -1), (239, 6, 0), (239, 12, 0), (240, 0, 0), (240, 1, 0), (240, 2, 0), (239, 40, 0), (239, 22, 0), (239, 3, 0), (239, 51, 0), (239, 16, 0), (239, 34, 0), (239, 35, -1), (239, 0, 0), (239, 5, 0), (239, 47, -1)]
def chS (S : Mm) : Bool := scL.all (fun p => decide (S p.1 p.2.1 = p.2.2))
def chL (S : Mm) : Bool := (List.range 28).all (fun l => decide (S 11 l = -1) && decide (S 12 l = -1) && decide (S 13 l = -1) && decide (S 240 (4 + l) = 0) && decide (S 240 (32 + l) = 0))
def chD (S : Mm) : Bool := (List.range 8).all (fun d => decide (S 14 d = 0) && decide (S 15 d = 0) && decide (S 16 d = -1) && decide (S 240 (124 + d) = 0) && decide (S 240 (132 + d) = 0) && decide (S 240 (140 + d) = 0))
def chQ (S : Mm) : Bool := (List.range 12).all (fun q => decide (S 25 q = 0) && decide (S 258 q = 0))
def chW (S : Mm) : Bool := (List.range 93).all (fun i => decide (S 251 i = nI (wdL.getD i 0)))
def initB : Bool := match bootR with
  | some r => chS r.2.2.2 && chL r.2.2.2 && chD r.2.2.2 && chQ r.2.2.2 && chW r.2.2.2
  | none => false
theorem init_ok : initB = true := by decide +kernel
theorem init_1 : chS S1 = true ∧ chL S1 = true ∧ chD S1 = true ∧ chQ S1 = true ∧ chW S1 = true := by
  have h := init_ok
  unfold initB at h
  rw [boot_eq] at h
  simp only [Bool.and_eq_true] at h
  exact ⟨h.1.1.1.1, h.1.1.1.2, h.1.1.2, h.1.2, h.2⟩
theorem init_p {S : Mm} (h : chS S = true) {p : Nat × Nat × Int32} (hp : p ∈ scL) : S p.1 p.2.1 = p.2.2 := of_decide_eq_true (List.all_eq_true.mp h p hp)
theorem init_RR : RX S1 := by
  obtain ⟨hS, hL, hD, hQ, hW⟩ := init_1
  generalize S1 = S at hS hL hD hQ hW ⊢
  have l0 : ∀ l, l < 28 → S 11 l = -1 ∧ S 12 l = -1 ∧ S 13 l = -1 ∧ S 240 (4 + l) = 0 ∧ S 240 (32 + l) = 0 := fun l hl => by
    have := List.all_eq_true.mp hL l (List.mem_range.mpr hl)
    simp only [Bool.and_eq_true, decide_eq_true_eq] at this
    exact ⟨this.1.1.1.1, this.1.1.1.2, this.1.1.2, this.1.2, this.2⟩
  have d0 : ∀ d, d < 8 → S 14 d = 0 ∧ S 15 d = 0 ∧ S 16 d = -1 ∧ S 240 (124 + d) = 0 ∧ S 240 (132 + d) = 0 ∧ S 240 (140 + d) = 0 := fun d hd => by
    have := List.all_eq_true.mp hD d (List.mem_range.mpr hd)
    simp only [Bool.and_eq_true, decide_eq_true_eq] at this
    exact ⟨this.1.1.1.1.1, this.1.1.1.1.2, this.1.1.1.2, this.1.1.2, this.1.2, this.2⟩
  have q0 : ∀ q, q < 12 → S 25 q = 0 ∧ S 258 q = 0 := fun q hq => by
    have := List.all_eq_true.mp hQ q (List.mem_range.mpr hq)
    rw [Bool.and_eq_true] at this
    exact ⟨of_decide_eq_true this.1, of_decide_eq_true this.2⟩
  have w0 : ∀ i, i < 93 → S 251 i = nI (wdL.getD i 0) := fun i hi => of_decide_eq_true (List.all_eq_true.mp hW i (List.mem_range.mpr hi))
  have n0 : ∀ {q : Nat}, q < pN P0 → False := fun {q} hq => Nat.not_lt_zero q hq
  have sc : ∀ k i v, scL.any (fun p => decide (p = (k, i, v))) = true → S k i = v := fun k i v h => by
    obtain ⟨p, hp, e⟩ := List.any_eq_true.mp h
    have e := of_decide_eq_true e
    have := init_p hS hp
    rw [e] at this
    exact this
  have wT : WFT (pN P0) T0 := ⟨⟨Nat.zero_le _, Nat.zero_le _, Nat.zero_le _⟩, fun k hk => absurd hk (Nat.not_lt_zero k), fun q hq => ⟨Nat.zero_le _, fun _ => rfl, fun k hk => absurd hk (Nat.not_lt_zero k)⟩, fun d hd => absurd hd (Nat.not_lt_zero d)⟩
  have wP : WFP P0 := ⟨by decide, by decide, fun q hq => (n0 hq).elim⟩
  have wD : WFD P0 D0 := ⟨fun l _ => ⟨Nat.zero_le _, Nat.zero_le _⟩, fun q hq => (n0 hq).elim, fun a b ha _ => (n0 ha).elim, fun a b ha _ => (n0 ha).elim⟩
  refine ⟨P0, D0, T0, fun _ => 0, ((0, fun _ => D0), (0, P0, D0, T0, fun _ => 0), (0, fun _ => 0, 0, -1)), ⟨⟨⟨?_, ?_, ?_, ?_, ?_⟩, ⟨?_, ?_, ?_, ?_, ?_⟩, ?_, fun i hi => absurd hi (Nat.not_lt_zero i)⟩, ⟨?_, 0, by decide, ?_, fun j hj => absurd hj (Nat.not_lt_zero j)⟩, ⟨?_, fun hh => absurd rfl hh⟩, ⟨?_, ?_, ?_, fun i hi => absurd hi (Nat.not_lt_zero i)⟩⟩, ⟨⟨⟨?_, ?_, ?_⟩, ⟨?_, ?_, ?_, ?_, ?_⟩, fun i hi => absurd hi (Nat.not_lt_zero i)⟩, ⟨?_, fun j hj => absurd hj (Nat.not_lt_zero j)⟩, ⟨?_, fun hh => absurd rfl hh⟩, ⟨?_, ?_, ?_, fun i hi => absurd hi (Nat.not_lt_zero i)⟩, ⟨?_, ?_, ?_, w0⟩⟩, ⟨wP, fun q hq => (n0 hq).elim, wD, ⟨⟨by decide, by decide⟩, fun q hq => (n0 hq).elim⟩, wT, fun d _ hd => ⟨rfl, rfl, rfl⟩⟩, ⟨Nat.zero_le _, fun j hj => absurd hj (Nat.not_lt_zero j)⟩, ⟨Nat.zero_le _, fun hh => absurd rfl hh⟩, ⟨Nat.zero_le _, fun i hi => absurd hi (Nat.not_lt_zero i)⟩⟩
  · exact ⟨sc 1 0 0 (by decide +kernel), sc 1 1 0 (by decide +kernel), sc 1 2 1 (by decide +kernel), sc 1 3 0 (by decide +kernel)⟩
  · intro i hi
    show bt (S 1 4) i = liv P0 D0 i
    rw [sc 1 4 0 (by decide +kernel), b_0]
    rfl
  · exact fun q hq => (n0 hq).elim
  · intro l hl
    exact ⟨(l0 l hl).1, (l0 l hl).2.1, (l0 l hl).2.2.1⟩
  · intro d hd
    exact ⟨(d0 d hd).1, (d0 d hd).2.1, (d0 d hd).2.2.1⟩
  · exact ⟨sc 17 5 0 (by decide +kernel), sc 18 2 0 (by decide +kernel)⟩
  · exact fun k hk => absurd hk (Nat.not_lt_zero k)
  · exact fun k hk => absurd hk (Nat.not_lt_zero k)
  · exact fun q hq => ⟨(q0 q hq).1, fun k hk => absurd hk (Nat.not_lt_zero k)⟩
  · exact fun k hk => absurd hk (Nat.not_lt_zero k)
  · exact sc 32 1 0 (by decide +kernel)
  · exact sc 34 3 0 (by decide +kernel)
  · exact sc 34 2 0 (by decide +kernel)
  · exact sc 0 11 0 (by decide +kernel)
  · exact sc 184 1 0 (by decide +kernel)
  · exact sc 184 2 0 (by decide +kernel)
  · exact sc 184 3 (-1) (by decide +kernel)
  · exact ⟨⟨sc 239 6 0 (by decide +kernel), sc 239 12 0 (by decide +kernel)⟩, fun q hq => (n0 hq).elim⟩
  · refine ⟨⟨sc 240 0 0 (by decide +kernel), sc 240 1 0 (by decide +kernel), sc 240 2 0 (by decide +kernel)⟩, fun q hq => (n0 hq).elim, fun q hq => (n0 hq).elim, fun l hl => ⟨(l0 l hl).2.2.2.1, (l0 l hl).2.2.2.2, fun hh => absurd rfl hh⟩, fun d hd => ⟨(d0 d hd).2.2.2.1, (d0 d hd).2.2.2.2.1, ?_⟩⟩
    rw [(d0 d hd).2.2.2.2.2]
    show (0 : Int32) = -1 + 1
    decide
  · exact fun a b ha _ => (n0 ha).elim
  · exact ⟨sc 239 40 0 (by decide +kernel), sc 239 22 0 (by decide +kernel)⟩
  · exact fun k hk => absurd hk (Nat.not_lt_zero k)
  · exact fun k hk => absurd hk (Nat.not_lt_zero k)
  · exact fun q hq => ⟨(q0 q hq).2, fun k hk => absurd hk (Nat.not_lt_zero k)⟩
  · exact fun k hk => absurd hk (Nat.not_lt_zero k)
  · exact sc 239 3 0 (by decide +kernel)
  · exact sc 239 51 0 (by decide +kernel)
  · exact sc 239 16 0 (by decide +kernel)
  · exact sc 239 34 0 (by decide +kernel)
  · exact sc 239 35 (-1) (by decide +kernel)
  · exact sc 239 0 0 (by decide +kernel)
  · exact sc 239 5 0 (by decide +kernel)
  · exact sc 239 47 (-1) (by decide +kernel)
