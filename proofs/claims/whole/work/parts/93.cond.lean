/-! ===== a condition: the class goes down, the reference lets wait ===== -/
/-- the reference where a condition or a bracket ends -/
def anyE (k9 : Int32 → Int32 → Mm → Option (Int32 × Mm)) (x1 x2 : Int32) (S : Mm) : Option (Int32 × Mm) :=
  if x1 = 0 then (
   some ((0 : Int32), S)
  ) else (
   (f_X11_isSign (41 : Int32) S).bind fun q_5 =>
   if q_5.1 = 0 then (
    (f_X11_errs (1 : Int32) q_5.2).bind fun q_6 =>
    some (q_6.1, q_6.2)
   ) else (
    nm (uM q_5.2 239 31 ((q_5.2 239 31) - (1 : Int32))) fun S_7 =>
    nm ((x1 - (1 : Int32))) fun x1_8 =>
    nm (uM S_7 239 29 ((S_7 239 29) - (1 : Int32))) fun S_9 =>
    (f_X11_settles (9 : Int32) S_9).bind fun S_10 =>
    (f_X11_reads S_10).bind fun S_11 =>
    k9 x1_8 x2 S_11
   )
  )
/-- two values compared, in the class -/
def cmpC (g1 g2 : Int32 → Mm → Option (Int32 × Mm)) (S : Mm) : Option (Int32 × Mm) :=
    (f_X4_readValue S).bind fun q_3 =>
    if q_3.1 = 0 then (
     some ((0 : Int32), q_3.2)
    ) else (
     (f_X8_isSign 194 (60 : Int32) q_3.2).bind fun q_4 =>
     if q_4.1 = 0 then (
      (f_X8_isSign 194 (62 : Int32) q_4.2).bind fun q_5 =>
      if q_5.1 = 0 then (
       (f_X8_isSign 194 (61 : Int32) q_5.2).bind fun q_6 =>
       if q_6.1 = 0 then (
        (f_X8_wrong 194 (1 : Int32) q_6.2).bind fun q_7 =>
        gd (q_7.1 = 0 ∨ q_7.1 = 1) <| some (q_7.1, q_7.2)
       ) else (
        f_X4_readClaim_175 g1 g2 (20005 : Int32) q_6.2
       )
      ) else (
       f_X4_readClaim_175 g1 g2 (20006 : Int32) q_5.2
      )
     ) else (
      f_X4_readClaim_175 g1 g2 (20004 : Int32) q_4.2
     )
    )
def TC (k : Nat) (es : List Nat) : Prop := ∀ ts : List Nat, ts.length ≤ k → tyL es ts = some (3 :: ts)
def small (pe : List Nat) : Prop := ∀ y, y ∈ pe → y < 100
theorem small_r {pe : List Nat} (h : small pe) {x : Nat} (hx : x < 100) (k : Nat) : small (pe ++ List.replicate k x) := by
  intro y hy
  rcases List.mem_append.mp hy with q | q
  · exact h y q
  · rw [List.eq_of_mem_replicate q]; exact hx
theorem small_a {pe : List Nat} (h : small pe) {x : Nat} (hx : x < 100) : small (pe ++ [x]) := small_r h hx 1
section COND
variable {A0 B0 : Mm} {n m : Nat} {b : Nat → Nat}
theorem J_cmp (g1 g2 : Int32 → Mm → Option (Int32 × Mm)) {A B : Mm} {i o : Nat} {cs pe : List Nat} (w : WB n b) (t : TK A0 n b 194 m) (f : FP B0 n b) (h : JS A0 B0 n m b A B i cs pe o) (hl : cs.length ≤ i) : VR A0 B0 n m b i cs pe o 0 (fun es => TC 35 es ∧ es ≠ []) (cmpC g1 g2 A) (f_X11_readCompared B) := by
  have lm : m ≤ 400 := t.2.1
  unfold cmpC f_X11_readCompared
  rcases J_value w t f h hl with ⟨A3, B3, a3, b3, k⟩ | ⟨i1, es, A1, B1, a1, b1, j1, k1, k2, ty⟩
  · rw [a3, b3, bz, bm]
    exact Or.inl ⟨A3, B3, rfl, rfl, k⟩
  · rw [a1, b1, bo, bn]
    have le1 := j1.1
    have c60 : f_X8_isSign 194 (60 : Int32) A1 = _ := j1.csign t w 60 (by omega)
    have c62 : f_X8_isSign 194 (62 : Int32) A1 = _ := j1.csign t w 62 (by omega)
    have c61 : f_X8_isSign 194 (61 : Int32) A1 = _ := j1.csign t w 61 (by omega)
    have d60 : f_X11_isSign (60 : Int32) B1 = _ := j1.fsign 60 (by decide)
    have d62 : f_X11_isSign (62 : Int32) B1 = _ := j1.fsign 62 (by decide)
    have d61 : f_X11_isSign (61 : Int32) B1 = _ := j1.fsign 61 (by decide)
    obtain ⟨-, -, -, -, n5⟩ := j1.ft.num
    rw [c60, bd, c62, bd, c61, bd, d60, bd, d61, bd, d62, bd]
    dsimp only
    have both : ∀ c : Nat, (c = 20004 ∨ c = 20005 ∨ c = 20006) → (tok n b 194 i1).1 = 3 → VR A0 B0 n m b i cs pe o 0 (fun es => TC 35 es ∧ es ≠ []) (f_X4_readClaim_175 g1 g2 (nI c) A1) (f_X11_readCompared_73 (nI (opN c)) B1) := fun c hc h3 => by
      have hi := j1.im t (by omega)
      obtain ⟨A2, B2, a2, b2, j2⟩ := j1.skip t w f hi
      unfold f_X4_readClaim_175 f_X11_readCompared_73
      rw [a2, b2, bind_x, bind_x]
      rcases J_value w t f j2 (by rw [List.length_append]; omega) with ⟨A3, B3, a3, b3, k⟩ | ⟨i3, es3, A3, B3, a3, b3, j3, k3, k4, ty3⟩
      · rw [a3, b3, bz, bm]
        exact Or.inl ⟨A3, B3, rfl, rfl, k⟩
      · have le3 := j3.1
        obtain ⟨A4, B4, a4, b4, j4⟩ := j3.add (by rw [List.length_append, List.length_append]; omega) c (x := nI (opN c)) (y := 0) rfl (by
          unfold argN
          rw [if_neg (by omega), if_neg (by omega)]
          rfl)
        rw [a3, b3, bo, bn, a4, b4, bind_x, bind_x]
        refine Or.inr ⟨i3, es ++ es3 ++ [c], A4, B4, rfl, rfl, ?_, by omega, ?_, fun ts lts => ?_, by simp⟩
        · rw [← List.append_assoc, ← List.append_assoc]; exact j4
        · rw [lA, List.length_append]; omega
        · obtain ⟨x, hx, s1⟩ := ty ts (by omega)
          obtain ⟨y, hy, s2⟩ := ty3 (x :: ts) (by show ts.length + 1 ≤ 36; omega)
          rw [tyL_a, tyL_a, s1]
          show ((tyL es3 (x :: ts)).bind (tyL [c])) = _
          rw [s2]
          show tyL [c] (y :: x :: ts) = _
          rw [tyL_c (tyS_r hc hx hy)]
          rfl
    by_cases p0 : (tok n b 194 i1).1 = 3 ∧ (tok n b 194 i1).2 = 60
    · rw [if_pos p0, if_pos p0]
      unfold f_X11_readCompared_43
      rw [n5 p0.1 (by omega), p0.2, if_pos (show nI 60 = 60 from rfl)]
      exact both 20004 (Or.inl rfl) p0.1
    · rw [if_neg p0, if_neg p0]
      by_cases p1 : (tok n b 194 i1).1 = 3 ∧ (tok n b 194 i1).2 = 61
      · rw [if_neg (show ¬ ((tok n b 194 i1).1 = 3 ∧ (tok n b 194 i1).2 = 62) by omega), if_pos p1, if_pos p1]
        unfold f_X11_readCompared_43
        rw [n5 p1.1 (by omega), p1.2, if_neg (show ¬ nI 61 = 60 by decide), if_pos (show nI 61 = 61 from rfl)]
        exact both 20005 (Or.inr (Or.inl rfl)) p1.1
      · rw [if_neg p1, if_neg p1]
        by_cases p2 : (tok n b 194 i1).1 = 3 ∧ (tok n b 194 i1).2 = 62
        · rw [if_pos p2, if_pos p2]
          unfold f_X11_readCompared_43
          rw [n5 p2.1 (by omega), p2.2, if_neg (show ¬ nI 62 = 60 by decide), if_neg (show ¬ nI 62 = 61 by decide)]
          exact both 20006 (Or.inr (Or.inr rfl)) p2.1
        · rw [if_neg p2, if_neg p2]
          obtain ⟨q1, q2, q3⟩ := j1.err t 1
          rw [q1, q2, gdw, erw]
          exact Or.inl q3
/-- a claim with k nots that wait on top: they come out behind it -/
def ClaimOk (A0 B0 : Mm) (n m : Nat) (b : Nat → Nat) (k o : Nat) : Prop := ∀ (i : Nat) (cs pe : List Nat) (kn br : Nat) (A B : Mm) (fuel : Nat), JS A0 B0 n m b A B i cs (pe ++ List.replicate kn 9) o → nt pe 9 → small pe → cs.length + pe.length + kn ≤ i → pe.length + kn ≤ 3 * o + 2 → o ≤ 8 → kn ≤ o → br ≤ o → m - i < fuel →
  JF A0 B0 ((recG k).2 (nI o) A) (f_X11_readAny_9 fuel (nI br) 1 B) ∨ ∃ i' es A' B' fuel', (recG k).2 (nI o) A = some (1, A') ∧ f_X11_readAny_9 fuel (nI br) 1 B = f_X11_readAny_9 fuel' (nI br) 0 B' ∧ m - i' < fuel' ∧ i < i' ∧ i' ≤ m ∧ CS A0 A' i' (cs ++ es) ∧ FS B0 B' n b i' (cs ++ es ++ List.replicate kn 20007) pe (o - kn) ∧ es.length + i ≤ i' ∧ TC (2 * o + 2) es
def CondOk (A0 B0 : Mm) (n m : Nat) (b : Nat → Nat) (k o : Nat) : Prop := ∀ (i : Nat) (cs pe : List Nat) (br : Nat) (A B : Mm) (fuel : Nat), JS A0 B0 n m b A B i cs pe o → nt pe 9 → nt pe 10 → nt pe 11 → small pe → cs.length + pe.length ≤ i → pe.length ≤ 3 * o → o ≤ 8 → br ≤ o → m - i < fuel →
  JF A0 B0 ((recG k).1 (nI o) A) (f_X11_readAny_9 fuel (nI br) 1 B) ∨ ∃ i' es A' B' fuel', (recG k).1 (nI o) A = some (1, A') ∧ f_X11_readAny_9 fuel (nI br) 1 B = anyE (f_X11_readAny_9 fuel') (nI br) 0 B' ∧ m - i' ≤ fuel' ∧ i < i' ∧ i' ≤ m ∧ CS A0 A' i' (cs ++ es) ∧ FS B0 B' n b i' (cs ++ es) pe o ∧ es.length + i ≤ i' ∧ TC (2 * o) es
theorem F_any1 {B : Mm} {T V fuel : Nat} {x1 : Int32} (h4 : f_X11_isWord (4 : Int32) B = some (if T = 1 ∧ V = 4 then 1 else 0, B)) (h40 : f_X11_isSign (40 : Int32) B = some (if T = 3 ∧ V = 40 then 1 else 0, B)) : f_X11_readAny_9 (fuel + 1) x1 1 B = if T = 1 ∧ V = 4 then f_X11_readAny_32 (f_X11_readAny_9 fuel) x1 1 1 B else if T = 3 ∧ V = 40 then f_X11_readAny_32 (f_X11_readAny_9 fuel) x1 1 0 B else ((f_X11_readCompared B).bind fun q_21 => if q_21.1 = (-1 : Int32) then some ((-1 : Int32), q_21.2) else (f_X11_settles (9 : Int32) q_21.2).bind fun S_22 => f_X11_readAny_9 fuel x1 (0 : Int32) S_22) := by
  show f_X11_readAny_9b (f_X11_readAny_9 fuel) x1 1 B = _
  unfold f_X11_readAny_9b
  rw [if_neg (of_eq_false i10), h4, bd, h40, bd]
  all_goals rfl
theorem F_any0 {B : Mm} {T V fuel : Nat} {x1 : Int32} (h3 : f_X11_isWord (3 : Int32) B = some (if T = 1 ∧ V = 3 then 1 else 0, B)) (h2 : f_X11_isWord (2 : Int32) B = some (if T = 1 ∧ V = 2 then 1 else 0, B)) : f_X11_readAny_9 (fuel + 1) x1 0 B = if T = 1 ∧ V = 3 then ((f_X11_settles (10 : Int32) B).bind fun S_16 => (f_X11_waits (10 : Int32) S_16).bind fun S_17 => (f_X11_reads S_17).bind fun S_18 => f_X11_readAny_9 fuel x1 (1 : Int32) S_18) else if T = 1 ∧ V = 2 then ((f_X11_settles (10 : Int32) B).bind fun S_12 => (f_X11_settles (11 : Int32) S_12).bind fun S_13 => (f_X11_waits (11 : Int32) S_13).bind fun S_14 => (f_X11_reads S_14).bind fun S_15 => f_X11_readAny_9 fuel x1 (1 : Int32) S_15) else ((f_X11_settles (10 : Int32) B).bind fun S_3 => (f_X11_settles (11 : Int32) S_3).bind fun S_4 => anyE (f_X11_readAny_9 fuel) x1 0 S_4) := by
  show f_X11_readAny_9b (f_X11_readAny_9 fuel) x1 0 B = _
  unfold f_X11_readAny_9b
  rw [if_pos rfl, h3, bd, h2, bd]
  all_goals rfl
theorem C_claim {A : Mm} {T V : Nat} {x1 : Int32} {g1 g2 : Int32 → Mm → Option (Int32 × Mm)} (h4 : f_X8_isWord 194 (4 : Int32) A = some (if T = 1 ∧ V = 4 then 1 else 0, A)) (h40 : f_X8_isSign 194 (40 : Int32) A = some (if T = 3 ∧ V = 40 then 1 else 0, A)) : f_X4_readClaim_s g1 g2 x1 A = if T = 1 ∧ V = 4 then f_X4_readClaim_25 g1 g2 x1 1 A else if T = 3 ∧ V = 40 then f_X4_readClaim_25 g1 g2 x1 0 A else cmpC g1 g2 A := by
  unfold f_X4_readClaim_s
  rw [h4, bd, h40, bd]
  all_goals rfl
theorem C_cl {A : Mm} {T V c fc : Nat} {x1 x2 : Int32} {g1 g2 : Int32 → Mm → Option (Int32 × Mm)} (h3 : f_X8_isWord 194 (3 : Int32) A = some (if T = 1 ∧ V = 3 then 1 else 0, A)) (h2 : f_X8_isWord 194 (2 : Int32) A = some (if T = 1 ∧ V = 2 then 1 else 0, A)) (hc : c < 400) : f_X4_readCondition_14 g1 g2 (fc + 1) x1 x2 (nI c) A = if T = 1 ∧ V = 3 then ((f_X8_skip 194 A).bind fun S_4 => (g2 x1 S_4).bind fun q_5 => if q_5.1 = 0 then some ((0 : Int32), q_5.2) else (f_X3_add_187 (20008 : Int32) q_5.2).bind fun S_6 => f_X4_readCondition_106 g1 g2 (f_X4_readCondition_14 g1 g2 fc) x1 x2 (nI c) S_6) else if T = 1 ∧ V = 2 then (if x2 = 0 then f_X4_readCondition_87 g1 g2 (f_X4_readCondition_14 g1 g2 fc) x1 (nI c) A else (f_X3_add_187 (20009 : Int32) A).bind fun S_3 => f_X4_readCondition_87 g1 g2 (f_X4_readCondition_14 g1 g2 fc) x1 (nI c) S_3) else f_X4_readCondition_112 g1 g2 x2 A := by
  show f_X4_readCondition_14b g1 g2 (f_X4_readCondition_14 g1 g2 fc) x1 x2 (nI c) A = _
  unfold f_X4_readCondition_14b
  rw [if_neg (show ¬ (400 : Int32) ≤ nI c from nI_ge_f (a := 400) (by omega) (by omega)), h3, bd, h2, bd]
  all_goals rfl
theorem C_clE {A : Mm} {c fc : Nat} {x1 x2 : Int32} {g1 g2 : Int32 → Mm → Option (Int32 × Mm)} (hc : 400 ≤ c) (lc : c < 10000) : f_X4_readCondition_14 g1 g2 (fc + 1) x1 x2 (nI c) A = f_X4_readCondition_112 g1 g2 x2 A := by
  show f_X4_readCondition_14b g1 g2 (f_X4_readCondition_14 g1 g2 fc) x1 x2 (nI c) A = _
  unfold f_X4_readCondition_14b
  rw [if_pos (show (400 : Int32) ≤ nI c from nI_ge_t (a := 400) (by omega) (by omega))]
theorem one_sub (x : Nat) : nI (x + 1) - 1 = nI x := nI_sub1 (Nat.succ_pos x)
/-- one level deeper -/
theorem claim_s (w : WB n b) (t : TK A0 n b 194 m) (f : FP B0 n b) {k o : Nat} (hcl : o < 8 → ClaimOk A0 B0 n m b k (o + 1)) (hcd : o < 8 → CondOk A0 B0 n m b k (o + 1)) : ClaimOk A0 B0 n m b (k + 1) o := by
  intro i cs pe kn br A B fuel h hn hs h1 h2 ho hk hb hf
  have lm : m ≤ 400 := t.2.1
  obtain ⟨fuel, rfl⟩ : ∃ k, fuel = k + 1 := ⟨fuel - 1, by omega⟩
  have lp : (pe ++ List.replicate kn 9).length = pe.length + kn := by simp
  have sp : small (pe ++ List.replicate kn 9) := small_r hs (by omega) kn
  have c4 : f_X8_isWord 194 (4 : Int32) A = _ := h.cword t w 4 (by omega)
  have c40 : f_X8_isSign 194 (40 : Int32) A = _ := h.csign t w 40 (by omega)
  have d4 : f_X11_isWord (4 : Int32) B = _ := h.fword 4 (by omega)
  have d40 : f_X11_isSign (40 : Int32) B = _ := h.fsign 40 (by decide)
  show JF A0 B0 (f_X4_readClaim_s (recG k).1 (recG k).2 (nI o) A) _ ∨ ∃ i' es A' B' fuel', f_X4_readClaim_s (recG k).1 (recG k).2 (nI o) A = some (1, A') ∧ _
  rw [C_claim c4 c40, F_any1 d4 d40]
  have h29 : B 239 29 = nI o := h.2.2.2.2.2.2.1
  -- a not or a bracket
  by_cases p4 : (tok n b 194 i).1 = 1 ∧ (tok n b 194 i).2 = 4
  · rw [if_pos p4, if_pos p4]
    unfold f_X4_readClaim_25 f_X11_readAny_32
    rw [h29]
    by_cases o8 : o = 8
    · obtain ⟨q1, q2, q3⟩ := h.err t 3
      rw [if_neg (show ¬ nI o < 8 from fun z => by have := (nI_ltI (b := 8) (by omega) (by omega)).mp z; omega), if_pos (show nI o = 8 by rw [o8]; rfl), q1, q2, gdw, erw]
      exact Or.inl q3
    · rw [if_pos (show nI o < 8 from (nI_ltI (b := 8) (by omega) (by omega)).mpr (by omega)), if_neg (show ¬ nI o = 8 from fun z => o8 ((nI_inj (b := 8) (by omega) (by omega)).mp z)), nm_x, if_neg (of_eq_false i10)]
      unfold f_X11_readAny_65 f_X11_readAny_77
      rw [if_neg (of_eq_false i10), nI_1]
      have hi := h.im t (by omega)
      obtain ⟨B1, b1, g1⟩ := (h.2.2.op (o + 1)).wait (by omega) 9
      have b1 : f_X11_waits (9 : Int32) (uM B 239 29 (nI (o + 1))) = some B1 := b1
      rw [← rep_s] at g1
      have j1 : JS A0 B0 n m b A B1 i cs (pe ++ List.replicate (kn + 1) 9) (o + 1) := ⟨h.1, h.2.1, g1⟩
      obtain ⟨A2, B2, a2, b2, j2⟩ := j1.skip t w f hi
      rw [a2, b1, bind_x, bind_x, b2, bind_x, if_neg (of_eq_false i10)]
      rcases hcl (by omega) (i + 1) cs pe (kn + 1) br A2 B2 fuel j2 hn hs (by omega) (by omega) (by omega) (by omega) (by omega) (by omega) with ⟨A3, B3, a3, b3, r⟩ | ⟨i', es, A3, B3, fuel', a3, b3, k1, k2, k3, k4, k5, k6, k7⟩
      · refine Or.inl ⟨A3, B3, ?_, b3, r⟩
        rw [a3, bz]
        all_goals rfl
      · obtain ⟨A4, a4, g4⟩ := k4.add (by rw [List.length_append]; omega) 20007
        have a4 : f_X3_add_187 (20007 : Int32) A3 = some A4 := a4
        refine Or.inr ⟨i', es ++ [20007], A4, B3, fuel', ?_, b3, k1, by omega, k3, ?_, ?_, ?_, fun ts lts => ?_⟩
        · rw [a3, bo, a4, bind_x]
        · rw [← List.append_assoc]; exact g4
        · rw [rep_c, show o + 1 - (kn + 1) = o - kn by omega] at k5
          rw [← List.append_assoc]; exact k5
        · rw [lA]; omega
        · rw [tyL_a, k7 ts (by omega)]
          show tyL [20007] (3 :: ts) = _
          rw [tyL_c tyS_not]
          rfl
  · rw [if_neg p4, if_neg p4]
    by_cases p40 : (tok n b 194 i).1 = 3 ∧ (tok n b 194 i).2 = 40
    · rw [if_pos p40, if_pos p40]
      unfold f_X4_readClaim_25 f_X11_readAny_32
      rw [h29]
      by_cases o8 : o = 8
      · obtain ⟨q1, q2, q3⟩ := h.err t 3
        rw [if_neg (show ¬ nI o < 8 from fun z => by have := (nI_ltI (b := 8) (by omega) (by omega)).mp z; omega), if_pos (show nI o = 8 by rw [o8]; rfl), q1, q2, gdw, erw]
        exact Or.inl q3
      · rw [if_pos (show nI o < 8 from (nI_ltI (b := 8) (by omega) (by omega)).mpr (by omega)), if_neg (show ¬ nI o = 8 from fun z => o8 ((nI_inj (b := 8) (by omega) (by omega)).mp z)), nm_x, if_pos rfl, nm_x]
        unfold f_X11_readAny_65 f_X11_readAny_77
        rw [if_pos rfl, nI_1, nI_1]
        have hi := h.im t (by omega)
        obtain ⟨B1, b1, g1⟩ := (h.2.2.op (o + 1)).wait (by omega) 12
        have b1 : f_X11_waits (12 : Int32) (uM B 239 29 (nI (o + 1))) = some B1 := b1
        have j1 : JS A0 B0 n m b A B1 i cs (pe ++ List.replicate kn 9 ++ [12]) (o + 1) := ⟨h.1, h.2.1, g1⟩
        obtain ⟨A2, B2, a2, b2, j2⟩ := j1.skip t w f hi
        rw [a2, b1, bind_x, bind_x, b2, bind_x, if_pos rfl]
        rcases hcd (by omega) (i + 1) cs (pe ++ List.replicate kn 9 ++ [12]) (br + 1) A2 B2 fuel j2 (nt_a (by omega)) (nt_a (by omega)) (nt_a (by omega)) (small_a sp (by omega)) (by rw [lA, lp]; omega) (by rw [lA, lp]; omega) (by omega) (by omega) (by omega) with ⟨A3, B3, a3, b3, r⟩ | ⟨i', es, A3, B3, fuel', a3, b3, k1, k2, k3, k4, k5, k6, k7⟩
        · refine Or.inl ⟨A3, B3, ?_, b3, r⟩
          rw [a3, bz]
          all_goals rfl
        · have j3 : JS A0 B0 n m b A3 B3 i' (cs ++ es) (pe ++ List.replicate kn 9 ++ [12]) (o + 1) := ⟨k3, k4, k5⟩
          have c41 : f_X8_isSign 194 (41 : Int32) A3 = _ := j3.csign t w 41 (by omega)
          have d41 : f_X11_isSign (41 : Int32) B3 = _ := j3.fsign 41 (by decide)
          rw [a3, b3, bo]
          unfold anyE f_X8_skipSign
          rw [if_neg (show ¬ nI (br + 1) = 0 from fun z => by have := (nI_inj (b := 0) (by omega) (by omega)).mp z; omega), c41, bd, d41, bd]
          by_cases p41 : (tok n b 194 i').1 = 3 ∧ (tok n b 194 i').2 = 41
          · have hi3 := j3.im t (by omega)
            have a5 := (j3.t t).skip j3.s7 hi3
            have h31 : B3 239 31 = nI ((pe ++ List.replicate kn 9).length + 1) := by
              have q := k5.2.2.2.2.2.1
              rw [lA] at q
              exact q
            have g5 := k5.pop.op o
            obtain ⟨B6, b6, g6⟩ := FS.settle (x := 9) hn (Or.inl rfl) hs kn (cs ++ es) _ o FU (by unfold FU; omega) g5 (by rw [List.length_append]; omega) (by omega) (fun _ => hk)
            rw [if_pos rfl] at g6
            obtain ⟨B7, b7, g7⟩ := g6.read f w (t.tsl hi3)
            have b6 : f_X11_settles (9 : Int32) (uM (uM B3 239 31 (nI (pe ++ List.replicate kn 9).length)) 239 29 (nI o)) = some B6 := b6
            have h29' : uM B3 239 31 (nI (pe ++ List.replicate kn 9).length) 239 29 = nI (o + 1) := by
              rw [uM_ne _ _ _ (by decide)]
              exact k5.2.2.2.2.1
            rw [if_pos p41, if_pos p41, a5, bind_x, bo, nm_x]
            refine Or.inr ⟨i' + 1, es, uM A3 194 7 (nI (i' + 1)), B7, fuel', rfl, ?_, by omega, by omega, by omega, k4.skip, g7, by omega, fun ts lts => k7 ts (by omega)⟩
            show nm (nI (br + 1) - 1) _ = _
            rw [nm_x, one_sub]
            show nm (uM (uM B3 239 31 (B3 239 31 - 1)) 239 29 (uM B3 239 31 (B3 239 31 - 1) 239 29 - 1)) _ = _
            rw [h31, one_sub, h29', one_sub, nm_x, b6, bind_x, b7, bind_x]
          · obtain ⟨q1, q2, q3⟩ := j3.err t 1
            rw [if_neg p41, if_neg p41, q1, q2, gdw, erw, bz]
            exact Or.inl q3
    · rw [if_neg p40, if_neg p40]
      rcases J_cmp (recG k).1 (recG k).2 w t f h (by omega) with ⟨A3, B3, a3, b3, r⟩ | ⟨i', es, A3, B3, a3, b3, j3, k3, k4, ty, ne⟩
      · rw [a3, b3, bm]
        exact Or.inl ⟨A3, B3, rfl, rfl, r⟩
      · have ps : 0 < es.length := List.length_pos_iff.mpr ne
        obtain ⟨k1, k4', k5⟩ := j3
        obtain ⟨B6, b6, g6⟩ := FS.settle (x := 9) hn (Or.inl rfl) hs kn (cs ++ es) _ o FU (by unfold FU; omega) k5 (by rw [List.length_append]; omega) (by omega) (fun _ => hk)
        rw [if_pos rfl] at g6
        have b6 : f_X11_settles (9 : Int32) B3 = some B6 := b6
        rw [a3, b3, bn, b6, bind_x]
        exact Or.inr ⟨i', es, A3, B6, fuel, rfl, rfl, by omega, by omega, k1, k4', g6, by omega, fun ts lts => ty ts (by omega)⟩
theorem cond_l (w : WB n b) (t : TK A0 n b 194 m) (f : FP B0 n b) {k o : Nat} (hcl : ClaimOk A0 B0 n m b k o) (ho : o ≤ 8) {pe : List Nat} (n9 : nt pe 9) (n10 : nt pe 10) (n11 : nt pe 11) (hs : small pe) (hp : pe.length ≤ 3 * o) {br : Nat} (hb : br ≤ o) (g1 : Int32 → Mm → Option (Int32 × Mm)) : ∀ (d i : Nat) (cr : List Nat) (A B : Mm) (wt a c fc fuel : Nat), m - i ≤ d → d < fc → m - i < fuel → c ≤ i → i ≤ m → wt ≤ 1 → a ≤ 1 → (cr ++ List.replicate a 20008).length + wt + pe.length ≤ i → CS A0 A i (cr ++ List.replicate a 20008) → FS B0 B n b i cr (pe ++ List.replicate wt 11 ++ List.replicate a 10) o →
    JF A0 B0 (f_X4_readCondition_14 g1 (recG k).2 fc (nI o) (nI wt) (nI c) A) (f_X11_readAny_9 fuel (nI br) 0 B) ∨ ∃ i' es A' B' fuel', f_X4_readCondition_14 g1 (recG k).2 fc (nI o) (nI wt) (nI c) A = some (1, A') ∧ f_X11_readAny_9 fuel (nI br) 0 B = anyE (f_X11_readAny_9 fuel') (nI br) 0 B' ∧ m - i' ≤ fuel' ∧ i ≤ i' ∧ i' ≤ m ∧ CS A0 A' i' (cr ++ List.replicate a 20008 ++ es) ∧ FS B0 B' n b i' (cr ++ List.replicate a 20008 ++ es) pe o ∧ es.length + i ≤ i' + wt ∧ ∀ ts : List Nat, ts.length ≤ 2 * o → tyL es (3 :: (List.replicate wt 3 ++ ts)) = some (3 :: ts) := by
  have lm : m ≤ 400 := t.2.1
  intro d
  induction d using Nat.strongRecOn with
  | _ d ih =>
  intro i cr A B wt a c fc fuel h1 h2 h3 h4 him hw ha hl hc hf
  obtain ⟨fc, rfl⟩ : ∃ k, fc = k + 1 := ⟨fc - 1, by omega⟩
  obtain ⟨fuel, rfl⟩ : ∃ k, fuel = k + 1 := ⟨fuel - 1, by omega⟩
  have c3 : f_X8_isWord 194 (3 : Int32) A = _ := (hc.tk t).word w isT1 hc.2.2.2.1 him (k := 3) (by omega)
  have c2 : f_X8_isWord 194 (2 : Int32) A = _ := (hc.tk t).word w isT1 hc.2.2.2.1 him (k := 2) (by omega)
  have d3 : f_X11_isWord (3 : Int32) B = _ := hf.2.2.1.word (k := 3) (by rw [wds_1, l15]; omega)
  have d2 : f_X11_isWord (2 : Int32) B = _ := hf.2.2.1.word (k := 2) (by rw [wds_1, l15]; omega)
  have sw : small (pe ++ List.replicate wt 11) := small_r hs (by omega) wt
  have lw : (pe ++ List.replicate wt 11).length = pe.length + wt := by simp
  have la : (cr ++ List.replicate a 20008).length = cr.length + a := by simp
  have nw : nt (pe ++ List.replicate wt 11) 10 := by
    rcases (show wt = 0 ∨ wt = 1 by omega) with e | e
    · rw [e, List.replicate_zero, List.append_nil]; exact n10
    · rw [e]; exact nt_a (by omega)
  -- the ands that wait come out
  obtain ⟨B1, b1, f1⟩ := FS.settle (x := 10) nw (Or.inr (Or.inl rfl)) sw a cr B o FU (by unfold FU; omega) hf (by omega) (by omega) (fun q => absurd q (by omega))
  rw [if_neg (show ¬ 10 = 9 by omega)] at f1
  have b1 : f_X11_settles (10 : Int32) B = some B1 := b1
  -- then the or
  obtain ⟨B2, b2, f2⟩ := FS.settle (x := 11) n11 (Or.inr (Or.inr rfl)) hs wt (cr ++ List.replicate a 20008) B1 o FU (by unfold FU; omega) f1 (by omega) (by omega) (fun q => absurd q (by omega))
  rw [if_neg (show ¬ 11 = 9 by omega)] at f2
  have b2 : f_X11_settles (11 : Int32) B1 = some B2 := b2
  have k0 : ∀ x : Nat, x < 30000 → x ≠ 0 → ¬ nI x = 0 := fun x lx hx z => hx ((nI_inj (b := 0) (by omega) (by omega)).mp z)
  rw [F_any0 d3 d2]
  by_cases e : (tok n b 194 i).1 = 1 ∧ ((tok n b 194 i).2 = 3 ∨ (tok n b 194 i).2 = 2)
  · obtain ⟨e1, e⟩ := e
    have hi := (hc.tk t).lt him (by omega)
    rw [C_cl c3 c2 (by omega)]
    by_cases p3 : (tok n b 194 i).2 = 3
    · -- and
      rw [if_pos (And.intro e1 p3), if_pos (And.intro e1 p3)]
      obtain ⟨B3, b3, f3⟩ := f1.wait (by omega) 10
      have b3 : f_X11_waits (10 : Int32) B1 = some B3 := b3
      have j3 : JS A0 B0 n m b A B3 i (cr ++ List.replicate a 20008) (pe ++ List.replicate wt 11 ++ [10]) o := ⟨him, hc, f3⟩
      obtain ⟨A4, B4, a4, b4, j4⟩ := j3.skip t w f hi
      rw [a4, b1, bind_x, bind_x, b3, bind_x, b4, bind_x]
      rcases hcl (i + 1) (cr ++ List.replicate a 20008) (pe ++ List.replicate wt 11 ++ [10]) 0 br A4 B4 fuel (by rw [List.replicate_zero, List.append_nil]; exact j4) (nt_a (by omega)) (small_a sw (by omega)) (by rw [lA, lw]; omega) (by rw [lA, lw]; omega) ho (by omega) hb (by omega) with ⟨A5, B5, a5, b5, r⟩ | ⟨i5, es, A5, B5, fuel', a5, b5, k1, k2, k3, k4, k5, k6, k7⟩
      · refine Or.inl ⟨A5, B5, ?_, b5, r⟩
        rw [a5, bz]
        all_goals rfl
      · rw [List.replicate_zero, List.append_nil, Nat.sub_zero] at k5
        obtain ⟨A6, a6, g6⟩ := k4.add (by rw [List.length_append]; omega) 20008
        have a6 : f_X3_add_187 (20008 : Int32) A5 = some A6 := a6
        rw [a5, b5, bo, a6, bind_x]
        unfold f_X4_readCondition_106
        rw [nm_x, nI_1]
        rcases ih (d - 1) (by omega) i5 (cr ++ List.replicate a 20008 ++ es) A6 B5 wt 1 (c + 1) fc fuel' (by omega) (by omega) (by omega) (by omega) k3 hw (Nat.le_refl 1) (by
          show (cr ++ List.replicate a 20008 ++ es ++ [20008]).length + wt + pe.length ≤ i5
          rw [lA, List.length_append]; omega) g6 k5 with r | ⟨i', es2, A', B', fuel2, q1, q2, q3, q4, q5, q6, q7, q8, q9⟩
        · exact Or.inl r
        · refine Or.inr ⟨i', es ++ [20008] ++ es2, A', B', fuel2, q1, q2, q3, by omega, q5, ?_, ?_, ?_, fun ts lts => ?_⟩
          · rw [← List.append_assoc, ← List.append_assoc]; exact q6
          · rw [← List.append_assoc, ← List.append_assoc]; exact q7
          · rw [List.length_append, lA]; omega
          · have lr : (3 :: (List.replicate wt 3 ++ ts)).length ≤ 2 * o + 2 := by simp; omega
            rw [tyL_a, tyL_a, k7 _ lr]
            show (tyL [20008] (3 :: 3 :: (List.replicate wt 3 ++ ts))).bind (tyL es2) = _
            rw [tyL_c (tyS_b (Or.inl rfl))]
            exact q9 ts lts
    · -- or
      have p2 : (tok n b 194 i).2 = 2 := by omega
      rw [if_neg (show ¬ ((tok n b 194 i).1 = 1 ∧ (tok n b 194 i).2 = 3) by omega), if_neg (show ¬ ((tok n b 194 i).1 = 1 ∧ (tok n b 194 i).2 = 3) by omega), if_pos (And.intro e1 p2), if_pos (And.intro e1 p2)]
      -- the class's or comes out
      obtain ⟨A2, hA2, cA2⟩ : ∃ A2, CS A0 A2 i (cr ++ List.replicate a 20008 ++ List.replicate wt 20009) ∧ (if nI wt = 0 then f_X4_readCondition_87 g1 (recG k).2 (f_X4_readCondition_14 g1 (recG k).2 fc) (nI o) (nI c) A else (f_X3_add_187 (20009 : Int32) A).bind fun S_3 => f_X4_readCondition_87 g1 (recG k).2 (f_X4_readCondition_14 g1 (recG k).2 fc) (nI o) (nI c) S_3) = f_X4_readCondition_87 g1 (recG k).2 (f_X4_readCondition_14 g1 (recG k).2 fc) (nI o) (nI c) A2 := by
        rcases (show wt = 0 ∨ wt = 1 by omega) with e | e
        · subst e
          refine ⟨A, ?_, if_pos rfl⟩
          rw [List.replicate_zero, List.append_nil]; exact hc
        · subst e
          obtain ⟨A2, a2, g2⟩ := hc.add (by omega) 20009
          have a2 : f_X3_add_187 (20009 : Int32) A = some A2 := a2
          refine ⟨A2, g2, ?_⟩
          rw [if_neg (k0 1 (by omega) (by omega)), a2, bind_x]
      rw [cA2]
      obtain ⟨B3, b3, f3⟩ := f2.wait (by omega) 11
      have b3 : f_X11_waits (11 : Int32) B2 = some B3 := b3
      have lr : (cr ++ List.replicate a 20008 ++ List.replicate wt 20009).length = cr.length + a + wt := by simp; omega
      have j3 : JS A0 B0 n m b A2 B3 i (cr ++ List.replicate a 20008 ++ List.replicate wt 20009) (pe ++ [11]) o := ⟨him, hA2, f3⟩
      obtain ⟨A4, B4, a4, b4, j4⟩ := j3.skip t w f hi
      unfold f_X4_readCondition_87
      rw [a4, b1, bind_x, bind_x, b2, bind_x, b3, bind_x, b4, bind_x]
      rcases hcl (i + 1) (cr ++ List.replicate a 20008 ++ List.replicate wt 20009) (pe ++ [11]) 0 br A4 B4 fuel (by rw [List.replicate_zero, List.append_nil]; exact j4) (nt_a (by omega)) (small_a hs (by omega)) (by rw [lA, lr]; omega) (by rw [lA]; omega) ho (by omega) hb (by omega) with ⟨A5, B5, a5, b5, r⟩ | ⟨i5, es, A5, B5, fuel', a5, b5, k1, k2, k3, k4, k5, k6, k7⟩
      · refine Or.inl ⟨A5, B5, ?_, b5, r⟩
        rw [a5, bz]
        all_goals rfl
      · rw [List.replicate_zero, List.append_nil, Nat.sub_zero] at k5
        rw [a5, b5, bo]
        unfold f_X4_readCondition_106
        rw [nm_x, nI_1]
        rcases ih (d - 1) (by omega) i5 (cr ++ List.replicate a 20008 ++ List.replicate wt 20009 ++ es) A5 B5 1 0 (c + 1) fc fuel' (by omega) (by omega) (by omega) (by omega) k3 (Nat.le_refl 1) (by omega) (by
          rw [List.replicate_zero, List.append_nil, List.length_append, lr]; omega) (by
          rw [List.replicate_zero, List.append_nil]; exact k4) (by
          rw [List.replicate_zero, List.append_nil]; exact k5) with r | ⟨i', es2, A', B', fuel2, q1, q2, q3, q4, q5, q6, q7, q8, q9⟩
        · exact Or.inl r
        · rw [List.replicate_zero, List.append_nil] at q6 q7
          refine Or.inr ⟨i', List.replicate wt 20009 ++ es ++ es2, A', B', fuel2, q1, q2, q3, by omega, q5, ?_, ?_, ?_, fun ts lts => ?_⟩
          · rw [← List.append_assoc, ← List.append_assoc]; exact q6
          · rw [← List.append_assoc, ← List.append_assoc]; exact q7
          · rw [List.length_append, List.length_append, List.length_replicate]; omega
          · have tw : tyL (List.replicate wt 20009) (3 :: (List.replicate wt 3 ++ ts)) = some (3 :: ts) := by
              rcases (show wt = 0 ∨ wt = 1 by omega) with e | e
              · subst e; rfl
              · subst e
                show tyL [20009] (3 :: 3 :: ts) = _
                rw [tyL_c (tyS_b (Or.inr rfl))]
                rfl
            rw [tyL_a, tyL_a, tw]
            show ((tyL es (3 :: ts)).bind (tyL es2)) = _
            rw [k7 (3 :: ts) (by show ts.length + 1 ≤ 2 * o + 2; omega)]
            exact q9 ts lts
  · -- the end of a condition
    have ce : f_X4_readCondition_14 g1 (recG k).2 (fc + 1) (nI o) (nI wt) (nI c) A = f_X4_readCondition_112 g1 (recG k).2 (nI wt) A := by
      by_cases hc4 : c < 400
      · rw [C_cl c3 c2 hc4, if_neg (by omega), if_neg (by omega)]
      · exact C_clE (by omega) (by omega)
    obtain ⟨A2, hA2, cA2⟩ : ∃ A2, CS A0 A2 i (cr ++ List.replicate a 20008 ++ List.replicate wt 20009) ∧ f_X4_readCondition_112 g1 (recG k).2 (nI wt) A = some (1, A2) := by
      unfold f_X4_readCondition_112
      rcases (show wt = 0 ∨ wt = 1 by omega) with e | e
      · subst e
        refine ⟨A, ?_, if_pos rfl⟩
        rw [List.replicate_zero, List.append_nil]; exact hc
      · subst e
        obtain ⟨A2, a2, g2⟩ := hc.add (by omega) 20009
        have a2 : f_X3_add_187 (20009 : Int32) A = some A2 := a2
        refine ⟨A2, g2, ?_⟩
        rw [if_neg (k0 1 (by omega) (by omega)), a2, bind_x]
    rw [ce, cA2, if_neg (by omega), if_neg (by omega), b1, bind_x, b2, bind_x]
    refine Or.inr ⟨i, List.replicate wt 20009, A2, B2, fuel, rfl, rfl, by omega, Nat.le_refl _, him, hA2, f2, by rw [List.length_replicate]; omega, fun ts lts => ?_⟩
    rcases (show wt = 0 ∨ wt = 1 by omega) with e | e
    · subst e; rfl
    · subst e
      show tyL [20009] (3 :: 3 :: ts) = _
      rw [tyL_c (tyS_b (Or.inr rfl))]
      rfl
theorem cond_s (w : WB n b) (t : TK A0 n b 194 m) (f : FP B0 n b) {k o : Nat} (hcl : ClaimOk A0 B0 n m b k o) : CondOk A0 B0 n m b (k + 1) o := by
  intro i cs pe br A B fuel h n9 n10 n11 hs h1 h2 ho hb hf
  have lm : m ≤ 400 := t.2.1
  show JF A0 B0 (f_X4_readCondition_s (recG k).1 (recG k).2 (nI o) A) _ ∨ ∃ i' es A' B' fuel', f_X4_readCondition_s (recG k).1 (recG k).2 (nI o) A = some (1, A') ∧ _
  unfold f_X4_readCondition_s
  rcases hcl i cs pe 0 br A B fuel (by rw [List.replicate_zero, List.append_nil]; exact h) n9 hs (by omega) (by omega) ho (by omega) hb hf with ⟨A5, B5, a5, b5, r⟩ | ⟨i5, es, A5, B5, fuel', a5, b5, k1, k2, k3, k4, k5, k6, k7⟩
  · refine Or.inl ⟨A5, B5, ?_, b5, r⟩
    rw [a5, bz]
    all_goals rfl
  · rw [List.replicate_zero, List.append_nil, Nat.sub_zero] at k5
    rw [a5, b5, bo]
    rcases cond_l w t f hcl ho n9 n10 n11 hs h2 hb (recG k).1 (m - i5) i5 (cs ++ es) A5 B5 0 0 0 FU fuel' (Nat.le_refl _) (by unfold FU; omega) k1 (Nat.zero_le _) k3 (by omega) (by omega) (by rw [List.replicate_zero, List.append_nil, List.length_append]; omega) (by rw [List.replicate_zero, List.append_nil]; exact k4) (by rw [List.replicate_zero, List.replicate_zero, List.append_nil, List.append_nil]; exact k5) with r | ⟨i', es2, A', B', fuel2, q1, q2, q3, q4, q5, q6, q7, q8, q9⟩
    · exact Or.inl r
    · rw [List.replicate_zero, List.append_nil] at q6 q7
      refine Or.inr ⟨i', es ++ es2, A', B', fuel2, q1, q2, q3, by omega, q5, ?_, ?_, ?_, fun ts lts => ?_⟩
      · rw [← List.append_assoc]; exact q6
      · rw [← List.append_assoc]; exact q7
      · rw [List.length_append]; omega
      · rw [tyL_a, k7 ts (by omega)]
        exact q9 ts lts
theorem rec_ok (w : WB n b) (t : TK A0 n b 194 m) (f : FP B0 n b) : ∀ k : Nat, (∀ o, o ≤ 8 → 17 ≤ k + 2 * o → ClaimOk A0 B0 n m b k o) ∧ (∀ o, o ≤ 8 → 18 ≤ k + 2 * o → CondOk A0 B0 n m b k o) := by
  intro k
  induction k with
  | zero => exact ⟨fun o h1 h2 => absurd h2 (by omega), fun o h1 h2 => absurd h2 (by omega)⟩
  | succ k ih => exact ⟨fun o h1 h2 => claim_s w t f (fun h8 => ih.1 (o + 1) (by omega) (by omega)) (fun h8 => ih.2 (o + 1) (by omega) (by omega)), fun o h1 h2 => cond_s w t f (ih.1 o h1 (by omega))⟩
theorem J_cond {A B : Mm} {i : Nat} {cs pe : List Nat} (w : WB n b) (t : TK A0 n b 194 m) (f : FP B0 n b) (h : JS A0 B0 n m b A B i cs pe 0) (hl : cs.length ≤ i) : JF A0 B0 (f_X4_readCondition 24 0 A) (f_X11_readAny B) ∨ ∃ i' es A' B', f_X4_readCondition 24 0 A = some (1, A') ∧ f_X11_readAny B = some (0, B') ∧ JS A0 B0 n m b A' B' i' (cs ++ es) [] 0 ∧ i < i' ∧ es.length + i ≤ i' ∧ TC 0 es := by
  have lm : m ≤ 400 := t.2.1
  obtain ⟨h1, h2, e1, e2, e3, ⟨e4, e5⟩, e6, e7, e8⟩ := h
  have g : FS B0 (uM B 239 31 (nI ([] : List Nat).length)) n b i cs [] 0 := ⟨fun k p q r s => by rw [uM_off _ _ _ p]; exact e1 k p q r s, e2.u kn_0 (fun _ => rfl), e3.congr fun j p q => by rw [uM_ne _ _ _ (by omega)], ⟨by rw [uM_ne _ _ _ (by decide)]; exact e4, fun j hj => by rw [uM_off _ _ _ (by decide), uM_off _ _ _ (by decide)]; exact e5 j hj⟩, by rw [uM_ne _ _ _ (by decide)]; exact e6, uM_eq _ _ _ _, fun j hj => absurd hj (Nat.not_lt_zero j)⟩
  have r := (rec_ok w t f 24).2 0 (by omega) (by omega) i cs [] 0 A _ FU ⟨h1, h2, g⟩ (Or.inl rfl) (Or.inl rfl) (Or.inl rfl) (fun y hy => by cases hy) (by show cs.length + 0 ≤ i; omega) (by show 0 ≤ 3 * 0; omega) (by omega) (by omega) (by unfold FU; omega)
  unfold f_X11_readAny
  rw [nm_x]
  rcases r with r | ⟨i', es, A', B', fuel', q1, q2, q3, q4, q5, q6, q7, q8, q9⟩
  · exact Or.inl r
  · refine Or.inr ⟨i', es, A', B', q1, ?_, ⟨q5, q6, q7⟩, q4, q8, q9⟩
    have e : anyE (f_X11_readAny_9 fuel') (nI 0) 0 B' = some (0, B') := if_pos rfl
    rw [← e, ← q2]
    rfl
end COND
