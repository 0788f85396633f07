theorem gd_pos {c : Prop} [Decidable c] {ρ : Type} {o : Option ρ} (h : c) : gd c o = o := by unfold gd; rw [if_pos h]
theorem ob_val {ρ : Type} (K : Nat → Nat → Sh → Mm → Option ρ) {x : Option (Nat × Nat × Sh × Mm)} {a b : Nat} {c : Sh} {d : Mm} (h : x = some (a, b, c, d)) : x.bind (fun r => K r.1 r.2.1 r.2.2.1 r.2.2.2) = K a b c d := by subst h; rfl
theorem bootK_val {ρ : Type} (K : Nat → Nat → Sh → Mm → Option ρ) : bootK K = K 0 239 Z1 S1 := (bootK_eq K).trans (ob_val K boot_eq)
set_option maxRecDepth 100000 in
set_option maxHeartbeats 4000000 in
theorem start_of (hpure : ∀ (xs : Nat → Int32) (Ln : Nat), Ln ≤ 3072 → f_L_18 xs Ln FU 0 S1 = some 1) {p : Program} {e : Env} {s : State} {m : MethodId} {below : List Frame} {meth : Method} {c : Code} (l : Launch) {b L : Nat} {xs : Nat → Int32} (hL : L ≤ 3072) (C0 : lw_At p s m meth c b L xs) : W p l e room_1 s m #[Value.ref b] below meth c s.heap [] 0 0 (lw_Z below #[Value.ref b] s) (entryFrame m ([Value.ref b] : List Value).toArray 4) := by
  obtain ⟨hx, hb, hr, hml, hown, hts, hX, hbl, hlocks, hgv⟩ := C0
  have hg : ∀ {t : Cond}, stB t = true → t.before #[Value.ref b] s = true := fun h => flat_of_before _ hgv _ (of_decide_eq_true h)
  have hA0 : ∀ a : Nat, a < s.heap.size → ¬ (fun q : Nat => s.heap.size ≤ q) a := fun a h h2 => Nat.not_le.mpr h h2
  obtain ⟨adK, adV, hStr, hTm⟩ := vk_Sof (N := 4) (tm := stm) (len := sxL) (byt := sxB) (A := fun q : Nat => s.heap.size ≤ q) (by decide +kernel) (fun i hi => hg (st_1 i hi)) (fun i hi => hg (st_2 i hi)) (fun i hi => hg (st_3 i hi)) (fun i hi => hg (st_4 i hi)) (fun i hi j hj => hg (st_5 i hi j hj)) (fun i j hi hj hij => (st_6 i hi j hj hij).imp hg hg) hA0
  have hCo := va_Zof (A := fun q : Nat => s.heap.size ≤ q) (hts _ st_12.1) (hts _ st_12.2.1) (va_eqt (hg st_7)) hA0
  obtain ⟨fm, hFm⟩ := va_Zrf (va_Zqof (A := fun q : Nat => s.heap.size ≤ q) (hts _ st_12.2.2.1) (hts _ st_12.2.2.2) (hg st_8) hA0)
  obtain ⟨cI, kI, compI, i1, i2, i3⟩ := Cond.arrayClass_spec (hts _ st_13)
  obtain ⟨compC, cC, kC, j1, -, j2, j3, j4⟩ := Cond.arrayOver_spec (hts _ st_11)
  have hKn : ∀ k : Nat, ∃ q : ClassId × (Nat → Nat), ∀ r : vw_C, vwCl[k]? = some r → u_Kn s r.1 r.2.1 r.2.2 q.1 q.2 := by
    intro k
    by_cases hk : k < 12
    · obtain ⟨r, hr⟩ : ∃ r, vwCl[k]? = some r := ⟨vwCl[k]'hk, List.getElem?_eq_getElem hk⟩
      have h1 := st_14 k hk
      rw [hr] at h1
      obtain ⟨cc, ii, h⟩ := u_known (C := r.1) (T := r.2.1) (N := r.2.2) (n := r.2.2) hts (cl_u k r hr) (hts _ (of_decide_eq_true (by simpa using h1)))
      exact ⟨(cc, ii), fun r' hr' => by cases hr.symm.trans hr'; exact h⟩
    · exact ⟨(0, fun _ => 0), fun r hr => absurd (List.getElem?_eq_some_iff.mp hr).1 hk⟩
  obtain ⟨dd, hdd⟩ := Classical.axiomOfChoice hKn
  obtain ⟨X, eX⟩ : ∃ X : CX, X = (l, (fun k => (dd k).1, fun k => (dd k).2), s.heap.size, fun k => if k < 4 then adK k else if k = 4 then b else adV (k - 1048576), cI, cC, fm) := ⟨_, rfl⟩
  have eL : xL X = l := by rw [eX]
  have eb : xb X = s.heap.size := by rw [eX]
  have hK : va_K (xD X) vwCl (tyW X) s := by
    rw [eX]
    refine ⟨fun k q hq => hdd k q hq, fun k q hq => ?_⟩
    match k, hq with
    | 0, hq => cases hq; exact ⟨fun n z => ⟨fun k h => (by cases h), kI, i2, compI, i3⟩, i1⟩
    | 1, hq => cases hq; exact ⟨fun n z => ⟨fun k h => (by cases h), kC, j2, compC, j3⟩, kC, compC, j2, j3, j1, j4⟩
    | k + 2, hq => simp [tyW] at hq
  have hSx : Sx X s := by
    rw [eX]
    generalize hX9 : ((l, (fun k => (dd k).1, fun k => (dd k).2), s.heap.size, fun k => if k < 4 then adK k else if k = 4 then b else adV (k - 1048576), cI, cC, fm) : CX) = X9
    have ead : xad X9 = fun k => if k < 4 then adK k else if k = 4 then b else adV (k - 1048576) := by rw [← hX9]
    have eaF : aF X9 = fun q : Nat => s.heap.size ≤ q := by rw [← hX9]; rfl
    have exb : xb X9 = s.heap.size := by rw [← hX9]
    have exf : xf X9 = fm := by rw [← hX9]
    have e1 : ∀ i : Nat, i < 4 → xad X9 i = adK i := fun i hi => by rw [ead]; exact if_pos hi
    have e2 : (fun i => xad X9 (1048576 + i)) = adV := by
      funext i
      rw [ead]
      show (if 1048576 + i < 4 then _ else if 1048576 + i = 4 then _ else adV (1048576 + i - 1048576)) = _
      rw [if_neg (by omega), if_neg (by omega), Nat.add_sub_cancel_left]
    refine ⟨Nat.le_of_eq exb, ⟨fun i hi => ?_, fun i j hi hj e => hStr.2 i j hi hj (by rw [← e1 i hi, ← e1 j hj]; exact e)⟩, by rw [eaF]; exact hCo, by rw [eaF, exf]; exact hFm, fun w hw => va_Nw.of ?_ (hts w (st_9 w hw)), fun q hq => vk_R.of (hts _ (st_10 q hq)) ?_, va_AO.of (hts _ st_11)⟩
    · have h := hStr.1 i hi
      rw [e2, e1 i hi, eaF]
      exact h
    · exact (by decide +kernel : ∀ w ∈ nwL, w.onTables = true) w hw
    · simp only [srL, List.mem_cons, List.not_mem_nil, or_false] at hq
      rcases hq with rfl | rfl | rfl | rfl
      · show _ = some (Value.ref (xad X9 0)); rw [e1 0 (by omega)]; exact hTm 0 (by omega)
      · show _ = some (Value.ref (xad X9 1)); rw [e1 1 (by omega)]; exact hTm 1 (by omega)
      · show _ = some (Value.ref (xad X9 2)); rw [e1 2 (by omega)]; exact hTm 2 (by omega)
      · show _ = some (Value.ref (xad X9 3)); rw [e1 3 (by omega)]; exact hTm 3 (by omega)
  have F : Fr X (LE p e s m b below meth c) RL code 4 := ⟨hx, hb, hml, hown, fun w hw => hts w (List.mem_filter.mp hw).1, hK, Nat.le_of_eq eb, hSx⟩
  have hSc : Sc X s b L xs := ⟨hX, hbl, by show ¬ xb X ≤ b; rw [eb]; exact Nat.not_le.mpr hbl, by rw [eX]; rfl⟩
  have hRm : Rm (LE p e s m b below meth c) 800 := ⟨Nat.le_of_ble_eq_true rfl, Nat.le_of_ble_eq_true rfl⟩
  have M0 : ML X p e s m b below meth c L xs := ⟨F, hRm, ⟨Nat.le_of_ble_eq_true rfl, Nat.le_of_ble_eq_true rfl⟩, hSc, hr, hlocks, eb.symm⟩
  have key := start_key M0 (mc := 600000) (ms := 7302250) rfl rfl [] (fun _ _ => 0)
  rw [← bootK_G] at key
  have ho : (bootK fun a c Z S => gd (Z = Z1 ∧ a = 0 ∧ c = 239) (f_L_18 xs L FU 0 S)) = some 1 := by
    rw [bootK_val, gd_pos ⟨rfl, rfl, rfl⟩]
    exact hpure xs L hL
  rw [← eL]
  have hl := lv_entry ([.ref b]) (n := 4) (Nat.le_of_ble_eq_true rfl)
  rw [lg_entry_eq]
  refine key 1 ho (Nat.zero_le _) _ s.heap [] ?_ (fun _ => eb.symm) (fun k q h => by simp [cW] at h) va_S.rf
  refine ⟨hl.1, hl.2.1, fun q hq => hl.2.2 q ?_⟩
  obtain ⟨v, h1, h2, h3⟩ := cL_of hq
  have hq1 : q.1 = 0 ∧ v = .ref (1048576 + 4) := by
    match hq9 : q.1, h1 with
    | 0, h1 => simp at h1; exact ⟨rfl, h1.symm⟩
    | 1, h1 => simp at h1
    | 2, h1 => simp at h1
    | 3, h1 => simp at h1
    | k + 4, h1 => simp at h1
  have e3 : q = (0, .ref b) := by
    have : cV X v = .ref b := by rw [hq1.2]; simp only [cV, gA_str]; rw [eX]; rfl
    rw [← this, ← h3, ← hq1.1]
  rw [e3]
  exact List.mem_cons_self
