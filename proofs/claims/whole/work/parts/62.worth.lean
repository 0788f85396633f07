/-! ===== what one is worth as an heir ===== -/
def vow (l : Nat) : Bool := decide (l = 0 ∨ l = 4 ∨ l = 8 ∨ l = 14 ∨ l = 20)
def b01 (b : Bool) : Int32 := if b = true then 1 else 0
def fcM (P : PP) (D : DD) (p q l : Nat) : Nat → Int32
  | 0 => nI l
  | 1 => b01 (vow l)
  | 2 => nI (dDay D) - pBorn P q
  | 3 => nI (kinM P D p q)
  | 4 => b01 (prE P (p + 1) q)
  | 5 => b01 (decide (dSp D p = q + 1))
  | 6 => nI (cntF 28 (fun l => decide (eo (dOw D l) = nI q)))
  | 7 => pSk P q
  | 8 => dCoin D q
  | _ => nI (dDay D)
def wlM (fc : Nat → Int32) (T : TT) : Nat → Nat → Int32
  | 0, _ => 0
  | d + 1, k => if tLw T k = tLt T k ∨ valR fc (tC T) (tLw T k) (tLt T k) ≠ 0 then valR fc (tC T) (tLf T k) (tLw T k) else wlM fc T d (k + 1)
def worthM (P : PP) (D : DD) (T : TT) (p q l : Nat) : Int32 := wlM (fcM P D p q l) T (tLm T) 0
/-- ten facts, told one behind the other -/
def fill10 (g : Nat → Int32) (a0 a1 a2 a3 a4 a5 a6 a7 a8 a9 : Int32) : Nat → Int32 := upd (upd (upd (upd (upd (upd (upd (upd (upd (upd g 0 a0) 1 a1) 2 a2) 3 a3) 4 a4) 5 a5) 6 a6) 7 a7) 8 a8) 9 a9
theorem fill10_fc {P : PP} {D : DD} {p q l : Nat} (g : Nat → Int32) : ∀ i, i < 10 → fill10 g (nI l) (b01 (vow l)) (nI (dDay D) - pBorn P q) (nI (kinM P D p q)) (b01 (prE P (p + 1) q)) (b01 (decide (dSp D p = q + 1))) (nI (cntF 28 (fun l => decide (eo (dOw D l) = nI q)))) (pSk P q) (dCoin D q) (nI (dDay D)) i = fcM P D p q l i := by
  intro i hi
  have k : i = 0 ∨ i = 1 ∨ i = 2 ∨ i = 3 ∨ i = 4 ∨ i = 5 ∨ i = 6 ∨ i = 7 ∨ i = 8 ∨ i = 9 := by omega
  rcases k with rfl | rfl | rfl | rfl | rfl | rfl | rfl | rfl | rfl | rfl <;> rfl
theorem bind_x {α β : Type} (a : α) (f : α → Option β) : (some a).bind f = f a := id rfl
section WORTH
variable {P : PP} {D : DD} {T : TT}
theorem C_worth176 {A : Mm} {c : Nat} {fc : Nat → Int32} (hT : RTK (fun j => A (17 + j)) T) (hw : WFT (pN P) T) (hf : ∀ i, i < 10 → A 23 i = fc i) : ∀ (d k fuel : Nat) (s : Nat → Int32), k + d = tLm T → d < fuel → ∃ s', f_X3_worthOf_18_176 c fuel (nI k) (rM A 24 s) = some (wlM fc T d k, rM A 24 s') := by
  intro d
  have m16 := hw.1.2.1
  induction d with
  | zero =>
    intro k fuel s h1 h2
    cases fuel with
    | zero => omega
    | succ fu =>
      refine ⟨s, ?_⟩
      show f_X3_worthOf_18_176b (f_X3_worthOf_18_176 c fu) c (nI k) (rM A 24 s) = _
      have q18 : rM A 24 s 18 2 = nI (tLm T) := by rw [rM_off _ _ (by decide)]; exact hT.1.2
      simp only [f_X3_worthOf_18_176b, q18]
      rw [if_pos (nI_ge_t (by omega) (by omega))]
      rfl
  | succ d ih =>
    intro k fuel s h1 h2
    cases fuel with
    | zero => omega
    | succ fu =>
      have q18 : ∀ s, rM A 24 s 18 2 = nI (tLm T) := fun s => by rw [rM_off _ _ (by decide)]; exact hT.1.2
      obtain ⟨w1, w2, w3, ⟨t, -, w4⟩, w5⟩ := hw.2.1 k (by omega)
      obtain ⟨c1, c2, c3⟩ := hT.2.1 k (by omega)
      have hcl := hw.1.2.2
      have r20 : ∀ s, rM A 24 s 20 k = nI (tLf T k) := fun s => by rw [rM_off _ _ (by decide)]; exact c1
      have r21 : ∀ s, rM A 24 s 21 k = nI (tLw T k) := fun s => by rw [rM_off _ _ (by decide)]; exact c2
      have r22 : ∀ s, rM A 24 s 22 k = nI (tLt T k) := fun s => by rw [rM_off _ _ (by decide)]; exact c3
      have hcc : ∀ s i, i < tCl T → rM A 24 s 19 i = nI (tC T i) := fun s i hi => by rw [rM_off _ _ (by decide)]; exact hT.2.2.1 i hi
      have hff : ∀ s i, i < 10 → rM A 24 s 23 i = fc i := fun s i hi => by rw [rM_off _ _ (by decide)]; exact hf i hi
      have runW : ∀ s, ∃ s', f_X3_run_18 (nI (tLf T k)) (nI (tLw T k)) (rM A 24 s) = some (valR fc (tC T) (tLf T k) (tLw T k), rM A 24 s') := fun s => by
        obtain ⟨s', e⟩ := C_run (A := rM A 24 s) w1 (by omega) (fun i hi => hcc s i (by omega)) (hff s) w4
        exact ⟨s', by rw [e, rM_rM]⟩
      have end235 : ∀ s, ∃ s', f_X3_worthOf_18_235 c (nI k) (rM A 24 s) = some (valR fc (tC T) (tLf T k) (tLw T k), rM A 24 s') := fun s => by
        obtain ⟨s', e⟩ := runW s
        refine ⟨s', ?_⟩
        unfold f_X3_worthOf_18_235
        rw [gd_t (by omega) (by omega), gd_t (by omega) (by omega), ix_nI (by omega), r20, r21, e]
        rfl
      show ∃ s', f_X3_worthOf_18_176b (f_X3_worthOf_18_176 c fu) c (nI k) (rM A 24 s) = _
      unfold f_X3_worthOf_18_176b wlM
      rw [q18, if_neg (nI_ge_f (by omega) (by omega)), gd_t (by omega) (by omega), gd_t (by omega) (by omega), ix_nI (by omega), r21, r22]
      by_cases z : tLw T k = tLt T k
      · rw [if_pos (by rw [z]), if_pos (Or.inl z)]
        unfold f_X3_worthOf_18_207
        rw [if_neg (by decide)]
        exact end235 s
      · rw [if_neg (by rw [nI_inj (by omega) (by omega)]; exact z)]
        unfold f_X3_worthOf_18_207
        obtain ⟨s1, e1⟩ := C_run (A := rM A 24 s) w2 (by omega) (fun i hi => hcc s i (by omega)) (hff s) (w5.resolve_left z)
        rw [rM_rM] at e1
        rw [if_pos rfl, gd_t (by omega) (by omega), gd_t (by omega) (by omega), ix_nI (by omega), r21, r22, e1]
        simp only [Option.bind_some]
        by_cases v : valR fc (tC T) (tLw T k) (tLt T k) = 0
        · rw [if_pos v, if_neg (fun e => e.elim z (fun e => e v)), nm_x, nI_1]
          exact ih (k + 1) fu s1 (by omega) (by omega)
        · rw [if_neg v, if_pos (Or.inr v)]
          exact end235 s1
theorem F_worth163 {B : Mm} {fc : Nat → Int32} (hT : RTF B T) (hw : WFT (pN P) T) (hf : ∀ i, i < 10 → B 265 i = fc i) : ∀ (d k fuel : Nat) (s : Nat → Int32), k + d = tLm T → d < fuel → ∃ s', f_X11_worthOf_163 fuel (nI k) (rM B 266 s) = some (wlM fc T d k, rM B 266 s') := by
  intro d
  have m16 := hw.1.2.1
  induction d with
  | zero =>
    intro k fuel s h1 h2
    cases fuel with
    | zero => omega
    | succ fu =>
      refine ⟨s, ?_⟩
      show f_X11_worthOf_163b (f_X11_worthOf_163 fu) (nI k) (rM B 266 s) = _
      have q : rM B 266 s 239 22 = nI (tLm T) := by rw [rM_off _ _ (by decide)]; exact hT.1.2
      simp only [f_X11_worthOf_163b, q]
      rw [if_pos (nI_ge_t (by omega) (by omega))]
      rfl
  | succ d ih =>
    intro k fuel s h1 h2
    cases fuel with
    | zero => omega
    | succ fu =>
      have q : rM B 266 s 239 22 = nI (tLm T) := by rw [rM_off _ _ (by decide)]; exact hT.1.2
      obtain ⟨w1, w2, w3, ⟨t, -, w4⟩, w5⟩ := hw.2.1 k (by omega)
      obtain ⟨c1, c2, c3⟩ := hT.2.1 k (by omega)
      have hcl := hw.1.2.2
      have r20 : ∀ s, rM B 266 s 253 k = nI (tLf T k) := fun s => by rw [rM_off _ _ (by decide)]; exact c1
      have r21 : ∀ s, rM B 266 s 252 k = nI (tLw T k) := fun s => by rw [rM_off _ _ (by decide)]; exact c2
      have r22 : ∀ s, rM B 266 s 254 k = nI (tLt T k) := fun s => by rw [rM_off _ _ (by decide)]; exact c3
      have hcc : ∀ s i, i < tCl T → rM B 266 s 255 i = nI (opN (tC T i)) ∧ rM B 266 s 256 i = nI (argN (tC T i)) := fun s i hi => by rw [rM_off _ _ (by decide), rM_off _ _ (by decide)]; exact hT.2.2.1 i hi
      have hff : ∀ s i, i < 10 → rM B 266 s 265 i = fc i := fun s i hi => by rw [rM_off _ _ (by decide)]; exact hf i hi
      have last : ∀ s, ∃ s', ((gd (inB (nI k) 32 = true) <| gd (inB (nI k) 32 = true) <| (f_X11_runs (rM B 266 s 253 (ix (nI k))) (rM B 266 s 252 (ix (nI k))) (rM B 266 s)).bind fun q_3 => some (q_3.1, q_3.2)) : Option (Int32 × Mm)) = some (valR fc (tC T) (tLf T k) (tLw T k), rM B 266 s') := fun s => by
        obtain ⟨s', e⟩ := F_runs (B := rM B 266 s) w1 (by omega) (fun i hi => hcc s i (by omega)) (hff s) w4
        rw [rM_rM] at e
        refine ⟨s', ?_⟩
        rw [gd_t (by omega) (by omega), gd_t (by omega) (by omega), ix_nI (by omega), r20, r21, e]
        rfl
      show ∃ s', f_X11_worthOf_163b (f_X11_worthOf_163 fu) (nI k) (rM B 266 s) = _
      unfold f_X11_worthOf_163b wlM f_X11_isSo f_X11_isSo_34
      rw [q, if_neg (nI_ge_f (by omega) (by omega)), gd_t (by omega) (by omega), gd_t (by omega) (by omega), ix_nI (by omega), r21, r22]
      by_cases z : tLw T k = tLt T k
      · rw [if_pos (by rw [z]), if_pos (Or.inl z)]
        simp only [Option.bind_some, i10, if_false]
        have := last s
        rw [ix_nI (by omega)] at this
        exact this
      · rw [if_neg (by rw [nI_inj (by omega) (by omega)]; exact z)]
        obtain ⟨s1, e1⟩ := F_runs (B := rM B 266 s) w2 (by omega) (fun i hi => hcc s i (by omega)) (hff s) (w5.resolve_left z)
        rw [rM_rM] at e1
        rw [gd_t (by omega) (by omega), gd_t (by omega) (by omega), e1]
        simp only [Option.bind_some]
        by_cases v : valR fc (tC T) (tLw T k) (tLt T k) = 0
        · rw [if_pos v, if_neg (fun e => e.elim z (fun e => e v))]
          simp only [Option.bind_some, if_true]
          rw [nm_x, nI_1]
          exact ih (k + 1) fu s1 (by omega) (by omega)
        · rw [if_neg v, if_pos (Or.inr v)]
          simp only [Option.bind_some, i10, if_false]
          have := last s1
          rw [ix_nI (by omega)] at this
          exact this
theorem ix1 : ix (1 : Int32) = 1 ∧ ix (4 : Int32) = 4 ∧ ix (5 : Int32) = 5 := by decide +kernel
theorem in1 : inB (1 : Int32) 10 = true ∧ inB (4 : Int32) 10 = true ∧ inB (5 : Int32) 10 = true := by decide +kernel
theorem C_w120 {A : Mm} {c q : Nat} (hk : ∀ f, RK (fun j => (rM A 23 f) (c + j)) P D) (hN : pN P ≤ 12) (hq : q < pN P) (hc : c ≠ 23 ∧ c + 6 ≠ 23 ∧ c + 7 ≠ 23) (f : Nat → Int32) (v : Int32) : f_X3_worthOf_18_120 c (nI q) 5 v (rM A 23 f) = f_X3_worthOf_18_176 c FU 0 (rM A 23 (upd (upd (upd (upd (upd f 5 v) 6 (nI (cntF 28 (fun l => decide (eo (dOw D l) = nI q))))) 7 (pSk P q)) 8 (dCoin D q)) 9 (nI (dDay D)))) := by
  have d0 : ∀ f, rM A 23 f c 1 = nI (dDay D) := fun f => (hk f).1.2.1
  have s0 : ∀ f, rM A 23 f (c + 6) q = pSk P q := fun f => ((hk f).2.2.1 q hq).2.2.2.2.2.1
  have m0 : ∀ f, rM A 23 f (c + 7) q = dCoin D q := fun f => ((hk f).2.2.1 q hq).2.2.2.2.2.2.1
  unfold f_X3_worthOf_18_120
  rw [gd_pos in1.2.2, nm_x, ix1.2.2, uM_rMs, C_ownedBy (hk _)]
  simp only [bind_x]
  rw [J_bitS _ _ (by omega)]
  simp only [bind_x]
  rw [nm_x, uM_rMs, gd_t (by omega) (by omega), nm_x, ix_nI (by omega), s0, uM_rMs, gd_t (by omega) (by omega), nm_x, m0, uM_rMs, nm_x, d0, uM_rMs]
theorem C_w99 {A : Mm} {c p q : Nat} (hk : ∀ f, RK (fun j => (rM A 23 f) (c + j)) P D) (hN : pN P ≤ 12) (hp : p < pN P) (hq : q < pN P) (hsp : dSp D p ≤ pN P) (f : Nat → Int32) (v : Int32) : f_X3_worthOf_18_99 c (nI p) (nI q) 4 v (rM A 23 f) = f_X3_worthOf_18_120 c (nI q) 5 (b01 (decide (dSp D p = q + 1))) (rM A 23 (upd f 4 v)) := by
  have p0 : ∀ f, rM A 23 f (c + 8) p = eo (dSp D p) := fun f => ((hk f).2.2.1 p hp).2.2.2.2.2.2.2.1
  unfold f_X3_worthOf_18_99
  rw [gd_pos in1.2.1, nm_x, ix1.2.1, uM_rMs, gd_t (by omega) (by omega), ix_nI (by omega), p0]
  by_cases z : dSp D p = q + 1
  · have e : b01 (decide (dSp D p = q + 1)) = 1 := by unfold b01; rw [if_pos (decide_eq_true z)]
    rw [if_pos ((eo_nI (by omega) (by omega)).mpr z), e]
  · have e : b01 (decide (dSp D p = q + 1)) = 0 := by unfold b01; rw [if_neg (by simp [z])]
    rw [if_neg (by rw [eo_nI (by omega) (by omega)]; exact z), e]
theorem C_w50 {A : Mm} {c p q : Nat} (hk : ∀ f, RK (fun j => (rM A 23 f) (c + j)) P D) (hP : WFP P) (hp : p < pN P) (hq : q < pN P) (f : Nat → Int32) (v : Int32) : f_X3_worthOf_18_50 c (nI p) (nI q) 1 v (rM A 23 f) = f_X3_worthOf_18_99 c (nI p) (nI q) 4 (b01 (prE P (p + 1) q)) (rM A 23 (upd (upd (upd f 1 v) 2 (nI (dDay D) - pBorn P q)) 3 (nI (kinM P D p q)))) := by
  have hN := hP.1
  have d0 : ∀ f, rM A 23 f c 1 = nI (dDay D) := fun f => (hk f).1.2.1
  have b0 : ∀ f, rM A 23 f (c + 3) q = pBorn P q := fun f => ((hk f).2.2.1 q hq).2.2.1
  have ip : ∀ f, f_X1_isParent c (nI p) (nI q) (rM A 23 f) = some (b01 (prE P (p + 1) q), rM A 23 f) := fun f => by
    have := C_isParent (A := rM A 23 f) (c := c) (m := p + 1) (q := q) (hk f) hP (by omega) hq
    rw [eo_s] at this
    exact this
  unfold f_X3_worthOf_18_50
  rw [gd_pos in1.1, nm_x, ix1.1, uM_rMs, gd_t (by omega) (by omega), nm_x, ix_nI (by omega), d0, b0, uM_rMs, C_kin (hk _) hN hp hq]
  simp only [Option.bind_some]
  rw [nm_x, uM_rMs, ip]
  simp only [Option.bind_some]
  cases prE P (p + 1) q
  · rw [show b01 false = 0 from rfl, if_pos rfl]
  · rw [show b01 true = 1 from rfl, if_neg (by decide)]
theorem C_w0 {A : Mm} {c p q l : Nat} (hl : l < 28) : f_X3_worthOf_18 c (nI p) (nI q) (nI l) A = f_X3_worthOf_18_50 c (nI p) (nI q) 1 (b01 (vow l)) (rM A 23 (upd (A 23) 0 (nI l))) := by
  have e0 : uM A 23 0 (nI l) = rM A 23 (upd (A 23) 0 (nI l)) := uM_rM _ _ _ _
  unfold f_X3_worthOf_18 f_X3_worthOf_18_45
  rw [nm_x, e0]
  by_cases v : vow l = true
  · have e : b01 (vow l) = 1 := by rw [v]; rfl
    have k : l = 0 ∨ l = 4 ∨ l = 8 ∨ l = 14 ∨ l = 20 := of_decide_eq_true v
    rw [e]
    rcases k with rfl | rfl | rfl | rfl | rfl
    · rw [if_pos (by decide +kernel)]
    · rw [if_neg (by decide +kernel), if_pos (by decide +kernel)]
    · rw [if_neg (by decide +kernel), if_neg (by decide +kernel), if_pos (by decide +kernel)]
    · rw [if_neg (by decide +kernel), if_neg (by decide +kernel), if_neg (by decide +kernel), if_pos (by decide +kernel)]
    · rw [if_neg (by decide +kernel), if_neg (by decide +kernel), if_neg (by decide +kernel), if_neg (by decide +kernel), if_pos (by decide +kernel)]
  · have e : b01 (vow l) = 0 := by unfold b01; rw [if_neg v]
    have k : ¬ (l = 0 ∨ l = 4 ∨ l = 8 ∨ l = 14 ∨ l = 20) := fun z => v (decide_eq_true z)
    rw [e, if_neg (fun e => k (Or.inl ((nI_0iff (by omega)).mp e))), if_neg (show ¬ nI l = 4 from fun e => by have := (nI_inj (b := 4) (by omega) (by omega)).mp e; omega), if_neg (show ¬ nI l = 8 from fun e => by have := (nI_inj (b := 8) (by omega) (by omega)).mp e; omega), if_neg (show ¬ nI l = 14 from fun e => by have := (nI_inj (b := 14) (by omega) (by omega)).mp e; omega), if_neg (show ¬ nI l = 20 from fun e => by have := (nI_inj (b := 20) (by omega) (by omega)).mp e; omega)]
theorem C_wfin {A : Mm} {c p q l : Nat} (hT : RTK (fun j => A (17 + j)) T) (hw : WFT (pN P) T) (F : Nat → Int32) (hF : ∀ i, i < 10 → F i = fcM P D p q l i) : ∃ f g, f_X3_worthOf_18_176 c FU 0 (rM A 23 F) = some (worthM P D T p q l, rM (rM A 23 f) 24 g) := by
  obtain ⟨s', e⟩ := C_worth176 (P := P) (A := rM A 23 F) (c := c) (fc := fcM P D p q l) (hT.congr fun j hj a b => rM_off _ _ (by omega)) hw (fun i hi => by rw [rM_same]; exact hF i hi) (tLm T) 0 FU (rM A 23 F 24) (by omega) (by have := hw.1.2.1; unfold FU; omega)
  rw [rM_id] at e
  exact ⟨F, s', e⟩
theorem C_worth {A : Mm} {c : Nat} (hc : isClan c) (h : RK (fun j => A (c + j)) P D) (hT : RTK (fun j => A (17 + j)) T) (hP : WFP P) (hw : WFT (pN P) T) {p q l : Nat} (hp : p < pN P) (hq : q < pN P) (hl : l < 28) (hsp : dSp D p ≤ pN P) : ∃ f g, f_X3_worthOf_18 c (nI p) (nI q) (nI l) A = some (worthM P D T p q l, rM (rM A 23 f) 24 g) := by
  have hN := hP.1
  have hk : ∀ f, RK (fun j => (rM A 23 f) (c + j)) P D := fun f => RK_rM hc (by decide) h
  have k0 : c ≠ 23 := kOK_ne (k := 23) (by decide) hc (j := 0) (by omega)
  have k6 : c + 6 ≠ 23 := kOK_ne (k := 23) (by decide) hc (by omega)
  have k7 : c + 7 ≠ 23 := kOK_ne (k := 23) (by decide) hc (by omega)
  obtain ⟨f, g, e⟩ := C_wfin (P := P) (D := D) (c := c) (p := p) (q := q) (l := l) hT hw _ (fill10_fc (A 23))
  refine ⟨f, g, ?_⟩
  rw [C_w0 hl, C_w50 hk hP hp hq, C_w99 hk hN hp hq hsp, C_w120 hk hN hq ⟨k0, k6, k7⟩, ← e]
  rfl
theorem F_isVowel {B : Mm} {l : Nat} (hl : l < 28) : f_X11_isVowel (nI l) B = some (b01 (vow l), B) := by
  unfold f_X11_isVowel f_X11_isVowel_27 b01 vow
  by_cases c0 : l = 0
  · rw [if_pos (by rw [c0]; rfl), if_pos (by simp [c0])]
  · rw [if_neg (fun e => c0 ((nI_0iff (by omega)).mp e))]
    by_cases c1 : l = 4
    · rw [if_pos (by rw [c1]; rfl), if_pos (by simp [c1])]
    · rw [if_neg (show ¬ nI l = 4 from fun e => c1 ((nI_inj (b := 4) (by omega) (by omega)).mp e))]
      by_cases c2 : l = 8
      · rw [if_pos (by rw [c2]; rfl), if_pos (by simp [c2])]
      · rw [if_neg (show ¬ nI l = 8 from fun e => c2 ((nI_inj (b := 8) (by omega) (by omega)).mp e))]
        by_cases c3 : l = 14
        · rw [if_pos (by rw [c3]; rfl), if_pos (by simp [c3])]
        · rw [if_neg (show ¬ nI l = 14 from fun e => c3 ((nI_inj (b := 14) (by omega) (by omega)).mp e))]
          by_cases c4 : l = 20
          · rw [if_pos (by rw [c4]; rfl), if_pos (by simp [c4])]
          · rw [if_neg (show ¬ nI l = 20 from fun e => c4 ((nI_inj (b := 20) (by omega) (by omega)).mp e)), if_neg (by simp [c0, c1, c2, c3, c4])]
theorem F_worth {B : Mm} (h : RB B P D) (hT : RTF B T) (hP : WFP P) (hw : WFT (pN P) T) {p q l : Nat} (hp : p < pN P) (hq : q < pN P) (hl : l < 28) (hsp : dSp D p ≤ pN P) : ∃ f g, f_X11_worthOf (nI p) (nI q) (nI l) B = some (worthM P D T p q l, rM (rM B 265 f) 266 g) := by
  have hN := hP.1
  have hk : ∀ f, RB (rM B 265 f) P D := fun f => RB_rM (by decide) h
  have d0 : ∀ f, rM B 265 f 240 0 = nI (dDay D) := fun f => (hk f).2.1.1.1
  have b0 : ∀ f, rM B 265 f 245 q = pBorn P q := fun f => ((hk f).1.2 q hq).2.2.1
  have s0 : ∀ f, rM B 265 f 247 q = pSk P q := fun f => ((hk f).1.2 q hq).2.2.2.2
  have m0 : ∀ f, rM B 265 f 240 (100 + q) = dCoin D q := fun f => ((hk f).2.1.2.2.1 q hq).2.1
  have n0 : ∀ f, rM B 265 f 249 (12 * p + q) = nI (kinM P D p q) := fun f => by rw [(hk f).2.2 p q hp hq]
  have st101 : ∀ (f : Nat → Int32) (v : Int32), f_X11_worthOf_101 (nI q) 5 v (rM B 265 f) = f_X11_worthOf_163 FU 0 (rM B 265 (upd (upd (upd (upd (upd f 5 v) 6 (nI (cntF 28 (fun l => decide (eo (dOw D l) = nI q))))) 7 (pSk P q)) 8 (dCoin D q)) 9 (nI (dDay D)))) := fun f v => by
    unfold f_X11_worthOf_101
    rw [gd_pos in1.2.2, nm_x, ix1.2.2, uM_rMs, F_ownedBy (hk _).2.1]
    simp only [Option.bind_some]
    rw [F_onesS _ _ (by omega)]
    simp only [Option.bind_some]
    rw [nm_x, uM_rMs, gd_t (by omega) (by omega), nm_x, ix_nI (by omega), s0, uM_rMs, nI_lit 100, nI_add, gd_t (by omega) (by omega), nm_x, ix_nI (by omega), m0, uM_rMs, nm_x, d0, uM_rMs]
  have st81 : ∀ (f : Nat → Int32) (v : Int32), f_X11_worthOf_81 (nI p) (nI q) 4 v (rM B 265 f) = f_X11_worthOf_101 (nI q) 5 (b01 (decide (dSp D p = q + 1))) (rM B 265 (upd f 4 v)) := fun f v => by
    unfold f_X11_worthOf_81
    rw [gd_pos in1.2.1, nm_x, ix1.2.1, uM_rMs, F_spouseOf (hk _).2.1 hN hp]
    simp only [Option.bind_some]
    by_cases z : dSp D p = q + 1
    · rw [if_pos ((eo_nI (by omega) (by omega)).mpr z)]
      unfold b01
      rw [if_pos (decide_eq_true z)]
    · rw [if_neg (by rw [eo_nI (by omega) (by omega)]; exact z)]
      unfold b01
      rw [if_neg (by simp [z])]
  have st25 : ∀ (f : Nat → Int32) (v : Int32), f_X11_worthOf_25 (nI p) (nI q) 1 v (rM B 265 f) = f_X11_worthOf_81 (nI p) (nI q) 4 (b01 (prE P (p + 1) q)) (rM B 265 (upd (upd (upd f 1 v) 2 (nI (dDay D) - pBorn P q)) 3 (nI (kinM P D p q)))) := fun f v => by
    have ip := fun f => F_isChild (B := rM B 265 f) (m := p + 1) (q := q) (hk f).1 hP (by omega) (by omega) hq
    simp only [eo_s] at ip
    unfold f_X11_worthOf_25
    rw [gd_pos in1.1, nm_x, ix1.1, uM_rMs, gd_t (by omega) (by omega), nm_x, ix_nI (by omega), d0, b0, uM_rMs, nI_lit 12, ix_ab (by omega) (by omega), gd_t (by omega) (by omega), nm_x, ix_nI (by omega), n0, uM_rMs, ip]
    simp only [Option.bind_some]
    unfold b01
    cases prE P (p + 1) q
    · rfl
    · rfl
  have head : f_X11_worthOf (nI p) (nI q) (nI l) B = f_X11_worthOf_25 (nI p) (nI q) 1 (b01 (vow l)) (rM B 265 (upd (B 265) 0 (nI l))) := by
    have e0 : uM B 265 0 (nI l) = rM B 265 (upd (B 265) 0 (nI l)) := uM_rM _ _ _ _
    unfold f_X11_worthOf
    rw [nm_x, e0, F_isVowel hl]
    simp only [Option.bind_some]
    unfold b01
    by_cases z : vow l = true
    · rw [if_pos z, if_neg (by decide)]
    · rw [if_neg z, if_pos rfl]
  rw [head, st25, st81, st101]
  have fin : ∀ F : Nat → Int32, (∀ i, i < 10 → F i = fcM P D p q l i) → ∃ f g, f_X11_worthOf_163 FU 0 (rM B 265 F) = some (worthM P D T p q l, rM (rM B 265 f) 266 g) := fun F hF => by
    obtain ⟨s', e⟩ := F_worth163 (P := P) (B := rM B 265 F) (fc := fcM P D p q l) (hT.congr (by rw [rM_off _ _ (by decide)]) (by rw [rM_off _ _ (by decide)]) fun k _ _ _ => rM_off _ _ (by omega)) hw (fun i hi => by rw [rM_same]; exact hF i hi) (tLm T) 0 FU (rM B 265 F 266) (by omega) (by have := hw.1.2.1; unfold FU; omega)
    rw [rM_id] at e
    exact ⟨F, s', e⟩
  exact fin _ (fill10_fc (B 265))
end WORTH
section WORTH2
variable {S : Mm} {P : PP} {D : DD} {T : TT} {W : Nat → Int32} {E : RE}
theorem op_worth (x y z : Int32) (h : RR S P D T W E) : Good (f_X10_worth x y z) (f_X11_worth x y z) S := by
  have hN := h.wP.1
  have h0 := h.C.1
  have nopeC : ∀ A : Mm, (x = y ∨ f_X1_lives 1 x A = some (0, A) ∨ (f_X1_lives 1 x A = some (1, A) ∧ f_X1_lives 1 y A = some (0, A))) → f_X10_worth x y z A = some (0, A) := fun A hc => by
    rcases nI_cs z (n := 28) (by omega) with hz | ⟨l, hl, rfl⟩
    · simp only [f_X10_worth, C_isLetter0 hz, Option.bind_some, if_true]
    · simp only [f_X10_worth, C_isLetter1 hl, Option.bind_some, i10, if_false]
      by_cases c : x = y
      · rw [if_pos c]
      · rw [if_neg c]
        rcases hc with hc | hc | ⟨hc, hd⟩
        · exact absurd hc c
        · rw [hc]; simp only [Option.bind_some, if_true]
        · rw [hc]; simp only [Option.bind_some, i10, if_false]
          rw [hd]; simp only [Option.bind_some, if_true]
  rcases lv_cases h x with ⟨u1, u2⟩ | ⟨a, rfl, va, ha, u1, u2⟩
  · refine good_id h (r := 0) (nopeC S (Or.inr (Or.inl u1))) ?_
    simp only [f_X11_worth, nm, uM_id h0, u2 S h.B, Option.bind_some, if_true]
  · rcases lv_cases h y with ⟨w1, w2⟩ | ⟨b, rfl, vb, hb, w1, w2⟩
    · refine good_id h (r := 0) (nopeC S (Or.inr (Or.inr ⟨u1, w1⟩))) ?_
      simp only [f_X11_worth, nm, uM_id h0, u2 S h.B, w2 S h.B, Option.bind_some, i10, if_false, if_true]
    · by_cases c : nI a = nI b
      · refine good_id h (r := 0) (nopeC S (Or.inl c)) ?_
        simp only [f_X11_worth, nm, uM_id h0, u2 S h.B, w2 S h.B, Option.bind_some, i10, if_false]
        rw [if_pos c]
      · rcases nI_cs z (n := 28) (by omega) with hz | ⟨l, hl, rfl⟩
        · refine good_id h (r := 0) ?_ ?_
          · simp only [f_X10_worth, C_isLetter0 hz, Option.bind_some, if_true]
          · simp only [f_X11_worth, nm, uM_id h0, u2 S h.B, w2 S h.B, Option.bind_some, i10, if_false, F_isLetter0 hz, if_true]
            rw [if_neg c]
        · have hsp := (h.wD.2.1 a ha).1
          obtain ⟨f, g, e⟩ := C_worth (by decide : 1 ∈ clanL) h.K h.TK h.wP h.wT ha hb hl hsp
          have a1 : agS S (rM (rM S 23 f) 24 g) := (agS_rM (by decide)).trans (agS_rM (by decide))
          have h1 := h.scr a1
          obtain ⟨f2, g2, e2⟩ := F_worth h1.B h1.TF h.wP h.wT ha hb hl hsp
          refine good_ro h (r := worthM P D T a b l) ?_ a1 ?_ ((agS_rM (S := rM (rM S 23 f) 24 g) (k := 265) (f := f2) (by decide)).trans (agS_rM (k := 266) (f := g2) (by decide)))
          · simp only [f_X10_worth, C_isLetter1 hl, Option.bind_some, i10, if_false, u1, w1]
            rw [if_neg c, e]
            rfl
          · simp only [f_X11_worth, nm, uM_id h1.C.1, u2 _ h1.B, w2 _ h1.B, Option.bind_some, i10, if_false, F_isLetter1 hl]
            rw [if_neg c, e2]
            rfl
end WORTH2
