/-! ===== to whom a letter goes: by the will, by the law ===== -/
def hwM (P : PP) (D : DD) (T : TT) (p l : Nat) : Nat → Nat → Nat
  | 0, _ => 0
  | d + 1, k => if bt (tWr T (12 * p + k)) l = true ∧ liv P D (tWt T (12 * p + k)) = true ∧ (tWi T (12 * p + k) = 0 ∨ liv P D (tWi T (12 * p + k) - 1) = true) then tWt T (12 * p + k) + 1 else hwM P D T p l d (k + 1)
def heirW (P : PP) (D : DD) (T : TT) (p l : Nat) : Nat := hwM P D T p l (tWm T p) 0
def hlM (P : PP) (D : DD) (T : TT) (p l : Nat) : Nat → Nat → Nat → Int32 → Nat
  | 0, _, b, _ => b
  | d + 1, q, b, m => if liv P D q = true ∧ ¬ worthM P D T p q l ≤ m then hlM P D T p l d (q + 1) (q + 1) (worthM P D T p q l) else hlM P D T p l d (q + 1) b m
def heirL (P : PP) (D : DD) (T : TT) (p l : Nat) : Nat := hlM P D T p l (pN P) 0 0 0
def md (A : Mm) (f g : Nat → Int32) : Mm := rM (rM A 23 f) 24 g
def mf (B : Mm) (f g : Nat → Int32) : Mm := rM (rM B 265 f) 266 g
theorem rM_comm (S : Mm) {a b : Nat} (f g : Nat → Int32) (h : a ≠ b) : rM (rM S a f) b g = rM (rM S b g) a f := by
  funext k
  by_cases c : k = b
  · subst c; rw [rM_same, rM_off _ _ (Ne.symm h), rM_same]
  · rw [rM_off _ _ c]
    by_cases c2 : k = a
    · subst c2; rw [rM_same, rM_same]
    · rw [rM_off _ _ c2, rM_off _ _ c2, rM_off _ _ c]
theorem md_md (A : Mm) (f g f' g' : Nat → Int32) : md (md A f g) f' g' = md A f' g' := by
  unfold md
  rw [rM_comm (rM A 23 f) g f' (by decide), rM_rM, rM_rM]
theorem mf_mf (A : Mm) (f g f' g' : Nat → Int32) : mf (mf A f g) f' g' = mf A f' g' := by
  unfold mf
  rw [rM_comm (rM A 265 f) g f' (by decide), rM_rM, rM_rM]
theorem md_id (A : Mm) : md A (A 23) (A 24) = A := by
  unfold md
  rw [rM_id, rM_id]
theorem mf_id (A : Mm) : mf A (A 265) (A 266) = A := by
  unfold mf
  rw [rM_id, rM_id]
theorem md_off (A : Mm) (f g : Nat → Int32) {k : Nat} (h : k ≠ 23) (h2 : k ≠ 24) : md A f g k = A k := by
  unfold md
  rw [rM_off _ _ h2, rM_off _ _ h]
theorem mf_off (A : Mm) (f g : Nat → Int32) {k : Nat} (h : k ≠ 265) (h2 : k ≠ 266) : mf A f g k = A k := by
  unfold mf
  rw [rM_off _ _ h2, rM_off _ _ h]
section HEIR
variable {P : PP} {D : DD} {T : TT}
theorem RK_md {A : Mm} {c : Nat} {f g : Nat → Int32} (hc : isClan c) (h : RK (fun j => A (c + j)) P D) : RK (fun j => (md A f g) (c + j)) P D := h.congr fun j hj => md_off _ _ _ (kOK_ne (k := 23) (by decide) hc hj) (kOK_ne (k := 24) (by decide) hc hj)
theorem RTK_md {A : Mm} {f g : Nat → Int32} (h : RTK (fun j => A (17 + j)) T) : RTK (fun j => (md A f g) (17 + j)) T := h.congr fun j hj a b => md_off _ _ _ (by omega) (by omega)
theorem RB_mf {B : Mm} {f g : Nat → Int32} (h : RB B P D) : RB (mf B f g) P D := RB_rM (by decide) (RB_rM (by decide) h)
theorem RTF_mf {B : Mm} {f g : Nat → Int32} (h : RTF B T) : RTF (mf B f g) T := h.congr (by rw [mf_off _ _ _ (by decide) (by decide)]) (by rw [mf_off _ _ _ (by decide) (by decide)]) fun k _ _ _ => mf_off _ _ _ (by omega) (by omega)
theorem hwM_le (hw : WFT (pN P) T) {p l : Nat} (hp : p < 12) : ∀ d k, k + d ≤ tWm T p → hwM P D T p l d k ≤ pN P := by
  intro d
  induction d with
  | zero => intro k _; exact Nat.zero_le _
  | succ d ih =>
    intro k hk
    unfold hwM
    split
    · have := (hw.2.2.1 p hp).2.2 k (by omega)
      omega
    · exact ih (k + 1) (by omega)
theorem heirW_le (hw : WFT (pN P) T) {p l : Nat} (hp : p < 12) : heirW P D T p l ≤ pN P := hwM_le hw hp _ _ (by omega)
theorem hlM_le {p l : Nat} : ∀ d q b m, q + d = pN P → b ≤ pN P → hlM P D T p l d q b m ≤ pN P := by
  intro d
  induction d with
  | zero => intro q b m _ hb; exact hb
  | succ d ih =>
    intro q b m hq hb
    unfold hlM
    split
    · exact ih _ _ _ (by omega) (by omega)
    · exact ih _ _ _ (by omega) hb
theorem heirL_le {p l : Nat} : heirL P D T p l ≤ pN P := hlM_le _ _ _ _ (by omega) (Nat.zero_le _)
theorem C_heirByWill {A : Mm} (hT : RTK (fun j => A (17 + j)) T) (hN : pN P ≤ 12) (hw : WFT (pN P) T) {p l : Nat} (hp : p < pN P) (hl : l < 28) {x : Int32} (hx : ∀ i, i < 32 → bt x i = liv P D i) : f_X6_heirByWill_17 (nI p) (nI l) x A = some (eo (heirW P D T p l), A) := by
  have m := hw.2.2.1 p (by omega)
  obtain ⟨q1, q2⟩ := t17w hT (q := p) (by omega)
  have m12 : nI p * 12 = nI (12 * p) := by rw [nI_lit 12, pk_mul, Nat.mul_comm]
  unfold f_X6_heirByWill_17
  rw [nm_x, m12]
  have key : ∀ (d k fuel : Nat), k + d = tWm T p → d < fuel → f_X6_heirByWill_17_10 fuel (nI p) (nI l) x (nI (12 * p)) (nI (12 * p + k)) A = some (eo (hwM P D T p l d k), A) := by
    intro d
    induction d with
    | zero =>
      intro k fuel h1 h2
      cases fuel with
      | zero => omega
      | succ fu =>
        show f_X6_heirByWill_17_10b (f_X6_heirByWill_17_10 fu) (nI p) (nI l) x (nI (12 * p)) (nI (12 * p + k)) A = _
        unfold f_X6_heirByWill_17_10b
        rw [gd_t (by omega) (by omega), ix_nI (by omega), q1, nI_add, if_pos (nI_ge_t (by omega) (by omega))]
        rfl
    | succ d ih =>
      intro k fuel h1 h2
      cases fuel with
      | zero => omega
      | succ fu =>
        obtain ⟨r1, r2, r3⟩ := q2 k (by omega)
        obtain ⟨w1, w2, -, -⟩ := m.2.2 k (by omega)
        have next := ih (k + 1) fu (by omega) (by omega)
        have nx : f_X6_heirByWill_17_91 (f_X6_heirByWill_17_10 fu) (nI p) (nI l) x (nI (12 * p)) (nI (12 * p + k)) A = some (eo (hwM P D T p l d (k + 1)), A) := by
          unfold f_X6_heirByWill_17_91
          rw [nm_x, nI_1, Nat.add_assoc]
          exact next
        have n68 : f_X6_heirByWill_17_68 (f_X6_heirByWill_17_10 fu) (nI p) (nI l) x (nI (12 * p)) (nI (12 * p + k)) A = if liv P D (tWt T (12 * p + k)) = true then some (nI (tWt T (12 * p + k)), A) else some (eo (hwM P D T p l d (k + 1)), A) := by
          unfold f_X6_heirByWill_17_68
          rw [gd_t (by omega) (by omega), gd_t (by omega) (by omega), ix_nI (by omega), r2, nx]
          by_cases z : liv P D (tWt T (12 * p + k)) = true
          · rw [if_pos ((tb_1 (by omega)).mpr (by rw [hx _ (by omega)]; exact z)), if_pos z]
          · rw [if_neg (fun e => z (by have := (tb_1 (by omega)).mp e; rw [hx _ (by omega)] at this; exact this)), if_neg z]
        show f_X6_heirByWill_17_10b (f_X6_heirByWill_17_10 fu) (nI p) (nI l) x (nI (12 * p)) (nI (12 * p + k)) A = _
        unfold f_X6_heirByWill_17_10b hwM
        rw [gd_t (by omega) (by omega), ix_nI (by omega), q1, nI_add, if_neg (nI_ge_f (by omega) (by omega)), gd_t (by omega) (by omega), gd_t (by omega) (by omega), ix_nI (by omega), r1, nm_x, r3, nx, n68]
        by_cases z1 : bt (tWr T (12 * p + k)) l = true
        · rw [if_neg (fun e => by rw [tb_0 (by omega), z1] at e; cases e)]
          by_cases z2 : tWi T (12 * p + k) = 0
          · rw [if_pos ((eo_m1 (by omega)).mpr z2)]
            by_cases z3 : liv P D (tWt T (12 * p + k)) = true
            · rw [if_pos z3, if_pos ⟨z1, z3, Or.inl z2⟩, eo_s]
            · rw [if_neg z3, if_neg (fun e => z3 e.2.1)]
          · rw [if_neg (by rw [eo_m1 (by omega)]; exact z2), show eo (tWi T (12 * p + k)) = nI (tWi T (12 * p + k) - 1) from (eo_nI (by omega) (by omega)).mpr (by omega)]
            by_cases z4 : liv P D (tWi T (12 * p + k) - 1) = true
            · rw [if_neg (fun e => by rw [tb_0 (by omega), hx _ (by omega), z4] at e; cases e)]
              by_cases z3 : liv P D (tWt T (12 * p + k)) = true
              · rw [if_pos z3, if_pos ⟨z1, z3, Or.inr z4⟩, eo_s]
              · rw [if_neg z3, if_neg (fun e => z3 e.2.1)]
            · rw [if_pos ((tb_0 (by omega)).mpr (by rw [hx _ (by omega)]; simpa using z4)), if_neg (fun e => e.2.2.elim z2 z4)]
        · rw [if_pos ((tb_0 (by omega)).mpr (by simpa using z1)), if_neg (fun e => z1 e.1)]
  have := key (tWm T p) 0 FU (by omega) (by unfold FU; omega)
  rw [Nat.add_zero] at this
  exact this
theorem F_heirByWill {B : Mm} (hW : RW (B 240) P D) (hT : RTF B T) (hN : pN P ≤ 12) (hw : WFT (pN P) T) {p l : Nat} (hp : p < pN P) (hl : l < 28) : f_X11_heirByWill (nI p) (nI l) B = some (eo (heirW P D T p l), B) := by
  have m := hw.2.2.1 p (by omega)
  obtain ⟨q1, q2⟩ := hT.2.2.2.1 p (by omega)
  have m12 : (12 : Int32) * nI p = nI (12 * p) := by rw [nI_lit 12, pk_mul]
  unfold f_X11_heirByWill
  rw [nm_x, m12]
  have key : ∀ (d k fuel : Nat), k + d = tWm T p → d < fuel → f_X11_heirByWill_5 fuel (nI p) (nI l) (nI (12 * p + k)) B = some (eo (hwM P D T p l d k), B) := by
    intro d
    induction d with
    | zero =>
      intro k fuel h1 h2
      cases fuel with
      | zero => omega
      | succ fu =>
        show f_X11_heirByWill_5b (f_X11_heirByWill_5 fu) (nI p) (nI l) (nI (12 * p + k)) B = _
        unfold f_X11_heirByWill_5b
        rw [gd_t (by omega) (by omega), ix_nI (by omega), q1, m12, nI_add, if_pos (nI_ge_t (by omega) (by omega))]
        rfl
    | succ d ih =>
      intro k fuel h1 h2
      cases fuel with
      | zero => omega
      | succ fu =>
        obtain ⟨r1, r2, r3⟩ := q2 k (by omega)
        obtain ⟨w1, w2, -, -⟩ := m.2.2 k (by omega)
        have next := ih (k + 1) fu (by omega) (by omega)
        have n0 : f_X11_heirByWill_76 (f_X11_heirByWill_5 fu) (nI p) (nI l) (nI (12 * p + k)) 0 B = some (eo (hwM P D T p l d (k + 1)), B) := by
          unfold f_X11_heirByWill_76
          rw [if_pos rfl, nm_x, nI_1, Nat.add_assoc]
          exact next
        have n1 : f_X11_heirByWill_76 (f_X11_heirByWill_5 fu) (nI p) (nI l) (nI (12 * p + k)) 1 B = some (nI (tWt T (12 * p + k)), B) := by
          unfold f_X11_heirByWill_76
          rw [if_neg (by decide), gd_t (by omega) (by omega), ix_nI (by omega), r2]
        show f_X11_heirByWill_5b (f_X11_heirByWill_5 fu) (nI p) (nI l) (nI (12 * p + k)) B = _
        unfold f_X11_heirByWill_5b hwM f_X11_heirByWill_75 f_X11_heirByWill_71
        rw [gd_t (by omega) (by omega), ix_nI (by omega), q1, m12, nI_add, if_neg (nI_ge_f (by omega) (by omega)), gd_t (by omega) (by omega), gd_t (by omega) (by omega), ix_nI (by omega), r1, r2, F_doesLive hW hN w1]
        simp only [bind_x]
        rw [gd_t (by omega) (by omega), gd_t (by omega) (by omega), r3, n0, n1]
        by_cases z1 : bt (tWr T (12 * p + k)) l = true
        · rw [if_pos ((tb_1 (by omega)).mpr z1)]
          by_cases z3 : liv P D (tWt T (12 * p + k)) = true
          · rw [if_pos z3, if_neg (by decide)]
            by_cases z2 : tWi T (12 * p + k) = 0
            · rw [if_pos (by rw [z2]; rfl), if_pos ⟨z1, z3, Or.inl z2⟩, eo_s]
            · rw [if_neg (fun e => z2 ((nI_0iff (by omega)).mp e)), nI_eo, show eo (tWi T (12 * p + k)) = nI (tWi T (12 * p + k) - 1) from (eo_nI (by omega) (by omega)).mpr (by omega), F_doesLive hW hN (by omega)]
              simp only [bind_x]
              rw [n0, n1]
              by_cases z4 : liv P D (tWi T (12 * p + k) - 1) = true
              · rw [if_pos z4, if_neg (by decide), if_pos ⟨z1, z3, Or.inr z4⟩, eo_s]
              · rw [if_neg z4, if_pos rfl, if_neg (fun e => e.2.2.elim z2 z4)]
          · rw [if_neg z3, if_pos rfl, if_neg (fun e => z3 e.2.1)]
        · rw [if_neg (fun e => z1 ((tb_1 (by omega)).mp e)), if_neg (fun e => z1 e.1)]
  have := key (tWm T p) 0 FU (by omega) (by unfold FU; omega)
  rw [Nat.add_zero] at this
  exact this
theorem C_heirOf {A : Mm} {c : Nat} (hc : isClan c) (h : RK (fun j => A (c + j)) P D) (hT : RTK (fun j => A (17 + j)) T) (hP : WFP P) (hw : WFT (pN P) T) {p l : Nat} (hp : p < pN P) (hl : l < 28) (hsp : dSp D p ≤ pN P) : ∃ f g, f_X3_heirOf_18 c (nI p) (nI l) A = some (eo (heirL P D T p l), md A f g) := by
  have hN := hP.1
  have key : ∀ (d q fuel : Nat) (b : Nat) (m : Int32) (f g : Nat → Int32), q + d = pN P → d < fuel → b ≤ pN P → ∃ f' g', f_X3_heirOf_18_9 c fuel (nI p) (nI l) (eo b) m (nI q) (md A f g) = some (eo (hlM P D T p l d q b m), md A f' g') := by
    intro d
    induction d with
    | zero =>
      intro q fuel b m f g h1 h2 hb
      cases fuel with
      | zero => omega
      | succ fu =>
        refine ⟨f, g, ?_⟩
        show f_X3_heirOf_18_9b (f_X3_heirOf_18_9 c fu) c (nI p) (nI l) (eo b) m (nI q) (md A f g) = _
        unfold f_X3_heirOf_18_9b
        rw [show md A f g c 3 = nI (pN P) from (RK_md (f := f) (g := g) hc h).1.2.2.2, if_pos (nI_ge_t (by omega) (by omega))]
        rfl
    | succ d ih =>
      intro q fuel b m f g h1 h2 hb
      cases fuel with
      | zero => omega
      | succ fu =>
        have hk := RK_md (f := f) (g := g) hc h
        show ∃ f' g', f_X3_heirOf_18_9b (f_X3_heirOf_18_9 c fu) c (nI p) (nI l) (eo b) m (nI q) (md A f g) = _
        unfold f_X3_heirOf_18_9b hlM f_X3_heirOf_18_56
        rw [show md A f g c 3 = nI (pN P) from hk.1.2.2.2, if_neg (nI_ge_f (by omega) (by omega)), C_lives hk hN (by omega)]
        simp only [bind_x]
        by_cases v : liv P D q = true
        · obtain ⟨f1, g1, e⟩ := C_worth hc hk (RTK_md hT) hP hw hp (q := q) (by omega) hl hsp
          have e : f_X3_worthOf_18 c (nI p) (nI q) (nI l) (md A f g) = some (worthM P D T p q l, md A f1 g1) := by rw [e]; exact congrArg (fun z => some (worthM P D T p q l, z)) (md_md A f g f1 g1)
          rw [if_pos v, if_neg (by decide), e]
          simp only [bind_x]
          rw [nm_x, nm_x, nI_1]
          by_cases z : worthM P D T p q l ≤ m
          · rw [if_pos z, if_neg (fun e => e.2 z)]
            exact ih (q + 1) fu b m f1 g1 (by omega) (by omega) hb
          · rw [if_neg z, if_pos ⟨v, z⟩]
            have := ih (q + 1) fu (q + 1) (worthM P D T p q l) f1 g1 (by omega) (by omega) (by omega)
            rw [eo_s] at this
            exact this
        · rw [if_neg v, if_pos rfl, if_neg (fun e => v e.1), nm_x, nI_1]
          exact ih (q + 1) fu b m f g (by omega) (by omega) hb
  obtain ⟨f, g, e⟩ := key (pN P) 0 FU 0 0 (A 23) (A 24) (by omega) (by unfold FU; omega) (Nat.zero_le _)
  rw [md_id] at e
  exact ⟨f, g, e⟩
theorem F_heirByLaw {B : Mm} (h : RB B P D) (hT : RTF B T) (hP : WFP P) (hw : WFT (pN P) T) {p l : Nat} (hp : p < pN P) (hl : l < 28) (hsp : dSp D p ≤ pN P) : ∃ f g, f_X11_heirByLaw (nI p) (nI l) B = some (eo (heirL P D T p l), mf B f g) := by
  have hN := hP.1
  have key : ∀ (d q fuel : Nat) (b : Nat) (m : Int32) (f g : Nat → Int32), q + d = pN P → d < fuel → b ≤ pN P → ∃ f' g', f_X11_heirByLaw_8 fuel (nI p) (nI l) (eo b) m (nI q) (mf B f g) = some (eo (hlM P D T p l d q b m), mf B f' g') := by
    intro d
    induction d with
    | zero =>
      intro q fuel b m f g h1 h2 hb
      cases fuel with
      | zero => omega
      | succ fu =>
        refine ⟨f, g, ?_⟩
        show f_X11_heirByLaw_8b (f_X11_heirByLaw_8 fu) (nI p) (nI l) (eo b) m (nI q) (mf B f g) = _
        unfold f_X11_heirByLaw_8b
        rw [show mf B f g 239 6 = nI (pN P) from (RB_mf (f := f) (g := g) h).1.1.1, if_pos (nI_ge_t (by omega) (by omega))]
        rfl
    | succ d ih =>
      intro q fuel b m f g h1 h2 hb
      cases fuel with
      | zero => omega
      | succ fu =>
        have hk := RB_mf (f := f) (g := g) h
        show ∃ f' g', f_X11_heirByLaw_8b (f_X11_heirByLaw_8 fu) (nI p) (nI l) (eo b) m (nI q) (mf B f g) = _
        unfold f_X11_heirByLaw_8b hlM f_X11_heirByLaw_52 f_X11_heirByLaw_67 f_X11_heirByLaw_69
        rw [show mf B f g 239 6 = nI (pN P) from hk.1.1.1, if_neg (nI_ge_f (by omega) (by omega)), F_doesLive hk.2.1 hN (by omega)]
        simp only [bind_x]
        by_cases v : liv P D q = true
        · obtain ⟨f1, g1, e⟩ := F_worth hk (RTF_mf hT) hP hw hp (q := q) (by omega) hl hsp
          have e : f_X11_worthOf (nI p) (nI q) (nI l) (mf B f g) = some (worthM P D T p q l, mf B f1 g1) := by rw [e]; exact congrArg (fun z => some (worthM P D T p q l, z)) (mf_mf B f g f1 g1)
          rw [if_pos v, if_neg (by decide), e]
          simp only [bind_x, nm_x]
          rw [nI_1]
          by_cases z : worthM P D T p q l ≤ m
          · rw [if_pos z, if_pos z, if_neg (fun e : liv P D q = true ∧ ¬ worthM P D T p q l ≤ m => e.2 z)]
            exact ih (q + 1) fu b m f1 g1 (by omega) (by omega) hb
          · rw [if_neg z, if_neg z, if_pos (show liv P D q = true ∧ ¬ worthM P D T p q l ≤ m from ⟨v, z⟩)]
            obtain ⟨f2, g2, e2⟩ := ih (q + 1) fu (q + 1) (worthM P D T p q l) f1 g1 (by omega) (by omega) (by omega)
            rw [eo_s] at e2
            exact ⟨f2, g2, e2⟩
        · rw [if_neg v, if_pos rfl, if_neg (fun e => v e.1), nm_x, nI_1]
          exact ih (q + 1) fu b m f g (by omega) (by omega) hb
  obtain ⟨f, g, e⟩ := key (pN P) 0 FU 0 0 (B 265) (B 266) (by omega) (by unfold FU; omega) (Nat.zero_le _)
  rw [mf_id] at e
  exact ⟨f, g, e⟩
end HEIR
