/-! ===== the tape cut into tokens: the class ===== -/
def sgs (r0 : Nat) : List Nat := sgN (tw r0 + 1)
def wds (r0 : Nat) : List (List Nat) := if r0 = 194 then lawW else wilW
def wE (n : Nat) (b : Nat → Nat) (s : Nat) : Nat := rn (fun i => isW (b i)) (n - s) s
def dE (n : Nat) (b : Nat → Nat) (s : Nat) : Nat := rn (fun i => isD (b i)) (n - s) s
def qE (n : Nat) (b : Nat → Nat) (s : Nat) : Nat := rn (fun i => !decide (b i = 34)) (n - s) s
def sk (n : Nat) (b : Nat → Nat) (p : Nat) : Nat := rn (fun i => isB (b i)) (n - p) p
def nvF (b : Nat → Nat) (s : Nat) : Nat → Nat
  | 0 => 0
  | j + 1 => if j < 4 then nvF b s j * 10 + (b (s + j) - 48) else nvF b s j
def isR (r0 c : Nat) : Bool := decide (c = 34) && (sgs r0).contains 34
def tEn (n : Nat) (b : Nat → Nat) (r0 s : Nat) : Nat := if isW (b s) = true then wE n b s else if isD (b s) = true then dE n b s else if isR r0 (b s) = true then qE n b (s + 1) + 1 else s + 1
def tW (n : Nat) (b : Nat → Nat) (r0 s : Nat) : Int32 := fnd (fun w => decide (wl b s (wE n b s) = w)) 0 (wds r0)
def tK (n : Nat) (b : Nat → Nat) (r0 s : Nat) : Int32 := if isW (b s) = true then (if tW n b r0 s = -1 then 4 else 1) else if isD (b s) = true then (if dE n b s - s ≤ 4 then 2 else 4) else if (sgs r0).contains (b s) = true then 3 else 4
def tV (n : Nat) (b : Nat → Nat) (r0 s : Nat) : Int32 := if isW (b s) = true then tW n b r0 s else if isD (b s) = true then nI (nvF b s (dE n b s - s)) else nI (b s)
def TP (A : Mm) (n : Nat) (b : Nat → Nat) : Prop := A 184 1 = nI n ∧ ∀ i, i < n → A 185 i = nI (b i)
def WB (n : Nat) (b : Nat → Nat) : Prop := n ≤ 400 ∧ ∀ i, i < n → b i < 256
def isT (r0 : Nat) : Prop := r0 = 194 ∨ r0 = 202
def kpM (r0 : Nat) (A : Mm) (c : Nat) (k v : Int32) (p : Nat) : Mm := uM (uM (uM (uM A (r0 + 1) c k) (r0 + 2) c v) (r0 + 3) c (nI p)) r0 6 (nI (c + 1))
section CUT
variable {A : Mm} {n r0 : Nat} {b : Nat → Nat}
theorem C_keepT {c : Nat} (h : A r0 6 = nI c) (hc : c < 401) (k v : Int32) (p : Nat) : f_X8_keep r0 k v (nI p) A = some (kpM r0 A c k v p) := by
  unfold f_X8_keep kpM
  simp (disch := omega) only [nm_x, uM_off, h]
  rw [if_pos (show nI c < 401 from (nI_ltI (a := c) (b := 401) (by omega) (by omega)).mpr hc)]
  simp (disch := omega) only [gd_t, ix_nI, nI_1]
theorem kpM_off {c : Nat} {k v : Int32} {p j : Nat} (h : j < r0 ∨ r0 + 4 ≤ j) : kpM r0 A c k v p j = A j := by
  unfold kpM
  rw [uM_off _ _ _ (by omega), uM_off _ _ _ (by omega), uM_off _ _ _ (by omega), uM_off _ _ _ (by omega)]
theorem TP.kp (h : TP A n b) (hr : isT r0) {c : Nat} {k v : Int32} {p : Nat} : TP (kpM r0 A c k v p) n b := by
  have : r0 = 194 ∨ r0 = 202 := hr
  unfold TP at h ⊢
  rw [kpM_off (by omega), kpM_off (by omega)]
  exact h
theorem C_cutWord {c s : Nat} (hr : isT r0) (h : TP A n b) (w : WB n b) (h6 : A r0 6 = nI c) (hc : c < 401) (hs : s < n) (hw : isW (b s) = true) : f_X8_cutWord r0 (nI s) A = some (nI (tEn n b r0 s), kpM r0 A c (tK n b r0 s) (tV n b r0 s) s) := by
  obtain ⟨h1, h2⟩ := h
  obtain ⟨w1, w2⟩ := w
  have key : ∀ (d x fuel : Nat), x + d = n → d < fuel → f_X8_cutWord_2 r0 fuel (nI s) (nI x) A = f_X8_cutWord_34 r0 (nI s) (nI (rn (fun i => isW (b i)) d x)) A := by
    intro d
    induction d with
    | zero =>
      intro x fuel e1 e2
      cases fuel with
      | zero => omega
      | succ fu =>
        show f_X8_cutWord_2b (f_X8_cutWord_2 r0 fu) r0 (nI s) (nI x) A = _
        unfold f_X8_cutWord_2b
        rw [h1, if_pos (nI_ge_t (by omega) (by omega))]
        rfl
    | succ d ih =>
      intro x fuel e1 e2
      cases fuel with
      | zero => omega
      | succ fu =>
        show f_X8_cutWord_2b (f_X8_cutWord_2 r0 fu) r0 (nI s) (nI x) A = _
        unfold f_X8_cutWord_2b
        rw [h1, if_neg (nI_ge_f (by omega) (by omega)), gd_t (by omega) (by omega), ix_nI (by omega), h2 x (by omega), C_isOfWord A (w2 x (by omega))]
        simp only [bind_x]
        unfold rn
        by_cases z : isW (b x) = true
        · rw [if_pos z, if_neg (of_eq_false i10), nm_x, nI_1, if_pos z]
          exact ih (x + 1) fu (by omega) (by omega)
        · rw [if_neg z, if_pos rfl, if_neg z]
  have k := key (n - s) s FU (by omega) (by unfold FU; omega)
  have ge := rn_ge (fun i => isW (b i)) (n - s) s
  have ee : tEn n b r0 s = wE n b s := if_pos hw
  have ek : tK n b r0 s = if tW n b r0 s = -1 then 4 else 1 := if_pos hw
  have ev : tV n b r0 s = tW n b r0 s := if_pos hw
  unfold f_X8_cutWord
  rw [k]
  show f_X8_cutWord_34 r0 (nI s) (nI (wE n b s)) A = _
  have le1 : s ≤ wE n b s := ge.1
  have le2 : wE n b s ≤ n := by have := ge.2; unfold wE; omega
  have wa := C_wordAt (A := A) (r0 := r0) (n := n) (b := b) hr h2 w1 le1 le2
  have wb : fnd (smB (tw r0) b s (wE n b s)) 0 (sgL (tw r0)) = tW n b r0 s := by
    unfold tW wds
    rcases hr with rfl | rfl
    · exact sm_wl sg_law (fun i _ hi => w2 i (by omega)) 0
    · exact sm_wl sg_wil (fun i _ hi => w2 i (by omega)) 0
  rw [wb] at wa
  unfold f_X8_cutWord_34 f_X8_cutWord_52
  rw [wa, ee, ek, ev]
  simp only [bind_x]
  by_cases z : tW n b r0 s = -1
  · rw [if_pos z, if_pos z, C_keepT h6 hc]
    rfl
  · rw [if_neg z, if_neg z, C_keepT h6 hc]
    rfl
theorem nvF_le (w : WB n b) (s : Nat) : ∀ j, s + j ≤ n → (∀ i, i < j → isD (b (s + i)) = true) → nvF b s j < 10000 ∧ (j ≤ 4 → nvF b s j < 10 ^ j) := by
  intro j
  induction j with
  | zero => intro _ _; exact ⟨by show 0 < 10000; omega, fun _ => by show 0 < 10 ^ 0; omega⟩
  | succ j ih =>
    intro h1 h2
    obtain ⟨a1, a2⟩ := ih (by omega) fun i hi => h2 i (by omega)
    have dj := h2 j (by omega)
    unfold isD at dj
    have dj := of_decide_eq_true dj
    unfold nvF
    by_cases c : j < 4
    · rw [if_pos c]
      have a3 := a2 (by omega)
      have p : (10 : Nat) ^ (j + 1) = 10 ^ j * 10 := Nat.pow_succ ..
      have q : (10 : Nat) ^ (j + 1) ≤ 10 ^ 4 := Nat.pow_le_pow_right (by omega) (by omega)
      have q4 : (10 : Nat) ^ 4 = 10000 := by decide
      omega
    · rw [if_neg c]
      exact ⟨a1, fun z => by omega⟩
theorem C_cutNumber {c s : Nat} (hr : isT r0) (h : TP A n b) (w : WB n b) (h6 : A r0 6 = nI c) (hc : c < 401) (hs : s < n) (hw : isW (b s) = false) (hd : isD (b s) = true) : f_X8_cutNumber r0 (nI s) A = some (nI (tEn n b r0 s), kpM r0 A c (tK n b r0 s) (tV n b r0 s) s) := by
  have w0 := w
  obtain ⟨h1, h2⟩ := h
  obtain ⟨w1, w2⟩ := w
  have key : ∀ (d x fuel : Nat), x + d = n → s ≤ x → d < fuel → (∀ i, i < x - s → isD (b (s + i)) = true) → f_X8_cutNumber_4 r0 fuel (nI s) (nI x) (nI (nvF b s (x - s))) A = f_X8_cutNumber_61 r0 (nI s) (nI (rn (fun i => isD (b i)) d x)) (nI (nvF b s (rn (fun i => isD (b i)) d x - s))) A := by
    intro d
    induction d with
    | zero =>
      intro x fuel e1 e3 e2 hj
      cases fuel with
      | zero => omega
      | succ fu =>
        show f_X8_cutNumber_4b (f_X8_cutNumber_4 r0 fu) r0 (nI s) (nI x) _ A = _
        unfold f_X8_cutNumber_4b
        rw [h1, if_pos (nI_ge_t (by omega) (by omega))]
        rfl
    | succ d ih =>
      intro x fuel e1 e3 e2 hj
      cases fuel with
      | zero => omega
      | succ fu =>
        show f_X8_cutNumber_4b (f_X8_cutNumber_4 r0 fu) r0 (nI s) (nI x) _ A = _
        unfold f_X8_cutNumber_4b f_X8_cutNumber_55
        rw [h1, if_neg (nI_ge_f (by omega) (by omega)), gd_t (by omega) (by omega), ix_nI (by omega), h2 x (by omega), C_isDigit A (w2 x (by omega))]
        simp only [bind_x]
        unfold rn
        by_cases z : isD (b x) = true
        · rw [if_pos z, if_neg (of_eq_false i10), if_pos z, pk_sub (by omega)]
          have hj2 : ∀ i, i < x + 1 - s → isD (b (s + i)) = true := fun i hi => by
            by_cases q : i = x - s
            · rw [q, show s + (x - s) = x by omega]; exact z
            · exact hj i (by omega)
          have nx := ih (x + 1) fu (by omega) (by omega) (by omega) hj2
          have se : nvF b s (x + 1 - s) = if x - s < 4 then nvF b s (x - s) * 10 + (b x - 48) else nvF b s (x - s) := by
            rw [show x + 1 - s = (x - s) + 1 by omega]
            show (if x - s < 4 then nvF b s (x - s) * 10 + (b (s + (x - s)) - 48) else nvF b s (x - s)) = _
            rw [show s + (x - s) = x by omega]
          rw [se] at nx
          by_cases f : x - s < 4
          · rw [if_neg (show ¬ (4 : Int32) ≤ nI (x - s) from nI_ge_f (a := 4) (by omega) (by omega)), gd_t (by omega) (by omega), nm_x, h2 x (by omega), nm_x, nI_1]
            rw [if_pos f] at nx
            have lt := (nvF_le w0 s (x - s) (by omega) hj).1
            have dj := z
            unfold isD at dj
            have dj := of_decide_eq_true dj
            have := w2 x (by omega)
            have v : nI (nvF b s (x - s)) * 10 + nI (b x) - 48 = nI (nvF b s (x - s) * 10 + (b x - 48)) := by
              rw [nI_lit 10, pk_mul, nI_add, nI_lit 48, pk_sub (by omega)]
              congr 1
              omega
            rw [v]
            exact nx
          · rw [if_pos (show (4 : Int32) ≤ nI (x - s) from nI_ge_t (a := 4) (by omega) (by omega)), nm_x, nI_1]
            rw [if_neg f] at nx
            exact nx
        · rw [if_neg z, if_pos rfl, if_neg z]
  have k := key (n - s) s FU (by omega) (Nat.le_refl _) (by unfold FU; omega) (fun i hi => absurd hi (by omega))
  rw [Nat.sub_self] at k
  have ge := rn_ge (fun i => isD (b i)) (n - s) s
  have nw : ¬ isW (b s) = true := by rw [hw]; decide
  have ee : tEn n b r0 s = dE n b s := by unfold tEn; rw [if_neg nw, if_pos hd]
  have ek : tK n b r0 s = if dE n b s - s ≤ 4 then 2 else 4 := by unfold tK; rw [if_neg nw, if_pos hd]
  have ev : tV n b r0 s = nI (nvF b s (dE n b s - s)) := by unfold tV; rw [if_neg nw, if_pos hd]
  have le1 : s ≤ dE n b s := ge.1
  have le2 : dE n b s ≤ n := by have := ge.2; unfold dE; omega
  unfold f_X8_cutNumber
  show f_X8_cutNumber_4 r0 FU (nI s) (nI s) (nI (nvF b s 0)) A = _
  rw [k]
  show f_X8_cutNumber_61 r0 (nI s) (nI (dE n b s)) (nI (nvF b s (dE n b s - s))) A = _
  unfold f_X8_cutNumber_61 f_X8_cutNumber_74
  rw [pk_sub le1, ee, ek, ev]
  by_cases z : dE n b s - s ≤ 4
  · rw [if_pos (show nI (dE n b s - s) ≤ 4 from nI_ge_t (b := 4) z (by omega)), if_pos z, C_keepT h6 hc]
    rfl
  · rw [if_neg (show ¬ nI (dE n b s - s) ≤ 4 from nI_ge_f (b := 4) (by omega) (by omega)), if_neg z, C_keepT h6 hc]
    rfl
end CUT
