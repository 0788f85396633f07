/-! ===== the three loops over the table ===== -/
def fwS (m a b : Nat) (M : Nat → Nat → Nat) : Nat → Nat → Nat := if M a m + M m b < M a b then um M a b (M a m + M m b) else M
def fwA (n m : Nat) (a : Nat) (M : Nat → Nat → Nat) : Nat → Nat → Nat := ff (fwS m a) 0 n M
def fwM (n : Nat) (m : Nat) (M : Nat → Nat → Nat) : Nat → Nat → Nat := ff (fwA n m) 0 n M
def L99 (M : Nat → Nat → Nat) : Prop := ∀ a b, M a b ≤ 99
theorem fwS_le (m a b : Nat) (M : Nat → Nat → Nat) (x y : Nat) : fwS m a b M x y ≤ M x y := by
  unfold fwS
  split
  · unfold um
    split
    · rename_i h1 h2; rw [h2.1, h2.2]; omega
    · exact Nat.le_refl _
  · exact Nat.le_refl _
theorem ff_dec {step : Nat → (Nat → Nat → Nat) → Nat → Nat → Nat} (h : ∀ i M x y, step i M x y ≤ M x y) (d lo : Nat) (M : Nat → Nat → Nat) (x y : Nat) : ff step lo d M x y ≤ M x y := by
  have := ff_ind (step := step) (fun _ M' => ∀ x y, M' x y ≤ M x y) d lo M (fun _ _ => Nat.le_refl _) (fun i s _ _ hs x y => Nat.le_trans (h i s x y) (hs x y))
  exact this x y
theorem fwA_le (n m a : Nat) (M : Nat → Nat → Nat) (x y : Nat) : fwA n m a M x y ≤ M x y := ff_dec (fwS_le m a) n 0 M x y
theorem fwM_le (n m : Nat) (M : Nat → Nat → Nat) (x y : Nat) : fwM n m M x y ≤ M x y := ff_dec (fwA_le n m) n 0 M x y
theorem L99.le {M M' : Nat → Nat → Nat} (h : L99 M) (h2 : ∀ x y, M' x y ≤ M x y) : L99 M' := fun a b => Nat.le_trans (h2 a b) (h a b)
theorem F_fw112 {B : Mm} {P : PP} (hS : RS B P) (hN : pN P ≤ 12) (k92 : Int32 → Mm → Option Mm) (k102 : Int32 → Int32 → Mm → Option Mm) {m a : Nat} (hm : m < pN P) (ha : a < pN P) : ∀ (d lo fuel : Nat) (s : Nat → Int32) (M : Nat → Nat → Nat), lo + d = pN P → d < fuel → Mat s M → L99 M → ∃ s', f_X11_findsKin_112 k92 k102 fuel (nI m) (nI a) (nI lo) (rM B 249 s) = k102 (nI m) (nI (a + 1)) (rM B 249 s') ∧ Mat s' (ff (fwS m a) lo d M) := by
  intro d
  induction d with
  | zero =>
    intro lo fuel s M h1 h2 hs hM
    cases fuel with
    | zero => omega
    | succ f =>
      refine ⟨s, ?_, hs⟩
      show f_X11_findsKin_112b k92 k102 (f_X11_findsKin_112 k92 k102 f) (nI m) (nI a) (nI lo) (rM B 249 s) = _
      simp only [f_X11_findsKin_112b, nm]
      rw [rM_off _ _ (by decide), hS.1.1, if_pos (by rw [nI_leI (by omega) (by omega)]; omega), nI_1]
  | succ d ih =>
    intro lo fuel s M h1 h2 hs hM
    cases fuel with
    | zero => omega
    | succ f =>
      have e1 := hs a m (by omega) (by omega)
      have e2 := hs m lo (by omega) (by omega)
      have e3 := hs a lo (by omega) (by omega)
      have l1 := hM a m
      have l2 := hM m lo
      have l3 := hM a lo
      have step : ∃ s1, f_X11_findsKin_112 k92 k102 (f + 1) (nI m) (nI a) (nI lo) (rM B 249 s) = f_X11_findsKin_112 k92 k102 f (nI m) (nI a) (nI (lo + 1)) (rM B 249 s1) ∧ Mat s1 (fwS m a lo M) := by
        have key : f_X11_findsKin_112 k92 k102 (f + 1) (nI m) (nI a) (nI lo) (rM B 249 s) = f_X11_findsKin_112b k92 k102 (f_X11_findsKin_112 k92 k102 f) (nI m) (nI a) (nI lo) (rM B 249 s) := rfl
        rw [key]
        simp only [f_X11_findsKin_112b, f_X11_findsKin_174, nm]
        rw [rM_off _ _ (by decide), hS.1.1, if_neg (by rw [nI_leI (by omega) (by omega)]; omega), nI_lit 12, ix_ab (by omega) (by omega), ix_ab (by omega) (by omega), ix_ab (by omega) (by omega), gd_pos ((inB_nI (by omega)).mpr (by omega)), gd_pos ((inB_nI (by omega)).mpr (by omega)), gd_pos ((inB_nI (by omega)).mpr (by omega)), ix_nI (by omega), ix_nI (by omega), ix_nI (by omega), rM_same, e1, e2, e3, nI_add, nI_1]
        unfold fwS
        by_cases c : M a m + M m lo < M a lo
        · rw [if_neg (by rw [nI_leI (by omega) (by omega)]; omega), if_pos c, gd_pos ((inB_nI (by omega)).mpr (by omega)), uM_rMs]
          exact ⟨_, rfl, hs.upd (by omega) (by omega)⟩
        · rw [if_pos (by rw [nI_leI (by omega) (by omega)]; omega), if_neg c]
          exact ⟨_, rfl, hs⟩
      obtain ⟨s1, g1, g2⟩ := step
      rw [g1]
      exact ih (lo + 1) f s1 _ (by omega) (by omega) g2 (hM.le (fwS_le m a lo M))
theorem F_fw102 {B : Mm} {P : PP} (hS : RS B P) (hN : pN P ≤ 12) (k92 : Int32 → Mm → Option Mm) {m : Nat} (hm : m < pN P) : ∀ (d lo fuel : Nat) (s : Nat → Int32) (M : Nat → Nat → Nat), lo + d = pN P → d < fuel → Mat s M → L99 M → ∃ s', f_X11_findsKin_102 k92 fuel (nI m) (nI lo) (rM B 249 s) = k92 (nI (m + 1)) (rM B 249 s') ∧ Mat s' (ff (fwA (pN P) m) lo d M) := by
  intro d
  induction d with
  | zero =>
    intro lo fuel s M h1 h2 hs hM
    cases fuel with
    | zero => omega
    | succ f =>
      refine ⟨s, ?_, hs⟩
      show f_X11_findsKin_102b k92 (f_X11_findsKin_102 k92 f) (nI m) (nI lo) (rM B 249 s) = _
      simp only [f_X11_findsKin_102b, nm]
      rw [rM_off _ _ (by decide), hS.1.1, if_pos (by rw [nI_leI (by omega) (by omega)]; omega), nI_1]
  | succ d ih =>
    intro lo fuel s M h1 h2 hs hM
    cases fuel with
    | zero => omega
    | succ f =>
      obtain ⟨s1, g1, g2⟩ := F_fw112 hS hN k92 (f_X11_findsKin_102 k92 f) hm (a := lo) (by omega) (pN P) 0 FU s M (by omega) (by unfold FU; omega) hs hM
      have step : f_X11_findsKin_102 k92 (f + 1) (nI m) (nI lo) (rM B 249 s) = f_X11_findsKin_102 k92 f (nI m) (nI (lo + 1)) (rM B 249 s1) := by
        rw [← g1]
        show f_X11_findsKin_102b k92 (f_X11_findsKin_102 k92 f) (nI m) (nI lo) (rM B 249 s) = _
        simp only [f_X11_findsKin_102b, nm]
        rw [rM_off _ _ (by decide), hS.1.1, if_neg (by rw [nI_leI (by omega) (by omega)]; omega)]
        rfl
      rw [step]
      exact ih (lo + 1) f s1 _ (by omega) (by omega) g2 (hM.le (fwA_le (pN P) m lo M))
theorem F_fw92 {B : Mm} {P : PP} (hS : RS B P) (hN : pN P ≤ 12) : ∀ (d lo fuel : Nat) (s : Nat → Int32) (M : Nat → Nat → Nat), lo + d = pN P → d < fuel → Mat s M → L99 M → ∃ s', f_X11_findsKin_92 fuel (nI lo) (rM B 249 s) = some (rM B 249 s') ∧ Mat s' (ff (fwM (pN P)) lo d M) := by
  intro d
  induction d with
  | zero =>
    intro lo fuel s M h1 h2 hs hM
    cases fuel with
    | zero => omega
    | succ f =>
      refine ⟨s, ?_, hs⟩
      show f_X11_findsKin_92b (f_X11_findsKin_92 f) (nI lo) (rM B 249 s) = _
      simp only [f_X11_findsKin_92b]
      rw [rM_off _ _ (by decide), hS.1.1, if_pos (by rw [nI_leI (by omega) (by omega)]; omega)]
  | succ d ih =>
    intro lo fuel s M h1 h2 hs hM
    cases fuel with
    | zero => omega
    | succ f =>
      obtain ⟨s1, g1, g2⟩ := F_fw102 hS hN (f_X11_findsKin_92 f) (m := lo) (by omega) (pN P) 0 FU s M (by omega) (by unfold FU; omega) hs hM
      have step : f_X11_findsKin_92 (f + 1) (nI lo) (rM B 249 s) = f_X11_findsKin_92 f (nI (lo + 1)) (rM B 249 s1) := by
        rw [← g1]
        show f_X11_findsKin_92b (f_X11_findsKin_92 f) (nI lo) (rM B 249 s) = _
        simp only [f_X11_findsKin_92b]
        rw [rM_off _ _ (by decide), hS.1.1, if_neg (by rw [nI_leI (by omega) (by omega)]; omega)]
        rfl
      rw [step]
      exact ih (lo + 1) f s1 _ (by omega) (by omega) g2 (hM.le (fwM_le (pN P) lo M))
/-! ===== what the loops find ===== -/
/-- a way of k steps whose inner people are below m -/
def Wm (P : PP) (D : DD) (m : Nat) : Nat → Nat → Nat → Prop
  | 0, a, b => a = b
  | k + 1, a, b => ∃ c, c < pN P ∧ adj P D a c = true ∧ ((k = 0 ∧ c = b) ∨ (c < m ∧ Wm P D m k c b))
theorem Wm_split {P : PP} {D : DD} {m : Nat} : ∀ (k : Nat) {a b : Nat}, Wm P D (m + 1) k a b → Wm P D m k a b ∨ ∃ k1 k2, k1 + k2 ≤ k ∧ Wm P D m k1 a m ∧ Wm P D m k2 m b := by
  intro k
  induction k with
  | zero => intro a b h; exact Or.inl h
  | succ k ih =>
    intro a b h
    obtain ⟨c, hc, e, h | ⟨h1, h2⟩⟩ := h
    · exact Or.inl ⟨c, hc, e, Or.inl h⟩
    · by_cases hcm : c = m
      · subst hcm
        have w1 : Wm P D c 1 a c := ⟨c, hc, e, Or.inl ⟨rfl, rfl⟩⟩
        rcases ih h2 with g | ⟨k1, k2, g1, g2, g3⟩
        · exact Or.inr ⟨1, k, by omega, w1, g⟩
        · exact Or.inr ⟨1, k2, by omega, w1, g3⟩
      · have hlt : c < m := by omega
        rcases ih h2 with g | ⟨k1, k2, g1, g2, g3⟩
        · exact Or.inl ⟨c, hc, e, Or.inr ⟨hlt, g⟩⟩
        · exact Or.inr ⟨k1 + 1, k2, by omega, ⟨c, hc, e, Or.inr ⟨hlt, g2⟩⟩, g3⟩
theorem Wm_snoc {P : PP} {D : DD} {b c : Nat} (hb : b < pN P) (hc : c < pN P) (e : adj P D c b = true) : ∀ (k : Nat) {a : Nat}, Wm P D (pN P) k a c → Wm P D (pN P) (k + 1) a b := by
  intro k
  induction k with
  | zero => intro a h; have h : a = c := h; subst h; exact ⟨b, hb, e, Or.inl ⟨rfl, rfl⟩⟩
  | succ k ih =>
    intro a h
    obtain ⟨x, hx, e1, h | ⟨h1, h2⟩⟩ := h
    · obtain ⟨rfl, rfl⟩ := h
      exact ⟨x, hx, e1, Or.inr ⟨hx, ⟨b, hb, e, Or.inl ⟨rfl, rfl⟩⟩⟩⟩
    · exact ⟨x, hx, e1, Or.inr ⟨hx, ih h2⟩⟩
theorem rch_Wm {P : PP} {D : DD} : ∀ (k : Nat) {a b : Nat}, b < pN P → rch P D k a b = true → ∃ k', k' ≤ k ∧ Wm P D (pN P) k' a b := by
  intro k
  induction k with
  | zero => intro a b _ h; have e : a = b := of_decide_eq_true h; exact ⟨0, Nat.le_refl _, e⟩
  | succ k ih =>
    intro a b hb h
    rcases rch_inv h with h | ⟨c, hc, h1, h2⟩
    · obtain ⟨k', h1, h2⟩ := ih hb h
      exact ⟨k', by omega, h2⟩
    · obtain ⟨k', h3, h4⟩ := ih hc h1
      exact ⟨k' + 1, by omega, Wm_snoc hb hc h2 k' h4⟩
def Snd (P : PP) (D : DD) (M : Nat → Nat → Nat) : Prop := ∀ a b, a < pN P → b < pN P → M a b < 99 → rch P D (M a b) a b = true
theorem fwS_snd {P : PP} {D : DD} {M : Nat → Nat → Nat} {m a b : Nat} (hm : m < pN P) (hl : L99 M) (h : Snd P D M) : Snd P D (fwS m a b M) := by
  intro x y hx hy
  unfold fwS
  by_cases c : M a m + M m b < M a b
  · rw [if_pos c]
    unfold um
    by_cases e : x = a ∧ y = b
    · rw [if_pos e]
      intro h1
      obtain ⟨rfl, rfl⟩ := e
      exact rch_trans hm _ (h x m hx hm (by omega)) (h m y hm hy (by omega))
    · rw [if_neg e]
      exact h x y hx hy
  · rw [if_neg c]
    exact h x y hx hy
theorem fwA_snd {P : PP} {D : DD} {M : Nat → Nat → Nat} {n m a : Nat} (hm : m < pN P) (hl : L99 M) (h : Snd P D M) : Snd P D (fwA n m a M) := by
  have := ff_ind (step := fwS m a) (fun _ M' => L99 M' ∧ Snd P D M') n 0 M ⟨hl, h⟩ (fun i s _ _ hs => ⟨hs.1.le (fwS_le m a i s), fwS_snd hm hs.1 hs.2⟩)
  exact this.2
theorem fwM_snd {P : PP} {D : DD} {M : Nat → Nat → Nat} {n m : Nat} (hm : m < pN P) (hl : L99 M) (h : Snd P D M) : Snd P D (fwM n m M) := by
  have := ff_ind (step := fwA n m) (fun _ M' => L99 M' ∧ Snd P D M') n 0 M ⟨hl, h⟩ (fun i s _ _ hs => ⟨hs.1.le (fwA_le n m i s), fwA_snd hm hs.1 hs.2⟩)
  exact this.2
theorem fwS_new (m a b : Nat) (M : Nat → Nat → Nat) : fwS m a b M a b ≤ M a m + M m b := by
  unfold fwS
  split
  · unfold um; rw [if_pos ⟨rfl, rfl⟩]; exact Nat.le_refl _
  · omega
theorem fwA_new {M0 : Nat → Nat → Nat} {n m a : Nat} {M : Nat → Nat → Nat} (h : ∀ x y, M x y ≤ M0 x y) : ∀ b, b < n → fwA n m a M a b ≤ M0 a m + M0 m b := by
  have := ff_ind (step := fwS m a) (fun i M' => (∀ x y, M' x y ≤ M0 x y) ∧ ∀ b, b < i → M' a b ≤ M0 a m + M0 m b) n 0 M ⟨h, fun b hb => by omega⟩ (fun i s _ _ hs => ⟨fun x y => Nat.le_trans (fwS_le m a i s x y) (hs.1 x y), fun b hb => by
    by_cases e : b = i
    · subst e
      exact Nat.le_trans (fwS_new m a b s) (Nat.add_le_add (hs.1 a m) (hs.1 m b))
    · exact Nat.le_trans (fwS_le m a i s a b) (hs.2 b (by omega))⟩)
  rw [Nat.zero_add] at this
  exact this.2
theorem fwM_new {M0 : Nat → Nat → Nat} {n m : Nat} : ∀ a b, a < n → b < n → fwM n m M0 a b ≤ M0 a m + M0 m b := by
  have := ff_ind (step := fwA n m) (fun i M' => (∀ x y, M' x y ≤ M0 x y) ∧ ∀ a b, a < i → b < n → M' a b ≤ M0 a m + M0 m b) n 0 M0 ⟨fun _ _ => Nat.le_refl _, fun a b ha => by omega⟩ (fun i s _ _ hs => ⟨fun x y => Nat.le_trans (fwA_le n m i s x y) (hs.1 x y), fun a b ha hb => by
    by_cases e : a = i
    · subst e
      exact fwA_new hs.1 b hb
    · exact Nat.le_trans (fwA_le n m i s a b) (hs.2 a b (by omega) hb)⟩)
  rw [Nat.zero_add] at this
  exact this.2
theorem fw_out {n : Nat} {M : Nat → Nat → Nat} : (∀ d, d ≤ n → ∀ x y, ¬ (x < n ∧ y < n) → ff (fwM n) 0 d M x y = M x y) := by
  have hS : ∀ m a b (M : Nat → Nat → Nat), a < n → b < n → ∀ x y, ¬ (x < n ∧ y < n) → fwS m a b M x y = M x y := by
    intro m a b M ha hb x y hxy
    unfold fwS
    split
    · unfold um; rw [if_neg (fun e => hxy ⟨by rw [e.1]; exact ha, by rw [e.2]; exact hb⟩)]
    · rfl
  have hA : ∀ m a (M : Nat → Nat → Nat), a < n → ∀ x y, ¬ (x < n ∧ y < n) → fwA n m a M x y = M x y := by
    intro m a M ha
    have := ff_ind (step := fwS m a) (fun _ M' => ∀ x y, ¬ (x < n ∧ y < n) → M' x y = M x y) n 0 M (fun _ _ _ => rfl) (fun i s _ hi hs x y hxy => (hS m a i s ha (by omega) x y hxy).trans (hs x y hxy))
    exact this
  have hM : ∀ m (M : Nat → Nat → Nat), ∀ x y, ¬ (x < n ∧ y < n) → fwM n m M x y = M x y := by
    intro m M
    have := ff_ind (step := fwA n m) (fun _ M' => ∀ x y, ¬ (x < n ∧ y < n) → M' x y = M x y) n 0 M (fun _ _ _ => rfl) (fun i s _ hi hs x y hxy => (hA m i s (by omega) x y hxy).trans (hs x y hxy))
    exact this
  intro d hd
  have := ff_ind (step := fwM n) (fun _ M' => ∀ x y, ¬ (x < n ∧ y < n) → M' x y = M x y) d 0 M (fun _ _ _ => rfl) (fun i s _ hi hs x y hxy => (hM i s x y hxy).trans (hs x y hxy))
  exact this
theorem fw_kin {P : PP} {D : DD} (hN : pN P ≤ 12) {M : Nat → Nat → Nat} (hM : ∀ a b, M a b = if a = b then 0 else if a < pN P ∧ b < pN P ∧ adj P D a b = true then 1 else 99) : ∀ a b, a < pN P → b < pN P → ff (fwM (pN P)) 0 (pN P) M a b = kinM P D a b := by
  have hl : L99 M := fun a b => by rw [hM]; split <;> (try split) <;> omega
  have hs : Snd P D M := by
    intro a b ha hb
    rw [hM]
    by_cases e : a = b
    · rw [if_pos e]; intro _; exact decide_eq_true e
    · rw [if_neg e]
      by_cases c : a < pN P ∧ b < pN P ∧ adj P D a b = true
      · rw [if_pos c]; intro _; exact rch_snoc (k := 0) ha (decide_eq_true rfl) c.2.2
      · rw [if_neg c]; intro h; omega
  have h0 : ∀ a b k, a < pN P → b < pN P → Wm P D 0 k a b → k < 99 → M a b ≤ k := by
    intro a b k ha hb h hk
    cases k with
    | zero => have h : a = b := h; rw [hM, if_pos h]; omega
    | succ k =>
      obtain ⟨c, hc, e, ⟨h1, h2⟩ | ⟨h1, h2⟩⟩ := h
      · subst h1; subst h2
        rw [hM]
        split
        · omega
        · rw [if_pos ⟨ha, hb, e⟩]; omega
      · omega
  have key := ff_ind (step := fwM (pN P)) (fun m M' => L99 M' ∧ Snd P D M' ∧ ∀ a b k, a < pN P → b < pN P → Wm P D m k a b → k < 99 → M' a b ≤ k) (pN P) 0 M ⟨hl, hs, h0⟩ (fun m M' _ hm h => by
    obtain ⟨i1, i2, i3⟩ := h
    refine ⟨i1.le (fwM_le _ m M'), fwM_snd (by omega) i1 i2, fun a b k ha hb hw hk => ?_⟩
    rcases Wm_split k hw with g | ⟨k1, k2, g1, g2, g3⟩
    · exact Nat.le_trans (fwM_le _ m M' a b) (i3 a b k ha hb g hk)
    · have := fwM_new (M0 := M') (n := pN P) (m := m) a b ha hb
      have q1 := i3 a m k1 ha (by omega) g2 (by omega)
      have q2 := i3 m b k2 (by omega) hb g3 (by omega)
      omega)
  rw [Nat.zero_add] at key
  obtain ⟨i1, i2, i3⟩ := key
  intro a b ha hb
  apply Nat.le_antisymm
  · by_cases c : kinM P D a b < 99
    · obtain ⟨k', h1, h2⟩ := rch_Wm _ hb (kin_is hN c).1
      exact Nat.le_trans (i3 a b k' ha hb h2 (by omega)) h1
    · have := i1 a b
      omega
  · by_cases c : ff (fwM (pN P)) 0 (pN P) M a b < 99
    · exact (kin_le hN ha hb (i2 a b ha hb c)).1
    · have := kin_99 (P := P) (D := D) hN (a := a) (b := b)
      omega
/-- findsKin: all kin, found anew -/
theorem F_findsKin {B : Mm} {P : PP} {D : DD} (hS : RS B P) (hW : RW (B 240) P D) (hP : WFP P) (hD : WFD P D) : ∃ s, f_X11_findsKin B = some (rM B 249 s) ∧ RKin (rM B 249 s) P D := by
  obtain ⟨s0, e0, g0⟩ := F_kin0 B
  obtain ⟨s1, e1, g1⟩ := F_kin1 hS hW hP hD g0
  have hl : L99 (fun a b => if a = b then 0 else if a < pN P ∧ b < pN P ∧ adj P D a b = true then 1 else 99) := by
    intro a b
    show (if a = b then 0 else if a < pN P ∧ b < pN P ∧ adj P D a b = true then 1 else 99) ≤ 99
    split <;> (try split) <;> omega
  have hN := hP.1
  obtain ⟨s2, e2, g2⟩ := F_fw92 hS hP.1 (pN P) 0 FU s1 _ (by omega) (by unfold FU; omega) g1 hl
  refine ⟨s2, e0.trans (e1.trans e2), fun a b ha hb => ?_⟩
  rw [rM_same, g2 a b (by omega) (by omega)]
  refine congrArg nI ?_
  exact fw_kin hP.1 (fun _ _ => rfl) a b ha hb
