/-! Rules of the constructors: what makes cells. Guards stand in the computed text and are decided by running it once. -/
theorem sK_snoc_lo (Z : Sh) (x : Nat × Nat × List (Option Nat)) {k : Nat} (h : k < Z.length) : sK (Z ++ [x]) k = sK Z k ∧ sR (Z ++ [x]) k = sR Z k := by
  unfold sK sR
  constructor
  · simp only [List.getD_eq_getElem?_getD, List.getElem?_append_left h]
  · funext j; simp only [List.getD_eq_getElem?_getD, List.getElem?_append_left h]
theorem sK_snoc_hi (Z : Sh) (x : Nat × Nat × List (Option Nat)) : sK (Z ++ [x]) Z.length = (x.1, x.2.1) ∧ sR (Z ++ [x]) Z.length = fun j => x.2.2.getD j none := by
  unfold sK sR
  constructor
  · simp [List.getD_eq_getElem?_getD]
  · funext j; simp [List.getD_eq_getElem?_getD]
theorem cW_snoc {X : CX} {Z : Sh} {S : Mm} (x : Nat × Nat × List (Option Nat)) (f : Nat → Int32) : cW X (Z ++ [x]) (rM S Z.length f) = cW X Z S ++ [(xb X + Z.length, cE X (x.1, x.2.1) (fun j => x.2.2.getD j none) f)] := by
  symm
  refine cW_ext (by simp [cW_len]) fun k hk => ?_
  have hk2 : k < Z.length ∨ k = Z.length := by simp at hk; omega
  rcases hk2 with h | h
  · rw [List.getElem?_append_left (by rw [cW_len]; exact h), cW_get X Z S h, (sK_snoc_lo Z x h).1, (sK_snoc_lo Z x h).2, rM_off S f (by omega)]
  · subst h
    rw [List.getElem?_append_right (by rw [cW_len]; omega), cW_len, Nat.sub_self, (sK_snoc_hi Z x).1, (sK_snoc_hi Z x).2, rM_same]
    rfl
/-- one more reference -/
def zR (Z : Sh) (a k c : Nat) : Sh := Z.set a ((Z.getD a (0, 0, [])).1, (Z.getD a (0, 0, [])).2.1, (Z.getD a (0, 0, [])).2.2.set k (some c))
theorem zR_len (Z : Sh) (a k c : Nat) : (zR Z a k c).length = Z.length := by simp [zR]
theorem sK_zR (Z : Sh) (a k c j : Nat) : sK (zR Z a k c) j = sK Z j := by
  unfold sK zR
  simp only [List.getD_eq_getElem?_getD, List.getElem?_set]
  by_cases h : a = j
  · subst h
    by_cases h2 : a < Z.length
    · simp [h2]
    · simp [h2]
  · simp [h]
theorem sR_zR (Z : Sh) {a k c : Nat} (ha : a < Z.length) (hk : k < (Z.getD a (0, 0, [])).2.2.length) (j i : Nat) : sR (zR Z a k c) j i = if j = a ∧ i = k then some c else sR Z j i := by
  have hg : Z[a]? = some Z[a] := List.getElem?_eq_getElem ha
  have hga : Z.getD a (0, 0, []) = Z[a] := by rw [List.getD_eq_getElem?_getD, hg]; rfl
  unfold sR zR
  rw [hga] at hk ⊢
  rw [List.getD_eq_getElem?_getD (l := Z.set a _), List.getElem?_set]
  by_cases h : a = j
  · subst h
    rw [if_pos rfl, if_pos ha, Option.getD_some, List.getD_eq_getElem?_getD (l := List.set _ _ _), List.getElem?_set]
    by_cases hi : k = i
    · subst hi
      rw [if_pos rfl, if_pos hk]
      simp
    · rw [if_neg hi, if_neg (fun q => hi q.2.symm), ← List.getD_eq_getElem?_getD, hga]
  · rw [if_neg h, if_neg (fun q => h q.1.symm), ← List.getD_eq_getElem?_getD]
theorem at_gd {ρ : Type} {c : Prop} [Decidable c] {o : Option ρ} {r : ρ} (h : gd c o = some r) : c ∧ o = some r := by
  unfold gd at h
  by_cases hc : c
  · rw [if_pos hc] at h; exact ⟨hc, h⟩
  · rw [if_neg hc] at h; cases h
def rmC (dd mc ms : Nat) : Room := { frames := dd, cells := mc, slots := ms, locals := 100 * dd }
def mQc (X : CX) (mc ms : Nat) (E : FE) (r : Sh × Mm) : State → Prop := MQ (eB E) (va_Qv (fun (_ : Unit) => True) (fun _ t => Wp X true r.1 r.2 t) (aF X)) (eA E) (eS E) mc ms (aF X)
def CtC (X : CX) (Z : Sh) (y : MethodName) (cc : ByteArray) (nL : Nat) (dd mc ms : Nat) (av : List Value) (S : Mm) (o : Option (Sh × Mm)) : Prop :=
  ∀ r, o = some r → Met (xL X) y (wsM y cc nL none) (rmC dd mc ms) (va_Pc (av.map (cV X)) (Wd X true Z S)) (va_Qv (fun (_ : Unit) => True) (fun _ t => Wp X true r.1 r.2 t) (aF X)) mc ms (aF X)
def MC (X : CX) (E : FE) (own : String) (cc : ByteArray) (nL dd mc ms : Nat) : Prop := Fr X E own cc nL ∧ Rm E dd ∧ (eF E).sig.returnType = none ∧ (eF E).locks = false ∧ (eR E).cells = mc ∧ (eR E).slots = ms ∧ (eF E).name = "<init>"
theorem ctC_of {X : CX} {Z : Sh} {y : MethodName} {own : String} {cc : ByteArray} {nL : Nat} {dd mc ms : Nat} {av : List Value} {S : Mm} {o : Option (Sh × Mm)} (hy : plainName y.cls = true) (hyo : y.cls = own) (hyn : y.name = "<init>") (hn : av.length ≤ nL) (hc : ∀ v ∈ av, v.category = 1) (body : ∀ E : FE, MC X E own cc nL dd mc ms → At X E true (mQc X mc ms E) 0 (L0 av nL) [] Z S 0 0 o) : CtC X Z y cc nL dd mc ms av S (gd (Z.length ≤ 1048576) o) := by
  intro r hr
  obtain ⟨hZ, ho⟩ := at_gd hr
  refine Met.ofW (cc := cc) (maxL := nL) (ret := none) hy rfl ?_
  intro p e s m args below meth c s₁ B hml hv
  obtain ⟨rfl, ⟨⟨hsz, hP⟩, hK, hSx⟩⟩ := hv
  have hts := atoms_spec (ws := wsM y cc nL none) B.pre
  have hown : s.vm.findClass own = some m.cls := hyo ▸ findClass_of_methodNamed B.named
  have hin : meth.name = "<init>" := (name_of_methodNamed B.named B.method).1.trans hyn
  have hb := body (p, e, rmC dd mc ms, s, m, (av.map (cV X)).toArray, below, meth, c) ⟨⟨B.exec, B.bytes, hml, hown, fun w hw => hts w (List.mem_cons_of_mem _ hw), hK, hSx.1, hSx⟩, ⟨Nat.le_refl _, Nat.le_refl _⟩, B.returns, B.notSynchronized, rfl, rfl, hin⟩
  have hlen : (lg_sl (av.map (cV X))).length ≤ nL := by
    rw [lg_sl_cat _ (fun u hu => by obtain ⟨u', h6, rfl⟩ := List.mem_map.mp hu; rw [cV_cat]; exact hc u' h6)]
    simp
    exact hn
  have hl := lv_entry (av.map (cV X)) (n := nL) hlen
  rw [lg_entry_eq]
  refine hb r ho hZ _ s.heap [] ?_ hsz hP va_S.rf
  rw [L0_len hn]
  exact cL_entry hc hl
section CTOR
variable {ρ : Type} {X : CX} {E : FE} {Qf : ρ → State → Prop} {pc : Nat} {L : List (Option Value)} {st : List Value} {Z : Sh} {S : Mm} {n w : Nat} {o : Option ρ} {own : String} {cc : ByteArray} {nL mc ms : Nat}
theorem k_obj (F : Fr X E own cc nL) {idx a : Nat} (d : decode cc pc = .ok (.invokespecial idx, 3)) (hL : L.length = nL) (hw : Cond.methodLink own idx objectInit ∈ lwG) (h1 : Cond.instanceMethod objectInit ∈ lwG) (h2 : Cond.code objectInit ⟨#[0xb1]⟩ 1 none ∈ lwG) (hcat : (st.map fun v => v.category).sum ≤ 8) (hfr : 1 ≤ (eR E).frames) (hlo : 64 ≤ (eR E).locals) (g : At X E true Qf (pc + 3) L st Z S n w o) : At X E true Qf pc L (.ref a :: st) Z S n w o := by
  intro r ho hz ls H locs hl hs hP hS
  obtain ⟨hx, hb, hml, hown, hts, -⟩ := F
  exact W.objInit hx hb hown (hts _ hw) (hts _ h1) (hts _ h2) rfl (hl.1.trans (hL.trans hml.symm)) rfl d hfr (by show 2 * 0 + (List.map (fun v => v.category) (st.map (cV X))).sum + 12 ≤ _; rw [cat_map]; omega) (g r ho hz ls H locs hl hs hP hS)
theorem k_new (F : Fr X E own cc nL) {ci N idx : Nat} {C : String} {T : u_T} {ty : Nat → FieldType} (cf : CF ci C T N ty) (hdf : ∀ j, j < N → defaultValue (ty j) = if fI ci j = true then .int 0 else .null) (d : decode cc pc = .ok (.new idx, 3)) (hcl : Cond.classLink own idx C ∈ lwG) (hinst : Cond.instantiable C N ∈ lwG) (hini : Cond.initialized C ∈ lwG) (hc : (eR E).cells = mc) (hs0 : (eR E).slots = ms) (g : At X E true Qf (pc + 3) L (.ref Z.length :: st) (Z ++ [(ci + 2, N, List.replicate N none)]) (rM S Z.length (fun _ => 0)) (n + 1) (w + N) o) : At X E true Qf pc L st Z S n w (gd (n + 1 ≤ mc ∧ w + N ≤ ms ∧ Z.length < 1048576) o) := by
  intro r ho hz ls H locs hl hs hP hS
  obtain ⟨⟨g1, g2, g3⟩, ho⟩ := at_gd ho
  obtain ⟨hx, hb, hml, hown, hts, hK, hxb, hSx⟩ := F
  have hKn := hK.1 ci _ cf.1
  refine W.newcK hx hb hown (hts _ hcl) (hts _ hinst) (hts _ hini) rfl d (by rw [hc]; exact g1) (by rw [hs0]; exact g2) hKn.2.1 (hs rfl) fun H1 kC hkC e1 z1 o1 => ?_
  have hk : ∀ (k : Nat) (x : Nat × va_E), (cW X Z S)[k]? = some x → H1[x.1]? = H[x.1]? := fun k x hx => o1 x.1 (by rw [← hs rfl]; exact (hP k x hx).lt)
  have e2 : (Value.ref (xb X + Z.length) :: st.map (cV X)) = (.ref Z.length :: st).map (cV X) := by simp [cV, gA_lo g3]
  show W _ _ _ _ _ _ _ _ _ _ _ _ _ _ _ (F0 (eM E) (pc + 3) ls (Value.ref (xb X + Z.length) :: st.map (cV X)))
  rw [e2]
  refine g r ho (by simp; omega) ls H1 locs hl (fun _ => by rw [z1]; simp; omega) ?_ ⟨Nat.le_trans hS.1 (by rw [hs rfl, z1]; omega), fun x h1 h2 => (o1 x (by rw [← hs rfl]; exact Nat.lt_of_lt_of_le h1 hS.1)).trans (hS.2.1 x h1 h2), hS.2.2⟩
  rw [cW_snoc]
  refine (hP.kept hk).app (fun k x hx => ?_)
  have hz1 : k < 1 := (List.getElem?_eq_some_iff.mp hx).1
  rw [show k = 0 by omega] at hx
  cases hx
  show va_at (xD X) vwCl (xb X + Z.length, cE X (ci + 2, N) _ _) H1
  refine ⟨_, cf.1, (u_born ty hts cf.2.1 hKn hkC e1 cf.2.2.1).to fun j hj => ?_⟩
  show _ = vp_V (cF X ci N _ _) j
  unfold vp_V
  rw [List.getD_eq_getElem?_getD, cF_get hj, hdf j hj]
  simp only [Option.getD_some]
  by_cases hi : fI ci j = true
  · rw [if_pos hi, if_pos hi]
  · rw [if_neg hi, if_neg hi]
    simp [List.getD_eq_getElem?_getD, List.getElem?_replicate, hj, va_rf]
theorem k_newa (F : Fr X E own cc nL) {N : Nat} {v : Int32} (d : decode cc pc = .ok (.newarray .int, 2)) (hac : Cond.arrayClass .int ∈ lwG) (hv0 : ¬ v < 0) (hvN : v.toNatClampNeg = N) (hN : N * 4 ≤ 536870912) (hc : (eR E).cells = mc) (hs0 : (eR E).slots = ms) (g : At X E true Qf (pc + 2) L (.ref Z.length :: st) (Z ++ [(0, N, [])]) (rM S Z.length (fun _ => 0)) (n + 1) (w + N) o) : At X E true Qf pc L (.int v :: st) Z S n w (gd (n + 1 ≤ mc ∧ w + N ≤ ms ∧ Z.length < 1048576) o) := by
  intro r ho hz ls H locs hl hs hP hS
  obtain ⟨⟨g1, g2, g3⟩, ho⟩ := at_gd ho
  obtain ⟨hx, hb, hml, hown, hts, hK, hxb, hSx⟩ := F
  refine va_newaK hx hb (atype := .int) (hts _ hac) rfl d rfl hv0 hvN hN (by rw [hc]; exact g1) (by rw [hs0]; exact g2) (hs rfl) fun H1 cA e1 z1 o1 hAr hNm => ?_
  have hcA : cA = xI X := Option.some.inj (hNm.symm.trans (hK.2 0 _ rfl).2)
  subst hcA
  have hk : ∀ (k : Nat) (x : Nat × va_E), (cW X Z S)[k]? = some x → H1[x.1]? = H[x.1]? := fun k x hx => o1 x.1 (by rw [← hs rfl]; exact (hP k x hx).lt)
  have e2 : (Value.ref (xb X + Z.length) :: st.map (cV X)) = (.ref Z.length :: st).map (cV X) := by simp [cV, gA_lo g3]
  show W _ _ _ _ _ _ _ _ _ _ _ _ _ _ _ (F0 (eM E) (pc + 2) ls (Value.ref (xb X + Z.length) :: st.map (cV X)))
  rw [e2]
  refine g r ho (by simp; omega) ls H1 locs hl (fun _ => by rw [z1]; simp; omega) ?_ ⟨Nat.le_trans hS.1 (by rw [hs rfl, z1]; omega), fun x h1 h2 => (o1 x (by rw [← hs rfl]; exact Nat.lt_of_lt_of_le h1 hS.1)).trans (hS.2.1 x h1 h2), hS.2.2⟩
  rw [cW_snoc]
  refine (hP.kept hk).app (fun k x hx => ?_)
  have hz1 : k < 1 := (List.getElem?_eq_some_iff.mp hx).1
  rw [show k = 0 by omega] at hx
  cases hx
  show H1[xb X + Z.length]? = some (vp_cell _ _)
  rw [e1]
  rfl
theorem k_anew (F : Fr X E own cc nL) {N idx : Nat} {v : Int32} (d : decode cc pc = .ok (.anewarray idx, 3)) (hcl : Cond.classLink own idx RX1 ∈ lwG) (hv0 : ¬ v < 0) (hvN : v.toNatClampNeg = N) (hN : N * 4 ≤ 536870912) (hc : (eR E).cells = mc) (hs0 : (eR E).slots = ms) (g : At X E true Qf (pc + 3) L (.ref Z.length :: st) (Z ++ [(1, N, List.replicate N none)]) (rM S Z.length (fun _ => 0)) (n + 1) (w + N) o) : At X E true Qf pc L (.int v :: st) Z S n w (gd (n + 1 ≤ mc ∧ w + N ≤ ms ∧ Z.length < 1048576) o) := by
  intro r ho hz ls H locs hl hs hP hS
  obtain ⟨⟨g1, g2, g3⟩, ho2⟩ := at_gd ho
  obtain ⟨hx, hb, hml, hown, hts, hK, hxb, hSx⟩ := F
  have hov := hSx.2.2.2.2.2.2
  subst hvN
  refine W.anew hx hb hown (hts _ hcl) hov.use rfl d rfl hv0 hN (by rw [hc]; exact g1) (by rw [hs0]; exact g2) fun cA kA comp f1 f2 f3 f4 => ?_
  obtain ⟨-, kA', comp', q1, q2, q3, q4⟩ := hK.2 1 _ rfl
  have hcA : cA = xC X := Option.some.inj (f1.symm.trans q4)
  subst hcA
  generalize hH1 : H.push ({ cls := xC X, slots := Array.replicate v.toNatClampNeg .null, vm := .none } : Cell) = H1
  have z1 : H1.size = H.size + 1 := by rw [← hH1, Array.size_push]
  have e1 : H1[H.size]? = some (arrV (xC X) v.toNatClampNeg (fun _ => .null)) := by rw [← hH1, Array.getElem?_push_size, ← arrV_new]
  have o1 : ∀ q : Nat, q < H.size → H1[q]? = H[q]? := fun q hq => by rw [← hH1, Array.getElem?_push, if_neg (Nat.ne_of_lt hq)]
  have hk : ∀ (k : Nat) (x : Nat × va_E), (cW X Z S)[k]? = some x → H1[x.1]? = H[x.1]? := fun k x hx => o1 x.1 ((hP k x hx).lt)
  rw [hs rfl] at e1 ⊢
  have e2 : (Value.ref (xb X + Z.length) :: st.map (cV X)) = (.ref Z.length :: st).map (cV X) := by simp [cV, gA_lo g3]
  show W _ _ _ _ _ _ _ _ _ _ _ _ _ _ _ (F0 (eM E) (pc + 3) ls (Value.ref (xb X + Z.length) :: st.map (cV X)))
  rw [e2]
  refine g r ho2 (by simp; omega) ls H1 locs hl (fun _ => by rw [z1, hs rfl]; simp; omega) ?_ ⟨Nat.le_trans hS.1 (by rw [z1]; omega), fun x h1 h2 => (o1 x (Nat.lt_of_lt_of_le h1 hS.1)).trans (hS.2.1 x h1 h2), hS.2.2⟩
  rw [cW_snoc]
  refine (hP.kept hk).app (fun k x hx => ?_)
  have hz1 : k < 1 := (List.getElem?_eq_some_iff.mp hx).1
  rw [show k = 0 by omega] at hx
  cases hx
  show H1[xb X + Z.length]? = some (vp_cell _ _)
  rw [e1]
  show _ = some (arrV (xC X) v.toNatClampNeg (fun j => va_rf (((List.replicate v.toNatClampNeg (none : Option Nat)).getD j none).map (gA X))))
  congr 2
  funext j
  simp only [List.getD_eq_getElem?_getD, List.getElem?_replicate]
  split <;> rfl
theorem k_getR (F : Fr X E own cc nL) {ci N idx a k : Nat} {C : String} {T : u_T} {ty : Nat → FieldType} (cf : CF ci C T N ty) (d : decode cc pc = .ok (.getfield idx, 3)) (hw : Cond.fieldLink own idx (T k).1 (T k).2.1 (T k).2.2.1 ∈ lwG) (hk : k < N) (hi : fI ci k = false) {kf : Nat → Option ρ} (g : ∀ c, At X E true Qf (pc + 3) L (.ref c :: st) Z S n w (kf c)) : At X E true Qf pc L (.ref a :: st) Z S n w (gd (a < Z.length ∧ sK Z a = (ci + 2, N)) ((sR Z a k).bind kf)) := by
  intro r ho
  obtain ⟨⟨g1, g2⟩, ho⟩ := at_gd ho
  cases hr : sR Z a k with
  | none => rw [hr] at ho; cases ho
  | some c => rw [hr] at ho; exact a_getR F cf d hw hk hi g1 g2 hr (g c) r ho
theorem k_putI (F : Fr X E own cc nL) {ci N idx a k : Nat} {C : String} {T : u_T} {ty : Nat → FieldType} (cf : CF ci C T N ty) (d : decode cc pc = .ok (.putfield idx, 3)) (hw : Cond.fieldLink own idx (T k).1 (T k).2.1 (T k).2.2.1 ∈ lwG) (hk : k < N) (hi : fI ci k = true) (hfin : (T k).2.2.2 = false) (ht : ty k = .int ∨ ty k = .boolean) {v : Int32} (g : At X E true Qf (pc + 3) L st Z (uM S a k v) n w o) : At X E true Qf pc L (.int v :: .ref a :: st) Z S n w (gd (a < Z.length ∧ sK Z a = (ci + 2, N) ∧ (ty k = .int ∨ v = 0 ∨ v = 1)) o) := by
  intro r ho
  obtain ⟨⟨g1, g2, g3⟩, ho⟩ := at_gd ho
  rcases ht with ht | ht
  · exact a_putI F cf d hw hk hi hfin ht g1 g2 g r ho
  · rcases g3 with g3 | g3
    · rw [ht] at g3; cases g3
    · exact a_putZK F cf d hw hk hi hfin ht g1 g2 g3 g r ho
theorem cF_zR {X : CX} {Z : Sh} {ci N a k c : Nat} (f : Nat → Int32) (ha : a < Z.length) (hk : k < (Z.getD a (0, 0, [])).2.2.length) (hkN : k < N) (hi : fI ci k = false) : (cF X ci N (sR Z a) f).set k (.ref (gA X c)) = cF X ci N (sR (zR Z a k c) a) f := by
  apply List.ext_getElem?
  intro j
  rw [List.getElem?_set]
  have hlen : (cF X ci N (sR Z a) f).length = N := by simp [cF]
  by_cases hj : j < N
  · by_cases hkj : k = j
    · subst hkj
      rw [if_pos rfl, if_pos (by rw [hlen]; exact hj), cF_get hj, if_neg (by rw [hi]; decide), sR_zR Z ha hk, if_pos ⟨rfl, rfl⟩]
      rfl
    · rw [if_neg hkj, cF_get hj, cF_get hj, sR_zR Z ha hk]
      rw [if_neg (show ¬ (a = a ∧ j = k) from fun q => hkj q.2.symm)]
  · rw [if_neg (by omega), List.getElem?_eq_none (by rw [hlen]; omega), List.getElem?_eq_none (by simp [cF]; omega)]
theorem cW_zR {X : CX} {Z : Sh} {S : Mm} {a k c : Nat} {e : va_E} (ha : a < Z.length) (hk : k < (Z.getD a (0, 0, [])).2.2.length) (he : e = cE X (sK Z a) (sR (zR Z a k c) a) (S a)) : (cW X Z S).set a (xb X + a, e) = cW X (zR Z a k c) S := by
  refine cW_ext (by rw [List.length_set, cW_len, zR_len]) fun j hj => ?_
  rw [zR_len] at hj
  rw [List.getElem?_set]
  by_cases h : a = j
  · subst h
    rw [if_pos rfl, if_pos (by rw [cW_len]; exact hj), he, sK_zR]
  · have e1 : sR (zR Z a k c) j = sR Z j := by
      funext i
      rw [sR_zR Z ha hk, if_neg (fun q => h q.1.symm)]
    rw [if_neg h, cW_get X Z S hj, sK_zR, e1]
theorem k_putR (F : Fr X E own cc nL) (hin : (eF E).name = "<init>") {ci N idx a k c : Nat} {C : String} {T : u_T} {ty : Nat → FieldType} (cf : CF ci C T N ty) (d : decode cc pc = .ok (.putfield idx, 3)) (hw : Cond.fieldLink own idx (T k).1 (T k).2.1 (T k).2.2.1 ∈ lwG) (hk : k < N) (hi : fI ci k = false) (how : (T k).1 = own) (ht : ∀ q : Nat, narrow (ty k) (.ref q) = .ref q ∧ fits (ty k) (.ref q) = true) (g : At X E true Qf (pc + 3) L st (zR Z a k c) S n w o) : At X E true Qf pc L (.ref c :: .ref a :: st) Z S n w (gd (a < Z.length ∧ sK Z a = (ci + 2, N) ∧ k < (Z.getD a (0, 0, [])).2.2.length) o) := by
  intro r ho hz ls H locs hl hs hP hS
  obtain ⟨⟨g1, g2, g3⟩, ho⟩ := at_gd ho
  have e0 : (Value.ref c :: Value.ref a :: st).map (cV X) = .ref (gA X c) :: .ref (gA X a) :: st.map (cV X) := by simp [cV]
  rw [e0]
  refine a_put0 F cf d hw hk g1 g2 (fun _ => ⟨hin, how⟩) (v := .ref (gA X c)) (ht _).1 (ht _).2 hP hS hz fun H1 locs1 z hP1 hS1 => ?_
  refine g r ho (by rw [zR_len]; exact hz) ls H1 locs1 hl (fun q => by rw [z, zR_len]; exact hs q) ?_ hS1
  rw [← cW_zR (e := .inr (ci, cF X ci N (sR (zR Z a k c) a) (S a))) g1 g3 (cE_obj g2).symm, ← cF_zR (S a) g1 g3 hk hi, ← gA_lo (X := X) (k := a) (by omega)]
  exact hP1
theorem k_aast (F : Fr X E own cc nL) {a m c : Nat} {i : Int32} (d : decode cc pc = .ok (.aastore, 1)) (g : At X E true Qf (pc + 1) L st (zR Z a (ix i) c) S n w o) : At X E true Qf pc L (.ref c :: .int i :: .ref a :: st) Z S n w (gd (a < Z.length ∧ sK Z a = (1, m) ∧ inB i m = true ∧ ix i < (Z.getD a (0, 0, [])).2.2.length ∧ c < Z.length ∧ sK Z c = (3, 20)) o) := by
  intro r ho hz ls H locs hl hs hP hS
  obtain ⟨⟨g1, g2, g3, g4, g5, g6⟩, ho⟩ := at_gd ho
  obtain ⟨hx, hb, hml, hown, hts, hK, hxb, hSx⟩ := F
  have he : (cW X Z S)[a]? = some (gA X a, .inl (xC X, m, .inr (.inr (.inr (.inr (fun j => (sR Z a j).map (gA X))))))) := by rw [cW_get X Z S g1, cE_row g2, gA_lo (by omega)]
  have hec : (cW X Z S)[c]? = some (gA X c, .inr (1, cF X 1 20 (sR Z c) (S c))) := by rw [cW_get X Z S g5, cE_obj g6, gA_lo (by omega)]
  have hin := inB_vp g3
  have hD := cW_D X Z S
  obtain ⟨r', hr', cellV, q1, q2, q3, -⟩ := hP c _ hec
  have hcls := (hK.1 1 _ (show vwCl[1]? = some (RX1, TX1, 20) from rfl)).2
  obtain ⟨kA, comp, k1, k2, k3, -⟩ := (hK.2 1 _ rfl).2
  have hcomp : comp = (xD X).1 1 := Option.some.inj (k3.symm.trans hcls.1)
  subst hcomp
  obtain ⟨kC, hkC, -⟩ := hcls.2
  have e0 : (Value.ref c :: Value.int i :: Value.ref a :: st).map (cV X) = .ref (gA X c) :: .int i :: .ref (gA X a) :: st.map (cV X) := by simp [cV]
  rw [e0]
  refine W.aast hx hb (hP a _ he) (fun q h => by cases h) (fun h => by cases h) k1 k2 rfl hkC ⟨fun q => hin (Or.inl q), by show _ < (arrV _ _ _).slots.size; rw [arrV_size]; exact inB_lt g3⟩ q1 (fun q h => by rw [q3] at h; cases h) (by rw [q2]; exact hkC) (by rw [q2]; exact va_assign hcls) rfl rfl d fun H1 e z oq => ?_
  refine g r ho (by rw [zR_len]; exact hz) ls H1 _ hl (fun q => by rw [z, zR_len]; exact hs q) ?_ (hS.put z oq (hD.2 a _ he))
  rw [← cW_zR (e := .inl (xC X, m, .inr (.inr (.inr (.inr (fun j => (sR (zR Z a (ix i) c) a j).map (gA X))))))) g1 g4 (cE_row g2).symm, ← gA_lo (X := X) (k := a) (by omega)]
  refine hP.set hD he ?_ oq
  show H1[gA X a]? = some (vp_cell _ _)
  rw [e]
  show some ((vp_cell _ _).setSlot _ _) = _
  rw [vp_cell_q, vp_cell_q, arrV_store]
  congr 2
  funext q
  by_cases hq : q = ix i
  · subst hq
    simp [updV, va_rf, sR_zR Z g1 g4]
  · simp [updV, hq, sR_zR Z g1 g4]
theorem k_iast (F : Fr X E own cc nL) {a m : Nat} {i v : Int32} (d : decode cc pc = .ok (.iastore, 1)) (g : At X E true Qf (pc + 1) L st Z (uM S a (ix i) v) n w o) : At X E true Qf pc L (.int v :: .int i :: .ref a :: st) Z S n w (gd (a < Z.length ∧ sK Z a = (0, m) ∧ inB i m = true) o) := by
  intro r ho
  obtain ⟨⟨g1, g2, g3⟩, ho⟩ := at_gd ho
  exact a_iast F d g1 g2 g r (by rw [if_pos g3]; exact ho)
theorem k_ldcS (F : Fr X E own cc nL) {idx i : Nat} {tx : String} (hm : (own, idx, tx, i) ∈ srL) (d : decode cc pc = .ok (.ldc idx, 2)) (g : At X E true Qf (pc + 2) L (.ref (1048576 + i) :: st) Z S n w o) : At X E true Qf pc L st Z S n w o := by
  intro r ho hz ls H locs hl hs hP hS
  have h := g r ho hz ls H locs hl hs hP hS
  have e0 : (Value.ref (1048576 + i) :: st).map (cV X) = .ref (xad X i) :: st.map (cV X) := by simp [cV, gA_str]
  rw [e0] at h
  exact va_ldcS F.1 F.2.1 F.2.2.2.1 (F.2.2.2.2.2.2.2.2.2.2.2.2.1 _ hm) d h
theorem k_ret {dd : Nat} (M : MC X E own cc nL dd mc ms) (d : decode cc pc = .ok (.return_, 1)) : At X E true (mQc X mc ms E) pc L [] Z S n w (gd (n ≤ mc ∧ w ≤ ms) (some (Z, S))) := by
  intro r ho hZ ls H locs hl hs hP hS
  obtain ⟨⟨g1, g2⟩, ho⟩ := at_gd ho
  cases ho
  refine W.widen g1 g2 ?_
  exact W.vret M.1.1 M.1.2.1 M.2.2.1 (fun t ht hW => ⟨⟨(), rfl, trivial, fun q => by rw [ht]; exact hs q, by rw [ht]; exact hP⟩, hS.F ht⟩) hS.2.2 d M.2.2.2.1
/-- a constructor is called -/
theorem k_callB {y : MethodName} {bytes : ByteArray} {maxL idx np dd d2 c2 s2 : Nat} (F : Fr X E own cc nL) (m : MW y bytes maxL none np) (hl : Cond.methodLink own idx y ∈ lwG) (R : Rm E dd) (hd : d2 + 1 ≤ dd) : CallB (eR E) (eS E) (eA E) own idx y bytes maxL none (wsM y bytes maxL none) (rmC d2 c2 s2) c2 s2 np := by
  have hts := F.2.2.2.2.1
  refine callB_of np hts (gw_M m) rfl rfl rfl (hts _ m.2.1) (hts _ hl) ⟨m.2.2.2.1.1, m.2.2.2.1.2, m.2.2.2.2.1⟩ ⟨Nat.le_trans hd R.1, ?_⟩
  have h2 := R.2
  have h3 := m.2.2.2.2.2
  show 8 + (maxL + 11) + 100 * d2 ≤ _
  omega
theorem k_call (F : Fr X E own cc nL) {y : MethodName} {bytes : ByteArray} {maxL idx np dd d2 c2 s2 a : Nat} {As : List Value} {oc : Option (Sh × Mm)} {k : Sh × Mm → Option ρ} (hM : CtC X Z y bytes maxL d2 c2 s2 (.ref a :: As) S oc) (m : MW y bytes maxL none np) (hl : Cond.methodLink own idx y ∈ lwG) (hin : Cond.instanceMethod y ∈ lwG) (hyn : y.name = "<init>") (R : Rm E dd) (hd : d2 + 1 ≤ dd) (hc : (eR E).cells = mc) (hs0 : (eR E).slots = ms) (hL : L.length = nL) (hnp : As.length = np) (hcat : (st.map fun v => v.category).sum ≤ 8) (d : decode cc pc = .ok (.invokespecial idx, 3))
    {sk : List Value} (hsk : As.reverse ++ .ref a :: st = sk) (g : ∀ r : Sh × Mm, At X E true Qf (pc + 3) L st r.1 r.2 (n + c2) (w + s2) (k r)) : At X E true Qf pc L sk Z S n w (gd (n + c2 ≤ mc ∧ w + s2 ≤ ms) (oc.bind fun r => gd (r.1.length ≤ 1048576) (k r))) := by
  intro r ho hZ ls H locs hl2 hs hP hS
  subst hsk
  obtain ⟨⟨g1, g2⟩, ho⟩ := at_gd ho
  cases hoc : oc with
  | none => rw [hoc] at ho; cases ho
  | some q =>
    rw [hoc] at ho
    obtain ⟨g3, ho⟩ := at_gd ho
    have hts := F.2.2.2.2.1
    have hstk : ((As.reverse ++ .ref a :: st).map (cV X)) = (As.map (cV X)).reverse ++ .ref (gA X a) :: st.map (cV X) := by simp [cV]
    rw [hstk]
    refine va_callv (va_runI (As := As.map (cV X)) (rest := st.map (cV X)) (nL := nL) (b := gA X a) ⟨F.1, F.2.1, F.2.2.1, F.2.2.2.1, hts⟩ (hM q hoc) ⟨k_callB F m hl R hd, hyn, hts _ hin⟩ ⟨Wd_blind, fun U hU hW => ⟨rfl, wd_at F hs hP hS U hU hW⟩⟩ rfl (by rw [List.length_map]; exact hnp) (hl2.1.trans hL) rfl (lv_room (by rw [cat_map]; exact hcat)) d ⟨by rw [hc]; exact g1, by rw [hs0]; exact g2⟩) hS (fun q _ h => h) (fun _ h => h) (fun u t H1 locs1 ht hvm hw hB hz1 hk1 hS1 => ?_)
    exact g q r ho g3 ls H1 locs1 hl2 (fun q => by rw [← ht]; exact hB.1 rfl) (by rw [← ht]; exact hB.2) hS1
theorem k_callN (F : Fr X E own cc nL) {y : MethodName} {bytes : ByteArray} {maxL idx np dd d2 c2 s2 a : Nat} {host : String} {As : List Value} {oc : Option (Sh × Mm)} {k : Sh × Mm → Option ρ} (hM : CtC X Z y bytes maxL d2 c2 s2 (.ref a :: As) S oc) (m : MW y bytes maxL none np) (hl : Cond.methodLinkNest own idx y host ∈ nwL) (hin : Cond.instanceMethod y ∈ lwG) (hyn : y.name = "<init>") (R : Rm E dd) (hd : d2 + 1 ≤ dd) (hc : (eR E).cells = mc) (hs0 : (eR E).slots = ms) (hL : L.length = nL) (hnp : As.length = np) (hcat : (st.map fun v => v.category).sum ≤ 8) (d : decode cc pc = .ok (.invokespecial idx, 3))
    {sk : List Value} (hsk : As.reverse ++ .ref a :: st = sk) (g : ∀ r : Sh × Mm, At X E true Qf (pc + 3) L st r.1 r.2 (n + c2) (w + s2) (k r)) : At X E true Qf pc L sk Z S n w (gd (n + c2 ≤ mc ∧ w + s2 ≤ ms) (oc.bind fun r => gd (r.1.length ≤ 1048576) (k r))) := by
  intro r ho hZ ls H locs hl2 hs hP hS
  subst hsk
  obtain ⟨⟨g1, g2⟩, ho⟩ := at_gd ho
  cases hoc : oc with
  | none => rw [hoc] at ho; cases ho
  | some q =>
    rw [hoc] at ho
    obtain ⟨g3, ho⟩ := at_gd ho
    have hts := F.2.2.2.2.1
    have hstk : ((As.reverse ++ .ref a :: st).map (cV X)) = (As.map (cV X)).reverse ++ .ref (gA X a) :: st.map (cV X) := by simp [cV]
    rw [hstk]
    have hcn : va_CN (eR E) (eS E) (eA E) own idx y host bytes maxL none (wsM y bytes maxL none) (rmC d2 c2 s2) c2 s2 np := va_cnB np hts (gw_M m) rfl rfl rfl (F.2.2.2.2.2.2.2.2.2.2.2.1 _ hl) (hts _ m.2.1) ⟨m.2.2.2.1.1, m.2.2.2.1.2, m.2.2.2.2.1⟩ ⟨Nat.le_trans hd R.1, by have h2 := R.2; have h3 := m.2.2.2.2.2; show 8 + (maxL + 11) + 100 * d2 ≤ _; omega⟩
    refine va_callv (va_runIN (As := As.map (cV X)) (rest := st.map (cV X)) (nL := nL) (b := gA X a) ⟨F.1, F.2.1, F.2.2.1, F.2.2.2.1, hts⟩ (hM q hoc) ⟨hcn, hyn, hts _ hin⟩ ⟨Wd_blind, fun U hU hW => ⟨rfl, wd_at F hs hP hS U hU hW⟩⟩ rfl (by rw [List.length_map]; exact hnp) (hl2.1.trans hL) rfl (lv_room (by rw [cat_map]; exact hcat)) d ⟨by rw [hc]; exact g1, by rw [hs0]; exact g2⟩) hS (fun q _ h => h) (fun _ h => h) (fun u t H1 locs1 ht hvm hw hB hz1 hk1 hS1 => ?_)
    exact g q r ho g3 ls H1 locs1 hl2 (fun q => by rw [← ht]; exact hB.1 rfl) (by rw [← ht]; exact hB.2) hS1
end CTOR
