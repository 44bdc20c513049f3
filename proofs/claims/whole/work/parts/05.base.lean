-- values that may fail to come: what the class's code computes, as a function (none: it would leave its rows, or its rounds)
theorem FU_ex : ∃ n : Nat, n = 100000 := ⟨_, rfl⟩
noncomputable def FU : Nat := Classical.choose FU_ex
theorem FU_eq : FU = 100000 := Classical.choose_spec FU_ex
def og_ck {α : Type} (i : Int32) (n : Nat) (k : Option α) : Option α := if i < 0 ∨ n ≤ i.toNatClampNeg then none else k
def og_nz {α : Type} (y : Int32) (k : Option α) : Option α := if y = 0 then none else k
def og_bl {α : Type} (v : Int32) (k : Option α) : Option α := if v = 0 ∨ v = 1 then k else none
def og_cp {α : Type} (sp dp n : Int32) (n0 n1 : Nat) (k : Option α) : Option α := if sp < 0 ∨ dp < 0 ∨ n < 0 ∨ n0 < sp.toNatClampNeg + n.toNatClampNeg ∨ n1 < dp.toNatClampNeg + n.toNatClampNeg then none else k
def og_le {α β : Type} (v : α) (k : α → Option β) : Option β := k v
theorem og_le_s {α β : Type} {v : α} {k : α → Option β} {y : β} (h : og_le v k = some y) {x : α} (hx : x = v) : k x = some y := by subst hx; exact h
theorem og_ck_s {α : Type} {i : Int32} {n : Nat} {k : Option α} {y : α} (h : og_ck i n k = some y) : vp_in i n ∧ k = some y := by
  unfold og_ck at h
  by_cases hc : i < 0 ∨ n ≤ i.toNatClampNeg
  · rw [if_pos hc] at h; cases h
  · rw [if_neg hc] at h; exact ⟨hc, h⟩
theorem og_ck_in {α : Type} {i : Int32} {n : Nat} {k : Option α} (h : vp_in i n) : og_ck i n k = k := if_neg h
theorem og_nz_s {α : Type} {v : Int32} {k : Option α} {y : α} (h : og_nz v k = some y) : ¬ v = 0 ∧ k = some y := by
  unfold og_nz at h
  by_cases hc : v = 0
  · rw [if_pos hc] at h; cases h
  · rw [if_neg hc] at h; exact ⟨hc, h⟩
theorem og_bl_s {α : Type} {v : Int32} {k : Option α} {y : α} (h : og_bl v k = some y) : narrow .boolean (.int v) = .int v ∧ k = some y := by
  unfold og_bl at h
  by_cases hc : v = 0 ∨ v = 1
  · rw [if_pos hc] at h
    refine ⟨?_, h⟩
    rcases hc with rfl | rfl <;> rfl
  · rw [if_neg hc] at h; cases h
theorem og_cp_s {α : Type} {sp dp n : Int32} {n0 n1 : Nat} {k : Option α} {y : α} (h : og_cp sp dp n n0 n1 k = some y) : (¬ sp < 0 ∧ ¬ dp < 0 ∧ ¬ n < 0 ∧ sp.toNatClampNeg + n.toNatClampNeg ≤ n0 ∧ dp.toNatClampNeg + n.toNatClampNeg ≤ n1) ∧ k = some y := by
  unfold og_cp at h
  by_cases hc : sp < 0 ∨ dp < 0 ∨ n < 0 ∨ n0 < sp.toNatClampNeg + n.toNatClampNeg ∨ n1 < dp.toNatClampNeg + n.toNatClampNeg
  · rw [if_pos hc] at h; cases h
  · rw [if_neg hc] at h
    exact ⟨⟨fun q => hc (Or.inl q), fun q => hc (Or.inr (Or.inl q)), fun q => hc (Or.inr (Or.inr (Or.inl q))), Nat.not_lt.mp fun q => hc (Or.inr (Or.inr (Or.inr (Or.inl q)))), Nat.not_lt.mp fun q => hc (Or.inr (Or.inr (Or.inr (Or.inr q))))⟩, h⟩
theorem og_t {α : Type} {c : Prop} [Decidable c] {a b : Option α} {y : α} (h : (if c then a else b) = some y) (hc : c) : a = some y := by rw [if_pos hc] at h; exact h
theorem og_f {α : Type} {c : Prop} [Decidable c] {a b : Option α} {y : α} (h : (if c then a else b) = some y) (hc : ¬ c) : b = some y := by rw [if_neg hc] at h; exact h
theorem og_b {α β : Type} {x : Option α} {k : α → Option β} {y : β} (h : x.bind k = some y) : ∃ r, x = some r ∧ k r = some y := by
  cases x with
  | none => cases h
  | some r => exact ⟨r, rfl, h⟩
-- a contract's start and end: a method that only looks, and one that changes its cells
def og_Pr (av : List Value) (D : va_G) (ws : va_W) (tys : List (ClassId × FieldType)) : Array Value → State → Prop := va_Pc av (fun U => va_P D vwCl ws U.heap ∧ va_K D vwCl tys U)
def og_Pw (av : List Value) (D : va_G) (ws : va_W) (tys : List (ClassId × FieldType)) (sz : Nat) : Array Value → State → Prop := va_Pc av (fun U => U.heap.size = sz ∧ va_P D vwCl ws U.heap ∧ va_K D vwCl tys U ∧ va_D (fun _ => True) ws)
def og_B (D : va_G) (ws : va_W) (tys : List (ClassId × FieldType)) (A : Nat → Prop) : Unit → State → Prop := fun _ t => va_P D vwCl ws t.heap ∧ va_K D vwCl tys t ∧ va_D A ws
def og_Qi (D : va_G) (ws : va_W) (tys : List (ClassId × FieldType)) (y : Int32) (A : Nat → Prop) : Array Value → State → Outcome → State → Prop := va_Qi (fun (r : Int32) (_ : Unit) => r = y) (og_B D ws tys A) A
def og_Qv (D : va_G) (ws : va_W) (tys : List (ClassId × FieldType)) (A : Nat → Prop) : Array Value → State → Outcome → State → Prop := va_Qv (fun (_ : Unit) => True) (og_B D ws tys A) A
theorem og_Pr_bl (av : List Value) (D : va_G) (ws : va_W) (tys : List (ClassId × FieldType)) : FrameBlind (og_Pr av D ws tys) := fun a U g mk q => ⟨q.1, q.2.1, va_K.moved (u := U) (U := U.calling g mk a) (Vm.Alike.refl U.vm) q.2.2⟩
theorem og_Pw_bl (av : List Value) (D : va_G) (ws : va_W) (tys : List (ClassId × FieldType)) (sz : Nat) : FrameBlind (og_Pw av D ws tys sz) := fun a U g mk q => ⟨q.1, q.2.1, q.2.2.1, va_K.moved (u := U) (U := U.calling g mk a) (Vm.Alike.refl U.vm) q.2.2.2.1, q.2.2.2.2⟩
theorem og_subP {D : va_G} {cl : List vw_C} {ws wc : va_W} {H : Heap} (h : va_P D cl ws H) (is : List Nat) (hs : is.map (fun i => ws[i]?) = wc.map some) : va_P D cl wc H := by
  intro k q hk
  have h1 : (is.map (fun i => ws[i]?))[k]? = some (some q) := by rw [hs, List.getElem?_map, hk]; rfl
  rw [List.getElem?_map] at h1
  cases hi : is[k]? with
  | none => rw [hi] at h1; cases h1
  | some i => rw [hi] at h1; exact h i q (Option.some.inj h1)
theorem og_subD {A : Nat → Prop} {w w2 : va_W} (h : va_D A w) (ha : w2.map (fun q => q.1) = w.map (fun q => q.1)) : va_D A w2 := by
  have key : ∀ (k : Nat) (q : Nat × va_E), w2[k]? = some q → ∃ q0, w[k]? = some q0 ∧ q0.1 = q.1 := by
    intro k q hk
    have h1 : (w2.map (fun q => q.1))[k]? = some q.1 := by rw [List.getElem?_map, hk]; rfl
    rw [ha, List.getElem?_map] at h1
    cases hi : w[k]? with
    | none => rw [hi] at h1; cases h1
    | some q0 => rw [hi] at h1; exact ⟨q0, rfl, Option.some.inj h1⟩
  refine ⟨fun i j x y hi hj hxy => ?_, fun k q hk => ?_⟩
  · obtain ⟨x0, h1, h2⟩ := key i x hi
    obtain ⟨y0, h3, h4⟩ := key j y hj
    exact h.1 i j x0 y0 h1 h3 (h2.trans (hxy.trans h4.symm))
  · obtain ⟨q0, h1, h2⟩ := key k q hk
    rw [← h2]
    exact h.2 k q0 h1
/-- cells w at the places is are wc -/
def og_pk (w : va_W) : List Nat → va_W → Prop
  | [], [] => True
  | i :: is, c :: cs => w[i]? = some c ∧ og_pk w is cs
  | _, _ => False
/-- the same addresses, one by one -/
def og_sa : va_W → va_W → Prop
  | [], [] => True
  | c :: cs, d :: ds => d.1 = c.1 ∧ og_sa cs ds
  | _, _ => False
theorem og_pk_map {w : va_W} : ∀ (is : List Nat) (wc : va_W), og_pk w is wc → is.map (fun i => w[i]?) = wc.map some
  | [], [], _ => rfl
  | i :: is, c :: cs, ⟨h1, h2⟩ => by rw [List.map_cons, List.map_cons, h1, og_pk_map is cs h2]
  | [], _ :: _, h => h.elim
  | _ :: _, [], h => h.elim
/-- where the cells behind a call come from: the callee's world (true), or the old one (false) -/
def og_src (w w1 : va_W) (is : List Nat) : List (Bool × Nat) → va_W → Prop
  | [], [] => True
  | (true, j) :: ss, c :: cs => w1[j]? = some c ∧ og_src w w1 is ss cs
  | (false, j) :: ss, c :: cs => w[j]? = some c ∧ is.contains j = false ∧ og_src w w1 is ss cs
  | _, _ => False
theorem og_src_get {w w1 : va_W} {is : List Nat} : ∀ (ss : List (Bool × Nat)) (w2 : va_W), og_src w w1 is ss w2 → ∀ (k : Nat) (q : Nat × va_E), w2[k]? = some q → (∃ j : Nat, w1[j]? = some q) ∨ ∃ j : Nat, w[j]? = some q ∧ j ∉ is
  | [], [], _, k, q, h => by simp at h
  | (true, j) :: ss, c :: cs, ⟨h1, h2⟩, k, q, h => by
    cases k with
    | zero =>
      rw [List.getElem?_cons_zero] at h
      cases h
      exact Or.inl ⟨j, h1⟩
    | succ k =>
      rw [List.getElem?_cons_succ] at h
      exact og_src_get ss cs h2 k q h
  | (false, j) :: ss, c :: cs, ⟨h1, h3, h2⟩, k, q, h => by
    cases k with
    | zero =>
      rw [List.getElem?_cons_zero] at h
      cases h
      exact Or.inr ⟨j, h1, fun hm => by rw [List.contains_iff_mem.mpr hm] at h3; cases h3⟩
    | succ k =>
      rw [List.getElem?_cons_succ] at h
      exact og_src_get ss cs h2 k q h
  | [], _ :: _, h, _, _, _ => h.elim
  | (true, _) :: _, [], h, _, _, _ => h.elim
  | (false, _) :: _, [], h, _, _, _ => h.elim
theorem og_sa_map : ∀ (w w2 : va_W), og_sa w w2 → w2.map (fun q => q.1) = w.map (fun q => q.1)
  | [], [], _ => rfl
  | c :: cs, d :: ds, ⟨h1, h2⟩ => by rw [List.map_cons, List.map_cons, h1, og_sa_map cs ds h2]
  | [], _ :: _, h => h.elim
  | _ :: _, [], h => h.elim
theorem og_src_P {D : va_G} {cl : List vw_C} {A : Nat → Prop} {w wc w1 w2 : va_W} {H H1 : Heap} (hP : va_P D cl w H) (hD : va_D A w) (is : List Nat) (hi : og_pk w is wc) (ss : List (Bool × Nat)) (hs : og_src w w1 is ss w2) (hk : ∀ q : Nat, q < H.size → ¬ va_A wc H.size q → H1[q]? = H[q]?) (hP1 : va_P D cl w1 H1) : va_P D cl w2 H1 := by
  intro k q hq
  have hC := og_pk_map is wc hi
  rcases og_src_get ss w2 hs k q hq with ⟨j, h⟩ | ⟨j, hw, hnot⟩
  · exact hP1 j q h
  · have hl := (hP j q hw).lt
    refine (hP j q hw).kept (hk q.1 hl fun z => ?_)
    rcases z with ⟨k2, e, z⟩ | z
    · have h3 : (is.map (fun i => w[i]?))[k2]? = some (some (q.1, e)) := by rw [hC, List.getElem?_map, z]; rfl
      rw [List.getElem?_map] at h3
      cases hi2 : is[k2]? with
      | none => rw [hi2] at h3; cases h3
      | some i =>
        rw [hi2] at h3
        have hij := hD.1 j i q (q.1, e) hw (Option.some.inj h3) rfl
        subst hij
        exact hnot (List.mem_of_getElem? hi2)
    · omega
section OGC
variable {p : Program} {l : Launch} {e : Env} {R : Room} {s : State} {m : MethodId} {args : Array Value} {below : List Frame} {meth : Method} {c : Code} {H : Heap} {locs : List Loc} {cells slots : Nat} {Q : State → Prop}
variable {y : MethodName} {bytes cc : ByteArray} {maxL nL n index : Nat} {ret : Option FieldType} {ws : List Cond} {rm : Room} {Ts : List Cond} {own C : String} {b : Addr} {As rest st : List Value} {pc : Nat} {ls : Array Slot} {D : va_G} {tys tc : List (ClassId × FieldType)} {w wc w1 w2 : va_W} {A : Nat → Prop} {H0 : Heap} {q : vw_C} {q0 ci : Nat} {fs : List Value}
/-- a call that only looks: int (or boolean) answer -/
theorem og_rV {r : Int32} (S : CallFix p m c cc nL s args Ts own) (hM : Met l y ws rm (og_Pr (.ref b :: As) D wc tc) (vp_Si (fun x => x = r)) 0 0 (fun _ => False)) (cw : CallW R s args own C index y bytes maxL ret ws rm 0 0 n) (hK : va_K D vwCl tys s) (hP : va_P D vwCl w H) (is ts : List Nat) (hi : og_pk w is wc) (ht : ts.filterMap (fun i => tys[i]?) = tc) (hc : vwCl[ci]? = some q) (hq : q.1 = C) (he : wc[q0]? = some (b, .inr (ci, fs)))
    (hn : As.length = n) (hsize : ls.size = nL) (hst : st = As.reverse ++ .ref b :: rest) (hW : (rest.map fun v => v.category).sum ≤ 8) (hdg : decode cc pc = .ok (.invokevirtual index, 3)) (hf : cells ≤ R.cells ∧ slots ≤ R.slots)
    (kk : W p l e R s m args below meth c H locs cells slots Q (F0 m (pc + 3) ls (.int r :: rest))) : W p l e R s m args below meth c H locs cells slots Q (F0 m pc ls st) := by
  have hPc := og_subP hP is (og_pk_map is wc hi)
  have hKc := hK.sub ts ht
  subst hq
  refine vp_callSi (rest := rest) (va_Run.run (va_runV S hM cw ⟨og_Pr_bl _ _ _ _, va_recv hKc hPc hc he, fun U hU hW2 => ⟨rfl, by rw [hU]; exact hPc, va_K.moved hW2.alike hKc⟩⟩ rfl hn hsize hst (lv_room hW) hdg hf)) (fun r' hr' => ?_)
  subst hr'
  exact kk
theorem og_rVl {r : Int64} (S : CallFix p m c cc nL s args Ts own) (hM : Met l y ws rm (og_Pr (.ref b :: As) D wc tc) (vp_Sl (fun x => x = r)) 0 0 (fun _ => False)) (cw : CallW R s args own C index y bytes maxL ret ws rm 0 0 n) (hK : va_K D vwCl tys s) (hP : va_P D vwCl w H) (is ts : List Nat) (hi : og_pk w is wc) (ht : ts.filterMap (fun i => tys[i]?) = tc) (hc : vwCl[ci]? = some q) (hq : q.1 = C) (he : wc[q0]? = some (b, .inr (ci, fs)))
    (hn : As.length = n) (hsize : ls.size = nL) (hst : st = As.reverse ++ .ref b :: rest) (hW : (rest.map fun v => v.category).sum ≤ 8) (hdg : decode cc pc = .ok (.invokevirtual index, 3)) (hf : cells ≤ R.cells ∧ slots ≤ R.slots)
    (kk : W p l e R s m args below meth c H locs cells slots Q (F0 m (pc + 3) ls (.long r :: rest))) : W p l e R s m args below meth c H locs cells slots Q (F0 m pc ls st) := by
  have hPc := og_subP hP is (og_pk_map is wc hi)
  have hKc := hK.sub ts ht
  subst hq
  refine vp_callSl (rest := rest) (va_Run.run (va_runV S hM cw ⟨og_Pr_bl _ _ _ _, va_recv hKc hPc hc he, fun U hU hW2 => ⟨rfl, by rw [hU]; exact hPc, va_K.moved hW2.alike hKc⟩⟩ rfl hn hsize hst (lv_room hW) hdg hf)) (fun r' hr' => ?_)
  subst hr'
  exact kk
/-- a static call that only looks -/
theorem og_rS {r : Int32} (S : CallFix p m c cc nL s args Ts own) (hM : Met l y ws rm (og_Pr As D wc tc) (vp_Si (fun x => x = r)) 0 0 (fun _ => False)) (cw : CallB R s args own index y bytes maxL ret ws rm 0 0 n ∧ (Cond.static y).before args s = true) (hK : va_K D vwCl tys s) (hP : va_P D vwCl w H) (is ts : List Nat) (hi : og_pk w is wc) (ht : ts.filterMap (fun i => tys[i]?) = tc)
    (hn : As.length = n) (hsize : ls.size = nL) (hst : st = As.reverse ++ rest) (hW : (rest.map fun v => v.category).sum ≤ 8) (hdg : decode cc pc = .ok (.invokestatic index, 3)) (hf : cells ≤ R.cells ∧ slots ≤ R.slots)
    (kk : W p l e R s m args below meth c H locs cells slots Q (F0 m (pc + 3) ls (.int r :: rest))) : W p l e R s m args below meth c H locs cells slots Q (F0 m pc ls st) := by
  have hPc := og_subP hP is (og_pk_map is wc hi)
  have hKc := hK.sub ts ht
  refine vp_callSi (rest := rest) (va_Run.run (va_runS S hM cw ⟨og_Pr_bl _ _ _ _, fun U hU hW2 => ⟨rfl, by rw [hU]; exact hPc, va_K.moved hW2.alike hKc⟩⟩ rfl hn hsize hst (lv_room hW) hdg hf)) (fun r' hr' => ?_)
  subst hr'
  exact kk
/-- a call that changes its cells: int (or boolean) answer -/
theorem og_wV {r : Int32} (S : CallFix p m c cc nL s args Ts own) (hM : Met l y ws rm (og_Pw (.ref b :: As) D wc tc H.size) (og_Qi D w1 tc r (va_A wc H.size)) 0 0 (va_A wc H.size)) (cw : CallW R s args own C index y bytes maxL ret ws rm 0 0 n) (hK : va_K D vwCl tys s) (hP : va_P D vwCl w H) (hD : va_D A w) (hS : va_S A H0 H locs) (hA : ∀ q, H0.size ≤ q → A q) (is ts : List Nat) (hi : og_pk w is wc) (ht : ts.filterMap (fun i => tys[i]?) = tc)
    (ss : List (Bool × Nat)) (hs : og_src w w1 is ss w2) (ha : og_sa w w2) (hnd : va_nd is = true) (hc : vwCl[ci]? = some q) (hq : q.1 = C) (he : wc[q0]? = some (b, .inr (ci, fs)))
    (hn : As.length = n) (hsize : ls.size = nL) (hst : st = As.reverse ++ .ref b :: rest) (hW : (rest.map fun v => v.category).sum ≤ 8) (hdg : decode cc pc = .ok (.invokevirtual index, 3)) (hf : cells ≤ R.cells ∧ slots ≤ R.slots)
    (kk : ∀ (H1 : Heap) (locs1 : List Loc), va_P D vwCl w2 H1 → va_D A w2 → va_S A H0 H1 locs1 → W p l e R s m args below meth c H1 locs1 cells slots Q (F0 m (pc + 3) ls (.int r :: rest))) : W p l e R s m args below meth c H locs cells slots Q (F0 m pc ls st) := by
  have hPc := og_subP hP is (og_pk_map is wc hi)
  have hKc := hK.sub ts ht
  have hDc := hD.sub is hnd (og_pk_map is wc hi)
  have hFc := va_free hD hS hA is (og_pk_map is wc hi)
  subst hq
  refine va_calli (rest := rest) (va_runV S hM cw ⟨og_Pw_bl _ _ _ _ _, va_recv hKc hPc hc he, fun U hU hW2 => ⟨rfl, by rw [hU], by rw [hU]; exact hPc, va_K.moved hW2.alike hKc, hDc.weaken (fun _ _ _ _ => trivial)⟩⟩ rfl hn hsize hst (lv_room hW) hdg hf) hS (fun q _ h => hFc q h) hFc (fun r' u t H1 locs1 ht2 hvm hw hB hz1 hk1 hS1 => ?_)
  subst hw
  obtain ⟨hP1, hK1, hD1⟩ := hB
  rw [ht2] at hP1
  exact kk H1 locs1 (og_src_P hP hD is hi ss hs hk1 hP1) (og_subD hD (og_sa_map w w2 ha)) hS1
/-- the same, without an answer -/
theorem og_wVv (S : CallFix p m c cc nL s args Ts own) (hM : Met l y ws rm (og_Pw (.ref b :: As) D wc tc H.size) (og_Qv D w1 tc (va_A wc H.size)) 0 0 (va_A wc H.size)) (cw : CallW R s args own C index y bytes maxL ret ws rm 0 0 n) (hK : va_K D vwCl tys s) (hP : va_P D vwCl w H) (hD : va_D A w) (hS : va_S A H0 H locs) (hA : ∀ q, H0.size ≤ q → A q) (is ts : List Nat) (hi : og_pk w is wc) (ht : ts.filterMap (fun i => tys[i]?) = tc)
    (ss : List (Bool × Nat)) (hs : og_src w w1 is ss w2) (ha : og_sa w w2) (hnd : va_nd is = true) (hc : vwCl[ci]? = some q) (hq : q.1 = C) (he : wc[q0]? = some (b, .inr (ci, fs)))
    (hn : As.length = n) (hsize : ls.size = nL) (hst : st = As.reverse ++ .ref b :: rest) (hW : (rest.map fun v => v.category).sum ≤ 8) (hdg : decode cc pc = .ok (.invokevirtual index, 3)) (hf : cells ≤ R.cells ∧ slots ≤ R.slots)
    (kk : ∀ (H1 : Heap) (locs1 : List Loc), va_P D vwCl w2 H1 → va_D A w2 → va_S A H0 H1 locs1 → W p l e R s m args below meth c H1 locs1 cells slots Q (F0 m (pc + 3) ls rest)) : W p l e R s m args below meth c H locs cells slots Q (F0 m pc ls st) := by
  have hPc := og_subP hP is (og_pk_map is wc hi)
  have hKc := hK.sub ts ht
  have hDc := hD.sub is hnd (og_pk_map is wc hi)
  have hFc := va_free hD hS hA is (og_pk_map is wc hi)
  subst hq
  refine va_callv (rest := rest) (va_runV S hM cw ⟨og_Pw_bl _ _ _ _ _, va_recv hKc hPc hc he, fun U hU hW2 => ⟨rfl, by rw [hU], by rw [hU]; exact hPc, va_K.moved hW2.alike hKc, hDc.weaken (fun _ _ _ _ => trivial)⟩⟩ rfl hn hsize hst (lv_room hW) hdg hf) hS (fun q _ h => hFc q h) hFc (fun u t H1 locs1 ht2 hvm hw hB hz1 hk1 hS1 => ?_)
  obtain ⟨hP1, hK1, hD1⟩ := hB
  rw [ht2] at hP1
  exact kk H1 locs1 (og_src_P hP hD is hi ss hs hk1 hP1) (og_subD hD (og_sa_map w w2 ha)) hS1
end OGC

