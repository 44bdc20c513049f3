def wF_C (a : Nat → Nat) (k : Nat → ClassId) (K_count : Int32) (K_names : (Nat → Int32)) (K_byRank : (Nat → Int32)) (K_rankOf : (Nat → Int32)) (E_count : Int32) (E_from : (Nat → Int32)) (E_to : (Nat → Int32)) (E_places : (Nat → Int32)) (E_configurations : (Nat → Int32)) (E_gone : (Nat → Int32)) (R_count : Int32) (R_asked : (Nat → Int64)) (R_reached : (Nat → Int64)) (R_shortest : (Nat → Int32)) (R_layers : (Nat → Int64)) (T_configuration : Int32) (T_ringCount : Int32) (T_keyCount : Int32) (T_partOf : (Nat → Int32)) (T_stateOf : (Nat → Int32)) (T_leastOf : (Nat → Int32)) (T_onlyIn : (Nat → Int32)) (T_starts : (Nat → Int32)) (T_ringKeys : (Nat → Int32)) (T_ringEdges : (Nat → Int32)) (A_metCount : Int32) (A_openCount : Int32) (A_metKeys : (Nat → Int32)) (A_open : (Nat → Int32)) (A_nextEdge : (Nat → Int32)) (A_wasAsked : (Nat → Int32)) : va_W := [(a 0, .inr (0, [.ref (a 1), .ref (a 5), .ref (a 11), .ref (a 16), .ref (a 24)])), (a 1, .inr (1, [.int K_count, .ref (a 2), .ref (a 3), .ref (a 4)])), (a 2, .inl (k 2, 40, .inl K_names)), (a 3, .inl (k 3, 40, .inl K_byRank)), (a 4, .inl (k 4, 40, .inl K_rankOf)), (a 5, .inr (2, [.int E_count, .ref (a 6), .ref (a 7), .ref (a 8), .ref (a 9), .ref (a 10)])), (a 6, .inl (k 6, 160, .inl E_from)), (a 7, .inl (k 7, 160, .inl E_to)), (a 8, .inl (k 8, 160, .inl E_places)), (a 9, .inl (k 9, 160, .inl E_configurations)), (a 10, .inl (k 10, 160, .inl E_gone)), (a 11, .inr (3, [.int R_count, .ref (a 12), .ref (a 13), .ref (a 14), .ref (a 15)])), (a 12, .inl (k 12, 40, .inr (.inl R_asked))), (a 13, .inl (k 13, 40, .inr (.inl R_reached))), (a 14, .inl (k 14, 40, .inl R_shortest)), (a 15, .inl (k 15, 40, .inr (.inl R_layers))), (a 16, .inr (4, [.int T_configuration, .int T_ringCount, .ref (a 17), .ref (a 18), .ref (a 19), .ref (a 20), .int T_keyCount, .ref (a 21), .ref (a 22), .ref (a 23)])), (a 17, .inl (k 17, 40, .inl T_partOf)), (a 18, .inl (k 18, 40, .inl T_stateOf)), (a 19, .inl (k 19, 40, .inl T_leastOf)), (a 20, .inl (k 20, 40, .inl T_onlyIn)), (a 21, .inl (k 21, 41, .inl T_starts)), (a 22, .inl (k 22, 40, .inl T_ringKeys)), (a 23, .inl (k 23, 40, .inl T_ringEdges)), (a 24, .inr (5, [.int A_metCount, .ref (a 25), .int A_openCount, .ref (a 26), .ref (a 27), .ref (a 28)])), (a 25, .inl (k 25, 40, .inl A_metKeys)), (a 26, .inl (k 26, 40, .inl A_open)), (a 27, .inl (k 27, 40, .inl A_nextEdge)), (a 28, .inl (k 28, 40, .inl A_wasAsked))]
def tF_C (k : Nat → ClassId) : List (ClassId × FieldType) := [(k 2, .int), (k 3, .int), (k 4, .int), (k 6, .int), (k 7, .int), (k 8, .int), (k 9, .int), (k 10, .boolean), (k 12, .long), (k 13, .long), (k 14, .int), (k 15, .long), (k 17, .int), (k 18, .int), (k 19, .int), (k 20, .int), (k 21, .int), (k 22, .int), (k 23, .int), (k 25, .int), (k 26, .int), (k 27, .int), (k 28, .boolean)]
def bF_C (dC : Nat → ClassId) (dI : Nat → Nat → Nat) (A : Nat → Prop) : ((Nat → Nat) × (Nat → ClassId)) → State → Prop := fun u t => va_P (dC, dI) vwCl (wF_C u.1 u.2 0 (fun _ => 0) (fun _ => 0) (fun _ => 0) 0 (fun _ => 0) (fun _ => 0) (fun _ => 0) (fun _ => 0) (fun _ => 0) 0 (fun _ => 0) (fun _ => 0) (fun _ => 0) (fun _ => 0) (-1) 0 0 (fun _ => 0) (fun _ => 0) (fun _ => 0) (fun _ => 0) (fun _ => 0) (fun _ => 0) (fun _ => 0) 0 0 (fun _ => 0) (fun _ => 0) (fun _ => 0) (fun _ => 0)) t.heap ∧ va_K (dC, dI) vwCl (tF_C u.2) t ∧ va_D A (wF_C u.1 u.2 0 (fun _ => 0) (fun _ => 0) (fun _ => 0) 0 (fun _ => 0) (fun _ => 0) (fun _ => 0) (fun _ => 0) (fun _ => 0) 0 (fun _ => 0) (fun _ => 0) (fun _ => 0) (fun _ => 0) (-1) 0 0 (fun _ => 0) (fun _ => 0) (fun _ => 0) (fun _ => 0) (fun _ => 0) (fun _ => 0) (fun _ => 0) 0 0 (fun _ => 0) (fun _ => 0) (fun _ => 0) (fun _ => 0))
def nw_C (U : State) : Prop := va_Nw (Cond.methodLinkNest R_C 9 y_K_init "CycleRows") U ∧ va_Nw (Cond.methodLinkNest R_C 18 y_E_init "CycleRows") U ∧ va_Nw (Cond.methodLinkNest R_C 25 y_R_init "CycleRows") U ∧ va_Nw (Cond.methodLinkNest R_C 32 y_T_init "CycleRows") U ∧ va_Nw (Cond.methodLinkNest R_C 39 y_A_init "CycleRows") U
theorem nw_C_same {u U : State} (h : u.vm = U.vm) (hn : nw_C u) : nw_C U := by
  obtain ⟨h1, h2, h3, h4, h5⟩ := hn
  exact ⟨h1.same rfl h, h2.same rfl h, h3.same rfl h, h4.same rfl h, h5.same rfl h⟩
theorem nw_C_warm {s U : State} (hW : s.WarmedH U.vm) (hn : nw_C s) : nw_C U := by
  obtain ⟨h1, h2, h3, h4, h5⟩ := hn
  exact ⟨va_Nw.warmM hW h1, va_Nw.warmM hW h2, va_Nw.warmM hW h3, va_Nw.warmM hW h4, va_Nw.warmM hW h5⟩
theorem tn_0 : Cond.methodLinkNest R_C 9 y_K_init "CycleRows" ∈ lw_tbl := List.mem_append_right _ (List.mem_of_getElem? (i := 21) (by decide +kernel))
theorem tn_1 : Cond.methodLinkNest R_C 18 y_E_init "CycleRows" ∈ lw_tbl := List.mem_append_right _ (List.mem_of_getElem? (i := 46) (by decide +kernel))
theorem tn_2 : Cond.methodLinkNest R_C 25 y_R_init "CycleRows" ∈ lw_tbl := List.mem_append_right _ (List.mem_of_getElem? (i := 78) (by decide +kernel))
theorem tn_3 : Cond.methodLinkNest R_C 32 y_T_init "CycleRows" ∈ lw_tbl := List.mem_append_right _ (List.mem_of_getElem? (i := 101) (by decide +kernel))
theorem tn_4 : Cond.methodLinkNest R_C 39 y_A_init "CycleRows" ∈ lw_tbl := List.mem_append_right _ (List.mem_of_getElem? (i := 144) (by decide +kernel))
theorem nw_C_of {s : State} {b : Nat} (hts : ∀ w ∈ lw_tbl, w.before #[Value.ref b] s = true) : nw_C s := ⟨va_Nw.of rfl (hts _ tn_0), va_Nw.of rfl (hts _ tn_1), va_Nw.of rfl (hts _ tn_2), va_Nw.of rfl (hts _ tn_3), va_Nw.of rfl (hts _ tn_4)⟩
def og_PwN (av : List Value) (D : va_G) (ws : va_W) (tys : List (ClassId × FieldType)) (sz : Nat) : Array Value → State → Prop := va_Pc av (fun U => U.heap.size = sz ∧ va_P D vwCl ws U.heap ∧ va_K D vwCl tys U ∧ va_D (fun _ => True) ws ∧ nw_C U)
theorem og_PwN_bl (av : List Value) (D : va_G) (ws : va_W) (tys : List (ClassId × FieldType)) (sz : Nat) : FrameBlind (og_PwN av D ws tys sz) := fun a U g mk q => ⟨q.1, q.2.1, q.2.2.1, va_K.moved (u := U) (U := U.calling g mk a) (Vm.Alike.refl U.vm) q.2.2.2.1, q.2.2.2.2.1, nw_C_same (u := U) (U := U.calling g mk a) rfl q.2.2.2.2.2⟩
set_option maxHeartbeats 4000000 in
set_option maxRecDepth 100000 in
theorem c_C_init (l : Launch) (dC : Nat → ClassId) (dI : Nat → Nat → Nat) (h0 sz : Nat) : Met l y_C_init ws_C_init ({ frames := 2, cells := 28, slots := 1552, locals := 32 }) (og_PwN [.ref h0] (dC, dI) [(h0, .inr (0, [.null, .null, .null, .null, .null]))] [] sz) (va_Qv (fun u : (Nat → Nat) × (Nat → ClassId) => u.1 0 = h0) (bF_C dC dI (va_A [(h0, .inr (0, [.null, .null, .null, .null, .null]))] sz)) (va_A [(h0, .inr (0, [.null, .null, .null, .null, .null]))] sz)) 28 1552 (va_A [(h0, .inr (0, [.null, .null, .null, .null, .null]))] sz) := by
  refine Met.ofW (cc := b_C_init) (maxL := 1) (ret := none) (by decide) rfl ?_
  intro p e s m args below meth c s₁ B hml hv
  obtain ⟨rfl, hsz, hP, hK, hD0, hnw1, hnw2, hnw3, hnw4, hnw5⟩ := hv
  have hx := B.exec
  have hb := B.bytes
  have hr := B.returns
  have hts0 := atoms_spec (ws := ws_C_init) B.pre
  have hts : ∀ w ∈ og_tb, w.before _ s = true := fun w h => hts0 w (List.mem_cons_of_mem _ h)
  have hown : s.vm.findClass R_C = some m.cls := findClass_of_methodNamed B.named
  have hlocks := B.notSynchronized
  have hin : meth.name = "<init>" := (name_of_methodNamed B.named B.method).1
  subst hsz
  have hD := hD0.self (sz := s.heap.size)
  generalize hAe : va_A [(h0, .inr (0, [.null, .null, .null, .null, .null]))] s.heap.size = A at hD ⊢
  have hA : ∀ q : Nat, s.heap.size ≤ q → A q := fun q h => by rw [← hAe]; exact Or.inr h
  have hS : va_S A s.heap s.heap [] := va_S.rf
  have hl := lv_entry ([.ref h0]) (n := 1) (Nat.le_of_ble_eq_true rfl)
  rw [lg_entry_eq]
  generalize (lg_sl ([.ref h0]) ++ List.replicate (1 - (lg_sl ([.ref h0])).length) Slot.unset).toArray = ls at hl ⊢
  have hl : lv_has ls 1 [(0, .ref h0)] := hl
  refine lv_aload_n hx hb d_C_init_0 rfl (lv_at hl 0 rfl) ?_
  refine W.objInit hx hb hown (hts _ tb_353) (hts _ tb_343) (hts _ tb_344) rfl (by rw [hml]; exact hl.1) rfl d_C_init_1 (Nat.le_of_ble_eq_true rfl) (Nat.le_of_ble_eq_true rfl) ?_
  refine W.eq (g2 := F0 m 4 ls []) rfl ?_
  refine lv_aload_n hx hb d_C_init_4 rfl (lv_at hl 0 rfl) ?_
  refine va_new (ci := 1) (fs := [.int 0, .null, .null, .null]) (C := R_K) (T := T_K) (N := 4) hx hb hts lay_K ty_K tyok_K hown (hts _ tb_354) (hts _ tb_355) (hts _ tb_7) hK hP hD hS hA rfl (fun j hj => by rcases (show j = 0 ∨ j = 1 ∨ j = 2 ∨ j = 3 by omega) with rfl | rfl | rfl | rfl <;> rfl) (Nat.le_of_ble_eq_true rfl) (Nat.le_of_ble_eq_true rfl) d_C_init_5 (fun q5 H hP hD hS => ?_)
  have hP : va_P (dC, dI) vwCl ([(h0, .inr (0, [.null, .null, .null, .null, .null]))] ++ [(q5, .inr (1, [.int 0, .null, .null, .null]))]) H := hP
  have hD : va_D A ([(h0, .inr (0, [.null, .null, .null, .null, .null]))] ++ [(q5, .inr (1, [.int 0, .null, .null, .null]))]) := hD
  refine W.widen (k := 1) (n := 4) (by omega) (by omega) ?_
  refine lv_dup hx hb d_C_init_8 rfl ?_
  refine og_cIN (rest := [.ref q5, .ref h0]) (w1 := fun (u : (Nat → Nat) × (Nat → ClassId)) => wF_K u.1 u.2 0 (fun _ => 0) (fun _ => 0) (fun _ => 0)) (t1 := fun (u : (Nat → Nat) × (Nat → ClassId)) => tF_K u.2) (B := bF_K dC dI (va_A [(q5, _)] H.size)) ⟨hx, hb, hml, hown, hts⟩ (c_K_init l dC dI q5 H.size) ⟨va_cnB 0 hts (og_gC tb_356) rfl rfl rfl hnw1 (hts _ tb_7) (by decide +kernel) ⟨Nat.le_of_ble_eq_true rfl, Nat.le_of_ble_eq_true rfl⟩, rfl, hts _ tb_357⟩ (fun u t h => h) hK hP hD hS hA hl.1 rfl (Nat.le_of_ble_eq_true rfl) d_C_init_9 ⟨Nat.le_of_ble_eq_true rfl, Nat.le_of_ble_eq_true rfl⟩ (fun u H9 locs9 hw hK9 hP9 hD9 hS9 => ?_)
  obtain ⟨aK, kK⟩ := u
  have hw : aK 1 = q5 := hw
  subst hw
  have hP : va_P (dC, dI) vwCl ([(h0, .inr (0, [.null, .null, .null, .null, .null]))] ++ (wF_K aK kK 0 (fun _ => 0) (fun _ => 0) (fun _ => 0))) H9 := hP9
  have hD : va_D A ([(h0, .inr (0, [.null, .null, .null, .null, .null]))] ++ (wF_K aK kK 0 (fun _ => 0) (fun _ => 0) (fun _ => 0))) := hD9
  have hK := hK9
  have hS := hS9
  clear hP9 hD9 hK9 hS9
  generalize H9 = H at hP hS ⊢
  generalize locs9 = locs at hS ⊢
  refine W.widen (k := 4) (n := 124) (by omega) (by omega) ?_
  refine va_putF (D := (dC, dI)) (ci := 0) (v := .ref (aK 1)) (ty := .object "CycleRows$Keys") (C := R_C) (T := T_C) (N := 5) hx hb hts lay_C ty_C tyok_C nm_C hown hK hP hD hS 0 rfl rfl 0 (by decide) (hts _ tb_13) (fun _ h9 => h9) rfl hin rfl (by decide +kernel) rfl rfl (Nat.le_of_ble_eq_true rfl) d_C_init_12 (fun H locs hP hD hS => ?_)
  have hP : va_P (dC, dI) vwCl ([(h0, .inr (0, [.ref (aK 1), .null, .null, .null, .null]))] ++ (wF_K aK kK 0 (fun _ => 0) (fun _ => 0) (fun _ => 0))) H := hP
  have hD : va_D A ([(h0, .inr (0, [.ref (aK 1), .null, .null, .null, .null]))] ++ (wF_K aK kK 0 (fun _ => 0) (fun _ => 0) (fun _ => 0))) := hD
  refine lv_aload_n hx hb d_C_init_15 rfl (lv_at hl 0 rfl) ?_
  refine va_new (ci := 2) (fs := [.int 0, .null, .null, .null, .null, .null]) (C := R_E) (T := T_E) (N := 6) hx hb hts lay_E ty_E tyok_E hown (hts _ tb_358) (hts _ tb_359) (hts _ tb_31) hK hP hD hS hA rfl (fun j hj => by rcases (show j = 0 ∨ j = 1 ∨ j = 2 ∨ j = 3 ∨ j = 4 ∨ j = 5 by omega) with rfl | rfl | rfl | rfl | rfl | rfl <;> rfl) (Nat.le_of_ble_eq_true rfl) (Nat.le_of_ble_eq_true rfl) d_C_init_16 (fun q16 H hP hD hS => ?_)
  have hP : va_P (dC, dI) vwCl (([(h0, .inr (0, [.ref (aK 1), .null, .null, .null, .null]))] ++ (wF_K aK kK 0 (fun _ => 0) (fun _ => 0) (fun _ => 0))) ++ [(q16, .inr (2, [.int 0, .null, .null, .null, .null, .null]))]) H := hP
  have hD : va_D A (([(h0, .inr (0, [.ref (aK 1), .null, .null, .null, .null]))] ++ (wF_K aK kK 0 (fun _ => 0) (fun _ => 0) (fun _ => 0))) ++ [(q16, .inr (2, [.int 0, .null, .null, .null, .null, .null]))]) := hD
  refine W.widen (k := 5) (n := 130) (by omega) (by omega) ?_
  refine lv_dup hx hb d_C_init_19 rfl ?_
  refine og_cIN (rest := [.ref q16, .ref h0]) (w1 := fun (u : (Nat → Nat) × (Nat → ClassId)) => wF_E u.1 u.2 0 (fun _ => 0) (fun _ => 0) (fun _ => 0) (fun _ => 0) (fun _ => 0)) (t1 := fun (u : (Nat → Nat) × (Nat → ClassId)) => tF_E u.2) (B := bF_E dC dI (va_A [(q16, _)] H.size)) ⟨hx, hb, hml, hown, hts⟩ (c_E_init l dC dI q16 H.size) ⟨va_cnB 0 hts (og_gC tb_360) rfl rfl rfl hnw2 (hts _ tb_31) (by decide +kernel) ⟨Nat.le_of_ble_eq_true rfl, Nat.le_of_ble_eq_true rfl⟩, rfl, hts _ tb_361⟩ (fun u t h => h) hK hP hD hS hA hl.1 rfl (Nat.le_of_ble_eq_true rfl) d_C_init_20 ⟨Nat.le_of_ble_eq_true rfl, Nat.le_of_ble_eq_true rfl⟩ (fun u H9 locs9 hw hK9 hP9 hD9 hS9 => ?_)
  obtain ⟨aE, kE⟩ := u
  have hw : aE 5 = q16 := hw
  subst hw
  have hP : va_P (dC, dI) vwCl (([(h0, .inr (0, [.ref (aK 1), .null, .null, .null, .null]))] ++ (wF_K aK kK 0 (fun _ => 0) (fun _ => 0) (fun _ => 0))) ++ (wF_E aE kE 0 (fun _ => 0) (fun _ => 0) (fun _ => 0) (fun _ => 0) (fun _ => 0))) H9 := hP9
  have hD : va_D A (([(h0, .inr (0, [.ref (aK 1), .null, .null, .null, .null]))] ++ (wF_K aK kK 0 (fun _ => 0) (fun _ => 0) (fun _ => 0))) ++ (wF_E aE kE 0 (fun _ => 0) (fun _ => 0) (fun _ => 0) (fun _ => 0) (fun _ => 0))) := hD9
  have hK := hK9
  have hS := hS9
  clear hP9 hD9 hK9 hS9
  generalize H9 = H at hP hS ⊢
  generalize locs9 = locs at hS ⊢
  refine W.widen (k := 10) (n := 930) (by omega) (by omega) ?_
  refine va_putF (D := (dC, dI)) (ci := 0) (v := .ref (aE 5)) (ty := .object "CycleRows$Edges") (C := R_C) (T := T_C) (N := 5) hx hb hts lay_C ty_C tyok_C nm_C hown hK hP hD hS 0 rfl rfl 1 (by decide) (hts _ tb_27) (fun _ h9 => h9) rfl hin rfl (by decide +kernel) rfl rfl (Nat.le_of_ble_eq_true rfl) d_C_init_23 (fun H locs hP hD hS => ?_)
  have hP : va_P (dC, dI) vwCl (([(h0, .inr (0, [.ref (aK 1), .ref (aE 5), .null, .null, .null]))] ++ (wF_K aK kK 0 (fun _ => 0) (fun _ => 0) (fun _ => 0))) ++ (wF_E aE kE 0 (fun _ => 0) (fun _ => 0) (fun _ => 0) (fun _ => 0) (fun _ => 0))) H := hP
  have hD : va_D A (([(h0, .inr (0, [.ref (aK 1), .ref (aE 5), .null, .null, .null]))] ++ (wF_K aK kK 0 (fun _ => 0) (fun _ => 0) (fun _ => 0))) ++ (wF_E aE kE 0 (fun _ => 0) (fun _ => 0) (fun _ => 0) (fun _ => 0) (fun _ => 0))) := hD
  refine lv_aload_n hx hb d_C_init_26 rfl (lv_at hl 0 rfl) ?_
  refine va_new (ci := 3) (fs := [.int 0, .null, .null, .null, .null]) (C := R_R) (T := T_R) (N := 5) hx hb hts lay_R ty_R tyok_R hown (hts _ tb_362) (hts _ tb_363) (hts _ tb_61) hK hP hD hS hA rfl (fun j hj => by rcases (show j = 0 ∨ j = 1 ∨ j = 2 ∨ j = 3 ∨ j = 4 by omega) with rfl | rfl | rfl | rfl | rfl <;> rfl) (Nat.le_of_ble_eq_true rfl) (Nat.le_of_ble_eq_true rfl) d_C_init_27 (fun q27 H hP hD hS => ?_)
  have hP : va_P (dC, dI) vwCl ((([(h0, .inr (0, [.ref (aK 1), .ref (aE 5), .null, .null, .null]))] ++ (wF_K aK kK 0 (fun _ => 0) (fun _ => 0) (fun _ => 0))) ++ (wF_E aE kE 0 (fun _ => 0) (fun _ => 0) (fun _ => 0) (fun _ => 0) (fun _ => 0))) ++ [(q27, .inr (3, [.int 0, .null, .null, .null, .null]))]) H := hP
  have hD : va_D A ((([(h0, .inr (0, [.ref (aK 1), .ref (aE 5), .null, .null, .null]))] ++ (wF_K aK kK 0 (fun _ => 0) (fun _ => 0) (fun _ => 0))) ++ (wF_E aE kE 0 (fun _ => 0) (fun _ => 0) (fun _ => 0) (fun _ => 0) (fun _ => 0))) ++ [(q27, .inr (3, [.int 0, .null, .null, .null, .null]))]) := hD
  refine W.widen (k := 11) (n := 935) (by omega) (by omega) ?_
  refine lv_dup hx hb d_C_init_30 rfl ?_
  refine og_cIN (rest := [.ref q27, .ref h0]) (w1 := fun (u : (Nat → Nat) × (Nat → ClassId)) => wF_R u.1 u.2 0 (fun _ => 0) (fun _ => 0) (fun _ => 0) (fun _ => 0)) (t1 := fun (u : (Nat → Nat) × (Nat → ClassId)) => tF_R u.2) (B := bF_R dC dI (va_A [(q27, _)] H.size)) ⟨hx, hb, hml, hown, hts⟩ (c_R_init l dC dI q27 H.size) ⟨va_cnB 0 hts (og_gC tb_364) rfl rfl rfl hnw3 (hts _ tb_61) (by decide +kernel) ⟨Nat.le_of_ble_eq_true rfl, Nat.le_of_ble_eq_true rfl⟩, rfl, hts _ tb_365⟩ (fun u t h => h) hK hP hD hS hA hl.1 rfl (Nat.le_of_ble_eq_true rfl) d_C_init_31 ⟨Nat.le_of_ble_eq_true rfl, Nat.le_of_ble_eq_true rfl⟩ (fun u H9 locs9 hw hK9 hP9 hD9 hS9 => ?_)
  obtain ⟨aR, kR⟩ := u
  have hw : aR 11 = q27 := hw
  subst hw
  have hP : va_P (dC, dI) vwCl ((([(h0, .inr (0, [.ref (aK 1), .ref (aE 5), .null, .null, .null]))] ++ (wF_K aK kK 0 (fun _ => 0) (fun _ => 0) (fun _ => 0))) ++ (wF_E aE kE 0 (fun _ => 0) (fun _ => 0) (fun _ => 0) (fun _ => 0) (fun _ => 0))) ++ (wF_R aR kR 0 (fun _ => 0) (fun _ => 0) (fun _ => 0) (fun _ => 0))) H9 := hP9
  have hD : va_D A ((([(h0, .inr (0, [.ref (aK 1), .ref (aE 5), .null, .null, .null]))] ++ (wF_K aK kK 0 (fun _ => 0) (fun _ => 0) (fun _ => 0))) ++ (wF_E aE kE 0 (fun _ => 0) (fun _ => 0) (fun _ => 0) (fun _ => 0) (fun _ => 0))) ++ (wF_R aR kR 0 (fun _ => 0) (fun _ => 0) (fun _ => 0) (fun _ => 0))) := hD9
  have hK := hK9
  have hS := hS9
  clear hP9 hD9 hK9 hS9
  generalize H9 = H at hP hS ⊢
  generalize locs9 = locs at hS ⊢
  refine W.widen (k := 15) (n := 1095) (by omega) (by omega) ?_
  refine va_putF (D := (dC, dI)) (ci := 0) (v := .ref (aR 11)) (ty := .object "CycleRows$Reaches") (C := R_C) (T := T_C) (N := 5) hx hb hts lay_C ty_C tyok_C nm_C hown hK hP hD hS 0 rfl rfl 2 (by decide) (hts _ tb_162) (fun _ h9 => h9) rfl hin rfl (by decide +kernel) rfl rfl (Nat.le_of_ble_eq_true rfl) d_C_init_34 (fun H locs hP hD hS => ?_)
  have hP : va_P (dC, dI) vwCl ((([(h0, .inr (0, [.ref (aK 1), .ref (aE 5), .ref (aR 11), .null, .null]))] ++ (wF_K aK kK 0 (fun _ => 0) (fun _ => 0) (fun _ => 0))) ++ (wF_E aE kE 0 (fun _ => 0) (fun _ => 0) (fun _ => 0) (fun _ => 0) (fun _ => 0))) ++ (wF_R aR kR 0 (fun _ => 0) (fun _ => 0) (fun _ => 0) (fun _ => 0))) H := hP
  have hD : va_D A ((([(h0, .inr (0, [.ref (aK 1), .ref (aE 5), .ref (aR 11), .null, .null]))] ++ (wF_K aK kK 0 (fun _ => 0) (fun _ => 0) (fun _ => 0))) ++ (wF_E aE kE 0 (fun _ => 0) (fun _ => 0) (fun _ => 0) (fun _ => 0) (fun _ => 0))) ++ (wF_R aR kR 0 (fun _ => 0) (fun _ => 0) (fun _ => 0) (fun _ => 0))) := hD
  refine lv_aload_n hx hb d_C_init_37 rfl (lv_at hl 0 rfl) ?_
  refine va_new (ci := 4) (fs := [.int 0, .int 0, .null, .null, .null, .null, .int 0, .null, .null, .null]) (C := R_T) (T := T_T) (N := 10) hx hb hts lay_T ty_T tyok_T hown (hts _ tb_366) (hts _ tb_367) (hts _ tb_106) hK hP hD hS hA rfl (fun j hj => by rcases (show j = 0 ∨ j = 1 ∨ j = 2 ∨ j = 3 ∨ j = 4 ∨ j = 5 ∨ j = 6 ∨ j = 7 ∨ j = 8 ∨ j = 9 by omega) with rfl | rfl | rfl | rfl | rfl | rfl | rfl | rfl | rfl | rfl <;> rfl) (Nat.le_of_ble_eq_true rfl) (Nat.le_of_ble_eq_true rfl) d_C_init_38 (fun q38 H hP hD hS => ?_)
  have hP : va_P (dC, dI) vwCl (((([(h0, .inr (0, [.ref (aK 1), .ref (aE 5), .ref (aR 11), .null, .null]))] ++ (wF_K aK kK 0 (fun _ => 0) (fun _ => 0) (fun _ => 0))) ++ (wF_E aE kE 0 (fun _ => 0) (fun _ => 0) (fun _ => 0) (fun _ => 0) (fun _ => 0))) ++ (wF_R aR kR 0 (fun _ => 0) (fun _ => 0) (fun _ => 0) (fun _ => 0))) ++ [(q38, .inr (4, [.int 0, .int 0, .null, .null, .null, .null, .int 0, .null, .null, .null]))]) H := hP
  have hD : va_D A (((([(h0, .inr (0, [.ref (aK 1), .ref (aE 5), .ref (aR 11), .null, .null]))] ++ (wF_K aK kK 0 (fun _ => 0) (fun _ => 0) (fun _ => 0))) ++ (wF_E aE kE 0 (fun _ => 0) (fun _ => 0) (fun _ => 0) (fun _ => 0) (fun _ => 0))) ++ (wF_R aR kR 0 (fun _ => 0) (fun _ => 0) (fun _ => 0) (fun _ => 0))) ++ [(q38, .inr (4, [.int 0, .int 0, .null, .null, .null, .null, .int 0, .null, .null, .null]))]) := hD
  refine W.widen (k := 16) (n := 1105) (by omega) (by omega) ?_
  refine lv_dup hx hb d_C_init_41 rfl ?_
  refine og_cIN (rest := [.ref q38, .ref h0]) (w1 := fun (u : (Nat → Nat) × (Nat → ClassId)) => wF_T u.1 u.2 (-1) 0 0 (fun _ => 0) (fun _ => 0) (fun _ => 0) (fun _ => 0) (fun _ => 0) (fun _ => 0) (fun _ => 0)) (t1 := fun (u : (Nat → Nat) × (Nat → ClassId)) => tF_T u.2) (B := bF_T dC dI (va_A [(q38, _)] H.size)) ⟨hx, hb, hml, hown, hts⟩ (c_T_init l dC dI q38 H.size) ⟨va_cnB 0 hts (og_gC tb_368) rfl rfl rfl hnw4 (hts _ tb_106) (by decide +kernel) ⟨Nat.le_of_ble_eq_true rfl, Nat.le_of_ble_eq_true rfl⟩, rfl, hts _ tb_369⟩ (fun u t h => h) hK hP hD hS hA hl.1 rfl (Nat.le_of_ble_eq_true rfl) d_C_init_42 ⟨Nat.le_of_ble_eq_true rfl, Nat.le_of_ble_eq_true rfl⟩ (fun u H9 locs9 hw hK9 hP9 hD9 hS9 => ?_)
  obtain ⟨aT, kT⟩ := u
  have hw : aT 16 = q38 := hw
  subst hw
  have hP : va_P (dC, dI) vwCl (((([(h0, .inr (0, [.ref (aK 1), .ref (aE 5), .ref (aR 11), .null, .null]))] ++ (wF_K aK kK 0 (fun _ => 0) (fun _ => 0) (fun _ => 0))) ++ (wF_E aE kE 0 (fun _ => 0) (fun _ => 0) (fun _ => 0) (fun _ => 0) (fun _ => 0))) ++ (wF_R aR kR 0 (fun _ => 0) (fun _ => 0) (fun _ => 0) (fun _ => 0))) ++ (wF_T aT kT (-1) 0 0 (fun _ => 0) (fun _ => 0) (fun _ => 0) (fun _ => 0) (fun _ => 0) (fun _ => 0) (fun _ => 0))) H9 := hP9
  have hD : va_D A (((([(h0, .inr (0, [.ref (aK 1), .ref (aE 5), .ref (aR 11), .null, .null]))] ++ (wF_K aK kK 0 (fun _ => 0) (fun _ => 0) (fun _ => 0))) ++ (wF_E aE kE 0 (fun _ => 0) (fun _ => 0) (fun _ => 0) (fun _ => 0) (fun _ => 0))) ++ (wF_R aR kR 0 (fun _ => 0) (fun _ => 0) (fun _ => 0) (fun _ => 0))) ++ (wF_T aT kT (-1) 0 0 (fun _ => 0) (fun _ => 0) (fun _ => 0) (fun _ => 0) (fun _ => 0) (fun _ => 0) (fun _ => 0))) := hD9
  have hK := hK9
  have hS := hS9
  clear hP9 hD9 hK9 hS9
  generalize H9 = H at hP hS ⊢
  generalize locs9 = locs at hS ⊢
  refine W.widen (k := 23) (n := 1386) (by omega) (by omega) ?_
  refine va_putF (D := (dC, dI)) (ci := 0) (v := .ref (aT 16)) (ty := .object "CycleRows$Told") (C := R_C) (T := T_C) (N := 5) hx hb hts lay_C ty_C tyok_C nm_C hown hK hP hD hS 0 rfl rfl 3 (by decide) (hts _ tb_167) (fun _ h9 => h9) rfl hin rfl (by decide +kernel) rfl rfl (Nat.le_of_ble_eq_true rfl) d_C_init_45 (fun H locs hP hD hS => ?_)
  have hP : va_P (dC, dI) vwCl (((([(h0, .inr (0, [.ref (aK 1), .ref (aE 5), .ref (aR 11), .ref (aT 16), .null]))] ++ (wF_K aK kK 0 (fun _ => 0) (fun _ => 0) (fun _ => 0))) ++ (wF_E aE kE 0 (fun _ => 0) (fun _ => 0) (fun _ => 0) (fun _ => 0) (fun _ => 0))) ++ (wF_R aR kR 0 (fun _ => 0) (fun _ => 0) (fun _ => 0) (fun _ => 0))) ++ (wF_T aT kT (-1) 0 0 (fun _ => 0) (fun _ => 0) (fun _ => 0) (fun _ => 0) (fun _ => 0) (fun _ => 0) (fun _ => 0))) H := hP
  have hD : va_D A (((([(h0, .inr (0, [.ref (aK 1), .ref (aE 5), .ref (aR 11), .ref (aT 16), .null]))] ++ (wF_K aK kK 0 (fun _ => 0) (fun _ => 0) (fun _ => 0))) ++ (wF_E aE kE 0 (fun _ => 0) (fun _ => 0) (fun _ => 0) (fun _ => 0) (fun _ => 0))) ++ (wF_R aR kR 0 (fun _ => 0) (fun _ => 0) (fun _ => 0) (fun _ => 0))) ++ (wF_T aT kT (-1) 0 0 (fun _ => 0) (fun _ => 0) (fun _ => 0) (fun _ => 0) (fun _ => 0) (fun _ => 0) (fun _ => 0))) := hD
  refine lv_aload_n hx hb d_C_init_48 rfl (lv_at hl 0 rfl) ?_
  refine va_new (ci := 5) (fs := [.int 0, .null, .int 0, .null, .null, .null]) (C := R_A) (T := T_A) (N := 6) hx hb hts lay_A ty_A tyok_A hown (hts _ tb_370) (hts _ tb_371) (hts _ tb_217) hK hP hD hS hA rfl (fun j hj => by rcases (show j = 0 ∨ j = 1 ∨ j = 2 ∨ j = 3 ∨ j = 4 ∨ j = 5 by omega) with rfl | rfl | rfl | rfl | rfl | rfl <;> rfl) (Nat.le_of_ble_eq_true rfl) (Nat.le_of_ble_eq_true rfl) d_C_init_49 (fun q49 H hP hD hS => ?_)
  have hP : va_P (dC, dI) vwCl ((((([(h0, .inr (0, [.ref (aK 1), .ref (aE 5), .ref (aR 11), .ref (aT 16), .null]))] ++ (wF_K aK kK 0 (fun _ => 0) (fun _ => 0) (fun _ => 0))) ++ (wF_E aE kE 0 (fun _ => 0) (fun _ => 0) (fun _ => 0) (fun _ => 0) (fun _ => 0))) ++ (wF_R aR kR 0 (fun _ => 0) (fun _ => 0) (fun _ => 0) (fun _ => 0))) ++ (wF_T aT kT (-1) 0 0 (fun _ => 0) (fun _ => 0) (fun _ => 0) (fun _ => 0) (fun _ => 0) (fun _ => 0) (fun _ => 0))) ++ [(q49, .inr (5, [.int 0, .null, .int 0, .null, .null, .null]))]) H := hP
  have hD : va_D A ((((([(h0, .inr (0, [.ref (aK 1), .ref (aE 5), .ref (aR 11), .ref (aT 16), .null]))] ++ (wF_K aK kK 0 (fun _ => 0) (fun _ => 0) (fun _ => 0))) ++ (wF_E aE kE 0 (fun _ => 0) (fun _ => 0) (fun _ => 0) (fun _ => 0) (fun _ => 0))) ++ (wF_R aR kR 0 (fun _ => 0) (fun _ => 0) (fun _ => 0) (fun _ => 0))) ++ (wF_T aT kT (-1) 0 0 (fun _ => 0) (fun _ => 0) (fun _ => 0) (fun _ => 0) (fun _ => 0) (fun _ => 0) (fun _ => 0))) ++ [(q49, .inr (5, [.int 0, .null, .int 0, .null, .null, .null]))]) := hD
  refine W.widen (k := 24) (n := 1392) (by omega) (by omega) ?_
  refine lv_dup hx hb d_C_init_52 rfl ?_
  refine og_cIN (rest := [.ref q49, .ref h0]) (w1 := fun (u : (Nat → Nat) × (Nat → ClassId)) => wF_A u.1 u.2 0 0 (fun _ => 0) (fun _ => 0) (fun _ => 0) (fun _ => 0)) (t1 := fun (u : (Nat → Nat) × (Nat → ClassId)) => tF_A u.2) (B := bF_A dC dI (va_A [(q49, _)] H.size)) ⟨hx, hb, hml, hown, hts⟩ (c_A_init l dC dI q49 H.size) ⟨va_cnB 0 hts (og_gC tb_372) rfl rfl rfl hnw5 (hts _ tb_217) (by decide +kernel) ⟨Nat.le_of_ble_eq_true rfl, Nat.le_of_ble_eq_true rfl⟩, rfl, hts _ tb_373⟩ (fun u t h => h) hK hP hD hS hA hl.1 rfl (Nat.le_of_ble_eq_true rfl) d_C_init_53 ⟨Nat.le_of_ble_eq_true rfl, Nat.le_of_ble_eq_true rfl⟩ (fun u H9 locs9 hw hK9 hP9 hD9 hS9 => ?_)
  obtain ⟨aA, kA⟩ := u
  have hw : aA 24 = q49 := hw
  subst hw
  have hP : va_P (dC, dI) vwCl ((((([(h0, .inr (0, [.ref (aK 1), .ref (aE 5), .ref (aR 11), .ref (aT 16), .null]))] ++ (wF_K aK kK 0 (fun _ => 0) (fun _ => 0) (fun _ => 0))) ++ (wF_E aE kE 0 (fun _ => 0) (fun _ => 0) (fun _ => 0) (fun _ => 0) (fun _ => 0))) ++ (wF_R aR kR 0 (fun _ => 0) (fun _ => 0) (fun _ => 0) (fun _ => 0))) ++ (wF_T aT kT (-1) 0 0 (fun _ => 0) (fun _ => 0) (fun _ => 0) (fun _ => 0) (fun _ => 0) (fun _ => 0) (fun _ => 0))) ++ (wF_A aA kA 0 0 (fun _ => 0) (fun _ => 0) (fun _ => 0) (fun _ => 0))) H9 := hP9
  have hD : va_D A ((((([(h0, .inr (0, [.ref (aK 1), .ref (aE 5), .ref (aR 11), .ref (aT 16), .null]))] ++ (wF_K aK kK 0 (fun _ => 0) (fun _ => 0) (fun _ => 0))) ++ (wF_E aE kE 0 (fun _ => 0) (fun _ => 0) (fun _ => 0) (fun _ => 0) (fun _ => 0))) ++ (wF_R aR kR 0 (fun _ => 0) (fun _ => 0) (fun _ => 0) (fun _ => 0))) ++ (wF_T aT kT (-1) 0 0 (fun _ => 0) (fun _ => 0) (fun _ => 0) (fun _ => 0) (fun _ => 0) (fun _ => 0) (fun _ => 0))) ++ (wF_A aA kA 0 0 (fun _ => 0) (fun _ => 0) (fun _ => 0) (fun _ => 0))) := hD9
  have hK := hK9
  have hS := hS9
  clear hP9 hD9 hK9 hS9
  generalize H9 = H at hP hS ⊢
  generalize locs9 = locs at hS ⊢
  refine W.widen (k := 28) (n := 1552) (by omega) (by omega) ?_
  refine va_putF (D := (dC, dI)) (ci := 0) (v := .ref (aA 24)) (ty := .object "CycleRows$Asking") (C := R_C) (T := T_C) (N := 5) hx hb hts lay_C ty_C tyok_C nm_C hown hK hP hD hS 0 rfl rfl 4 (by decide) (hts _ tb_241) (fun _ h9 => h9) rfl hin rfl (by decide +kernel) rfl rfl (Nat.le_of_ble_eq_true rfl) d_C_init_56 (fun H locs hP hD hS => ?_)
  have hP : va_P (dC, dI) vwCl ((((([(h0, .inr (0, [.ref (aK 1), .ref (aE 5), .ref (aR 11), .ref (aT 16), .ref (aA 24)]))] ++ (wF_K aK kK 0 (fun _ => 0) (fun _ => 0) (fun _ => 0))) ++ (wF_E aE kE 0 (fun _ => 0) (fun _ => 0) (fun _ => 0) (fun _ => 0) (fun _ => 0))) ++ (wF_R aR kR 0 (fun _ => 0) (fun _ => 0) (fun _ => 0) (fun _ => 0))) ++ (wF_T aT kT (-1) 0 0 (fun _ => 0) (fun _ => 0) (fun _ => 0) (fun _ => 0) (fun _ => 0) (fun _ => 0) (fun _ => 0))) ++ (wF_A aA kA 0 0 (fun _ => 0) (fun _ => 0) (fun _ => 0) (fun _ => 0))) H := hP
  have hD : va_D A ((((([(h0, .inr (0, [.ref (aK 1), .ref (aE 5), .ref (aR 11), .ref (aT 16), .ref (aA 24)]))] ++ (wF_K aK kK 0 (fun _ => 0) (fun _ => 0) (fun _ => 0))) ++ (wF_E aE kE 0 (fun _ => 0) (fun _ => 0) (fun _ => 0) (fun _ => 0) (fun _ => 0))) ++ (wF_R aR kR 0 (fun _ => 0) (fun _ => 0) (fun _ => 0) (fun _ => 0))) ++ (wF_T aT kT (-1) 0 0 (fun _ => 0) (fun _ => 0) (fun _ => 0) (fun _ => 0) (fun _ => 0) (fun _ => 0) (fun _ => 0))) ++ (wF_A aA kA 0 0 (fun _ => 0) (fun _ => 0) (fun _ => 0) (fun _ => 0))) := hD
  exact W.vret hx hb hr (fun t ht hW => ⟨⟨(fun j => match j with | 0 => h0 | 1 => aK 1 | 2 => aK 2 | 3 => aK 3 | 4 => aK 4 | 5 => aE 5 | 6 => aE 6 | 7 => aE 7 | 8 => aE 8 | 9 => aE 9 | 10 => aE 10 | 11 => aR 11 | 12 => aR 12 | 13 => aR 13 | 14 => aR 14 | 15 => aR 15 | 16 => aT 16 | 17 => aT 17 | 18 => aT 18 | 19 => aT 19 | 20 => aT 20 | 21 => aT 21 | 22 => aT 22 | 23 => aT 23 | 24 => aA 24 | 25 => aA 25 | 26 => aA 26 | 27 => aA 27 | 28 => aA 28 | _ => h0, fun j => match j with | 2 => kK 2 | 3 => kK 3 | 4 => kK 4 | 6 => kE 6 | 7 => kE 7 | 8 => kE 8 | 9 => kE 9 | 10 => kE 10 | 12 => kR 12 | 13 => kR 13 | 14 => kR 14 | 15 => kR 15 | 17 => kT 17 | 18 => kT 18 | 19 => kT 19 | 20 => kT 20 | 21 => kT 21 | 22 => kT 22 | 23 => kT 23 | 25 => kA 25 | 26 => kA 26 | 27 => kA 27 | 28 => kA 28 | _ => kK 2), rfl, rfl, by rw [ht]; exact hP, va_K.moved hW.alike hK, hD⟩, hS.F ht⟩) hS.2.2 d_C_init_59
