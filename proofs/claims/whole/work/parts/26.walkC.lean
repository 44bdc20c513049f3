def wC_key (a : Nat → Nat) (k : Nat → ClassId) (K_count : Int32) (K_names : (Nat → Int32)) (K_byRank : (Nat → Int32)) (K_rankOf : (Nat → Int32)) : va_W := [(a 0, .inr (0, [.ref (a 1), .ref (a 5), .ref (a 11), .ref (a 16), .ref (a 24)])), (a 1, .inr (1, [.int K_count, .ref (a 2), .ref (a 3), .ref (a 4)])), (a 2, .inl (k 2, 40, .inl K_names)), (a 3, .inl (k 3, 40, .inl K_byRank)), (a 4, .inl (k 4, 40, .inl K_rankOf))]
def tC_key (k : Nat → ClassId) : List (ClassId × FieldType) := [(k 2, .int), (k 3, .int), (k 4, .int)]
set_option maxHeartbeats 4000000 in
set_option maxRecDepth 100000 in
theorem c_C_key (l : Launch) (dC : Nat → ClassId) (dI : Nat → Nat → Nat) (a : Nat → Nat) (k : Nat → ClassId) (sz : Nat) (K_count : Int32) (K_names : (Nat → Int32)) (K_byRank : (Nat → Int32)) (K_rankOf : (Nat → Int32)) (p1 : Int32) (y : Int32 × Int32 × (Nat → Int32) × (Nat → Int32) × (Nat → Int32)) (hf : fC_key K_count K_names K_byRank K_rankOf p1 = some y) : Met l y_C_key ws_C_key ({ frames := 2, cells := 0, slots := 0, locals := 45 }) (og_Pw [.ref (a 0), .int p1] (dC, dI) (wC_key a k K_count K_names K_byRank K_rankOf) (tC_key k) sz) (og_Qi (dC, dI) (wC_key a k y.2.1 y.2.2.1 y.2.2.2.1 y.2.2.2.2) (tC_key k) y.1 (va_A (wC_key a k K_count K_names K_byRank K_rankOf) sz)) 0 0 (va_A (wC_key a k K_count K_names K_byRank K_rankOf) sz) := by
  refine Met.ofW (cc := b_C_key) (maxL := 2) (ret := (some .int)) (by decide) rfl ?_
  intro p e s m args below meth c s₁ B hml hv
  obtain ⟨rfl, hsz, hP, hK, hD0⟩ := hv
  have hx := B.exec
  have hb := B.bytes
  have hr := B.returns
  have hts0 := atoms_spec (ws := ws_C_key) B.pre
  have hts : ∀ w ∈ og_tb, w.before _ s = true := fun w h => hts0 w (List.mem_cons_of_mem _ h)
  have hown : s.vm.findClass R_C = some m.cls := findClass_of_methodNamed B.named
  have hlocks := B.notSynchronized
  subst hsz
  have hD := hD0.self (sz := s.heap.size)
  generalize hAe : va_A (wC_key a k K_count K_names K_byRank K_rankOf) s.heap.size = A at hD ⊢
  have hA : ∀ q : Nat, s.heap.size ≤ q → A q := fun q h => by rw [← hAe]; exact Or.inr h
  have hS : va_S A s.heap s.heap [] := va_S.rf
  have hl := lv_entry ([.ref (a 0), .int p1]) (n := 2) (Nat.le_of_ble_eq_true rfl)
  rw [lg_entry_eq]
  generalize (lg_sl ([.ref (a 0), .int p1]) ++ List.replicate (2 - (lg_sl ([.ref (a 0), .int p1])).length) Slot.unset).toArray = ls at hl ⊢
  have hl : lv_has ls 2 [(0, .ref (a 0)), (1, .int p1)] := hl
  rw [fC_key] at hf
  refine lv_aload_n hx hb d_C_key_0 rfl (lv_at hl 0 rfl) ?_
  refine vg_C_keys (v := .ref (a 1)) hx hb hts hown hK hP 0 rfl (hts _ tb_13) rfl d_C_key_1 ?_
  refine lv_iload_n hx hb d_C_key_4 rfl (lv_at hl 1 rfl) ?_
  obtain ⟨r5, e_5, hf⟩ := og_b hf
  refine og_wV (w := (wC_key a k K_count K_names K_byRank K_rankOf)) (w2 := (wC_key a k r5.2.1 r5.2.2.1 r5.2.2.2.1 r5.2.2.2.2)) (As := [.int p1]) (rest := []) (ci := 1) (q0 := 0) ⟨hx, hb, hml, hown, hts⟩ (c_K_add l dC dI a k _ K_count K_names K_byRank K_rankOf p1 r5 e_5) (cwV 1 hts (og_gV tb_14 tb_15 tb_16 tb_7 tb_17) rfl rfl rfl (by decide +kernel) ⟨Nat.le_of_ble_eq_true rfl, Nat.le_of_ble_eq_true rfl⟩) hK hP hD hS hA [1, 2, 3, 4] [0, 1, 2] ⟨rfl, rfl, rfl, rfl, trivial⟩ rfl [(false, 0), (true, 0), (true, 1), (true, 2), (true, 3)] ⟨rfl, rfl, rfl, rfl, rfl, rfl, trivial⟩ ⟨rfl, rfl, rfl, rfl, rfl, trivial⟩ (by decide) rfl rfl rfl rfl hl.1 rfl (Nat.le_of_ble_eq_true rfl) d_C_key_5 ⟨Nat.zero_le _, Nat.zero_le _⟩ (fun H locs hP hD hS => ?_)
  obtain rfl := Option.some.inj hf
  exact W.iret (v := r5.1) hx hb hr (fun t ht hW => ⟨⟨r5.1, (), rfl, rfl, by rw [ht]; exact hP, va_K.moved hW.alike hK, hD⟩, hS.F ht⟩) hS.2.2 d_C_key_8
def wC_edge (a : Nat → Nat) (k : Nat → ClassId) (K_count : Int32) (E_count : Int32) (E_from : (Nat → Int32)) (E_to : (Nat → Int32)) (E_places : (Nat → Int32)) (E_configurations : (Nat → Int32)) : va_W := [(a 0, .inr (0, [.ref (a 1), .ref (a 5), .ref (a 11), .ref (a 16), .ref (a 24)])), (a 1, .inr (1, [.int K_count, .ref (a 2), .ref (a 3), .ref (a 4)])), (a 5, .inr (2, [.int E_count, .ref (a 6), .ref (a 7), .ref (a 8), .ref (a 9), .ref (a 10)])), (a 6, .inl (k 6, 160, .inl E_from)), (a 7, .inl (k 7, 160, .inl E_to)), (a 8, .inl (k 8, 160, .inl E_places)), (a 9, .inl (k 9, 160, .inl E_configurations))]
def tC_edge (k : Nat → ClassId) : List (ClassId × FieldType) := [(k 6, .int), (k 7, .int), (k 8, .int), (k 9, .int)]
set_option maxHeartbeats 4000000 in
set_option maxRecDepth 100000 in
theorem c_C_edge (l : Launch) (dC : Nat → ClassId) (dI : Nat → Nat → Nat) (a : Nat → Nat) (k : Nat → ClassId) (sz : Nat) (K_count : Int32) (E_count : Int32) (E_from : (Nat → Int32)) (E_to : (Nat → Int32)) (E_places : (Nat → Int32)) (E_configurations : (Nat → Int32)) (p1 : Int32) (p2 : Int32) (p3 : Int32) (p4 : Int32) (y : Int32 × Int32 × (Nat → Int32) × (Nat → Int32) × (Nat → Int32) × (Nat → Int32)) (hf : fC_edge K_count E_count E_from E_to E_places E_configurations p1 p2 p3 p4 = some y) : Met l y_C_edge ws_C_edge ({ frames := 1, cells := 0, slots := 0, locals := 25 }) (og_Pw [.ref (a 0), .int p1, .int p2, .int p3, .int p4] (dC, dI) (wC_edge a k K_count E_count E_from E_to E_places E_configurations) (tC_edge k) sz) (og_Qi (dC, dI) (wC_edge a k K_count y.2.1 y.2.2.1 y.2.2.2.1 y.2.2.2.2.1 y.2.2.2.2.2) (tC_edge k) y.1 (va_A (wC_edge a k K_count E_count E_from E_to E_places E_configurations) sz)) 0 0 (va_A (wC_edge a k K_count E_count E_from E_to E_places E_configurations) sz) := by
  refine Met.ofW (cc := b_C_edge) (maxL := 5) (ret := (some .int)) (by decide) rfl ?_
  intro p e s m args below meth c s₁ B hml hv
  obtain ⟨rfl, hsz, hP, hK, hD0⟩ := hv
  have hx := B.exec
  have hb := B.bytes
  have hr := B.returns
  have hts0 := atoms_spec (ws := ws_C_edge) B.pre
  have hts : ∀ w ∈ og_tb, w.before _ s = true := fun w h => hts0 w (List.mem_cons_of_mem _ h)
  have hown : s.vm.findClass R_C = some m.cls := findClass_of_methodNamed B.named
  have hlocks := B.notSynchronized
  subst hsz
  have hD := hD0.self (sz := s.heap.size)
  generalize hAe : va_A (wC_edge a k K_count E_count E_from E_to E_places E_configurations) s.heap.size = A at hD ⊢
  have hA : ∀ q : Nat, s.heap.size ≤ q → A q := fun q h => by rw [← hAe]; exact Or.inr h
  have hS : va_S A s.heap s.heap [] := va_S.rf
  have hl := lv_entry ([.ref (a 0), .int p1, .int p2, .int p3, .int p4]) (n := 5) (Nat.le_of_ble_eq_true rfl)
  rw [lg_entry_eq]
  generalize (lg_sl ([.ref (a 0), .int p1, .int p2, .int p3, .int p4]) ++ List.replicate (5 - (lg_sl ([.ref (a 0), .int p1, .int p2, .int p3, .int p4])).length) Slot.unset).toArray = ls at hl ⊢
  have hl : lv_has ls 5 [(0, .ref (a 0)), (1, .int p1), (2, .int p2), (3, .int p3), (4, .int p4)] := hl
  rw [fC_edge] at hf
  refine lv_aload_n hx hb d_C_edge_0 rfl (lv_at hl 0 rfl) ?_
  refine vg_C_keys (v := .ref (a 1)) hx hb hts hown hK hP 0 rfl (hts _ tb_13) rfl d_C_edge_1 ?_
  refine lv_iload_n hx hb d_C_edge_4 rfl (lv_at hl 1 rfl) ?_
  obtain ⟨r5, e_5, hf⟩ := og_b hf
  refine og_rV (w := (wC_edge a k K_count E_count E_from E_to E_places E_configurations)) (As := [.int p1]) (rest := []) (ci := 1) (q0 := 0) ⟨hx, hb, hml, hown, hts⟩ (c_K_has l dC dI a k K_count p1 r5 e_5) (cwV 1 hts (og_gV tb_23 tb_24 tb_25 tb_7 tb_26) rfl rfl rfl (by decide +kernel) ⟨Nat.le_of_ble_eq_true rfl, Nat.le_of_ble_eq_true rfl⟩) hK hP [1] [] ⟨rfl, trivial⟩ rfl rfl rfl rfl rfl hl.1 rfl (Nat.le_of_ble_eq_true rfl) d_C_edge_5 ⟨Nat.zero_le _, Nat.zero_le _⟩ ?_
  refine lv_if_eq (tgt := 22) hx hb d_C_edge_8 (by decide) (fun c_8 => ?_) (fun c_8 => ?_)
  · have hf := og_t hf c_8
    refine lv_iconst (v := (-1)) hx hb d_C_edge_22 (by decide) ?_
    obtain rfl := Option.some.inj hf
    exact W.iret (v := (-1)) hx hb hr (fun t ht hW => ⟨⟨(-1), (), rfl, rfl, by rw [ht]; exact hP, va_K.moved hW.alike hK, hD⟩, hS.F ht⟩) hS.2.2 d_C_edge_23
  · have hf := og_f hf c_8
    refine lv_aload_n hx hb d_C_edge_11 rfl (lv_at hl 0 rfl) ?_
    refine vg_C_keys (v := .ref (a 1)) hx hb hts hown hK hP 0 rfl (hts _ tb_13) rfl d_C_edge_12 ?_
    refine lv_iload_n hx hb d_C_edge_15 rfl (lv_at hl 2 rfl) ?_
    obtain ⟨r16, e_16, hf⟩ := og_b hf
    refine og_rV (w := (wC_edge a k K_count E_count E_from E_to E_places E_configurations)) (As := [.int p2]) (rest := []) (ci := 1) (q0 := 0) ⟨hx, hb, hml, hown, hts⟩ (c_K_has l dC dI a k K_count p2 r16 e_16) (cwV 1 hts (og_gV tb_23 tb_24 tb_25 tb_7 tb_26) rfl rfl rfl (by decide +kernel) ⟨Nat.le_of_ble_eq_true rfl, Nat.le_of_ble_eq_true rfl⟩) hK hP [1] [] ⟨rfl, trivial⟩ rfl rfl rfl rfl rfl hl.1 rfl (Nat.le_of_ble_eq_true rfl) d_C_edge_16 ⟨Nat.zero_le _, Nat.zero_le _⟩ ?_
    refine lv_if_ne (tgt := 24) hx hb d_C_edge_19 (by decide) (fun c_19 => ?_) (fun c_19 => ?_)
    · have hf := og_f hf c_19
      refine lv_aload_n hx hb d_C_edge_24 rfl (lv_at hl 0 rfl) ?_
      refine vg_C_edges (v := .ref (a 5)) hx hb hts hown hK hP 0 rfl (hts _ tb_27) rfl d_C_edge_25 ?_
      refine lv_iload_n hx hb d_C_edge_28 rfl (lv_at hl 1 rfl) ?_
      refine lv_iload_n hx hb d_C_edge_29 rfl (lv_at hl 2 rfl) ?_
      refine lv_iload_n hx hb d_C_edge_30 rfl (lv_at hl 3 rfl) ?_
      refine lv_iload hx hb d_C_edge_31 (lv_at hl 4 rfl) ?_
      obtain ⟨r33, e_33, hf⟩ := og_b hf
      refine og_wV (w := (wC_edge a k K_count E_count E_from E_to E_places E_configurations)) (w2 := (wC_edge a k K_count r33.2.1 r33.2.2.1 r33.2.2.2.1 r33.2.2.2.2.1 r33.2.2.2.2.2)) (As := [.int p1, .int p2, .int p3, .int p4]) (rest := []) (ci := 2) (q0 := 0) ⟨hx, hb, hml, hown, hts⟩ (c_E_add l dC dI a k _ E_count E_from E_to E_places E_configurations p1 p2 p3 p4 r33 e_33) (cwV 4 hts (og_gV tb_28 tb_29 tb_30 tb_31 tb_32) rfl rfl rfl (by decide +kernel) ⟨Nat.le_of_ble_eq_true rfl, Nat.le_of_ble_eq_true rfl⟩) hK hP hD hS hA [2, 3, 4, 5, 6] [0, 1, 2, 3] ⟨rfl, rfl, rfl, rfl, rfl, trivial⟩ rfl [(false, 0), (false, 1), (true, 0), (true, 1), (true, 2), (true, 3), (true, 4)] ⟨rfl, rfl, rfl, rfl, rfl, rfl, rfl, rfl, rfl, trivial⟩ ⟨rfl, rfl, rfl, rfl, rfl, rfl, rfl, trivial⟩ (by decide) rfl rfl rfl rfl hl.1 rfl (Nat.le_of_ble_eq_true rfl) d_C_edge_33 ⟨Nat.zero_le _, Nat.zero_le _⟩ (fun H locs hP hD hS => ?_)
      obtain rfl := Option.some.inj hf
      exact W.iret (v := r33.1) hx hb hr (fun t ht hW => ⟨⟨r33.1, (), rfl, rfl, by rw [ht]; exact hP, va_K.moved hW.alike hK, hD⟩, hS.F ht⟩) hS.2.2 d_C_edge_36
    · have hf := og_t hf c_19
      refine lv_iconst (v := (-1)) hx hb d_C_edge_22 (by decide) ?_
      obtain rfl := Option.some.inj hf
      exact W.iret (v := (-1)) hx hb hr (fun t ht hW => ⟨⟨(-1), (), rfl, rfl, by rw [ht]; exact hP, va_K.moved hW.alike hK, hD⟩, hS.F ht⟩) hS.2.2 d_C_edge_23
def wC_remove (a : Nat → Nat) (k : Nat → ClassId) (E_count : Int32) (E_from : (Nat → Int32)) (E_to : (Nat → Int32)) (E_gone : (Nat → Int32)) : va_W := [(a 0, .inr (0, [.ref (a 1), .ref (a 5), .ref (a 11), .ref (a 16), .ref (a 24)])), (a 5, .inr (2, [.int E_count, .ref (a 6), .ref (a 7), .ref (a 8), .ref (a 9), .ref (a 10)])), (a 6, .inl (k 6, 160, .inl E_from)), (a 7, .inl (k 7, 160, .inl E_to)), (a 10, .inl (k 10, 160, .inl E_gone))]
def tC_remove (k : Nat → ClassId) : List (ClassId × FieldType) := [(k 6, .int), (k 7, .int), (k 10, .boolean)]
set_option maxHeartbeats 4000000 in
set_option maxRecDepth 100000 in
theorem c_C_remove (l : Launch) (dC : Nat → ClassId) (dI : Nat → Nat → Nat) (a : Nat → Nat) (k : Nat → ClassId) (sz : Nat) (E_count : Int32) (E_from : (Nat → Int32)) (E_to : (Nat → Int32)) (E_gone : (Nat → Int32)) (p1 : Int32) (p2 : Int32) (y : Int32 × (Nat → Int32)) (hf : fC_remove E_count E_from E_to E_gone p1 p2 = some y) : Met l y_C_remove ws_C_remove ({ frames := 3, cells := 0, slots := 0, locals := 66 }) (og_Pw [.ref (a 0), .int p1, .int p2] (dC, dI) (wC_remove a k E_count E_from E_to E_gone) (tC_remove k) sz) (og_Qi (dC, dI) (wC_remove a k E_count E_from E_to y.2) (tC_remove k) y.1 (va_A (wC_remove a k E_count E_from E_to E_gone) sz)) 0 0 (va_A (wC_remove a k E_count E_from E_to E_gone) sz) := by
  refine Met.ofW (cc := b_C_remove) (maxL := 3) (ret := (some .int)) (by decide) rfl ?_
  intro p e s m args below meth c s₁ B hml hv
  obtain ⟨rfl, hsz, hP, hK, hD0⟩ := hv
  have hx := B.exec
  have hb := B.bytes
  have hr := B.returns
  have hts0 := atoms_spec (ws := ws_C_remove) B.pre
  have hts : ∀ w ∈ og_tb, w.before _ s = true := fun w h => hts0 w (List.mem_cons_of_mem _ h)
  have hown : s.vm.findClass R_C = some m.cls := findClass_of_methodNamed B.named
  have hlocks := B.notSynchronized
  subst hsz
  have hD := hD0.self (sz := s.heap.size)
  generalize hAe : va_A (wC_remove a k E_count E_from E_to E_gone) s.heap.size = A at hD ⊢
  have hA : ∀ q : Nat, s.heap.size ≤ q → A q := fun q h => by rw [← hAe]; exact Or.inr h
  have hS : va_S A s.heap s.heap [] := va_S.rf
  have hl := lv_entry ([.ref (a 0), .int p1, .int p2]) (n := 3) (Nat.le_of_ble_eq_true rfl)
  rw [lg_entry_eq]
  generalize (lg_sl ([.ref (a 0), .int p1, .int p2]) ++ List.replicate (3 - (lg_sl ([.ref (a 0), .int p1, .int p2])).length) Slot.unset).toArray = ls at hl ⊢
  have hl : lv_has ls 3 [(0, .ref (a 0)), (1, .int p1), (2, .int p2)] := hl
  rw [fC_remove] at hf
  refine lv_aload_n hx hb d_C_remove_0 rfl (lv_at hl 0 rfl) ?_
  refine vg_C_edges (v := .ref (a 5)) hx hb hts hown hK hP 0 rfl (hts _ tb_27) rfl d_C_remove_1 ?_
  refine lv_iload_n hx hb d_C_remove_4 rfl (lv_at hl 1 rfl) ?_
  refine lv_iload_n hx hb d_C_remove_5 rfl (lv_at hl 2 rfl) ?_
  obtain ⟨r6, e_6, hf⟩ := og_b hf
  refine og_wV (w := (wC_remove a k E_count E_from E_to E_gone)) (w2 := (wC_remove a k E_count E_from E_to r6.2)) (As := [.int p1, .int p2]) (rest := []) (ci := 2) (q0 := 0) ⟨hx, hb, hml, hown, hts⟩ (c_E_dropBetween l dC dI a k _ E_count E_from E_to E_gone p1 p2 r6 e_6) (cwV 2 hts (og_gV tb_46 tb_47 tb_48 tb_31 tb_49) rfl rfl rfl (by decide +kernel) ⟨Nat.le_of_ble_eq_true rfl, Nat.le_of_ble_eq_true rfl⟩) hK hP hD hS hA [1, 2, 3, 4] [0, 1, 2] ⟨rfl, rfl, rfl, rfl, trivial⟩ rfl [(false, 0), (true, 0), (true, 1), (true, 2), (true, 3)] ⟨rfl, rfl, rfl, rfl, rfl, rfl, trivial⟩ ⟨rfl, rfl, rfl, rfl, rfl, trivial⟩ (by decide) rfl rfl rfl rfl hl.1 rfl (Nat.le_of_ble_eq_true rfl) d_C_remove_6 ⟨Nat.zero_le _, Nat.zero_le _⟩ (fun H locs hP hD hS => ?_)
  obtain rfl := Option.some.inj hf
  exact W.iret (v := r6.1) hx hb hr (fun t ht hW => ⟨⟨r6.1, (), rfl, rfl, by rw [ht]; exact hP, va_K.moved hW.alike hK, hD⟩, hS.F ht⟩) hS.2.2 d_C_remove_9
def wC_cut (a : Nat → Nat) (k : Nat → ClassId) (E_count : Int32) (E_gone : (Nat → Int32)) : va_W := [(a 0, .inr (0, [.ref (a 1), .ref (a 5), .ref (a 11), .ref (a 16), .ref (a 24)])), (a 5, .inr (2, [.int E_count, .ref (a 6), .ref (a 7), .ref (a 8), .ref (a 9), .ref (a 10)])), (a 10, .inl (k 10, 160, .inl E_gone))]
def tC_cut (k : Nat → ClassId) : List (ClassId × FieldType) := [(k 10, .boolean)]
set_option maxHeartbeats 4000000 in
set_option maxRecDepth 100000 in
theorem c_C_cut (l : Launch) (dC : Nat → ClassId) (dI : Nat → Nat → Nat) (a : Nat → Nat) (k : Nat → ClassId) (sz : Nat) (E_count : Int32) (E_gone : (Nat → Int32)) (p1 : Int32) (y : Int32 × (Nat → Int32)) (hf : fC_cut E_count E_gone p1 = some y) : Met l y_C_cut ws_C_cut ({ frames := 2, cells := 0, slots := 0, locals := 42 }) (og_Pw [.ref (a 0), .int p1] (dC, dI) (wC_cut a k E_count E_gone) (tC_cut k) sz) (og_Qi (dC, dI) (wC_cut a k E_count y.2) (tC_cut k) y.1 (va_A (wC_cut a k E_count E_gone) sz)) 0 0 (va_A (wC_cut a k E_count E_gone) sz) := by
  refine Met.ofW (cc := b_C_cut) (maxL := 2) (ret := (some .boolean)) (by decide) rfl ?_
  intro p e s m args below meth c s₁ B hml hv
  obtain ⟨rfl, hsz, hP, hK, hD0⟩ := hv
  have hx := B.exec
  have hb := B.bytes
  have hr := B.returns
  have hts0 := atoms_spec (ws := ws_C_cut) B.pre
  have hts : ∀ w ∈ og_tb, w.before _ s = true := fun w h => hts0 w (List.mem_cons_of_mem _ h)
  have hown : s.vm.findClass R_C = some m.cls := findClass_of_methodNamed B.named
  have hlocks := B.notSynchronized
  subst hsz
  have hD := hD0.self (sz := s.heap.size)
  generalize hAe : va_A (wC_cut a k E_count E_gone) s.heap.size = A at hD ⊢
  have hA : ∀ q : Nat, s.heap.size ≤ q → A q := fun q h => by rw [← hAe]; exact Or.inr h
  have hS : va_S A s.heap s.heap [] := va_S.rf
  have hl := lv_entry ([.ref (a 0), .int p1]) (n := 2) (Nat.le_of_ble_eq_true rfl)
  rw [lg_entry_eq]
  generalize (lg_sl ([.ref (a 0), .int p1]) ++ List.replicate (2 - (lg_sl ([.ref (a 0), .int p1])).length) Slot.unset).toArray = ls at hl ⊢
  have hl : lv_has ls 2 [(0, .ref (a 0)), (1, .int p1)] := hl
  rw [fC_cut] at hf
  refine lv_aload_n hx hb d_C_cut_0 rfl (lv_at hl 0 rfl) ?_
  refine vg_C_edges (v := .ref (a 5)) hx hb hts hown hK hP 0 rfl (hts _ tb_27) rfl d_C_cut_1 ?_
  refine lv_iload_n hx hb d_C_cut_4 rfl (lv_at hl 1 rfl) ?_
  obtain ⟨r5, e_5, hf⟩ := og_b hf
  refine og_wV (w := (wC_cut a k E_count E_gone)) (w2 := (wC_cut a k E_count r5.2)) (As := [.int p1]) (rest := []) (ci := 2) (q0 := 0) ⟨hx, hb, hml, hown, hts⟩ (c_E_drop l dC dI a k _ E_count E_gone p1 r5 e_5) (cwV 1 hts (og_gV tb_50 tb_43 tb_44 tb_31 tb_45) rfl rfl rfl (by decide +kernel) ⟨Nat.le_of_ble_eq_true rfl, Nat.le_of_ble_eq_true rfl⟩) hK hP hD hS hA [1, 2] [0] ⟨rfl, rfl, trivial⟩ rfl [(false, 0), (true, 0), (true, 1)] ⟨rfl, rfl, rfl, rfl, trivial⟩ ⟨rfl, rfl, rfl, trivial⟩ (by decide) rfl rfl rfl rfl hl.1 rfl (Nat.le_of_ble_eq_true rfl) d_C_cut_5 ⟨Nat.zero_le _, Nat.zero_le _⟩ (fun H locs hP hD hS => ?_)
  obtain ⟨h_b, hf⟩ := og_bl_s hf
  obtain rfl := Option.some.inj hf
  exact W.zret (v := r5.1) hx hb hr h_b (fun t ht hW => ⟨⟨r5.1, (), rfl, rfl, by rw [ht]; exact hP, va_K.moved hW.alike hK, hD⟩, hS.F ht⟩) hS.2.2 d_C_cut_8
def wC_size (a : Nat → Nat) (k : Nat → ClassId) (T_configuration : Int32) (T_ringCount : Int32) (T_keyCount : Int32) (T_starts : (Nat → Int32)) : va_W := [(a 0, .inr (0, [.ref (a 1), .ref (a 5), .ref (a 11), .ref (a 16), .ref (a 24)])), (a 16, .inr (4, [.int T_configuration, .int T_ringCount, .ref (a 17), .ref (a 18), .ref (a 19), .ref (a 20), .int T_keyCount, .ref (a 21), .ref (a 22), .ref (a 23)])), (a 21, .inl (k 21, 41, .inl T_starts))]
def tC_size (k : Nat → ClassId) : List (ClassId × FieldType) := [(k 21, .int)]
set_option maxHeartbeats 4000000 in
set_option maxRecDepth 100000 in
theorem c_C_size (l : Launch) (dC : Nat → ClassId) (dI : Nat → Nat → Nat) (a : Nat → Nat) (k : Nat → ClassId) (T_configuration : Int32) (T_ringCount : Int32) (T_keyCount : Int32) (T_starts : (Nat → Int32)) (p1 : Int32) (y : Int32) (hf : fC_size T_ringCount T_starts p1 = some y) : Met l y_C_size ws_C_size ({ frames := 1, cells := 0, slots := 0, locals := 21 }) (og_Pr [.ref (a 0), .int p1] (dC, dI) (wC_size a k T_configuration T_ringCount T_keyCount T_starts) (tC_size k)) (vp_Si (fun x => x = y)) 0 0 (fun _ => False) := by
  refine Met.ofW (cc := b_C_size) (maxL := 2) (ret := (some .int)) (by decide) rfl ?_
  intro p e s m args below meth c s₁ B hml hv
  obtain ⟨rfl, hP, hK⟩ := hv
  have hx := B.exec
  have hb := B.bytes
  have hr := B.returns
  have hts0 := atoms_spec (ws := ws_C_size) B.pre
  have hts : ∀ w ∈ og_tb, w.before _ s = true := fun w h => hts0 w (List.mem_cons_of_mem _ h)
  have hown : s.vm.findClass R_C = some m.cls := findClass_of_methodNamed B.named
  have hlocks := B.notSynchronized
  have hl := lv_entry ([.ref (a 0), .int p1]) (n := 2) (Nat.le_of_ble_eq_true rfl)
  rw [lg_entry_eq]
  generalize (lg_sl ([.ref (a 0), .int p1]) ++ List.replicate (2 - (lg_sl ([.ref (a 0), .int p1])).length) Slot.unset).toArray = ls at hl ⊢
  have hl : lv_has ls 2 [(0, .ref (a 0)), (1, .int p1)] := hl
  rw [fC_size] at hf
  refine lv_aload_n hx hb d_C_size_0 rfl (lv_at hl 0 rfl) ?_
  refine vg_C_told (v := .ref (a 16)) hx hb hts hown hK hP 0 rfl (hts _ tb_167) rfl d_C_size_1 ?_
  refine lv_iload_n hx hb d_C_size_4 rfl (lv_at hl 1 rfl) ?_
  obtain ⟨r5, e_5, hf⟩ := og_b hf
  refine og_rV (w := (wC_size a k T_configuration T_ringCount T_keyCount T_starts)) (As := [.int p1]) (rest := []) (ci := 4) (q0 := 0) ⟨hx, hb, hml, hown, hts⟩ (c_T_hasRing l dC dI a k T_configuration T_ringCount T_keyCount p1 r5 e_5) (cwV 1 hts (og_gV tb_173 tb_174 tb_175 tb_106 tb_176) rfl rfl rfl (by decide +kernel) ⟨Nat.le_of_ble_eq_true rfl, Nat.le_of_ble_eq_true rfl⟩) hK hP [1] [] ⟨rfl, trivial⟩ rfl rfl rfl rfl rfl hl.1 rfl (Nat.le_of_ble_eq_true rfl) d_C_size_5 ⟨Nat.zero_le _, Nat.zero_le _⟩ ?_
  refine lv_if_eq (tgt := 22) hx hb d_C_size_8 (by decide) (fun c_8 => ?_) (fun c_8 => ?_)
  · have hf := og_t hf c_8
    refine lv_iconst (v := 0) hx hb d_C_size_22 (by decide) ?_
    obtain rfl := Option.some.inj hf
    exact W.iret (v := 0) hx hb hr (fun t ht hW => ⟨0, rfl, rfl, ht⟩) (fun _ h => absurd h List.not_mem_nil) d_C_size_23
  · have hf := og_f hf c_8
    refine lv_aload_n hx hb d_C_size_11 rfl (lv_at hl 0 rfl) ?_
    refine vg_C_told (v := .ref (a 16)) hx hb hts hown hK hP 0 rfl (hts _ tb_167) rfl d_C_size_12 ?_
    refine lv_iload_n hx hb d_C_size_15 rfl (lv_at hl 1 rfl) ?_
    obtain ⟨r16, e_16, hf⟩ := og_b hf
    refine og_rV (w := (wC_size a k T_configuration T_ringCount T_keyCount T_starts)) (As := [.int p1]) (rest := []) (ci := 4) (q0 := 0) ⟨hx, hb, hml, hown, hts⟩ (c_T_length l dC dI a k T_configuration T_ringCount T_keyCount T_starts p1 r16 e_16) (cwV 1 hts (og_gV tb_177 tb_178 tb_179 tb_106 tb_180) rfl rfl rfl (by decide +kernel) ⟨Nat.le_of_ble_eq_true rfl, Nat.le_of_ble_eq_true rfl⟩) hK hP [1, 2] [0] ⟨rfl, rfl, trivial⟩ rfl rfl rfl rfl rfl hl.1 rfl (Nat.le_of_ble_eq_true rfl) d_C_size_16 ⟨Nat.zero_le _, Nat.zero_le _⟩ ?_
    refine lv_goto (tgt := 23) hx hb d_C_size_19 (by decide) ?_
    obtain rfl := Option.some.inj hf
    exact W.iret (v := r16) hx hb hr (fun t ht hW => ⟨r16, rfl, rfl, ht⟩) (fun _ h => absurd h List.not_mem_nil) d_C_size_23
def wC_ring (a : Nat → Nat) (k : Nat → ClassId) (E_count : Int32) (E_places : (Nat → Int32)) (T_configuration : Int32) (T_ringCount : Int32) (T_keyCount : Int32) (T_starts : (Nat → Int32)) (T_ringKeys : (Nat → Int32)) (T_ringEdges : (Nat → Int32)) : va_W := [(a 0, .inr (0, [.ref (a 1), .ref (a 5), .ref (a 11), .ref (a 16), .ref (a 24)])), (a 5, .inr (2, [.int E_count, .ref (a 6), .ref (a 7), .ref (a 8), .ref (a 9), .ref (a 10)])), (a 8, .inl (k 8, 160, .inl E_places)), (a 16, .inr (4, [.int T_configuration, .int T_ringCount, .ref (a 17), .ref (a 18), .ref (a 19), .ref (a 20), .int T_keyCount, .ref (a 21), .ref (a 22), .ref (a 23)])), (a 21, .inl (k 21, 41, .inl T_starts)), (a 22, .inl (k 22, 40, .inl T_ringKeys)), (a 23, .inl (k 23, 40, .inl T_ringEdges))]
def tC_ring (k : Nat → ClassId) : List (ClassId × FieldType) := [(k 8, .int), (k 21, .int), (k 22, .int), (k 23, .int)]
set_option maxHeartbeats 4000000 in
set_option maxRecDepth 100000 in
theorem c_C_ring (l : Launch) (dC : Nat → ClassId) (dI : Nat → Nat → Nat) (a : Nat → Nat) (k : Nat → ClassId) (E_count : Int32) (E_places : (Nat → Int32)) (T_configuration : Int32) (T_ringCount : Int32) (T_keyCount : Int32) (T_starts : (Nat → Int32)) (T_ringKeys : (Nat → Int32)) (T_ringEdges : (Nat → Int32)) (p1 : Int32) (p2 : Int32) (p3 : Int32) (y : Int32) (hf : fC_ring E_count E_places T_ringCount T_starts T_ringKeys T_ringEdges p1 p2 p3 = some y) : Met l y_C_ring ws_C_ring ({ frames := 2, cells := 0, slots := 0, locals := 42 }) (og_Pr [.ref (a 0), .int p1, .int p2, .int p3] (dC, dI) (wC_ring a k E_count E_places T_configuration T_ringCount T_keyCount T_starts T_ringKeys T_ringEdges) (tC_ring k)) (vp_Si (fun x => x = y)) 0 0 (fun _ => False) := by
  refine Met.ofW (cc := b_C_ring) (maxL := 4) (ret := (some .int)) (by decide) rfl ?_
  intro p e s m args below meth c s₁ B hml hv
  obtain ⟨rfl, hP, hK⟩ := hv
  have hx := B.exec
  have hb := B.bytes
  have hr := B.returns
  have hts0 := atoms_spec (ws := ws_C_ring) B.pre
  have hts : ∀ w ∈ og_tb, w.before _ s = true := fun w h => hts0 w (List.mem_cons_of_mem _ h)
  have hown : s.vm.findClass R_C = some m.cls := findClass_of_methodNamed B.named
  have hlocks := B.notSynchronized
  have hl := lv_entry ([.ref (a 0), .int p1, .int p2, .int p3]) (n := 4) (Nat.le_of_ble_eq_true rfl)
  rw [lg_entry_eq]
  generalize (lg_sl ([.ref (a 0), .int p1, .int p2, .int p3]) ++ List.replicate (4 - (lg_sl ([.ref (a 0), .int p1, .int p2, .int p3])).length) Slot.unset).toArray = ls at hl ⊢
  have hl : lv_has ls 4 [(0, .ref (a 0)), (1, .int p1), (2, .int p2), (3, .int p3)] := hl
  rw [fC_ring] at hf
  refine lv_aload_n hx hb d_C_ring_0 rfl (lv_at hl 0 rfl) ?_
  refine vg_C_told (v := .ref (a 16)) hx hb hts hown hK hP 0 rfl (hts _ tb_167) rfl d_C_ring_1 ?_
  refine lv_iload_n hx hb d_C_ring_4 rfl (lv_at hl 1 rfl) ?_
  obtain ⟨r5, e_5, hf⟩ := og_b hf
  refine og_rV (w := (wC_ring a k E_count E_places T_configuration T_ringCount T_keyCount T_starts T_ringKeys T_ringEdges)) (As := [.int p1]) (rest := []) (ci := 4) (q0 := 0) ⟨hx, hb, hml, hown, hts⟩ (c_T_hasRing l dC dI a k T_configuration T_ringCount T_keyCount p1 r5 e_5) (cwV 1 hts (og_gV tb_173 tb_174 tb_175 tb_106 tb_176) rfl rfl rfl (by decide +kernel) ⟨Nat.le_of_ble_eq_true rfl, Nat.le_of_ble_eq_true rfl⟩) hK hP [3] [] ⟨rfl, trivial⟩ rfl rfl rfl rfl rfl hl.1 rfl (Nat.le_of_ble_eq_true rfl) d_C_ring_5 ⟨Nat.zero_le _, Nat.zero_le _⟩ ?_
  refine lv_if_eq (tgt := 27) hx hb d_C_ring_8 (by decide) (fun c_8 => ?_) (fun c_8 => ?_)
  · have hf := og_t hf c_8
    refine lv_iconst (v := (-1)) hx hb d_C_ring_27 (by decide) ?_
    obtain rfl := Option.some.inj hf
    exact W.iret (v := (-1)) hx hb hr (fun t ht hW => ⟨(-1), rfl, rfl, ht⟩) (fun _ h => absurd h List.not_mem_nil) d_C_ring_28
  · have hf := og_f hf c_8
    refine lv_iload_n hx hb d_C_ring_11 rfl (lv_at hl 2 rfl) ?_
    refine lv_if_lt (tgt := 27) hx hb d_C_ring_12 (by decide) (fun c_12 => ?_) (fun c_12 => ?_)
    · have hf := og_t hf c_12
      refine lv_iconst (v := (-1)) hx hb d_C_ring_27 (by decide) ?_
      obtain rfl := Option.some.inj hf
      exact W.iret (v := (-1)) hx hb hr (fun t ht hW => ⟨(-1), rfl, rfl, ht⟩) (fun _ h => absurd h List.not_mem_nil) d_C_ring_28
    · have hf := og_f hf c_12
      refine lv_iload_n hx hb d_C_ring_15 rfl (lv_at hl 2 rfl) ?_
      refine lv_aload_n hx hb d_C_ring_16 rfl (lv_at hl 0 rfl) ?_
      refine vg_C_told (v := .ref (a 16)) hx hb hts hown hK hP 0 rfl (hts _ tb_167) rfl d_C_ring_17 ?_
      refine lv_iload_n hx hb d_C_ring_20 rfl (lv_at hl 1 rfl) ?_
      obtain ⟨r21, e_21, hf⟩ := og_b hf
      refine og_rV (w := (wC_ring a k E_count E_places T_configuration T_ringCount T_keyCount T_starts T_ringKeys T_ringEdges)) (As := [.int p1]) (rest := [.int p2]) (ci := 4) (q0 := 0) ⟨hx, hb, hml, hown, hts⟩ (c_T_length l dC dI a k T_configuration T_ringCount T_keyCount T_starts p1 r21 e_21) (cwV 1 hts (og_gV tb_177 tb_178 tb_179 tb_106 tb_180) rfl rfl rfl (by decide +kernel) ⟨Nat.le_of_ble_eq_true rfl, Nat.le_of_ble_eq_true rfl⟩) hK hP [3, 4] [1] ⟨rfl, rfl, trivial⟩ rfl rfl rfl rfl rfl hl.1 rfl (Nat.le_of_ble_eq_true rfl) d_C_ring_21 ⟨Nat.zero_le _, Nat.zero_le _⟩ ?_
      refine lv_icmp_lt (tgt := 29) hx hb d_C_ring_24 (by decide) (fun c_24 => ?_) (fun c_24 => ?_)
      · have hf := og_t hf c_24
        refine lv_iload_n hx hb d_C_ring_29 rfl (lv_at hl 3 rfl) ?_
        by_cases c_30_0 : p3 = 0
        · have hf := og_t hf c_30_0
          refine lv_tableIn (tgt := 56) hx hb d_C_ring_30 (by rw [c_30_0]; decide) (by rw [c_30_0]; decide) (by rw [c_30_0]; rfl) (by decide) ?_
          refine lv_aload_n hx hb d_C_ring_56 rfl (lv_at hl 0 rfl) ?_
          refine vg_C_told (v := .ref (a 16)) hx hb hts hown hK hP 0 rfl (hts _ tb_167) rfl d_C_ring_57 ?_
          refine lv_iload_n hx hb d_C_ring_60 rfl (lv_at hl 1 rfl) ?_
          refine lv_iload_n hx hb d_C_ring_61 rfl (lv_at hl 2 rfl) ?_
          obtain ⟨r62, e_62, hf⟩ := og_b hf
          refine og_rV (w := (wC_ring a k E_count E_places T_configuration T_ringCount T_keyCount T_starts T_ringKeys T_ringEdges)) (As := [.int p1, .int p2]) (rest := []) (ci := 4) (q0 := 0) ⟨hx, hb, hml, hown, hts⟩ (c_T_keyAt l dC dI a k T_configuration T_ringCount T_keyCount T_starts T_ringKeys p1 p2 r62 e_62) (cwV 2 hts (og_gV tb_181 tb_182 tb_183 tb_106 tb_184) rfl rfl rfl (by decide +kernel) ⟨Nat.le_of_ble_eq_true rfl, Nat.le_of_ble_eq_true rfl⟩) hK hP [3, 4, 5] [1, 2] ⟨rfl, rfl, rfl, trivial⟩ rfl rfl rfl rfl rfl hl.1 rfl (Nat.le_of_ble_eq_true rfl) d_C_ring_62 ⟨Nat.zero_le _, Nat.zero_le _⟩ ?_
          obtain rfl := Option.some.inj hf
          exact W.iret (v := r62) hx hb hr (fun t ht hW => ⟨r62, rfl, rfl, ht⟩) (fun _ h => absurd h List.not_mem_nil) d_C_ring_65
        · have hf := og_f hf c_30_0
          have n_30_0 := lv_neT c_30_0 (a := 0) (by decide)
          by_cases c_30_1 : p3 = 1
          · have hf := og_t hf c_30_1
            refine lv_tableIn (tgt := 66) hx hb d_C_ring_30 (by rw [c_30_1]; decide) (by rw [c_30_1]; decide) (by rw [c_30_1]; rfl) (by decide) ?_
            refine lv_aload_n hx hb d_C_ring_66 rfl (lv_at hl 0 rfl) ?_
            refine vg_C_edges (v := .ref (a 5)) hx hb hts hown hK hP 0 rfl (hts _ tb_27) rfl d_C_ring_67 ?_
            refine lv_aload_n hx hb d_C_ring_70 rfl (lv_at hl 0 rfl) ?_
            refine vg_C_told (v := .ref (a 16)) hx hb hts hown hK hP 0 rfl (hts _ tb_167) rfl d_C_ring_71 ?_
            refine lv_iload_n hx hb d_C_ring_74 rfl (lv_at hl 1 rfl) ?_
            refine lv_iload_n hx hb d_C_ring_75 rfl (lv_at hl 2 rfl) ?_
            obtain ⟨r76, e_76, hf⟩ := og_b hf
            refine og_rV (w := (wC_ring a k E_count E_places T_configuration T_ringCount T_keyCount T_starts T_ringKeys T_ringEdges)) (As := [.int p1, .int p2]) (rest := [.ref (a 5)]) (ci := 4) (q0 := 0) ⟨hx, hb, hml, hown, hts⟩ (c_T_edgeAt l dC dI a k T_configuration T_ringCount T_keyCount T_starts T_ringEdges p1 p2 r76 e_76) (cwV 2 hts (og_gV tb_185 tb_186 tb_187 tb_106 tb_188) rfl rfl rfl (by decide +kernel) ⟨Nat.le_of_ble_eq_true rfl, Nat.le_of_ble_eq_true rfl⟩) hK hP [3, 4, 6] [1, 3] ⟨rfl, rfl, rfl, trivial⟩ rfl rfl rfl rfl rfl hl.1 rfl (Nat.le_of_ble_eq_true rfl) d_C_ring_76 ⟨Nat.zero_le _, Nat.zero_le _⟩ ?_
            obtain ⟨r79, e_79, hf⟩ := og_b hf
            refine og_rV (w := (wC_ring a k E_count E_places T_configuration T_ringCount T_keyCount T_starts T_ringKeys T_ringEdges)) (As := [.int r76]) (rest := []) (ci := 2) (q0 := 0) ⟨hx, hb, hml, hown, hts⟩ (c_E_placeOf l dC dI a k E_count E_places r76 r79 e_79) (cwV 1 hts (og_gV tb_189 tb_190 tb_191 tb_31 tb_192) rfl rfl rfl (by decide +kernel) ⟨Nat.le_of_ble_eq_true rfl, Nat.le_of_ble_eq_true rfl⟩) hK hP [1, 2] [0] ⟨rfl, rfl, trivial⟩ rfl rfl rfl rfl rfl hl.1 rfl (Nat.le_of_ble_eq_true rfl) d_C_ring_79 ⟨Nat.zero_le _, Nat.zero_le _⟩ ?_
            obtain rfl := Option.some.inj hf
            exact W.iret (v := r79) hx hb hr (fun t ht hW => ⟨r79, rfl, rfl, ht⟩) (fun _ h => absurd h List.not_mem_nil) d_C_ring_82
          · have hf := og_f hf c_30_1
            have n_30_1 := lv_neT c_30_1 (a := 1) (by decide)
            by_cases c_30_2 : p3 = 2
            · have hf := og_t hf c_30_2
              refine lv_tableIn (tgt := 83) hx hb d_C_ring_30 (by rw [c_30_2]; decide) (by rw [c_30_2]; decide) (by rw [c_30_2]; rfl) (by decide) ?_
              refine lv_aload_n hx hb d_C_ring_83 rfl (lv_at hl 0 rfl) ?_
              refine vg_C_told (v := .ref (a 16)) hx hb hts hown hK hP 0 rfl (hts _ tb_167) rfl d_C_ring_84 ?_
              refine lv_iload_n hx hb d_C_ring_87 rfl (lv_at hl 1 rfl) ?_
              refine lv_iload_n hx hb d_C_ring_88 rfl (lv_at hl 2 rfl) ?_
              obtain ⟨r89, e_89, hf⟩ := og_b hf
              refine og_rV (w := (wC_ring a k E_count E_places T_configuration T_ringCount T_keyCount T_starts T_ringKeys T_ringEdges)) (As := [.int p1, .int p2]) (rest := []) (ci := 4) (q0 := 0) ⟨hx, hb, hml, hown, hts⟩ (c_T_edgeAt l dC dI a k T_configuration T_ringCount T_keyCount T_starts T_ringEdges p1 p2 r89 e_89) (cwV 2 hts (og_gV tb_185 tb_186 tb_187 tb_106 tb_188) rfl rfl rfl (by decide +kernel) ⟨Nat.le_of_ble_eq_true rfl, Nat.le_of_ble_eq_true rfl⟩) hK hP [3, 4, 6] [1, 3] ⟨rfl, rfl, rfl, trivial⟩ rfl rfl rfl rfl rfl hl.1 rfl (Nat.le_of_ble_eq_true rfl) d_C_ring_89 ⟨Nat.zero_le _, Nat.zero_le _⟩ ?_
              obtain rfl := Option.some.inj hf
              exact W.iret (v := r89) hx hb hr (fun t ht hW => ⟨r89, rfl, rfl, ht⟩) (fun _ h => absurd h List.not_mem_nil) d_C_ring_92
            · have hf := og_f hf c_30_2
              have n_30_2 := lv_neT c_30_2 (a := 2) (by decide)
              refine lv_tableOut (tgt := 93) hx hb d_C_ring_30 (by omega) (by decide) ?_
              refine lv_iconst (v := (-1)) hx hb d_C_ring_93 (by decide) ?_
              obtain rfl := Option.some.inj hf
              exact W.iret (v := (-1)) hx hb hr (fun t ht hW => ⟨(-1), rfl, rfl, ht⟩) (fun _ h => absurd h List.not_mem_nil) d_C_ring_94
      · have hf := og_f hf c_24
        refine lv_iconst (v := (-1)) hx hb d_C_ring_27 (by decide) ?_
        obtain rfl := Option.some.inj hf
        exact W.iret (v := (-1)) hx hb hr (fun t ht hW => ⟨(-1), rfl, rfl, ht⟩) (fun _ h => absurd h List.not_mem_nil) d_C_ring_28
def wC_only (a : Nat → Nat) (k : Nat → ClassId) (T_configuration : Int32) (T_ringCount : Int32) (T_keyCount : Int32) (T_onlyIn : (Nat → Int32)) : va_W := [(a 0, .inr (0, [.ref (a 1), .ref (a 5), .ref (a 11), .ref (a 16), .ref (a 24)])), (a 16, .inr (4, [.int T_configuration, .int T_ringCount, .ref (a 17), .ref (a 18), .ref (a 19), .ref (a 20), .int T_keyCount, .ref (a 21), .ref (a 22), .ref (a 23)])), (a 20, .inl (k 20, 40, .inl T_onlyIn))]
def tC_only (k : Nat → ClassId) : List (ClassId × FieldType) := [(k 20, .int)]
set_option maxHeartbeats 4000000 in
set_option maxRecDepth 100000 in
theorem c_C_only (l : Launch) (dC : Nat → ClassId) (dI : Nat → Nat → Nat) (a : Nat → Nat) (k : Nat → ClassId) (T_configuration : Int32) (T_ringCount : Int32) (T_keyCount : Int32) (T_onlyIn : (Nat → Int32)) (p1 : Int32) (y : Int32) (hf : fC_only T_ringCount T_onlyIn p1 = some y) : Met l y_C_only ws_C_only ({ frames := 1, cells := 0, slots := 0, locals := 21 }) (og_Pr [.ref (a 0), .int p1] (dC, dI) (wC_only a k T_configuration T_ringCount T_keyCount T_onlyIn) (tC_only k)) (vp_Si (fun x => x = y)) 0 0 (fun _ => False) := by
  refine Met.ofW (cc := b_C_only) (maxL := 2) (ret := (some .int)) (by decide) rfl ?_
  intro p e s m args below meth c s₁ B hml hv
  obtain ⟨rfl, hP, hK⟩ := hv
  have hx := B.exec
  have hb := B.bytes
  have hr := B.returns
  have hts0 := atoms_spec (ws := ws_C_only) B.pre
  have hts : ∀ w ∈ og_tb, w.before _ s = true := fun w h => hts0 w (List.mem_cons_of_mem _ h)
  have hown : s.vm.findClass R_C = some m.cls := findClass_of_methodNamed B.named
  have hlocks := B.notSynchronized
  have hl := lv_entry ([.ref (a 0), .int p1]) (n := 2) (Nat.le_of_ble_eq_true rfl)
  rw [lg_entry_eq]
  generalize (lg_sl ([.ref (a 0), .int p1]) ++ List.replicate (2 - (lg_sl ([.ref (a 0), .int p1])).length) Slot.unset).toArray = ls at hl ⊢
  have hl : lv_has ls 2 [(0, .ref (a 0)), (1, .int p1)] := hl
  rw [fC_only] at hf
  refine lv_aload_n hx hb d_C_only_0 rfl (lv_at hl 0 rfl) ?_
  refine vg_C_told (v := .ref (a 16)) hx hb hts hown hK hP 0 rfl (hts _ tb_167) rfl d_C_only_1 ?_
  refine lv_iload_n hx hb d_C_only_4 rfl (lv_at hl 1 rfl) ?_
  obtain ⟨r5, e_5, hf⟩ := og_b hf
  refine og_rV (w := (wC_only a k T_configuration T_ringCount T_keyCount T_onlyIn)) (As := [.int p1]) (rest := []) (ci := 4) (q0 := 0) ⟨hx, hb, hml, hown, hts⟩ (c_T_hasRing l dC dI a k T_configuration T_ringCount T_keyCount p1 r5 e_5) (cwV 1 hts (og_gV tb_173 tb_174 tb_175 tb_106 tb_176) rfl rfl rfl (by decide +kernel) ⟨Nat.le_of_ble_eq_true rfl, Nat.le_of_ble_eq_true rfl⟩) hK hP [1] [] ⟨rfl, trivial⟩ rfl rfl rfl rfl rfl hl.1 rfl (Nat.le_of_ble_eq_true rfl) d_C_only_5 ⟨Nat.zero_le _, Nat.zero_le _⟩ ?_
  refine lv_if_eq (tgt := 23) hx hb d_C_only_8 (by decide) (fun c_8 => ?_) (fun c_8 => ?_)
  · have hf := og_t hf c_8
    refine lv_iconst (v := (-1)) hx hb d_C_only_23 (by decide) ?_
    obtain rfl := Option.some.inj hf
    exact W.iret (v := (-1)) hx hb hr (fun t ht hW => ⟨(-1), rfl, rfl, ht⟩) (fun _ h => absurd h List.not_mem_nil) d_C_only_24
  · have hf := og_f hf c_8
    refine lv_aload_n hx hb d_C_only_11 rfl (lv_at hl 0 rfl) ?_
    refine vg_C_told (v := .ref (a 16)) hx hb hts hown hK hP 0 rfl (hts _ tb_167) rfl d_C_only_12 ?_
    refine vg_T_onlyIn (v := .ref (a 20)) hx hb hts hown hK hP 1 rfl (hts _ tb_193) rfl d_C_only_15 ?_
    refine lv_iload_n hx hb d_C_only_18 rfl (lv_at hl 1 rfl) ?_
    obtain ⟨h_19, hf⟩ := og_ck_s hf
    refine va_iald hx hb hK hP 2 0 rfl rfl h_19 d_C_only_19 ?_
    refine lv_goto (tgt := 24) hx hb d_C_only_20 (by decide) ?_
    obtain rfl := Option.some.inj hf
    exact W.iret (v := (T_onlyIn p1.toNatClampNeg)) hx hb hr (fun t ht hW => ⟨(T_onlyIn p1.toNatClampNeg), rfl, rfl, ht⟩) (fun _ h => absurd h List.not_mem_nil) d_C_only_24
def wC_newest (a : Nat → Nat) (k : Nat → ClassId) (T_configuration : Int32) (T_ringCount : Int32) (T_keyCount : Int32) (T_starts : (Nat → Int32)) (T_ringEdges : (Nat → Int32)) : va_W := [(a 0, .inr (0, [.ref (a 1), .ref (a 5), .ref (a 11), .ref (a 16), .ref (a 24)])), (a 16, .inr (4, [.int T_configuration, .int T_ringCount, .ref (a 17), .ref (a 18), .ref (a 19), .ref (a 20), .int T_keyCount, .ref (a 21), .ref (a 22), .ref (a 23)])), (a 21, .inl (k 21, 41, .inl T_starts)), (a 23, .inl (k 23, 40, .inl T_ringEdges))]
def tC_newest (k : Nat → ClassId) : List (ClassId × FieldType) := [(k 21, .int), (k 23, .int)]
set_option maxHeartbeats 4000000 in
set_option maxRecDepth 100000 in
theorem c_C_newest (l : Launch) (dC : Nat → ClassId) (dI : Nat → Nat → Nat) (a : Nat → Nat) (k : Nat → ClassId) (T_configuration : Int32) (T_ringCount : Int32) (T_keyCount : Int32) (T_starts : (Nat → Int32)) (T_ringEdges : (Nat → Int32)) (p1 : Int32) (y : Int32) (hf : fC_newest T_ringCount T_starts T_ringEdges p1 = some y) : Met l y_C_newest ws_C_newest ({ frames := 2, cells := 0, slots := 0, locals := 44 }) (og_Pr [.ref (a 0), .int p1] (dC, dI) (wC_newest a k T_configuration T_ringCount T_keyCount T_starts T_ringEdges) (tC_newest k)) (vp_Si (fun x => x = y)) 0 0 (fun _ => False) := by
  refine Met.ofW (cc := b_C_newest) (maxL := 2) (ret := (some .int)) (by decide) rfl ?_
  intro p e s m args below meth c s₁ B hml hv
  obtain ⟨rfl, hP, hK⟩ := hv
  have hx := B.exec
  have hb := B.bytes
  have hr := B.returns
  have hts0 := atoms_spec (ws := ws_C_newest) B.pre
  have hts : ∀ w ∈ og_tb, w.before _ s = true := fun w h => hts0 w (List.mem_cons_of_mem _ h)
  have hown : s.vm.findClass R_C = some m.cls := findClass_of_methodNamed B.named
  have hlocks := B.notSynchronized
  have hl := lv_entry ([.ref (a 0), .int p1]) (n := 2) (Nat.le_of_ble_eq_true rfl)
  rw [lg_entry_eq]
  generalize (lg_sl ([.ref (a 0), .int p1]) ++ List.replicate (2 - (lg_sl ([.ref (a 0), .int p1])).length) Slot.unset).toArray = ls at hl ⊢
  have hl : lv_has ls 2 [(0, .ref (a 0)), (1, .int p1)] := hl
  rw [fC_newest] at hf
  refine lv_aload_n hx hb d_C_newest_0 rfl (lv_at hl 0 rfl) ?_
  refine vg_C_told (v := .ref (a 16)) hx hb hts hown hK hP 0 rfl (hts _ tb_167) rfl d_C_newest_1 ?_
  refine lv_iload_n hx hb d_C_newest_4 rfl (lv_at hl 1 rfl) ?_
  obtain ⟨r5, e_5, hf⟩ := og_b hf
  refine og_rV (w := (wC_newest a k T_configuration T_ringCount T_keyCount T_starts T_ringEdges)) (As := [.int p1]) (rest := []) (ci := 4) (q0 := 0) ⟨hx, hb, hml, hown, hts⟩ (c_T_hasRing l dC dI a k T_configuration T_ringCount T_keyCount p1 r5 e_5) (cwV 1 hts (og_gV tb_173 tb_174 tb_175 tb_106 tb_176) rfl rfl rfl (by decide +kernel) ⟨Nat.le_of_ble_eq_true rfl, Nat.le_of_ble_eq_true rfl⟩) hK hP [1] [] ⟨rfl, trivial⟩ rfl rfl rfl rfl rfl hl.1 rfl (Nat.le_of_ble_eq_true rfl) d_C_newest_5 ⟨Nat.zero_le _, Nat.zero_le _⟩ ?_
  refine lv_if_eq (tgt := 22) hx hb d_C_newest_8 (by decide) (fun c_8 => ?_) (fun c_8 => ?_)
  · have hf := og_t hf c_8
    refine lv_iconst (v := (-1)) hx hb d_C_newest_22 (by decide) ?_
    obtain rfl := Option.some.inj hf
    exact W.iret (v := (-1)) hx hb hr (fun t ht hW => ⟨(-1), rfl, rfl, ht⟩) (fun _ h => absurd h List.not_mem_nil) d_C_newest_23
  · have hf := og_f hf c_8
    refine lv_aload_n hx hb d_C_newest_11 rfl (lv_at hl 0 rfl) ?_
    refine vg_C_told (v := .ref (a 16)) hx hb hts hown hK hP 0 rfl (hts _ tb_167) rfl d_C_newest_12 ?_
    refine lv_iload_n hx hb d_C_newest_15 rfl (lv_at hl 1 rfl) ?_
    obtain ⟨r16, e_16, hf⟩ := og_b hf
    refine og_rV (w := (wC_newest a k T_configuration T_ringCount T_keyCount T_starts T_ringEdges)) (As := [.int p1]) (rest := []) (ci := 4) (q0 := 0) ⟨hx, hb, hml, hown, hts⟩ (c_T_lastEdge l dC dI a k T_configuration T_ringCount T_keyCount T_starts T_ringEdges p1 r16 e_16) (cwV 1 hts (og_gV tb_198 tb_199 tb_200 tb_106 tb_201) rfl rfl rfl (by decide +kernel) ⟨Nat.le_of_ble_eq_true rfl, Nat.le_of_ble_eq_true rfl⟩) hK hP [1, 2, 3] [0, 1] ⟨rfl, rfl, rfl, trivial⟩ rfl rfl rfl rfl rfl hl.1 rfl (Nat.le_of_ble_eq_true rfl) d_C_newest_16 ⟨Nat.zero_le _, Nat.zero_le _⟩ ?_
    refine lv_goto (tgt := 23) hx hb d_C_newest_19 (by decide) ?_
    obtain rfl := Option.some.inj hf
    exact W.iret (v := r16) hx hb hr (fun t ht hW => ⟨r16, rfl, rfl, ht⟩) (fun _ h => absurd h List.not_mem_nil) d_C_newest_23
def wC_strong (a : Nat → Nat) (k : Nat → ClassId) (T_configuration : Int32) (T_ringCount : Int32) (T_keyCount : Int32) (T_partOf : (Nat → Int32)) : va_W := [(a 0, .inr (0, [.ref (a 1), .ref (a 5), .ref (a 11), .ref (a 16), .ref (a 24)])), (a 16, .inr (4, [.int T_configuration, .int T_ringCount, .ref (a 17), .ref (a 18), .ref (a 19), .ref (a 20), .int T_keyCount, .ref (a 21), .ref (a 22), .ref (a 23)])), (a 17, .inl (k 17, 40, .inl T_partOf))]
def tC_strong (k : Nat → ClassId) : List (ClassId × FieldType) := [(k 17, .int)]
set_option maxHeartbeats 4000000 in
set_option maxRecDepth 100000 in
theorem c_C_strong (l : Launch) (dC : Nat → ClassId) (dI : Nat → Nat → Nat) (a : Nat → Nat) (k : Nat → ClassId) (T_configuration : Int32) (T_ringCount : Int32) (T_keyCount : Int32) (T_partOf : (Nat → Int32)) (p1 : Int32) (y : Int32) (hf : fC_strong T_partOf T_keyCount p1 = some y) : Met l y_C_strong ws_C_strong ({ frames := 1, cells := 0, slots := 0, locals := 21 }) (og_Pr [.ref (a 0), .int p1] (dC, dI) (wC_strong a k T_configuration T_ringCount T_keyCount T_partOf) (tC_strong k)) (vp_Si (fun x => x = y)) 0 0 (fun _ => False) := by
  refine Met.ofW (cc := b_C_strong) (maxL := 2) (ret := (some .int)) (by decide) rfl ?_
  intro p e s m args below meth c s₁ B hml hv
  obtain ⟨rfl, hP, hK⟩ := hv
  have hx := B.exec
  have hb := B.bytes
  have hr := B.returns
  have hts0 := atoms_spec (ws := ws_C_strong) B.pre
  have hts : ∀ w ∈ og_tb, w.before _ s = true := fun w h => hts0 w (List.mem_cons_of_mem _ h)
  have hown : s.vm.findClass R_C = some m.cls := findClass_of_methodNamed B.named
  have hlocks := B.notSynchronized
  have hl := lv_entry ([.ref (a 0), .int p1]) (n := 2) (Nat.le_of_ble_eq_true rfl)
  rw [lg_entry_eq]
  generalize (lg_sl ([.ref (a 0), .int p1]) ++ List.replicate (2 - (lg_sl ([.ref (a 0), .int p1])).length) Slot.unset).toArray = ls at hl ⊢
  have hl : lv_has ls 2 [(0, .ref (a 0)), (1, .int p1)] := hl
  rw [fC_strong] at hf
  refine lv_aload_n hx hb d_C_strong_0 rfl (lv_at hl 0 rfl) ?_
  refine vg_C_told (v := .ref (a 16)) hx hb hts hown hK hP 0 rfl (hts _ tb_167) rfl d_C_strong_1 ?_
  refine lv_iload_n hx hb d_C_strong_4 rfl (lv_at hl 1 rfl) ?_
  obtain ⟨r5, e_5, hf⟩ := og_b hf
  refine og_rV (w := (wC_strong a k T_configuration T_ringCount T_keyCount T_partOf)) (As := [.int p1]) (rest := []) (ci := 4) (q0 := 0) ⟨hx, hb, hml, hown, hts⟩ (c_T_hasKey l dC dI a k T_configuration T_ringCount T_keyCount p1 r5 e_5) (cwV 1 hts (og_gV tb_202 tb_203 tb_204 tb_106 tb_205) rfl rfl rfl (by decide +kernel) ⟨Nat.le_of_ble_eq_true rfl, Nat.le_of_ble_eq_true rfl⟩) hK hP [1] [] ⟨rfl, trivial⟩ rfl rfl rfl rfl rfl hl.1 rfl (Nat.le_of_ble_eq_true rfl) d_C_strong_5 ⟨Nat.zero_le _, Nat.zero_le _⟩ ?_
  refine lv_if_eq (tgt := 23) hx hb d_C_strong_8 (by decide) (fun c_8 => ?_) (fun c_8 => ?_)
  · have hf := og_t hf c_8
    refine lv_iconst (v := (-1)) hx hb d_C_strong_23 (by decide) ?_
    obtain rfl := Option.some.inj hf
    exact W.iret (v := (-1)) hx hb hr (fun t ht hW => ⟨(-1), rfl, rfl, ht⟩) (fun _ h => absurd h List.not_mem_nil) d_C_strong_24
  · have hf := og_f hf c_8
    refine lv_aload_n hx hb d_C_strong_11 rfl (lv_at hl 0 rfl) ?_
    refine vg_C_told (v := .ref (a 16)) hx hb hts hown hK hP 0 rfl (hts _ tb_167) rfl d_C_strong_12 ?_
    refine vg_T_partOf (v := .ref (a 17)) hx hb hts hown hK hP 1 rfl (hts _ tb_206) rfl d_C_strong_15 ?_
    refine lv_iload_n hx hb d_C_strong_18 rfl (lv_at hl 1 rfl) ?_
    obtain ⟨h_19, hf⟩ := og_ck_s hf
    refine va_iald hx hb hK hP 2 0 rfl rfl h_19 d_C_strong_19 ?_
    refine lv_goto (tgt := 24) hx hb d_C_strong_20 (by decide) ?_
    obtain rfl := Option.some.inj hf
    exact W.iret (v := (T_partOf p1.toNatClampNeg)) hx hb hr (fun t ht hW => ⟨(T_partOf p1.toNatClampNeg), rfl, rfl, ht⟩) (fun _ h => absurd h List.not_mem_nil) d_C_strong_24
def wC_state (a : Nat → Nat) (k : Nat → ClassId) (T_configuration : Int32) (T_ringCount : Int32) (T_keyCount : Int32) (T_stateOf : (Nat → Int32)) : va_W := [(a 0, .inr (0, [.ref (a 1), .ref (a 5), .ref (a 11), .ref (a 16), .ref (a 24)])), (a 16, .inr (4, [.int T_configuration, .int T_ringCount, .ref (a 17), .ref (a 18), .ref (a 19), .ref (a 20), .int T_keyCount, .ref (a 21), .ref (a 22), .ref (a 23)])), (a 18, .inl (k 18, 40, .inl T_stateOf))]
def tC_state (k : Nat → ClassId) : List (ClassId × FieldType) := [(k 18, .int)]
set_option maxHeartbeats 4000000 in
set_option maxRecDepth 100000 in
theorem c_C_state (l : Launch) (dC : Nat → ClassId) (dI : Nat → Nat → Nat) (a : Nat → Nat) (k : Nat → ClassId) (T_configuration : Int32) (T_ringCount : Int32) (T_keyCount : Int32) (T_stateOf : (Nat → Int32)) (p1 : Int32) (y : Int32) (hf : fC_state T_stateOf T_keyCount p1 = some y) : Met l y_C_state ws_C_state ({ frames := 1, cells := 0, slots := 0, locals := 21 }) (og_Pr [.ref (a 0), .int p1] (dC, dI) (wC_state a k T_configuration T_ringCount T_keyCount T_stateOf) (tC_state k)) (vp_Si (fun x => x = y)) 0 0 (fun _ => False) := by
  refine Met.ofW (cc := b_C_state) (maxL := 2) (ret := (some .int)) (by decide) rfl ?_
  intro p e s m args below meth c s₁ B hml hv
  obtain ⟨rfl, hP, hK⟩ := hv
  have hx := B.exec
  have hb := B.bytes
  have hr := B.returns
  have hts0 := atoms_spec (ws := ws_C_state) B.pre
  have hts : ∀ w ∈ og_tb, w.before _ s = true := fun w h => hts0 w (List.mem_cons_of_mem _ h)
  have hown : s.vm.findClass R_C = some m.cls := findClass_of_methodNamed B.named
  have hlocks := B.notSynchronized
  have hl := lv_entry ([.ref (a 0), .int p1]) (n := 2) (Nat.le_of_ble_eq_true rfl)
  rw [lg_entry_eq]
  generalize (lg_sl ([.ref (a 0), .int p1]) ++ List.replicate (2 - (lg_sl ([.ref (a 0), .int p1])).length) Slot.unset).toArray = ls at hl ⊢
  have hl : lv_has ls 2 [(0, .ref (a 0)), (1, .int p1)] := hl
  rw [fC_state] at hf
  refine lv_aload_n hx hb d_C_state_0 rfl (lv_at hl 0 rfl) ?_
  refine vg_C_told (v := .ref (a 16)) hx hb hts hown hK hP 0 rfl (hts _ tb_167) rfl d_C_state_1 ?_
  refine lv_iload_n hx hb d_C_state_4 rfl (lv_at hl 1 rfl) ?_
  obtain ⟨r5, e_5, hf⟩ := og_b hf
  refine og_rV (w := (wC_state a k T_configuration T_ringCount T_keyCount T_stateOf)) (As := [.int p1]) (rest := []) (ci := 4) (q0 := 0) ⟨hx, hb, hml, hown, hts⟩ (c_T_hasKey l dC dI a k T_configuration T_ringCount T_keyCount p1 r5 e_5) (cwV 1 hts (og_gV tb_202 tb_203 tb_204 tb_106 tb_205) rfl rfl rfl (by decide +kernel) ⟨Nat.le_of_ble_eq_true rfl, Nat.le_of_ble_eq_true rfl⟩) hK hP [1] [] ⟨rfl, trivial⟩ rfl rfl rfl rfl rfl hl.1 rfl (Nat.le_of_ble_eq_true rfl) d_C_state_5 ⟨Nat.zero_le _, Nat.zero_le _⟩ ?_
  refine lv_if_eq (tgt := 23) hx hb d_C_state_8 (by decide) (fun c_8 => ?_) (fun c_8 => ?_)
  · have hf := og_t hf c_8
    refine lv_iconst (v := (-1)) hx hb d_C_state_23 (by decide) ?_
    obtain rfl := Option.some.inj hf
    exact W.iret (v := (-1)) hx hb hr (fun t ht hW => ⟨(-1), rfl, rfl, ht⟩) (fun _ h => absurd h List.not_mem_nil) d_C_state_24
  · have hf := og_f hf c_8
    refine lv_aload_n hx hb d_C_state_11 rfl (lv_at hl 0 rfl) ?_
    refine vg_C_told (v := .ref (a 16)) hx hb hts hown hK hP 0 rfl (hts _ tb_167) rfl d_C_state_12 ?_
    refine vg_T_stateOf (v := .ref (a 18)) hx hb hts hown hK hP 1 rfl (hts _ tb_207) rfl d_C_state_15 ?_
    refine lv_iload_n hx hb d_C_state_18 rfl (lv_at hl 1 rfl) ?_
    obtain ⟨h_19, hf⟩ := og_ck_s hf
    refine va_iald hx hb hK hP 2 0 rfl rfl h_19 d_C_state_19 ?_
    refine lv_goto (tgt := 24) hx hb d_C_state_20 (by decide) ?_
    obtain rfl := Option.some.inj hf
    exact W.iret (v := (T_stateOf p1.toNatClampNeg)) hx hb hr (fun t ht hW => ⟨(T_stateOf p1.toNatClampNeg), rfl, rfl, ht⟩) (fun _ h => absurd h List.not_mem_nil) d_C_state_24
def wC_least (a : Nat → Nat) (k : Nat → ClassId) (T_configuration : Int32) (T_ringCount : Int32) (T_keyCount : Int32) (T_leastOf : (Nat → Int32)) : va_W := [(a 0, .inr (0, [.ref (a 1), .ref (a 5), .ref (a 11), .ref (a 16), .ref (a 24)])), (a 16, .inr (4, [.int T_configuration, .int T_ringCount, .ref (a 17), .ref (a 18), .ref (a 19), .ref (a 20), .int T_keyCount, .ref (a 21), .ref (a 22), .ref (a 23)])), (a 19, .inl (k 19, 40, .inl T_leastOf))]
def tC_least (k : Nat → ClassId) : List (ClassId × FieldType) := [(k 19, .int)]
set_option maxHeartbeats 4000000 in
set_option maxRecDepth 100000 in
theorem c_C_least (l : Launch) (dC : Nat → ClassId) (dI : Nat → Nat → Nat) (a : Nat → Nat) (k : Nat → ClassId) (T_configuration : Int32) (T_ringCount : Int32) (T_keyCount : Int32) (T_leastOf : (Nat → Int32)) (p1 : Int32) (y : Int32) (hf : fC_least T_leastOf T_keyCount p1 = some y) : Met l y_C_least ws_C_least ({ frames := 1, cells := 0, slots := 0, locals := 21 }) (og_Pr [.ref (a 0), .int p1] (dC, dI) (wC_least a k T_configuration T_ringCount T_keyCount T_leastOf) (tC_least k)) (vp_Si (fun x => x = y)) 0 0 (fun _ => False) := by
  refine Met.ofW (cc := b_C_least) (maxL := 2) (ret := (some .int)) (by decide) rfl ?_
  intro p e s m args below meth c s₁ B hml hv
  obtain ⟨rfl, hP, hK⟩ := hv
  have hx := B.exec
  have hb := B.bytes
  have hr := B.returns
  have hts0 := atoms_spec (ws := ws_C_least) B.pre
  have hts : ∀ w ∈ og_tb, w.before _ s = true := fun w h => hts0 w (List.mem_cons_of_mem _ h)
  have hown : s.vm.findClass R_C = some m.cls := findClass_of_methodNamed B.named
  have hlocks := B.notSynchronized
  have hl := lv_entry ([.ref (a 0), .int p1]) (n := 2) (Nat.le_of_ble_eq_true rfl)
  rw [lg_entry_eq]
  generalize (lg_sl ([.ref (a 0), .int p1]) ++ List.replicate (2 - (lg_sl ([.ref (a 0), .int p1])).length) Slot.unset).toArray = ls at hl ⊢
  have hl : lv_has ls 2 [(0, .ref (a 0)), (1, .int p1)] := hl
  rw [fC_least] at hf
  refine lv_aload_n hx hb d_C_least_0 rfl (lv_at hl 0 rfl) ?_
  refine vg_C_told (v := .ref (a 16)) hx hb hts hown hK hP 0 rfl (hts _ tb_167) rfl d_C_least_1 ?_
  refine lv_iload_n hx hb d_C_least_4 rfl (lv_at hl 1 rfl) ?_
  obtain ⟨r5, e_5, hf⟩ := og_b hf
  refine og_rV (w := (wC_least a k T_configuration T_ringCount T_keyCount T_leastOf)) (As := [.int p1]) (rest := []) (ci := 4) (q0 := 0) ⟨hx, hb, hml, hown, hts⟩ (c_T_hasKey l dC dI a k T_configuration T_ringCount T_keyCount p1 r5 e_5) (cwV 1 hts (og_gV tb_202 tb_203 tb_204 tb_106 tb_205) rfl rfl rfl (by decide +kernel) ⟨Nat.le_of_ble_eq_true rfl, Nat.le_of_ble_eq_true rfl⟩) hK hP [1] [] ⟨rfl, trivial⟩ rfl rfl rfl rfl rfl hl.1 rfl (Nat.le_of_ble_eq_true rfl) d_C_least_5 ⟨Nat.zero_le _, Nat.zero_le _⟩ ?_
  refine lv_if_eq (tgt := 23) hx hb d_C_least_8 (by decide) (fun c_8 => ?_) (fun c_8 => ?_)
  · have hf := og_t hf c_8
    refine lv_iconst (v := (-1)) hx hb d_C_least_23 (by decide) ?_
    obtain rfl := Option.some.inj hf
    exact W.iret (v := (-1)) hx hb hr (fun t ht hW => ⟨(-1), rfl, rfl, ht⟩) (fun _ h => absurd h List.not_mem_nil) d_C_least_24
  · have hf := og_f hf c_8
    refine lv_aload_n hx hb d_C_least_11 rfl (lv_at hl 0 rfl) ?_
    refine vg_C_told (v := .ref (a 16)) hx hb hts hown hK hP 0 rfl (hts _ tb_167) rfl d_C_least_12 ?_
    refine vg_T_leastOf (v := .ref (a 19)) hx hb hts hown hK hP 1 rfl (hts _ tb_208) rfl d_C_least_15 ?_
    refine lv_iload_n hx hb d_C_least_18 rfl (lv_at hl 1 rfl) ?_
    obtain ⟨h_19, hf⟩ := og_ck_s hf
    refine va_iald hx hb hK hP 2 0 rfl rfl h_19 d_C_least_19 ?_
    refine lv_goto (tgt := 24) hx hb d_C_least_20 (by decide) ?_
    obtain rfl := Option.some.inj hf
    exact W.iret (v := (T_leastOf p1.toNatClampNeg)) hx hb hr (fun t ht hW => ⟨(T_leastOf p1.toNatClampNeg), rfl, rfl, ht⟩) (fun _ h => absurd h List.not_mem_nil) d_C_least_24
def wC_ask (a : Nat → Nat) (k : Nat → ClassId) (K_count : Int32) (E_count : Int32) (E_from : (Nat → Int32)) (E_to : (Nat → Int32)) (E_configurations : (Nat → Int32)) (E_gone : (Nat → Int32)) (T_configuration : Int32) (T_ringCount : Int32) (T_keyCount : Int32) (A_metCount : Int32) (A_openCount : Int32) (A_metKeys : (Nat → Int32)) (A_open : (Nat → Int32)) (A_nextEdge : (Nat → Int32)) (A_wasAsked : (Nat → Int32)) : va_W := [(a 0, .inr (0, [.ref (a 1), .ref (a 5), .ref (a 11), .ref (a 16), .ref (a 24)])), (a 1, .inr (1, [.int K_count, .ref (a 2), .ref (a 3), .ref (a 4)])), (a 5, .inr (2, [.int E_count, .ref (a 6), .ref (a 7), .ref (a 8), .ref (a 9), .ref (a 10)])), (a 6, .inl (k 6, 160, .inl E_from)), (a 7, .inl (k 7, 160, .inl E_to)), (a 9, .inl (k 9, 160, .inl E_configurations)), (a 10, .inl (k 10, 160, .inl E_gone)), (a 16, .inr (4, [.int T_configuration, .int T_ringCount, .ref (a 17), .ref (a 18), .ref (a 19), .ref (a 20), .int T_keyCount, .ref (a 21), .ref (a 22), .ref (a 23)])), (a 24, .inr (5, [.int A_metCount, .ref (a 25), .int A_openCount, .ref (a 26), .ref (a 27), .ref (a 28)])), (a 25, .inl (k 25, 40, .inl A_metKeys)), (a 26, .inl (k 26, 40, .inl A_open)), (a 27, .inl (k 27, 40, .inl A_nextEdge)), (a 28, .inl (k 28, 40, .inl A_wasAsked))]
def tC_ask (k : Nat → ClassId) : List (ClassId × FieldType) := [(k 6, .int), (k 7, .int), (k 9, .int), (k 10, .boolean), (k 25, .int), (k 26, .int), (k 27, .int), (k 28, .boolean)]
set_option maxHeartbeats 4000000 in
set_option maxRecDepth 100000 in
theorem c_C_ask (l : Launch) (dC : Nat → ClassId) (dI : Nat → Nat → Nat) (a : Nat → Nat) (k : Nat → ClassId) (sz : Nat) (K_count : Int32) (E_count : Int32) (E_from : (Nat → Int32)) (E_to : (Nat → Int32)) (E_configurations : (Nat → Int32)) (E_gone : (Nat → Int32)) (T_configuration : Int32) (T_ringCount : Int32) (T_keyCount : Int32) (A_metCount : Int32) (A_openCount : Int32) (A_metKeys : (Nat → Int32)) (A_open : (Nat → Int32)) (A_nextEdge : (Nat → Int32)) (A_wasAsked : (Nat → Int32)) (p1 : Int32) (y : Int32 × Int32 × (Nat → Int32) × Int32 × (Nat → Int32) × (Nat → Int32) × (Nat → Int32)) (hf : fC_ask K_count E_count E_from E_to E_configurations E_gone T_configuration A_metCount A_metKeys A_openCount A_open A_nextEdge A_wasAsked p1 = some y) : Met l y_C_ask ws_C_ask ({ frames := 4, cells := 0, slots := 0, locals := 110 }) (og_Pw [.ref (a 0), .int p1] (dC, dI) (wC_ask a k K_count E_count E_from E_to E_configurations E_gone T_configuration T_ringCount T_keyCount A_metCount A_openCount A_metKeys A_open A_nextEdge A_wasAsked) (tC_ask k) sz) (og_Qi (dC, dI) (wC_ask a k K_count E_count E_from E_to E_configurations E_gone T_configuration T_ringCount T_keyCount y.2.1 y.2.2.2.1 y.2.2.1 y.2.2.2.2.1 y.2.2.2.2.2.1 y.2.2.2.2.2.2) (tC_ask k) y.1 (va_A (wC_ask a k K_count E_count E_from E_to E_configurations E_gone T_configuration T_ringCount T_keyCount A_metCount A_openCount A_metKeys A_open A_nextEdge A_wasAsked) sz)) 0 0 (va_A (wC_ask a k K_count E_count E_from E_to E_configurations E_gone T_configuration T_ringCount T_keyCount A_metCount A_openCount A_metKeys A_open A_nextEdge A_wasAsked) sz) := by
  refine Met.ofW (cc := b_C_ask) (maxL := 2) (ret := (some .int)) (by decide) rfl ?_
  intro p e s m args below meth c s₁ B hml hv
  obtain ⟨rfl, hsz, hP, hK, hD0⟩ := hv
  have hx := B.exec
  have hb := B.bytes
  have hr := B.returns
  have hts0 := atoms_spec (ws := ws_C_ask) B.pre
  have hts : ∀ w ∈ og_tb, w.before _ s = true := fun w h => hts0 w (List.mem_cons_of_mem _ h)
  have hown : s.vm.findClass R_C = some m.cls := findClass_of_methodNamed B.named
  have hlocks := B.notSynchronized
  subst hsz
  have hD := hD0.self (sz := s.heap.size)
  generalize hAe : va_A (wC_ask a k K_count E_count E_from E_to E_configurations E_gone T_configuration T_ringCount T_keyCount A_metCount A_openCount A_metKeys A_open A_nextEdge A_wasAsked) s.heap.size = A at hD ⊢
  have hA : ∀ q : Nat, s.heap.size ≤ q → A q := fun q h => by rw [← hAe]; exact Or.inr h
  have hS : va_S A s.heap s.heap [] := va_S.rf
  have hl := lv_entry ([.ref (a 0), .int p1]) (n := 2) (Nat.le_of_ble_eq_true rfl)
  rw [lg_entry_eq]
  generalize (lg_sl ([.ref (a 0), .int p1]) ++ List.replicate (2 - (lg_sl ([.ref (a 0), .int p1])).length) Slot.unset).toArray = ls at hl ⊢
  have hl : lv_has ls 2 [(0, .ref (a 0)), (1, .int p1)] := hl
  rw [fC_ask] at hf
  refine lv_aload_n hx hb d_C_ask_0 rfl (lv_at hl 0 rfl) ?_
  refine vg_C_keys (v := .ref (a 1)) hx hb hts hown hK hP 0 rfl (hts _ tb_13) rfl d_C_ask_1 ?_
  refine lv_iload_n hx hb d_C_ask_4 rfl (lv_at hl 1 rfl) ?_
  obtain ⟨r5, e_5, hf⟩ := og_b hf
  refine og_rV (w := (wC_ask a k K_count E_count E_from E_to E_configurations E_gone T_configuration T_ringCount T_keyCount A_metCount A_openCount A_metKeys A_open A_nextEdge A_wasAsked)) (As := [.int p1]) (rest := []) (ci := 1) (q0 := 0) ⟨hx, hb, hml, hown, hts⟩ (c_K_has l dC dI a k K_count p1 r5 e_5) (cwV 1 hts (og_gV tb_23 tb_24 tb_25 tb_7 tb_26) rfl rfl rfl (by decide +kernel) ⟨Nat.le_of_ble_eq_true rfl, Nat.le_of_ble_eq_true rfl⟩) hK hP [1] [] ⟨rfl, trivial⟩ rfl rfl rfl rfl rfl hl.1 rfl (Nat.le_of_ble_eq_true rfl) d_C_ask_5 ⟨Nat.zero_le _, Nat.zero_le _⟩ ?_
  refine lv_if_eq (tgt := 22) hx hb d_C_ask_8 (by decide) (fun c_8 => ?_) (fun c_8 => ?_)
  · have hf := og_t hf c_8
    refine lv_iconst (v := (-1)) hx hb d_C_ask_22 (by decide) ?_
    obtain rfl := Option.some.inj hf
    exact W.iret (v := (-1)) hx hb hr (fun t ht hW => ⟨⟨(-1), (), rfl, rfl, by rw [ht]; exact hP, va_K.moved hW.alike hK, hD⟩, hS.F ht⟩) hS.2.2 d_C_ask_23
  · have hf := og_f hf c_8
    refine lv_aload_n hx hb d_C_ask_11 rfl (lv_at hl 0 rfl) ?_
    refine vg_C_told (v := .ref (a 16)) hx hb hts hown hK hP 0 rfl (hts _ tb_167) rfl d_C_ask_12 ?_
    refine vg_T_configuration (v := .int T_configuration) hx hb hts hown hK hP 7 rfl (hts _ tb_240) rfl d_C_ask_15 ?_
    refine lv_iconst (v := (-1)) hx hb d_C_ask_18 (by decide) ?_
    refine lv_icmp_ne (tgt := 24) hx hb d_C_ask_19 (by decide) (fun c_19 => ?_) (fun c_19 => ?_)
    · have hf := og_f hf c_19
      refine lv_aload_n hx hb d_C_ask_24 rfl (lv_at hl 0 rfl) ?_
      refine vg_C_asking (v := .ref (a 24)) hx hb hts hown hK hP 0 rfl (hts _ tb_241) rfl d_C_ask_25 ?_
      refine lv_iload_n hx hb d_C_ask_28 rfl (lv_at hl 1 rfl) ?_
      refine lv_aload_n hx hb d_C_ask_29 rfl (lv_at hl 0 rfl) ?_
      refine vg_C_keys (v := .ref (a 1)) hx hb hts hown hK hP 0 rfl (hts _ tb_13) rfl d_C_ask_30 ?_
      refine vg_K_count (v := .int K_count) hx hb hts hown hK hP 1 rfl (hts _ tb_242) rfl d_C_ask_33 ?_
      obtain ⟨r36, e_36, hf⟩ := og_b hf
      refine og_wVv (w := (wC_ask a k K_count E_count E_from E_to E_configurations E_gone T_configuration T_ringCount T_keyCount A_metCount A_openCount A_metKeys A_open A_nextEdge A_wasAsked)) (w2 := (wC_ask a k K_count E_count E_from E_to E_configurations E_gone T_configuration T_ringCount T_keyCount r36.1 r36.2.1 A_metKeys r36.2.2.1 r36.2.2.2.1 r36.2.2.2.2)) (As := [.int p1, .int K_count]) (rest := []) (ci := 5) (q0 := 0) ⟨hx, hb, hml, hown, hts⟩ (c_A_begin l dC dI a k _ A_metCount A_openCount A_open A_nextEdge A_wasAsked p1 K_count r36 e_36) (cwV 2 hts (og_gV tb_243 tb_244 tb_245 tb_217 tb_246) rfl rfl rfl (by decide +kernel) ⟨Nat.le_of_ble_eq_true rfl, Nat.le_of_ble_eq_true rfl⟩) hK hP hD hS hA [8, 10, 11, 12] [5, 6, 7] ⟨rfl, rfl, rfl, rfl, trivial⟩ rfl [(false, 0), (false, 1), (false, 2), (false, 3), (false, 4), (false, 5), (false, 6), (false, 7), (true, 0), (false, 9), (true, 1), (true, 2), (true, 3)] ⟨rfl, rfl, rfl, rfl, rfl, rfl, rfl, rfl, rfl, rfl, rfl, rfl, rfl, rfl, rfl, rfl, rfl, rfl, rfl, rfl, rfl, rfl, trivial⟩ ⟨rfl, rfl, rfl, rfl, rfl, rfl, rfl, rfl, rfl, rfl, rfl, rfl, rfl, trivial⟩ (by decide) rfl rfl rfl rfl hl.1 rfl (Nat.le_of_ble_eq_true rfl) d_C_ask_36 ⟨Nat.zero_le _, Nat.zero_le _⟩ (fun H locs hP hD hS => ?_)
      refine lv_aload_n hx hb d_C_ask_39 rfl (lv_at hl 0 rfl) ?_
      refine vg_C_asking (v := .ref (a 24)) hx hb hts hown hK hP 0 rfl (hts _ tb_241) rfl d_C_ask_40 ?_
      refine lv_aload_n hx hb d_C_ask_43 rfl (lv_at hl 0 rfl) ?_
      refine vg_C_edges (v := .ref (a 5)) hx hb hts hown hK hP 0 rfl (hts _ tb_27) rfl d_C_ask_44 ?_
      refine lv_aload_n hx hb d_C_ask_47 rfl (lv_at hl 0 rfl) ?_
      refine vg_C_told (v := .ref (a 16)) hx hb hts hown hK hP 0 rfl (hts _ tb_167) rfl d_C_ask_48 ?_
      refine vg_T_configuration (v := .int T_configuration) hx hb hts hown hK hP 7 rfl (hts _ tb_240) rfl d_C_ask_51 ?_
      obtain ⟨r54, e_54, hf⟩ := og_b hf
      refine og_wVv (w := (wC_ask a k K_count E_count E_from E_to E_configurations E_gone T_configuration T_ringCount T_keyCount r36.1 r36.2.1 A_metKeys r36.2.2.1 r36.2.2.2.1 r36.2.2.2.2)) (w2 := (wC_ask a k K_count E_count E_from E_to E_configurations E_gone T_configuration T_ringCount T_keyCount r54.1 r54.2.2.1 r54.2.1 r54.2.2.2.1 r54.2.2.2.2.1 r54.2.2.2.2.2)) (As := [.ref (a 5), .int T_configuration]) (rest := []) (ci := 5) (q0 := 5) ⟨hx, hb, hml, hown, hts⟩ (c_A_goOn l dC dI a k _ E_count E_from E_to E_configurations E_gone r36.1 r36.2.1 A_metKeys r36.2.2.1 r36.2.2.2.1 r36.2.2.2.2 T_configuration r54 e_54) (cwV 2 hts (og_gV tb_247 tb_248 tb_249 tb_217 tb_250) rfl rfl rfl (by decide +kernel) ⟨Nat.le_of_ble_eq_true rfl, Nat.le_of_ble_eq_true rfl⟩) hK hP hD hS hA [2, 3, 4, 5, 6, 8, 9, 10, 11, 12] [0, 1, 2, 3, 4, 5, 6, 7] ⟨rfl, rfl, rfl, rfl, rfl, rfl, rfl, rfl, rfl, rfl, trivial⟩ rfl [(false, 0), (false, 1), (true, 0), (true, 1), (true, 2), (true, 3), (true, 4), (false, 7), (true, 5), (true, 6), (true, 7), (true, 8), (true, 9)] ⟨rfl, rfl, rfl, rfl, rfl, rfl, rfl, rfl, rfl, rfl, rfl, rfl, rfl, rfl, rfl, rfl, trivial⟩ ⟨rfl, rfl, rfl, rfl, rfl, rfl, rfl, rfl, rfl, rfl, rfl, rfl, rfl, trivial⟩ (by decide) rfl rfl rfl rfl hl.1 rfl (Nat.le_of_ble_eq_true rfl) d_C_ask_54 ⟨Nat.zero_le _, Nat.zero_le _⟩ (fun H locs hP hD hS => ?_)
      refine lv_aload_n hx hb d_C_ask_57 rfl (lv_at hl 0 rfl) ?_
      refine vg_C_asking (v := .ref (a 24)) hx hb hts hown hK hP 0 rfl (hts _ tb_241) rfl d_C_ask_58 ?_
      refine vg_A_metCount (v := .int r54.1) hx hb hts hown hK hP 8 rfl (hts _ tb_251) rfl d_C_ask_61 ?_
      obtain rfl := Option.some.inj hf
      exact W.iret (v := r54.1) hx hb hr (fun t ht hW => ⟨⟨r54.1, (), rfl, rfl, by rw [ht]; exact hP, va_K.moved hW.alike hK, hD⟩, hS.F ht⟩) hS.2.2 d_C_ask_64
    · have hf := og_t hf c_19
      refine lv_iconst (v := (-1)) hx hb d_C_ask_22 (by decide) ?_
      obtain rfl := Option.some.inj hf
      exact W.iret (v := (-1)) hx hb hr (fun t ht hW => ⟨⟨(-1), (), rfl, rfl, by rw [ht]; exact hP, va_K.moved hW.alike hK, hD⟩, hS.F ht⟩) hS.2.2 d_C_ask_23
def wC_met (a : Nat → Nat) (k : Nat → ClassId) (A_metCount : Int32) (A_openCount : Int32) (A_metKeys : (Nat → Int32)) : va_W := [(a 0, .inr (0, [.ref (a 1), .ref (a 5), .ref (a 11), .ref (a 16), .ref (a 24)])), (a 24, .inr (5, [.int A_metCount, .ref (a 25), .int A_openCount, .ref (a 26), .ref (a 27), .ref (a 28)])), (a 25, .inl (k 25, 40, .inl A_metKeys))]
def tC_met (k : Nat → ClassId) : List (ClassId × FieldType) := [(k 25, .int)]
set_option maxHeartbeats 4000000 in
set_option maxRecDepth 100000 in
theorem c_C_met (l : Launch) (dC : Nat → ClassId) (dI : Nat → Nat → Nat) (a : Nat → Nat) (k : Nat → ClassId) (A_metCount : Int32) (A_openCount : Int32) (A_metKeys : (Nat → Int32)) (p1 : Int32) (y : Int32) (hf : fC_met A_metCount A_metKeys p1 = some y) : Met l y_C_met ws_C_met ({ frames := 0, cells := 0, slots := 0, locals := 0 }) (og_Pr [.ref (a 0), .int p1] (dC, dI) (wC_met a k A_metCount A_openCount A_metKeys) (tC_met k)) (vp_Si (fun x => x = y)) 0 0 (fun _ => False) := by
  refine Met.ofW (cc := b_C_met) (maxL := 2) (ret := (some .int)) (by decide) rfl ?_
  intro p e s m args below meth c s₁ B hml hv
  obtain ⟨rfl, hP, hK⟩ := hv
  have hx := B.exec
  have hb := B.bytes
  have hr := B.returns
  have hts0 := atoms_spec (ws := ws_C_met) B.pre
  have hts : ∀ w ∈ og_tb, w.before _ s = true := fun w h => hts0 w (List.mem_cons_of_mem _ h)
  have hown : s.vm.findClass R_C = some m.cls := findClass_of_methodNamed B.named
  have hlocks := B.notSynchronized
  have hl := lv_entry ([.ref (a 0), .int p1]) (n := 2) (Nat.le_of_ble_eq_true rfl)
  rw [lg_entry_eq]
  generalize (lg_sl ([.ref (a 0), .int p1]) ++ List.replicate (2 - (lg_sl ([.ref (a 0), .int p1])).length) Slot.unset).toArray = ls at hl ⊢
  have hl : lv_has ls 2 [(0, .ref (a 0)), (1, .int p1)] := hl
  rw [fC_met] at hf
  refine lv_iload_n hx hb d_C_met_0 rfl (lv_at hl 1 rfl) ?_
  refine lv_if_lt (tgt := 27) hx hb d_C_met_1 (by decide) (fun c_1 => ?_) (fun c_1 => ?_)
  · have hf := og_t hf c_1
    refine lv_iconst (v := (-1)) hx hb d_C_met_27 (by decide) ?_
    obtain rfl := Option.some.inj hf
    exact W.iret (v := (-1)) hx hb hr (fun t ht hW => ⟨(-1), rfl, rfl, ht⟩) (fun _ h => absurd h List.not_mem_nil) d_C_met_28
  · have hf := og_f hf c_1
    refine lv_iload_n hx hb d_C_met_4 rfl (lv_at hl 1 rfl) ?_
    refine lv_aload_n hx hb d_C_met_5 rfl (lv_at hl 0 rfl) ?_
    refine vg_C_asking (v := .ref (a 24)) hx hb hts hown hK hP 0 rfl (hts _ tb_241) rfl d_C_met_6 ?_
    refine vg_A_metCount (v := .int A_metCount) hx hb hts hown hK hP 1 rfl (hts _ tb_251) rfl d_C_met_9 ?_
    refine lv_icmp_ge (tgt := 27) hx hb d_C_met_12 (by decide) (fun c_12 => ?_) (fun c_12 => ?_)
    · have hf := og_t hf c_12
      refine lv_iconst (v := (-1)) hx hb d_C_met_27 (by decide) ?_
      obtain rfl := Option.some.inj hf
      exact W.iret (v := (-1)) hx hb hr (fun t ht hW => ⟨(-1), rfl, rfl, ht⟩) (fun _ h => absurd h List.not_mem_nil) d_C_met_28
    · have hf := og_f hf c_12
      refine lv_aload_n hx hb d_C_met_15 rfl (lv_at hl 0 rfl) ?_
      refine vg_C_asking (v := .ref (a 24)) hx hb hts hown hK hP 0 rfl (hts _ tb_241) rfl d_C_met_16 ?_
      refine vg_A_metKeys (v := .ref (a 25)) hx hb hts hown hK hP 1 rfl (hts _ tb_252) rfl d_C_met_19 ?_
      refine lv_iload_n hx hb d_C_met_22 rfl (lv_at hl 1 rfl) ?_
      obtain ⟨h_23, hf⟩ := og_ck_s hf
      refine va_iald hx hb hK hP 2 0 rfl rfl h_23 d_C_met_23 ?_
      refine lv_goto (tgt := 28) hx hb d_C_met_24 (by decide) ?_
      obtain rfl := Option.some.inj hf
      exact W.iret (v := (A_metKeys p1.toNatClampNeg)) hx hb hr (fun t ht hW => ⟨(A_metKeys p1.toNatClampNeg), rfl, rfl, ht⟩) (fun _ h => absurd h List.not_mem_nil) d_C_met_28
