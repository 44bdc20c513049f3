def wC_run (a : Nat → Nat) (k : Nat → ClassId) (K_count : Int32) (K_byRank : (Nat → Int32)) (K_rankOf : (Nat → Int32)) (E_count : Int32) (E_from : (Nat → Int32)) (E_to : (Nat → Int32)) (E_places : (Nat → Int32)) (E_configurations : (Nat → Int32)) (E_gone : (Nat → Int32)) (R_count : Int32) (R_asked : (Nat → Int64)) (R_reached : (Nat → Int64)) (R_shortest : (Nat → Int32)) (R_layers : (Nat → Int64)) (T_configuration : Int32) (T_ringCount : Int32) (T_keyCount : Int32) (T_partOf : (Nat → Int32)) (T_stateOf : (Nat → Int32)) (T_leastOf : (Nat → Int32)) (T_onlyIn : (Nat → Int32)) (T_starts : (Nat → Int32)) (T_ringKeys : (Nat → Int32)) (T_ringEdges : (Nat → Int32)) : va_W := [(a 0, .inr (0, [.ref (a 1), .ref (a 5), .ref (a 11), .ref (a 16), .ref (a 24)])), (a 1, .inr (1, [.int K_count, .ref (a 2), .ref (a 3), .ref (a 4)])), (a 3, .inl (k 3, 40, .inl K_byRank)), (a 4, .inl (k 4, 40, .inl K_rankOf)), (a 5, .inr (2, [.int E_count, .ref (a 6), .ref (a 7), .ref (a 8), .ref (a 9), .ref (a 10)])), (a 6, .inl (k 6, 160, .inl E_from)), (a 7, .inl (k 7, 160, .inl E_to)), (a 8, .inl (k 8, 160, .inl E_places)), (a 9, .inl (k 9, 160, .inl E_configurations)), (a 10, .inl (k 10, 160, .inl E_gone)), (a 11, .inr (3, [.int R_count, .ref (a 12), .ref (a 13), .ref (a 14), .ref (a 15)])), (a 12, .inl (k 12, 40, .inr (.inl R_asked))), (a 13, .inl (k 13, 40, .inr (.inl R_reached))), (a 14, .inl (k 14, 40, .inl R_shortest)), (a 15, .inl (k 15, 40, .inr (.inl R_layers))), (a 16, .inr (4, [.int T_configuration, .int T_ringCount, .ref (a 17), .ref (a 18), .ref (a 19), .ref (a 20), .int T_keyCount, .ref (a 21), .ref (a 22), .ref (a 23)])), (a 17, .inl (k 17, 40, .inl T_partOf)), (a 18, .inl (k 18, 40, .inl T_stateOf)), (a 19, .inl (k 19, 40, .inl T_leastOf)), (a 20, .inl (k 20, 40, .inl T_onlyIn)), (a 21, .inl (k 21, 41, .inl T_starts)), (a 22, .inl (k 22, 40, .inl T_ringKeys)), (a 23, .inl (k 23, 40, .inl T_ringEdges))]
def tC_run (k : Nat → ClassId) : List (ClassId × FieldType) := [(k 3, .int), (k 4, .int), (k 6, .int), (k 7, .int), (k 8, .int), (k 9, .int), (k 10, .boolean), (k 12, .long), (k 13, .long), (k 14, .int), (k 15, .long), (k 17, .int), (k 18, .int), (k 19, .int), (k 20, .int), (k 21, .int), (k 22, .int), (k 23, .int)]
set_option maxHeartbeats 4000000 in
set_option maxRecDepth 100000 in
theorem c_C_run (l : Launch) (dC : Nat → ClassId) (dI : Nat → Nat → Nat) (a : Nat → Nat) (k : Nat → ClassId) (sz : Nat) (K_count : Int32) (K_byRank : (Nat → Int32)) (K_rankOf : (Nat → Int32)) (E_count : Int32) (E_from : (Nat → Int32)) (E_to : (Nat → Int32)) (E_places : (Nat → Int32)) (E_configurations : (Nat → Int32)) (E_gone : (Nat → Int32)) (R_count : Int32) (R_asked : (Nat → Int64)) (R_reached : (Nat → Int64)) (R_shortest : (Nat → Int32)) (R_layers : (Nat → Int64)) (T_configuration : Int32) (T_ringCount : Int32) (T_keyCount : Int32) (T_partOf : (Nat → Int32)) (T_stateOf : (Nat → Int32)) (T_leastOf : (Nat → Int32)) (T_onlyIn : (Nat → Int32)) (T_starts : (Nat → Int32)) (T_ringKeys : (Nat → Int32)) (T_ringEdges : (Nat → Int32)) (p1 : Int32) (y : Int32 × Int32 × (Nat → Int64) × (Nat → Int64) × (Nat → Int32) × (Nat → Int64) × Int32 × Int32 × (Nat → Int32) × (Nat → Int32) × (Nat → Int32) × (Nat → Int32) × Int32 × (Nat → Int32) × (Nat → Int32) × (Nat → Int32)) (hf : fC_run K_count K_byRank K_rankOf E_count E_from E_to E_places E_configurations E_gone R_count R_asked R_reached R_shortest R_layers T_configuration T_ringCount T_partOf T_stateOf T_leastOf T_onlyIn T_keyCount T_starts T_ringKeys T_ringEdges p1 = some y) : Met l y_C_run ws_C_run ({ frames := 6, cells := 0, slots := 0, locals := 141 }) (og_Pw [.ref (a 0), .int p1] (dC, dI) (wC_run a k K_count K_byRank K_rankOf E_count E_from E_to E_places E_configurations E_gone R_count R_asked R_reached R_shortest R_layers T_configuration T_ringCount T_keyCount T_partOf T_stateOf T_leastOf T_onlyIn T_starts T_ringKeys T_ringEdges) (tC_run k) sz) (og_Qi (dC, dI) (wC_run a k K_count K_byRank K_rankOf E_count E_from E_to E_places E_configurations E_gone y.2.1 y.2.2.1 y.2.2.2.1 y.2.2.2.2.1 y.2.2.2.2.2.1 y.2.2.2.2.2.2.1 y.2.2.2.2.2.2.2.1 y.2.2.2.2.2.2.2.2.2.2.2.2.1 y.2.2.2.2.2.2.2.2.1 y.2.2.2.2.2.2.2.2.2.1 y.2.2.2.2.2.2.2.2.2.2.1 y.2.2.2.2.2.2.2.2.2.2.2.1 y.2.2.2.2.2.2.2.2.2.2.2.2.2.1 y.2.2.2.2.2.2.2.2.2.2.2.2.2.2.1 y.2.2.2.2.2.2.2.2.2.2.2.2.2.2.2) (tC_run k) y.1 (va_A (wC_run a k K_count K_byRank K_rankOf E_count E_from E_to E_places E_configurations E_gone R_count R_asked R_reached R_shortest R_layers T_configuration T_ringCount T_keyCount T_partOf T_stateOf T_leastOf T_onlyIn T_starts T_ringKeys T_ringEdges) sz)) 0 0 (va_A (wC_run a k K_count K_byRank K_rankOf E_count E_from E_to E_places E_configurations E_gone R_count R_asked R_reached R_shortest R_layers T_configuration T_ringCount T_keyCount T_partOf T_stateOf T_leastOf T_onlyIn T_starts T_ringKeys T_ringEdges) sz) := by
  refine Met.ofW (cc := b_C_run) (maxL := 2) (ret := (some .int)) (by decide) rfl ?_
  intro p e s m args below meth c s₁ B hml hv
  obtain ⟨rfl, hsz, hP, hK, hD0⟩ := hv
  have hx := B.exec
  have hb := B.bytes
  have hr := B.returns
  have hts0 := atoms_spec (ws := ws_C_run) B.pre
  have hts : ∀ w ∈ og_tb, w.before _ s = true := fun w h => hts0 w (List.mem_cons_of_mem _ h)
  have hown : s.vm.findClass R_C = some m.cls := findClass_of_methodNamed B.named
  have hlocks := B.notSynchronized
  subst hsz
  have hD := hD0.self (sz := s.heap.size)
  generalize hAe : va_A (wC_run a k K_count K_byRank K_rankOf E_count E_from E_to E_places E_configurations E_gone R_count R_asked R_reached R_shortest R_layers T_configuration T_ringCount T_keyCount T_partOf T_stateOf T_leastOf T_onlyIn T_starts T_ringKeys T_ringEdges) s.heap.size = A at hD ⊢
  have hA : ∀ q : Nat, s.heap.size ≤ q → A q := fun q h => by rw [← hAe]; exact Or.inr h
  have hS : va_S A s.heap s.heap [] := va_S.rf
  have hl := lv_entry ([.ref (a 0), .int p1]) (n := 2) (Nat.le_of_ble_eq_true rfl)
  rw [lg_entry_eq]
  generalize (lg_sl ([.ref (a 0), .int p1]) ++ List.replicate (2 - (lg_sl ([.ref (a 0), .int p1])).length) Slot.unset).toArray = ls at hl ⊢
  have hl : lv_has ls 2 [(0, .ref (a 0)), (1, .int p1)] := hl
  rw [fC_run] at hf
  refine lv_iload_n hx hb d_C_run_0 rfl (lv_at hl 1 rfl) ?_
  refine lv_if_lt (tgt := 10) hx hb d_C_run_1 (by decide) (fun c_1 => ?_) (fun c_1 => ?_)
  · have hf := og_t hf c_1
    refine lv_iconst (v := (-1)) hx hb d_C_run_10 (by decide) ?_
    obtain rfl := Option.some.inj hf
    exact W.iret (v := (-1)) hx hb hr (fun t ht hW => ⟨⟨(-1), (), rfl, rfl, by rw [ht]; exact hP, va_K.moved hW.alike hK, hD⟩, hS.F ht⟩) hS.2.2 d_C_run_11
  · have hf := og_f hf c_1
    refine lv_iload_n hx hb d_C_run_4 rfl (lv_at hl 1 rfl) ?_
    refine lv_bipush (v := 8) hx hb d_C_run_5 (by decide) ?_
    refine lv_icmp_lt (tgt := 12) hx hb d_C_run_7 (by decide) (fun c_7 => ?_) (fun c_7 => ?_)
    · have hf := og_t hf c_7
      refine lv_aload_n hx hb d_C_run_12 rfl (lv_at hl 0 rfl) ?_
      refine vg_C_reaches (v := .ref (a 11)) hx hb hts hown hK hP 0 rfl (hts _ tb_162) rfl d_C_run_13 ?_
      refine lv_aload_n hx hb d_C_run_16 rfl (lv_at hl 0 rfl) ?_
      refine vg_C_keys (v := .ref (a 1)) hx hb hts hown hK hP 0 rfl (hts _ tb_13) rfl d_C_run_17 ?_
      refine lv_aload_n hx hb d_C_run_20 rfl (lv_at hl 0 rfl) ?_
      refine vg_C_edges (v := .ref (a 5)) hx hb hts hown hK hP 0 rfl (hts _ tb_27) rfl d_C_run_21 ?_
      refine lv_iload_n hx hb d_C_run_24 rfl (lv_at hl 1 rfl) ?_
      obtain ⟨r25, e_25, hf⟩ := og_b hf
      refine og_wVv (w := (wC_run a k K_count K_byRank K_rankOf E_count E_from E_to E_places E_configurations E_gone R_count R_asked R_reached R_shortest R_layers T_configuration T_ringCount T_keyCount T_partOf T_stateOf T_leastOf T_onlyIn T_starts T_ringKeys T_ringEdges)) (w2 := (wC_run a k K_count K_byRank K_rankOf E_count E_from E_to E_places E_configurations E_gone r25.1 r25.2.1 r25.2.2.1 r25.2.2.2 R_layers T_configuration T_ringCount T_keyCount T_partOf T_stateOf T_leastOf T_onlyIn T_starts T_ringKeys T_ringEdges)) (As := [.ref (a 1), .ref (a 5), .int p1]) (rest := []) (ci := 3) (q0 := 7) ⟨hx, hb, hml, hown, hts⟩ (c_R_draw l dC dI a k _ K_count K_rankOf E_count E_from E_to E_configurations E_gone R_count R_asked R_reached R_shortest p1 r25 e_25) (cwV 3 hts (og_gV tb_163 tb_164 tb_165 tb_61 tb_166) rfl rfl rfl (by decide +kernel) ⟨Nat.le_of_ble_eq_true rfl, Nat.le_of_ble_eq_true rfl⟩) hK hP hD hS hA [1, 3, 4, 5, 6, 8, 9, 10, 11, 12, 13] [1, 2, 3, 5, 6, 7, 8, 9] ⟨rfl, rfl, rfl, rfl, rfl, rfl, rfl, rfl, rfl, rfl, rfl, trivial⟩ rfl [(false, 0), (true, 0), (false, 2), (true, 1), (true, 2), (true, 3), (true, 4), (false, 7), (true, 5), (true, 6), (true, 7), (true, 8), (true, 9), (true, 10), (false, 14), (false, 15), (false, 16), (false, 17), (false, 18), (false, 19), (false, 20), (false, 21), (false, 22)] ⟨rfl, rfl, rfl, rfl, rfl, rfl, rfl, rfl, rfl, rfl, rfl, rfl, rfl, rfl, rfl, rfl, rfl, rfl, rfl, rfl, rfl, rfl, rfl, rfl, rfl, rfl, rfl, rfl, rfl, rfl, rfl, rfl, rfl, rfl, rfl, trivial⟩ ⟨rfl, rfl, rfl, rfl, rfl, rfl, rfl, rfl, rfl, rfl, rfl, rfl, rfl, rfl, rfl, rfl, rfl, rfl, rfl, rfl, rfl, rfl, rfl, trivial⟩ (by decide) rfl rfl rfl rfl hl.1 rfl (Nat.le_of_ble_eq_true rfl) d_C_run_25 ⟨Nat.zero_le _, Nat.zero_le _⟩ (fun H locs hP hD hS => ?_)
      refine lv_aload_n hx hb d_C_run_28 rfl (lv_at hl 0 rfl) ?_
      refine vg_C_told (v := .ref (a 16)) hx hb hts hown hK hP 0 rfl (hts _ tb_167) rfl d_C_run_29 ?_
      refine lv_aload_n hx hb d_C_run_32 rfl (lv_at hl 0 rfl) ?_
      refine vg_C_keys (v := .ref (a 1)) hx hb hts hown hK hP 0 rfl (hts _ tb_13) rfl d_C_run_33 ?_
      refine lv_aload_n hx hb d_C_run_36 rfl (lv_at hl 0 rfl) ?_
      refine vg_C_edges (v := .ref (a 5)) hx hb hts hown hK hP 0 rfl (hts _ tb_27) rfl d_C_run_37 ?_
      refine lv_aload_n hx hb d_C_run_40 rfl (lv_at hl 0 rfl) ?_
      refine vg_C_reaches (v := .ref (a 11)) hx hb hts hown hK hP 0 rfl (hts _ tb_162) rfl d_C_run_41 ?_
      refine lv_iload_n hx hb d_C_run_44 rfl (lv_at hl 1 rfl) ?_
      obtain ⟨r45, e_45, hf⟩ := og_b hf
      refine og_wVv (w := (wC_run a k K_count K_byRank K_rankOf E_count E_from E_to E_places E_configurations E_gone r25.1 r25.2.1 r25.2.2.1 r25.2.2.2 R_layers T_configuration T_ringCount T_keyCount T_partOf T_stateOf T_leastOf T_onlyIn T_starts T_ringKeys T_ringEdges)) (w2 := (wC_run a k K_count K_byRank K_rankOf E_count E_from E_to E_places E_configurations E_gone r25.1 r25.2.1 r25.2.2.1 r25.2.2.2 r45.1 r45.2.1 r45.2.2.1 r45.2.2.2.2.2.2.2.1 r45.2.2.2.1 r45.2.2.2.2.1 r45.2.2.2.2.2.1 r45.2.2.2.2.2.2.1 r45.2.2.2.2.2.2.2.2.1 r45.2.2.2.2.2.2.2.2.2.1 r45.2.2.2.2.2.2.2.2.2.2)) (As := [.ref (a 1), .ref (a 5), .ref (a 11), .int p1]) (rest := []) (ci := 4) (q0 := 13) ⟨hx, hb, hml, hown, hts⟩ (c_T_tell l dC dI a k _ K_count K_byRank E_count E_from E_to E_places E_configurations E_gone r25.1 r25.2.1 r25.2.2.1 r25.2.2.2 R_layers T_configuration T_ringCount T_keyCount T_partOf T_stateOf T_leastOf T_onlyIn T_starts T_ringKeys T_ringEdges p1 r45 e_45) (cwV 4 hts (og_gV tb_168 tb_169 tb_170 tb_106 tb_171) rfl rfl rfl (by decide +kernel) ⟨Nat.le_of_ble_eq_true rfl, Nat.le_of_ble_eq_true rfl⟩) hK hP hD hS hA [1, 2, 4, 5, 6, 7, 8, 9, 10, 11, 12, 13, 14, 15, 16, 17, 18, 19, 20, 21, 22] [0, 2, 3, 4, 5, 6, 7, 8, 9, 10, 11, 12, 13, 14, 15, 16, 17] ⟨rfl, rfl, rfl, rfl, rfl, rfl, rfl, rfl, rfl, rfl, rfl, rfl, rfl, rfl, rfl, rfl, rfl, rfl, rfl, rfl, rfl, trivial⟩ rfl [(false, 0), (true, 0), (true, 1), (false, 3), (true, 2), (true, 3), (true, 4), (true, 5), (true, 6), (true, 7), (true, 8), (true, 9), (true, 10), (true, 11), (true, 12), (true, 13), (true, 14), (true, 15), (true, 16), (true, 17), (true, 18), (true, 19), (true, 20)] ⟨rfl, rfl, rfl, rfl, rfl, rfl, rfl, rfl, rfl, rfl, rfl, rfl, rfl, rfl, rfl, rfl, rfl, rfl, rfl, rfl, rfl, rfl, rfl, rfl, rfl, trivial⟩ ⟨rfl, rfl, rfl, rfl, rfl, rfl, rfl, rfl, rfl, rfl, rfl, rfl, rfl, rfl, rfl, rfl, rfl, rfl, rfl, rfl, rfl, rfl, rfl, trivial⟩ (by decide) rfl rfl rfl rfl hl.1 rfl (Nat.le_of_ble_eq_true rfl) d_C_run_45 ⟨Nat.zero_le _, Nat.zero_le _⟩ (fun H locs hP hD hS => ?_)
      refine lv_aload_n hx hb d_C_run_48 rfl (lv_at hl 0 rfl) ?_
      refine vg_C_told (v := .ref (a 16)) hx hb hts hown hK hP 0 rfl (hts _ tb_167) rfl d_C_run_49 ?_
      refine vg_T_ringCount (v := .int r45.2.2.1) hx hb hts hown hK hP 15 rfl (hts _ tb_172) rfl d_C_run_52 ?_
      obtain rfl := Option.some.inj hf
      exact W.iret (v := r45.2.2.1) hx hb hr (fun t ht hW => ⟨⟨r45.2.2.1, (), rfl, rfl, by rw [ht]; exact hP, va_K.moved hW.alike hK, hD⟩, hS.F ht⟩) hS.2.2 d_C_run_55
    · have hf := og_f hf c_7
      refine lv_iconst (v := (-1)) hx hb d_C_run_10 (by decide) ?_
      obtain rfl := Option.some.inj hf
      exact W.iret (v := (-1)) hx hb hr (fun t ht hW => ⟨⟨(-1), (), rfl, rfl, by rw [ht]; exact hP, va_K.moved hW.alike hK, hD⟩, hS.F ht⟩) hS.2.2 d_C_run_11
