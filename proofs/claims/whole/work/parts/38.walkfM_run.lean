def wM_run (a : Nat → Nat) (k : Nat → ClassId) (M_code : Int32) (M_keys : Int32) (M_edges : Int32) (M_thenKeys : Int32) (M_thenEdges : Int32) (M_configuration : Int32) (M_parts : Int32) (M_rings : Int32) (M_metSize : Int32) (M_name : (Nat → Int32)) (M_from : (Nat → Int32)) (M_to : (Nat → Int32)) (M_bits : (Nat → Int32)) (M_gone : (Nat → Int32)) (M_thenGone : (Nat → Int32)) (M_order : (Nat → Int32)) (M_rank : (Nat → Int32)) (M_part : (Nat → Int32)) (M_shortest : (Nat → Int32)) (M_asks : (Nat → Int32)) (M_reaches : (Nat → Int32)) (M_steps : (Nat → Int32)) (M_ringSize : (Nat → Int32)) (M_ring : (Nat → Int32)) (M_backs : (Nat → Int32)) : va_W := [(a 0, .inr (6, [.int M_code, .int M_keys, .int M_edges, .ref (a 1), .ref (a 2), .ref (a 3), .ref (a 4), .ref (a 5), .ref (a 6), .int M_thenKeys, .int M_thenEdges, .int M_configuration, .ref (a 7), .ref (a 8), .ref (a 9), .ref (a 10), .ref (a 11), .ref (a 12), .ref (a 13), .ref (a 14), .int M_parts, .int M_rings, .ref (a 15), .ref (a 16), .ref (a 17), .int M_metSize, .ref (a 18), .ref (a 19), .ref (a 20)])), (a 1, .inl (k 1, 40, .inl M_name)), (a 2, .inl (k 2, 160, .inl M_from)), (a 3, .inl (k 3, 160, .inl M_to)), (a 5, .inl (k 5, 160, .inl M_bits)), (a 6, .inl (k 6, 160, .inl M_gone)), (a 7, .inl (k 7, 160, .inl M_thenGone)), (a 8, .inl (k 8, 40, .inl M_order)), (a 9, .inl (k 9, 40, .inl M_rank)), (a 10, .inl (k 10, 40, .inl M_part)), (a 11, .inl (k 11, 40, .inl M_shortest)), (a 12, .inl (k 12, 1600, .inl M_asks)), (a 13, .inl (k 13, 1600, .inl M_reaches)), (a 14, .inl (k 14, 1600, .inl M_steps)), (a 15, .inl (k 15, 40, .inl M_ringSize)), (a 16, .inl (k 16, 1600, .inl M_ring)), (a 17, .inl (k 17, 1640, .inl M_backs))]
def tM_run (k : Nat → ClassId) : List (ClassId × FieldType) := [(k 1, .int), (k 2, .int), (k 3, .int), (k 5, .int), (k 6, .boolean), (k 7, .boolean), (k 8, .int), (k 9, .int), (k 10, .int), (k 11, .int), (k 12, .boolean), (k 13, .boolean), (k 14, .int), (k 15, .int), (k 16, .int), (k 17, .boolean)]
set_option maxHeartbeats 4000000 in
set_option maxRecDepth 100000 in
theorem c_M_run (l : Launch) (dC : Nat → ClassId) (dI : Nat → Nat → Nat) (a : Nat → Nat) (k : Nat → ClassId) (sz : Nat) (M_code : Int32) (M_keys : Int32) (M_edges : Int32) (M_thenKeys : Int32) (M_thenEdges : Int32) (M_configuration : Int32) (M_parts : Int32) (M_rings : Int32) (M_metSize : Int32) (M_name : (Nat → Int32)) (M_from : (Nat → Int32)) (M_to : (Nat → Int32)) (M_bits : (Nat → Int32)) (M_gone : (Nat → Int32)) (M_thenGone : (Nat → Int32)) (M_order : (Nat → Int32)) (M_rank : (Nat → Int32)) (M_part : (Nat → Int32)) (M_shortest : (Nat → Int32)) (M_asks : (Nat → Int32)) (M_reaches : (Nat → Int32)) (M_steps : (Nat → Int32)) (M_ringSize : (Nat → Int32)) (M_ring : (Nat → Int32)) (M_backs : (Nat → Int32)) (p1 : Int32) (y : Int32 × Int32 × Int32 × Int32 × Int32 × (Nat → Int32) × (Nat → Int32) × (Nat → Int32) × (Nat → Int32) × (Nat → Int32) × (Nat → Int32) × (Nat → Int32) × (Nat → Int32) × Int32 × Int32 × (Nat → Int32) × (Nat → Int32) × (Nat → Int32)) (hf : fM_run M_code M_keys M_edges M_name M_from M_to M_bits M_gone M_thenKeys M_thenEdges M_configuration M_thenGone M_order M_rank M_part M_shortest M_asks M_reaches M_steps M_parts M_rings M_ringSize M_ring M_backs p1 = some y) : Met l y_M_run ws_M_run ({ frames := 3, cells := 0, slots := 0, locals := 73 }) (og_Pw [.ref (a 0), .int p1] (dC, dI) (wM_run a k M_code M_keys M_edges M_thenKeys M_thenEdges M_configuration M_parts M_rings M_metSize M_name M_from M_to M_bits M_gone M_thenGone M_order M_rank M_part M_shortest M_asks M_reaches M_steps M_ringSize M_ring M_backs) (tM_run k) sz) (og_Qi (dC, dI) (wM_run a k y.2.1 M_keys M_edges y.2.2.1 y.2.2.2.1 y.2.2.2.2.1 y.2.2.2.2.2.2.2.2.2.2.2.2.2.1 y.2.2.2.2.2.2.2.2.2.2.2.2.2.2.1 M_metSize M_name M_from M_to M_bits M_gone y.2.2.2.2.2.1 y.2.2.2.2.2.2.1 y.2.2.2.2.2.2.2.1 y.2.2.2.2.2.2.2.2.1 y.2.2.2.2.2.2.2.2.2.1 y.2.2.2.2.2.2.2.2.2.2.1 y.2.2.2.2.2.2.2.2.2.2.2.1 y.2.2.2.2.2.2.2.2.2.2.2.2.1 y.2.2.2.2.2.2.2.2.2.2.2.2.2.2.2.1 y.2.2.2.2.2.2.2.2.2.2.2.2.2.2.2.2.1 y.2.2.2.2.2.2.2.2.2.2.2.2.2.2.2.2.2) (tM_run k) y.1 (va_A (wM_run a k M_code M_keys M_edges M_thenKeys M_thenEdges M_configuration M_parts M_rings M_metSize M_name M_from M_to M_bits M_gone M_thenGone M_order M_rank M_part M_shortest M_asks M_reaches M_steps M_ringSize M_ring M_backs) sz)) 0 0 (va_A (wM_run a k M_code M_keys M_edges M_thenKeys M_thenEdges M_configuration M_parts M_rings M_metSize M_name M_from M_to M_bits M_gone M_thenGone M_order M_rank M_part M_shortest M_asks M_reaches M_steps M_ringSize M_ring M_backs) sz) := by
  refine Met.ofW (cc := b_M_run) (maxL := 3) (ret := (some .int)) (by decide) rfl ?_
  intro p e s m args below meth c s₁ B hml hv
  obtain ⟨rfl, hsz, hP, hK, hD0⟩ := hv
  have hx := B.exec
  have hb := B.bytes
  have hr := B.returns
  have hts0 := atoms_spec (ws := ws_M_run) B.pre
  have hts : ∀ w ∈ og_tb, w.before _ s = true := fun w h => hts0 w (List.mem_cons_of_mem _ h)
  have hown : s.vm.findClass R_M = some m.cls := findClass_of_methodNamed B.named
  have hlocks := B.notSynchronized
  subst hsz
  have hD := hD0.self (sz := s.heap.size)
  generalize hAe : va_A (wM_run a k M_code M_keys M_edges M_thenKeys M_thenEdges M_configuration M_parts M_rings M_metSize M_name M_from M_to M_bits M_gone M_thenGone M_order M_rank M_part M_shortest M_asks M_reaches M_steps M_ringSize M_ring M_backs) s.heap.size = A at hD ⊢
  have hA : ∀ q : Nat, s.heap.size ≤ q → A q := fun q h => by rw [← hAe]; exact Or.inr h
  have hS : va_S A s.heap s.heap [] := va_S.rf
  have hl := lv_entry ([.ref (a 0), .int p1]) (n := 3) (Nat.le_of_ble_eq_true rfl)
  rw [lg_entry_eq]
  generalize (lg_sl ([.ref (a 0), .int p1]) ++ List.replicate (3 - (lg_sl ([.ref (a 0), .int p1])).length) Slot.unset).toArray = ls at hl ⊢
  have hl : lv_has ls 3 [(0, .ref (a 0)), (1, .int p1)] := hl
  rw [fM_run] at hf
  refine lv_aload_n hx hb d_M_run_0 rfl (lv_at hl 0 rfl) ?_
  refine lv_iconst (v := 0) hx hb d_M_run_1 (by decide) ?_
  refine vs_M_code (v := 0) hx hb hts hown hK hP hD hS 0 rfl (hts _ tb_254) (Nat.le_of_ble_eq_true rfl) d_M_run_2 (fun H locs hP hD hS => ?_)
  have hP : va_P (dC, dI) vwCl (wM_run a k 0 M_keys M_edges M_thenKeys M_thenEdges M_configuration M_parts M_rings M_metSize M_name M_from M_to M_bits M_gone M_thenGone M_order M_rank M_part M_shortest M_asks M_reaches M_steps M_ringSize M_ring M_backs) H := hP
  have hD : va_D A (wM_run a k 0 M_keys M_edges M_thenKeys M_thenEdges M_configuration M_parts M_rings M_metSize M_name M_from M_to M_bits M_gone M_thenGone M_order M_rank M_part M_shortest M_asks M_reaches M_steps M_ringSize M_ring M_backs) := hD
  refine lv_iload_n hx hb d_M_run_5 rfl (lv_at hl 1 rfl) ?_
  refine lv_if_lt (tgt := 15) hx hb d_M_run_6 (by decide) (fun c_6 => ?_) (fun c_6 => ?_)
  · have hf := og_t hf c_6
    refine lv_iconst (v := (-1)) hx hb d_M_run_15 (by decide) ?_
    obtain rfl := Option.some.inj hf
    exact W.iret (v := (-1)) hx hb hr (fun t ht hW => ⟨⟨(-1), (), rfl, rfl, by rw [ht]; exact hP, va_K.moved hW.alike hK, hD⟩, hS.F ht⟩) hS.2.2 d_M_run_16
  · have hf := og_f hf c_6
    refine lv_iload_n hx hb d_M_run_9 rfl (lv_at hl 1 rfl) ?_
    refine lv_bipush (v := 8) hx hb d_M_run_10 (by decide) ?_
    refine lv_icmp_lt (tgt := 17) hx hb d_M_run_12 (by decide) (fun c_12 => ?_) (fun c_12 => ?_)
    · have hf := og_t hf c_12
      refine lv_aload_n hx hb d_M_run_17 rfl (lv_at hl 0 rfl) ?_
      refine lv_iload_n hx hb d_M_run_18 rfl (lv_at hl 1 rfl) ?_
      refine vs_M_configuration (v := p1) hx hb hts hown hK hP hD hS 0 rfl (hts _ tb_277) (Nat.le_of_ble_eq_true rfl) d_M_run_19 (fun H locs hP hD hS => ?_)
      have hP : va_P (dC, dI) vwCl (wM_run a k 0 M_keys M_edges M_thenKeys M_thenEdges p1 M_parts M_rings M_metSize M_name M_from M_to M_bits M_gone M_thenGone M_order M_rank M_part M_shortest M_asks M_reaches M_steps M_ringSize M_ring M_backs) H := hP
      have hD : va_D A (wM_run a k 0 M_keys M_edges M_thenKeys M_thenEdges p1 M_parts M_rings M_metSize M_name M_from M_to M_bits M_gone M_thenGone M_order M_rank M_part M_shortest M_asks M_reaches M_steps M_ringSize M_ring M_backs) := hD
      refine lv_aload_n hx hb d_M_run_22 rfl (lv_at hl 0 rfl) ?_
      refine lv_aload_n hx hb d_M_run_23 rfl (lv_at hl 0 rfl) ?_
      refine vg_M_keys (v := .int M_keys) hx hb hts hown hK hP 0 rfl (hts _ tb_253) rfl d_M_run_24 ?_
      refine vs_M_thenKeys (v := M_keys) hx hb hts hown hK hP hD hS 0 rfl (hts _ tb_272) (Nat.le_of_ble_eq_true rfl) d_M_run_27 (fun H locs hP hD hS => ?_)
      have hP : va_P (dC, dI) vwCl (wM_run a k 0 M_keys M_edges M_keys M_thenEdges p1 M_parts M_rings M_metSize M_name M_from M_to M_bits M_gone M_thenGone M_order M_rank M_part M_shortest M_asks M_reaches M_steps M_ringSize M_ring M_backs) H := hP
      have hD : va_D A (wM_run a k 0 M_keys M_edges M_keys M_thenEdges p1 M_parts M_rings M_metSize M_name M_from M_to M_bits M_gone M_thenGone M_order M_rank M_part M_shortest M_asks M_reaches M_steps M_ringSize M_ring M_backs) := hD
      refine lv_aload_n hx hb d_M_run_30 rfl (lv_at hl 0 rfl) ?_
      refine lv_aload_n hx hb d_M_run_31 rfl (lv_at hl 0 rfl) ?_
      refine vg_M_edges (v := .int M_edges) hx hb hts hown hK hP 0 rfl (hts _ tb_261) rfl d_M_run_32 ?_
      refine vs_M_thenEdges (v := M_edges) hx hb hts hown hK hP hD hS 0 rfl (hts _ tb_276) (Nat.le_of_ble_eq_true rfl) d_M_run_35 (fun H locs hP hD hS => ?_)
      have hP : va_P (dC, dI) vwCl (wM_run a k 0 M_keys M_edges M_keys M_edges p1 M_parts M_rings M_metSize M_name M_from M_to M_bits M_gone M_thenGone M_order M_rank M_part M_shortest M_asks M_reaches M_steps M_ringSize M_ring M_backs) H := hP
      have hD : va_D A (wM_run a k 0 M_keys M_edges M_keys M_edges p1 M_parts M_rings M_metSize M_name M_from M_to M_bits M_gone M_thenGone M_order M_rank M_part M_shortest M_asks M_reaches M_steps M_ringSize M_ring M_backs) := hD
      refine lv_iconst (v := 0) hx hb d_M_run_38 (by decide) ?_
      refine lv_istore_n (lv' := [(2, .int 0), (0, .ref (a 0)), (1, .int p1)]) hx hb d_M_run_39 rfl hl (by decide) rfl (fun ls hl => ?_)
      have k40_65 : ∀ (M_thenGone : (Nat → Int32)) (H : Heap) (locs : List Loc) (ls : Array Slot), fM_run_K40_65 0 M_keys M_name M_from M_to M_bits M_keys M_edges p1 M_order M_rank M_part M_shortest M_asks M_reaches M_steps M_parts M_ringSize M_ring M_backs M_thenGone = some y → va_P (dC, dI) vwCl (wM_run a k 0 M_keys M_edges M_keys M_edges p1 M_parts M_rings M_metSize M_name M_from M_to M_bits M_gone M_thenGone M_order M_rank M_part M_shortest M_asks M_reaches M_steps M_ringSize M_ring M_backs) H → va_D A (wM_run a k 0 M_keys M_edges M_keys M_edges p1 M_parts M_rings M_metSize M_name M_from M_to M_bits M_gone M_thenGone M_order M_rank M_part M_shortest M_asks M_reaches M_steps M_ringSize M_ring M_backs) → va_S A s.heap H locs → lv_has ls 3 [(0, .ref (a 0))] → W p l e (headSpec ws_M_run { frames := 3, cells := 0, slots := 0, locals := 73 }).room s m ([.ref (a 0), .int p1] : List Value).toArray below meth c H locs 0 0 (MQ below (og_Qi (dC, dI) (wM_run a k y.2.1 M_keys M_edges y.2.2.1 y.2.2.2.1 y.2.2.2.2.1 y.2.2.2.2.2.2.2.2.2.2.2.2.2.1 y.2.2.2.2.2.2.2.2.2.2.2.2.2.2.1 M_metSize M_name M_from M_to M_bits M_gone y.2.2.2.2.2.1 y.2.2.2.2.2.2.1 y.2.2.2.2.2.2.2.1 y.2.2.2.2.2.2.2.2.1 y.2.2.2.2.2.2.2.2.2.1 y.2.2.2.2.2.2.2.2.2.2.1 y.2.2.2.2.2.2.2.2.2.2.2.1 y.2.2.2.2.2.2.2.2.2.2.2.2.1 y.2.2.2.2.2.2.2.2.2.2.2.2.2.2.2.1 y.2.2.2.2.2.2.2.2.2.2.2.2.2.2.2.2.1 y.2.2.2.2.2.2.2.2.2.2.2.2.2.2.2.2.2) (tM_run k) y.1 A) ([.ref (a 0), .int p1] : List Value).toArray s 0 0 A) (F0 m 65 ls []) := by
        intro M_thenGone H locs ls hf hP hD hS hl
        rw [fM_run_K40_65] at hf
        refine lv_aload_n hx hb d_M_run_65 rfl (lv_at hl 0 rfl) ?_
        obtain ⟨r66, e_66, hf⟩ := og_b hf
        refine og_wVv (w := (wM_run a k 0 M_keys M_edges M_keys M_edges p1 M_parts M_rings M_metSize M_name M_from M_to M_bits M_gone M_thenGone M_order M_rank M_part M_shortest M_asks M_reaches M_steps M_ringSize M_ring M_backs)) (w2 := (wM_run a k 0 M_keys M_edges M_keys M_edges p1 M_parts M_rings M_metSize M_name M_from M_to M_bits M_gone M_thenGone r66.1 r66.2 M_part M_shortest M_asks M_reaches M_steps M_ringSize M_ring M_backs)) (As := []) (rest := []) (ci := 6) (q0 := 0) ⟨hx, hb, hml, hown, hts⟩ (c_M_sort l dC dI a k _ 0 M_keys M_edges M_keys M_edges p1 M_parts M_rings M_metSize M_name M_order M_rank r66 e_66) (cwV 0 hts (og_gV tb_298 tb_299 tb_300 tb_259 tb_301) rfl rfl rfl (by decide +kernel) ⟨Nat.le_of_ble_eq_true rfl, Nat.le_of_ble_eq_true rfl⟩) hK hP hD hS hA [0, 1, 7, 8] [0, 6, 7] ⟨rfl, rfl, rfl, rfl, trivial⟩ rfl [(true, 0), (true, 1), (false, 2), (false, 3), (false, 4), (false, 5), (false, 6), (true, 2), (true, 3), (false, 9), (false, 10), (false, 11), (false, 12), (false, 13), (false, 14), (false, 15), (false, 16)] ⟨rfl, rfl, rfl, rfl, rfl, rfl, rfl, rfl, rfl, rfl, rfl, rfl, rfl, rfl, rfl, rfl, rfl, rfl, rfl, rfl, rfl, rfl, rfl, rfl, rfl, rfl, rfl, rfl, rfl, rfl, trivial⟩ ⟨rfl, rfl, rfl, rfl, rfl, rfl, rfl, rfl, rfl, rfl, rfl, rfl, rfl, rfl, rfl, rfl, rfl, trivial⟩ (by decide) rfl rfl rfl rfl hl.1 rfl (Nat.le_of_ble_eq_true rfl) d_M_run_66 ⟨Nat.zero_le _, Nat.zero_le _⟩ (fun H locs hP hD hS => ?_)
        refine lv_aload_n hx hb d_M_run_69 rfl (lv_at hl 0 rfl) ?_
        obtain ⟨r70, e_70, hf⟩ := og_b hf
        refine og_wVv (w := (wM_run a k 0 M_keys M_edges M_keys M_edges p1 M_parts M_rings M_metSize M_name M_from M_to M_bits M_gone M_thenGone r66.1 r66.2 M_part M_shortest M_asks M_reaches M_steps M_ringSize M_ring M_backs)) (w2 := (wM_run a k 0 M_keys M_edges M_keys M_edges p1 M_parts M_rings M_metSize M_name M_from M_to M_bits M_gone M_thenGone r66.1 r66.2 M_part M_shortest r70.1 r70.2.1 r70.2.2 M_ringSize M_ring M_backs)) (As := []) (rest := []) (ci := 6) (q0 := 0) ⟨hx, hb, hml, hown, hts⟩ (c_M_close l dC dI a k _ 0 M_keys M_edges M_keys M_edges p1 M_parts M_rings M_metSize M_from M_to M_bits M_thenGone r66.2 M_asks M_reaches M_steps r70 e_70) (cwV 0 hts (og_gV tb_302 tb_303 tb_304 tb_259 tb_305) rfl rfl rfl (by decide +kernel) ⟨Nat.le_of_ble_eq_true rfl, Nat.le_of_ble_eq_true rfl⟩) hK hP hD hS hA [0, 2, 3, 4, 6, 8, 11, 12, 13] [1, 2, 3, 5, 7, 10, 11, 12] ⟨rfl, rfl, rfl, rfl, rfl, rfl, rfl, rfl, rfl, trivial⟩ rfl [(true, 0), (false, 1), (true, 1), (true, 2), (true, 3), (false, 5), (true, 4), (false, 7), (true, 5), (false, 9), (false, 10), (true, 6), (true, 7), (true, 8), (false, 14), (false, 15), (false, 16)] ⟨rfl, rfl, rfl, rfl, rfl, rfl, rfl, rfl, rfl, rfl, rfl, rfl, rfl, rfl, rfl, rfl, rfl, rfl, rfl, rfl, rfl, rfl, rfl, rfl, rfl, trivial⟩ ⟨rfl, rfl, rfl, rfl, rfl, rfl, rfl, rfl, rfl, rfl, rfl, rfl, rfl, rfl, rfl, rfl, rfl, trivial⟩ (by decide) rfl rfl rfl rfl hl.1 rfl (Nat.le_of_ble_eq_true rfl) d_M_run_70 ⟨Nat.zero_le _, Nat.zero_le _⟩ (fun H locs hP hD hS => ?_)
        refine lv_aload_n hx hb d_M_run_73 rfl (lv_at hl 0 rfl) ?_
        obtain ⟨r74, e_74, hf⟩ := og_b hf
        refine og_wVv (w := (wM_run a k 0 M_keys M_edges M_keys M_edges p1 M_parts M_rings M_metSize M_name M_from M_to M_bits M_gone M_thenGone r66.1 r66.2 M_part M_shortest r70.1 r70.2.1 r70.2.2 M_ringSize M_ring M_backs)) (w2 := (wM_run a k 0 M_keys M_edges M_keys M_edges p1 r74.2.2 M_rings M_metSize M_name M_from M_to M_bits M_gone M_thenGone r66.1 r66.2 r74.1 r74.2.1 r70.1 r70.2.1 r70.2.2 M_ringSize M_ring M_backs)) (As := []) (rest := []) (ci := 6) (q0 := 0) ⟨hx, hb, hml, hown, hts⟩ (c_M_cutIntoParts l dC dI a k _ 0 M_keys M_edges M_keys M_edges p1 M_parts M_rings M_metSize M_part M_shortest r70.2.1 r70.2.2 r74 e_74) (cwV 0 hts (og_gV tb_306 tb_307 tb_308 tb_259 tb_309) rfl rfl rfl (by decide +kernel) ⟨Nat.le_of_ble_eq_true rfl, Nat.le_of_ble_eq_true rfl⟩) hK hP hD hS hA [0, 9, 10, 12, 13] [8, 9, 11, 12] ⟨rfl, rfl, rfl, rfl, rfl, trivial⟩ rfl [(true, 0), (false, 1), (false, 2), (false, 3), (false, 4), (false, 5), (false, 6), (false, 7), (false, 8), (true, 1), (true, 2), (false, 11), (true, 3), (true, 4), (false, 14), (false, 15), (false, 16)] ⟨rfl, rfl, rfl, rfl, rfl, rfl, rfl, rfl, rfl, rfl, rfl, rfl, rfl, rfl, rfl, rfl, rfl, rfl, rfl, rfl, rfl, rfl, rfl, rfl, rfl, rfl, rfl, rfl, rfl, trivial⟩ ⟨rfl, rfl, rfl, rfl, rfl, rfl, rfl, rfl, rfl, rfl, rfl, rfl, rfl, rfl, rfl, rfl, rfl, trivial⟩ (by decide) rfl rfl rfl rfl hl.1 rfl (Nat.le_of_ble_eq_true rfl) d_M_run_74 ⟨Nat.zero_le _, Nat.zero_le _⟩ (fun H locs hP hD hS => ?_)
        refine lv_aload_n hx hb d_M_run_77 rfl (lv_at hl 0 rfl) ?_
        refine lv_iconst (v := 0) hx hb d_M_run_78 (by decide) ?_
        refine vs_M_rings (v := 0) hx hb hts hown hK hP hD hS 0 rfl (hts _ tb_296) (Nat.le_of_ble_eq_true rfl) d_M_run_79 (fun H locs hP hD hS => ?_)
        have hP : va_P (dC, dI) vwCl (wM_run a k 0 M_keys M_edges M_keys M_edges p1 r74.2.2 0 M_metSize M_name M_from M_to M_bits M_gone M_thenGone r66.1 r66.2 r74.1 r74.2.1 r70.1 r70.2.1 r70.2.2 M_ringSize M_ring M_backs) H := hP
        have hD : va_D A (wM_run a k 0 M_keys M_edges M_keys M_edges p1 r74.2.2 0 M_metSize M_name M_from M_to M_bits M_gone M_thenGone r66.1 r66.2 r74.1 r74.2.1 r70.1 r70.2.1 r70.2.2 M_ringSize M_ring M_backs) := hD
        refine lv_iconst (v := 0) hx hb d_M_run_82 (by decide) ?_
        refine lv_istore_n (lv' := [(2, .int 0), (0, .ref (a 0))]) hx hb d_M_run_83 rfl hl (by decide) rfl (fun ls hl => ?_)
        have k84_103 : ∀ (M_rings : Int32) (M_ringSize : (Nat → Int32)) (M_ring : (Nat → Int32)) (M_backs : (Nat → Int32)) (H : Heap) (locs : List Loc) (ls : Array Slot), fM_run_K84_103 0 M_keys M_edges p1 M_thenGone r66.1 r66.2 r74.1 r74.2.1 r70.1 r70.2.1 r70.2.2 r74.2.2 M_rings M_ringSize M_ring M_backs = some y → va_P (dC, dI) vwCl (wM_run a k 0 M_keys M_edges M_keys M_edges p1 r74.2.2 M_rings M_metSize M_name M_from M_to M_bits M_gone M_thenGone r66.1 r66.2 r74.1 r74.2.1 r70.1 r70.2.1 r70.2.2 M_ringSize M_ring M_backs) H → va_D A (wM_run a k 0 M_keys M_edges M_keys M_edges p1 r74.2.2 M_rings M_metSize M_name M_from M_to M_bits M_gone M_thenGone r66.1 r66.2 r74.1 r74.2.1 r70.1 r70.2.1 r70.2.2 M_ringSize M_ring M_backs) → va_S A s.heap H locs → lv_has ls 3 [(0, .ref (a 0))] → W p l e (headSpec ws_M_run { frames := 3, cells := 0, slots := 0, locals := 73 }).room s m ([.ref (a 0), .int p1] : List Value).toArray below meth c H locs 0 0 (MQ below (og_Qi (dC, dI) (wM_run a k y.2.1 M_keys M_edges y.2.2.1 y.2.2.2.1 y.2.2.2.2.1 y.2.2.2.2.2.2.2.2.2.2.2.2.2.1 y.2.2.2.2.2.2.2.2.2.2.2.2.2.2.1 M_metSize M_name M_from M_to M_bits M_gone y.2.2.2.2.2.1 y.2.2.2.2.2.2.1 y.2.2.2.2.2.2.2.1 y.2.2.2.2.2.2.2.2.1 y.2.2.2.2.2.2.2.2.2.1 y.2.2.2.2.2.2.2.2.2.2.1 y.2.2.2.2.2.2.2.2.2.2.2.1 y.2.2.2.2.2.2.2.2.2.2.2.2.1 y.2.2.2.2.2.2.2.2.2.2.2.2.2.2.2.1 y.2.2.2.2.2.2.2.2.2.2.2.2.2.2.2.2.1 y.2.2.2.2.2.2.2.2.2.2.2.2.2.2.2.2.2) (tM_run k) y.1 A) ([.ref (a 0), .int p1] : List Value).toArray s 0 0 A) (F0 m 103 ls []) := by
          intro M_rings M_ringSize M_ring M_backs H locs ls hf hP hD hS hl
          rw [fM_run_K84_103] at hf
          refine lv_aload_n hx hb d_M_run_103 rfl (lv_at hl 0 rfl) ?_
          refine vg_M_rings (v := .int M_rings) hx hb hts hown hK hP 0 rfl (hts _ tb_296) rfl d_M_run_104 ?_
          obtain rfl := Option.some.inj hf
          exact W.iret (v := M_rings) hx hb hr (fun t ht hW => ⟨⟨M_rings, (), rfl, rfl, by rw [ht]; exact hP, va_K.moved hW.alike hK, hD⟩, hS.F ht⟩) hS.2.2 d_M_run_107
        have lp84 : ∀ (n84 : Nat) (v2 : Int32) (M_rings : Int32) (M_ringSize : (Nat → Int32)) (M_ring : (Nat → Int32)) (M_backs : (Nat → Int32)) (H : Heap) (locs : List Loc) (ls : Array Slot), fM_run_L84 (fM_run_K84_103 0 M_keys M_edges p1 M_thenGone r66.1 r66.2 r74.1 r74.2.1 r70.1 r70.2.1 r70.2.2 r74.2.2) M_keys r74.1 r74.2.1 r70.1 r74.2.2 n84 v2 M_rings M_ringSize M_ring M_backs = some y → va_P (dC, dI) vwCl (wM_run a k 0 M_keys M_edges M_keys M_edges p1 r74.2.2 M_rings M_metSize M_name M_from M_to M_bits M_gone M_thenGone r66.1 r66.2 r74.1 r74.2.1 r70.1 r70.2.1 r70.2.2 M_ringSize M_ring M_backs) H → va_D A (wM_run a k 0 M_keys M_edges M_keys M_edges p1 r74.2.2 M_rings M_metSize M_name M_from M_to M_bits M_gone M_thenGone r66.1 r66.2 r74.1 r74.2.1 r70.1 r70.2.1 r70.2.2 M_ringSize M_ring M_backs) → va_S A s.heap H locs → lv_has ls 3 [(0, .ref (a 0)), (2, .int v2)] → W p l e (headSpec ws_M_run { frames := 3, cells := 0, slots := 0, locals := 73 }).room s m ([.ref (a 0), .int p1] : List Value).toArray below meth c H locs 0 0 (MQ below (og_Qi (dC, dI) (wM_run a k y.2.1 M_keys M_edges y.2.2.1 y.2.2.2.1 y.2.2.2.2.1 y.2.2.2.2.2.2.2.2.2.2.2.2.2.1 y.2.2.2.2.2.2.2.2.2.2.2.2.2.2.1 M_metSize M_name M_from M_to M_bits M_gone y.2.2.2.2.2.1 y.2.2.2.2.2.2.1 y.2.2.2.2.2.2.2.1 y.2.2.2.2.2.2.2.2.1 y.2.2.2.2.2.2.2.2.2.1 y.2.2.2.2.2.2.2.2.2.2.1 y.2.2.2.2.2.2.2.2.2.2.2.1 y.2.2.2.2.2.2.2.2.2.2.2.2.1 y.2.2.2.2.2.2.2.2.2.2.2.2.2.2.2.1 y.2.2.2.2.2.2.2.2.2.2.2.2.2.2.2.2.1 y.2.2.2.2.2.2.2.2.2.2.2.2.2.2.2.2.2) (tM_run k) y.1 A) ([.ref (a 0), .int p1] : List Value).toArray s 0 0 A) (F0 m 84 ls []) := by
          intro n84
          induction n84 with
          | zero => intro v2 M_rings M_ringSize M_ring M_backs H locs ls hf hP hD hS hl; rw [fM_run_L84] at hf; cases hf
          | succ n84 ih84 =>
            intro v2 M_rings M_ringSize M_ring M_backs H locs ls hf hP hD hS hl
            rw [fM_run_L84] at hf
            refine lv_iload_n hx hb d_M_run_84 rfl (lv_at hl 1 rfl) ?_
            refine lv_aload_n hx hb d_M_run_85 rfl (lv_at hl 0 rfl) ?_
            refine vg_M_parts (v := .int r74.2.2) hx hb hts hown hK hP 0 rfl (hts _ tb_283) rfl d_M_run_86 ?_
            refine lv_icmp_ge (tgt := 103) hx hb d_M_run_89 (by decide) (fun c_89 => ?_) (fun c_89 => ?_)
            · have hf := og_t hf c_89
              exact k84_103 M_rings M_ringSize M_ring M_backs _ _ _ hf hP hD hS (lv_sub hl [0] rfl)
            · have hf := og_f hf c_89
              refine lv_aload_n hx hb d_M_run_92 rfl (lv_at hl 0 rfl) ?_
              refine lv_iload_n hx hb d_M_run_93 rfl (lv_at hl 1 rfl) ?_
              obtain ⟨r94, e_94, hf⟩ := og_b hf
              refine og_wVv (w := (wM_run a k 0 M_keys M_edges M_keys M_edges p1 r74.2.2 M_rings M_metSize M_name M_from M_to M_bits M_gone M_thenGone r66.1 r66.2 r74.1 r74.2.1 r70.1 r70.2.1 r70.2.2 M_ringSize M_ring M_backs)) (w2 := (wM_run a k 0 M_keys M_edges M_keys M_edges p1 r74.2.2 r94.1 M_metSize M_name M_from M_to M_bits M_gone M_thenGone r66.1 r66.2 r74.1 r74.2.1 r70.1 r70.2.1 r70.2.2 r94.2.1 r94.2.2.1 r94.2.2.2)) (As := [.int v2]) (rest := []) (ci := 6) (q0 := 0) ⟨hx, hb, hml, hown, hts⟩ (c_M_tellRing l dC dI a k _ 0 M_keys M_edges M_keys M_edges p1 r74.2.2 M_rings M_metSize r74.1 r74.2.1 r70.1 M_ringSize M_ring M_backs v2 r94 e_94) (cwV 1 hts (og_gV tb_310 tb_311 tb_312 tb_259 tb_313) rfl rfl rfl (by decide +kernel) ⟨Nat.le_of_ble_eq_true rfl, Nat.le_of_ble_eq_true rfl⟩) hK hP hD hS hA [0, 9, 10, 11, 14, 15, 16] [8, 9, 10, 13, 14, 15] ⟨rfl, rfl, rfl, rfl, rfl, rfl, rfl, trivial⟩ rfl [(true, 0), (false, 1), (false, 2), (false, 3), (false, 4), (false, 5), (false, 6), (false, 7), (false, 8), (true, 1), (true, 2), (true, 3), (false, 12), (false, 13), (true, 4), (true, 5), (true, 6)] ⟨rfl, rfl, rfl, rfl, rfl, rfl, rfl, rfl, rfl, rfl, rfl, rfl, rfl, rfl, rfl, rfl, rfl, rfl, rfl, rfl, rfl, rfl, rfl, rfl, rfl, rfl, rfl, trivial⟩ ⟨rfl, rfl, rfl, rfl, rfl, rfl, rfl, rfl, rfl, rfl, rfl, rfl, rfl, rfl, rfl, rfl, rfl, trivial⟩ (by decide) rfl rfl rfl rfl hl.1 rfl (Nat.le_of_ble_eq_true rfl) d_M_run_94 ⟨Nat.zero_le _, Nat.zero_le _⟩ (fun H locs hP hD hS => ?_)
              refine lv_iinc (v := (v2 + 1)) (lv' := [(2, .int (v2 + 1)), (0, .ref (a 0))]) hx hb d_M_run_97 hl (k := 1) rfl rfl (by decide) rfl (fun ls hl => ?_)
              refine lv_goto (tgt := 84) hx hb d_M_run_100 (by decide) ?_
              exact ih84 (v2 + 1) r94.1 r94.2.1 r94.2.2.1 r94.2.2.2 _ _ _ hf hP hD hS (lv_sub hl [1, 0] rfl)
        exact lp84 FU 0 0 M_ringSize M_ring M_backs _ _ _ hf hP hD hS (lv_sub hl [1, 0] rfl)
      have lp40 : ∀ (n40 : Nat) (v2 : Int32) (M_thenGone : (Nat → Int32)) (H : Heap) (locs : List Loc) (ls : Array Slot), fM_run_L40 (fM_run_K40_65 0 M_keys M_name M_from M_to M_bits M_keys M_edges p1 M_order M_rank M_part M_shortest M_asks M_reaches M_steps M_parts M_ringSize M_ring M_backs) M_gone n40 v2 M_thenGone = some y → va_P (dC, dI) vwCl (wM_run a k 0 M_keys M_edges M_keys M_edges p1 M_parts M_rings M_metSize M_name M_from M_to M_bits M_gone M_thenGone M_order M_rank M_part M_shortest M_asks M_reaches M_steps M_ringSize M_ring M_backs) H → va_D A (wM_run a k 0 M_keys M_edges M_keys M_edges p1 M_parts M_rings M_metSize M_name M_from M_to M_bits M_gone M_thenGone M_order M_rank M_part M_shortest M_asks M_reaches M_steps M_ringSize M_ring M_backs) → va_S A s.heap H locs → lv_has ls 3 [(0, .ref (a 0)), (2, .int v2)] → W p l e (headSpec ws_M_run { frames := 3, cells := 0, slots := 0, locals := 73 }).room s m ([.ref (a 0), .int p1] : List Value).toArray below meth c H locs 0 0 (MQ below (og_Qi (dC, dI) (wM_run a k y.2.1 M_keys M_edges y.2.2.1 y.2.2.2.1 y.2.2.2.2.1 y.2.2.2.2.2.2.2.2.2.2.2.2.2.1 y.2.2.2.2.2.2.2.2.2.2.2.2.2.2.1 M_metSize M_name M_from M_to M_bits M_gone y.2.2.2.2.2.1 y.2.2.2.2.2.2.1 y.2.2.2.2.2.2.2.1 y.2.2.2.2.2.2.2.2.1 y.2.2.2.2.2.2.2.2.2.1 y.2.2.2.2.2.2.2.2.2.2.1 y.2.2.2.2.2.2.2.2.2.2.2.1 y.2.2.2.2.2.2.2.2.2.2.2.2.1 y.2.2.2.2.2.2.2.2.2.2.2.2.2.2.2.1 y.2.2.2.2.2.2.2.2.2.2.2.2.2.2.2.2.1 y.2.2.2.2.2.2.2.2.2.2.2.2.2.2.2.2.2) (tM_run k) y.1 A) ([.ref (a 0), .int p1] : List Value).toArray s 0 0 A) (F0 m 40 ls []) := by
        intro n40
        induction n40 with
        | zero => intro v2 M_thenGone H locs ls hf hP hD hS hl; rw [fM_run_L40] at hf; cases hf
        | succ n40 ih40 =>
          intro v2 M_thenGone H locs ls hf hP hD hS hl
          rw [fM_run_L40] at hf
          refine lv_iload_n hx hb d_M_run_40 rfl (lv_at hl 1 rfl) ?_
          refine lv_sipush (v := 160) hx hb d_M_run_41 (by decide) ?_
          refine lv_icmp_ge (tgt := 65) hx hb d_M_run_44 (by decide) (fun c_44 => ?_) (fun c_44 => ?_)
          · have hf := og_t hf c_44
            exact k40_65 M_thenGone _ _ _ hf hP hD hS (lv_sub hl [0] rfl)
          · have hf := og_f hf c_44
            refine lv_aload_n hx hb d_M_run_47 rfl (lv_at hl 0 rfl) ?_
            refine vg_M_thenGone (v := .ref (a 7)) hx hb hts hown hK hP 0 rfl (hts _ tb_267) rfl d_M_run_48 ?_
            refine lv_iload_n hx hb d_M_run_51 rfl (lv_at hl 1 rfl) ?_
            refine lv_aload_n hx hb d_M_run_52 rfl (lv_at hl 0 rfl) ?_
            refine vg_M_gone (v := .ref (a 6)) hx hb hts hown hK hP 0 rfl (hts _ tb_266) rfl d_M_run_53 ?_
            refine lv_iload_n hx hb d_M_run_56 rfl (lv_at hl 1 rfl) ?_
            obtain ⟨h_57, hf⟩ := og_ck_s hf
            refine va_zald hx hb hK hP 5 4 rfl rfl h_57 d_M_run_57 ?_
            obtain ⟨h_58, hf⟩ := og_ck_s hf
            refine va_zast hx hb hK hP hD hS 6 5 rfl rfl h_58 d_M_run_58 (fun H locs hP hD hS => ?_)
            have hP : va_P (dC, dI) vwCl (wM_run a k 0 M_keys M_edges M_keys M_edges p1 M_parts M_rings M_metSize M_name M_from M_to M_bits M_gone (upd M_thenGone v2.toNatClampNeg (vp_nar .boolean (M_gone v2.toNatClampNeg))) M_order M_rank M_part M_shortest M_asks M_reaches M_steps M_ringSize M_ring M_backs) H := hP
            have hD : va_D A (wM_run a k 0 M_keys M_edges M_keys M_edges p1 M_parts M_rings M_metSize M_name M_from M_to M_bits M_gone (upd M_thenGone v2.toNatClampNeg (vp_nar .boolean (M_gone v2.toNatClampNeg))) M_order M_rank M_part M_shortest M_asks M_reaches M_steps M_ringSize M_ring M_backs) := hD
            refine lv_iinc (v := (v2 + 1)) (lv' := [(2, .int (v2 + 1)), (0, .ref (a 0))]) hx hb d_M_run_59 hl (k := 1) rfl rfl (by decide) rfl (fun ls hl => ?_)
            refine lv_goto (tgt := 40) hx hb d_M_run_62 (by decide) ?_
            exact ih40 (v2 + 1) (upd M_thenGone v2.toNatClampNeg (vp_nar .boolean (M_gone v2.toNatClampNeg))) _ _ _ hf hP hD hS (lv_sub hl [1, 0] rfl)
      exact lp40 FU 0 M_thenGone _ _ _ hf hP hD hS (lv_sub hl [1, 0] rfl)
    · have hf := og_f hf c_12
      refine lv_iconst (v := (-1)) hx hb d_M_run_15 (by decide) ?_
      obtain rfl := Option.some.inj hf
      exact W.iret (v := (-1)) hx hb hr (fun t ht hW => ⟨⟨(-1), (), rfl, rfl, by rw [ht]; exact hP, va_K.moved hW.alike hK, hD⟩, hS.F ht⟩) hS.2.2 d_M_run_16
