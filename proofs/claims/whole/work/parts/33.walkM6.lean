def wM_ring (a : Nat → Nat) (k : Nat → ClassId) (M_code : Int32) (M_keys : Int32) (M_edges : Int32) (M_thenKeys : Int32) (M_thenEdges : Int32) (M_configuration : Int32) (M_parts : Int32) (M_rings : Int32) (M_metSize : Int32) (M_from : (Nat → Int32)) (M_to : (Nat → Int32)) (M_place : (Nat → Int32)) (M_bits : (Nat → Int32)) (M_thenGone : (Nat → Int32)) (M_order : (Nat → Int32)) (M_ringSize : (Nat → Int32)) (M_ring : (Nat → Int32)) : va_W := [(a 0, .inr (6, [.int M_code, .int M_keys, .int M_edges, .ref (a 1), .ref (a 2), .ref (a 3), .ref (a 4), .ref (a 5), .ref (a 6), .int M_thenKeys, .int M_thenEdges, .int M_configuration, .ref (a 7), .ref (a 8), .ref (a 9), .ref (a 10), .ref (a 11), .ref (a 12), .ref (a 13), .ref (a 14), .int M_parts, .int M_rings, .ref (a 15), .ref (a 16), .ref (a 17), .int M_metSize, .ref (a 18), .ref (a 19), .ref (a 20)])), (a 2, .inl (k 2, 160, .inl M_from)), (a 3, .inl (k 3, 160, .inl M_to)), (a 4, .inl (k 4, 160, .inl M_place)), (a 5, .inl (k 5, 160, .inl M_bits)), (a 7, .inl (k 7, 160, .inl M_thenGone)), (a 8, .inl (k 8, 40, .inl M_order)), (a 15, .inl (k 15, 40, .inl M_ringSize)), (a 16, .inl (k 16, 1600, .inl M_ring))]
def tM_ring (k : Nat → ClassId) : List (ClassId × FieldType) := [(k 2, .int), (k 3, .int), (k 4, .int), (k 5, .int), (k 7, .boolean), (k 8, .int), (k 15, .int), (k 16, .int)]
set_option maxHeartbeats 4000000 in
set_option maxRecDepth 100000 in
theorem c_M_ring (l : Launch) (dC : Nat → ClassId) (dI : Nat → Nat → Nat) (a : Nat → Nat) (k : Nat → ClassId) (sz : Nat) (M_code : Int32) (M_keys : Int32) (M_edges : Int32) (M_thenKeys : Int32) (M_thenEdges : Int32) (M_configuration : Int32) (M_parts : Int32) (M_rings : Int32) (M_metSize : Int32) (M_from : (Nat → Int32)) (M_to : (Nat → Int32)) (M_place : (Nat → Int32)) (M_bits : (Nat → Int32)) (M_thenGone : (Nat → Int32)) (M_order : (Nat → Int32)) (M_ringSize : (Nat → Int32)) (M_ring : (Nat → Int32)) (p1 : Int32) (p2 : Int32) (p3 : Int32) (y : Int32 × Int32) (hf : fM_ring M_code M_from M_to M_place M_bits M_thenEdges M_configuration M_thenGone M_order M_rings M_ringSize M_ring p1 p2 p3 = some y) : Met l y_M_ring ws_M_ring ({ frames := 3, cells := 0, slots := 0, locals := 67 }) (og_Pw [.ref (a 0), .int p1, .int p2, .int p3] (dC, dI) (wM_ring a k M_code M_keys M_edges M_thenKeys M_thenEdges M_configuration M_parts M_rings M_metSize M_from M_to M_place M_bits M_thenGone M_order M_ringSize M_ring) (tM_ring k) sz) (og_Qi (dC, dI) (wM_ring a k y.2 M_keys M_edges M_thenKeys M_thenEdges M_configuration M_parts M_rings M_metSize M_from M_to M_place M_bits M_thenGone M_order M_ringSize M_ring) (tM_ring k) y.1 (va_A (wM_ring a k M_code M_keys M_edges M_thenKeys M_thenEdges M_configuration M_parts M_rings M_metSize M_from M_to M_place M_bits M_thenGone M_order M_ringSize M_ring) sz)) 0 0 (va_A (wM_ring a k M_code M_keys M_edges M_thenKeys M_thenEdges M_configuration M_parts M_rings M_metSize M_from M_to M_place M_bits M_thenGone M_order M_ringSize M_ring) sz) := by
  refine Met.ofW (cc := b_M_ring) (maxL := 5) (ret := (some .int)) (by decide) rfl ?_
  intro p e s m args below meth c s₁ B hml hv
  obtain ⟨rfl, hsz, hP, hK, hD0⟩ := hv
  have hx := B.exec
  have hb := B.bytes
  have hr := B.returns
  have hts0 := atoms_spec (ws := ws_M_ring) B.pre
  have hts : ∀ w ∈ og_tb, w.before _ s = true := fun w h => hts0 w (List.mem_cons_of_mem _ h)
  have hown : s.vm.findClass R_M = some m.cls := findClass_of_methodNamed B.named
  have hlocks := B.notSynchronized
  subst hsz
  have hD := hD0.self (sz := s.heap.size)
  generalize hAe : va_A (wM_ring a k M_code M_keys M_edges M_thenKeys M_thenEdges M_configuration M_parts M_rings M_metSize M_from M_to M_place M_bits M_thenGone M_order M_ringSize M_ring) s.heap.size = A at hD ⊢
  have hA : ∀ q : Nat, s.heap.size ≤ q → A q := fun q h => by rw [← hAe]; exact Or.inr h
  have hS : va_S A s.heap s.heap [] := va_S.rf
  have hl := lv_entry ([.ref (a 0), .int p1, .int p2, .int p3]) (n := 5) (Nat.le_of_ble_eq_true rfl)
  rw [lg_entry_eq]
  generalize (lg_sl ([.ref (a 0), .int p1, .int p2, .int p3]) ++ List.replicate (5 - (lg_sl ([.ref (a 0), .int p1, .int p2, .int p3])).length) Slot.unset).toArray = ls at hl ⊢
  have hl : lv_has ls 5 [(0, .ref (a 0)), (1, .int p1), (2, .int p2), (3, .int p3)] := hl
  rw [fM_ring] at hf
  refine lv_aload_n hx hb d_M_ring_0 rfl (lv_at hl 0 rfl) ?_
  refine lv_iconst (v := 0) hx hb d_M_ring_1 (by decide) ?_
  refine vs_M_code (v := 0) hx hb hts hown hK hP hD hS 0 rfl (hts _ tb_254) (Nat.le_of_ble_eq_true rfl) d_M_ring_2 (fun H locs hP hD hS => ?_)
  have hP : va_P (dC, dI) vwCl (wM_ring a k 0 M_keys M_edges M_thenKeys M_thenEdges M_configuration M_parts M_rings M_metSize M_from M_to M_place M_bits M_thenGone M_order M_ringSize M_ring) H := hP
  have hD : va_D A (wM_ring a k 0 M_keys M_edges M_thenKeys M_thenEdges M_configuration M_parts M_rings M_metSize M_from M_to M_place M_bits M_thenGone M_order M_ringSize M_ring) := hD
  refine lv_iload_n hx hb d_M_ring_5 rfl (lv_at hl 1 rfl) ?_
  refine lv_if_lt (tgt := 31) hx hb d_M_ring_6 (by decide) (fun c_6 => ?_) (fun c_6 => ?_)
  · have hf := og_t hf c_6
    refine lv_iconst (v := (-1)) hx hb d_M_ring_31 (by decide) ?_
    obtain rfl := Option.some.inj hf
    exact W.iret (v := (-1)) hx hb hr (fun t ht hW => ⟨⟨(-1), (), rfl, rfl, by rw [ht]; exact hP, va_K.moved hW.alike hK, hD⟩, hS.F ht⟩) hS.2.2 d_M_ring_32
  · have hf := og_f hf c_6
    refine lv_iload_n hx hb d_M_ring_9 rfl (lv_at hl 1 rfl) ?_
    refine lv_aload_n hx hb d_M_ring_10 rfl (lv_at hl 0 rfl) ?_
    refine vg_M_rings (v := .int M_rings) hx hb hts hown hK hP 0 rfl (hts _ tb_296) rfl d_M_ring_11 ?_
    refine lv_icmp_ge (tgt := 31) hx hb d_M_ring_14 (by decide) (fun c_14 => ?_) (fun c_14 => ?_)
    · have hf := og_t hf c_14
      refine lv_iconst (v := (-1)) hx hb d_M_ring_31 (by decide) ?_
      obtain rfl := Option.some.inj hf
      exact W.iret (v := (-1)) hx hb hr (fun t ht hW => ⟨⟨(-1), (), rfl, rfl, by rw [ht]; exact hP, va_K.moved hW.alike hK, hD⟩, hS.F ht⟩) hS.2.2 d_M_ring_32
    · have hf := og_f hf c_14
      refine lv_iload_n hx hb d_M_ring_17 rfl (lv_at hl 2 rfl) ?_
      refine lv_if_lt (tgt := 31) hx hb d_M_ring_18 (by decide) (fun c_18 => ?_) (fun c_18 => ?_)
      · have hf := og_t hf c_18
        refine lv_iconst (v := (-1)) hx hb d_M_ring_31 (by decide) ?_
        obtain rfl := Option.some.inj hf
        exact W.iret (v := (-1)) hx hb hr (fun t ht hW => ⟨⟨(-1), (), rfl, rfl, by rw [ht]; exact hP, va_K.moved hW.alike hK, hD⟩, hS.F ht⟩) hS.2.2 d_M_ring_32
      · have hf := og_f hf c_18
        refine lv_iload_n hx hb d_M_ring_21 rfl (lv_at hl 2 rfl) ?_
        refine lv_aload_n hx hb d_M_ring_22 rfl (lv_at hl 0 rfl) ?_
        refine vg_M_ringSize (v := .ref (a 15)) hx hb hts hown hK hP 0 rfl (hts _ tb_295) rfl d_M_ring_23 ?_
        refine lv_iload_n hx hb d_M_ring_26 rfl (lv_at hl 1 rfl) ?_
        obtain ⟨h_27, hf⟩ := og_ck_s hf
        refine va_iald hx hb hK hP 7 6 rfl rfl h_27 d_M_ring_27 ?_
        refine lv_icmp_lt (tgt := 33) hx hb d_M_ring_28 (by decide) (fun c_28 => ?_) (fun c_28 => ?_)
        · have hf := og_t hf c_28
          refine lv_iload_n hx hb d_M_ring_33 rfl (lv_at hl 3 rfl) ?_
          refine lv_if_ne (tgt := 44) hx hb d_M_ring_34 (by decide) (fun c_34 => ?_) (fun c_34 => ?_)
          · have hf := og_f hf c_34
            refine lv_aload_n hx hb d_M_ring_44 rfl (lv_at hl 0 rfl) ?_
            refine lv_iload_n hx hb d_M_ring_45 rfl (lv_at hl 1 rfl) ?_
            refine lv_iload_n hx hb d_M_ring_46 rfl (lv_at hl 2 rfl) ?_
            obtain ⟨r47, e_47, hf⟩ := og_b hf
            refine og_rV (w := (wM_ring a k 0 M_keys M_edges M_thenKeys M_thenEdges M_configuration M_parts M_rings M_metSize M_from M_to M_place M_bits M_thenGone M_order M_ringSize M_ring)) (As := [.int p1, .int p2]) (rest := []) (ci := 6) (q0 := 0) ⟨hx, hb, hml, hown, hts⟩ (c_M_edgeOf l dC dI a k 0 M_keys M_edges M_thenKeys M_thenEdges M_configuration M_parts M_rings M_metSize M_from M_to M_place M_bits M_thenGone M_order M_ringSize M_ring p1 p2 r47 e_47) (cwV 2 hts (og_gV tb_318 tb_319 tb_320 tb_259 tb_321) rfl rfl rfl (by decide +kernel) ⟨Nat.le_of_ble_eq_true rfl, Nat.le_of_ble_eq_true rfl⟩) hK hP [0, 1, 2, 3, 4, 5, 6, 7, 8] [0, 1, 2, 3, 4, 5, 6, 7] ⟨rfl, rfl, rfl, rfl, rfl, rfl, rfl, rfl, rfl, trivial⟩ rfl rfl rfl rfl rfl hl.1 rfl (Nat.le_of_ble_eq_true rfl) d_M_ring_47 ⟨Nat.zero_le _, Nat.zero_le _⟩ ?_
            refine lv_istore (lv' := [(4, .int r47), (0, .ref (a 0)), (1, .int p1), (2, .int p2), (3, .int p3)]) hx hb d_M_ring_50 hl (by decide) rfl (fun ls hl => ?_)
            refine lv_iload_n hx hb d_M_ring_52 rfl (lv_at hl 4 rfl) ?_
            refine lv_iconst (v := 1) hx hb d_M_ring_53 (by decide) ?_
            refine lv_icmp_ne (tgt := 67) hx hb d_M_ring_54 (by decide) (fun c_54 => ?_) (fun c_54 => ?_)
            · have hf := og_f hf c_54
              refine lv_iload_n hx hb d_M_ring_67 rfl (lv_at hl 4 rfl) ?_
              refine lv_iconst (v := 2) hx hb d_M_ring_68 (by decide) ?_
              refine lv_icmp_ne (tgt := 77) hx hb d_M_ring_69 (by decide) (fun c_69 => ?_) (fun c_69 => ?_)
              · have hf := og_f hf c_69
                refine lv_iconst (v := (-1)) hx hb d_M_ring_77 (by decide) ?_
                obtain rfl := Option.some.inj hf
                exact W.iret (v := (-1)) hx hb hr (fun t ht hW => ⟨⟨(-1), (), rfl, rfl, by rw [ht]; exact hP, va_K.moved hW.alike hK, hD⟩, hS.F ht⟩) hS.2.2 d_M_ring_78
              · have hf := og_t hf c_69
                refine lv_iload hx hb d_M_ring_72 (lv_at hl 0 rfl) ?_
                refine lv_goto (tgt := 78) hx hb d_M_ring_74 (by decide) ?_
                obtain rfl := Option.some.inj hf
                exact W.iret (v := r47) hx hb hr (fun t ht hW => ⟨⟨r47, (), rfl, rfl, by rw [ht]; exact hP, va_K.moved hW.alike hK, hD⟩, hS.F ht⟩) hS.2.2 d_M_ring_78
            · have hf := og_t hf c_54
              refine lv_aload_n hx hb d_M_ring_57 rfl (lv_at hl 1 rfl) ?_
              refine vg_M_place (v := .ref (a 4)) hx hb hts hown hK hP 0 rfl (hts _ tb_264) rfl d_M_ring_58 ?_
              refine lv_iload hx hb d_M_ring_61 (lv_at hl 0 rfl) ?_
              obtain ⟨h_63, hf⟩ := og_ck_s hf
              refine va_iald hx hb hK hP 3 2 rfl rfl h_63 d_M_ring_63 ?_
              refine lv_goto (tgt := 78) hx hb d_M_ring_64 (by decide) ?_
              obtain rfl := Option.some.inj hf
              exact W.iret (v := (M_place r47.toNatClampNeg)) hx hb hr (fun t ht hW => ⟨⟨(M_place r47.toNatClampNeg), (), rfl, rfl, by rw [ht]; exact hP, va_K.moved hW.alike hK, hD⟩, hS.F ht⟩) hS.2.2 d_M_ring_78
          · have hf := og_t hf c_34
            refine lv_aload_n hx hb d_M_ring_37 rfl (lv_at hl 0 rfl) ?_
            refine lv_iload_n hx hb d_M_ring_38 rfl (lv_at hl 1 rfl) ?_
            refine lv_iload_n hx hb d_M_ring_39 rfl (lv_at hl 2 rfl) ?_
            obtain ⟨r40, e_40, hf⟩ := og_b hf
            refine og_rV (w := (wM_ring a k 0 M_keys M_edges M_thenKeys M_thenEdges M_configuration M_parts M_rings M_metSize M_from M_to M_place M_bits M_thenGone M_order M_ringSize M_ring)) (As := [.int p1, .int p2]) (rest := []) (ci := 6) (q0 := 0) ⟨hx, hb, hml, hown, hts⟩ (c_M_keyOf l dC dI a k 0 M_keys M_edges M_thenKeys M_thenEdges M_configuration M_parts M_rings M_metSize M_order M_ringSize M_ring p1 p2 r40 e_40) (cwV 2 hts (og_gV tb_314 tb_315 tb_316 tb_259 tb_317) rfl rfl rfl (by decide +kernel) ⟨Nat.le_of_ble_eq_true rfl, Nat.le_of_ble_eq_true rfl⟩) hK hP [0, 6, 7, 8] [5, 6, 7] ⟨rfl, rfl, rfl, rfl, trivial⟩ rfl rfl rfl rfl rfl hl.1 rfl (Nat.le_of_ble_eq_true rfl) d_M_ring_40 ⟨Nat.zero_le _, Nat.zero_le _⟩ ?_
            obtain rfl := Option.some.inj hf
            exact W.iret (v := r40) hx hb hr (fun t ht hW => ⟨⟨r40, (), rfl, rfl, by rw [ht]; exact hP, va_K.moved hW.alike hK, hD⟩, hS.F ht⟩) hS.2.2 d_M_ring_43
        · have hf := og_f hf c_28
          refine lv_iconst (v := (-1)) hx hb d_M_ring_31 (by decide) ?_
          obtain rfl := Option.some.inj hf
          exact W.iret (v := (-1)) hx hb hr (fun t ht hW => ⟨⟨(-1), (), rfl, rfl, by rw [ht]; exact hP, va_K.moved hW.alike hK, hD⟩, hS.F ht⟩) hS.2.2 d_M_ring_32
def wM_only (a : Nat → Nat) (k : Nat → ClassId) (M_code : Int32) (M_keys : Int32) (M_edges : Int32) (M_thenKeys : Int32) (M_thenEdges : Int32) (M_configuration : Int32) (M_parts : Int32) (M_rings : Int32) (M_metSize : Int32) (M_from : (Nat → Int32)) (M_to : (Nat → Int32)) (M_bits : (Nat → Int32)) (M_thenGone : (Nat → Int32)) (M_order : (Nat → Int32)) (M_ringSize : (Nat → Int32)) (M_ring : (Nat → Int32)) : va_W := [(a 0, .inr (6, [.int M_code, .int M_keys, .int M_edges, .ref (a 1), .ref (a 2), .ref (a 3), .ref (a 4), .ref (a 5), .ref (a 6), .int M_thenKeys, .int M_thenEdges, .int M_configuration, .ref (a 7), .ref (a 8), .ref (a 9), .ref (a 10), .ref (a 11), .ref (a 12), .ref (a 13), .ref (a 14), .int M_parts, .int M_rings, .ref (a 15), .ref (a 16), .ref (a 17), .int M_metSize, .ref (a 18), .ref (a 19), .ref (a 20)])), (a 2, .inl (k 2, 160, .inl M_from)), (a 3, .inl (k 3, 160, .inl M_to)), (a 5, .inl (k 5, 160, .inl M_bits)), (a 7, .inl (k 7, 160, .inl M_thenGone)), (a 8, .inl (k 8, 40, .inl M_order)), (a 15, .inl (k 15, 40, .inl M_ringSize)), (a 16, .inl (k 16, 1600, .inl M_ring))]
def tM_only (k : Nat → ClassId) : List (ClassId × FieldType) := [(k 2, .int), (k 3, .int), (k 5, .int), (k 7, .boolean), (k 8, .int), (k 15, .int), (k 16, .int)]
set_option maxHeartbeats 4000000 in
set_option maxRecDepth 100000 in
theorem c_M_only (l : Launch) (dC : Nat → ClassId) (dI : Nat → Nat → Nat) (a : Nat → Nat) (k : Nat → ClassId) (sz : Nat) (M_code : Int32) (M_keys : Int32) (M_edges : Int32) (M_thenKeys : Int32) (M_thenEdges : Int32) (M_configuration : Int32) (M_parts : Int32) (M_rings : Int32) (M_metSize : Int32) (M_from : (Nat → Int32)) (M_to : (Nat → Int32)) (M_bits : (Nat → Int32)) (M_thenGone : (Nat → Int32)) (M_order : (Nat → Int32)) (M_ringSize : (Nat → Int32)) (M_ring : (Nat → Int32)) (p1 : Int32) (y : Int32 × Int32) (hf : fM_only M_code M_from M_to M_bits M_thenEdges M_configuration M_thenGone M_order M_rings M_ringSize M_ring p1 = some y) : Met l y_M_only ws_M_only ({ frames := 3, cells := 0, slots := 0, locals := 69 }) (og_Pw [.ref (a 0), .int p1] (dC, dI) (wM_only a k M_code M_keys M_edges M_thenKeys M_thenEdges M_configuration M_parts M_rings M_metSize M_from M_to M_bits M_thenGone M_order M_ringSize M_ring) (tM_only k) sz) (og_Qi (dC, dI) (wM_only a k y.2 M_keys M_edges M_thenKeys M_thenEdges M_configuration M_parts M_rings M_metSize M_from M_to M_bits M_thenGone M_order M_ringSize M_ring) (tM_only k) y.1 (va_A (wM_only a k M_code M_keys M_edges M_thenKeys M_thenEdges M_configuration M_parts M_rings M_metSize M_from M_to M_bits M_thenGone M_order M_ringSize M_ring) sz)) 0 0 (va_A (wM_only a k M_code M_keys M_edges M_thenKeys M_thenEdges M_configuration M_parts M_rings M_metSize M_from M_to M_bits M_thenGone M_order M_ringSize M_ring) sz) := by
  refine Met.ofW (cc := b_M_only) (maxL := 3) (ret := (some .int)) (by decide) rfl ?_
  intro p e s m args below meth c s₁ B hml hv
  obtain ⟨rfl, hsz, hP, hK, hD0⟩ := hv
  have hx := B.exec
  have hb := B.bytes
  have hr := B.returns
  have hts0 := atoms_spec (ws := ws_M_only) B.pre
  have hts : ∀ w ∈ og_tb, w.before _ s = true := fun w h => hts0 w (List.mem_cons_of_mem _ h)
  have hown : s.vm.findClass R_M = some m.cls := findClass_of_methodNamed B.named
  have hlocks := B.notSynchronized
  subst hsz
  have hD := hD0.self (sz := s.heap.size)
  generalize hAe : va_A (wM_only a k M_code M_keys M_edges M_thenKeys M_thenEdges M_configuration M_parts M_rings M_metSize M_from M_to M_bits M_thenGone M_order M_ringSize M_ring) s.heap.size = A at hD ⊢
  have hA : ∀ q : Nat, s.heap.size ≤ q → A q := fun q h => by rw [← hAe]; exact Or.inr h
  have hS : va_S A s.heap s.heap [] := va_S.rf
  have hl := lv_entry ([.ref (a 0), .int p1]) (n := 3) (Nat.le_of_ble_eq_true rfl)
  rw [lg_entry_eq]
  generalize (lg_sl ([.ref (a 0), .int p1]) ++ List.replicate (3 - (lg_sl ([.ref (a 0), .int p1])).length) Slot.unset).toArray = ls at hl ⊢
  have hl : lv_has ls 3 [(0, .ref (a 0)), (1, .int p1)] := hl
  rw [fM_only] at hf
  refine lv_aload_n hx hb d_M_only_0 rfl (lv_at hl 0 rfl) ?_
  refine lv_iconst (v := 0) hx hb d_M_only_1 (by decide) ?_
  refine vs_M_code (v := 0) hx hb hts hown hK hP hD hS 0 rfl (hts _ tb_254) (Nat.le_of_ble_eq_true rfl) d_M_only_2 (fun H locs hP hD hS => ?_)
  have hP : va_P (dC, dI) vwCl (wM_only a k 0 M_keys M_edges M_thenKeys M_thenEdges M_configuration M_parts M_rings M_metSize M_from M_to M_bits M_thenGone M_order M_ringSize M_ring) H := hP
  have hD : va_D A (wM_only a k 0 M_keys M_edges M_thenKeys M_thenEdges M_configuration M_parts M_rings M_metSize M_from M_to M_bits M_thenGone M_order M_ringSize M_ring) := hD
  refine lv_iload_n hx hb d_M_only_5 rfl (lv_at hl 1 rfl) ?_
  refine lv_if_lt (tgt := 17) hx hb d_M_only_6 (by decide) (fun c_6 => ?_) (fun c_6 => ?_)
  · have hf := og_t hf c_6
    refine lv_iconst (v := (-1)) hx hb d_M_only_17 (by decide) ?_
    obtain rfl := Option.some.inj hf
    exact W.iret (v := (-1)) hx hb hr (fun t ht hW => ⟨⟨(-1), (), rfl, rfl, by rw [ht]; exact hP, va_K.moved hW.alike hK, hD⟩, hS.F ht⟩) hS.2.2 d_M_only_18
  · have hf := og_f hf c_6
    refine lv_iload_n hx hb d_M_only_9 rfl (lv_at hl 1 rfl) ?_
    refine lv_aload_n hx hb d_M_only_10 rfl (lv_at hl 0 rfl) ?_
    refine vg_M_rings (v := .int M_rings) hx hb hts hown hK hP 0 rfl (hts _ tb_296) rfl d_M_only_11 ?_
    refine lv_icmp_lt (tgt := 19) hx hb d_M_only_14 (by decide) (fun c_14 => ?_) (fun c_14 => ?_)
    · have hf := og_t hf c_14
      refine lv_iconst (v := 0) hx hb d_M_only_19 (by decide) ?_
      refine lv_istore_n (lv' := [(2, .int 0), (0, .ref (a 0)), (1, .int p1)]) hx hb d_M_only_20 rfl hl (by decide) rfl (fun ls hl => ?_)
      have k21_52 : ∀ (H : Heap) (locs : List Loc) (ls : Array Slot), fM_only_K21_52 0 M_configuration = some y → va_P (dC, dI) vwCl (wM_only a k 0 M_keys M_edges M_thenKeys M_thenEdges M_configuration M_parts M_rings M_metSize M_from M_to M_bits M_thenGone M_order M_ringSize M_ring) H → va_D A (wM_only a k 0 M_keys M_edges M_thenKeys M_thenEdges M_configuration M_parts M_rings M_metSize M_from M_to M_bits M_thenGone M_order M_ringSize M_ring) → va_S A s.heap H locs → lv_has ls 3 [(0, .ref (a 0))] → W p l e (headSpec ws_M_only { frames := 3, cells := 0, slots := 0, locals := 69 }).room s m ([.ref (a 0), .int p1] : List Value).toArray below meth c H locs 0 0 (MQ below (og_Qi (dC, dI) (wM_only a k y.2 M_keys M_edges M_thenKeys M_thenEdges M_configuration M_parts M_rings M_metSize M_from M_to M_bits M_thenGone M_order M_ringSize M_ring) (tM_only k) y.1 A) ([.ref (a 0), .int p1] : List Value).toArray s 0 0 A) (F0 m 52 ls []) := by
        intro  H locs ls hf hP hD hS hl
        rw [fM_only_K21_52] at hf
        refine lv_aload_n hx hb d_M_only_52 rfl (lv_at hl 0 rfl) ?_
        refine vg_M_configuration (v := .int M_configuration) hx hb hts hown hK hP 0 rfl (hts _ tb_277) rfl d_M_only_53 ?_
        obtain rfl := Option.some.inj hf
        exact W.iret (v := M_configuration) hx hb hr (fun t ht hW => ⟨⟨M_configuration, (), rfl, rfl, by rw [ht]; exact hP, va_K.moved hW.alike hK, hD⟩, hS.F ht⟩) hS.2.2 d_M_only_56
      have lp21 : ∀ (n21 : Nat) (v2 : Int32) (H : Heap) (locs : List Loc) (ls : Array Slot), fM_only_L21 (fM_only_K21_52 0 M_configuration) 0 M_from M_to M_bits M_thenEdges M_configuration M_thenGone M_order M_ringSize M_ring p1 n21 v2 = some y → va_P (dC, dI) vwCl (wM_only a k 0 M_keys M_edges M_thenKeys M_thenEdges M_configuration M_parts M_rings M_metSize M_from M_to M_bits M_thenGone M_order M_ringSize M_ring) H → va_D A (wM_only a k 0 M_keys M_edges M_thenKeys M_thenEdges M_configuration M_parts M_rings M_metSize M_from M_to M_bits M_thenGone M_order M_ringSize M_ring) → va_S A s.heap H locs → lv_has ls 3 [(0, .ref (a 0)), (1, .int p1), (2, .int v2)] → W p l e (headSpec ws_M_only { frames := 3, cells := 0, slots := 0, locals := 69 }).room s m ([.ref (a 0), .int p1] : List Value).toArray below meth c H locs 0 0 (MQ below (og_Qi (dC, dI) (wM_only a k y.2 M_keys M_edges M_thenKeys M_thenEdges M_configuration M_parts M_rings M_metSize M_from M_to M_bits M_thenGone M_order M_ringSize M_ring) (tM_only k) y.1 A) ([.ref (a 0), .int p1] : List Value).toArray s 0 0 A) (F0 m 21 ls []) := by
        intro n21
        induction n21 with
        | zero => intro v2 H locs ls hf hP hD hS hl; rw [fM_only_L21] at hf; cases hf
        | succ n21 ih21 =>
          intro v2 H locs ls hf hP hD hS hl
          rw [fM_only_L21] at hf
          refine lv_iload_n hx hb d_M_only_21 rfl (lv_at hl 2 rfl) ?_
          refine lv_bipush (v := 8) hx hb d_M_only_22 (by decide) ?_
          refine lv_icmp_ge (tgt := 52) hx hb d_M_only_24 (by decide) (fun c_24 => ?_) (fun c_24 => ?_)
          · have hf := og_t hf c_24
            exact k21_52  _ _ _ hf hP hD hS (lv_sub hl [0] rfl)
          · have hf := og_f hf c_24
            refine lv_iload_n hx hb d_M_only_27 rfl (lv_at hl 2 rfl) ?_
            refine lv_aload_n hx hb d_M_only_28 rfl (lv_at hl 0 rfl) ?_
            refine vg_M_configuration (v := .int M_configuration) hx hb hts hown hK hP 0 rfl (hts _ tb_277) rfl d_M_only_29 ?_
            refine lv_icmp_eq (tgt := 46) hx hb d_M_only_32 (by decide) (fun c_32 => ?_) (fun c_32 => ?_)
            · have hf := og_t hf c_32
              refine lv_iinc (v := (v2 + 1)) (lv' := [(2, .int (v2 + 1)), (0, .ref (a 0)), (1, .int p1)]) hx hb d_M_only_46 hl (k := 2) rfl rfl (by decide) rfl (fun ls hl => ?_)
              refine lv_goto (tgt := 21) hx hb d_M_only_49 (by decide) ?_
              exact ih21 (v2 + 1) _ _ _ hf hP hD hS (lv_sub hl [1, 2, 0] rfl)
            · have hf := og_f hf c_32
              refine lv_aload_n hx hb d_M_only_35 rfl (lv_at hl 0 rfl) ?_
              refine lv_iload_n hx hb d_M_only_36 rfl (lv_at hl 1 rfl) ?_
              refine lv_iload_n hx hb d_M_only_37 rfl (lv_at hl 2 rfl) ?_
              obtain ⟨r38, e_38, hf⟩ := og_b hf
              refine og_rV (w := (wM_only a k 0 M_keys M_edges M_thenKeys M_thenEdges M_configuration M_parts M_rings M_metSize M_from M_to M_bits M_thenGone M_order M_ringSize M_ring)) (As := [.int p1, .int v2]) (rest := []) (ci := 6) (q0 := 0) ⟨hx, hb, hml, hown, hts⟩ (c_M_isRing l dC dI a k 0 M_keys M_edges M_thenKeys M_thenEdges M_configuration M_parts M_rings M_metSize M_from M_to M_bits M_thenGone M_order M_ringSize M_ring p1 v2 r38 e_38) (cwV 2 hts (og_gV tb_322 tb_323 tb_324 tb_259 tb_325) rfl rfl rfl (by decide +kernel) ⟨Nat.le_of_ble_eq_true rfl, Nat.le_of_ble_eq_true rfl⟩) hK hP [0, 1, 2, 3, 4, 5, 6, 7] [0, 1, 2, 3, 4, 5, 6] ⟨rfl, rfl, rfl, rfl, rfl, rfl, rfl, rfl, trivial⟩ rfl rfl rfl rfl rfl hl.1 rfl (Nat.le_of_ble_eq_true rfl) d_M_only_38 ⟨Nat.zero_le _, Nat.zero_le _⟩ ?_
              refine lv_if_eq (tgt := 46) hx hb d_M_only_41 (by decide) (fun c_41 => ?_) (fun c_41 => ?_)
              · have hf := og_t hf c_41
                refine lv_iinc (v := (v2 + 1)) (lv' := [(2, .int (v2 + 1)), (0, .ref (a 0)), (1, .int p1)]) hx hb d_M_only_46 hl (k := 2) rfl rfl (by decide) rfl (fun ls hl => ?_)
                refine lv_goto (tgt := 21) hx hb d_M_only_49 (by decide) ?_
                exact ih21 (v2 + 1) _ _ _ hf hP hD hS (lv_sub hl [1, 2, 0] rfl)
              · have hf := og_f hf c_41
                refine lv_iconst (v := (-1)) hx hb d_M_only_44 (by decide) ?_
                obtain rfl := Option.some.inj hf
                exact W.iret (v := (-1)) hx hb hr (fun t ht hW => ⟨⟨(-1), (), rfl, rfl, by rw [ht]; exact hP, va_K.moved hW.alike hK, hD⟩, hS.F ht⟩) hS.2.2 d_M_only_45
      exact lp21 FU 0 _ _ _ hf hP hD hS (lv_sub hl [1, 2, 0] rfl)
    · have hf := og_f hf c_14
      refine lv_iconst (v := (-1)) hx hb d_M_only_17 (by decide) ?_
      obtain rfl := Option.some.inj hf
      exact W.iret (v := (-1)) hx hb hr (fun t ht hW => ⟨⟨(-1), (), rfl, rfl, by rw [ht]; exact hP, va_K.moved hW.alike hK, hD⟩, hS.F ht⟩) hS.2.2 d_M_only_18
def wM_newest (a : Nat → Nat) (k : Nat → ClassId) (M_code : Int32) (M_keys : Int32) (M_edges : Int32) (M_thenKeys : Int32) (M_thenEdges : Int32) (M_configuration : Int32) (M_parts : Int32) (M_rings : Int32) (M_metSize : Int32) (M_from : (Nat → Int32)) (M_to : (Nat → Int32)) (M_place : (Nat → Int32)) (M_bits : (Nat → Int32)) (M_thenGone : (Nat → Int32)) (M_order : (Nat → Int32)) (M_ringSize : (Nat → Int32)) (M_ring : (Nat → Int32)) : va_W := [(a 0, .inr (6, [.int M_code, .int M_keys, .int M_edges, .ref (a 1), .ref (a 2), .ref (a 3), .ref (a 4), .ref (a 5), .ref (a 6), .int M_thenKeys, .int M_thenEdges, .int M_configuration, .ref (a 7), .ref (a 8), .ref (a 9), .ref (a 10), .ref (a 11), .ref (a 12), .ref (a 13), .ref (a 14), .int M_parts, .int M_rings, .ref (a 15), .ref (a 16), .ref (a 17), .int M_metSize, .ref (a 18), .ref (a 19), .ref (a 20)])), (a 2, .inl (k 2, 160, .inl M_from)), (a 3, .inl (k 3, 160, .inl M_to)), (a 4, .inl (k 4, 160, .inl M_place)), (a 5, .inl (k 5, 160, .inl M_bits)), (a 7, .inl (k 7, 160, .inl M_thenGone)), (a 8, .inl (k 8, 40, .inl M_order)), (a 15, .inl (k 15, 40, .inl M_ringSize)), (a 16, .inl (k 16, 1600, .inl M_ring))]
def tM_newest (k : Nat → ClassId) : List (ClassId × FieldType) := [(k 2, .int), (k 3, .int), (k 4, .int), (k 5, .int), (k 7, .boolean), (k 8, .int), (k 15, .int), (k 16, .int)]
set_option maxHeartbeats 4000000 in
set_option maxRecDepth 100000 in
theorem c_M_newest (l : Launch) (dC : Nat → ClassId) (dI : Nat → Nat → Nat) (a : Nat → Nat) (k : Nat → ClassId) (sz : Nat) (M_code : Int32) (M_keys : Int32) (M_edges : Int32) (M_thenKeys : Int32) (M_thenEdges : Int32) (M_configuration : Int32) (M_parts : Int32) (M_rings : Int32) (M_metSize : Int32) (M_from : (Nat → Int32)) (M_to : (Nat → Int32)) (M_place : (Nat → Int32)) (M_bits : (Nat → Int32)) (M_thenGone : (Nat → Int32)) (M_order : (Nat → Int32)) (M_ringSize : (Nat → Int32)) (M_ring : (Nat → Int32)) (p1 : Int32) (y : Int32 × Int32) (hf : fM_newest M_code M_from M_to M_place M_bits M_thenEdges M_configuration M_thenGone M_order M_rings M_ringSize M_ring p1 = some y) : Met l y_M_newest ws_M_newest ({ frames := 3, cells := 0, slots := 0, locals := 67 }) (og_Pw [.ref (a 0), .int p1] (dC, dI) (wM_newest a k M_code M_keys M_edges M_thenKeys M_thenEdges M_configuration M_parts M_rings M_metSize M_from M_to M_place M_bits M_thenGone M_order M_ringSize M_ring) (tM_newest k) sz) (og_Qi (dC, dI) (wM_newest a k y.2 M_keys M_edges M_thenKeys M_thenEdges M_configuration M_parts M_rings M_metSize M_from M_to M_place M_bits M_thenGone M_order M_ringSize M_ring) (tM_newest k) y.1 (va_A (wM_newest a k M_code M_keys M_edges M_thenKeys M_thenEdges M_configuration M_parts M_rings M_metSize M_from M_to M_place M_bits M_thenGone M_order M_ringSize M_ring) sz)) 0 0 (va_A (wM_newest a k M_code M_keys M_edges M_thenKeys M_thenEdges M_configuration M_parts M_rings M_metSize M_from M_to M_place M_bits M_thenGone M_order M_ringSize M_ring) sz) := by
  refine Met.ofW (cc := b_M_newest) (maxL := 4) (ret := (some .int)) (by decide) rfl ?_
  intro p e s m args below meth c s₁ B hml hv
  obtain ⟨rfl, hsz, hP, hK, hD0⟩ := hv
  have hx := B.exec
  have hb := B.bytes
  have hr := B.returns
  have hts0 := atoms_spec (ws := ws_M_newest) B.pre
  have hts : ∀ w ∈ og_tb, w.before _ s = true := fun w h => hts0 w (List.mem_cons_of_mem _ h)
  have hown : s.vm.findClass R_M = some m.cls := findClass_of_methodNamed B.named
  have hlocks := B.notSynchronized
  subst hsz
  have hD := hD0.self (sz := s.heap.size)
  generalize hAe : va_A (wM_newest a k M_code M_keys M_edges M_thenKeys M_thenEdges M_configuration M_parts M_rings M_metSize M_from M_to M_place M_bits M_thenGone M_order M_ringSize M_ring) s.heap.size = A at hD ⊢
  have hA : ∀ q : Nat, s.heap.size ≤ q → A q := fun q h => by rw [← hAe]; exact Or.inr h
  have hS : va_S A s.heap s.heap [] := va_S.rf
  have hl := lv_entry ([.ref (a 0), .int p1]) (n := 4) (Nat.le_of_ble_eq_true rfl)
  rw [lg_entry_eq]
  generalize (lg_sl ([.ref (a 0), .int p1]) ++ List.replicate (4 - (lg_sl ([.ref (a 0), .int p1])).length) Slot.unset).toArray = ls at hl ⊢
  have hl : lv_has ls 4 [(0, .ref (a 0)), (1, .int p1)] := hl
  rw [fM_newest] at hf
  refine lv_aload_n hx hb d_M_newest_0 rfl (lv_at hl 0 rfl) ?_
  refine lv_iconst (v := 0) hx hb d_M_newest_1 (by decide) ?_
  refine vs_M_code (v := 0) hx hb hts hown hK hP hD hS 0 rfl (hts _ tb_254) (Nat.le_of_ble_eq_true rfl) d_M_newest_2 (fun H locs hP hD hS => ?_)
  have hP : va_P (dC, dI) vwCl (wM_newest a k 0 M_keys M_edges M_thenKeys M_thenEdges M_configuration M_parts M_rings M_metSize M_from M_to M_place M_bits M_thenGone M_order M_ringSize M_ring) H := hP
  have hD : va_D A (wM_newest a k 0 M_keys M_edges M_thenKeys M_thenEdges M_configuration M_parts M_rings M_metSize M_from M_to M_place M_bits M_thenGone M_order M_ringSize M_ring) := hD
  refine lv_iload_n hx hb d_M_newest_5 rfl (lv_at hl 1 rfl) ?_
  refine lv_if_lt (tgt := 17) hx hb d_M_newest_6 (by decide) (fun c_6 => ?_) (fun c_6 => ?_)
  · have hf := og_t hf c_6
    refine lv_iconst (v := (-1)) hx hb d_M_newest_17 (by decide) ?_
    obtain rfl := Option.some.inj hf
    exact W.iret (v := (-1)) hx hb hr (fun t ht hW => ⟨⟨(-1), (), rfl, rfl, by rw [ht]; exact hP, va_K.moved hW.alike hK, hD⟩, hS.F ht⟩) hS.2.2 d_M_newest_18
  · have hf := og_f hf c_6
    refine lv_iload_n hx hb d_M_newest_9 rfl (lv_at hl 1 rfl) ?_
    refine lv_aload_n hx hb d_M_newest_10 rfl (lv_at hl 0 rfl) ?_
    refine vg_M_rings (v := .int M_rings) hx hb hts hown hK hP 0 rfl (hts _ tb_296) rfl d_M_newest_11 ?_
    refine lv_icmp_lt (tgt := 19) hx hb d_M_newest_14 (by decide) (fun c_14 => ?_) (fun c_14 => ?_)
    · have hf := og_t hf c_14
      refine lv_iconst (v := (-1)) hx hb d_M_newest_19 (by decide) ?_
      refine lv_istore_n (lv' := [(2, .int (-1)), (0, .ref (a 0)), (1, .int p1)]) hx hb d_M_newest_20 rfl hl (by decide) rfl (fun ls hl => ?_)
      refine lv_iconst (v := 0) hx hb d_M_newest_21 (by decide) ?_
      refine lv_istore_n (lv' := [(3, .int 0), (2, .int (-1)), (0, .ref (a 0)), (1, .int p1)]) hx hb d_M_newest_22 rfl hl (by decide) rfl (fun ls hl => ?_)
      have k23_60 : ∀ (v2 : Int32) (H : Heap) (locs : List Loc) (ls : Array Slot), fM_newest_K23_60 0 v2 = some y → va_P (dC, dI) vwCl (wM_newest a k 0 M_keys M_edges M_thenKeys M_thenEdges M_configuration M_parts M_rings M_metSize M_from M_to M_place M_bits M_thenGone M_order M_ringSize M_ring) H → va_D A (wM_newest a k 0 M_keys M_edges M_thenKeys M_thenEdges M_configuration M_parts M_rings M_metSize M_from M_to M_place M_bits M_thenGone M_order M_ringSize M_ring) → va_S A s.heap H locs → lv_has ls 4 [(2, .int v2)] → W p l e (headSpec ws_M_newest { frames := 3, cells := 0, slots := 0, locals := 67 }).room s m ([.ref (a 0), .int p1] : List Value).toArray below meth c H locs 0 0 (MQ below (og_Qi (dC, dI) (wM_newest a k y.2 M_keys M_edges M_thenKeys M_thenEdges M_configuration M_parts M_rings M_metSize M_from M_to M_place M_bits M_thenGone M_order M_ringSize M_ring) (tM_newest k) y.1 A) ([.ref (a 0), .int p1] : List Value).toArray s 0 0 A) (F0 m 60 ls []) := by
        intro v2 H locs ls hf hP hD hS hl
        rw [fM_newest_K23_60] at hf
        refine lv_iload_n hx hb d_M_newest_60 rfl (lv_at hl 0 rfl) ?_
        obtain rfl := Option.some.inj hf
        exact W.iret (v := v2) hx hb hr (fun t ht hW => ⟨⟨v2, (), rfl, rfl, by rw [ht]; exact hP, va_K.moved hW.alike hK, hD⟩, hS.F ht⟩) hS.2.2 d_M_newest_61
      have lp23 : ∀ (n23 : Nat) (v2 : Int32) (v3 : Int32) (H : Heap) (locs : List Loc) (ls : Array Slot), fM_newest_L23 (fM_newest_K23_60 0) M_from M_to M_place M_bits M_thenEdges M_configuration M_thenGone M_order M_ringSize M_ring p1 n23 v2 v3 = some y → va_P (dC, dI) vwCl (wM_newest a k 0 M_keys M_edges M_thenKeys M_thenEdges M_configuration M_parts M_rings M_metSize M_from M_to M_place M_bits M_thenGone M_order M_ringSize M_ring) H → va_D A (wM_newest a k 0 M_keys M_edges M_thenKeys M_thenEdges M_configuration M_parts M_rings M_metSize M_from M_to M_place M_bits M_thenGone M_order M_ringSize M_ring) → va_S A s.heap H locs → lv_has ls 4 [(0, .ref (a 0)), (1, .int p1), (2, .int v2), (3, .int v3)] → W p l e (headSpec ws_M_newest { frames := 3, cells := 0, slots := 0, locals := 67 }).room s m ([.ref (a 0), .int p1] : List Value).toArray below meth c H locs 0 0 (MQ below (og_Qi (dC, dI) (wM_newest a k y.2 M_keys M_edges M_thenKeys M_thenEdges M_configuration M_parts M_rings M_metSize M_from M_to M_place M_bits M_thenGone M_order M_ringSize M_ring) (tM_newest k) y.1 A) ([.ref (a 0), .int p1] : List Value).toArray s 0 0 A) (F0 m 23 ls []) := by
        intro n23
        induction n23 with
        | zero => intro v2 v3 H locs ls hf hP hD hS hl; rw [fM_newest_L23] at hf; cases hf
        | succ n23 ih23 =>
          intro v2 v3 H locs ls hf hP hD hS hl
          rw [fM_newest_L23] at hf
          refine lv_iload_n hx hb d_M_newest_23 rfl (lv_at hl 3 rfl) ?_
          refine lv_aload_n hx hb d_M_newest_24 rfl (lv_at hl 0 rfl) ?_
          refine vg_M_ringSize (v := .ref (a 15)) hx hb hts hown hK hP 0 rfl (hts _ tb_295) rfl d_M_newest_25 ?_
          refine lv_iload_n hx hb d_M_newest_28 rfl (lv_at hl 1 rfl) ?_
          obtain ⟨h_29, hf⟩ := og_ck_s hf
          refine va_iald hx hb hK hP 7 6 rfl rfl h_29 d_M_newest_29 ?_
          refine lv_icmp_ge (tgt := 60) hx hb d_M_newest_30 (by decide) (fun c_30 => ?_) (fun c_30 => ?_)
          · have hf := og_t hf c_30
            exact k23_60 v2 _ _ _ hf hP hD hS (lv_sub hl [2] rfl)
          · have hf := og_f hf c_30
            refine lv_aload_n hx hb d_M_newest_33 rfl (lv_at hl 0 rfl) ?_
            refine lv_iload_n hx hb d_M_newest_34 rfl (lv_at hl 1 rfl) ?_
            refine lv_iload_n hx hb d_M_newest_35 rfl (lv_at hl 3 rfl) ?_
            obtain ⟨r36, e_36, hf⟩ := og_b hf
            refine og_rV (w := (wM_newest a k 0 M_keys M_edges M_thenKeys M_thenEdges M_configuration M_parts M_rings M_metSize M_from M_to M_place M_bits M_thenGone M_order M_ringSize M_ring)) (As := [.int p1, .int v3]) (rest := []) (ci := 6) (q0 := 0) ⟨hx, hb, hml, hown, hts⟩ (c_M_edgeOf l dC dI a k 0 M_keys M_edges M_thenKeys M_thenEdges M_configuration M_parts M_rings M_metSize M_from M_to M_place M_bits M_thenGone M_order M_ringSize M_ring p1 v3 r36 e_36) (cwV 2 hts (og_gV tb_318 tb_319 tb_320 tb_259 tb_321) rfl rfl rfl (by decide +kernel) ⟨Nat.le_of_ble_eq_true rfl, Nat.le_of_ble_eq_true rfl⟩) hK hP [0, 1, 2, 3, 4, 5, 6, 7, 8] [0, 1, 2, 3, 4, 5, 6, 7] ⟨rfl, rfl, rfl, rfl, rfl, rfl, rfl, rfl, rfl, trivial⟩ rfl rfl rfl rfl rfl hl.1 rfl (Nat.le_of_ble_eq_true rfl) d_M_newest_36 ⟨Nat.zero_le _, Nat.zero_le _⟩ ?_
            refine lv_iload_n hx hb d_M_newest_39 rfl (lv_at hl 2 rfl) ?_
            refine lv_icmp_le (tgt := 52) hx hb d_M_newest_40 (by decide) (fun c_40 => ?_) (fun c_40 => ?_)
            · have hf := og_t hf c_40
              refine lv_iload_n hx hb d_M_newest_52 rfl (lv_at hl 2 rfl) ?_
              refine lv_istore_n (lv' := [(2, .int v2), (0, .ref (a 0)), (1, .int p1), (3, .int v3)]) hx hb d_M_newest_53 rfl hl (by decide) rfl (fun ls hl => ?_)
              refine lv_iinc (v := (v3 + 1)) (lv' := [(3, .int (v3 + 1)), (2, .int v2), (0, .ref (a 0)), (1, .int p1)]) hx hb d_M_newest_54 hl (k := 3) rfl rfl (by decide) rfl (fun ls hl => ?_)
              refine lv_goto (tgt := 23) hx hb d_M_newest_57 (by decide) ?_
              exact ih23 v2 (v3 + 1) _ _ _ hf hP hD hS (lv_sub hl [2, 3, 1, 0] rfl)
            · have hf := og_f hf c_40
              refine lv_aload_n hx hb d_M_newest_43 rfl (lv_at hl 0 rfl) ?_
              refine lv_iload_n hx hb d_M_newest_44 rfl (lv_at hl 1 rfl) ?_
              refine lv_iload_n hx hb d_M_newest_45 rfl (lv_at hl 3 rfl) ?_
              obtain ⟨r46, e_46, hf⟩ := og_b hf
              refine og_rV (w := (wM_newest a k 0 M_keys M_edges M_thenKeys M_thenEdges M_configuration M_parts M_rings M_metSize M_from M_to M_place M_bits M_thenGone M_order M_ringSize M_ring)) (As := [.int p1, .int v3]) (rest := []) (ci := 6) (q0 := 0) ⟨hx, hb, hml, hown, hts⟩ (c_M_edgeOf l dC dI a k 0 M_keys M_edges M_thenKeys M_thenEdges M_configuration M_parts M_rings M_metSize M_from M_to M_place M_bits M_thenGone M_order M_ringSize M_ring p1 v3 r46 e_46) (cwV 2 hts (og_gV tb_318 tb_319 tb_320 tb_259 tb_321) rfl rfl rfl (by decide +kernel) ⟨Nat.le_of_ble_eq_true rfl, Nat.le_of_ble_eq_true rfl⟩) hK hP [0, 1, 2, 3, 4, 5, 6, 7, 8] [0, 1, 2, 3, 4, 5, 6, 7] ⟨rfl, rfl, rfl, rfl, rfl, rfl, rfl, rfl, rfl, trivial⟩ rfl rfl rfl rfl rfl hl.1 rfl (Nat.le_of_ble_eq_true rfl) d_M_newest_46 ⟨Nat.zero_le _, Nat.zero_le _⟩ ?_
              refine lv_goto (tgt := 53) hx hb d_M_newest_49 (by decide) ?_
              refine lv_istore_n (lv' := [(2, .int r46), (0, .ref (a 0)), (1, .int p1), (3, .int v3)]) hx hb d_M_newest_53 rfl hl (by decide) rfl (fun ls hl => ?_)
              refine lv_iinc (v := (v3 + 1)) (lv' := [(3, .int (v3 + 1)), (2, .int r46), (0, .ref (a 0)), (1, .int p1)]) hx hb d_M_newest_54 hl (k := 3) rfl rfl (by decide) rfl (fun ls hl => ?_)
              refine lv_goto (tgt := 23) hx hb d_M_newest_57 (by decide) ?_
              exact ih23 r46 (v3 + 1) _ _ _ hf hP hD hS (lv_sub hl [2, 3, 1, 0] rfl)
      exact lp23 FU (-1) 0 _ _ _ hf hP hD hS (lv_sub hl [2, 3, 1, 0] rfl)
    · have hf := og_f hf c_14
      refine lv_iconst (v := (-1)) hx hb d_M_newest_17 (by decide) ?_
      obtain rfl := Option.some.inj hf
      exact W.iret (v := (-1)) hx hb hr (fun t ht hW => ⟨⟨(-1), (), rfl, rfl, by rw [ht]; exact hP, va_K.moved hW.alike hK, hD⟩, hS.F ht⟩) hS.2.2 d_M_newest_18
