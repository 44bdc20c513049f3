def wM_ask (a : Nat → Nat) (k : Nat → ClassId) (M_code : Int32) (M_keys : Int32) (M_edges : Int32) (M_thenKeys : Int32) (M_thenEdges : Int32) (M_configuration : Int32) (M_parts : Int32) (M_rings : Int32) (M_metSize : Int32) (M_from : (Nat → Int32)) (M_to : (Nat → Int32)) (M_bits : (Nat → Int32)) (M_gone : (Nat → Int32)) (M_way : (Nat → Int32)) (M_asked : (Nat → Int32)) (M_at : (Nat → Int32)) : va_W := [(a 0, .inr (6, [.int M_code, .int M_keys, .int M_edges, .ref (a 1), .ref (a 2), .ref (a 3), .ref (a 4), .ref (a 5), .ref (a 6), .int M_thenKeys, .int M_thenEdges, .int M_configuration, .ref (a 7), .ref (a 8), .ref (a 9), .ref (a 10), .ref (a 11), .ref (a 12), .ref (a 13), .ref (a 14), .int M_parts, .int M_rings, .ref (a 15), .ref (a 16), .ref (a 17), .int M_metSize, .ref (a 18), .ref (a 19), .ref (a 20)])), (a 2, .inl (k 2, 160, .inl M_from)), (a 3, .inl (k 3, 160, .inl M_to)), (a 5, .inl (k 5, 160, .inl M_bits)), (a 6, .inl (k 6, 160, .inl M_gone)), (a 18, .inl (k 18, 40, .inl M_way)), (a 19, .inl (k 19, 40, .inl M_asked)), (a 20, .inl (k 20, 40, .inl M_at))]
def tM_ask (k : Nat → ClassId) : List (ClassId × FieldType) := [(k 2, .int), (k 3, .int), (k 5, .int), (k 6, .boolean), (k 18, .int), (k 19, .int), (k 20, .int)]
set_option maxHeartbeats 4000000 in
set_option maxRecDepth 100000 in
theorem c_M_ask (l : Launch) (dC : Nat → ClassId) (dI : Nat → Nat → Nat) (a : Nat → Nat) (k : Nat → ClassId) (sz : Nat) (M_code : Int32) (M_keys : Int32) (M_edges : Int32) (M_thenKeys : Int32) (M_thenEdges : Int32) (M_configuration : Int32) (M_parts : Int32) (M_rings : Int32) (M_metSize : Int32) (M_from : (Nat → Int32)) (M_to : (Nat → Int32)) (M_bits : (Nat → Int32)) (M_gone : (Nat → Int32)) (M_way : (Nat → Int32)) (M_asked : (Nat → Int32)) (M_at : (Nat → Int32)) (p1 : Int32) (y : Int32 × Int32 × Int32 × (Nat → Int32) × (Nat → Int32) × (Nat → Int32)) (hf : fM_ask M_code M_keys M_edges M_from M_to M_bits M_gone M_configuration M_metSize M_way M_asked M_at p1 = some y) : Met l y_M_ask ws_M_ask ({ frames := 1, cells := 0, slots := 0, locals := 24 }) (og_Pw [.ref (a 0), .int p1] (dC, dI) (wM_ask a k M_code M_keys M_edges M_thenKeys M_thenEdges M_configuration M_parts M_rings M_metSize M_from M_to M_bits M_gone M_way M_asked M_at) (tM_ask k) sz) (og_Qi (dC, dI) (wM_ask a k y.2.1 M_keys M_edges M_thenKeys M_thenEdges M_configuration M_parts M_rings y.2.2.1 M_from M_to M_bits M_gone y.2.2.2.1 y.2.2.2.2.1 y.2.2.2.2.2) (tM_ask k) y.1 (va_A (wM_ask a k M_code M_keys M_edges M_thenKeys M_thenEdges M_configuration M_parts M_rings M_metSize M_from M_to M_bits M_gone M_way M_asked M_at) sz)) 0 0 (va_A (wM_ask a k M_code M_keys M_edges M_thenKeys M_thenEdges M_configuration M_parts M_rings M_metSize M_from M_to M_bits M_gone M_way M_asked M_at) sz) := by
  refine Met.ofW (cc := b_M_ask) (maxL := 5) (ret := (some .int)) (by decide) rfl ?_
  intro p e s m args below meth c s₁ B hml hv
  obtain ⟨rfl, hsz, hP, hK, hD0⟩ := hv
  have hx := B.exec
  have hb := B.bytes
  have hr := B.returns
  have hts0 := atoms_spec (ws := ws_M_ask) B.pre
  have hts : ∀ w ∈ og_tb, w.before _ s = true := fun w h => hts0 w (List.mem_cons_of_mem _ h)
  have hown : s.vm.findClass R_M = some m.cls := findClass_of_methodNamed B.named
  have hlocks := B.notSynchronized
  subst hsz
  have hD := hD0.self (sz := s.heap.size)
  generalize hAe : va_A (wM_ask a k M_code M_keys M_edges M_thenKeys M_thenEdges M_configuration M_parts M_rings M_metSize M_from M_to M_bits M_gone M_way M_asked M_at) s.heap.size = A at hD ⊢
  have hA : ∀ q : Nat, s.heap.size ≤ q → A q := fun q h => by rw [← hAe]; exact Or.inr h
  have hS : va_S A s.heap s.heap [] := va_S.rf
  have hl := lv_entry ([.ref (a 0), .int p1]) (n := 5) (Nat.le_of_ble_eq_true rfl)
  rw [lg_entry_eq]
  generalize (lg_sl ([.ref (a 0), .int p1]) ++ List.replicate (5 - (lg_sl ([.ref (a 0), .int p1])).length) Slot.unset).toArray = ls at hl ⊢
  have hl : lv_has ls 5 [(0, .ref (a 0)), (1, .int p1)] := hl
  rw [fM_ask] at hf
  refine lv_aload_n hx hb d_M_ask_0 rfl (lv_at hl 0 rfl) ?_
  refine lv_iconst (v := 0) hx hb d_M_ask_1 (by decide) ?_
  refine vs_M_code (v := 0) hx hb hts hown hK hP hD hS 0 rfl (hts _ tb_254) (Nat.le_of_ble_eq_true rfl) d_M_ask_2 (fun H locs hP hD hS => ?_)
  have hP : va_P (dC, dI) vwCl (wM_ask a k 0 M_keys M_edges M_thenKeys M_thenEdges M_configuration M_parts M_rings M_metSize M_from M_to M_bits M_gone M_way M_asked M_at) H := hP
  have hD : va_D A (wM_ask a k 0 M_keys M_edges M_thenKeys M_thenEdges M_configuration M_parts M_rings M_metSize M_from M_to M_bits M_gone M_way M_asked M_at) := hD
  refine lv_aload_n hx hb d_M_ask_5 rfl (lv_at hl 0 rfl) ?_
  refine vg_M_configuration (v := .int M_configuration) hx hb hts hown hK hP 0 rfl (hts _ tb_277) rfl d_M_ask_6 ?_
  refine lv_iconst (v := (-1)) hx hb d_M_ask_9 (by decide) ?_
  refine lv_icmp_eq (tgt := 21) hx hb d_M_ask_10 (by decide) (fun c_10 => ?_) (fun c_10 => ?_)
  · have hf := og_t hf c_10
    refine lv_iconst (v := (-1)) hx hb d_M_ask_21 (by decide) ?_
    obtain rfl := Option.some.inj hf
    exact W.iret (v := (-1)) hx hb hr (fun t ht hW => ⟨⟨(-1), (), rfl, rfl, by rw [ht]; exact hP, va_K.moved hW.alike hK, hD⟩, hS.F ht⟩) hS.2.2 d_M_ask_22
  · have hf := og_f hf c_10
    refine lv_aload_n hx hb d_M_ask_13 rfl (lv_at hl 0 rfl) ?_
    refine lv_iload_n hx hb d_M_ask_14 rfl (lv_at hl 1 rfl) ?_
    obtain ⟨r15, e_15, hf⟩ := og_b hf
    refine og_rV (w := (wM_ask a k 0 M_keys M_edges M_thenKeys M_thenEdges M_configuration M_parts M_rings M_metSize M_from M_to M_bits M_gone M_way M_asked M_at)) (As := [.int p1]) (rest := []) (ci := 6) (q0 := 0) ⟨hx, hb, hml, hown, hts⟩ (c_M_isKey l dC dI a k 0 M_keys M_edges M_thenKeys M_thenEdges M_configuration M_parts M_rings M_metSize p1 r15 e_15) (cwV 1 hts (og_gV tb_256 tb_257 tb_258 tb_259 tb_260) rfl rfl rfl (by decide +kernel) ⟨Nat.le_of_ble_eq_true rfl, Nat.le_of_ble_eq_true rfl⟩) hK hP [0] [] ⟨rfl, trivial⟩ rfl rfl rfl rfl rfl hl.1 rfl (Nat.le_of_ble_eq_true rfl) d_M_ask_15 ⟨Nat.zero_le _, Nat.zero_le _⟩ ?_
    refine lv_if_ne (tgt := 23) hx hb d_M_ask_18 (by decide) (fun c_18 => ?_) (fun c_18 => ?_)
    · have hf := og_f hf c_18
      refine lv_iconst (v := 0) hx hb d_M_ask_23 (by decide) ?_
      refine lv_istore_n (lv' := [(2, .int 0), (0, .ref (a 0)), (1, .int p1)]) hx hb d_M_ask_24 rfl hl (by decide) rfl (fun ls hl => ?_)
      have k25_53 : ∀ (M_asked : (Nat → Int32)) (M_at : (Nat → Int32)) (H : Heap) (locs : List Loc) (ls : Array Slot), fM_ask_K25_53 0 M_edges M_from M_to M_bits M_gone M_configuration M_way p1 M_asked M_at = some y → va_P (dC, dI) vwCl (wM_ask a k 0 M_keys M_edges M_thenKeys M_thenEdges M_configuration M_parts M_rings M_metSize M_from M_to M_bits M_gone M_way M_asked M_at) H → va_D A (wM_ask a k 0 M_keys M_edges M_thenKeys M_thenEdges M_configuration M_parts M_rings M_metSize M_from M_to M_bits M_gone M_way M_asked M_at) → va_S A s.heap H locs → lv_has ls 5 [(0, .ref (a 0)), (1, .int p1)] → W p l e (headSpec ws_M_ask { frames := 1, cells := 0, slots := 0, locals := 24 }).room s m ([.ref (a 0), .int p1] : List Value).toArray below meth c H locs 0 0 (MQ below (og_Qi (dC, dI) (wM_ask a k y.2.1 M_keys M_edges M_thenKeys M_thenEdges M_configuration M_parts M_rings y.2.2.1 M_from M_to M_bits M_gone y.2.2.2.1 y.2.2.2.2.1 y.2.2.2.2.2) (tM_ask k) y.1 A) ([.ref (a 0), .int p1] : List Value).toArray s 0 0 A) (F0 m 53 ls []) := by
        intro M_asked M_at H locs ls hf hP hD hS hl
        rw [fM_ask_K25_53] at hf
        refine lv_aload_n hx hb d_M_ask_53 rfl (lv_at hl 0 rfl) ?_
        refine lv_iconst (v := 0) hx hb d_M_ask_54 (by decide) ?_
        refine vs_M_metSize (v := 0) hx hb hts hown hK hP hD hS 0 rfl (hts _ tb_334) (Nat.le_of_ble_eq_true rfl) d_M_ask_55 (fun H locs hP hD hS => ?_)
        have hP : va_P (dC, dI) vwCl (wM_ask a k 0 M_keys M_edges M_thenKeys M_thenEdges M_configuration M_parts M_rings 0 M_from M_to M_bits M_gone M_way M_asked M_at) H := hP
        have hD : va_D A (wM_ask a k 0 M_keys M_edges M_thenKeys M_thenEdges M_configuration M_parts M_rings 0 M_from M_to M_bits M_gone M_way M_asked M_at) := hD
        refine lv_aload_n hx hb d_M_ask_58 rfl (lv_at hl 0 rfl) ?_
        refine vg_M_asked (v := .ref (a 19)) hx hb hts hown hK hP 0 rfl (hts _ tb_336) rfl d_M_ask_59 ?_
        refine lv_iload_n hx hb d_M_ask_62 rfl (lv_at hl 1 rfl) ?_
        refine lv_iconst (v := 1) hx hb d_M_ask_63 (by decide) ?_
        obtain ⟨h_64, hf⟩ := og_ck_s hf
        refine va_iast hx hb hK hP hD hS 6 5 rfl rfl h_64 d_M_ask_64 (fun H locs hP hD hS => ?_)
        have hP : va_P (dC, dI) vwCl (wM_ask a k 0 M_keys M_edges M_thenKeys M_thenEdges M_configuration M_parts M_rings 0 M_from M_to M_bits M_gone M_way (upd M_asked p1.toNatClampNeg 1) M_at) H := hP
        have hD : va_D A (wM_ask a k 0 M_keys M_edges M_thenKeys M_thenEdges M_configuration M_parts M_rings 0 M_from M_to M_bits M_gone M_way (upd M_asked p1.toNatClampNeg 1) M_at) := hD
        refine lv_aload_n hx hb d_M_ask_65 rfl (lv_at hl 0 rfl) ?_
        refine vg_M_way (v := .ref (a 18)) hx hb hts hown hK hP 0 rfl (hts _ tb_335) rfl d_M_ask_66 ?_
        refine lv_iconst (v := 0) hx hb d_M_ask_69 (by decide) ?_
        refine lv_iload_n hx hb d_M_ask_70 rfl (lv_at hl 1 rfl) ?_
        obtain ⟨h_71, hf⟩ := og_ck_s hf
        refine va_iast hx hb hK hP hD hS 5 4 rfl rfl h_71 d_M_ask_71 (fun H locs hP hD hS => ?_)
        have hP : va_P (dC, dI) vwCl (wM_ask a k 0 M_keys M_edges M_thenKeys M_thenEdges M_configuration M_parts M_rings 0 M_from M_to M_bits M_gone (upd M_way (0 : Int32).toNatClampNeg p1) (upd M_asked p1.toNatClampNeg 1) M_at) H := hP
        have hD : va_D A (wM_ask a k 0 M_keys M_edges M_thenKeys M_thenEdges M_configuration M_parts M_rings 0 M_from M_to M_bits M_gone (upd M_way (0 : Int32).toNatClampNeg p1) (upd M_asked p1.toNatClampNeg 1) M_at) := hD
        refine lv_iconst (v := 1) hx hb d_M_ask_72 (by decide) ?_
        refine lv_istore_n (lv' := [(2, .int 1), (0, .ref (a 0)), (1, .int p1)]) hx hb d_M_ask_73 rfl hl (by decide) rfl (fun ls hl => ?_)
        have k74_245 : ∀ (M_metSize : Int32) (M_way : (Nat → Int32)) (M_asked : (Nat → Int32)) (M_at : (Nat → Int32)) (H : Heap) (locs : List Loc) (ls : Array Slot), fM_ask_K74_245 0 M_metSize M_way M_asked M_at = some y → va_P (dC, dI) vwCl (wM_ask a k 0 M_keys M_edges M_thenKeys M_thenEdges M_configuration M_parts M_rings M_metSize M_from M_to M_bits M_gone M_way M_asked M_at) H → va_D A (wM_ask a k 0 M_keys M_edges M_thenKeys M_thenEdges M_configuration M_parts M_rings M_metSize M_from M_to M_bits M_gone M_way M_asked M_at) → va_S A s.heap H locs → lv_has ls 5 [] → W p l e (headSpec ws_M_ask { frames := 1, cells := 0, slots := 0, locals := 24 }).room s m ([.ref (a 0), .int p1] : List Value).toArray below meth c H locs 0 0 (MQ below (og_Qi (dC, dI) (wM_ask a k y.2.1 M_keys M_edges M_thenKeys M_thenEdges M_configuration M_parts M_rings y.2.2.1 M_from M_to M_bits M_gone y.2.2.2.1 y.2.2.2.2.1 y.2.2.2.2.2) (tM_ask k) y.1 A) ([.ref (a 0), .int p1] : List Value).toArray s 0 0 A) (F0 m 245 ls []) := by
          intro M_metSize M_way M_asked M_at H locs ls hf hP hD hS hl
          rw [fM_ask_K74_245] at hf
          refine lv_iconst (v := 0) hx hb d_M_ask_245 (by decide) ?_
          obtain rfl := Option.some.inj hf
          exact W.iret (v := 0) hx hb hr (fun t ht hW => ⟨⟨0, (), rfl, rfl, by rw [ht]; exact hP, va_K.moved hW.alike hK, hD⟩, hS.F ht⟩) hS.2.2 d_M_ask_246
        have lp74 : ∀ (n74 : Nat) (v2 : Int32) (M_metSize : Int32) (M_way : (Nat → Int32)) (M_asked : (Nat → Int32)) (M_at : (Nat → Int32)) (H : Heap) (locs : List Loc) (ls : Array Slot), fM_ask_L74 (fM_ask_K74_245 0) 0 M_edges M_from M_to M_bits M_gone M_configuration n74 v2 M_metSize M_way M_asked M_at = some y → va_P (dC, dI) vwCl (wM_ask a k 0 M_keys M_edges M_thenKeys M_thenEdges M_configuration M_parts M_rings M_metSize M_from M_to M_bits M_gone M_way M_asked M_at) H → va_D A (wM_ask a k 0 M_keys M_edges M_thenKeys M_thenEdges M_configuration M_parts M_rings M_metSize M_from M_to M_bits M_gone M_way M_asked M_at) → va_S A s.heap H locs → lv_has ls 5 [(0, .ref (a 0)), (2, .int v2)] → W p l e (headSpec ws_M_ask { frames := 1, cells := 0, slots := 0, locals := 24 }).room s m ([.ref (a 0), .int p1] : List Value).toArray below meth c H locs 0 0 (MQ below (og_Qi (dC, dI) (wM_ask a k y.2.1 M_keys M_edges M_thenKeys M_thenEdges M_configuration M_parts M_rings y.2.2.1 M_from M_to M_bits M_gone y.2.2.2.1 y.2.2.2.2.1 y.2.2.2.2.2) (tM_ask k) y.1 A) ([.ref (a 0), .int p1] : List Value).toArray s 0 0 A) (F0 m 74 ls []) := by
          intro n74
          induction n74 with
          | zero => intro v2 M_metSize M_way M_asked M_at H locs ls hf hP hD hS hl; rw [fM_ask_L74] at hf; cases hf
          | succ n74 ih74 =>
            intro v2 M_metSize M_way M_asked M_at H locs ls hf hP hD hS hl
            rw [fM_ask_L74] at hf
            refine lv_iload_n hx hb d_M_ask_74 rfl (lv_at hl 1 rfl) ?_
            refine lv_if_le (tgt := 245) hx hb d_M_ask_75 (by decide) (fun c_75 => ?_) (fun c_75 => ?_)
            · have hf := og_t hf c_75
              exact k74_245 M_metSize M_way M_asked M_at _ _ _ hf hP hD hS (lv_sub hl [] rfl)
            · have hf := og_f hf c_75
              refine lv_aload_n hx hb d_M_ask_78 rfl (lv_at hl 0 rfl) ?_
              refine vg_M_way (v := .ref (a 18)) hx hb hts hown hK hP 0 rfl (hts _ tb_335) rfl d_M_ask_79 ?_
              refine lv_iload_n hx hb d_M_ask_82 rfl (lv_at hl 1 rfl) ?_
              refine lv_iconst (v := 1) hx hb d_M_ask_83 (by decide) ?_
              refine lv_isub hx hb d_M_ask_84 ?_
              obtain ⟨h_85, hf⟩ := og_ck_s hf
              refine va_iald hx hb hK hP 5 4 rfl rfl h_85 d_M_ask_85 ?_
              refine lv_istore_n (lv' := [(3, .int (M_way (v2 - 1).toNatClampNeg)), (0, .ref (a 0)), (2, .int v2)]) hx hb d_M_ask_86 rfl hl (by decide) rfl (fun ls hl => ?_)
              refine lv_aload_n hx hb d_M_ask_87 rfl (lv_at hl 1 rfl) ?_
              refine vg_M_at (v := .ref (a 20)) hx hb hts hown hK hP 0 rfl (hts _ tb_337) rfl d_M_ask_88 ?_
              refine lv_iload_n hx hb d_M_ask_91 rfl (lv_at hl 0 rfl) ?_
              obtain ⟨h_92, hf⟩ := og_ck_s hf
              refine va_iald hx hb hK hP 7 6 rfl rfl h_92 d_M_ask_92 ?_
              refine lv_istore (lv' := [(4, .int (M_at (M_way (v2 - 1).toNatClampNeg).toNatClampNeg)), (3, .int (M_way (v2 - 1).toNatClampNeg)), (0, .ref (a 0)), (2, .int v2)]) hx hb d_M_ask_93 hl (by decide) rfl (fun ls hl => ?_)
              refine lv_aload_n hx hb d_M_ask_95 rfl (lv_at hl 2 rfl) ?_
              refine vg_M_at (v := .ref (a 20)) hx hb hts hown hK hP 0 rfl (hts _ tb_337) rfl d_M_ask_96 ?_
              refine lv_iload_n hx hb d_M_ask_99 rfl (lv_at hl 1 rfl) ?_
              refine lv_dup2_11 hx hb d_M_ask_100 rfl rfl ?_
              obtain ⟨h_101, hf⟩ := og_ck_s hf
              refine va_iald hx hb hK hP 7 6 rfl rfl h_101 d_M_ask_101 ?_
              refine lv_iconst (v := 1) hx hb d_M_ask_102 (by decide) ?_
              refine lv_iadd hx hb d_M_ask_103 ?_
              obtain ⟨h_104, hf⟩ := og_ck_s hf
              refine va_iast hx hb hK hP hD hS 7 6 rfl rfl h_104 d_M_ask_104 (fun H locs hP hD hS => ?_)
              have hP : va_P (dC, dI) vwCl (wM_ask a k 0 M_keys M_edges M_thenKeys M_thenEdges M_configuration M_parts M_rings M_metSize M_from M_to M_bits M_gone M_way M_asked (upd M_at (M_way (v2 - 1).toNatClampNeg).toNatClampNeg ((M_at (M_way (v2 - 1).toNatClampNeg).toNatClampNeg) + 1))) H := hP
              have hD : va_D A (wM_ask a k 0 M_keys M_edges M_thenKeys M_thenEdges M_configuration M_parts M_rings M_metSize M_from M_to M_bits M_gone M_way M_asked (upd M_at (M_way (v2 - 1).toNatClampNeg).toNatClampNeg ((M_at (M_way (v2 - 1).toNatClampNeg).toNatClampNeg) + 1))) := hD
              refine lv_iload hx hb d_M_ask_105 (lv_at hl 0 rfl) ?_
              refine lv_aload_n hx hb d_M_ask_107 rfl (lv_at hl 2 rfl) ?_
              refine vg_M_edges (v := .int M_edges) hx hb hts hown hK hP 0 rfl (hts _ tb_261) rfl d_M_ask_108 ?_
              refine lv_icmp_ne (tgt := 127) hx hb d_M_ask_111 (by decide) (fun c_111 => ?_) (fun c_111 => ?_)
              · have hf := og_f hf c_111
                refine lv_aload_n hx hb d_M_ask_127 rfl (lv_at hl 2 rfl) ?_
                refine vg_M_gone (v := .ref (a 6)) hx hb hts hown hK hP 0 rfl (hts _ tb_266) rfl d_M_ask_128 ?_
                refine lv_iload hx hb d_M_ask_131 (lv_at hl 0 rfl) ?_
                obtain ⟨h_133, hf⟩ := og_ck_s hf
                refine va_zald hx hb hK hP 4 3 rfl rfl h_133 d_M_ask_133 ?_
                refine lv_if_ne (tgt := 74) hx hb d_M_ask_134 (by decide) (fun c_134 => ?_) (fun c_134 => ?_)
                · have hf := og_f hf c_134
                  exact ih74 v2 M_metSize M_way M_asked (upd M_at (M_way (v2 - 1).toNatClampNeg).toNatClampNeg ((M_at (M_way (v2 - 1).toNatClampNeg).toNatClampNeg) + 1)) _ _ _ hf hP hD hS (lv_sub hl [2, 3] rfl)
                · have hf := og_t hf c_134
                  refine lv_aload_n hx hb d_M_ask_137 rfl (lv_at hl 2 rfl) ?_
                  refine vg_M_bits (v := .ref (a 5)) hx hb hts hown hK hP 0 rfl (hts _ tb_265) rfl d_M_ask_138 ?_
                  refine lv_iload hx hb d_M_ask_141 (lv_at hl 0 rfl) ?_
                  obtain ⟨h_143, hf⟩ := og_ck_s hf
                  refine va_iald hx hb hK hP 3 2 rfl rfl h_143 d_M_ask_143 ?_
                  refine lv_aload_n hx hb d_M_ask_144 rfl (lv_at hl 2 rfl) ?_
                  refine vg_M_configuration (v := .int M_configuration) hx hb hts hown hK hP 0 rfl (hts _ tb_277) rfl d_M_ask_145 ?_
                  refine lv_ishr hx hb d_M_ask_148 ?_
                  refine lv_iconst (v := 1) hx hb d_M_ask_149 (by decide) ?_
                  refine lv_iand hx hb d_M_ask_150 ?_
                  refine lv_if_eq (tgt := 74) hx hb d_M_ask_151 (by decide) (fun c_151 => ?_) (fun c_151 => ?_)
                  · have hf := og_t hf c_151
                    exact ih74 v2 M_metSize M_way M_asked (upd M_at (M_way (v2 - 1).toNatClampNeg).toNatClampNeg ((M_at (M_way (v2 - 1).toNatClampNeg).toNatClampNeg) + 1)) _ _ _ hf hP hD hS (lv_sub hl [2, 3] rfl)
                  · have hf := og_f hf c_151
                    refine lv_aload_n hx hb d_M_ask_154 rfl (lv_at hl 2 rfl) ?_
                    refine vg_M_from (v := .ref (a 2)) hx hb hts hown hK hP 0 rfl (hts _ tb_262) rfl d_M_ask_155 ?_
                    refine lv_iload hx hb d_M_ask_158 (lv_at hl 0 rfl) ?_
                    obtain ⟨h_160, hf⟩ := og_ck_s hf
                    refine va_iald hx hb hK hP 1 0 rfl rfl h_160 d_M_ask_160 ?_
                    refine lv_iload_n hx hb d_M_ask_161 rfl (lv_at hl 1 rfl) ?_
                    refine lv_icmp_ne (tgt := 74) hx hb d_M_ask_162 (by decide) (fun c_162 => ?_) (fun c_162 => ?_)
                    · have hf := og_f hf c_162
                      exact ih74 v2 M_metSize M_way M_asked (upd M_at (M_way (v2 - 1).toNatClampNeg).toNatClampNeg ((M_at (M_way (v2 - 1).toNatClampNeg).toNatClampNeg) + 1)) _ _ _ hf hP hD hS (lv_sub hl [2, 3] rfl)
                    · have hf := og_t hf c_162
                      refine lv_aload_n hx hb d_M_ask_165 rfl (lv_at hl 2 rfl) ?_
                      refine vg_M_asked (v := .ref (a 19)) hx hb hts hown hK hP 0 rfl (hts _ tb_336) rfl d_M_ask_166 ?_
                      refine lv_aload_n hx hb d_M_ask_169 rfl (lv_at hl 2 rfl) ?_
                      refine vg_M_to (v := .ref (a 3)) hx hb hts hown hK hP 0 rfl (hts _ tb_263) rfl d_M_ask_170 ?_
                      refine lv_iload hx hb d_M_ask_173 (lv_at hl 0 rfl) ?_
                      obtain ⟨h_175, hf⟩ := og_ck_s hf
                      refine va_iald hx hb hK hP 2 1 rfl rfl h_175 d_M_ask_175 ?_
                      obtain ⟨h_176, hf⟩ := og_ck_s hf
                      refine va_iald hx hb hK hP 6 5 rfl rfl h_176 d_M_ask_176 ?_
                      refine lv_iconst (v := 2) hx hb d_M_ask_177 (by decide) ?_
                      refine lv_icmp_ne (tgt := 184) hx hb d_M_ask_178 (by decide) (fun c_178 => ?_) (fun c_178 => ?_)
                      · have hf := og_f hf c_178
                        refine lv_aload_n hx hb d_M_ask_184 rfl (lv_at hl 2 rfl) ?_
                        refine vg_M_asked (v := .ref (a 19)) hx hb hts hown hK hP 0 rfl (hts _ tb_336) rfl d_M_ask_185 ?_
                        refine lv_aload_n hx hb d_M_ask_188 rfl (lv_at hl 2 rfl) ?_
                        refine vg_M_to (v := .ref (a 3)) hx hb hts hown hK hP 0 rfl (hts _ tb_263) rfl d_M_ask_189 ?_
                        refine lv_iload hx hb d_M_ask_192 (lv_at hl 0 rfl) ?_
                        obtain ⟨h_194, hf⟩ := og_ck_s hf
                        refine va_iald hx hb hK hP 2 1 rfl rfl h_194 d_M_ask_194 ?_
                        obtain ⟨h_195, hf⟩ := og_ck_s hf
                        refine va_iald hx hb hK hP 6 5 rfl rfl h_195 d_M_ask_195 ?_
                        refine lv_iconst (v := 1) hx hb d_M_ask_196 (by decide) ?_
                        refine lv_icmp_ne (tgt := 213) hx hb d_M_ask_197 (by decide) (fun c_197 => ?_) (fun c_197 => ?_)
                        · have hf := og_f hf c_197
                          refine lv_aload_n hx hb d_M_ask_213 rfl (lv_at hl 2 rfl) ?_
                          refine vg_M_asked (v := .ref (a 19)) hx hb hts hown hK hP 0 rfl (hts _ tb_336) rfl d_M_ask_214 ?_
                          refine lv_aload_n hx hb d_M_ask_217 rfl (lv_at hl 2 rfl) ?_
                          refine vg_M_to (v := .ref (a 3)) hx hb hts hown hK hP 0 rfl (hts _ tb_263) rfl d_M_ask_218 ?_
                          refine lv_iload hx hb d_M_ask_221 (lv_at hl 0 rfl) ?_
                          obtain ⟨h_223, hf⟩ := og_ck_s hf
                          refine va_iald hx hb hK hP 2 1 rfl rfl h_223 d_M_ask_223 ?_
                          refine lv_iconst (v := 1) hx hb d_M_ask_224 (by decide) ?_
                          obtain ⟨h_225, hf⟩ := og_ck_s hf
                          refine va_iast hx hb hK hP hD hS 6 5 rfl rfl h_225 d_M_ask_225 (fun H locs hP hD hS => ?_)
                          have hP : va_P (dC, dI) vwCl (wM_ask a k 0 M_keys M_edges M_thenKeys M_thenEdges M_configuration M_parts M_rings M_metSize M_from M_to M_bits M_gone M_way (upd M_asked (M_to (M_at (M_way (v2 - 1).toNatClampNeg).toNatClampNeg).toNatClampNeg).toNatClampNeg 1) (upd M_at (M_way (v2 - 1).toNatClampNeg).toNatClampNeg ((M_at (M_way (v2 - 1).toNatClampNeg).toNatClampNeg) + 1))) H := hP
                          have hD : va_D A (wM_ask a k 0 M_keys M_edges M_thenKeys M_thenEdges M_configuration M_parts M_rings M_metSize M_from M_to M_bits M_gone M_way (upd M_asked (M_to (M_at (M_way (v2 - 1).toNatClampNeg).toNatClampNeg).toNatClampNeg).toNatClampNeg 1) (upd M_at (M_way (v2 - 1).toNatClampNeg).toNatClampNeg ((M_at (M_way (v2 - 1).toNatClampNeg).toNatClampNeg) + 1))) := hD
                          refine lv_aload_n hx hb d_M_ask_226 rfl (lv_at hl 2 rfl) ?_
                          refine vg_M_way (v := .ref (a 18)) hx hb hts hown hK hP 0 rfl (hts _ tb_335) rfl d_M_ask_227 ?_
                          refine lv_iload_n hx hb d_M_ask_230 rfl (lv_at hl 3 rfl) ?_
                          refine lv_aload_n hx hb d_M_ask_231 rfl (lv_at hl 2 rfl) ?_
                          refine vg_M_to (v := .ref (a 3)) hx hb hts hown hK hP 0 rfl (hts _ tb_263) rfl d_M_ask_232 ?_
                          refine lv_iload hx hb d_M_ask_235 (lv_at hl 0 rfl) ?_
                          obtain ⟨h_237, hf⟩ := og_ck_s hf
                          refine va_iald hx hb hK hP 2 1 rfl rfl h_237 d_M_ask_237 ?_
                          obtain ⟨h_238, hf⟩ := og_ck_s hf
                          refine va_iast hx hb hK hP hD hS 5 4 rfl rfl h_238 d_M_ask_238 (fun H locs hP hD hS => ?_)
                          have hP : va_P (dC, dI) vwCl (wM_ask a k 0 M_keys M_edges M_thenKeys M_thenEdges M_configuration M_parts M_rings M_metSize M_from M_to M_bits M_gone (upd M_way v2.toNatClampNeg (M_to (M_at (M_way (v2 - 1).toNatClampNeg).toNatClampNeg).toNatClampNeg)) (upd M_asked (M_to (M_at (M_way (v2 - 1).toNatClampNeg).toNatClampNeg).toNatClampNeg).toNatClampNeg 1) (upd M_at (M_way (v2 - 1).toNatClampNeg).toNatClampNeg ((M_at (M_way (v2 - 1).toNatClampNeg).toNatClampNeg) + 1))) H := hP
                          have hD : va_D A (wM_ask a k 0 M_keys M_edges M_thenKeys M_thenEdges M_configuration M_parts M_rings M_metSize M_from M_to M_bits M_gone (upd M_way v2.toNatClampNeg (M_to (M_at (M_way (v2 - 1).toNatClampNeg).toNatClampNeg).toNatClampNeg)) (upd M_asked (M_to (M_at (M_way (v2 - 1).toNatClampNeg).toNatClampNeg).toNatClampNeg).toNatClampNeg 1) (upd M_at (M_way (v2 - 1).toNatClampNeg).toNatClampNeg ((M_at (M_way (v2 - 1).toNatClampNeg).toNatClampNeg) + 1))) := hD
                          refine lv_iinc (v := (v2 + 1)) (lv' := [(2, .int (v2 + 1)), (4, .int (M_at (M_way (v2 - 1).toNatClampNeg).toNatClampNeg)), (3, .int (M_way (v2 - 1).toNatClampNeg)), (0, .ref (a 0))]) hx hb d_M_ask_239 hl (k := 3) rfl rfl (by decide) rfl (fun ls hl => ?_)
                          refine lv_goto (tgt := 74) hx hb d_M_ask_242 (by decide) ?_
                          exact ih74 (v2 + 1) M_metSize (upd M_way v2.toNatClampNeg (M_to (M_at (M_way (v2 - 1).toNatClampNeg).toNatClampNeg).toNatClampNeg)) (upd M_asked (M_to (M_at (M_way (v2 - 1).toNatClampNeg).toNatClampNeg).toNatClampNeg).toNatClampNeg 1) (upd M_at (M_way (v2 - 1).toNatClampNeg).toNatClampNeg ((M_at (M_way (v2 - 1).toNatClampNeg).toNatClampNeg) + 1)) _ _ _ hf hP hD hS (lv_sub hl [3, 0] rfl)
                        · have hf := og_t hf c_197
                          refine lv_aload_n hx hb d_M_ask_200 rfl (lv_at hl 2 rfl) ?_
                          refine lv_iload_n hx hb d_M_ask_201 rfl (lv_at hl 3 rfl) ?_
                          refine lv_aload_n hx hb d_M_ask_202 rfl (lv_at hl 2 rfl) ?_
                          refine vg_M_to (v := .ref (a 3)) hx hb hts hown hK hP 0 rfl (hts _ tb_263) rfl d_M_ask_203 ?_
                          refine lv_iload hx hb d_M_ask_206 (lv_at hl 0 rfl) ?_
                          obtain ⟨h_208, hf⟩ := og_ck_s hf
                          refine va_iald hx hb hK hP 2 1 rfl rfl h_208 d_M_ask_208 ?_
                          obtain ⟨r209, e_209, hf⟩ := og_b hf
                          refine og_wV (w := (wM_ask a k 0 M_keys M_edges M_thenKeys M_thenEdges M_configuration M_parts M_rings M_metSize M_from M_to M_bits M_gone M_way M_asked (upd M_at (M_way (v2 - 1).toNatClampNeg).toNatClampNeg ((M_at (M_way (v2 - 1).toNatClampNeg).toNatClampNeg) + 1)))) (w2 := (wM_ask a k 0 M_keys M_edges M_thenKeys M_thenEdges M_configuration M_parts M_rings r209.2.1 M_from M_to M_bits M_gone r209.2.2 M_asked (upd M_at (M_way (v2 - 1).toNatClampNeg).toNatClampNeg ((M_at (M_way (v2 - 1).toNatClampNeg).toNatClampNeg) + 1)))) (As := [.int v2, .int (M_to (M_at (M_way (v2 - 1).toNatClampNeg).toNatClampNeg).toNatClampNeg)]) (rest := []) (ci := 6) (q0 := 0) ⟨hx, hb, hml, hown, hts⟩ (c_M_ringOf l dC dI a k _ 0 M_keys M_edges M_thenKeys M_thenEdges M_configuration M_parts M_rings M_metSize M_way v2 (M_to (M_at (M_way (v2 - 1).toNatClampNeg).toNatClampNeg).toNatClampNeg) r209 e_209) (cwV 2 hts (og_gV tb_338 tb_339 tb_340 tb_259 tb_341) rfl rfl rfl (by decide +kernel) ⟨Nat.le_of_ble_eq_true rfl, Nat.le_of_ble_eq_true rfl⟩) hK hP hD hS hA [0, 5] [4] ⟨rfl, rfl, trivial⟩ rfl [(true, 0), (false, 1), (false, 2), (false, 3), (false, 4), (true, 1), (false, 6), (false, 7)] ⟨rfl, rfl, rfl, rfl, rfl, rfl, rfl, rfl, rfl, rfl, rfl, rfl, rfl, rfl, trivial⟩ ⟨rfl, rfl, rfl, rfl, rfl, rfl, rfl, rfl, trivial⟩ (by decide) rfl rfl rfl rfl hl.1 rfl (Nat.le_of_ble_eq_true rfl) d_M_ask_209 ⟨Nat.zero_le _, Nat.zero_le _⟩ (fun H locs hP hD hS => ?_)
                          obtain rfl := Option.some.inj hf
                          exact W.iret (v := r209.1) hx hb hr (fun t ht hW => ⟨⟨r209.1, (), rfl, rfl, by rw [ht]; exact hP, va_K.moved hW.alike hK, hD⟩, hS.F ht⟩) hS.2.2 d_M_ask_212
                      · have hf := og_t hf c_178
                        refine lv_goto (tgt := 74) hx hb d_M_ask_181 (by decide) ?_
                        exact ih74 v2 M_metSize M_way M_asked (upd M_at (M_way (v2 - 1).toNatClampNeg).toNatClampNeg ((M_at (M_way (v2 - 1).toNatClampNeg).toNatClampNeg) + 1)) _ _ _ hf hP hD hS (lv_sub hl [2, 3] rfl)
              · have hf := og_t hf c_111
                refine lv_aload_n hx hb d_M_ask_114 rfl (lv_at hl 2 rfl) ?_
                refine vg_M_asked (v := .ref (a 19)) hx hb hts hown hK hP 0 rfl (hts _ tb_336) rfl d_M_ask_115 ?_
                refine lv_iload_n hx hb d_M_ask_118 rfl (lv_at hl 1 rfl) ?_
                refine lv_iconst (v := 2) hx hb d_M_ask_119 (by decide) ?_
                obtain ⟨h_120, hf⟩ := og_ck_s hf
                refine va_iast hx hb hK hP hD hS 6 5 rfl rfl h_120 d_M_ask_120 (fun H locs hP hD hS => ?_)
                have hP : va_P (dC, dI) vwCl (wM_ask a k 0 M_keys M_edges M_thenKeys M_thenEdges M_configuration M_parts M_rings M_metSize M_from M_to M_bits M_gone M_way (upd M_asked (M_way (v2 - 1).toNatClampNeg).toNatClampNeg 2) (upd M_at (M_way (v2 - 1).toNatClampNeg).toNatClampNeg ((M_at (M_way (v2 - 1).toNatClampNeg).toNatClampNeg) + 1))) H := hP
                have hD : va_D A (wM_ask a k 0 M_keys M_edges M_thenKeys M_thenEdges M_configuration M_parts M_rings M_metSize M_from M_to M_bits M_gone M_way (upd M_asked (M_way (v2 - 1).toNatClampNeg).toNatClampNeg 2) (upd M_at (M_way (v2 - 1).toNatClampNeg).toNatClampNeg ((M_at (M_way (v2 - 1).toNatClampNeg).toNatClampNeg) + 1))) := hD
                refine lv_iinc (v := (v2 + (-1))) (lv' := [(2, .int (v2 + (-1))), (4, .int (M_at (M_way (v2 - 1).toNatClampNeg).toNatClampNeg)), (3, .int (M_way (v2 - 1).toNatClampNeg)), (0, .ref (a 0))]) hx hb d_M_ask_121 hl (k := 3) rfl rfl (by decide) rfl (fun ls hl => ?_)
                refine lv_goto (tgt := 74) hx hb d_M_ask_124 (by decide) ?_
                exact ih74 (v2 + (-1)) M_metSize M_way (upd M_asked (M_way (v2 - 1).toNatClampNeg).toNatClampNeg 2) (upd M_at (M_way (v2 - 1).toNatClampNeg).toNatClampNeg ((M_at (M_way (v2 - 1).toNatClampNeg).toNatClampNeg) + 1)) _ _ _ hf hP hD hS (lv_sub hl [3, 0] rfl)
        exact lp74 FU 1 0 (upd M_way (0 : Int32).toNatClampNeg p1) (upd M_asked p1.toNatClampNeg 1) M_at _ _ _ hf hP hD hS (lv_sub hl [1, 0] rfl)
      have lp25 : ∀ (n25 : Nat) (v2 : Int32) (M_asked : (Nat → Int32)) (M_at : (Nat → Int32)) (H : Heap) (locs : List Loc) (ls : Array Slot), fM_ask_L25 (fM_ask_K25_53 0 M_edges M_from M_to M_bits M_gone M_configuration M_way p1) M_keys n25 v2 M_asked M_at = some y → va_P (dC, dI) vwCl (wM_ask a k 0 M_keys M_edges M_thenKeys M_thenEdges M_configuration M_parts M_rings M_metSize M_from M_to M_bits M_gone M_way M_asked M_at) H → va_D A (wM_ask a k 0 M_keys M_edges M_thenKeys M_thenEdges M_configuration M_parts M_rings M_metSize M_from M_to M_bits M_gone M_way M_asked M_at) → va_S A s.heap H locs → lv_has ls 5 [(0, .ref (a 0)), (1, .int p1), (2, .int v2)] → W p l e (headSpec ws_M_ask { frames := 1, cells := 0, slots := 0, locals := 24 }).room s m ([.ref (a 0), .int p1] : List Value).toArray below meth c H locs 0 0 (MQ below (og_Qi (dC, dI) (wM_ask a k y.2.1 M_keys M_edges M_thenKeys M_thenEdges M_configuration M_parts M_rings y.2.2.1 M_from M_to M_bits M_gone y.2.2.2.1 y.2.2.2.2.1 y.2.2.2.2.2) (tM_ask k) y.1 A) ([.ref (a 0), .int p1] : List Value).toArray s 0 0 A) (F0 m 25 ls []) := by
        intro n25
        induction n25 with
        | zero => intro v2 M_asked M_at H locs ls hf hP hD hS hl; rw [fM_ask_L25] at hf; cases hf
        | succ n25 ih25 =>
          intro v2 M_asked M_at H locs ls hf hP hD hS hl
          rw [fM_ask_L25] at hf
          refine lv_iload_n hx hb d_M_ask_25 rfl (lv_at hl 2 rfl) ?_
          refine lv_aload_n hx hb d_M_ask_26 rfl (lv_at hl 0 rfl) ?_
          refine vg_M_keys (v := .int M_keys) hx hb hts hown hK hP 0 rfl (hts _ tb_253) rfl d_M_ask_27 ?_
          refine lv_icmp_ge (tgt := 53) hx hb d_M_ask_30 (by decide) (fun c_30 => ?_) (fun c_30 => ?_)
          · have hf := og_t hf c_30
            exact k25_53 M_asked M_at _ _ _ hf hP hD hS (lv_sub hl [0, 1] rfl)
          · have hf := og_f hf c_30
            refine lv_aload_n hx hb d_M_ask_33 rfl (lv_at hl 0 rfl) ?_
            refine vg_M_asked (v := .ref (a 19)) hx hb hts hown hK hP 0 rfl (hts _ tb_336) rfl d_M_ask_34 ?_
            refine lv_iload_n hx hb d_M_ask_37 rfl (lv_at hl 2 rfl) ?_
            refine lv_iconst (v := 0) hx hb d_M_ask_38 (by decide) ?_
            obtain ⟨h_39, hf⟩ := og_ck_s hf
            refine va_iast hx hb hK hP hD hS 6 5 rfl rfl h_39 d_M_ask_39 (fun H locs hP hD hS => ?_)
            have hP : va_P (dC, dI) vwCl (wM_ask a k 0 M_keys M_edges M_thenKeys M_thenEdges M_configuration M_parts M_rings M_metSize M_from M_to M_bits M_gone M_way (upd M_asked v2.toNatClampNeg 0) M_at) H := hP
            have hD : va_D A (wM_ask a k 0 M_keys M_edges M_thenKeys M_thenEdges M_configuration M_parts M_rings M_metSize M_from M_to M_bits M_gone M_way (upd M_asked v2.toNatClampNeg 0) M_at) := hD
            refine lv_aload_n hx hb d_M_ask_40 rfl (lv_at hl 0 rfl) ?_
            refine vg_M_at (v := .ref (a 20)) hx hb hts hown hK hP 0 rfl (hts _ tb_337) rfl d_M_ask_41 ?_
            refine lv_iload_n hx hb d_M_ask_44 rfl (lv_at hl 2 rfl) ?_
            refine lv_iconst (v := 0) hx hb d_M_ask_45 (by decide) ?_
            obtain ⟨h_46, hf⟩ := og_ck_s hf
            refine va_iast hx hb hK hP hD hS 7 6 rfl rfl h_46 d_M_ask_46 (fun H locs hP hD hS => ?_)
            have hP : va_P (dC, dI) vwCl (wM_ask a k 0 M_keys M_edges M_thenKeys M_thenEdges M_configuration M_parts M_rings M_metSize M_from M_to M_bits M_gone M_way (upd M_asked v2.toNatClampNeg 0) (upd M_at v2.toNatClampNeg 0)) H := hP
            have hD : va_D A (wM_ask a k 0 M_keys M_edges M_thenKeys M_thenEdges M_configuration M_parts M_rings M_metSize M_from M_to M_bits M_gone M_way (upd M_asked v2.toNatClampNeg 0) (upd M_at v2.toNatClampNeg 0)) := hD
            refine lv_iinc (v := (v2 + 1)) (lv' := [(2, .int (v2 + 1)), (0, .ref (a 0)), (1, .int p1)]) hx hb d_M_ask_47 hl (k := 2) rfl rfl (by decide) rfl (fun ls hl => ?_)
            refine lv_goto (tgt := 25) hx hb d_M_ask_50 (by decide) ?_
            exact ih25 (v2 + 1) (upd M_asked v2.toNatClampNeg 0) (upd M_at v2.toNatClampNeg 0) _ _ _ hf hP hD hS (lv_sub hl [1, 2, 0] rfl)
      exact lp25 FU 0 M_asked M_at _ _ _ hf hP hD hS (lv_sub hl [1, 2, 0] rfl)
    · have hf := og_t hf c_18
      refine lv_iconst (v := (-1)) hx hb d_M_ask_21 (by decide) ?_
      obtain rfl := Option.some.inj hf
      exact W.iret (v := (-1)) hx hb hr (fun t ht hW => ⟨⟨(-1), (), rfl, rfl, by rw [ht]; exact hP, va_K.moved hW.alike hK, hD⟩, hS.F ht⟩) hS.2.2 d_M_ask_22
