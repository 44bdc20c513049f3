def wM_tellRing (a : Nat → Nat) (k : Nat → ClassId) (M_code : Int32) (M_keys : Int32) (M_edges : Int32) (M_thenKeys : Int32) (M_thenEdges : Int32) (M_configuration : Int32) (M_parts : Int32) (M_rings : Int32) (M_metSize : Int32) (M_part : (Nat → Int32)) (M_shortest : (Nat → Int32)) (M_asks : (Nat → Int32)) (M_ringSize : (Nat → Int32)) (M_ring : (Nat → Int32)) (M_backs : (Nat → Int32)) : va_W := [(a 0, .inr (6, [.int M_code, .int M_keys, .int M_edges, .ref (a 1), .ref (a 2), .ref (a 3), .ref (a 4), .ref (a 5), .ref (a 6), .int M_thenKeys, .int M_thenEdges, .int M_configuration, .ref (a 7), .ref (a 8), .ref (a 9), .ref (a 10), .ref (a 11), .ref (a 12), .ref (a 13), .ref (a 14), .int M_parts, .int M_rings, .ref (a 15), .ref (a 16), .ref (a 17), .int M_metSize, .ref (a 18), .ref (a 19), .ref (a 20)])), (a 10, .inl (k 10, 40, .inl M_part)), (a 11, .inl (k 11, 40, .inl M_shortest)), (a 12, .inl (k 12, 1600, .inl M_asks)), (a 15, .inl (k 15, 40, .inl M_ringSize)), (a 16, .inl (k 16, 1600, .inl M_ring)), (a 17, .inl (k 17, 1640, .inl M_backs))]
def tM_tellRing (k : Nat → ClassId) : List (ClassId × FieldType) := [(k 10, .int), (k 11, .int), (k 12, .boolean), (k 15, .int), (k 16, .int), (k 17, .boolean)]
set_option maxHeartbeats 4000000 in
set_option maxRecDepth 100000 in
theorem c_M_tellRing (l : Launch) (dC : Nat → ClassId) (dI : Nat → Nat → Nat) (a : Nat → Nat) (k : Nat → ClassId) (sz : Nat) (M_code : Int32) (M_keys : Int32) (M_edges : Int32) (M_thenKeys : Int32) (M_thenEdges : Int32) (M_configuration : Int32) (M_parts : Int32) (M_rings : Int32) (M_metSize : Int32) (M_part : (Nat → Int32)) (M_shortest : (Nat → Int32)) (M_asks : (Nat → Int32)) (M_ringSize : (Nat → Int32)) (M_ring : (Nat → Int32)) (M_backs : (Nat → Int32)) (p1 : Int32) (y : Int32 × (Nat → Int32) × (Nat → Int32) × (Nat → Int32)) (hf : fM_tellRing M_thenKeys M_part M_shortest M_asks M_rings M_ringSize M_ring M_backs p1 = some y) : Met l y_M_tellRing ws_M_tellRing ({ frames := 2, cells := 0, slots := 0, locals := 47 }) (og_Pw [.ref (a 0), .int p1] (dC, dI) (wM_tellRing a k M_code M_keys M_edges M_thenKeys M_thenEdges M_configuration M_parts M_rings M_metSize M_part M_shortest M_asks M_ringSize M_ring M_backs) (tM_tellRing k) sz) (og_Qv (dC, dI) (wM_tellRing a k M_code M_keys M_edges M_thenKeys M_thenEdges M_configuration M_parts y.1 M_metSize M_part M_shortest M_asks y.2.1 y.2.2.1 y.2.2.2) (tM_tellRing k) (va_A (wM_tellRing a k M_code M_keys M_edges M_thenKeys M_thenEdges M_configuration M_parts M_rings M_metSize M_part M_shortest M_asks M_ringSize M_ring M_backs) sz)) 0 0 (va_A (wM_tellRing a k M_code M_keys M_edges M_thenKeys M_thenEdges M_configuration M_parts M_rings M_metSize M_part M_shortest M_asks M_ringSize M_ring M_backs) sz) := by
  refine Met.ofW (cc := b_M_tellRing) (maxL := 7) (ret := none) (by decide) rfl ?_
  intro p e s m args below meth c s₁ B hml hv
  obtain ⟨rfl, hsz, hP, hK, hD0⟩ := hv
  have hx := B.exec
  have hb := B.bytes
  have hr := B.returns
  have hts0 := atoms_spec (ws := ws_M_tellRing) B.pre
  have hts : ∀ w ∈ og_tb, w.before _ s = true := fun w h => hts0 w (List.mem_cons_of_mem _ h)
  have hown : s.vm.findClass R_M = some m.cls := findClass_of_methodNamed B.named
  have hlocks := B.notSynchronized
  subst hsz
  have hD := hD0.self (sz := s.heap.size)
  generalize hAe : va_A (wM_tellRing a k M_code M_keys M_edges M_thenKeys M_thenEdges M_configuration M_parts M_rings M_metSize M_part M_shortest M_asks M_ringSize M_ring M_backs) s.heap.size = A at hD ⊢
  have hA : ∀ q : Nat, s.heap.size ≤ q → A q := fun q h => by rw [← hAe]; exact Or.inr h
  have hS : va_S A s.heap s.heap [] := va_S.rf
  have hl := lv_entry ([.ref (a 0), .int p1]) (n := 7) (Nat.le_of_ble_eq_true rfl)
  rw [lg_entry_eq]
  generalize (lg_sl ([.ref (a 0), .int p1]) ++ List.replicate (7 - (lg_sl ([.ref (a 0), .int p1])).length) Slot.unset).toArray = ls at hl ⊢
  have hl : lv_has ls 7 [(0, .ref (a 0)), (1, .int p1)] := hl
  rw [fM_tellRing] at hf
  refine lv_sipush (v := 1000) hx hb d_M_tellRing_0 (by decide) ?_
  refine lv_istore_n (lv' := [(2, .int 1000), (0, .ref (a 0)), (1, .int p1)]) hx hb d_M_tellRing_3 rfl hl (by decide) rfl (fun ls hl => ?_)
  refine lv_iconst (v := 0) hx hb d_M_tellRing_4 (by decide) ?_
  refine lv_istore_n (lv' := [(3, .int 0), (2, .int 1000), (0, .ref (a 0)), (1, .int p1)]) hx hb d_M_tellRing_5 rfl hl (by decide) rfl (fun ls hl => ?_)
  have k6_56 : ∀ (v2 : Int32) (H : Heap) (locs : List Loc) (ls : Array Slot), fM_tellRing_K6_56 M_thenKeys M_part M_asks M_rings M_ringSize M_ring M_backs p1 v2 = some y → va_P (dC, dI) vwCl (wM_tellRing a k M_code M_keys M_edges M_thenKeys M_thenEdges M_configuration M_parts M_rings M_metSize M_part M_shortest M_asks M_ringSize M_ring M_backs) H → va_D A (wM_tellRing a k M_code M_keys M_edges M_thenKeys M_thenEdges M_configuration M_parts M_rings M_metSize M_part M_shortest M_asks M_ringSize M_ring M_backs) → va_S A s.heap H locs → lv_has ls 7 [(0, .ref (a 0)), (1, .int p1), (2, .int v2)] → W p l e (headSpec ws_M_tellRing { frames := 2, cells := 0, slots := 0, locals := 47 }).room s m ([.ref (a 0), .int p1] : List Value).toArray below meth c H locs 0 0 (MQ below (og_Qv (dC, dI) (wM_tellRing a k M_code M_keys M_edges M_thenKeys M_thenEdges M_configuration M_parts y.1 M_metSize M_part M_shortest M_asks y.2.1 y.2.2.1 y.2.2.2) (tM_tellRing k) A) ([.ref (a 0), .int p1] : List Value).toArray s 0 0 A) (F0 m 56 ls []) := by
    intro v2 H locs ls hf hP hD hS hl
    rw [fM_tellRing_K6_56] at hf
    refine lv_iload_n hx hb d_M_tellRing_56 rfl (lv_at hl 2 rfl) ?_
    refine lv_sipush (v := 1000) hx hb d_M_tellRing_57 (by decide) ?_
    refine lv_icmp_ne (tgt := 64) hx hb d_M_tellRing_60 (by decide) (fun c_60 => ?_) (fun c_60 => ?_)
    · have hf := og_f hf c_60
      refine lv_iconst (v := 0) hx hb d_M_tellRing_64 (by decide) ?_
      refine lv_istore_n (lv' := [(3, .int 0), (0, .ref (a 0)), (1, .int p1), (2, .int v2)]) hx hb d_M_tellRing_65 rfl hl (by decide) rfl (fun ls hl => ?_)
      refine lv_aload_n hx hb d_M_tellRing_66 rfl (lv_at hl 1 rfl) ?_
      refine lv_iload_n hx hb d_M_tellRing_67 rfl (lv_at hl 0 rfl) ?_
      refine lv_iload_n hx hb d_M_tellRing_68 rfl (lv_at hl 3 rfl) ?_
      obtain ⟨r69, e_69, hf⟩ := og_b hf
      refine og_wVv (w := (wM_tellRing a k M_code M_keys M_edges M_thenKeys M_thenEdges M_configuration M_parts M_rings M_metSize M_part M_shortest M_asks M_ringSize M_ring M_backs)) (w2 := (wM_tellRing a k M_code M_keys M_edges M_thenKeys M_thenEdges M_configuration M_parts M_rings M_metSize M_part M_shortest M_asks M_ringSize M_ring r69)) (As := [.int 0, .int v2]) (rest := []) (ci := 6) (q0 := 0) ⟨hx, hb, hml, hown, hts⟩ (c_M_lead l dC dI a k _ M_code M_keys M_edges M_thenKeys M_thenEdges M_configuration M_parts M_rings M_metSize M_asks M_backs 0 v2 r69 e_69) (cwV 2 hts (og_gV tb_291 tb_292 tb_293 tb_259 tb_294) rfl rfl rfl (by decide +kernel) ⟨Nat.le_of_ble_eq_true rfl, Nat.le_of_ble_eq_true rfl⟩) hK hP hD hS hA [0, 3, 6] [2, 5] ⟨rfl, rfl, rfl, trivial⟩ rfl [(true, 0), (false, 1), (false, 2), (true, 1), (false, 4), (false, 5), (true, 2)] ⟨rfl, rfl, rfl, rfl, rfl, rfl, rfl, rfl, rfl, rfl, rfl, trivial⟩ ⟨rfl, rfl, rfl, rfl, rfl, rfl, rfl, trivial⟩ (by decide) rfl rfl rfl rfl hl.1 rfl (Nat.le_of_ble_eq_true rfl) d_M_tellRing_69 ⟨Nat.zero_le _, Nat.zero_le _⟩ (fun H locs hP hD hS => ?_)
      have k72_108 : ∀ (v3 : Int32) (M_backs : (Nat → Int32)) (H : Heap) (locs : List Loc) (ls : Array Slot), fM_tellRing_K72_108 M_asks M_rings M_ringSize M_ring v2 v3 M_backs = some y → va_P (dC, dI) vwCl (wM_tellRing a k M_code M_keys M_edges M_thenKeys M_thenEdges M_configuration M_parts M_rings M_metSize M_part M_shortest M_asks M_ringSize M_ring M_backs) H → va_D A (wM_tellRing a k M_code M_keys M_edges M_thenKeys M_thenEdges M_configuration M_parts M_rings M_metSize M_part M_shortest M_asks M_ringSize M_ring M_backs) → va_S A s.heap H locs → lv_has ls 7 [(0, .ref (a 0)), (2, .int v2), (3, .int v3)] → W p l e (headSpec ws_M_tellRing { frames := 2, cells := 0, slots := 0, locals := 47 }).room s m ([.ref (a 0), .int p1] : List Value).toArray below meth c H locs 0 0 (MQ below (og_Qv (dC, dI) (wM_tellRing a k M_code M_keys M_edges M_thenKeys M_thenEdges M_configuration M_parts y.1 M_metSize M_part M_shortest M_asks y.2.1 y.2.2.1 y.2.2.2) (tM_tellRing k) A) ([.ref (a 0), .int p1] : List Value).toArray s 0 0 A) (F0 m 108 ls []) := by
        intro v3 M_backs H locs ls hf hP hD hS hl
        rw [fM_tellRing_K72_108] at hf
        refine lv_iload_n hx hb d_M_tellRing_108 rfl (lv_at hl 2 rfl) ?_
        refine lv_istore (lv' := [(4, .int v3), (0, .ref (a 0)), (2, .int v2), (3, .int v3)]) hx hb d_M_tellRing_109 hl (by decide) rfl (fun ls hl => ?_)
        refine lv_iload_n hx hb d_M_tellRing_111 rfl (lv_at hl 2 rfl) ?_
        refine lv_istore (lv' := [(5, .int v2), (4, .int v3), (0, .ref (a 0)), (2, .int v2), (3, .int v3)]) hx hb d_M_tellRing_112 hl (by decide) rfl (fun ls hl => ?_)
        have k114_201 : ∀ (M_ring : (Nat → Int32)) (H : Heap) (locs : List Loc) (ls : Array Slot), fM_tellRing_K114_201 M_rings M_ringSize M_backs v2 M_ring = some y → va_P (dC, dI) vwCl (wM_tellRing a k M_code M_keys M_edges M_thenKeys M_thenEdges M_configuration M_parts M_rings M_metSize M_part M_shortest M_asks M_ringSize M_ring M_backs) H → va_D A (wM_tellRing a k M_code M_keys M_edges M_thenKeys M_thenEdges M_configuration M_parts M_rings M_metSize M_part M_shortest M_asks M_ringSize M_ring M_backs) → va_S A s.heap H locs → lv_has ls 7 [(0, .ref (a 0)), (2, .int v2)] → W p l e (headSpec ws_M_tellRing { frames := 2, cells := 0, slots := 0, locals := 47 }).room s m ([.ref (a 0), .int p1] : List Value).toArray below meth c H locs 0 0 (MQ below (og_Qv (dC, dI) (wM_tellRing a k M_code M_keys M_edges M_thenKeys M_thenEdges M_configuration M_parts y.1 M_metSize M_part M_shortest M_asks y.2.1 y.2.2.1 y.2.2.2) (tM_tellRing k) A) ([.ref (a 0), .int p1] : List Value).toArray s 0 0 A) (F0 m 201 ls []) := by
          intro M_ring H locs ls hf hP hD hS hl
          rw [fM_tellRing_K114_201] at hf
          refine lv_aload_n hx hb d_M_tellRing_201 rfl (lv_at hl 0 rfl) ?_
          refine vg_M_ringSize (v := .ref (a 15)) hx hb hts hown hK hP 0 rfl (hts _ tb_295) rfl d_M_tellRing_202 ?_
          refine lv_aload_n hx hb d_M_tellRing_205 rfl (lv_at hl 0 rfl) ?_
          refine vg_M_rings (v := .int M_rings) hx hb hts hown hK hP 0 rfl (hts _ tb_296) rfl d_M_tellRing_206 ?_
          refine lv_iload_n hx hb d_M_tellRing_209 rfl (lv_at hl 1 rfl) ?_
          obtain ⟨h_210, hf⟩ := og_ck_s hf
          refine va_iast hx hb hK hP hD hS 4 3 rfl rfl h_210 d_M_tellRing_210 (fun H locs hP hD hS => ?_)
          have hP : va_P (dC, dI) vwCl (wM_tellRing a k M_code M_keys M_edges M_thenKeys M_thenEdges M_configuration M_parts M_rings M_metSize M_part M_shortest M_asks (upd M_ringSize M_rings.toNatClampNeg v2) M_ring M_backs) H := hP
          have hD : va_D A (wM_tellRing a k M_code M_keys M_edges M_thenKeys M_thenEdges M_configuration M_parts M_rings M_metSize M_part M_shortest M_asks (upd M_ringSize M_rings.toNatClampNeg v2) M_ring M_backs) := hD
          refine lv_aload_n hx hb d_M_tellRing_211 rfl (lv_at hl 0 rfl) ?_
          refine lv_dup hx hb d_M_tellRing_212 rfl ?_
          refine vg_M_rings (v := .int M_rings) hx hb hts hown hK hP 0 rfl (hts _ tb_296) rfl d_M_tellRing_213 ?_
          refine lv_iconst (v := 1) hx hb d_M_tellRing_216 (by decide) ?_
          refine lv_iadd hx hb d_M_tellRing_217 ?_
          refine vs_M_rings (v := (M_rings + 1)) hx hb hts hown hK hP hD hS 0 rfl (hts _ tb_296) (Nat.le_of_ble_eq_true rfl) d_M_tellRing_218 (fun H locs hP hD hS => ?_)
          have hP : va_P (dC, dI) vwCl (wM_tellRing a k M_code M_keys M_edges M_thenKeys M_thenEdges M_configuration M_parts (M_rings + 1) M_metSize M_part M_shortest M_asks (upd M_ringSize M_rings.toNatClampNeg v2) M_ring M_backs) H := hP
          have hD : va_D A (wM_tellRing a k M_code M_keys M_edges M_thenKeys M_thenEdges M_configuration M_parts (M_rings + 1) M_metSize M_part M_shortest M_asks (upd M_ringSize M_rings.toNatClampNeg v2) M_ring M_backs) := hD
          obtain rfl := Option.some.inj hf
          exact W.vret hx hb hr (fun t ht hW => ⟨⟨(), rfl, trivial, by rw [ht]; exact hP, va_K.moved hW.alike hK, hD⟩, hS.F ht⟩) hS.2.2 d_M_tellRing_221
        have lp114 : ∀ (n114 : Nat) (v4 : Int32) (v5 : Int32) (M_ring : (Nat → Int32)) (H : Heap) (locs : List Loc) (ls : Array Slot), fM_tellRing_L114 (fM_tellRing_K114_201 M_rings M_ringSize M_backs v2) M_asks M_rings M_backs v2 v3 n114 v4 v5 M_ring = some y → va_P (dC, dI) vwCl (wM_tellRing a k M_code M_keys M_edges M_thenKeys M_thenEdges M_configuration M_parts M_rings M_metSize M_part M_shortest M_asks M_ringSize M_ring M_backs) H → va_D A (wM_tellRing a k M_code M_keys M_edges M_thenKeys M_thenEdges M_configuration M_parts M_rings M_metSize M_part M_shortest M_asks M_ringSize M_ring M_backs) → va_S A s.heap H locs → lv_has ls 7 [(0, .ref (a 0)), (2, .int v2), (3, .int v3), (4, .int v4), (5, .int v5)] → W p l e (headSpec ws_M_tellRing { frames := 2, cells := 0, slots := 0, locals := 47 }).room s m ([.ref (a 0), .int p1] : List Value).toArray below meth c H locs 0 0 (MQ below (og_Qv (dC, dI) (wM_tellRing a k M_code M_keys M_edges M_thenKeys M_thenEdges M_configuration M_parts y.1 M_metSize M_part M_shortest M_asks y.2.1 y.2.2.1 y.2.2.2) (tM_tellRing k) A) ([.ref (a 0), .int p1] : List Value).toArray s 0 0 A) (F0 m 114 ls []) := by
          intro n114
          induction n114 with
          | zero => intro v4 v5 M_ring H locs ls hf hP hD hS hl; rw [fM_tellRing_L114] at hf; cases hf
          | succ n114 ih114 =>
            intro v4 v5 M_ring H locs ls hf hP hD hS hl
            rw [fM_tellRing_L114] at hf
            refine lv_iload hx hb d_M_tellRing_114 (lv_at hl 4 rfl) ?_
            refine lv_if_le (tgt := 201) hx hb d_M_tellRing_116 (by decide) (fun c_116 => ?_) (fun c_116 => ?_)
            · have hf := og_t hf c_116
              exact k114_201 M_ring _ _ _ hf hP hD hS (lv_sub hl [0, 1] rfl)
            · have hf := og_f hf c_116
              refine lv_aload_n hx hb d_M_tellRing_119 rfl (lv_at hl 0 rfl) ?_
              refine vg_M_ring (v := .ref (a 16)) hx hb hts hown hK hP 0 rfl (hts _ tb_297) rfl d_M_tellRing_120 ?_
              refine lv_aload_n hx hb d_M_tellRing_123 rfl (lv_at hl 0 rfl) ?_
              refine vg_M_rings (v := .int M_rings) hx hb hts hown hK hP 0 rfl (hts _ tb_296) rfl d_M_tellRing_124 ?_
              refine lv_iload_n hx hb d_M_tellRing_127 rfl (lv_at hl 1 rfl) ?_
              refine lv_iload hx hb d_M_tellRing_128 (lv_at hl 4 rfl) ?_
              refine lv_isub hx hb d_M_tellRing_130 ?_
              obtain ⟨r131, e_131, hf⟩ := og_b hf
              refine og_rS (w := (wM_tellRing a k M_code M_keys M_edges M_thenKeys M_thenEdges M_configuration M_parts M_rings M_metSize M_part M_shortest M_asks M_ringSize M_ring M_backs)) (As := [.int M_rings, .int (v2 - v5)]) (rest := [.ref (a 16)]) ⟨hx, hb, hml, hown, hts⟩ (c_M_cell l dC dI a k M_rings (v2 - v5) r131 e_131) (va_cwS 2 hts (og_gS tb_273 tb_274 tb_259 tb_275) rfl rfl rfl (by decide +kernel) ⟨Nat.le_of_ble_eq_true rfl, Nat.le_of_ble_eq_true rfl⟩) hK hP [] [] trivial rfl rfl hl.1 rfl (Nat.le_of_ble_eq_true rfl) d_M_tellRing_131 ⟨Nat.zero_le _, Nat.zero_le _⟩ ?_
              refine lv_iload hx hb d_M_tellRing_134 (lv_at hl 3 rfl) ?_
              obtain ⟨h_136, hf⟩ := og_ck_s hf
              refine va_iast hx hb hK hP hD hS 5 4 rfl rfl h_136 d_M_tellRing_136 (fun H locs hP hD hS => ?_)
              have hP : va_P (dC, dI) vwCl (wM_tellRing a k M_code M_keys M_edges M_thenKeys M_thenEdges M_configuration M_parts M_rings M_metSize M_part M_shortest M_asks M_ringSize (upd M_ring r131.toNatClampNeg v4) M_backs) H := hP
              have hD : va_D A (wM_tellRing a k M_code M_keys M_edges M_thenKeys M_thenEdges M_configuration M_parts M_rings M_metSize M_part M_shortest M_asks M_ringSize (upd M_ring r131.toNatClampNeg v4) M_backs) := hD
              refine lv_iload_n hx hb d_M_tellRing_137 rfl (lv_at hl 2 rfl) ?_
              refine lv_istore (lv' := [(6, .int v3), (0, .ref (a 0)), (2, .int v2), (3, .int v3), (4, .int v4), (5, .int v5)]) hx hb d_M_tellRing_138 hl (by decide) rfl (fun ls hl => ?_)
              have k140_191 : ∀ (v6 : Int32) (H : Heap) (locs : List Loc) (ls : Array Slot), fM_tellRing_K140_191 (fun a0 a1 a2 => fM_tellRing_L114 (fM_tellRing_K114_201 M_rings M_ringSize M_backs v2) M_asks M_rings M_backs v2 v3 n114 a0 a1 a2) (upd M_ring r131.toNatClampNeg v4) v5 v6 = some y → va_P (dC, dI) vwCl (wM_tellRing a k M_code M_keys M_edges M_thenKeys M_thenEdges M_configuration M_parts M_rings M_metSize M_part M_shortest M_asks M_ringSize (upd M_ring r131.toNatClampNeg v4) M_backs) H → va_D A (wM_tellRing a k M_code M_keys M_edges M_thenKeys M_thenEdges M_configuration M_parts M_rings M_metSize M_part M_shortest M_asks M_ringSize (upd M_ring r131.toNatClampNeg v4) M_backs) → va_S A s.heap H locs → lv_has ls 7 [(0, .ref (a 0)), (2, .int v2), (3, .int v3), (5, .int v5), (6, .int v6)] → W p l e (headSpec ws_M_tellRing { frames := 2, cells := 0, slots := 0, locals := 47 }).room s m ([.ref (a 0), .int p1] : List Value).toArray below meth c H locs 0 0 (MQ below (og_Qv (dC, dI) (wM_tellRing a k M_code M_keys M_edges M_thenKeys M_thenEdges M_configuration M_parts y.1 M_metSize M_part M_shortest M_asks y.2.1 y.2.2.1 y.2.2.2) (tM_tellRing k) A) ([.ref (a 0), .int p1] : List Value).toArray s 0 0 A) (F0 m 191 ls []) := by
                intro v6 H locs ls hf hP hD hS hl
                rw [fM_tellRing_K140_191] at hf
                refine lv_iload hx hb d_M_tellRing_191 (lv_at hl 4 rfl) ?_
                refine lv_istore (lv' := [(4, .int v6), (0, .ref (a 0)), (2, .int v2), (3, .int v3), (5, .int v5), (6, .int v6)]) hx hb d_M_tellRing_193 hl (by decide) rfl (fun ls hl => ?_)
                refine lv_iinc (v := (v5 + (-1))) (lv' := [(5, .int (v5 + (-1))), (4, .int v6), (0, .ref (a 0)), (2, .int v2), (3, .int v3), (6, .int v6)]) hx hb d_M_tellRing_195 hl (k := 4) rfl rfl (by decide) rfl (fun ls hl => ?_)
                refine lv_goto (tgt := 114) hx hb d_M_tellRing_198 (by decide) ?_
                exact ih114 v6 (v5 + (-1)) (upd M_ring r131.toNatClampNeg v4) _ _ _ hf hP hD hS (lv_sub hl [2, 3, 4, 1, 0] rfl)
              have lp140 : ∀ (n140 : Nat) (v6 : Int32) (H : Heap) (locs : List Loc) (ls : Array Slot), fM_tellRing_L140 (fM_tellRing_K140_191 (fun a0 a1 a2 => fM_tellRing_L114 (fM_tellRing_K114_201 M_rings M_ringSize M_backs v2) M_asks M_rings M_backs v2 v3 n114 a0 a1 a2) (upd M_ring r131.toNatClampNeg v4) v5) M_asks M_backs v3 v4 v5 n140 v6 = some y → va_P (dC, dI) vwCl (wM_tellRing a k M_code M_keys M_edges M_thenKeys M_thenEdges M_configuration M_parts M_rings M_metSize M_part M_shortest M_asks M_ringSize (upd M_ring r131.toNatClampNeg v4) M_backs) H → va_D A (wM_tellRing a k M_code M_keys M_edges M_thenKeys M_thenEdges M_configuration M_parts M_rings M_metSize M_part M_shortest M_asks M_ringSize (upd M_ring r131.toNatClampNeg v4) M_backs) → va_S A s.heap H locs → lv_has ls 7 [(0, .ref (a 0)), (2, .int v2), (3, .int v3), (4, .int v4), (5, .int v5), (6, .int v6)] → W p l e (headSpec ws_M_tellRing { frames := 2, cells := 0, slots := 0, locals := 47 }).room s m ([.ref (a 0), .int p1] : List Value).toArray below meth c H locs 0 0 (MQ below (og_Qv (dC, dI) (wM_tellRing a k M_code M_keys M_edges M_thenKeys M_thenEdges M_configuration M_parts y.1 M_metSize M_part M_shortest M_asks y.2.1 y.2.2.1 y.2.2.2) (tM_tellRing k) A) ([.ref (a 0), .int p1] : List Value).toArray s 0 0 A) (F0 m 140 ls []) := by
                intro n140
                induction n140 with
                | zero => intro v6 H locs ls hf hP hD hS hl; rw [fM_tellRing_L140] at hf; cases hf
                | succ n140 ih140 =>
                  intro v6 H locs ls hf hP hD hS hl
                  rw [fM_tellRing_L140] at hf
                  refine lv_aload_n hx hb d_M_tellRing_140 rfl (lv_at hl 0 rfl) ?_
                  refine vg_M_asks (v := .ref (a 12)) hx hb hts hown hK hP 0 rfl (hts _ tb_282) rfl d_M_tellRing_141 ?_
                  refine lv_iload hx hb d_M_tellRing_144 (lv_at hl 3 rfl) ?_
                  refine lv_iload hx hb d_M_tellRing_146 (lv_at hl 5 rfl) ?_
                  obtain ⟨r148, e_148, hf⟩ := og_b hf
                  refine og_rS (w := (wM_tellRing a k M_code M_keys M_edges M_thenKeys M_thenEdges M_configuration M_parts M_rings M_metSize M_part M_shortest M_asks M_ringSize (upd M_ring r131.toNatClampNeg v4) M_backs)) (As := [.int v4, .int v6]) (rest := [.ref (a 12)]) ⟨hx, hb, hml, hown, hts⟩ (c_M_cell l dC dI a k v4 v6 r148 e_148) (va_cwS 2 hts (og_gS tb_273 tb_274 tb_259 tb_275) rfl rfl rfl (by decide +kernel) ⟨Nat.le_of_ble_eq_true rfl, Nat.le_of_ble_eq_true rfl⟩) hK hP [] [] trivial rfl rfl hl.1 rfl (Nat.le_of_ble_eq_true rfl) d_M_tellRing_148 ⟨Nat.zero_le _, Nat.zero_le _⟩ ?_
                  obtain ⟨h_151, hf⟩ := og_ck_s hf
                  refine va_zald hx hb hK hP 3 2 rfl rfl h_151 d_M_tellRing_151 ?_
                  refine lv_if_eq (tgt := 185) hx hb d_M_tellRing_152 (by decide) (fun c_152 => ?_) (fun c_152 => ?_)
                  · have hf := og_t hf c_152
                    refine lv_iinc (v := (v6 + 1)) (lv' := [(6, .int (v6 + 1)), (0, .ref (a 0)), (2, .int v2), (3, .int v3), (4, .int v4), (5, .int v5)]) hx hb d_M_tellRing_185 hl (k := 5) rfl rfl (by decide) rfl (fun ls hl => ?_)
                    refine lv_goto (tgt := 140) hx hb d_M_tellRing_188 (by decide) ?_
                    exact ih140 (v6 + 1) _ _ _ hf hP hD hS (lv_sub hl [1, 2, 3, 4, 5, 0] rfl)
                  · have hf := og_f hf c_152
                    refine lv_aload_n hx hb d_M_tellRing_155 rfl (lv_at hl 0 rfl) ?_
                    refine vg_M_backs (v := .ref (a 17)) hx hb hts hown hK hP 0 rfl (hts _ tb_290) rfl d_M_tellRing_156 ?_
                    refine lv_bipush (v := 40) hx hb d_M_tellRing_159 (by decide) ?_
                    refine lv_iload hx hb d_M_tellRing_161 (lv_at hl 4 rfl) ?_
                    refine lv_iconst (v := 1) hx hb d_M_tellRing_163 (by decide) ?_
                    refine lv_isub hx hb d_M_tellRing_164 ?_
                    refine lv_imul hx hb d_M_tellRing_165 ?_
                    refine lv_iload hx hb d_M_tellRing_166 (lv_at hl 5 rfl) ?_
                    refine lv_iadd hx hb d_M_tellRing_168 ?_
                    obtain ⟨h_169, hf⟩ := og_ck_s hf
                    refine va_zald hx hb hK hP 6 5 rfl rfl h_169 d_M_tellRing_169 ?_
                    refine lv_if_eq (tgt := 185) hx hb d_M_tellRing_170 (by decide) (fun c_170 => ?_) (fun c_170 => ?_)
                    · have hf := og_t hf c_170
                      refine lv_iinc (v := (v6 + 1)) (lv' := [(6, .int (v6 + 1)), (0, .ref (a 0)), (2, .int v2), (3, .int v3), (4, .int v4), (5, .int v5)]) hx hb d_M_tellRing_185 hl (k := 5) rfl rfl (by decide) rfl (fun ls hl => ?_)
                      refine lv_goto (tgt := 140) hx hb d_M_tellRing_188 (by decide) ?_
                      exact ih140 (v6 + 1) _ _ _ hf hP hD hS (lv_sub hl [1, 2, 3, 4, 5, 0] rfl)
                    · have hf := og_f hf c_170
                      refine lv_iload hx hb d_M_tellRing_173 (lv_at hl 5 rfl) ?_
                      refine lv_iload_n hx hb d_M_tellRing_175 rfl (lv_at hl 2 rfl) ?_
                      refine lv_icmp_ne (tgt := 191) hx hb d_M_tellRing_176 (by decide) (fun c_176 => ?_) (fun c_176 => ?_)
                      · have hf := og_f hf c_176
                        exact k140_191 v6 _ _ _ hf hP hD hS (lv_sub hl [0, 1, 2, 4, 5] rfl)
                      · have hf := og_t hf c_176
                        refine lv_iload hx hb d_M_tellRing_179 (lv_at hl 4 rfl) ?_
                        refine lv_iconst (v := 1) hx hb d_M_tellRing_181 (by decide) ?_
                        refine lv_icmp_le (tgt := 191) hx hb d_M_tellRing_182 (by decide) (fun c_182 => ?_) (fun c_182 => ?_)
                        · have hf := og_t hf c_182
                          exact k140_191 v6 _ _ _ hf hP hD hS (lv_sub hl [0, 1, 2, 4, 5] rfl)
                        · have hf := og_f hf c_182
                          refine lv_iinc (v := (v6 + 1)) (lv' := [(6, .int (v6 + 1)), (0, .ref (a 0)), (2, .int v2), (3, .int v3), (4, .int v4), (5, .int v5)]) hx hb d_M_tellRing_185 hl (k := 5) rfl rfl (by decide) rfl (fun ls hl => ?_)
                          refine lv_goto (tgt := 140) hx hb d_M_tellRing_188 (by decide) ?_
                          exact ih140 (v6 + 1) _ _ _ hf hP hD hS (lv_sub hl [1, 2, 3, 4, 5, 0] rfl)
              exact lp140 FU v3 _ _ _ hf hP hD hS (lv_sub hl [1, 2, 3, 4, 5, 0] rfl)
        exact lp114 FU v3 v2 M_ring _ _ _ hf hP hD hS (lv_sub hl [2, 3, 4, 1, 0] rfl)
      have lp72 : ∀ (n72 : Nat) (v3 : Int32) (M_backs : (Nat → Int32)) (H : Heap) (locs : List Loc) (ls : Array Slot), fM_tellRing_L72 (fM_tellRing_K72_108 M_asks M_rings M_ringSize M_ring v2) M_thenKeys M_part M_asks p1 v2 n72 v3 M_backs = some y → va_P (dC, dI) vwCl (wM_tellRing a k M_code M_keys M_edges M_thenKeys M_thenEdges M_configuration M_parts M_rings M_metSize M_part M_shortest M_asks M_ringSize M_ring M_backs) H → va_D A (wM_tellRing a k M_code M_keys M_edges M_thenKeys M_thenEdges M_configuration M_parts M_rings M_metSize M_part M_shortest M_asks M_ringSize M_ring M_backs) → va_S A s.heap H locs → lv_has ls 7 [(0, .ref (a 0)), (1, .int p1), (2, .int v2), (3, .int v3)] → W p l e (headSpec ws_M_tellRing { frames := 2, cells := 0, slots := 0, locals := 47 }).room s m ([.ref (a 0), .int p1] : List Value).toArray below meth c H locs 0 0 (MQ below (og_Qv (dC, dI) (wM_tellRing a k M_code M_keys M_edges M_thenKeys M_thenEdges M_configuration M_parts y.1 M_metSize M_part M_shortest M_asks y.2.1 y.2.2.1 y.2.2.2) (tM_tellRing k) A) ([.ref (a 0), .int p1] : List Value).toArray s 0 0 A) (F0 m 72 ls []) := by
        intro n72
        induction n72 with
        | zero => intro v3 M_backs H locs ls hf hP hD hS hl; rw [fM_tellRing_L72] at hf; cases hf
        | succ n72 ih72 =>
          intro v3 M_backs H locs ls hf hP hD hS hl
          rw [fM_tellRing_L72] at hf
          refine lv_aload_n hx hb d_M_tellRing_72 rfl (lv_at hl 0 rfl) ?_
          refine vg_M_part (v := .ref (a 10)) hx hb hts hown hK hP 0 rfl (hts _ tb_284) rfl d_M_tellRing_73 ?_
          refine lv_iload_n hx hb d_M_tellRing_76 rfl (lv_at hl 3 rfl) ?_
          obtain ⟨h_77, hf⟩ := og_ck_s hf
          refine va_iald hx hb hK hP 1 0 rfl rfl h_77 d_M_tellRing_77 ?_
          refine lv_iload_n hx hb d_M_tellRing_78 rfl (lv_at hl 1 rfl) ?_
          refine lv_icmp_ne (tgt := 96) hx hb d_M_tellRing_79 (by decide) (fun c_79 => ?_) (fun c_79 => ?_)
          · have hf := og_f hf c_79
            refine lv_iinc (v := (v3 + 1)) (lv' := [(3, .int (v3 + 1)), (0, .ref (a 0)), (1, .int p1), (2, .int v2)]) hx hb d_M_tellRing_96 hl (k := 3) rfl rfl (by decide) rfl (fun ls hl => ?_)
            refine lv_aload_n hx hb d_M_tellRing_99 rfl (lv_at hl 1 rfl) ?_
            refine lv_iload_n hx hb d_M_tellRing_100 rfl (lv_at hl 0 rfl) ?_
            refine lv_iload_n hx hb d_M_tellRing_101 rfl (lv_at hl 3 rfl) ?_
            obtain ⟨r102, e_102, hf⟩ := og_b hf
            refine og_wVv (w := (wM_tellRing a k M_code M_keys M_edges M_thenKeys M_thenEdges M_configuration M_parts M_rings M_metSize M_part M_shortest M_asks M_ringSize M_ring M_backs)) (w2 := (wM_tellRing a k M_code M_keys M_edges M_thenKeys M_thenEdges M_configuration M_parts M_rings M_metSize M_part M_shortest M_asks M_ringSize M_ring r102)) (As := [.int (v3 + 1), .int v2]) (rest := []) (ci := 6) (q0 := 0) ⟨hx, hb, hml, hown, hts⟩ (c_M_lead l dC dI a k _ M_code M_keys M_edges M_thenKeys M_thenEdges M_configuration M_parts M_rings M_metSize M_asks M_backs (v3 + 1) v2 r102 e_102) (cwV 2 hts (og_gV tb_291 tb_292 tb_293 tb_259 tb_294) rfl rfl rfl (by decide +kernel) ⟨Nat.le_of_ble_eq_true rfl, Nat.le_of_ble_eq_true rfl⟩) hK hP hD hS hA [0, 3, 6] [2, 5] ⟨rfl, rfl, rfl, trivial⟩ rfl [(true, 0), (false, 1), (false, 2), (true, 1), (false, 4), (false, 5), (true, 2)] ⟨rfl, rfl, rfl, rfl, rfl, rfl, rfl, rfl, rfl, rfl, rfl, trivial⟩ ⟨rfl, rfl, rfl, rfl, rfl, rfl, rfl, trivial⟩ (by decide) rfl rfl rfl rfl hl.1 rfl (Nat.le_of_ble_eq_true rfl) d_M_tellRing_102 ⟨Nat.zero_le _, Nat.zero_le _⟩ (fun H locs hP hD hS => ?_)
            refine lv_goto (tgt := 72) hx hb d_M_tellRing_105 (by decide) ?_
            exact ih72 (v3 + 1) r102 _ _ _ hf hP hD hS (lv_sub hl [1, 2, 3, 0] rfl)
          · have hf := og_t hf c_79
            refine lv_aload_n hx hb d_M_tellRing_82 rfl (lv_at hl 0 rfl) ?_
            refine vg_M_backs (v := .ref (a 17)) hx hb hts hown hK hP 0 rfl (hts _ tb_290) rfl d_M_tellRing_83 ?_
            refine lv_bipush (v := 40) hx hb d_M_tellRing_86 (by decide) ?_
            refine lv_iload_n hx hb d_M_tellRing_88 rfl (lv_at hl 2 rfl) ?_
            refine lv_imul hx hb d_M_tellRing_89 ?_
            refine lv_iload_n hx hb d_M_tellRing_90 rfl (lv_at hl 3 rfl) ?_
            refine lv_iadd hx hb d_M_tellRing_91 ?_
            obtain ⟨h_92, hf⟩ := og_ck_s hf
            refine va_zald hx hb hK hP 6 5 rfl rfl h_92 d_M_tellRing_92 ?_
            refine lv_if_ne (tgt := 108) hx hb d_M_tellRing_93 (by decide) (fun c_93 => ?_) (fun c_93 => ?_)
            · have hf := og_f hf c_93
              exact k72_108 v3 M_backs _ _ _ hf hP hD hS (lv_sub hl [0, 2, 3] rfl)
            · have hf := og_t hf c_93
              refine lv_iinc (v := (v3 + 1)) (lv' := [(3, .int (v3 + 1)), (0, .ref (a 0)), (1, .int p1), (2, .int v2)]) hx hb d_M_tellRing_96 hl (k := 3) rfl rfl (by decide) rfl (fun ls hl => ?_)
              refine lv_aload_n hx hb d_M_tellRing_99 rfl (lv_at hl 1 rfl) ?_
              refine lv_iload_n hx hb d_M_tellRing_100 rfl (lv_at hl 0 rfl) ?_
              refine lv_iload_n hx hb d_M_tellRing_101 rfl (lv_at hl 3 rfl) ?_
              obtain ⟨r102, e_102, hf⟩ := og_b hf
              refine og_wVv (w := (wM_tellRing a k M_code M_keys M_edges M_thenKeys M_thenEdges M_configuration M_parts M_rings M_metSize M_part M_shortest M_asks M_ringSize M_ring M_backs)) (w2 := (wM_tellRing a k M_code M_keys M_edges M_thenKeys M_thenEdges M_configuration M_parts M_rings M_metSize M_part M_shortest M_asks M_ringSize M_ring r102)) (As := [.int (v3 + 1), .int v2]) (rest := []) (ci := 6) (q0 := 0) ⟨hx, hb, hml, hown, hts⟩ (c_M_lead l dC dI a k _ M_code M_keys M_edges M_thenKeys M_thenEdges M_configuration M_parts M_rings M_metSize M_asks M_backs (v3 + 1) v2 r102 e_102) (cwV 2 hts (og_gV tb_291 tb_292 tb_293 tb_259 tb_294) rfl rfl rfl (by decide +kernel) ⟨Nat.le_of_ble_eq_true rfl, Nat.le_of_ble_eq_true rfl⟩) hK hP hD hS hA [0, 3, 6] [2, 5] ⟨rfl, rfl, rfl, trivial⟩ rfl [(true, 0), (false, 1), (false, 2), (true, 1), (false, 4), (false, 5), (true, 2)] ⟨rfl, rfl, rfl, rfl, rfl, rfl, rfl, rfl, rfl, rfl, rfl, trivial⟩ ⟨rfl, rfl, rfl, rfl, rfl, rfl, rfl, trivial⟩ (by decide) rfl rfl rfl rfl hl.1 rfl (Nat.le_of_ble_eq_true rfl) d_M_tellRing_102 ⟨Nat.zero_le _, Nat.zero_le _⟩ (fun H locs hP hD hS => ?_)
              refine lv_goto (tgt := 72) hx hb d_M_tellRing_105 (by decide) ?_
              exact ih72 (v3 + 1) r102 _ _ _ hf hP hD hS (lv_sub hl [1, 2, 3, 0] rfl)
      exact lp72 FU 0 r69 _ _ _ hf hP hD hS (lv_sub hl [1, 2, 3, 0] rfl)
    · have hf := og_t hf c_60
      obtain rfl := Option.some.inj hf
      exact W.vret hx hb hr (fun t ht hW => ⟨⟨(), rfl, trivial, by rw [ht]; exact hP, va_K.moved hW.alike hK, hD⟩, hS.F ht⟩) hS.2.2 d_M_tellRing_63
  have lp6 : ∀ (n6 : Nat) (v2 : Int32) (v3 : Int32) (H : Heap) (locs : List Loc) (ls : Array Slot), fM_tellRing_L6 (fM_tellRing_K6_56 M_thenKeys M_part M_asks M_rings M_ringSize M_ring M_backs p1) M_thenKeys M_part M_shortest p1 n6 v2 v3 = some y → va_P (dC, dI) vwCl (wM_tellRing a k M_code M_keys M_edges M_thenKeys M_thenEdges M_configuration M_parts M_rings M_metSize M_part M_shortest M_asks M_ringSize M_ring M_backs) H → va_D A (wM_tellRing a k M_code M_keys M_edges M_thenKeys M_thenEdges M_configuration M_parts M_rings M_metSize M_part M_shortest M_asks M_ringSize M_ring M_backs) → va_S A s.heap H locs → lv_has ls 7 [(0, .ref (a 0)), (1, .int p1), (2, .int v2), (3, .int v3)] → W p l e (headSpec ws_M_tellRing { frames := 2, cells := 0, slots := 0, locals := 47 }).room s m ([.ref (a 0), .int p1] : List Value).toArray below meth c H locs 0 0 (MQ below (og_Qv (dC, dI) (wM_tellRing a k M_code M_keys M_edges M_thenKeys M_thenEdges M_configuration M_parts y.1 M_metSize M_part M_shortest M_asks y.2.1 y.2.2.1 y.2.2.2) (tM_tellRing k) A) ([.ref (a 0), .int p1] : List Value).toArray s 0 0 A) (F0 m 6 ls []) := by
    intro n6
    induction n6 with
    | zero => intro v2 v3 H locs ls hf hP hD hS hl; rw [fM_tellRing_L6] at hf; cases hf
    | succ n6 ih6 =>
      intro v2 v3 H locs ls hf hP hD hS hl
      rw [fM_tellRing_L6] at hf
      refine lv_iload_n hx hb d_M_tellRing_6 rfl (lv_at hl 3 rfl) ?_
      refine lv_aload_n hx hb d_M_tellRing_7 rfl (lv_at hl 0 rfl) ?_
      refine vg_M_thenKeys (v := .int M_thenKeys) hx hb hts hown hK hP 0 rfl (hts _ tb_272) rfl d_M_tellRing_8 ?_
      refine lv_icmp_ge (tgt := 56) hx hb d_M_tellRing_11 (by decide) (fun c_11 => ?_) (fun c_11 => ?_)
      · have hf := og_t hf c_11
        exact k6_56 v2 _ _ _ hf hP hD hS (lv_sub hl [0, 1, 2] rfl)
      · have hf := og_f hf c_11
        refine lv_aload_n hx hb d_M_tellRing_14 rfl (lv_at hl 0 rfl) ?_
        refine vg_M_part (v := .ref (a 10)) hx hb hts hown hK hP 0 rfl (hts _ tb_284) rfl d_M_tellRing_15 ?_
        refine lv_iload_n hx hb d_M_tellRing_18 rfl (lv_at hl 3 rfl) ?_
        obtain ⟨h_19, hf⟩ := og_ck_s hf
        refine va_iald hx hb hK hP 1 0 rfl rfl h_19 d_M_tellRing_19 ?_
        refine lv_iload_n hx hb d_M_tellRing_20 rfl (lv_at hl 1 rfl) ?_
        refine lv_icmp_ne (tgt := 50) hx hb d_M_tellRing_21 (by decide) (fun c_21 => ?_) (fun c_21 => ?_)
        · have hf := og_f hf c_21
          refine lv_iinc (v := (v3 + 1)) (lv' := [(3, .int (v3 + 1)), (0, .ref (a 0)), (1, .int p1), (2, .int v2)]) hx hb d_M_tellRing_50 hl (k := 3) rfl rfl (by decide) rfl (fun ls hl => ?_)
          refine lv_goto (tgt := 6) hx hb d_M_tellRing_53 (by decide) ?_
          exact ih6 v2 (v3 + 1) _ _ _ hf hP hD hS (lv_sub hl [1, 2, 3, 0] rfl)
        · have hf := og_t hf c_21
          refine lv_aload_n hx hb d_M_tellRing_24 rfl (lv_at hl 0 rfl) ?_
          refine vg_M_shortest (v := .ref (a 11)) hx hb hts hown hK hP 0 rfl (hts _ tb_285) rfl d_M_tellRing_25 ?_
          refine lv_iload_n hx hb d_M_tellRing_28 rfl (lv_at hl 3 rfl) ?_
          obtain ⟨h_29, hf⟩ := og_ck_s hf
          refine va_iald hx hb hK hP 2 1 rfl rfl h_29 d_M_tellRing_29 ?_
          refine lv_if_le (tgt := 50) hx hb d_M_tellRing_30 (by decide) (fun c_30 => ?_) (fun c_30 => ?_)
          · have hf := og_t hf c_30
            refine lv_iinc (v := (v3 + 1)) (lv' := [(3, .int (v3 + 1)), (0, .ref (a 0)), (1, .int p1), (2, .int v2)]) hx hb d_M_tellRing_50 hl (k := 3) rfl rfl (by decide) rfl (fun ls hl => ?_)
            refine lv_goto (tgt := 6) hx hb d_M_tellRing_53 (by decide) ?_
            exact ih6 v2 (v3 + 1) _ _ _ hf hP hD hS (lv_sub hl [1, 2, 3, 0] rfl)
          · have hf := og_f hf c_30
            refine lv_aload_n hx hb d_M_tellRing_33 rfl (lv_at hl 0 rfl) ?_
            refine vg_M_shortest (v := .ref (a 11)) hx hb hts hown hK hP 0 rfl (hts _ tb_285) rfl d_M_tellRing_34 ?_
            refine lv_iload_n hx hb d_M_tellRing_37 rfl (lv_at hl 3 rfl) ?_
            obtain ⟨h_38, hf⟩ := og_ck_s hf
            refine va_iald hx hb hK hP 2 1 rfl rfl h_38 d_M_tellRing_38 ?_
            refine lv_iload_n hx hb d_M_tellRing_39 rfl (lv_at hl 2 rfl) ?_
            refine lv_icmp_ge (tgt := 50) hx hb d_M_tellRing_40 (by decide) (fun c_40 => ?_) (fun c_40 => ?_)
            · have hf := og_t hf c_40
              refine lv_iinc (v := (v3 + 1)) (lv' := [(3, .int (v3 + 1)), (0, .ref (a 0)), (1, .int p1), (2, .int v2)]) hx hb d_M_tellRing_50 hl (k := 3) rfl rfl (by decide) rfl (fun ls hl => ?_)
              refine lv_goto (tgt := 6) hx hb d_M_tellRing_53 (by decide) ?_
              exact ih6 v2 (v3 + 1) _ _ _ hf hP hD hS (lv_sub hl [1, 2, 3, 0] rfl)
            · have hf := og_f hf c_40
              refine lv_aload_n hx hb d_M_tellRing_43 rfl (lv_at hl 0 rfl) ?_
              refine vg_M_shortest (v := .ref (a 11)) hx hb hts hown hK hP 0 rfl (hts _ tb_285) rfl d_M_tellRing_44 ?_
              refine lv_iload_n hx hb d_M_tellRing_47 rfl (lv_at hl 3 rfl) ?_
              obtain ⟨h_48, hf⟩ := og_ck_s hf
              refine va_iald hx hb hK hP 2 1 rfl rfl h_48 d_M_tellRing_48 ?_
              refine lv_istore_n (lv' := [(2, .int (M_shortest v3.toNatClampNeg)), (0, .ref (a 0)), (1, .int p1), (3, .int v3)]) hx hb d_M_tellRing_49 rfl hl (by decide) rfl (fun ls hl => ?_)
              refine lv_iinc (v := (v3 + 1)) (lv' := [(3, .int (v3 + 1)), (2, .int (M_shortest v3.toNatClampNeg)), (0, .ref (a 0)), (1, .int p1)]) hx hb d_M_tellRing_50 hl (k := 3) rfl rfl (by decide) rfl (fun ls hl => ?_)
              refine lv_goto (tgt := 6) hx hb d_M_tellRing_53 (by decide) ?_
              exact ih6 (M_shortest v3.toNatClampNeg) (v3 + 1) _ _ _ hf hP hD hS (lv_sub hl [2, 3, 1, 0] rfl)
  exact lp6 FU 1000 0 _ _ _ hf hP hD hS (lv_sub hl [2, 3, 1, 0] rfl)
