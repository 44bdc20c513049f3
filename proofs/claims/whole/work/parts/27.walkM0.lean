def wM_isKey (a : Nat → Nat) (k : Nat → ClassId) (M_code : Int32) (M_keys : Int32) (M_edges : Int32) (M_thenKeys : Int32) (M_thenEdges : Int32) (M_configuration : Int32) (M_parts : Int32) (M_rings : Int32) (M_metSize : Int32) : va_W := [(a 0, .inr (6, [.int M_code, .int M_keys, .int M_edges, .ref (a 1), .ref (a 2), .ref (a 3), .ref (a 4), .ref (a 5), .ref (a 6), .int M_thenKeys, .int M_thenEdges, .int M_configuration, .ref (a 7), .ref (a 8), .ref (a 9), .ref (a 10), .ref (a 11), .ref (a 12), .ref (a 13), .ref (a 14), .int M_parts, .int M_rings, .ref (a 15), .ref (a 16), .ref (a 17), .int M_metSize, .ref (a 18), .ref (a 19), .ref (a 20)]))]
def tM_isKey (k : Nat → ClassId) : List (ClassId × FieldType) := []
set_option maxHeartbeats 4000000 in
set_option maxRecDepth 100000 in
theorem c_M_isKey (l : Launch) (dC : Nat → ClassId) (dI : Nat → Nat → Nat) (a : Nat → Nat) (k : Nat → ClassId) (M_code : Int32) (M_keys : Int32) (M_edges : Int32) (M_thenKeys : Int32) (M_thenEdges : Int32) (M_configuration : Int32) (M_parts : Int32) (M_rings : Int32) (M_metSize : Int32) (p1 : Int32) (y : Int32) (hf : fM_isKey M_keys p1 = some y) : Met l y_M_isKey ws_M_isKey ({ frames := 0, cells := 0, slots := 0, locals := 0 }) (og_Pr [.ref (a 0), .int p1] (dC, dI) (wM_isKey a k M_code M_keys M_edges M_thenKeys M_thenEdges M_configuration M_parts M_rings M_metSize) (tM_isKey k)) (vp_Si (fun x => x = y)) 0 0 (fun _ => False) := by
  refine Met.ofW (cc := b_M_isKey) (maxL := 2) (ret := (some .boolean)) (by decide) rfl ?_
  intro p e s m args below meth c s₁ B hml hv
  obtain ⟨rfl, hP, hK⟩ := hv
  have hx := B.exec
  have hb := B.bytes
  have hr := B.returns
  have hts0 := atoms_spec (ws := ws_M_isKey) B.pre
  have hts : ∀ w ∈ og_tb, w.before _ s = true := fun w h => hts0 w (List.mem_cons_of_mem _ h)
  have hown : s.vm.findClass R_M = some m.cls := findClass_of_methodNamed B.named
  have hlocks := B.notSynchronized
  have hl := lv_entry ([.ref (a 0), .int p1]) (n := 2) (Nat.le_of_ble_eq_true rfl)
  rw [lg_entry_eq]
  generalize (lg_sl ([.ref (a 0), .int p1]) ++ List.replicate (2 - (lg_sl ([.ref (a 0), .int p1])).length) Slot.unset).toArray = ls at hl ⊢
  have hl : lv_has ls 2 [(0, .ref (a 0)), (1, .int p1)] := hl
  rw [fM_isKey] at hf
  refine lv_iload_n hx hb d_M_isKey_0 rfl (lv_at hl 1 rfl) ?_
  refine lv_if_lt (tgt := 16) hx hb d_M_isKey_1 (by decide) (fun c_1 => ?_) (fun c_1 => ?_)
  · have hf := og_t hf c_1
    refine lv_iconst (v := 0) hx hb d_M_isKey_16 (by decide) ?_
    obtain rfl := Option.some.inj hf
    exact W.zret (v := 0) hx hb hr rfl (fun t ht hW => ⟨0, rfl, rfl, ht⟩) (fun _ h => absurd h List.not_mem_nil) d_M_isKey_17
  · have hf := og_f hf c_1
    refine lv_iload_n hx hb d_M_isKey_4 rfl (lv_at hl 1 rfl) ?_
    refine lv_aload_n hx hb d_M_isKey_5 rfl (lv_at hl 0 rfl) ?_
    refine vg_M_keys (v := .int M_keys) hx hb hts hown hK hP 0 rfl (hts _ tb_253) rfl d_M_isKey_6 ?_
    refine lv_icmp_ge (tgt := 16) hx hb d_M_isKey_9 (by decide) (fun c_9 => ?_) (fun c_9 => ?_)
    · have hf := og_t hf c_9
      refine lv_iconst (v := 0) hx hb d_M_isKey_16 (by decide) ?_
      obtain rfl := Option.some.inj hf
      exact W.zret (v := 0) hx hb hr rfl (fun t ht hW => ⟨0, rfl, rfl, ht⟩) (fun _ h => absurd h List.not_mem_nil) d_M_isKey_17
    · have hf := og_f hf c_9
      refine lv_iconst (v := 1) hx hb d_M_isKey_12 (by decide) ?_
      refine lv_goto (tgt := 17) hx hb d_M_isKey_13 (by decide) ?_
      obtain rfl := Option.some.inj hf
      exact W.zret (v := 1) hx hb hr rfl (fun t ht hW => ⟨1, rfl, rfl, ht⟩) (fun _ h => absurd h List.not_mem_nil) d_M_isKey_17
def wM_key (a : Nat → Nat) (k : Nat → ClassId) (M_code : Int32) (M_keys : Int32) (M_edges : Int32) (M_thenKeys : Int32) (M_thenEdges : Int32) (M_configuration : Int32) (M_parts : Int32) (M_rings : Int32) (M_metSize : Int32) (M_name : (Nat → Int32)) : va_W := [(a 0, .inr (6, [.int M_code, .int M_keys, .int M_edges, .ref (a 1), .ref (a 2), .ref (a 3), .ref (a 4), .ref (a 5), .ref (a 6), .int M_thenKeys, .int M_thenEdges, .int M_configuration, .ref (a 7), .ref (a 8), .ref (a 9), .ref (a 10), .ref (a 11), .ref (a 12), .ref (a 13), .ref (a 14), .int M_parts, .int M_rings, .ref (a 15), .ref (a 16), .ref (a 17), .int M_metSize, .ref (a 18), .ref (a 19), .ref (a 20)])), (a 1, .inl (k 1, 40, .inl M_name))]
def tM_key (k : Nat → ClassId) : List (ClassId × FieldType) := [(k 1, .int)]
set_option maxHeartbeats 4000000 in
set_option maxRecDepth 100000 in
theorem c_M_key (l : Launch) (dC : Nat → ClassId) (dI : Nat → Nat → Nat) (a : Nat → Nat) (k : Nat → ClassId) (sz : Nat) (M_code : Int32) (M_keys : Int32) (M_edges : Int32) (M_thenKeys : Int32) (M_thenEdges : Int32) (M_configuration : Int32) (M_parts : Int32) (M_rings : Int32) (M_metSize : Int32) (M_name : (Nat → Int32)) (p1 : Int32) (y : Int32 × Int32 × Int32 × (Nat → Int32)) (hf : fM_key M_code M_keys M_name p1 = some y) : Met l y_M_key ws_M_key ({ frames := 0, cells := 0, slots := 0, locals := 0 }) (og_Pw [.ref (a 0), .int p1] (dC, dI) (wM_key a k M_code M_keys M_edges M_thenKeys M_thenEdges M_configuration M_parts M_rings M_metSize M_name) (tM_key k) sz) (og_Qi (dC, dI) (wM_key a k y.2.1 y.2.2.1 M_edges M_thenKeys M_thenEdges M_configuration M_parts M_rings M_metSize y.2.2.2) (tM_key k) y.1 (va_A (wM_key a k M_code M_keys M_edges M_thenKeys M_thenEdges M_configuration M_parts M_rings M_metSize M_name) sz)) 0 0 (va_A (wM_key a k M_code M_keys M_edges M_thenKeys M_thenEdges M_configuration M_parts M_rings M_metSize M_name) sz) := by
  refine Met.ofW (cc := b_M_key) (maxL := 4) (ret := (some .int)) (by decide) rfl ?_
  intro p e s m args below meth c s₁ B hml hv
  obtain ⟨rfl, hsz, hP, hK, hD0⟩ := hv
  have hx := B.exec
  have hb := B.bytes
  have hr := B.returns
  have hts0 := atoms_spec (ws := ws_M_key) B.pre
  have hts : ∀ w ∈ og_tb, w.before _ s = true := fun w h => hts0 w (List.mem_cons_of_mem _ h)
  have hown : s.vm.findClass R_M = some m.cls := findClass_of_methodNamed B.named
  have hlocks := B.notSynchronized
  subst hsz
  have hD := hD0.self (sz := s.heap.size)
  generalize hAe : va_A (wM_key a k M_code M_keys M_edges M_thenKeys M_thenEdges M_configuration M_parts M_rings M_metSize M_name) s.heap.size = A at hD ⊢
  have hA : ∀ q : Nat, s.heap.size ≤ q → A q := fun q h => by rw [← hAe]; exact Or.inr h
  have hS : va_S A s.heap s.heap [] := va_S.rf
  have hl := lv_entry ([.ref (a 0), .int p1]) (n := 4) (Nat.le_of_ble_eq_true rfl)
  rw [lg_entry_eq]
  generalize (lg_sl ([.ref (a 0), .int p1]) ++ List.replicate (4 - (lg_sl ([.ref (a 0), .int p1])).length) Slot.unset).toArray = ls at hl ⊢
  have hl : lv_has ls 4 [(0, .ref (a 0)), (1, .int p1)] := hl
  rw [fM_key] at hf
  refine lv_aload_n hx hb d_M_key_0 rfl (lv_at hl 0 rfl) ?_
  refine lv_iconst (v := 0) hx hb d_M_key_1 (by decide) ?_
  refine vs_M_code (v := 0) hx hb hts hown hK hP hD hS 0 rfl (hts _ tb_254) (Nat.le_of_ble_eq_true rfl) d_M_key_2 (fun H locs hP hD hS => ?_)
  have hP : va_P (dC, dI) vwCl (wM_key a k 0 M_keys M_edges M_thenKeys M_thenEdges M_configuration M_parts M_rings M_metSize M_name) H := hP
  have hD : va_D A (wM_key a k 0 M_keys M_edges M_thenKeys M_thenEdges M_configuration M_parts M_rings M_metSize M_name) := hD
  refine lv_aload_n hx hb d_M_key_5 rfl (lv_at hl 0 rfl) ?_
  refine vg_M_keys (v := .int M_keys) hx hb hts hown hK hP 0 rfl (hts _ tb_253) rfl d_M_key_6 ?_
  refine lv_bipush (v := 40) hx hb d_M_key_9 (by decide) ?_
  have j19 : ∀ (s19_0 : Int32) (H : Heap) (locs : List Loc) (ls : Array Slot), fM_key_J19 0 M_keys M_name p1 s19_0 = some y → va_P (dC, dI) vwCl (wM_key a k 0 M_keys M_edges M_thenKeys M_thenEdges M_configuration M_parts M_rings M_metSize M_name) H → va_D A (wM_key a k 0 M_keys M_edges M_thenKeys M_thenEdges M_configuration M_parts M_rings M_metSize M_name) → va_S A s.heap H locs → lv_has ls 4 [(0, .ref (a 0)), (1, .int p1)] → W p l e (headSpec ws_M_key { frames := 0, cells := 0, slots := 0, locals := 0 }).room s m ([.ref (a 0), .int p1] : List Value).toArray below meth c H locs 0 0 (MQ below (og_Qi (dC, dI) (wM_key a k y.2.1 y.2.2.1 M_edges M_thenKeys M_thenEdges M_configuration M_parts M_rings M_metSize y.2.2.2) (tM_key k) y.1 A) ([.ref (a 0), .int p1] : List Value).toArray s 0 0 A) (F0 m 19 ls [.int s19_0]) := by
    intro s19_0 H locs ls hf hP hD hS hl
    rw [fM_key_J19] at hf
    refine lv_istore_n (lv' := [(2, .int s19_0), (0, .ref (a 0)), (1, .int p1)]) hx hb d_M_key_19 rfl hl (by decide) rfl (fun ls hl => ?_)
    refine lv_iconst (v := 0) hx hb d_M_key_20 (by decide) ?_
    refine lv_istore_n (lv' := [(3, .int 0), (2, .int s19_0), (0, .ref (a 0)), (1, .int p1)]) hx hb d_M_key_21 rfl hl (by decide) rfl (fun ls hl => ?_)
    have k22_56 : ∀ (v2 : Int32) (H : Heap) (locs : List Loc) (ls : Array Slot), fM_key_K22_56 0 M_keys M_name p1 v2 = some y → va_P (dC, dI) vwCl (wM_key a k 0 M_keys M_edges M_thenKeys M_thenEdges M_configuration M_parts M_rings M_metSize M_name) H → va_D A (wM_key a k 0 M_keys M_edges M_thenKeys M_thenEdges M_configuration M_parts M_rings M_metSize M_name) → va_S A s.heap H locs → lv_has ls 4 [(0, .ref (a 0)), (1, .int p1), (2, .int v2)] → W p l e (headSpec ws_M_key { frames := 0, cells := 0, slots := 0, locals := 0 }).room s m ([.ref (a 0), .int p1] : List Value).toArray below meth c H locs 0 0 (MQ below (og_Qi (dC, dI) (wM_key a k y.2.1 y.2.2.1 M_edges M_thenKeys M_thenEdges M_configuration M_parts M_rings M_metSize y.2.2.2) (tM_key k) y.1 A) ([.ref (a 0), .int p1] : List Value).toArray s 0 0 A) (F0 m 56 ls []) := by
      intro v2 H locs ls hf hP hD hS hl
      rw [fM_key_K22_56] at hf
      refine lv_iload_n hx hb d_M_key_56 rfl (lv_at hl 2 rfl) ?_
      refine lv_if_eq (tgt := 62) hx hb d_M_key_57 (by decide) (fun c_57 => ?_) (fun c_57 => ?_)
      · have hf := og_t hf c_57
        refine lv_aload_n hx hb d_M_key_62 rfl (lv_at hl 0 rfl) ?_
        refine vg_M_name (v := .ref (a 1)) hx hb hts hown hK hP 0 rfl (hts _ tb_255) rfl d_M_key_63 ?_
        refine lv_aload_n hx hb d_M_key_66 rfl (lv_at hl 0 rfl) ?_
        refine vg_M_keys (v := .int M_keys) hx hb hts hown hK hP 0 rfl (hts _ tb_253) rfl d_M_key_67 ?_
        refine lv_iload_n hx hb d_M_key_70 rfl (lv_at hl 1 rfl) ?_
        obtain ⟨h_71, hf⟩ := og_ck_s hf
        refine va_iast hx hb hK hP hD hS 1 0 rfl rfl h_71 d_M_key_71 (fun H locs hP hD hS => ?_)
        have hP : va_P (dC, dI) vwCl (wM_key a k 0 M_keys M_edges M_thenKeys M_thenEdges M_configuration M_parts M_rings M_metSize (upd M_name M_keys.toNatClampNeg p1)) H := hP
        have hD : va_D A (wM_key a k 0 M_keys M_edges M_thenKeys M_thenEdges M_configuration M_parts M_rings M_metSize (upd M_name M_keys.toNatClampNeg p1)) := hD
        refine lv_aload_n hx hb d_M_key_72 rfl (lv_at hl 0 rfl) ?_
        refine lv_dup hx hb d_M_key_73 rfl ?_
        refine vg_M_keys (v := .int M_keys) hx hb hts hown hK hP 0 rfl (hts _ tb_253) rfl d_M_key_74 ?_
        refine lv_iconst (v := 1) hx hb d_M_key_77 (by decide) ?_
        refine lv_iadd hx hb d_M_key_78 ?_
        refine vs_M_keys (v := (M_keys + 1)) hx hb hts hown hK hP hD hS 0 rfl (hts _ tb_253) (Nat.le_of_ble_eq_true rfl) d_M_key_79 (fun H locs hP hD hS => ?_)
        have hP : va_P (dC, dI) vwCl (wM_key a k 0 (M_keys + 1) M_edges M_thenKeys M_thenEdges M_configuration M_parts M_rings M_metSize (upd M_name M_keys.toNatClampNeg p1)) H := hP
        have hD : va_D A (wM_key a k 0 (M_keys + 1) M_edges M_thenKeys M_thenEdges M_configuration M_parts M_rings M_metSize (upd M_name M_keys.toNatClampNeg p1)) := hD
        refine lv_aload_n hx hb d_M_key_82 rfl (lv_at hl 0 rfl) ?_
        refine vg_M_keys (v := .int (M_keys + 1)) hx hb hts hown hK hP 0 rfl (hts _ tb_253) rfl d_M_key_83 ?_
        refine lv_iconst (v := 1) hx hb d_M_key_86 (by decide) ?_
        refine lv_isub hx hb d_M_key_87 ?_
        obtain rfl := Option.some.inj hf
        exact W.iret (v := ((M_keys + 1) - 1)) hx hb hr (fun t ht hW => ⟨⟨((M_keys + 1) - 1), (), rfl, rfl, by rw [ht]; exact hP, va_K.moved hW.alike hK, hD⟩, hS.F ht⟩) hS.2.2 d_M_key_88
      · have hf := og_f hf c_57
        refine lv_iconst (v := (-1)) hx hb d_M_key_60 (by decide) ?_
        obtain rfl := Option.some.inj hf
        exact W.iret (v := (-1)) hx hb hr (fun t ht hW => ⟨⟨(-1), (), rfl, rfl, by rw [ht]; exact hP, va_K.moved hW.alike hK, hD⟩, hS.F ht⟩) hS.2.2 d_M_key_61
    have lp22 : ∀ (n22 : Nat) (v2 : Int32) (v3 : Int32) (H : Heap) (locs : List Loc) (ls : Array Slot), fM_key_L22 (fM_key_K22_56 0 M_keys M_name p1) M_keys M_name p1 n22 v2 v3 = some y → va_P (dC, dI) vwCl (wM_key a k 0 M_keys M_edges M_thenKeys M_thenEdges M_configuration M_parts M_rings M_metSize M_name) H → va_D A (wM_key a k 0 M_keys M_edges M_thenKeys M_thenEdges M_configuration M_parts M_rings M_metSize M_name) → va_S A s.heap H locs → lv_has ls 4 [(0, .ref (a 0)), (1, .int p1), (2, .int v2), (3, .int v3)] → W p l e (headSpec ws_M_key { frames := 0, cells := 0, slots := 0, locals := 0 }).room s m ([.ref (a 0), .int p1] : List Value).toArray below meth c H locs 0 0 (MQ below (og_Qi (dC, dI) (wM_key a k y.2.1 y.2.2.1 M_edges M_thenKeys M_thenEdges M_configuration M_parts M_rings M_metSize y.2.2.2) (tM_key k) y.1 A) ([.ref (a 0), .int p1] : List Value).toArray s 0 0 A) (F0 m 22 ls []) := by
      intro n22
      induction n22 with
      | zero => intro v2 v3 H locs ls hf hP hD hS hl; rw [fM_key_L22] at hf; cases hf
      | succ n22 ih22 =>
        intro v2 v3 H locs ls hf hP hD hS hl
        rw [fM_key_L22] at hf
        refine lv_iload_n hx hb d_M_key_22 rfl (lv_at hl 3 rfl) ?_
        refine lv_aload_n hx hb d_M_key_23 rfl (lv_at hl 0 rfl) ?_
        refine vg_M_keys (v := .int M_keys) hx hb hts hown hK hP 0 rfl (hts _ tb_253) rfl d_M_key_24 ?_
        refine lv_icmp_ge (tgt := 56) hx hb d_M_key_27 (by decide) (fun c_27 => ?_) (fun c_27 => ?_)
        · have hf := og_t hf c_27
          exact k22_56 v2 _ _ _ hf hP hD hS (lv_sub hl [0, 1, 2] rfl)
        · have hf := og_f hf c_27
          refine lv_iload_n hx hb d_M_key_30 rfl (lv_at hl 2 rfl) ?_
          refine lv_if_ne (tgt := 44) hx hb d_M_key_31 (by decide) (fun c_31 => ?_) (fun c_31 => ?_)
          · have hf := og_f hf c_31
            refine lv_iconst (v := 1) hx hb d_M_key_44 (by decide) ?_
            refine lv_goto (tgt := 49) hx hb d_M_key_45 (by decide) ?_
            refine lv_istore_n (lv' := [(2, .int 1), (0, .ref (a 0)), (1, .int p1), (3, .int v3)]) hx hb d_M_key_49 rfl hl (by decide) rfl (fun ls hl => ?_)
            refine lv_iinc (v := (v3 + 1)) (lv' := [(3, .int (v3 + 1)), (2, .int 1), (0, .ref (a 0)), (1, .int p1)]) hx hb d_M_key_50 hl (k := 3) rfl rfl (by decide) rfl (fun ls hl => ?_)
            refine lv_goto (tgt := 22) hx hb d_M_key_53 (by decide) ?_
            exact ih22 1 (v3 + 1) _ _ _ hf hP hD hS (lv_sub hl [2, 3, 1, 0] rfl)
          · have hf := og_t hf c_31
            refine lv_aload_n hx hb d_M_key_34 rfl (lv_at hl 0 rfl) ?_
            refine vg_M_name (v := .ref (a 1)) hx hb hts hown hK hP 0 rfl (hts _ tb_255) rfl d_M_key_35 ?_
            refine lv_iload_n hx hb d_M_key_38 rfl (lv_at hl 3 rfl) ?_
            obtain ⟨h_39, hf⟩ := og_ck_s hf
            refine va_iald hx hb hK hP 1 0 rfl rfl h_39 d_M_key_39 ?_
            refine lv_iload_n hx hb d_M_key_40 rfl (lv_at hl 1 rfl) ?_
            refine lv_icmp_ne (tgt := 48) hx hb d_M_key_41 (by decide) (fun c_41 => ?_) (fun c_41 => ?_)
            · have hf := og_f hf c_41
              refine lv_iconst (v := 0) hx hb d_M_key_48 (by decide) ?_
              refine lv_istore_n (lv' := [(2, .int 0), (0, .ref (a 0)), (1, .int p1), (3, .int v3)]) hx hb d_M_key_49 rfl hl (by decide) rfl (fun ls hl => ?_)
              refine lv_iinc (v := (v3 + 1)) (lv' := [(3, .int (v3 + 1)), (2, .int 0), (0, .ref (a 0)), (1, .int p1)]) hx hb d_M_key_50 hl (k := 3) rfl rfl (by decide) rfl (fun ls hl => ?_)
              refine lv_goto (tgt := 22) hx hb d_M_key_53 (by decide) ?_
              exact ih22 0 (v3 + 1) _ _ _ hf hP hD hS (lv_sub hl [2, 3, 1, 0] rfl)
            · have hf := og_t hf c_41
              refine lv_iconst (v := 1) hx hb d_M_key_44 (by decide) ?_
              refine lv_goto (tgt := 49) hx hb d_M_key_45 (by decide) ?_
              refine lv_istore_n (lv' := [(2, .int 1), (0, .ref (a 0)), (1, .int p1), (3, .int v3)]) hx hb d_M_key_49 rfl hl (by decide) rfl (fun ls hl => ?_)
              refine lv_iinc (v := (v3 + 1)) (lv' := [(3, .int (v3 + 1)), (2, .int 1), (0, .ref (a 0)), (1, .int p1)]) hx hb d_M_key_50 hl (k := 3) rfl rfl (by decide) rfl (fun ls hl => ?_)
              refine lv_goto (tgt := 22) hx hb d_M_key_53 (by decide) ?_
              exact ih22 1 (v3 + 1) _ _ _ hf hP hD hS (lv_sub hl [2, 3, 1, 0] rfl)
    exact lp22 FU s19_0 0 _ _ _ hf hP hD hS (lv_sub hl [2, 3, 1, 0] rfl)
  refine lv_icmp_ne (tgt := 18) hx hb d_M_key_11 (by decide) (fun c_11 => ?_) (fun c_11 => ?_)
  · have hf := og_f hf c_11
    refine lv_iconst (v := 0) hx hb d_M_key_18 (by decide) ?_
    exact j19 0 _ _ _ hf hP hD hS (lv_sub hl [0, 1] rfl)
  · have hf := og_t hf c_11
    refine lv_iconst (v := 1) hx hb d_M_key_14 (by decide) ?_
    refine lv_goto (tgt := 19) hx hb d_M_key_15 (by decide) ?_
    exact j19 1 _ _ _ hf hP hD hS (lv_sub hl [0, 1] rfl)
def wM_edge (a : Nat → Nat) (k : Nat → ClassId) (M_code : Int32) (M_keys : Int32) (M_edges : Int32) (M_thenKeys : Int32) (M_thenEdges : Int32) (M_configuration : Int32) (M_parts : Int32) (M_rings : Int32) (M_metSize : Int32) (M_from : (Nat → Int32)) (M_to : (Nat → Int32)) (M_place : (Nat → Int32)) (M_bits : (Nat → Int32)) : va_W := [(a 0, .inr (6, [.int M_code, .int M_keys, .int M_edges, .ref (a 1), .ref (a 2), .ref (a 3), .ref (a 4), .ref (a 5), .ref (a 6), .int M_thenKeys, .int M_thenEdges, .int M_configuration, .ref (a 7), .ref (a 8), .ref (a 9), .ref (a 10), .ref (a 11), .ref (a 12), .ref (a 13), .ref (a 14), .int M_parts, .int M_rings, .ref (a 15), .ref (a 16), .ref (a 17), .int M_metSize, .ref (a 18), .ref (a 19), .ref (a 20)])), (a 2, .inl (k 2, 160, .inl M_from)), (a 3, .inl (k 3, 160, .inl M_to)), (a 4, .inl (k 4, 160, .inl M_place)), (a 5, .inl (k 5, 160, .inl M_bits))]
def tM_edge (k : Nat → ClassId) : List (ClassId × FieldType) := [(k 2, .int), (k 3, .int), (k 4, .int), (k 5, .int)]
set_option maxHeartbeats 4000000 in
set_option maxRecDepth 100000 in
theorem c_M_edge (l : Launch) (dC : Nat → ClassId) (dI : Nat → Nat → Nat) (a : Nat → Nat) (k : Nat → ClassId) (sz : Nat) (M_code : Int32) (M_keys : Int32) (M_edges : Int32) (M_thenKeys : Int32) (M_thenEdges : Int32) (M_configuration : Int32) (M_parts : Int32) (M_rings : Int32) (M_metSize : Int32) (M_from : (Nat → Int32)) (M_to : (Nat → Int32)) (M_place : (Nat → Int32)) (M_bits : (Nat → Int32)) (p1 : Int32) (p2 : Int32) (p3 : Int32) (p4 : Int32) (y : Int32 × Int32 × Int32 × (Nat → Int32) × (Nat → Int32) × (Nat → Int32) × (Nat → Int32)) (hf : fM_edge M_code M_keys M_edges M_from M_to M_place M_bits p1 p2 p3 p4 = some y) : Met l y_M_edge ws_M_edge ({ frames := 1, cells := 0, slots := 0, locals := 21 }) (og_Pw [.ref (a 0), .int p1, .int p2, .int p3, .int p4] (dC, dI) (wM_edge a k M_code M_keys M_edges M_thenKeys M_thenEdges M_configuration M_parts M_rings M_metSize M_from M_to M_place M_bits) (tM_edge k) sz) (og_Qi (dC, dI) (wM_edge a k y.2.1 M_keys y.2.2.1 M_thenKeys M_thenEdges M_configuration M_parts M_rings M_metSize y.2.2.2.1 y.2.2.2.2.1 y.2.2.2.2.2.1 y.2.2.2.2.2.2) (tM_edge k) y.1 (va_A (wM_edge a k M_code M_keys M_edges M_thenKeys M_thenEdges M_configuration M_parts M_rings M_metSize M_from M_to M_place M_bits) sz)) 0 0 (va_A (wM_edge a k M_code M_keys M_edges M_thenKeys M_thenEdges M_configuration M_parts M_rings M_metSize M_from M_to M_place M_bits) sz) := by
  refine Met.ofW (cc := b_M_edge) (maxL := 5) (ret := (some .int)) (by decide) rfl ?_
  intro p e s m args below meth c s₁ B hml hv
  obtain ⟨rfl, hsz, hP, hK, hD0⟩ := hv
  have hx := B.exec
  have hb := B.bytes
  have hr := B.returns
  have hts0 := atoms_spec (ws := ws_M_edge) B.pre
  have hts : ∀ w ∈ og_tb, w.before _ s = true := fun w h => hts0 w (List.mem_cons_of_mem _ h)
  have hown : s.vm.findClass R_M = some m.cls := findClass_of_methodNamed B.named
  have hlocks := B.notSynchronized
  subst hsz
  have hD := hD0.self (sz := s.heap.size)
  generalize hAe : va_A (wM_edge a k M_code M_keys M_edges M_thenKeys M_thenEdges M_configuration M_parts M_rings M_metSize M_from M_to M_place M_bits) s.heap.size = A at hD ⊢
  have hA : ∀ q : Nat, s.heap.size ≤ q → A q := fun q h => by rw [← hAe]; exact Or.inr h
  have hS : va_S A s.heap s.heap [] := va_S.rf
  have hl := lv_entry ([.ref (a 0), .int p1, .int p2, .int p3, .int p4]) (n := 5) (Nat.le_of_ble_eq_true rfl)
  rw [lg_entry_eq]
  generalize (lg_sl ([.ref (a 0), .int p1, .int p2, .int p3, .int p4]) ++ List.replicate (5 - (lg_sl ([.ref (a 0), .int p1, .int p2, .int p3, .int p4])).length) Slot.unset).toArray = ls at hl ⊢
  have hl : lv_has ls 5 [(0, .ref (a 0)), (1, .int p1), (2, .int p2), (3, .int p3), (4, .int p4)] := hl
  rw [fM_edge] at hf
  refine lv_aload_n hx hb d_M_edge_0 rfl (lv_at hl 0 rfl) ?_
  refine lv_iconst (v := 0) hx hb d_M_edge_1 (by decide) ?_
  refine vs_M_code (v := 0) hx hb hts hown hK hP hD hS 0 rfl (hts _ tb_254) (Nat.le_of_ble_eq_true rfl) d_M_edge_2 (fun H locs hP hD hS => ?_)
  have hP : va_P (dC, dI) vwCl (wM_edge a k 0 M_keys M_edges M_thenKeys M_thenEdges M_configuration M_parts M_rings M_metSize M_from M_to M_place M_bits) H := hP
  have hD : va_D A (wM_edge a k 0 M_keys M_edges M_thenKeys M_thenEdges M_configuration M_parts M_rings M_metSize M_from M_to M_place M_bits) := hD
  refine lv_aload_n hx hb d_M_edge_5 rfl (lv_at hl 0 rfl) ?_
  refine lv_iload_n hx hb d_M_edge_6 rfl (lv_at hl 1 rfl) ?_
  obtain ⟨r7, e_7, hf⟩ := og_b hf
  refine og_rV (w := (wM_edge a k 0 M_keys M_edges M_thenKeys M_thenEdges M_configuration M_parts M_rings M_metSize M_from M_to M_place M_bits)) (As := [.int p1]) (rest := []) (ci := 6) (q0 := 0) ⟨hx, hb, hml, hown, hts⟩ (c_M_isKey l dC dI a k 0 M_keys M_edges M_thenKeys M_thenEdges M_configuration M_parts M_rings M_metSize p1 r7 e_7) (cwV 1 hts (og_gV tb_256 tb_257 tb_258 tb_259 tb_260) rfl rfl rfl (by decide +kernel) ⟨Nat.le_of_ble_eq_true rfl, Nat.le_of_ble_eq_true rfl⟩) hK hP [0] [] ⟨rfl, trivial⟩ rfl rfl rfl rfl rfl hl.1 rfl (Nat.le_of_ble_eq_true rfl) d_M_edge_7 ⟨Nat.zero_le _, Nat.zero_le _⟩ ?_
  refine lv_if_eq (tgt := 31) hx hb d_M_edge_10 (by decide) (fun c_10 => ?_) (fun c_10 => ?_)
  · have hf := og_t hf c_10
    refine lv_iconst (v := (-1)) hx hb d_M_edge_31 (by decide) ?_
    obtain rfl := Option.some.inj hf
    exact W.iret (v := (-1)) hx hb hr (fun t ht hW => ⟨⟨(-1), (), rfl, rfl, by rw [ht]; exact hP, va_K.moved hW.alike hK, hD⟩, hS.F ht⟩) hS.2.2 d_M_edge_32
  · have hf := og_f hf c_10
    refine lv_aload_n hx hb d_M_edge_13 rfl (lv_at hl 0 rfl) ?_
    refine lv_iload_n hx hb d_M_edge_14 rfl (lv_at hl 2 rfl) ?_
    obtain ⟨r15, e_15, hf⟩ := og_b hf
    refine og_rV (w := (wM_edge a k 0 M_keys M_edges M_thenKeys M_thenEdges M_configuration M_parts M_rings M_metSize M_from M_to M_place M_bits)) (As := [.int p2]) (rest := []) (ci := 6) (q0 := 0) ⟨hx, hb, hml, hown, hts⟩ (c_M_isKey l dC dI a k 0 M_keys M_edges M_thenKeys M_thenEdges M_configuration M_parts M_rings M_metSize p2 r15 e_15) (cwV 1 hts (og_gV tb_256 tb_257 tb_258 tb_259 tb_260) rfl rfl rfl (by decide +kernel) ⟨Nat.le_of_ble_eq_true rfl, Nat.le_of_ble_eq_true rfl⟩) hK hP [0] [] ⟨rfl, trivial⟩ rfl rfl rfl rfl rfl hl.1 rfl (Nat.le_of_ble_eq_true rfl) d_M_edge_15 ⟨Nat.zero_le _, Nat.zero_le _⟩ ?_
    refine lv_if_eq (tgt := 31) hx hb d_M_edge_18 (by decide) (fun c_18 => ?_) (fun c_18 => ?_)
    · have hf := og_t hf c_18
      refine lv_iconst (v := (-1)) hx hb d_M_edge_31 (by decide) ?_
      obtain rfl := Option.some.inj hf
      exact W.iret (v := (-1)) hx hb hr (fun t ht hW => ⟨⟨(-1), (), rfl, rfl, by rw [ht]; exact hP, va_K.moved hW.alike hK, hD⟩, hS.F ht⟩) hS.2.2 d_M_edge_32
    · have hf := og_f hf c_18
      refine lv_aload_n hx hb d_M_edge_21 rfl (lv_at hl 0 rfl) ?_
      refine vg_M_edges (v := .int M_edges) hx hb hts hown hK hP 0 rfl (hts _ tb_261) rfl d_M_edge_22 ?_
      refine lv_sipush (v := 160) hx hb d_M_edge_25 (by decide) ?_
      refine lv_icmp_ne (tgt := 33) hx hb d_M_edge_28 (by decide) (fun c_28 => ?_) (fun c_28 => ?_)
      · have hf := og_f hf c_28
        refine lv_aload_n hx hb d_M_edge_33 rfl (lv_at hl 0 rfl) ?_
        refine vg_M_from (v := .ref (a 2)) hx hb hts hown hK hP 0 rfl (hts _ tb_262) rfl d_M_edge_34 ?_
        refine lv_aload_n hx hb d_M_edge_37 rfl (lv_at hl 0 rfl) ?_
        refine vg_M_edges (v := .int M_edges) hx hb hts hown hK hP 0 rfl (hts _ tb_261) rfl d_M_edge_38 ?_
        refine lv_iload_n hx hb d_M_edge_41 rfl (lv_at hl 1 rfl) ?_
        obtain ⟨h_42, hf⟩ := og_ck_s hf
        refine va_iast hx hb hK hP hD hS 1 0 rfl rfl h_42 d_M_edge_42 (fun H locs hP hD hS => ?_)
        have hP : va_P (dC, dI) vwCl (wM_edge a k 0 M_keys M_edges M_thenKeys M_thenEdges M_configuration M_parts M_rings M_metSize (upd M_from M_edges.toNatClampNeg p1) M_to M_place M_bits) H := hP
        have hD : va_D A (wM_edge a k 0 M_keys M_edges M_thenKeys M_thenEdges M_configuration M_parts M_rings M_metSize (upd M_from M_edges.toNatClampNeg p1) M_to M_place M_bits) := hD
        refine lv_aload_n hx hb d_M_edge_43 rfl (lv_at hl 0 rfl) ?_
        refine vg_M_to (v := .ref (a 3)) hx hb hts hown hK hP 0 rfl (hts _ tb_263) rfl d_M_edge_44 ?_
        refine lv_aload_n hx hb d_M_edge_47 rfl (lv_at hl 0 rfl) ?_
        refine vg_M_edges (v := .int M_edges) hx hb hts hown hK hP 0 rfl (hts _ tb_261) rfl d_M_edge_48 ?_
        refine lv_iload_n hx hb d_M_edge_51 rfl (lv_at hl 2 rfl) ?_
        obtain ⟨h_52, hf⟩ := og_ck_s hf
        refine va_iast hx hb hK hP hD hS 2 1 rfl rfl h_52 d_M_edge_52 (fun H locs hP hD hS => ?_)
        have hP : va_P (dC, dI) vwCl (wM_edge a k 0 M_keys M_edges M_thenKeys M_thenEdges M_configuration M_parts M_rings M_metSize (upd M_from M_edges.toNatClampNeg p1) (upd M_to M_edges.toNatClampNeg p2) M_place M_bits) H := hP
        have hD : va_D A (wM_edge a k 0 M_keys M_edges M_thenKeys M_thenEdges M_configuration M_parts M_rings M_metSize (upd M_from M_edges.toNatClampNeg p1) (upd M_to M_edges.toNatClampNeg p2) M_place M_bits) := hD
        refine lv_aload_n hx hb d_M_edge_53 rfl (lv_at hl 0 rfl) ?_
        refine vg_M_place (v := .ref (a 4)) hx hb hts hown hK hP 0 rfl (hts _ tb_264) rfl d_M_edge_54 ?_
        refine lv_aload_n hx hb d_M_edge_57 rfl (lv_at hl 0 rfl) ?_
        refine vg_M_edges (v := .int M_edges) hx hb hts hown hK hP 0 rfl (hts _ tb_261) rfl d_M_edge_58 ?_
        refine lv_iload_n hx hb d_M_edge_61 rfl (lv_at hl 3 rfl) ?_
        obtain ⟨h_62, hf⟩ := og_ck_s hf
        refine va_iast hx hb hK hP hD hS 3 2 rfl rfl h_62 d_M_edge_62 (fun H locs hP hD hS => ?_)
        have hP : va_P (dC, dI) vwCl (wM_edge a k 0 M_keys M_edges M_thenKeys M_thenEdges M_configuration M_parts M_rings M_metSize (upd M_from M_edges.toNatClampNeg p1) (upd M_to M_edges.toNatClampNeg p2) (upd M_place M_edges.toNatClampNeg p3) M_bits) H := hP
        have hD : va_D A (wM_edge a k 0 M_keys M_edges M_thenKeys M_thenEdges M_configuration M_parts M_rings M_metSize (upd M_from M_edges.toNatClampNeg p1) (upd M_to M_edges.toNatClampNeg p2) (upd M_place M_edges.toNatClampNeg p3) M_bits) := hD
        refine lv_aload_n hx hb d_M_edge_63 rfl (lv_at hl 0 rfl) ?_
        refine vg_M_bits (v := .ref (a 5)) hx hb hts hown hK hP 0 rfl (hts _ tb_265) rfl d_M_edge_64 ?_
        refine lv_aload_n hx hb d_M_edge_67 rfl (lv_at hl 0 rfl) ?_
        refine vg_M_edges (v := .int M_edges) hx hb hts hown hK hP 0 rfl (hts _ tb_261) rfl d_M_edge_68 ?_
        refine lv_iload hx hb d_M_edge_71 (lv_at hl 4 rfl) ?_
        obtain ⟨h_73, hf⟩ := og_ck_s hf
        refine va_iast hx hb hK hP hD hS 4 3 rfl rfl h_73 d_M_edge_73 (fun H locs hP hD hS => ?_)
        have hP : va_P (dC, dI) vwCl (wM_edge a k 0 M_keys M_edges M_thenKeys M_thenEdges M_configuration M_parts M_rings M_metSize (upd M_from M_edges.toNatClampNeg p1) (upd M_to M_edges.toNatClampNeg p2) (upd M_place M_edges.toNatClampNeg p3) (upd M_bits M_edges.toNatClampNeg p4)) H := hP
        have hD : va_D A (wM_edge a k 0 M_keys M_edges M_thenKeys M_thenEdges M_configuration M_parts M_rings M_metSize (upd M_from M_edges.toNatClampNeg p1) (upd M_to M_edges.toNatClampNeg p2) (upd M_place M_edges.toNatClampNeg p3) (upd M_bits M_edges.toNatClampNeg p4)) := hD
        refine lv_aload_n hx hb d_M_edge_74 rfl (lv_at hl 0 rfl) ?_
        refine lv_dup hx hb d_M_edge_75 rfl ?_
        refine vg_M_edges (v := .int M_edges) hx hb hts hown hK hP 0 rfl (hts _ tb_261) rfl d_M_edge_76 ?_
        refine lv_iconst (v := 1) hx hb d_M_edge_79 (by decide) ?_
        refine lv_iadd hx hb d_M_edge_80 ?_
        refine vs_M_edges (v := (M_edges + 1)) hx hb hts hown hK hP hD hS 0 rfl (hts _ tb_261) (Nat.le_of_ble_eq_true rfl) d_M_edge_81 (fun H locs hP hD hS => ?_)
        have hP : va_P (dC, dI) vwCl (wM_edge a k 0 M_keys (M_edges + 1) M_thenKeys M_thenEdges M_configuration M_parts M_rings M_metSize (upd M_from M_edges.toNatClampNeg p1) (upd M_to M_edges.toNatClampNeg p2) (upd M_place M_edges.toNatClampNeg p3) (upd M_bits M_edges.toNatClampNeg p4)) H := hP
        have hD : va_D A (wM_edge a k 0 M_keys (M_edges + 1) M_thenKeys M_thenEdges M_configuration M_parts M_rings M_metSize (upd M_from M_edges.toNatClampNeg p1) (upd M_to M_edges.toNatClampNeg p2) (upd M_place M_edges.toNatClampNeg p3) (upd M_bits M_edges.toNatClampNeg p4)) := hD
        refine lv_aload_n hx hb d_M_edge_84 rfl (lv_at hl 0 rfl) ?_
        refine vg_M_edges (v := .int (M_edges + 1)) hx hb hts hown hK hP 0 rfl (hts _ tb_261) rfl d_M_edge_85 ?_
        refine lv_iconst (v := 1) hx hb d_M_edge_88 (by decide) ?_
        refine lv_isub hx hb d_M_edge_89 ?_
        obtain rfl := Option.some.inj hf
        exact W.iret (v := ((M_edges + 1) - 1)) hx hb hr (fun t ht hW => ⟨⟨((M_edges + 1) - 1), (), rfl, rfl, by rw [ht]; exact hP, va_K.moved hW.alike hK, hD⟩, hS.F ht⟩) hS.2.2 d_M_edge_90
      · have hf := og_t hf c_28
        refine lv_iconst (v := (-1)) hx hb d_M_edge_31 (by decide) ?_
        obtain rfl := Option.some.inj hf
        exact W.iret (v := (-1)) hx hb hr (fun t ht hW => ⟨⟨(-1), (), rfl, rfl, by rw [ht]; exact hP, va_K.moved hW.alike hK, hD⟩, hS.F ht⟩) hS.2.2 d_M_edge_32
def wM_remove (a : Nat → Nat) (k : Nat → ClassId) (M_code : Int32) (M_keys : Int32) (M_edges : Int32) (M_thenKeys : Int32) (M_thenEdges : Int32) (M_configuration : Int32) (M_parts : Int32) (M_rings : Int32) (M_metSize : Int32) (M_from : (Nat → Int32)) (M_to : (Nat → Int32)) (M_gone : (Nat → Int32)) : va_W := [(a 0, .inr (6, [.int M_code, .int M_keys, .int M_edges, .ref (a 1), .ref (a 2), .ref (a 3), .ref (a 4), .ref (a 5), .ref (a 6), .int M_thenKeys, .int M_thenEdges, .int M_configuration, .ref (a 7), .ref (a 8), .ref (a 9), .ref (a 10), .ref (a 11), .ref (a 12), .ref (a 13), .ref (a 14), .int M_parts, .int M_rings, .ref (a 15), .ref (a 16), .ref (a 17), .int M_metSize, .ref (a 18), .ref (a 19), .ref (a 20)])), (a 2, .inl (k 2, 160, .inl M_from)), (a 3, .inl (k 3, 160, .inl M_to)), (a 6, .inl (k 6, 160, .inl M_gone))]
def tM_remove (k : Nat → ClassId) : List (ClassId × FieldType) := [(k 2, .int), (k 3, .int), (k 6, .boolean)]
set_option maxHeartbeats 4000000 in
set_option maxRecDepth 100000 in
theorem c_M_remove (l : Launch) (dC : Nat → ClassId) (dI : Nat → Nat → Nat) (a : Nat → Nat) (k : Nat → ClassId) (sz : Nat) (M_code : Int32) (M_keys : Int32) (M_edges : Int32) (M_thenKeys : Int32) (M_thenEdges : Int32) (M_configuration : Int32) (M_parts : Int32) (M_rings : Int32) (M_metSize : Int32) (M_from : (Nat → Int32)) (M_to : (Nat → Int32)) (M_gone : (Nat → Int32)) (p1 : Int32) (p2 : Int32) (y : Int32 × Int32 × (Nat → Int32)) (hf : fM_remove M_code M_edges M_from M_to M_gone p1 p2 = some y) : Met l y_M_remove ws_M_remove ({ frames := 0, cells := 0, slots := 0, locals := 0 }) (og_Pw [.ref (a 0), .int p1, .int p2] (dC, dI) (wM_remove a k M_code M_keys M_edges M_thenKeys M_thenEdges M_configuration M_parts M_rings M_metSize M_from M_to M_gone) (tM_remove k) sz) (og_Qi (dC, dI) (wM_remove a k y.2.1 M_keys M_edges M_thenKeys M_thenEdges M_configuration M_parts M_rings M_metSize M_from M_to y.2.2) (tM_remove k) y.1 (va_A (wM_remove a k M_code M_keys M_edges M_thenKeys M_thenEdges M_configuration M_parts M_rings M_metSize M_from M_to M_gone) sz)) 0 0 (va_A (wM_remove a k M_code M_keys M_edges M_thenKeys M_thenEdges M_configuration M_parts M_rings M_metSize M_from M_to M_gone) sz) := by
  refine Met.ofW (cc := b_M_remove) (maxL := 5) (ret := (some .int)) (by decide) rfl ?_
  intro p e s m args below meth c s₁ B hml hv
  obtain ⟨rfl, hsz, hP, hK, hD0⟩ := hv
  have hx := B.exec
  have hb := B.bytes
  have hr := B.returns
  have hts0 := atoms_spec (ws := ws_M_remove) B.pre
  have hts : ∀ w ∈ og_tb, w.before _ s = true := fun w h => hts0 w (List.mem_cons_of_mem _ h)
  have hown : s.vm.findClass R_M = some m.cls := findClass_of_methodNamed B.named
  have hlocks := B.notSynchronized
  subst hsz
  have hD := hD0.self (sz := s.heap.size)
  generalize hAe : va_A (wM_remove a k M_code M_keys M_edges M_thenKeys M_thenEdges M_configuration M_parts M_rings M_metSize M_from M_to M_gone) s.heap.size = A at hD ⊢
  have hA : ∀ q : Nat, s.heap.size ≤ q → A q := fun q h => by rw [← hAe]; exact Or.inr h
  have hS : va_S A s.heap s.heap [] := va_S.rf
  have hl := lv_entry ([.ref (a 0), .int p1, .int p2]) (n := 5) (Nat.le_of_ble_eq_true rfl)
  rw [lg_entry_eq]
  generalize (lg_sl ([.ref (a 0), .int p1, .int p2]) ++ List.replicate (5 - (lg_sl ([.ref (a 0), .int p1, .int p2])).length) Slot.unset).toArray = ls at hl ⊢
  have hl : lv_has ls 5 [(0, .ref (a 0)), (1, .int p1), (2, .int p2)] := hl
  rw [fM_remove] at hf
  refine lv_aload_n hx hb d_M_remove_0 rfl (lv_at hl 0 rfl) ?_
  refine lv_iconst (v := 0) hx hb d_M_remove_1 (by decide) ?_
  refine vs_M_code (v := 0) hx hb hts hown hK hP hD hS 0 rfl (hts _ tb_254) (Nat.le_of_ble_eq_true rfl) d_M_remove_2 (fun H locs hP hD hS => ?_)
  have hP : va_P (dC, dI) vwCl (wM_remove a k 0 M_keys M_edges M_thenKeys M_thenEdges M_configuration M_parts M_rings M_metSize M_from M_to M_gone) H := hP
  have hD : va_D A (wM_remove a k 0 M_keys M_edges M_thenKeys M_thenEdges M_configuration M_parts M_rings M_metSize M_from M_to M_gone) := hD
  refine lv_iconst (v := 0) hx hb d_M_remove_5 (by decide) ?_
  refine lv_istore_n (lv' := [(3, .int 0), (0, .ref (a 0)), (1, .int p1), (2, .int p2)]) hx hb d_M_remove_6 rfl hl (by decide) rfl (fun ls hl => ?_)
  refine lv_iconst (v := 0) hx hb d_M_remove_7 (by decide) ?_
  refine lv_istore (lv' := [(4, .int 0), (3, .int 0), (0, .ref (a 0)), (1, .int p1), (2, .int p2)]) hx hb d_M_remove_8 hl (by decide) rfl (fun ls hl => ?_)
  have k10_71 : ∀ (v3 : Int32) (M_gone : (Nat → Int32)) (H : Heap) (locs : List Loc) (ls : Array Slot), fM_remove_K10_71 0 v3 M_gone = some y → va_P (dC, dI) vwCl (wM_remove a k 0 M_keys M_edges M_thenKeys M_thenEdges M_configuration M_parts M_rings M_metSize M_from M_to M_gone) H → va_D A (wM_remove a k 0 M_keys M_edges M_thenKeys M_thenEdges M_configuration M_parts M_rings M_metSize M_from M_to M_gone) → va_S A s.heap H locs → lv_has ls 5 [(3, .int v3)] → W p l e (headSpec ws_M_remove { frames := 0, cells := 0, slots := 0, locals := 0 }).room s m ([.ref (a 0), .int p1, .int p2] : List Value).toArray below meth c H locs 0 0 (MQ below (og_Qi (dC, dI) (wM_remove a k y.2.1 M_keys M_edges M_thenKeys M_thenEdges M_configuration M_parts M_rings M_metSize M_from M_to y.2.2) (tM_remove k) y.1 A) ([.ref (a 0), .int p1, .int p2] : List Value).toArray s 0 0 A) (F0 m 71 ls []) := by
    intro v3 M_gone H locs ls hf hP hD hS hl
    rw [fM_remove_K10_71] at hf
    refine lv_iload_n hx hb d_M_remove_71 rfl (lv_at hl 0 rfl) ?_
    obtain rfl := Option.some.inj hf
    exact W.iret (v := v3) hx hb hr (fun t ht hW => ⟨⟨v3, (), rfl, rfl, by rw [ht]; exact hP, va_K.moved hW.alike hK, hD⟩, hS.F ht⟩) hS.2.2 d_M_remove_72
  have lp10 : ∀ (n10 : Nat) (v3 : Int32) (v4 : Int32) (M_gone : (Nat → Int32)) (H : Heap) (locs : List Loc) (ls : Array Slot), fM_remove_L10 (fM_remove_K10_71 0) M_edges M_from M_to p1 p2 n10 v3 v4 M_gone = some y → va_P (dC, dI) vwCl (wM_remove a k 0 M_keys M_edges M_thenKeys M_thenEdges M_configuration M_parts M_rings M_metSize M_from M_to M_gone) H → va_D A (wM_remove a k 0 M_keys M_edges M_thenKeys M_thenEdges M_configuration M_parts M_rings M_metSize M_from M_to M_gone) → va_S A s.heap H locs → lv_has ls 5 [(0, .ref (a 0)), (1, .int p1), (2, .int p2), (3, .int v3), (4, .int v4)] → W p l e (headSpec ws_M_remove { frames := 0, cells := 0, slots := 0, locals := 0 }).room s m ([.ref (a 0), .int p1, .int p2] : List Value).toArray below meth c H locs 0 0 (MQ below (og_Qi (dC, dI) (wM_remove a k y.2.1 M_keys M_edges M_thenKeys M_thenEdges M_configuration M_parts M_rings M_metSize M_from M_to y.2.2) (tM_remove k) y.1 A) ([.ref (a 0), .int p1, .int p2] : List Value).toArray s 0 0 A) (F0 m 10 ls []) := by
    intro n10
    induction n10 with
    | zero => intro v3 v4 M_gone H locs ls hf hP hD hS hl; rw [fM_remove_L10] at hf; cases hf
    | succ n10 ih10 =>
      intro v3 v4 M_gone H locs ls hf hP hD hS hl
      rw [fM_remove_L10] at hf
      refine lv_iload hx hb d_M_remove_10 (lv_at hl 4 rfl) ?_
      refine lv_aload_n hx hb d_M_remove_12 rfl (lv_at hl 0 rfl) ?_
      refine vg_M_edges (v := .int M_edges) hx hb hts hown hK hP 0 rfl (hts _ tb_261) rfl d_M_remove_13 ?_
      refine lv_icmp_ge (tgt := 71) hx hb d_M_remove_16 (by decide) (fun c_16 => ?_) (fun c_16 => ?_)
      · have hf := og_t hf c_16
        exact k10_71 v3 M_gone _ _ _ hf hP hD hS (lv_sub hl [3] rfl)
      · have hf := og_f hf c_16
        refine lv_aload_n hx hb d_M_remove_19 rfl (lv_at hl 0 rfl) ?_
        refine vg_M_gone (v := .ref (a 6)) hx hb hts hown hK hP 0 rfl (hts _ tb_266) rfl d_M_remove_20 ?_
        refine lv_iload hx hb d_M_remove_23 (lv_at hl 4 rfl) ?_
        obtain ⟨h_25, hf⟩ := og_ck_s hf
        refine va_zald hx hb hK hP 3 2 rfl rfl h_25 d_M_remove_25 ?_
        refine lv_if_ne (tgt := 65) hx hb d_M_remove_26 (by decide) (fun c_26 => ?_) (fun c_26 => ?_)
        · have hf := og_f hf c_26
          refine lv_iinc (v := (v4 + 1)) (lv' := [(4, .int (v4 + 1)), (0, .ref (a 0)), (1, .int p1), (2, .int p2), (3, .int v3)]) hx hb d_M_remove_65 hl (k := 4) rfl rfl (by decide) rfl (fun ls hl => ?_)
          refine lv_goto (tgt := 10) hx hb d_M_remove_68 (by decide) ?_
          exact ih10 v3 (v4 + 1) M_gone _ _ _ hf hP hD hS (lv_sub hl [1, 2, 3, 4, 0] rfl)
        · have hf := og_t hf c_26
          refine lv_aload_n hx hb d_M_remove_29 rfl (lv_at hl 0 rfl) ?_
          refine vg_M_from (v := .ref (a 2)) hx hb hts hown hK hP 0 rfl (hts _ tb_262) rfl d_M_remove_30 ?_
          refine lv_iload hx hb d_M_remove_33 (lv_at hl 4 rfl) ?_
          obtain ⟨h_35, hf⟩ := og_ck_s hf
          refine va_iald hx hb hK hP 1 0 rfl rfl h_35 d_M_remove_35 ?_
          refine lv_iload_n hx hb d_M_remove_36 rfl (lv_at hl 1 rfl) ?_
          refine lv_icmp_ne (tgt := 65) hx hb d_M_remove_37 (by decide) (fun c_37 => ?_) (fun c_37 => ?_)
          · have hf := og_f hf c_37
            refine lv_iinc (v := (v4 + 1)) (lv' := [(4, .int (v4 + 1)), (0, .ref (a 0)), (1, .int p1), (2, .int p2), (3, .int v3)]) hx hb d_M_remove_65 hl (k := 4) rfl rfl (by decide) rfl (fun ls hl => ?_)
            refine lv_goto (tgt := 10) hx hb d_M_remove_68 (by decide) ?_
            exact ih10 v3 (v4 + 1) M_gone _ _ _ hf hP hD hS (lv_sub hl [1, 2, 3, 4, 0] rfl)
          · have hf := og_t hf c_37
            refine lv_aload_n hx hb d_M_remove_40 rfl (lv_at hl 0 rfl) ?_
            refine vg_M_to (v := .ref (a 3)) hx hb hts hown hK hP 0 rfl (hts _ tb_263) rfl d_M_remove_41 ?_
            refine lv_iload hx hb d_M_remove_44 (lv_at hl 4 rfl) ?_
            obtain ⟨h_46, hf⟩ := og_ck_s hf
            refine va_iald hx hb hK hP 2 1 rfl rfl h_46 d_M_remove_46 ?_
            refine lv_iload_n hx hb d_M_remove_47 rfl (lv_at hl 2 rfl) ?_
            refine lv_icmp_eq (tgt := 54) hx hb d_M_remove_48 (by decide) (fun c_48 => ?_) (fun c_48 => ?_)
            · have hf := og_t hf c_48
              refine lv_aload_n hx hb d_M_remove_54 rfl (lv_at hl 0 rfl) ?_
              refine vg_M_gone (v := .ref (a 6)) hx hb hts hown hK hP 0 rfl (hts _ tb_266) rfl d_M_remove_55 ?_
              refine lv_iload hx hb d_M_remove_58 (lv_at hl 4 rfl) ?_
              refine lv_iconst (v := 1) hx hb d_M_remove_60 (by decide) ?_
              obtain ⟨h_61, hf⟩ := og_ck_s hf
              refine va_zast hx hb hK hP hD hS 3 2 rfl rfl h_61 d_M_remove_61 (fun H locs hP hD hS => ?_)
              have hP : va_P (dC, dI) vwCl (wM_remove a k 0 M_keys M_edges M_thenKeys M_thenEdges M_configuration M_parts M_rings M_metSize M_from M_to (upd M_gone v4.toNatClampNeg (vp_nar .boolean 1))) H := hP
              have hD : va_D A (wM_remove a k 0 M_keys M_edges M_thenKeys M_thenEdges M_configuration M_parts M_rings M_metSize M_from M_to (upd M_gone v4.toNatClampNeg (vp_nar .boolean 1))) := hD
              refine lv_iinc (v := (v3 + 1)) (lv' := [(3, .int (v3 + 1)), (0, .ref (a 0)), (1, .int p1), (2, .int p2), (4, .int v4)]) hx hb d_M_remove_62 hl (k := 3) rfl rfl (by decide) rfl (fun ls hl => ?_)
              refine lv_iinc (v := (v4 + 1)) (lv' := [(4, .int (v4 + 1)), (3, .int (v3 + 1)), (0, .ref (a 0)), (1, .int p1), (2, .int p2)]) hx hb d_M_remove_65 hl (k := 4) rfl rfl (by decide) rfl (fun ls hl => ?_)
              refine lv_goto (tgt := 10) hx hb d_M_remove_68 (by decide) ?_
              exact ih10 (v3 + 1) (v4 + 1) (upd M_gone v4.toNatClampNeg (vp_nar .boolean 1)) _ _ _ hf hP hD hS (lv_sub hl [2, 3, 4, 1, 0] rfl)
            · have hf := og_f hf c_48
              refine lv_goto (tgt := 65) hx hb d_M_remove_51 (by decide) ?_
              refine lv_iinc (v := (v4 + 1)) (lv' := [(4, .int (v4 + 1)), (0, .ref (a 0)), (1, .int p1), (2, .int p2), (3, .int v3)]) hx hb d_M_remove_65 hl (k := 4) rfl rfl (by decide) rfl (fun ls hl => ?_)
              refine lv_goto (tgt := 10) hx hb d_M_remove_68 (by decide) ?_
              exact ih10 v3 (v4 + 1) M_gone _ _ _ hf hP hD hS (lv_sub hl [1, 2, 3, 4, 0] rfl)
  exact lp10 FU 0 0 M_gone _ _ _ hf hP hD hS (lv_sub hl [2, 3, 4, 1, 0] rfl)
def wM_cut (a : Nat → Nat) (k : Nat → ClassId) (M_code : Int32) (M_keys : Int32) (M_edges : Int32) (M_thenKeys : Int32) (M_thenEdges : Int32) (M_configuration : Int32) (M_parts : Int32) (M_rings : Int32) (M_metSize : Int32) (M_gone : (Nat → Int32)) : va_W := [(a 0, .inr (6, [.int M_code, .int M_keys, .int M_edges, .ref (a 1), .ref (a 2), .ref (a 3), .ref (a 4), .ref (a 5), .ref (a 6), .int M_thenKeys, .int M_thenEdges, .int M_configuration, .ref (a 7), .ref (a 8), .ref (a 9), .ref (a 10), .ref (a 11), .ref (a 12), .ref (a 13), .ref (a 14), .int M_parts, .int M_rings, .ref (a 15), .ref (a 16), .ref (a 17), .int M_metSize, .ref (a 18), .ref (a 19), .ref (a 20)])), (a 6, .inl (k 6, 160, .inl M_gone))]
def tM_cut (k : Nat → ClassId) : List (ClassId × FieldType) := [(k 6, .boolean)]
set_option maxHeartbeats 4000000 in
set_option maxRecDepth 100000 in
theorem c_M_cut (l : Launch) (dC : Nat → ClassId) (dI : Nat → Nat → Nat) (a : Nat → Nat) (k : Nat → ClassId) (sz : Nat) (M_code : Int32) (M_keys : Int32) (M_edges : Int32) (M_thenKeys : Int32) (M_thenEdges : Int32) (M_configuration : Int32) (M_parts : Int32) (M_rings : Int32) (M_metSize : Int32) (M_gone : (Nat → Int32)) (p1 : Int32) (y : Int32 × Int32 × (Nat → Int32)) (hf : fM_cut M_code M_edges M_gone p1 = some y) : Met l y_M_cut ws_M_cut ({ frames := 0, cells := 0, slots := 0, locals := 0 }) (og_Pw [.ref (a 0), .int p1] (dC, dI) (wM_cut a k M_code M_keys M_edges M_thenKeys M_thenEdges M_configuration M_parts M_rings M_metSize M_gone) (tM_cut k) sz) (og_Qi (dC, dI) (wM_cut a k y.2.1 M_keys M_edges M_thenKeys M_thenEdges M_configuration M_parts M_rings M_metSize y.2.2) (tM_cut k) y.1 (va_A (wM_cut a k M_code M_keys M_edges M_thenKeys M_thenEdges M_configuration M_parts M_rings M_metSize M_gone) sz)) 0 0 (va_A (wM_cut a k M_code M_keys M_edges M_thenKeys M_thenEdges M_configuration M_parts M_rings M_metSize M_gone) sz) := by
  refine Met.ofW (cc := b_M_cut) (maxL := 2) (ret := (some .boolean)) (by decide) rfl ?_
  intro p e s m args below meth c s₁ B hml hv
  obtain ⟨rfl, hsz, hP, hK, hD0⟩ := hv
  have hx := B.exec
  have hb := B.bytes
  have hr := B.returns
  have hts0 := atoms_spec (ws := ws_M_cut) B.pre
  have hts : ∀ w ∈ og_tb, w.before _ s = true := fun w h => hts0 w (List.mem_cons_of_mem _ h)
  have hown : s.vm.findClass R_M = some m.cls := findClass_of_methodNamed B.named
  have hlocks := B.notSynchronized
  subst hsz
  have hD := hD0.self (sz := s.heap.size)
  generalize hAe : va_A (wM_cut a k M_code M_keys M_edges M_thenKeys M_thenEdges M_configuration M_parts M_rings M_metSize M_gone) s.heap.size = A at hD ⊢
  have hA : ∀ q : Nat, s.heap.size ≤ q → A q := fun q h => by rw [← hAe]; exact Or.inr h
  have hS : va_S A s.heap s.heap [] := va_S.rf
  have hl := lv_entry ([.ref (a 0), .int p1]) (n := 2) (Nat.le_of_ble_eq_true rfl)
  rw [lg_entry_eq]
  generalize (lg_sl ([.ref (a 0), .int p1]) ++ List.replicate (2 - (lg_sl ([.ref (a 0), .int p1])).length) Slot.unset).toArray = ls at hl ⊢
  have hl : lv_has ls 2 [(0, .ref (a 0)), (1, .int p1)] := hl
  rw [fM_cut] at hf
  refine lv_aload_n hx hb d_M_cut_0 rfl (lv_at hl 0 rfl) ?_
  refine lv_iconst (v := 0) hx hb d_M_cut_1 (by decide) ?_
  refine vs_M_code (v := 0) hx hb hts hown hK hP hD hS 0 rfl (hts _ tb_254) (Nat.le_of_ble_eq_true rfl) d_M_cut_2 (fun H locs hP hD hS => ?_)
  have hP : va_P (dC, dI) vwCl (wM_cut a k 0 M_keys M_edges M_thenKeys M_thenEdges M_configuration M_parts M_rings M_metSize M_gone) H := hP
  have hD : va_D A (wM_cut a k 0 M_keys M_edges M_thenKeys M_thenEdges M_configuration M_parts M_rings M_metSize M_gone) := hD
  refine lv_iload_n hx hb d_M_cut_5 rfl (lv_at hl 1 rfl) ?_
  refine lv_if_lt (tgt := 26) hx hb d_M_cut_6 (by decide) (fun c_6 => ?_) (fun c_6 => ?_)
  · have hf := og_t hf c_6
    refine lv_iconst (v := 0) hx hb d_M_cut_26 (by decide) ?_
    obtain rfl := Option.some.inj hf
    exact W.zret (v := 0) hx hb hr rfl (fun t ht hW => ⟨⟨0, (), rfl, rfl, by rw [ht]; exact hP, va_K.moved hW.alike hK, hD⟩, hS.F ht⟩) hS.2.2 d_M_cut_27
  · have hf := og_f hf c_6
    refine lv_iload_n hx hb d_M_cut_9 rfl (lv_at hl 1 rfl) ?_
    refine lv_aload_n hx hb d_M_cut_10 rfl (lv_at hl 0 rfl) ?_
    refine vg_M_edges (v := .int M_edges) hx hb hts hown hK hP 0 rfl (hts _ tb_261) rfl d_M_cut_11 ?_
    refine lv_icmp_ge (tgt := 26) hx hb d_M_cut_14 (by decide) (fun c_14 => ?_) (fun c_14 => ?_)
    · have hf := og_t hf c_14
      refine lv_iconst (v := 0) hx hb d_M_cut_26 (by decide) ?_
      obtain rfl := Option.some.inj hf
      exact W.zret (v := 0) hx hb hr rfl (fun t ht hW => ⟨⟨0, (), rfl, rfl, by rw [ht]; exact hP, va_K.moved hW.alike hK, hD⟩, hS.F ht⟩) hS.2.2 d_M_cut_27
    · have hf := og_f hf c_14
      refine lv_aload_n hx hb d_M_cut_17 rfl (lv_at hl 0 rfl) ?_
      refine vg_M_gone (v := .ref (a 6)) hx hb hts hown hK hP 0 rfl (hts _ tb_266) rfl d_M_cut_18 ?_
      refine lv_iload_n hx hb d_M_cut_21 rfl (lv_at hl 1 rfl) ?_
      obtain ⟨h_22, hf⟩ := og_ck_s hf
      refine va_zald hx hb hK hP 1 0 rfl rfl h_22 d_M_cut_22 ?_
      refine lv_if_eq (tgt := 28) hx hb d_M_cut_23 (by decide) (fun c_23 => ?_) (fun c_23 => ?_)
      · have hf := og_t hf c_23
        refine lv_aload_n hx hb d_M_cut_28 rfl (lv_at hl 0 rfl) ?_
        refine vg_M_gone (v := .ref (a 6)) hx hb hts hown hK hP 0 rfl (hts _ tb_266) rfl d_M_cut_29 ?_
        refine lv_iload_n hx hb d_M_cut_32 rfl (lv_at hl 1 rfl) ?_
        refine lv_iconst (v := 1) hx hb d_M_cut_33 (by decide) ?_
        obtain ⟨h_34, hf⟩ := og_ck_s hf
        refine va_zast hx hb hK hP hD hS 1 0 rfl rfl h_34 d_M_cut_34 (fun H locs hP hD hS => ?_)
        have hP : va_P (dC, dI) vwCl (wM_cut a k 0 M_keys M_edges M_thenKeys M_thenEdges M_configuration M_parts M_rings M_metSize (upd M_gone p1.toNatClampNeg (vp_nar .boolean 1))) H := hP
        have hD : va_D A (wM_cut a k 0 M_keys M_edges M_thenKeys M_thenEdges M_configuration M_parts M_rings M_metSize (upd M_gone p1.toNatClampNeg (vp_nar .boolean 1))) := hD
        refine lv_iconst (v := 1) hx hb d_M_cut_35 (by decide) ?_
        obtain rfl := Option.some.inj hf
        exact W.zret (v := 1) hx hb hr rfl (fun t ht hW => ⟨⟨1, (), rfl, rfl, by rw [ht]; exact hP, va_K.moved hW.alike hK, hD⟩, hS.F ht⟩) hS.2.2 d_M_cut_36
      · have hf := og_f hf c_23
        refine lv_iconst (v := 0) hx hb d_M_cut_26 (by decide) ?_
        obtain rfl := Option.some.inj hf
        exact W.zret (v := 0) hx hb hr rfl (fun t ht hW => ⟨⟨0, (), rfl, rfl, by rw [ht]; exact hP, va_K.moved hW.alike hK, hD⟩, hS.F ht⟩) hS.2.2 d_M_cut_27
def wM_isThen (a : Nat → Nat) (k : Nat → ClassId) (M_code : Int32) (M_keys : Int32) (M_edges : Int32) (M_thenKeys : Int32) (M_thenEdges : Int32) (M_configuration : Int32) (M_parts : Int32) (M_rings : Int32) (M_metSize : Int32) (M_bits : (Nat → Int32)) (M_thenGone : (Nat → Int32)) : va_W := [(a 0, .inr (6, [.int M_code, .int M_keys, .int M_edges, .ref (a 1), .ref (a 2), .ref (a 3), .ref (a 4), .ref (a 5), .ref (a 6), .int M_thenKeys, .int M_thenEdges, .int M_configuration, .ref (a 7), .ref (a 8), .ref (a 9), .ref (a 10), .ref (a 11), .ref (a 12), .ref (a 13), .ref (a 14), .int M_parts, .int M_rings, .ref (a 15), .ref (a 16), .ref (a 17), .int M_metSize, .ref (a 18), .ref (a 19), .ref (a 20)])), (a 5, .inl (k 5, 160, .inl M_bits)), (a 7, .inl (k 7, 160, .inl M_thenGone))]
def tM_isThen (k : Nat → ClassId) : List (ClassId × FieldType) := [(k 5, .int), (k 7, .boolean)]
set_option maxHeartbeats 4000000 in
set_option maxRecDepth 100000 in
theorem c_M_isThen (l : Launch) (dC : Nat → ClassId) (dI : Nat → Nat → Nat) (a : Nat → Nat) (k : Nat → ClassId) (M_code : Int32) (M_keys : Int32) (M_edges : Int32) (M_thenKeys : Int32) (M_thenEdges : Int32) (M_configuration : Int32) (M_parts : Int32) (M_rings : Int32) (M_metSize : Int32) (M_bits : (Nat → Int32)) (M_thenGone : (Nat → Int32)) (p1 : Int32) (p2 : Int32) (y : Int32) (hf : fM_isThen M_bits M_thenGone p1 p2 = some y) : Met l y_M_isThen ws_M_isThen ({ frames := 0, cells := 0, slots := 0, locals := 0 }) (og_Pr [.ref (a 0), .int p1, .int p2] (dC, dI) (wM_isThen a k M_code M_keys M_edges M_thenKeys M_thenEdges M_configuration M_parts M_rings M_metSize M_bits M_thenGone) (tM_isThen k)) (vp_Si (fun x => x = y)) 0 0 (fun _ => False) := by
  refine Met.ofW (cc := b_M_isThen) (maxL := 3) (ret := (some .boolean)) (by decide) rfl ?_
  intro p e s m args below meth c s₁ B hml hv
  obtain ⟨rfl, hP, hK⟩ := hv
  have hx := B.exec
  have hb := B.bytes
  have hr := B.returns
  have hts0 := atoms_spec (ws := ws_M_isThen) B.pre
  have hts : ∀ w ∈ og_tb, w.before _ s = true := fun w h => hts0 w (List.mem_cons_of_mem _ h)
  have hown : s.vm.findClass R_M = some m.cls := findClass_of_methodNamed B.named
  have hlocks := B.notSynchronized
  have hl := lv_entry ([.ref (a 0), .int p1, .int p2]) (n := 3) (Nat.le_of_ble_eq_true rfl)
  rw [lg_entry_eq]
  generalize (lg_sl ([.ref (a 0), .int p1, .int p2]) ++ List.replicate (3 - (lg_sl ([.ref (a 0), .int p1, .int p2])).length) Slot.unset).toArray = ls at hl ⊢
  have hl : lv_has ls 3 [(0, .ref (a 0)), (1, .int p1), (2, .int p2)] := hl
  rw [fM_isThen] at hf
  refine lv_aload_n hx hb d_M_isThen_0 rfl (lv_at hl 0 rfl) ?_
  refine vg_M_thenGone (v := .ref (a 7)) hx hb hts hown hK hP 0 rfl (hts _ tb_267) rfl d_M_isThen_1 ?_
  refine lv_iload_n hx hb d_M_isThen_4 rfl (lv_at hl 1 rfl) ?_
  obtain ⟨h_5, hf⟩ := og_ck_s hf
  refine va_zald hx hb hK hP 2 1 rfl rfl h_5 d_M_isThen_5 ?_
  refine lv_if_ne (tgt := 27) hx hb d_M_isThen_6 (by decide) (fun c_6 => ?_) (fun c_6 => ?_)
  · have hf := og_f hf c_6
    refine lv_iconst (v := 0) hx hb d_M_isThen_27 (by decide) ?_
    obtain rfl := Option.some.inj hf
    exact W.zret (v := 0) hx hb hr rfl (fun t ht hW => ⟨0, rfl, rfl, ht⟩) (fun _ h => absurd h List.not_mem_nil) d_M_isThen_28
  · have hf := og_t hf c_6
    refine lv_aload_n hx hb d_M_isThen_9 rfl (lv_at hl 0 rfl) ?_
    refine vg_M_bits (v := .ref (a 5)) hx hb hts hown hK hP 0 rfl (hts _ tb_265) rfl d_M_isThen_10 ?_
    refine lv_iload_n hx hb d_M_isThen_13 rfl (lv_at hl 1 rfl) ?_
    obtain ⟨h_14, hf⟩ := og_ck_s hf
    refine va_iald hx hb hK hP 1 0 rfl rfl h_14 d_M_isThen_14 ?_
    refine lv_iload_n hx hb d_M_isThen_15 rfl (lv_at hl 2 rfl) ?_
    refine lv_ishr hx hb d_M_isThen_16 ?_
    refine lv_iconst (v := 1) hx hb d_M_isThen_17 (by decide) ?_
    refine lv_iand hx hb d_M_isThen_18 ?_
    refine lv_iconst (v := 1) hx hb d_M_isThen_19 (by decide) ?_
    refine lv_icmp_ne (tgt := 27) hx hb d_M_isThen_20 (by decide) (fun c_20 => ?_) (fun c_20 => ?_)
    · have hf := og_f hf c_20
      refine lv_iconst (v := 0) hx hb d_M_isThen_27 (by decide) ?_
      obtain rfl := Option.some.inj hf
      exact W.zret (v := 0) hx hb hr rfl (fun t ht hW => ⟨0, rfl, rfl, ht⟩) (fun _ h => absurd h List.not_mem_nil) d_M_isThen_28
    · have hf := og_t hf c_20
      refine lv_iconst (v := 1) hx hb d_M_isThen_23 (by decide) ?_
      refine lv_goto (tgt := 28) hx hb d_M_isThen_24 (by decide) ?_
      obtain rfl := Option.some.inj hf
      exact W.zret (v := 1) hx hb hr rfl (fun t ht hW => ⟨1, rfl, rfl, ht⟩) (fun _ h => absurd h List.not_mem_nil) d_M_isThen_28
def wM_sort (a : Nat → Nat) (k : Nat → ClassId) (M_code : Int32) (M_keys : Int32) (M_edges : Int32) (M_thenKeys : Int32) (M_thenEdges : Int32) (M_configuration : Int32) (M_parts : Int32) (M_rings : Int32) (M_metSize : Int32) (M_name : (Nat → Int32)) (M_order : (Nat → Int32)) (M_rank : (Nat → Int32)) : va_W := [(a 0, .inr (6, [.int M_code, .int M_keys, .int M_edges, .ref (a 1), .ref (a 2), .ref (a 3), .ref (a 4), .ref (a 5), .ref (a 6), .int M_thenKeys, .int M_thenEdges, .int M_configuration, .ref (a 7), .ref (a 8), .ref (a 9), .ref (a 10), .ref (a 11), .ref (a 12), .ref (a 13), .ref (a 14), .int M_parts, .int M_rings, .ref (a 15), .ref (a 16), .ref (a 17), .int M_metSize, .ref (a 18), .ref (a 19), .ref (a 20)])), (a 1, .inl (k 1, 40, .inl M_name)), (a 8, .inl (k 8, 40, .inl M_order)), (a 9, .inl (k 9, 40, .inl M_rank))]
def tM_sort (k : Nat → ClassId) : List (ClassId × FieldType) := [(k 1, .int), (k 8, .int), (k 9, .int)]
set_option maxHeartbeats 4000000 in
set_option maxRecDepth 100000 in
theorem c_M_sort (l : Launch) (dC : Nat → ClassId) (dI : Nat → Nat → Nat) (a : Nat → Nat) (k : Nat → ClassId) (sz : Nat) (M_code : Int32) (M_keys : Int32) (M_edges : Int32) (M_thenKeys : Int32) (M_thenEdges : Int32) (M_configuration : Int32) (M_parts : Int32) (M_rings : Int32) (M_metSize : Int32) (M_name : (Nat → Int32)) (M_order : (Nat → Int32)) (M_rank : (Nat → Int32)) (y : (Nat → Int32) × (Nat → Int32)) (hf : fM_sort M_keys M_name M_order M_rank = some y) : Met l y_M_sort ws_M_sort ({ frames := 0, cells := 0, slots := 0, locals := 0 }) (og_Pw [.ref (a 0)] (dC, dI) (wM_sort a k M_code M_keys M_edges M_thenKeys M_thenEdges M_configuration M_parts M_rings M_metSize M_name M_order M_rank) (tM_sort k) sz) (og_Qv (dC, dI) (wM_sort a k M_code M_keys M_edges M_thenKeys M_thenEdges M_configuration M_parts M_rings M_metSize M_name y.1 y.2) (tM_sort k) (va_A (wM_sort a k M_code M_keys M_edges M_thenKeys M_thenEdges M_configuration M_parts M_rings M_metSize M_name M_order M_rank) sz)) 0 0 (va_A (wM_sort a k M_code M_keys M_edges M_thenKeys M_thenEdges M_configuration M_parts M_rings M_metSize M_name M_order M_rank) sz) := by
  refine Met.ofW (cc := b_M_sort) (maxL := 4) (ret := none) (by decide) rfl ?_
  intro p e s m args below meth c s₁ B hml hv
  obtain ⟨rfl, hsz, hP, hK, hD0⟩ := hv
  have hx := B.exec
  have hb := B.bytes
  have hr := B.returns
  have hts0 := atoms_spec (ws := ws_M_sort) B.pre
  have hts : ∀ w ∈ og_tb, w.before _ s = true := fun w h => hts0 w (List.mem_cons_of_mem _ h)
  have hown : s.vm.findClass R_M = some m.cls := findClass_of_methodNamed B.named
  have hlocks := B.notSynchronized
  subst hsz
  have hD := hD0.self (sz := s.heap.size)
  generalize hAe : va_A (wM_sort a k M_code M_keys M_edges M_thenKeys M_thenEdges M_configuration M_parts M_rings M_metSize M_name M_order M_rank) s.heap.size = A at hD ⊢
  have hA : ∀ q : Nat, s.heap.size ≤ q → A q := fun q h => by rw [← hAe]; exact Or.inr h
  have hS : va_S A s.heap s.heap [] := va_S.rf
  have hl := lv_entry ([.ref (a 0)]) (n := 4) (Nat.le_of_ble_eq_true rfl)
  rw [lg_entry_eq]
  generalize (lg_sl ([.ref (a 0)]) ++ List.replicate (4 - (lg_sl ([.ref (a 0)])).length) Slot.unset).toArray = ls at hl ⊢
  have hl : lv_has ls 4 [(0, .ref (a 0))] := hl
  rw [fM_sort] at hf
  refine lv_iconst (v := 0) hx hb d_M_sort_0 (by decide) ?_
  refine lv_istore_n (lv' := [(1, .int 0), (0, .ref (a 0))]) hx hb d_M_sort_1 rfl hl (by decide) rfl (fun ls hl => ?_)
  have k2_71 : ∀ (M_order : (Nat → Int32)) (M_rank : (Nat → Int32)) (H : Heap) (locs : List Loc) (ls : Array Slot), fM_sort_K2_71 M_order M_rank = some y → va_P (dC, dI) vwCl (wM_sort a k M_code M_keys M_edges M_thenKeys M_thenEdges M_configuration M_parts M_rings M_metSize M_name M_order M_rank) H → va_D A (wM_sort a k M_code M_keys M_edges M_thenKeys M_thenEdges M_configuration M_parts M_rings M_metSize M_name M_order M_rank) → va_S A s.heap H locs → lv_has ls 4 [] → W p l e (headSpec ws_M_sort { frames := 0, cells := 0, slots := 0, locals := 0 }).room s m ([.ref (a 0)] : List Value).toArray below meth c H locs 0 0 (MQ below (og_Qv (dC, dI) (wM_sort a k M_code M_keys M_edges M_thenKeys M_thenEdges M_configuration M_parts M_rings M_metSize M_name y.1 y.2) (tM_sort k) A) ([.ref (a 0)] : List Value).toArray s 0 0 A) (F0 m 71 ls []) := by
    intro M_order M_rank H locs ls hf hP hD hS hl
    rw [fM_sort_K2_71] at hf
    obtain rfl := Option.some.inj hf
    exact W.vret hx hb hr (fun t ht hW => ⟨⟨(), rfl, trivial, by rw [ht]; exact hP, va_K.moved hW.alike hK, hD⟩, hS.F ht⟩) hS.2.2 d_M_sort_71
  have lp2 : ∀ (n2 : Nat) (v1 : Int32) (M_order : (Nat → Int32)) (M_rank : (Nat → Int32)) (H : Heap) (locs : List Loc) (ls : Array Slot), fM_sort_L2 fM_sort_K2_71 M_keys M_name n2 v1 M_order M_rank = some y → va_P (dC, dI) vwCl (wM_sort a k M_code M_keys M_edges M_thenKeys M_thenEdges M_configuration M_parts M_rings M_metSize M_name M_order M_rank) H → va_D A (wM_sort a k M_code M_keys M_edges M_thenKeys M_thenEdges M_configuration M_parts M_rings M_metSize M_name M_order M_rank) → va_S A s.heap H locs → lv_has ls 4 [(0, .ref (a 0)), (1, .int v1)] → W p l e (headSpec ws_M_sort { frames := 0, cells := 0, slots := 0, locals := 0 }).room s m ([.ref (a 0)] : List Value).toArray below meth c H locs 0 0 (MQ below (og_Qv (dC, dI) (wM_sort a k M_code M_keys M_edges M_thenKeys M_thenEdges M_configuration M_parts M_rings M_metSize M_name y.1 y.2) (tM_sort k) A) ([.ref (a 0)] : List Value).toArray s 0 0 A) (F0 m 2 ls []) := by
    intro n2
    induction n2 with
    | zero => intro v1 M_order M_rank H locs ls hf hP hD hS hl; rw [fM_sort_L2] at hf; cases hf
    | succ n2 ih2 =>
      intro v1 M_order M_rank H locs ls hf hP hD hS hl
      rw [fM_sort_L2] at hf
      refine lv_iload_n hx hb d_M_sort_2 rfl (lv_at hl 1 rfl) ?_
      refine lv_aload_n hx hb d_M_sort_3 rfl (lv_at hl 0 rfl) ?_
      refine vg_M_keys (v := .int M_keys) hx hb hts hown hK hP 0 rfl (hts _ tb_253) rfl d_M_sort_4 ?_
      refine lv_icmp_ge (tgt := 71) hx hb d_M_sort_7 (by decide) (fun c_7 => ?_) (fun c_7 => ?_)
      · have hf := og_t hf c_7
        exact k2_71 M_order M_rank _ _ _ hf hP hD hS (lv_sub hl [] rfl)
      · have hf := og_f hf c_7
        refine lv_iconst (v := 0) hx hb d_M_sort_10 (by decide) ?_
        refine lv_istore_n (lv' := [(2, .int 0), (0, .ref (a 0)), (1, .int v1)]) hx hb d_M_sort_11 rfl hl (by decide) rfl (fun ls hl => ?_)
        refine lv_iconst (v := 0) hx hb d_M_sort_12 (by decide) ?_
        refine lv_istore_n (lv' := [(3, .int 0), (2, .int 0), (0, .ref (a 0)), (1, .int v1)]) hx hb d_M_sort_13 rfl hl (by decide) rfl (fun ls hl => ?_)
        have k14_51 : ∀ (v2 : Int32) (H : Heap) (locs : List Loc) (ls : Array Slot), fM_sort_K14_51 (fun a0 a1 a2 => fM_sort_L2 fM_sort_K2_71 M_keys M_name n2 a0 a1 a2) M_order M_rank v1 v2 = some y → va_P (dC, dI) vwCl (wM_sort a k M_code M_keys M_edges M_thenKeys M_thenEdges M_configuration M_parts M_rings M_metSize M_name M_order M_rank) H → va_D A (wM_sort a k M_code M_keys M_edges M_thenKeys M_thenEdges M_configuration M_parts M_rings M_metSize M_name M_order M_rank) → va_S A s.heap H locs → lv_has ls 4 [(0, .ref (a 0)), (1, .int v1), (2, .int v2)] → W p l e (headSpec ws_M_sort { frames := 0, cells := 0, slots := 0, locals := 0 }).room s m ([.ref (a 0)] : List Value).toArray below meth c H locs 0 0 (MQ below (og_Qv (dC, dI) (wM_sort a k M_code M_keys M_edges M_thenKeys M_thenEdges M_configuration M_parts M_rings M_metSize M_name y.1 y.2) (tM_sort k) A) ([.ref (a 0)] : List Value).toArray s 0 0 A) (F0 m 51 ls []) := by
          intro v2 H locs ls hf hP hD hS hl
          rw [fM_sort_K14_51] at hf
          refine lv_aload_n hx hb d_M_sort_51 rfl (lv_at hl 0 rfl) ?_
          refine vg_M_order (v := .ref (a 8)) hx hb hts hown hK hP 0 rfl (hts _ tb_268) rfl d_M_sort_52 ?_
          refine lv_iload_n hx hb d_M_sort_55 rfl (lv_at hl 2 rfl) ?_
          refine lv_iload_n hx hb d_M_sort_56 rfl (lv_at hl 1 rfl) ?_
          obtain ⟨h_57, hf⟩ := og_ck_s hf
          refine va_iast hx hb hK hP hD hS 2 1 rfl rfl h_57 d_M_sort_57 (fun H locs hP hD hS => ?_)
          have hP : va_P (dC, dI) vwCl (wM_sort a k M_code M_keys M_edges M_thenKeys M_thenEdges M_configuration M_parts M_rings M_metSize M_name (upd M_order v2.toNatClampNeg v1) M_rank) H := hP
          have hD : va_D A (wM_sort a k M_code M_keys M_edges M_thenKeys M_thenEdges M_configuration M_parts M_rings M_metSize M_name (upd M_order v2.toNatClampNeg v1) M_rank) := hD
          refine lv_aload_n hx hb d_M_sort_58 rfl (lv_at hl 0 rfl) ?_
          refine vg_M_rank (v := .ref (a 9)) hx hb hts hown hK hP 0 rfl (hts _ tb_269) rfl d_M_sort_59 ?_
          refine lv_iload_n hx hb d_M_sort_62 rfl (lv_at hl 1 rfl) ?_
          refine lv_iload_n hx hb d_M_sort_63 rfl (lv_at hl 2 rfl) ?_
          obtain ⟨h_64, hf⟩ := og_ck_s hf
          refine va_iast hx hb hK hP hD hS 3 2 rfl rfl h_64 d_M_sort_64 (fun H locs hP hD hS => ?_)
          have hP : va_P (dC, dI) vwCl (wM_sort a k M_code M_keys M_edges M_thenKeys M_thenEdges M_configuration M_parts M_rings M_metSize M_name (upd M_order v2.toNatClampNeg v1) (upd M_rank v1.toNatClampNeg v2)) H := hP
          have hD : va_D A (wM_sort a k M_code M_keys M_edges M_thenKeys M_thenEdges M_configuration M_parts M_rings M_metSize M_name (upd M_order v2.toNatClampNeg v1) (upd M_rank v1.toNatClampNeg v2)) := hD
          refine lv_iinc (v := (v1 + 1)) (lv' := [(1, .int (v1 + 1)), (0, .ref (a 0)), (2, .int v2)]) hx hb d_M_sort_65 hl (k := 1) rfl rfl (by decide) rfl (fun ls hl => ?_)
          refine lv_goto (tgt := 2) hx hb d_M_sort_68 (by decide) ?_
          exact ih2 (v1 + 1) (upd M_order v2.toNatClampNeg v1) (upd M_rank v1.toNatClampNeg v2) _ _ _ hf hP hD hS (lv_sub hl [1, 0] rfl)
        have lp14 : ∀ (n14 : Nat) (v2 : Int32) (v3 : Int32) (H : Heap) (locs : List Loc) (ls : Array Slot), fM_sort_L14 (fM_sort_K14_51 (fun a0 a1 a2 => fM_sort_L2 fM_sort_K2_71 M_keys M_name n2 a0 a1 a2) M_order M_rank v1) M_keys M_name v1 n14 v2 v3 = some y → va_P (dC, dI) vwCl (wM_sort a k M_code M_keys M_edges M_thenKeys M_thenEdges M_configuration M_parts M_rings M_metSize M_name M_order M_rank) H → va_D A (wM_sort a k M_code M_keys M_edges M_thenKeys M_thenEdges M_configuration M_parts M_rings M_metSize M_name M_order M_rank) → va_S A s.heap H locs → lv_has ls 4 [(0, .ref (a 0)), (1, .int v1), (2, .int v2), (3, .int v3)] → W p l e (headSpec ws_M_sort { frames := 0, cells := 0, slots := 0, locals := 0 }).room s m ([.ref (a 0)] : List Value).toArray below meth c H locs 0 0 (MQ below (og_Qv (dC, dI) (wM_sort a k M_code M_keys M_edges M_thenKeys M_thenEdges M_configuration M_parts M_rings M_metSize M_name y.1 y.2) (tM_sort k) A) ([.ref (a 0)] : List Value).toArray s 0 0 A) (F0 m 14 ls []) := by
          intro n14
          induction n14 with
          | zero => intro v2 v3 H locs ls hf hP hD hS hl; rw [fM_sort_L14] at hf; cases hf
          | succ n14 ih14 =>
            intro v2 v3 H locs ls hf hP hD hS hl
            rw [fM_sort_L14] at hf
            refine lv_iload_n hx hb d_M_sort_14 rfl (lv_at hl 3 rfl) ?_
            refine lv_aload_n hx hb d_M_sort_15 rfl (lv_at hl 0 rfl) ?_
            refine vg_M_keys (v := .int M_keys) hx hb hts hown hK hP 0 rfl (hts _ tb_253) rfl d_M_sort_16 ?_
            refine lv_icmp_ge (tgt := 51) hx hb d_M_sort_19 (by decide) (fun c_19 => ?_) (fun c_19 => ?_)
            · have hf := og_t hf c_19
              exact k14_51 v2 _ _ _ hf hP hD hS (lv_sub hl [0, 1, 2] rfl)
            · have hf := og_f hf c_19
              refine lv_iload_n hx hb d_M_sort_22 rfl (lv_at hl 2 rfl) ?_
              refine lv_aload_n hx hb d_M_sort_23 rfl (lv_at hl 0 rfl) ?_
              refine vg_M_name (v := .ref (a 1)) hx hb hts hown hK hP 0 rfl (hts _ tb_255) rfl d_M_sort_24 ?_
              refine lv_iload_n hx hb d_M_sort_27 rfl (lv_at hl 3 rfl) ?_
              obtain ⟨h_28, hf⟩ := og_ck_s hf
              refine va_iald hx hb hK hP 1 0 rfl rfl h_28 d_M_sort_28 ?_
              refine lv_aload_n hx hb d_M_sort_29 rfl (lv_at hl 0 rfl) ?_
              refine vg_M_name (v := .ref (a 1)) hx hb hts hown hK hP 0 rfl (hts _ tb_255) rfl d_M_sort_30 ?_
              refine lv_iload_n hx hb d_M_sort_33 rfl (lv_at hl 1 rfl) ?_
              obtain ⟨h_34, hf⟩ := og_ck_s hf
              refine va_iald hx hb hK hP 1 0 rfl rfl h_34 d_M_sort_34 ?_
              refine lv_icmp_ge (tgt := 42) hx hb d_M_sort_35 (by decide) (fun c_35 => ?_) (fun c_35 => ?_)
              · have hf := og_t hf c_35
                refine lv_iconst (v := 0) hx hb d_M_sort_42 (by decide) ?_
                refine lv_iadd hx hb d_M_sort_43 ?_
                refine lv_istore_n (lv' := [(2, .int (v2 + 0)), (0, .ref (a 0)), (1, .int v1), (3, .int v3)]) hx hb d_M_sort_44 rfl hl (by decide) rfl (fun ls hl => ?_)
                refine lv_iinc (v := (v3 + 1)) (lv' := [(3, .int (v3 + 1)), (2, .int (v2 + 0)), (0, .ref (a 0)), (1, .int v1)]) hx hb d_M_sort_45 hl (k := 3) rfl rfl (by decide) rfl (fun ls hl => ?_)
                refine lv_goto (tgt := 14) hx hb d_M_sort_48 (by decide) ?_
                exact ih14 (v2 + 0) (v3 + 1) _ _ _ hf hP hD hS (lv_sub hl [2, 3, 1, 0] rfl)
              · have hf := og_f hf c_35
                refine lv_iconst (v := 1) hx hb d_M_sort_38 (by decide) ?_
                refine lv_goto (tgt := 43) hx hb d_M_sort_39 (by decide) ?_
                refine lv_iadd hx hb d_M_sort_43 ?_
                refine lv_istore_n (lv' := [(2, .int (v2 + 1)), (0, .ref (a 0)), (1, .int v1), (3, .int v3)]) hx hb d_M_sort_44 rfl hl (by decide) rfl (fun ls hl => ?_)
                refine lv_iinc (v := (v3 + 1)) (lv' := [(3, .int (v3 + 1)), (2, .int (v2 + 1)), (0, .ref (a 0)), (1, .int v1)]) hx hb d_M_sort_45 hl (k := 3) rfl rfl (by decide) rfl (fun ls hl => ?_)
                refine lv_goto (tgt := 14) hx hb d_M_sort_48 (by decide) ?_
                exact ih14 (v2 + 1) (v3 + 1) _ _ _ hf hP hD hS (lv_sub hl [2, 3, 1, 0] rfl)
        exact lp14 FU 0 0 _ _ _ hf hP hD hS (lv_sub hl [2, 3, 1, 0] rfl)
  exact lp2 FU 0 M_order M_rank _ _ _ hf hP hD hS (lv_sub hl [1, 0] rfl)
def wM_cell (a : Nat → Nat) (k : Nat → ClassId) : va_W := []
def tM_cell (k : Nat → ClassId) : List (ClassId × FieldType) := []
set_option maxHeartbeats 4000000 in
set_option maxRecDepth 100000 in
theorem c_M_cell (l : Launch) (dC : Nat → ClassId) (dI : Nat → Nat → Nat) (a : Nat → Nat) (k : Nat → ClassId) (p0 : Int32) (p1 : Int32) (y : Int32) (hf : fM_cell p0 p1 = some y) : Met l y_M_cell ws_M_cell ({ frames := 0, cells := 0, slots := 0, locals := 0 }) (og_Pr [.int p0, .int p1] (dC, dI) (wM_cell a k) (tM_cell k)) (vp_Si (fun x => x = y)) 0 0 (fun _ => False) := by
  refine Met.ofW (cc := b_M_cell) (maxL := 2) (ret := (some .int)) (by decide) rfl ?_
  intro p e s m args below meth c s₁ B hml hv
  obtain ⟨rfl, hP, hK⟩ := hv
  have hx := B.exec
  have hb := B.bytes
  have hr := B.returns
  have hts0 := atoms_spec (ws := ws_M_cell) B.pre
  have hts : ∀ w ∈ og_tb, w.before _ s = true := fun w h => hts0 w (List.mem_cons_of_mem _ h)
  have hown : s.vm.findClass R_M = some m.cls := findClass_of_methodNamed B.named
  have hlocks := B.notSynchronized
  have hl := lv_entry ([.int p0, .int p1]) (n := 2) (Nat.le_of_ble_eq_true rfl)
  rw [lg_entry_eq]
  generalize (lg_sl ([.int p0, .int p1]) ++ List.replicate (2 - (lg_sl ([.int p0, .int p1])).length) Slot.unset).toArray = ls at hl ⊢
  have hl : lv_has ls 2 [(0, .int p0), (1, .int p1)] := hl
  rw [fM_cell] at hf
  refine lv_bipush (v := 40) hx hb d_M_cell_0 (by decide) ?_
  refine lv_iload_n hx hb d_M_cell_2 rfl (lv_at hl 0 rfl) ?_
  refine lv_imul hx hb d_M_cell_3 ?_
  refine lv_iload_n hx hb d_M_cell_4 rfl (lv_at hl 1 rfl) ?_
  refine lv_iadd hx hb d_M_cell_5 ?_
  obtain rfl := Option.some.inj hf
  exact W.iret (v := ((40 * p0) + p1)) hx hb hr (fun t ht hW => ⟨((40 * p0) + p1), rfl, rfl, ht⟩) (fun _ h => absurd h List.not_mem_nil) d_M_cell_6
def wM_size (a : Nat → Nat) (k : Nat → ClassId) (M_code : Int32) (M_keys : Int32) (M_edges : Int32) (M_thenKeys : Int32) (M_thenEdges : Int32) (M_configuration : Int32) (M_parts : Int32) (M_rings : Int32) (M_metSize : Int32) (M_ringSize : (Nat → Int32)) : va_W := [(a 0, .inr (6, [.int M_code, .int M_keys, .int M_edges, .ref (a 1), .ref (a 2), .ref (a 3), .ref (a 4), .ref (a 5), .ref (a 6), .int M_thenKeys, .int M_thenEdges, .int M_configuration, .ref (a 7), .ref (a 8), .ref (a 9), .ref (a 10), .ref (a 11), .ref (a 12), .ref (a 13), .ref (a 14), .int M_parts, .int M_rings, .ref (a 15), .ref (a 16), .ref (a 17), .int M_metSize, .ref (a 18), .ref (a 19), .ref (a 20)])), (a 15, .inl (k 15, 40, .inl M_ringSize))]
def tM_size (k : Nat → ClassId) : List (ClassId × FieldType) := [(k 15, .int)]
set_option maxHeartbeats 4000000 in
set_option maxRecDepth 100000 in
theorem c_M_size (l : Launch) (dC : Nat → ClassId) (dI : Nat → Nat → Nat) (a : Nat → Nat) (k : Nat → ClassId) (sz : Nat) (M_code : Int32) (M_keys : Int32) (M_edges : Int32) (M_thenKeys : Int32) (M_thenEdges : Int32) (M_configuration : Int32) (M_parts : Int32) (M_rings : Int32) (M_metSize : Int32) (M_ringSize : (Nat → Int32)) (p1 : Int32) (y : Int32 × Int32) (hf : fM_size M_code M_rings M_ringSize p1 = some y) : Met l y_M_size ws_M_size ({ frames := 0, cells := 0, slots := 0, locals := 0 }) (og_Pw [.ref (a 0), .int p1] (dC, dI) (wM_size a k M_code M_keys M_edges M_thenKeys M_thenEdges M_configuration M_parts M_rings M_metSize M_ringSize) (tM_size k) sz) (og_Qi (dC, dI) (wM_size a k y.2 M_keys M_edges M_thenKeys M_thenEdges M_configuration M_parts M_rings M_metSize M_ringSize) (tM_size k) y.1 (va_A (wM_size a k M_code M_keys M_edges M_thenKeys M_thenEdges M_configuration M_parts M_rings M_metSize M_ringSize) sz)) 0 0 (va_A (wM_size a k M_code M_keys M_edges M_thenKeys M_thenEdges M_configuration M_parts M_rings M_metSize M_ringSize) sz) := by
  refine Met.ofW (cc := b_M_size) (maxL := 2) (ret := (some .int)) (by decide) rfl ?_
  intro p e s m args below meth c s₁ B hml hv
  obtain ⟨rfl, hsz, hP, hK, hD0⟩ := hv
  have hx := B.exec
  have hb := B.bytes
  have hr := B.returns
  have hts0 := atoms_spec (ws := ws_M_size) B.pre
  have hts : ∀ w ∈ og_tb, w.before _ s = true := fun w h => hts0 w (List.mem_cons_of_mem _ h)
  have hown : s.vm.findClass R_M = some m.cls := findClass_of_methodNamed B.named
  have hlocks := B.notSynchronized
  subst hsz
  have hD := hD0.self (sz := s.heap.size)
  generalize hAe : va_A (wM_size a k M_code M_keys M_edges M_thenKeys M_thenEdges M_configuration M_parts M_rings M_metSize M_ringSize) s.heap.size = A at hD ⊢
  have hA : ∀ q : Nat, s.heap.size ≤ q → A q := fun q h => by rw [← hAe]; exact Or.inr h
  have hS : va_S A s.heap s.heap [] := va_S.rf
  have hl := lv_entry ([.ref (a 0), .int p1]) (n := 2) (Nat.le_of_ble_eq_true rfl)
  rw [lg_entry_eq]
  generalize (lg_sl ([.ref (a 0), .int p1]) ++ List.replicate (2 - (lg_sl ([.ref (a 0), .int p1])).length) Slot.unset).toArray = ls at hl ⊢
  have hl : lv_has ls 2 [(0, .ref (a 0)), (1, .int p1)] := hl
  rw [fM_size] at hf
  refine lv_aload_n hx hb d_M_size_0 rfl (lv_at hl 0 rfl) ?_
  refine lv_iconst (v := 0) hx hb d_M_size_1 (by decide) ?_
  refine vs_M_code (v := 0) hx hb hts hown hK hP hD hS 0 rfl (hts _ tb_254) (Nat.le_of_ble_eq_true rfl) d_M_size_2 (fun H locs hP hD hS => ?_)
  have hP : va_P (dC, dI) vwCl (wM_size a k 0 M_keys M_edges M_thenKeys M_thenEdges M_configuration M_parts M_rings M_metSize M_ringSize) H := hP
  have hD : va_D A (wM_size a k 0 M_keys M_edges M_thenKeys M_thenEdges M_configuration M_parts M_rings M_metSize M_ringSize) := hD
  refine lv_iload_n hx hb d_M_size_5 rfl (lv_at hl 1 rfl) ?_
  refine lv_if_lt (tgt := 17) hx hb d_M_size_6 (by decide) (fun c_6 => ?_) (fun c_6 => ?_)
  · have hf := og_t hf c_6
    refine lv_iconst (v := 0) hx hb d_M_size_17 (by decide) ?_
    refine lv_goto (tgt := 27) hx hb d_M_size_18 (by decide) ?_
    obtain rfl := Option.some.inj hf
    exact W.iret (v := 0) hx hb hr (fun t ht hW => ⟨⟨0, (), rfl, rfl, by rw [ht]; exact hP, va_K.moved hW.alike hK, hD⟩, hS.F ht⟩) hS.2.2 d_M_size_27
  · have hf := og_f hf c_6
    refine lv_iload_n hx hb d_M_size_9 rfl (lv_at hl 1 rfl) ?_
    refine lv_aload_n hx hb d_M_size_10 rfl (lv_at hl 0 rfl) ?_
    refine vg_M_rings (v := .int M_rings) hx hb hts hown hK hP 0 rfl (hts _ tb_296) rfl d_M_size_11 ?_
    refine lv_icmp_lt (tgt := 21) hx hb d_M_size_14 (by decide) (fun c_14 => ?_) (fun c_14 => ?_)
    · have hf := og_t hf c_14
      refine lv_aload_n hx hb d_M_size_21 rfl (lv_at hl 0 rfl) ?_
      refine vg_M_ringSize (v := .ref (a 15)) hx hb hts hown hK hP 0 rfl (hts _ tb_295) rfl d_M_size_22 ?_
      refine lv_iload_n hx hb d_M_size_25 rfl (lv_at hl 1 rfl) ?_
      obtain ⟨h_26, hf⟩ := og_ck_s hf
      refine va_iald hx hb hK hP 1 0 rfl rfl h_26 d_M_size_26 ?_
      obtain rfl := Option.some.inj hf
      exact W.iret (v := (M_ringSize p1.toNatClampNeg)) hx hb hr (fun t ht hW => ⟨⟨(M_ringSize p1.toNatClampNeg), (), rfl, rfl, by rw [ht]; exact hP, va_K.moved hW.alike hK, hD⟩, hS.F ht⟩) hS.2.2 d_M_size_27
    · have hf := og_f hf c_14
      refine lv_iconst (v := 0) hx hb d_M_size_17 (by decide) ?_
      refine lv_goto (tgt := 27) hx hb d_M_size_18 (by decide) ?_
      obtain rfl := Option.some.inj hf
      exact W.iret (v := 0) hx hb hr (fun t ht hW => ⟨⟨0, (), rfl, rfl, by rw [ht]; exact hP, va_K.moved hW.alike hK, hD⟩, hS.F ht⟩) hS.2.2 d_M_size_27
def wM_met (a : Nat → Nat) (k : Nat → ClassId) (M_code : Int32) (M_keys : Int32) (M_edges : Int32) (M_thenKeys : Int32) (M_thenEdges : Int32) (M_configuration : Int32) (M_parts : Int32) (M_rings : Int32) (M_metSize : Int32) (M_way : (Nat → Int32)) : va_W := [(a 0, .inr (6, [.int M_code, .int M_keys, .int M_edges, .ref (a 1), .ref (a 2), .ref (a 3), .ref (a 4), .ref (a 5), .ref (a 6), .int M_thenKeys, .int M_thenEdges, .int M_configuration, .ref (a 7), .ref (a 8), .ref (a 9), .ref (a 10), .ref (a 11), .ref (a 12), .ref (a 13), .ref (a 14), .int M_parts, .int M_rings, .ref (a 15), .ref (a 16), .ref (a 17), .int M_metSize, .ref (a 18), .ref (a 19), .ref (a 20)])), (a 18, .inl (k 18, 40, .inl M_way))]
def tM_met (k : Nat → ClassId) : List (ClassId × FieldType) := [(k 18, .int)]
set_option maxHeartbeats 4000000 in
set_option maxRecDepth 100000 in
theorem c_M_met (l : Launch) (dC : Nat → ClassId) (dI : Nat → Nat → Nat) (a : Nat → Nat) (k : Nat → ClassId) (sz : Nat) (M_code : Int32) (M_keys : Int32) (M_edges : Int32) (M_thenKeys : Int32) (M_thenEdges : Int32) (M_configuration : Int32) (M_parts : Int32) (M_rings : Int32) (M_metSize : Int32) (M_way : (Nat → Int32)) (p1 : Int32) (y : Int32 × Int32) (hf : fM_met M_code M_metSize M_way p1 = some y) : Met l y_M_met ws_M_met ({ frames := 0, cells := 0, slots := 0, locals := 0 }) (og_Pw [.ref (a 0), .int p1] (dC, dI) (wM_met a k M_code M_keys M_edges M_thenKeys M_thenEdges M_configuration M_parts M_rings M_metSize M_way) (tM_met k) sz) (og_Qi (dC, dI) (wM_met a k y.2 M_keys M_edges M_thenKeys M_thenEdges M_configuration M_parts M_rings M_metSize M_way) (tM_met k) y.1 (va_A (wM_met a k M_code M_keys M_edges M_thenKeys M_thenEdges M_configuration M_parts M_rings M_metSize M_way) sz)) 0 0 (va_A (wM_met a k M_code M_keys M_edges M_thenKeys M_thenEdges M_configuration M_parts M_rings M_metSize M_way) sz) := by
  refine Met.ofW (cc := b_M_met) (maxL := 2) (ret := (some .int)) (by decide) rfl ?_
  intro p e s m args below meth c s₁ B hml hv
  obtain ⟨rfl, hsz, hP, hK, hD0⟩ := hv
  have hx := B.exec
  have hb := B.bytes
  have hr := B.returns
  have hts0 := atoms_spec (ws := ws_M_met) B.pre
  have hts : ∀ w ∈ og_tb, w.before _ s = true := fun w h => hts0 w (List.mem_cons_of_mem _ h)
  have hown : s.vm.findClass R_M = some m.cls := findClass_of_methodNamed B.named
  have hlocks := B.notSynchronized
  subst hsz
  have hD := hD0.self (sz := s.heap.size)
  generalize hAe : va_A (wM_met a k M_code M_keys M_edges M_thenKeys M_thenEdges M_configuration M_parts M_rings M_metSize M_way) s.heap.size = A at hD ⊢
  have hA : ∀ q : Nat, s.heap.size ≤ q → A q := fun q h => by rw [← hAe]; exact Or.inr h
  have hS : va_S A s.heap s.heap [] := va_S.rf
  have hl := lv_entry ([.ref (a 0), .int p1]) (n := 2) (Nat.le_of_ble_eq_true rfl)
  rw [lg_entry_eq]
  generalize (lg_sl ([.ref (a 0), .int p1]) ++ List.replicate (2 - (lg_sl ([.ref (a 0), .int p1])).length) Slot.unset).toArray = ls at hl ⊢
  have hl : lv_has ls 2 [(0, .ref (a 0)), (1, .int p1)] := hl
  rw [fM_met] at hf
  refine lv_aload_n hx hb d_M_met_0 rfl (lv_at hl 0 rfl) ?_
  refine lv_iconst (v := 0) hx hb d_M_met_1 (by decide) ?_
  refine vs_M_code (v := 0) hx hb hts hown hK hP hD hS 0 rfl (hts _ tb_254) (Nat.le_of_ble_eq_true rfl) d_M_met_2 (fun H locs hP hD hS => ?_)
  have hP : va_P (dC, dI) vwCl (wM_met a k 0 M_keys M_edges M_thenKeys M_thenEdges M_configuration M_parts M_rings M_metSize M_way) H := hP
  have hD : va_D A (wM_met a k 0 M_keys M_edges M_thenKeys M_thenEdges M_configuration M_parts M_rings M_metSize M_way) := hD
  refine lv_iload_n hx hb d_M_met_5 rfl (lv_at hl 1 rfl) ?_
  refine lv_if_lt (tgt := 17) hx hb d_M_met_6 (by decide) (fun c_6 => ?_) (fun c_6 => ?_)
  · have hf := og_t hf c_6
    refine lv_iconst (v := (-1)) hx hb d_M_met_17 (by decide) ?_
    refine lv_goto (tgt := 27) hx hb d_M_met_18 (by decide) ?_
    obtain rfl := Option.some.inj hf
    exact W.iret (v := (-1)) hx hb hr (fun t ht hW => ⟨⟨(-1), (), rfl, rfl, by rw [ht]; exact hP, va_K.moved hW.alike hK, hD⟩, hS.F ht⟩) hS.2.2 d_M_met_27
  · have hf := og_f hf c_6
    refine lv_iload_n hx hb d_M_met_9 rfl (lv_at hl 1 rfl) ?_
    refine lv_aload_n hx hb d_M_met_10 rfl (lv_at hl 0 rfl) ?_
    refine vg_M_metSize (v := .int M_metSize) hx hb hts hown hK hP 0 rfl (hts _ tb_334) rfl d_M_met_11 ?_
    refine lv_icmp_lt (tgt := 21) hx hb d_M_met_14 (by decide) (fun c_14 => ?_) (fun c_14 => ?_)
    · have hf := og_t hf c_14
      refine lv_aload_n hx hb d_M_met_21 rfl (lv_at hl 0 rfl) ?_
      refine vg_M_way (v := .ref (a 18)) hx hb hts hown hK hP 0 rfl (hts _ tb_335) rfl d_M_met_22 ?_
      refine lv_iload_n hx hb d_M_met_25 rfl (lv_at hl 1 rfl) ?_
      obtain ⟨h_26, hf⟩ := og_ck_s hf
      refine va_iald hx hb hK hP 1 0 rfl rfl h_26 d_M_met_26 ?_
      obtain rfl := Option.some.inj hf
      exact W.iret (v := (M_way p1.toNatClampNeg)) hx hb hr (fun t ht hW => ⟨⟨(M_way p1.toNatClampNeg), (), rfl, rfl, by rw [ht]; exact hP, va_K.moved hW.alike hK, hD⟩, hS.F ht⟩) hS.2.2 d_M_met_27
    · have hf := og_f hf c_14
      refine lv_iconst (v := (-1)) hx hb d_M_met_17 (by decide) ?_
      refine lv_goto (tgt := 27) hx hb d_M_met_18 (by decide) ?_
      obtain rfl := Option.some.inj hf
      exact W.iret (v := (-1)) hx hb hr (fun t ht hW => ⟨⟨(-1), (), rfl, rfl, by rw [ht]; exact hP, va_K.moved hW.alike hK, hD⟩, hS.F ht⟩) hS.2.2 d_M_met_27
def wM_keyOf (a : Nat → Nat) (k : Nat → ClassId) (M_code : Int32) (M_keys : Int32) (M_edges : Int32) (M_thenKeys : Int32) (M_thenEdges : Int32) (M_configuration : Int32) (M_parts : Int32) (M_rings : Int32) (M_metSize : Int32) (M_order : (Nat → Int32)) (M_ringSize : (Nat → Int32)) (M_ring : (Nat → Int32)) : va_W := [(a 0, .inr (6, [.int M_code, .int M_keys, .int M_edges, .ref (a 1), .ref (a 2), .ref (a 3), .ref (a 4), .ref (a 5), .ref (a 6), .int M_thenKeys, .int M_thenEdges, .int M_configuration, .ref (a 7), .ref (a 8), .ref (a 9), .ref (a 10), .ref (a 11), .ref (a 12), .ref (a 13), .ref (a 14), .int M_parts, .int M_rings, .ref (a 15), .ref (a 16), .ref (a 17), .int M_metSize, .ref (a 18), .ref (a 19), .ref (a 20)])), (a 8, .inl (k 8, 40, .inl M_order)), (a 15, .inl (k 15, 40, .inl M_ringSize)), (a 16, .inl (k 16, 1600, .inl M_ring))]
def tM_keyOf (k : Nat → ClassId) : List (ClassId × FieldType) := [(k 8, .int), (k 15, .int), (k 16, .int)]
set_option maxHeartbeats 4000000 in
set_option maxRecDepth 100000 in
theorem c_M_keyOf (l : Launch) (dC : Nat → ClassId) (dI : Nat → Nat → Nat) (a : Nat → Nat) (k : Nat → ClassId) (M_code : Int32) (M_keys : Int32) (M_edges : Int32) (M_thenKeys : Int32) (M_thenEdges : Int32) (M_configuration : Int32) (M_parts : Int32) (M_rings : Int32) (M_metSize : Int32) (M_order : (Nat → Int32)) (M_ringSize : (Nat → Int32)) (M_ring : (Nat → Int32)) (p1 : Int32) (p2 : Int32) (y : Int32) (hf : fM_keyOf M_order M_ringSize M_ring p1 p2 = some y) : Met l y_M_keyOf ws_M_keyOf ({ frames := 1, cells := 0, slots := 0, locals := 21 }) (og_Pr [.ref (a 0), .int p1, .int p2] (dC, dI) (wM_keyOf a k M_code M_keys M_edges M_thenKeys M_thenEdges M_configuration M_parts M_rings M_metSize M_order M_ringSize M_ring) (tM_keyOf k)) (vp_Si (fun x => x = y)) 0 0 (fun _ => False) := by
  refine Met.ofW (cc := b_M_keyOf) (maxL := 3) (ret := (some .int)) (by decide) rfl ?_
  intro p e s m args below meth c s₁ B hml hv
  obtain ⟨rfl, hP, hK⟩ := hv
  have hx := B.exec
  have hb := B.bytes
  have hr := B.returns
  have hts0 := atoms_spec (ws := ws_M_keyOf) B.pre
  have hts : ∀ w ∈ og_tb, w.before _ s = true := fun w h => hts0 w (List.mem_cons_of_mem _ h)
  have hown : s.vm.findClass R_M = some m.cls := findClass_of_methodNamed B.named
  have hlocks := B.notSynchronized
  have hl := lv_entry ([.ref (a 0), .int p1, .int p2]) (n := 3) (Nat.le_of_ble_eq_true rfl)
  rw [lg_entry_eq]
  generalize (lg_sl ([.ref (a 0), .int p1, .int p2]) ++ List.replicate (3 - (lg_sl ([.ref (a 0), .int p1, .int p2])).length) Slot.unset).toArray = ls at hl ⊢
  have hl : lv_has ls 3 [(0, .ref (a 0)), (1, .int p1), (2, .int p2)] := hl
  rw [fM_keyOf] at hf
  refine lv_aload_n hx hb d_M_keyOf_0 rfl (lv_at hl 0 rfl) ?_
  refine vg_M_order (v := .ref (a 8)) hx hb hts hown hK hP 0 rfl (hts _ tb_268) rfl d_M_keyOf_1 ?_
  refine lv_aload_n hx hb d_M_keyOf_4 rfl (lv_at hl 0 rfl) ?_
  refine vg_M_ring (v := .ref (a 16)) hx hb hts hown hK hP 0 rfl (hts _ tb_297) rfl d_M_keyOf_5 ?_
  refine lv_iload_n hx hb d_M_keyOf_8 rfl (lv_at hl 1 rfl) ?_
  refine lv_iload_n hx hb d_M_keyOf_9 rfl (lv_at hl 2 rfl) ?_
  refine lv_aload_n hx hb d_M_keyOf_10 rfl (lv_at hl 0 rfl) ?_
  refine vg_M_ringSize (v := .ref (a 15)) hx hb hts hown hK hP 0 rfl (hts _ tb_295) rfl d_M_keyOf_11 ?_
  refine lv_iload_n hx hb d_M_keyOf_14 rfl (lv_at hl 1 rfl) ?_
  obtain ⟨h_15, hf⟩ := og_ck_s hf
  refine va_iald hx hb hK hP 2 1 rfl rfl h_15 d_M_keyOf_15 ?_
  obtain ⟨h_16, hf⟩ := og_nz_s hf
  refine lv_irem hx hb d_M_keyOf_16 h_16 ?_
  obtain ⟨r17, e_17, hf⟩ := og_b hf
  refine og_rS (w := (wM_keyOf a k M_code M_keys M_edges M_thenKeys M_thenEdges M_configuration M_parts M_rings M_metSize M_order M_ringSize M_ring)) (As := [.int p1, .int (p2 - p2 / (M_ringSize p1.toNatClampNeg) * (M_ringSize p1.toNatClampNeg))]) (rest := [.ref (a 16), .ref (a 8)]) ⟨hx, hb, hml, hown, hts⟩ (c_M_cell l dC dI a k p1 (p2 - p2 / (M_ringSize p1.toNatClampNeg) * (M_ringSize p1.toNatClampNeg)) r17 e_17) (va_cwS 2 hts (og_gS tb_273 tb_274 tb_259 tb_275) rfl rfl rfl (by decide +kernel) ⟨Nat.le_of_ble_eq_true rfl, Nat.le_of_ble_eq_true rfl⟩) hK hP [] [] trivial rfl rfl hl.1 rfl (Nat.le_of_ble_eq_true rfl) d_M_keyOf_17 ⟨Nat.zero_le _, Nat.zero_le _⟩ ?_
  obtain ⟨h_20, hf⟩ := og_ck_s hf
  refine va_iald hx hb hK hP 3 2 rfl rfl h_20 d_M_keyOf_20 ?_
  obtain ⟨h_21, hf⟩ := og_ck_s hf
  refine va_iald hx hb hK hP 1 0 rfl rfl h_21 d_M_keyOf_21 ?_
  obtain rfl := Option.some.inj hf
  exact W.iret (v := (M_order (M_ring r17.toNatClampNeg).toNatClampNeg)) hx hb hr (fun t ht hW => ⟨(M_order (M_ring r17.toNatClampNeg).toNatClampNeg), rfl, rfl, ht⟩) (fun _ h => absurd h List.not_mem_nil) d_M_keyOf_22
def wM_isThere (a : Nat → Nat) (k : Nat → ClassId) (M_code : Int32) (M_keys : Int32) (M_edges : Int32) (M_thenKeys : Int32) (M_thenEdges : Int32) (M_configuration : Int32) (M_parts : Int32) (M_rings : Int32) (M_metSize : Int32) : va_W := [(a 0, .inr (6, [.int M_code, .int M_keys, .int M_edges, .ref (a 1), .ref (a 2), .ref (a 3), .ref (a 4), .ref (a 5), .ref (a 6), .int M_thenKeys, .int M_thenEdges, .int M_configuration, .ref (a 7), .ref (a 8), .ref (a 9), .ref (a 10), .ref (a 11), .ref (a 12), .ref (a 13), .ref (a 14), .int M_parts, .int M_rings, .ref (a 15), .ref (a 16), .ref (a 17), .int M_metSize, .ref (a 18), .ref (a 19), .ref (a 20)]))]
def tM_isThere (k : Nat → ClassId) : List (ClassId × FieldType) := []
set_option maxHeartbeats 4000000 in
set_option maxRecDepth 100000 in
theorem c_M_isThere (l : Launch) (dC : Nat → ClassId) (dI : Nat → Nat → Nat) (a : Nat → Nat) (k : Nat → ClassId) (M_code : Int32) (M_keys : Int32) (M_edges : Int32) (M_thenKeys : Int32) (M_thenEdges : Int32) (M_configuration : Int32) (M_parts : Int32) (M_rings : Int32) (M_metSize : Int32) (p1 : Int32) (y : Int32) (hf : fM_isThere M_thenKeys M_configuration p1 = some y) : Met l y_M_isThere ws_M_isThere ({ frames := 0, cells := 0, slots := 0, locals := 0 }) (og_Pr [.ref (a 0), .int p1] (dC, dI) (wM_isThere a k M_code M_keys M_edges M_thenKeys M_thenEdges M_configuration M_parts M_rings M_metSize) (tM_isThere k)) (vp_Si (fun x => x = y)) 0 0 (fun _ => False) := by
  refine Met.ofW (cc := b_M_isThere) (maxL := 2) (ret := (some .boolean)) (by decide) rfl ?_
  intro p e s m args below meth c s₁ B hml hv
  obtain ⟨rfl, hP, hK⟩ := hv
  have hx := B.exec
  have hb := B.bytes
  have hr := B.returns
  have hts0 := atoms_spec (ws := ws_M_isThere) B.pre
  have hts : ∀ w ∈ og_tb, w.before _ s = true := fun w h => hts0 w (List.mem_cons_of_mem _ h)
  have hown : s.vm.findClass R_M = some m.cls := findClass_of_methodNamed B.named
  have hlocks := B.notSynchronized
  have hl := lv_entry ([.ref (a 0), .int p1]) (n := 2) (Nat.le_of_ble_eq_true rfl)
  rw [lg_entry_eq]
  generalize (lg_sl ([.ref (a 0), .int p1]) ++ List.replicate (2 - (lg_sl ([.ref (a 0), .int p1])).length) Slot.unset).toArray = ls at hl ⊢
  have hl : lv_has ls 2 [(0, .ref (a 0)), (1, .int p1)] := hl
  rw [fM_isThere] at hf
  refine lv_aload_n hx hb d_M_isThere_0 rfl (lv_at hl 0 rfl) ?_
  refine vg_M_configuration (v := .int M_configuration) hx hb hts hown hK hP 0 rfl (hts _ tb_277) rfl d_M_isThere_1 ?_
  refine lv_iconst (v := (-1)) hx hb d_M_isThere_4 (by decide) ?_
  refine lv_icmp_eq (tgt := 24) hx hb d_M_isThere_5 (by decide) (fun c_5 => ?_) (fun c_5 => ?_)
  · have hf := og_t hf c_5
    refine lv_iconst (v := 0) hx hb d_M_isThere_24 (by decide) ?_
    obtain rfl := Option.some.inj hf
    exact W.zret (v := 0) hx hb hr rfl (fun t ht hW => ⟨0, rfl, rfl, ht⟩) (fun _ h => absurd h List.not_mem_nil) d_M_isThere_25
  · have hf := og_f hf c_5
    refine lv_iload_n hx hb d_M_isThere_8 rfl (lv_at hl 1 rfl) ?_
    refine lv_if_lt (tgt := 24) hx hb d_M_isThere_9 (by decide) (fun c_9 => ?_) (fun c_9 => ?_)
    · have hf := og_t hf c_9
      refine lv_iconst (v := 0) hx hb d_M_isThere_24 (by decide) ?_
      obtain rfl := Option.some.inj hf
      exact W.zret (v := 0) hx hb hr rfl (fun t ht hW => ⟨0, rfl, rfl, ht⟩) (fun _ h => absurd h List.not_mem_nil) d_M_isThere_25
    · have hf := og_f hf c_9
      refine lv_iload_n hx hb d_M_isThere_12 rfl (lv_at hl 1 rfl) ?_
      refine lv_aload_n hx hb d_M_isThere_13 rfl (lv_at hl 0 rfl) ?_
      refine vg_M_thenKeys (v := .int M_thenKeys) hx hb hts hown hK hP 0 rfl (hts _ tb_272) rfl d_M_isThere_14 ?_
      refine lv_icmp_ge (tgt := 24) hx hb d_M_isThere_17 (by decide) (fun c_17 => ?_) (fun c_17 => ?_)
      · have hf := og_t hf c_17
        refine lv_iconst (v := 0) hx hb d_M_isThere_24 (by decide) ?_
        obtain rfl := Option.some.inj hf
        exact W.zret (v := 0) hx hb hr rfl (fun t ht hW => ⟨0, rfl, rfl, ht⟩) (fun _ h => absurd h List.not_mem_nil) d_M_isThere_25
      · have hf := og_f hf c_17
        refine lv_iconst (v := 1) hx hb d_M_isThere_20 (by decide) ?_
        refine lv_goto (tgt := 25) hx hb d_M_isThere_21 (by decide) ?_
        obtain rfl := Option.some.inj hf
        exact W.zret (v := 1) hx hb hr rfl (fun t ht hW => ⟨1, rfl, rfl, ht⟩) (fun _ h => absurd h List.not_mem_nil) d_M_isThere_25
def wM_isRinged (a : Nat → Nat) (k : Nat → ClassId) (M_code : Int32) (M_keys : Int32) (M_edges : Int32) (M_thenKeys : Int32) (M_thenEdges : Int32) (M_configuration : Int32) (M_parts : Int32) (M_rings : Int32) (M_metSize : Int32) (M_reaches : (Nat → Int32)) : va_W := [(a 0, .inr (6, [.int M_code, .int M_keys, .int M_edges, .ref (a 1), .ref (a 2), .ref (a 3), .ref (a 4), .ref (a 5), .ref (a 6), .int M_thenKeys, .int M_thenEdges, .int M_configuration, .ref (a 7), .ref (a 8), .ref (a 9), .ref (a 10), .ref (a 11), .ref (a 12), .ref (a 13), .ref (a 14), .int M_parts, .int M_rings, .ref (a 15), .ref (a 16), .ref (a 17), .int M_metSize, .ref (a 18), .ref (a 19), .ref (a 20)])), (a 13, .inl (k 13, 1600, .inl M_reaches))]
def tM_isRinged (k : Nat → ClassId) : List (ClassId × FieldType) := [(k 13, .boolean)]
set_option maxHeartbeats 4000000 in
set_option maxRecDepth 100000 in
theorem c_M_isRinged (l : Launch) (dC : Nat → ClassId) (dI : Nat → Nat → Nat) (a : Nat → Nat) (k : Nat → ClassId) (M_code : Int32) (M_keys : Int32) (M_edges : Int32) (M_thenKeys : Int32) (M_thenEdges : Int32) (M_configuration : Int32) (M_parts : Int32) (M_rings : Int32) (M_metSize : Int32) (M_reaches : (Nat → Int32)) (p1 : Int32) (y : Int32) (hf : fM_isRinged M_reaches p1 = some y) : Met l y_M_isRinged ws_M_isRinged ({ frames := 1, cells := 0, slots := 0, locals := 21 }) (og_Pr [.ref (a 0), .int p1] (dC, dI) (wM_isRinged a k M_code M_keys M_edges M_thenKeys M_thenEdges M_configuration M_parts M_rings M_metSize M_reaches) (tM_isRinged k)) (vp_Si (fun x => x = y)) 0 0 (fun _ => False) := by
  refine Met.ofW (cc := b_M_isRinged) (maxL := 2) (ret := (some .boolean)) (by decide) rfl ?_
  intro p e s m args below meth c s₁ B hml hv
  obtain ⟨rfl, hP, hK⟩ := hv
  have hx := B.exec
  have hb := B.bytes
  have hr := B.returns
  have hts0 := atoms_spec (ws := ws_M_isRinged) B.pre
  have hts : ∀ w ∈ og_tb, w.before _ s = true := fun w h => hts0 w (List.mem_cons_of_mem _ h)
  have hown : s.vm.findClass R_M = some m.cls := findClass_of_methodNamed B.named
  have hlocks := B.notSynchronized
  have hl := lv_entry ([.ref (a 0), .int p1]) (n := 2) (Nat.le_of_ble_eq_true rfl)
  rw [lg_entry_eq]
  generalize (lg_sl ([.ref (a 0), .int p1]) ++ List.replicate (2 - (lg_sl ([.ref (a 0), .int p1])).length) Slot.unset).toArray = ls at hl ⊢
  have hl : lv_has ls 2 [(0, .ref (a 0)), (1, .int p1)] := hl
  rw [fM_isRinged] at hf
  refine lv_aload_n hx hb d_M_isRinged_0 rfl (lv_at hl 0 rfl) ?_
  refine vg_M_reaches (v := .ref (a 13)) hx hb hts hown hK hP 0 rfl (hts _ tb_270) rfl d_M_isRinged_1 ?_
  refine lv_iload_n hx hb d_M_isRinged_4 rfl (lv_at hl 1 rfl) ?_
  refine lv_iload_n hx hb d_M_isRinged_5 rfl (lv_at hl 1 rfl) ?_
  obtain ⟨r6, e_6, hf⟩ := og_b hf
  refine og_rS (w := (wM_isRinged a k M_code M_keys M_edges M_thenKeys M_thenEdges M_configuration M_parts M_rings M_metSize M_reaches)) (As := [.int p1, .int p1]) (rest := [.ref (a 13)]) ⟨hx, hb, hml, hown, hts⟩ (c_M_cell l dC dI a k p1 p1 r6 e_6) (va_cwS 2 hts (og_gS tb_273 tb_274 tb_259 tb_275) rfl rfl rfl (by decide +kernel) ⟨Nat.le_of_ble_eq_true rfl, Nat.le_of_ble_eq_true rfl⟩) hK hP [] [] trivial rfl rfl hl.1 rfl (Nat.le_of_ble_eq_true rfl) d_M_isRinged_6 ⟨Nat.zero_le _, Nat.zero_le _⟩ ?_
  obtain ⟨h_9, hf⟩ := og_ck_s hf
  refine va_zald hx hb hK hP 1 0 rfl rfl h_9 d_M_isRinged_9 ?_
  obtain ⟨h_b, hf⟩ := og_bl_s hf
  obtain rfl := Option.some.inj hf
  exact W.zret (v := (M_reaches r6.toNatClampNeg)) hx hb hr h_b (fun t ht hW => ⟨(M_reaches r6.toNatClampNeg), rfl, rfl, ht⟩) (fun _ h => absurd h List.not_mem_nil) d_M_isRinged_10
def wM_strong (a : Nat → Nat) (k : Nat → ClassId) (M_code : Int32) (M_keys : Int32) (M_edges : Int32) (M_thenKeys : Int32) (M_thenEdges : Int32) (M_configuration : Int32) (M_parts : Int32) (M_rings : Int32) (M_metSize : Int32) (M_rank : (Nat → Int32)) (M_part : (Nat → Int32)) : va_W := [(a 0, .inr (6, [.int M_code, .int M_keys, .int M_edges, .ref (a 1), .ref (a 2), .ref (a 3), .ref (a 4), .ref (a 5), .ref (a 6), .int M_thenKeys, .int M_thenEdges, .int M_configuration, .ref (a 7), .ref (a 8), .ref (a 9), .ref (a 10), .ref (a 11), .ref (a 12), .ref (a 13), .ref (a 14), .int M_parts, .int M_rings, .ref (a 15), .ref (a 16), .ref (a 17), .int M_metSize, .ref (a 18), .ref (a 19), .ref (a 20)])), (a 9, .inl (k 9, 40, .inl M_rank)), (a 10, .inl (k 10, 40, .inl M_part))]
def tM_strong (k : Nat → ClassId) : List (ClassId × FieldType) := [(k 9, .int), (k 10, .int)]
set_option maxHeartbeats 4000000 in
set_option maxRecDepth 100000 in
theorem c_M_strong (l : Launch) (dC : Nat → ClassId) (dI : Nat → Nat → Nat) (a : Nat → Nat) (k : Nat → ClassId) (sz : Nat) (M_code : Int32) (M_keys : Int32) (M_edges : Int32) (M_thenKeys : Int32) (M_thenEdges : Int32) (M_configuration : Int32) (M_parts : Int32) (M_rings : Int32) (M_metSize : Int32) (M_rank : (Nat → Int32)) (M_part : (Nat → Int32)) (p1 : Int32) (y : Int32 × Int32) (hf : fM_strong M_code M_thenKeys M_configuration M_rank M_part p1 = some y) : Met l y_M_strong ws_M_strong ({ frames := 1, cells := 0, slots := 0, locals := 21 }) (og_Pw [.ref (a 0), .int p1] (dC, dI) (wM_strong a k M_code M_keys M_edges M_thenKeys M_thenEdges M_configuration M_parts M_rings M_metSize M_rank M_part) (tM_strong k) sz) (og_Qi (dC, dI) (wM_strong a k y.2 M_keys M_edges M_thenKeys M_thenEdges M_configuration M_parts M_rings M_metSize M_rank M_part) (tM_strong k) y.1 (va_A (wM_strong a k M_code M_keys M_edges M_thenKeys M_thenEdges M_configuration M_parts M_rings M_metSize M_rank M_part) sz)) 0 0 (va_A (wM_strong a k M_code M_keys M_edges M_thenKeys M_thenEdges M_configuration M_parts M_rings M_metSize M_rank M_part) sz) := by
  refine Met.ofW (cc := b_M_strong) (maxL := 2) (ret := (some .int)) (by decide) rfl ?_
  intro p e s m args below meth c s₁ B hml hv
  obtain ⟨rfl, hsz, hP, hK, hD0⟩ := hv
  have hx := B.exec
  have hb := B.bytes
  have hr := B.returns
  have hts0 := atoms_spec (ws := ws_M_strong) B.pre
  have hts : ∀ w ∈ og_tb, w.before _ s = true := fun w h => hts0 w (List.mem_cons_of_mem _ h)
  have hown : s.vm.findClass R_M = some m.cls := findClass_of_methodNamed B.named
  have hlocks := B.notSynchronized
  subst hsz
  have hD := hD0.self (sz := s.heap.size)
  generalize hAe : va_A (wM_strong a k M_code M_keys M_edges M_thenKeys M_thenEdges M_configuration M_parts M_rings M_metSize M_rank M_part) s.heap.size = A at hD ⊢
  have hA : ∀ q : Nat, s.heap.size ≤ q → A q := fun q h => by rw [← hAe]; exact Or.inr h
  have hS : va_S A s.heap s.heap [] := va_S.rf
  have hl := lv_entry ([.ref (a 0), .int p1]) (n := 2) (Nat.le_of_ble_eq_true rfl)
  rw [lg_entry_eq]
  generalize (lg_sl ([.ref (a 0), .int p1]) ++ List.replicate (2 - (lg_sl ([.ref (a 0), .int p1])).length) Slot.unset).toArray = ls at hl ⊢
  have hl : lv_has ls 2 [(0, .ref (a 0)), (1, .int p1)] := hl
  rw [fM_strong] at hf
  refine lv_aload_n hx hb d_M_strong_0 rfl (lv_at hl 0 rfl) ?_
  refine lv_iconst (v := 0) hx hb d_M_strong_1 (by decide) ?_
  refine vs_M_code (v := 0) hx hb hts hown hK hP hD hS 0 rfl (hts _ tb_254) (Nat.le_of_ble_eq_true rfl) d_M_strong_2 (fun H locs hP hD hS => ?_)
  have hP : va_P (dC, dI) vwCl (wM_strong a k 0 M_keys M_edges M_thenKeys M_thenEdges M_configuration M_parts M_rings M_metSize M_rank M_part) H := hP
  have hD : va_D A (wM_strong a k 0 M_keys M_edges M_thenKeys M_thenEdges M_configuration M_parts M_rings M_metSize M_rank M_part) := hD
  refine lv_aload_n hx hb d_M_strong_5 rfl (lv_at hl 0 rfl) ?_
  refine lv_iload_n hx hb d_M_strong_6 rfl (lv_at hl 1 rfl) ?_
  obtain ⟨r7, e_7, hf⟩ := og_b hf
  refine og_rV (w := (wM_strong a k 0 M_keys M_edges M_thenKeys M_thenEdges M_configuration M_parts M_rings M_metSize M_rank M_part)) (As := [.int p1]) (rest := []) (ci := 6) (q0 := 0) ⟨hx, hb, hml, hown, hts⟩ (c_M_isThere l dC dI a k 0 M_keys M_edges M_thenKeys M_thenEdges M_configuration M_parts M_rings M_metSize p1 r7 e_7) (cwV 1 hts (og_gV tb_326 tb_327 tb_328 tb_259 tb_329) rfl rfl rfl (by decide +kernel) ⟨Nat.le_of_ble_eq_true rfl, Nat.le_of_ble_eq_true rfl⟩) hK hP [0] [] ⟨rfl, trivial⟩ rfl rfl rfl rfl rfl hl.1 rfl (Nat.le_of_ble_eq_true rfl) d_M_strong_7 ⟨Nat.zero_le _, Nat.zero_le _⟩ ?_
  refine lv_if_eq (tgt := 27) hx hb d_M_strong_10 (by decide) (fun c_10 => ?_) (fun c_10 => ?_)
  · have hf := og_t hf c_10
    refine lv_iconst (v := (-1)) hx hb d_M_strong_27 (by decide) ?_
    obtain rfl := Option.some.inj hf
    exact W.iret (v := (-1)) hx hb hr (fun t ht hW => ⟨⟨(-1), (), rfl, rfl, by rw [ht]; exact hP, va_K.moved hW.alike hK, hD⟩, hS.F ht⟩) hS.2.2 d_M_strong_28
  · have hf := og_f hf c_10
    refine lv_aload_n hx hb d_M_strong_13 rfl (lv_at hl 0 rfl) ?_
    refine vg_M_part (v := .ref (a 10)) hx hb hts hown hK hP 0 rfl (hts _ tb_284) rfl d_M_strong_14 ?_
    refine lv_aload_n hx hb d_M_strong_17 rfl (lv_at hl 0 rfl) ?_
    refine vg_M_rank (v := .ref (a 9)) hx hb hts hown hK hP 0 rfl (hts _ tb_269) rfl d_M_strong_18 ?_
    refine lv_iload_n hx hb d_M_strong_21 rfl (lv_at hl 1 rfl) ?_
    obtain ⟨h_22, hf⟩ := og_ck_s hf
    refine va_iald hx hb hK hP 1 0 rfl rfl h_22 d_M_strong_22 ?_
    obtain ⟨h_23, hf⟩ := og_ck_s hf
    refine va_iald hx hb hK hP 2 1 rfl rfl h_23 d_M_strong_23 ?_
    refine lv_goto (tgt := 28) hx hb d_M_strong_24 (by decide) ?_
    obtain rfl := Option.some.inj hf
    exact W.iret (v := (M_part (M_rank p1.toNatClampNeg).toNatClampNeg)) hx hb hr (fun t ht hW => ⟨⟨(M_part (M_rank p1.toNatClampNeg).toNatClampNeg), (), rfl, rfl, by rw [ht]; exact hP, va_K.moved hW.alike hK, hD⟩, hS.F ht⟩) hS.2.2 d_M_strong_28
def wM_least (a : Nat → Nat) (k : Nat → ClassId) (M_code : Int32) (M_keys : Int32) (M_edges : Int32) (M_thenKeys : Int32) (M_thenEdges : Int32) (M_configuration : Int32) (M_parts : Int32) (M_rings : Int32) (M_metSize : Int32) (M_rank : (Nat → Int32)) (M_shortest : (Nat → Int32)) : va_W := [(a 0, .inr (6, [.int M_code, .int M_keys, .int M_edges, .ref (a 1), .ref (a 2), .ref (a 3), .ref (a 4), .ref (a 5), .ref (a 6), .int M_thenKeys, .int M_thenEdges, .int M_configuration, .ref (a 7), .ref (a 8), .ref (a 9), .ref (a 10), .ref (a 11), .ref (a 12), .ref (a 13), .ref (a 14), .int M_parts, .int M_rings, .ref (a 15), .ref (a 16), .ref (a 17), .int M_metSize, .ref (a 18), .ref (a 19), .ref (a 20)])), (a 9, .inl (k 9, 40, .inl M_rank)), (a 11, .inl (k 11, 40, .inl M_shortest))]
def tM_least (k : Nat → ClassId) : List (ClassId × FieldType) := [(k 9, .int), (k 11, .int)]
set_option maxHeartbeats 4000000 in
set_option maxRecDepth 100000 in
theorem c_M_least (l : Launch) (dC : Nat → ClassId) (dI : Nat → Nat → Nat) (a : Nat → Nat) (k : Nat → ClassId) (sz : Nat) (M_code : Int32) (M_keys : Int32) (M_edges : Int32) (M_thenKeys : Int32) (M_thenEdges : Int32) (M_configuration : Int32) (M_parts : Int32) (M_rings : Int32) (M_metSize : Int32) (M_rank : (Nat → Int32)) (M_shortest : (Nat → Int32)) (p1 : Int32) (y : Int32 × Int32) (hf : fM_least M_code M_thenKeys M_configuration M_rank M_shortest p1 = some y) : Met l y_M_least ws_M_least ({ frames := 1, cells := 0, slots := 0, locals := 21 }) (og_Pw [.ref (a 0), .int p1] (dC, dI) (wM_least a k M_code M_keys M_edges M_thenKeys M_thenEdges M_configuration M_parts M_rings M_metSize M_rank M_shortest) (tM_least k) sz) (og_Qi (dC, dI) (wM_least a k y.2 M_keys M_edges M_thenKeys M_thenEdges M_configuration M_parts M_rings M_metSize M_rank M_shortest) (tM_least k) y.1 (va_A (wM_least a k M_code M_keys M_edges M_thenKeys M_thenEdges M_configuration M_parts M_rings M_metSize M_rank M_shortest) sz)) 0 0 (va_A (wM_least a k M_code M_keys M_edges M_thenKeys M_thenEdges M_configuration M_parts M_rings M_metSize M_rank M_shortest) sz) := by
  refine Met.ofW (cc := b_M_least) (maxL := 2) (ret := (some .int)) (by decide) rfl ?_
  intro p e s m args below meth c s₁ B hml hv
  obtain ⟨rfl, hsz, hP, hK, hD0⟩ := hv
  have hx := B.exec
  have hb := B.bytes
  have hr := B.returns
  have hts0 := atoms_spec (ws := ws_M_least) B.pre
  have hts : ∀ w ∈ og_tb, w.before _ s = true := fun w h => hts0 w (List.mem_cons_of_mem _ h)
  have hown : s.vm.findClass R_M = some m.cls := findClass_of_methodNamed B.named
  have hlocks := B.notSynchronized
  subst hsz
  have hD := hD0.self (sz := s.heap.size)
  generalize hAe : va_A (wM_least a k M_code M_keys M_edges M_thenKeys M_thenEdges M_configuration M_parts M_rings M_metSize M_rank M_shortest) s.heap.size = A at hD ⊢
  have hA : ∀ q : Nat, s.heap.size ≤ q → A q := fun q h => by rw [← hAe]; exact Or.inr h
  have hS : va_S A s.heap s.heap [] := va_S.rf
  have hl := lv_entry ([.ref (a 0), .int p1]) (n := 2) (Nat.le_of_ble_eq_true rfl)
  rw [lg_entry_eq]
  generalize (lg_sl ([.ref (a 0), .int p1]) ++ List.replicate (2 - (lg_sl ([.ref (a 0), .int p1])).length) Slot.unset).toArray = ls at hl ⊢
  have hl : lv_has ls 2 [(0, .ref (a 0)), (1, .int p1)] := hl
  rw [fM_least] at hf
  refine lv_aload_n hx hb d_M_least_0 rfl (lv_at hl 0 rfl) ?_
  refine lv_iconst (v := 0) hx hb d_M_least_1 (by decide) ?_
  refine vs_M_code (v := 0) hx hb hts hown hK hP hD hS 0 rfl (hts _ tb_254) (Nat.le_of_ble_eq_true rfl) d_M_least_2 (fun H locs hP hD hS => ?_)
  have hP : va_P (dC, dI) vwCl (wM_least a k 0 M_keys M_edges M_thenKeys M_thenEdges M_configuration M_parts M_rings M_metSize M_rank M_shortest) H := hP
  have hD : va_D A (wM_least a k 0 M_keys M_edges M_thenKeys M_thenEdges M_configuration M_parts M_rings M_metSize M_rank M_shortest) := hD
  refine lv_aload_n hx hb d_M_least_5 rfl (lv_at hl 0 rfl) ?_
  refine lv_iload_n hx hb d_M_least_6 rfl (lv_at hl 1 rfl) ?_
  obtain ⟨r7, e_7, hf⟩ := og_b hf
  refine og_rV (w := (wM_least a k 0 M_keys M_edges M_thenKeys M_thenEdges M_configuration M_parts M_rings M_metSize M_rank M_shortest)) (As := [.int p1]) (rest := []) (ci := 6) (q0 := 0) ⟨hx, hb, hml, hown, hts⟩ (c_M_isThere l dC dI a k 0 M_keys M_edges M_thenKeys M_thenEdges M_configuration M_parts M_rings M_metSize p1 r7 e_7) (cwV 1 hts (og_gV tb_326 tb_327 tb_328 tb_259 tb_329) rfl rfl rfl (by decide +kernel) ⟨Nat.le_of_ble_eq_true rfl, Nat.le_of_ble_eq_true rfl⟩) hK hP [0] [] ⟨rfl, trivial⟩ rfl rfl rfl rfl rfl hl.1 rfl (Nat.le_of_ble_eq_true rfl) d_M_least_7 ⟨Nat.zero_le _, Nat.zero_le _⟩ ?_
  refine lv_if_eq (tgt := 27) hx hb d_M_least_10 (by decide) (fun c_10 => ?_) (fun c_10 => ?_)
  · have hf := og_t hf c_10
    refine lv_iconst (v := (-1)) hx hb d_M_least_27 (by decide) ?_
    obtain rfl := Option.some.inj hf
    exact W.iret (v := (-1)) hx hb hr (fun t ht hW => ⟨⟨(-1), (), rfl, rfl, by rw [ht]; exact hP, va_K.moved hW.alike hK, hD⟩, hS.F ht⟩) hS.2.2 d_M_least_28
  · have hf := og_f hf c_10
    refine lv_aload_n hx hb d_M_least_13 rfl (lv_at hl 0 rfl) ?_
    refine vg_M_shortest (v := .ref (a 11)) hx hb hts hown hK hP 0 rfl (hts _ tb_285) rfl d_M_least_14 ?_
    refine lv_aload_n hx hb d_M_least_17 rfl (lv_at hl 0 rfl) ?_
    refine vg_M_rank (v := .ref (a 9)) hx hb hts hown hK hP 0 rfl (hts _ tb_269) rfl d_M_least_18 ?_
    refine lv_iload_n hx hb d_M_least_21 rfl (lv_at hl 1 rfl) ?_
    obtain ⟨h_22, hf⟩ := og_ck_s hf
    refine va_iald hx hb hK hP 1 0 rfl rfl h_22 d_M_least_22 ?_
    obtain ⟨h_23, hf⟩ := og_ck_s hf
    refine va_iald hx hb hK hP 2 1 rfl rfl h_23 d_M_least_23 ?_
    refine lv_goto (tgt := 28) hx hb d_M_least_24 (by decide) ?_
    obtain rfl := Option.some.inj hf
    exact W.iret (v := (M_shortest (M_rank p1.toNatClampNeg).toNatClampNeg)) hx hb hr (fun t ht hW => ⟨⟨(M_shortest (M_rank p1.toNatClampNeg).toNatClampNeg), (), rfl, rfl, by rw [ht]; exact hP, va_K.moved hW.alike hK, hD⟩, hS.F ht⟩) hS.2.2 d_M_least_28
def wM_isTogether (a : Nat → Nat) (k : Nat → ClassId) (M_code : Int32) (M_keys : Int32) (M_edges : Int32) (M_thenKeys : Int32) (M_thenEdges : Int32) (M_configuration : Int32) (M_parts : Int32) (M_rings : Int32) (M_metSize : Int32) (M_reaches : (Nat → Int32)) : va_W := [(a 0, .inr (6, [.int M_code, .int M_keys, .int M_edges, .ref (a 1), .ref (a 2), .ref (a 3), .ref (a 4), .ref (a 5), .ref (a 6), .int M_thenKeys, .int M_thenEdges, .int M_configuration, .ref (a 7), .ref (a 8), .ref (a 9), .ref (a 10), .ref (a 11), .ref (a 12), .ref (a 13), .ref (a 14), .int M_parts, .int M_rings, .ref (a 15), .ref (a 16), .ref (a 17), .int M_metSize, .ref (a 18), .ref (a 19), .ref (a 20)])), (a 13, .inl (k 13, 1600, .inl M_reaches))]
def tM_isTogether (k : Nat → ClassId) : List (ClassId × FieldType) := [(k 13, .boolean)]
set_option maxHeartbeats 4000000 in
set_option maxRecDepth 100000 in
theorem c_M_isTogether (l : Launch) (dC : Nat → ClassId) (dI : Nat → Nat → Nat) (a : Nat → Nat) (k : Nat → ClassId) (M_code : Int32) (M_keys : Int32) (M_edges : Int32) (M_thenKeys : Int32) (M_thenEdges : Int32) (M_configuration : Int32) (M_parts : Int32) (M_rings : Int32) (M_metSize : Int32) (M_reaches : (Nat → Int32)) (p1 : Int32) (p2 : Int32) (y : Int32) (hf : fM_isTogether M_reaches p1 p2 = some y) : Met l y_M_isTogether ws_M_isTogether ({ frames := 1, cells := 0, slots := 0, locals := 21 }) (og_Pr [.ref (a 0), .int p1, .int p2] (dC, dI) (wM_isTogether a k M_code M_keys M_edges M_thenKeys M_thenEdges M_configuration M_parts M_rings M_metSize M_reaches) (tM_isTogether k)) (vp_Si (fun x => x = y)) 0 0 (fun _ => False) := by
  refine Met.ofW (cc := b_M_isTogether) (maxL := 3) (ret := (some .boolean)) (by decide) rfl ?_
  intro p e s m args below meth c s₁ B hml hv
  obtain ⟨rfl, hP, hK⟩ := hv
  have hx := B.exec
  have hb := B.bytes
  have hr := B.returns
  have hts0 := atoms_spec (ws := ws_M_isTogether) B.pre
  have hts : ∀ w ∈ og_tb, w.before _ s = true := fun w h => hts0 w (List.mem_cons_of_mem _ h)
  have hown : s.vm.findClass R_M = some m.cls := findClass_of_methodNamed B.named
  have hlocks := B.notSynchronized
  have hl := lv_entry ([.ref (a 0), .int p1, .int p2]) (n := 3) (Nat.le_of_ble_eq_true rfl)
  rw [lg_entry_eq]
  generalize (lg_sl ([.ref (a 0), .int p1, .int p2]) ++ List.replicate (3 - (lg_sl ([.ref (a 0), .int p1, .int p2])).length) Slot.unset).toArray = ls at hl ⊢
  have hl : lv_has ls 3 [(0, .ref (a 0)), (1, .int p1), (2, .int p2)] := hl
  rw [fM_isTogether] at hf
  refine lv_iload_n hx hb d_M_isTogether_0 rfl (lv_at hl 1 rfl) ?_
  refine lv_iload_n hx hb d_M_isTogether_1 rfl (lv_at hl 2 rfl) ?_
  refine lv_icmp_eq (tgt := 31) hx hb d_M_isTogether_2 (by decide) (fun c_2 => ?_) (fun c_2 => ?_)
  · have hf := og_t hf c_2
    refine lv_iconst (v := 1) hx hb d_M_isTogether_31 (by decide) ?_
    refine lv_goto (tgt := 36) hx hb d_M_isTogether_32 (by decide) ?_
    obtain rfl := Option.some.inj hf
    exact W.zret (v := 1) hx hb hr rfl (fun t ht hW => ⟨1, rfl, rfl, ht⟩) (fun _ h => absurd h List.not_mem_nil) d_M_isTogether_36
  · have hf := og_f hf c_2
    refine lv_aload_n hx hb d_M_isTogether_5 rfl (lv_at hl 0 rfl) ?_
    refine vg_M_reaches (v := .ref (a 13)) hx hb hts hown hK hP 0 rfl (hts _ tb_270) rfl d_M_isTogether_6 ?_
    refine lv_iload_n hx hb d_M_isTogether_9 rfl (lv_at hl 1 rfl) ?_
    refine lv_iload_n hx hb d_M_isTogether_10 rfl (lv_at hl 2 rfl) ?_
    obtain ⟨r11, e_11, hf⟩ := og_b hf
    refine og_rS (w := (wM_isTogether a k M_code M_keys M_edges M_thenKeys M_thenEdges M_configuration M_parts M_rings M_metSize M_reaches)) (As := [.int p1, .int p2]) (rest := [.ref (a 13)]) ⟨hx, hb, hml, hown, hts⟩ (c_M_cell l dC dI a k p1 p2 r11 e_11) (va_cwS 2 hts (og_gS tb_273 tb_274 tb_259 tb_275) rfl rfl rfl (by decide +kernel) ⟨Nat.le_of_ble_eq_true rfl, Nat.le_of_ble_eq_true rfl⟩) hK hP [] [] trivial rfl rfl hl.1 rfl (Nat.le_of_ble_eq_true rfl) d_M_isTogether_11 ⟨Nat.zero_le _, Nat.zero_le _⟩ ?_
    obtain ⟨h_14, hf⟩ := og_ck_s hf
    refine va_zald hx hb hK hP 1 0 rfl rfl h_14 d_M_isTogether_14 ?_
    refine lv_if_eq (tgt := 35) hx hb d_M_isTogether_15 (by decide) (fun c_15 => ?_) (fun c_15 => ?_)
    · have hf := og_t hf c_15
      refine lv_iconst (v := 0) hx hb d_M_isTogether_35 (by decide) ?_
      obtain rfl := Option.some.inj hf
      exact W.zret (v := 0) hx hb hr rfl (fun t ht hW => ⟨0, rfl, rfl, ht⟩) (fun _ h => absurd h List.not_mem_nil) d_M_isTogether_36
    · have hf := og_f hf c_15
      refine lv_aload_n hx hb d_M_isTogether_18 rfl (lv_at hl 0 rfl) ?_
      refine vg_M_reaches (v := .ref (a 13)) hx hb hts hown hK hP 0 rfl (hts _ tb_270) rfl d_M_isTogether_19 ?_
      refine lv_iload_n hx hb d_M_isTogether_22 rfl (lv_at hl 2 rfl) ?_
      refine lv_iload_n hx hb d_M_isTogether_23 rfl (lv_at hl 1 rfl) ?_
      obtain ⟨r24, e_24, hf⟩ := og_b hf
      refine og_rS (w := (wM_isTogether a k M_code M_keys M_edges M_thenKeys M_thenEdges M_configuration M_parts M_rings M_metSize M_reaches)) (As := [.int p2, .int p1]) (rest := [.ref (a 13)]) ⟨hx, hb, hml, hown, hts⟩ (c_M_cell l dC dI a k p2 p1 r24 e_24) (va_cwS 2 hts (og_gS tb_273 tb_274 tb_259 tb_275) rfl rfl rfl (by decide +kernel) ⟨Nat.le_of_ble_eq_true rfl, Nat.le_of_ble_eq_true rfl⟩) hK hP [] [] trivial rfl rfl hl.1 rfl (Nat.le_of_ble_eq_true rfl) d_M_isTogether_24 ⟨Nat.zero_le _, Nat.zero_le _⟩ ?_
      obtain ⟨h_27, hf⟩ := og_ck_s hf
      refine va_zald hx hb hK hP 1 0 rfl rfl h_27 d_M_isTogether_27 ?_
      refine lv_if_eq (tgt := 35) hx hb d_M_isTogether_28 (by decide) (fun c_28 => ?_) (fun c_28 => ?_)
      · have hf := og_t hf c_28
        refine lv_iconst (v := 0) hx hb d_M_isTogether_35 (by decide) ?_
        obtain rfl := Option.some.inj hf
        exact W.zret (v := 0) hx hb hr rfl (fun t ht hW => ⟨0, rfl, rfl, ht⟩) (fun _ h => absurd h List.not_mem_nil) d_M_isTogether_36
      · have hf := og_f hf c_28
        refine lv_iconst (v := 1) hx hb d_M_isTogether_31 (by decide) ?_
        refine lv_goto (tgt := 36) hx hb d_M_isTogether_32 (by decide) ?_
        obtain rfl := Option.some.inj hf
        exact W.zret (v := 1) hx hb hr rfl (fun t ht hW => ⟨1, rfl, rfl, ht⟩) (fun _ h => absurd h List.not_mem_nil) d_M_isTogether_36
