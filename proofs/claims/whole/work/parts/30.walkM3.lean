def wM_cutIntoParts (a : Nat → Nat) (k : Nat → ClassId) (M_code : Int32) (M_keys : Int32) (M_edges : Int32) (M_thenKeys : Int32) (M_thenEdges : Int32) (M_configuration : Int32) (M_parts : Int32) (M_rings : Int32) (M_metSize : Int32) (M_part : (Nat → Int32)) (M_shortest : (Nat → Int32)) (M_reaches : (Nat → Int32)) (M_steps : (Nat → Int32)) : va_W := [(a 0, .inr (6, [.int M_code, .int M_keys, .int M_edges, .ref (a 1), .ref (a 2), .ref (a 3), .ref (a 4), .ref (a 5), .ref (a 6), .int M_thenKeys, .int M_thenEdges, .int M_configuration, .ref (a 7), .ref (a 8), .ref (a 9), .ref (a 10), .ref (a 11), .ref (a 12), .ref (a 13), .ref (a 14), .int M_parts, .int M_rings, .ref (a 15), .ref (a 16), .ref (a 17), .int M_metSize, .ref (a 18), .ref (a 19), .ref (a 20)])), (a 10, .inl (k 10, 40, .inl M_part)), (a 11, .inl (k 11, 40, .inl M_shortest)), (a 13, .inl (k 13, 1600, .inl M_reaches)), (a 14, .inl (k 14, 1600, .inl M_steps))]
def tM_cutIntoParts (k : Nat → ClassId) : List (ClassId × FieldType) := [(k 10, .int), (k 11, .int), (k 13, .boolean), (k 14, .int)]
set_option maxHeartbeats 4000000 in
set_option maxRecDepth 100000 in
theorem c_M_cutIntoParts (l : Launch) (dC : Nat → ClassId) (dI : Nat → Nat → Nat) (a : Nat → Nat) (k : Nat → ClassId) (sz : Nat) (M_code : Int32) (M_keys : Int32) (M_edges : Int32) (M_thenKeys : Int32) (M_thenEdges : Int32) (M_configuration : Int32) (M_parts : Int32) (M_rings : Int32) (M_metSize : Int32) (M_part : (Nat → Int32)) (M_shortest : (Nat → Int32)) (M_reaches : (Nat → Int32)) (M_steps : (Nat → Int32)) (y : (Nat → Int32) × (Nat → Int32) × Int32) (hf : fM_cutIntoParts M_thenKeys M_part M_shortest M_reaches M_steps M_parts = some y) : Met l y_M_cutIntoParts ws_M_cutIntoParts ({ frames := 2, cells := 0, slots := 0, locals := 43 }) (og_Pw [.ref (a 0)] (dC, dI) (wM_cutIntoParts a k M_code M_keys M_edges M_thenKeys M_thenEdges M_configuration M_parts M_rings M_metSize M_part M_shortest M_reaches M_steps) (tM_cutIntoParts k) sz) (og_Qv (dC, dI) (wM_cutIntoParts a k M_code M_keys M_edges M_thenKeys M_thenEdges M_configuration y.2.2 M_rings M_metSize y.1 y.2.1 M_reaches M_steps) (tM_cutIntoParts k) (va_A (wM_cutIntoParts a k M_code M_keys M_edges M_thenKeys M_thenEdges M_configuration M_parts M_rings M_metSize M_part M_shortest M_reaches M_steps) sz)) 0 0 (va_A (wM_cutIntoParts a k M_code M_keys M_edges M_thenKeys M_thenEdges M_configuration M_parts M_rings M_metSize M_part M_shortest M_reaches M_steps) sz) := by
  refine Met.ofW (cc := b_M_cutIntoParts) (maxL := 4) (ret := none) (by decide) rfl ?_
  intro p e s m args below meth c s₁ B hml hv
  obtain ⟨rfl, hsz, hP, hK, hD0⟩ := hv
  have hx := B.exec
  have hb := B.bytes
  have hr := B.returns
  have hts0 := atoms_spec (ws := ws_M_cutIntoParts) B.pre
  have hts : ∀ w ∈ og_tb, w.before _ s = true := fun w h => hts0 w (List.mem_cons_of_mem _ h)
  have hown : s.vm.findClass R_M = some m.cls := findClass_of_methodNamed B.named
  have hlocks := B.notSynchronized
  subst hsz
  have hD := hD0.self (sz := s.heap.size)
  generalize hAe : va_A (wM_cutIntoParts a k M_code M_keys M_edges M_thenKeys M_thenEdges M_configuration M_parts M_rings M_metSize M_part M_shortest M_reaches M_steps) s.heap.size = A at hD ⊢
  have hA : ∀ q : Nat, s.heap.size ≤ q → A q := fun q h => by rw [← hAe]; exact Or.inr h
  have hS : va_S A s.heap s.heap [] := va_S.rf
  have hl := lv_entry ([.ref (a 0)]) (n := 4) (Nat.le_of_ble_eq_true rfl)
  rw [lg_entry_eq]
  generalize (lg_sl ([.ref (a 0)]) ++ List.replicate (4 - (lg_sl ([.ref (a 0)])).length) Slot.unset).toArray = ls at hl ⊢
  have hl : lv_has ls 4 [(0, .ref (a 0))] := hl
  rw [fM_cutIntoParts] at hf
  refine lv_aload_n hx hb d_M_cutIntoParts_0 rfl (lv_at hl 0 rfl) ?_
  refine lv_iconst (v := 0) hx hb d_M_cutIntoParts_1 (by decide) ?_
  refine vs_M_parts (v := 0) hx hb hts hown hK hP hD hS 0 rfl (hts _ tb_283) (Nat.le_of_ble_eq_true rfl) d_M_cutIntoParts_2 (fun H locs hP hD hS => ?_)
  have hP : va_P (dC, dI) vwCl (wM_cutIntoParts a k M_code M_keys M_edges M_thenKeys M_thenEdges M_configuration 0 M_rings M_metSize M_part M_shortest M_reaches M_steps) H := hP
  have hD : va_D A (wM_cutIntoParts a k M_code M_keys M_edges M_thenKeys M_thenEdges M_configuration 0 M_rings M_metSize M_part M_shortest M_reaches M_steps) := hD
  refine lv_iconst (v := 0) hx hb d_M_cutIntoParts_5 (by decide) ?_
  refine lv_istore_n (lv' := [(1, .int 0), (0, .ref (a 0))]) hx hb d_M_cutIntoParts_6 rfl hl (by decide) rfl (fun ls hl => ?_)
  have k7_132 : ∀ (M_part : (Nat → Int32)) (M_shortest : (Nat → Int32)) (M_parts : Int32) (H : Heap) (locs : List Loc) (ls : Array Slot), fM_cutIntoParts_K7_132 M_part M_shortest M_parts = some y → va_P (dC, dI) vwCl (wM_cutIntoParts a k M_code M_keys M_edges M_thenKeys M_thenEdges M_configuration M_parts M_rings M_metSize M_part M_shortest M_reaches M_steps) H → va_D A (wM_cutIntoParts a k M_code M_keys M_edges M_thenKeys M_thenEdges M_configuration M_parts M_rings M_metSize M_part M_shortest M_reaches M_steps) → va_S A s.heap H locs → lv_has ls 4 [] → W p l e (headSpec ws_M_cutIntoParts { frames := 2, cells := 0, slots := 0, locals := 43 }).room s m ([.ref (a 0)] : List Value).toArray below meth c H locs 0 0 (MQ below (og_Qv (dC, dI) (wM_cutIntoParts a k M_code M_keys M_edges M_thenKeys M_thenEdges M_configuration y.2.2 M_rings M_metSize y.1 y.2.1 M_reaches M_steps) (tM_cutIntoParts k) A) ([.ref (a 0)] : List Value).toArray s 0 0 A) (F0 m 132 ls []) := by
    intro M_part M_shortest M_parts H locs ls hf hP hD hS hl
    rw [fM_cutIntoParts_K7_132] at hf
    obtain rfl := Option.some.inj hf
    exact W.vret hx hb hr (fun t ht hW => ⟨⟨(), rfl, trivial, by rw [ht]; exact hP, va_K.moved hW.alike hK, hD⟩, hS.F ht⟩) hS.2.2 d_M_cutIntoParts_132
  have lp7 : ∀ (n7 : Nat) (v1 : Int32) (M_part : (Nat → Int32)) (M_shortest : (Nat → Int32)) (M_parts : Int32) (H : Heap) (locs : List Loc) (ls : Array Slot), fM_cutIntoParts_L7 fM_cutIntoParts_K7_132 M_thenKeys M_reaches M_steps n7 v1 M_part M_shortest M_parts = some y → va_P (dC, dI) vwCl (wM_cutIntoParts a k M_code M_keys M_edges M_thenKeys M_thenEdges M_configuration M_parts M_rings M_metSize M_part M_shortest M_reaches M_steps) H → va_D A (wM_cutIntoParts a k M_code M_keys M_edges M_thenKeys M_thenEdges M_configuration M_parts M_rings M_metSize M_part M_shortest M_reaches M_steps) → va_S A s.heap H locs → lv_has ls 4 [(0, .ref (a 0)), (1, .int v1)] → W p l e (headSpec ws_M_cutIntoParts { frames := 2, cells := 0, slots := 0, locals := 43 }).room s m ([.ref (a 0)] : List Value).toArray below meth c H locs 0 0 (MQ below (og_Qv (dC, dI) (wM_cutIntoParts a k M_code M_keys M_edges M_thenKeys M_thenEdges M_configuration y.2.2 M_rings M_metSize y.1 y.2.1 M_reaches M_steps) (tM_cutIntoParts k) A) ([.ref (a 0)] : List Value).toArray s 0 0 A) (F0 m 7 ls []) := by
    intro n7
    induction n7 with
    | zero => intro v1 M_part M_shortest M_parts H locs ls hf hP hD hS hl; rw [fM_cutIntoParts_L7] at hf; cases hf
    | succ n7 ih7 =>
      intro v1 M_part M_shortest M_parts H locs ls hf hP hD hS hl
      rw [fM_cutIntoParts_L7] at hf
      refine lv_iload_n hx hb d_M_cutIntoParts_7 rfl (lv_at hl 1 rfl) ?_
      refine lv_aload_n hx hb d_M_cutIntoParts_8 rfl (lv_at hl 0 rfl) ?_
      refine vg_M_thenKeys (v := .int M_thenKeys) hx hb hts hown hK hP 0 rfl (hts _ tb_272) rfl d_M_cutIntoParts_9 ?_
      refine lv_icmp_ge (tgt := 132) hx hb d_M_cutIntoParts_12 (by decide) (fun c_12 => ?_) (fun c_12 => ?_)
      · have hf := og_t hf c_12
        exact k7_132 M_part M_shortest M_parts _ _ _ hf hP hD hS (lv_sub hl [] rfl)
      · have hf := og_f hf c_12
        refine lv_iconst (v := (-1)) hx hb d_M_cutIntoParts_15 (by decide) ?_
        refine lv_istore_n (lv' := [(2, .int (-1)), (0, .ref (a 0)), (1, .int v1)]) hx hb d_M_cutIntoParts_16 rfl hl (by decide) rfl (fun ls hl => ?_)
        refine lv_iconst (v := 0) hx hb d_M_cutIntoParts_17 (by decide) ?_
        refine lv_istore_n (lv' := [(3, .int 0), (2, .int (-1)), (0, .ref (a 0)), (1, .int v1)]) hx hb d_M_cutIntoParts_18 rfl hl (by decide) rfl (fun ls hl => ?_)
        have k19_55 : ∀ (v2 : Int32) (H : Heap) (locs : List Loc) (ls : Array Slot), fM_cutIntoParts_K19_55 (fun a0 a1 a2 a3 => fM_cutIntoParts_L7 fM_cutIntoParts_K7_132 M_thenKeys M_reaches M_steps n7 a0 a1 a2 a3) M_part M_shortest M_reaches M_steps M_parts v1 v2 = some y → va_P (dC, dI) vwCl (wM_cutIntoParts a k M_code M_keys M_edges M_thenKeys M_thenEdges M_configuration M_parts M_rings M_metSize M_part M_shortest M_reaches M_steps) H → va_D A (wM_cutIntoParts a k M_code M_keys M_edges M_thenKeys M_thenEdges M_configuration M_parts M_rings M_metSize M_part M_shortest M_reaches M_steps) → va_S A s.heap H locs → lv_has ls 4 [(0, .ref (a 0)), (1, .int v1), (2, .int v2)] → W p l e (headSpec ws_M_cutIntoParts { frames := 2, cells := 0, slots := 0, locals := 43 }).room s m ([.ref (a 0)] : List Value).toArray below meth c H locs 0 0 (MQ below (og_Qv (dC, dI) (wM_cutIntoParts a k M_code M_keys M_edges M_thenKeys M_thenEdges M_configuration y.2.2 M_rings M_metSize y.1 y.2.1 M_reaches M_steps) (tM_cutIntoParts k) A) ([.ref (a 0)] : List Value).toArray s 0 0 A) (F0 m 55 ls []) := by
          intro v2 H locs ls hf hP hD hS hl
          rw [fM_cutIntoParts_K19_55] at hf
          refine lv_aload_n hx hb d_M_cutIntoParts_55 rfl (lv_at hl 0 rfl) ?_
          refine vg_M_part (v := .ref (a 10)) hx hb hts hown hK hP 0 rfl (hts _ tb_284) rfl d_M_cutIntoParts_56 ?_
          refine lv_iload_n hx hb d_M_cutIntoParts_59 rfl (lv_at hl 1 rfl) ?_
          refine lv_iload_n hx hb d_M_cutIntoParts_60 rfl (lv_at hl 2 rfl) ?_
          refine lv_iconst (v := (-1)) hx hb d_M_cutIntoParts_61 (by decide) ?_
          have j73 : ∀ (s73_1 : Int32) (s73_2 : Int32) (H : Heap) (locs : List Loc) (ls : Array Slot), fM_cutIntoParts_J73 (fun a0 a1 a2 a3 => fM_cutIntoParts_L7 fM_cutIntoParts_K7_132 M_thenKeys M_reaches M_steps n7 a0 a1 a2 a3) M_part M_shortest M_reaches M_steps M_parts v1 v2 s73_1 s73_2 = some y → va_P (dC, dI) vwCl (wM_cutIntoParts a k M_code M_keys M_edges M_thenKeys M_thenEdges M_configuration M_parts M_rings M_metSize M_part M_shortest M_reaches M_steps) H → va_D A (wM_cutIntoParts a k M_code M_keys M_edges M_thenKeys M_thenEdges M_configuration M_parts M_rings M_metSize M_part M_shortest M_reaches M_steps) → va_S A s.heap H locs → lv_has ls 4 [(0, .ref (a 0)), (1, .int v1), (2, .int v2)] → W p l e (headSpec ws_M_cutIntoParts { frames := 2, cells := 0, slots := 0, locals := 43 }).room s m ([.ref (a 0)] : List Value).toArray below meth c H locs 0 0 (MQ below (og_Qv (dC, dI) (wM_cutIntoParts a k M_code M_keys M_edges M_thenKeys M_thenEdges M_configuration y.2.2 M_rings M_metSize y.1 y.2.1 M_reaches M_steps) (tM_cutIntoParts k) A) ([.ref (a 0)] : List Value).toArray s 0 0 A) (F0 m 73 ls [.int s73_2, .int s73_1, .ref (a 10)]) := by
            intro s73_1 s73_2 H locs ls hf hP hD hS hl
            rw [fM_cutIntoParts_J73] at hf
            obtain ⟨h_73, hf⟩ := og_ck_s hf
            refine va_iast hx hb hK hP hD hS 1 0 rfl rfl h_73 d_M_cutIntoParts_73 (fun H locs hP hD hS => ?_)
            have hP : va_P (dC, dI) vwCl (wM_cutIntoParts a k M_code M_keys M_edges M_thenKeys M_thenEdges M_configuration M_parts M_rings M_metSize (upd M_part s73_1.toNatClampNeg s73_2) M_shortest M_reaches M_steps) H := hP
            have hD : va_D A (wM_cutIntoParts a k M_code M_keys M_edges M_thenKeys M_thenEdges M_configuration M_parts M_rings M_metSize (upd M_part s73_1.toNatClampNeg s73_2) M_shortest M_reaches M_steps) := hD
            refine lv_aload_n hx hb d_M_cutIntoParts_74 rfl (lv_at hl 0 rfl) ?_
            refine lv_dup hx hb d_M_cutIntoParts_75 rfl ?_
            refine vg_M_parts (v := .int M_parts) hx hb hts hown hK hP 0 rfl (hts _ tb_283) rfl d_M_cutIntoParts_76 ?_
            refine lv_iload_n hx hb d_M_cutIntoParts_79 rfl (lv_at hl 2 rfl) ?_
            refine lv_iconst (v := (-1)) hx hb d_M_cutIntoParts_80 (by decide) ?_
            have j89 : ∀ (s89_1 : Int32) (s89_2 : Int32) (H : Heap) (locs : List Loc) (ls : Array Slot), fM_cutIntoParts_J89 (fun a0 a1 a2 a3 => fM_cutIntoParts_L7 fM_cutIntoParts_K7_132 M_thenKeys M_reaches M_steps n7 a0 a1 a2 a3) (upd M_part s73_1.toNatClampNeg s73_2) M_shortest M_reaches M_steps v1 s89_1 s89_2 = some y → va_P (dC, dI) vwCl (wM_cutIntoParts a k M_code M_keys M_edges M_thenKeys M_thenEdges M_configuration M_parts M_rings M_metSize (upd M_part s73_1.toNatClampNeg s73_2) M_shortest M_reaches M_steps) H → va_D A (wM_cutIntoParts a k M_code M_keys M_edges M_thenKeys M_thenEdges M_configuration M_parts M_rings M_metSize (upd M_part s73_1.toNatClampNeg s73_2) M_shortest M_reaches M_steps) → va_S A s.heap H locs → lv_has ls 4 [(0, .ref (a 0)), (1, .int v1)] → W p l e (headSpec ws_M_cutIntoParts { frames := 2, cells := 0, slots := 0, locals := 43 }).room s m ([.ref (a 0)] : List Value).toArray below meth c H locs 0 0 (MQ below (og_Qv (dC, dI) (wM_cutIntoParts a k M_code M_keys M_edges M_thenKeys M_thenEdges M_configuration y.2.2 M_rings M_metSize y.1 y.2.1 M_reaches M_steps) (tM_cutIntoParts k) A) ([.ref (a 0)] : List Value).toArray s 0 0 A) (F0 m 89 ls [.int s89_2, .int s89_1, .ref (a 0)]) := by
              intro s89_1 s89_2 H locs ls hf hP hD hS hl
              rw [fM_cutIntoParts_J89] at hf
              refine lv_iadd hx hb d_M_cutIntoParts_89 ?_
              refine vs_M_parts (v := (s89_1 + s89_2)) hx hb hts hown hK hP hD hS 0 rfl (hts _ tb_283) (Nat.le_of_ble_eq_true rfl) d_M_cutIntoParts_90 (fun H locs hP hD hS => ?_)
              have hP : va_P (dC, dI) vwCl (wM_cutIntoParts a k M_code M_keys M_edges M_thenKeys M_thenEdges M_configuration (s89_1 + s89_2) M_rings M_metSize (upd M_part s73_1.toNatClampNeg s73_2) M_shortest M_reaches M_steps) H := hP
              have hD : va_D A (wM_cutIntoParts a k M_code M_keys M_edges M_thenKeys M_thenEdges M_configuration (s89_1 + s89_2) M_rings M_metSize (upd M_part s73_1.toNatClampNeg s73_2) M_shortest M_reaches M_steps) := hD
              refine lv_aload_n hx hb d_M_cutIntoParts_93 rfl (lv_at hl 0 rfl) ?_
              refine vg_M_shortest (v := .ref (a 11)) hx hb hts hown hK hP 0 rfl (hts _ tb_285) rfl d_M_cutIntoParts_94 ?_
              refine lv_iload_n hx hb d_M_cutIntoParts_97 rfl (lv_at hl 1 rfl) ?_
              refine lv_aload_n hx hb d_M_cutIntoParts_98 rfl (lv_at hl 0 rfl) ?_
              refine vg_M_reaches (v := .ref (a 13)) hx hb hts hown hK hP 0 rfl (hts _ tb_270) rfl d_M_cutIntoParts_99 ?_
              refine lv_iload_n hx hb d_M_cutIntoParts_102 rfl (lv_at hl 1 rfl) ?_
              refine lv_iload_n hx hb d_M_cutIntoParts_103 rfl (lv_at hl 1 rfl) ?_
              obtain ⟨r104, e_104, hf⟩ := og_b hf
              refine og_rS (w := (wM_cutIntoParts a k M_code M_keys M_edges M_thenKeys M_thenEdges M_configuration (s89_1 + s89_2) M_rings M_metSize (upd M_part s73_1.toNatClampNeg s73_2) M_shortest M_reaches M_steps)) (As := [.int v1, .int v1]) (rest := [.ref (a 13), .int v1, .ref (a 11)]) ⟨hx, hb, hml, hown, hts⟩ (c_M_cell l dC dI a k v1 v1 r104 e_104) (va_cwS 2 hts (og_gS tb_273 tb_274 tb_259 tb_275) rfl rfl rfl (by decide +kernel) ⟨Nat.le_of_ble_eq_true rfl, Nat.le_of_ble_eq_true rfl⟩) hK hP [] [] trivial rfl rfl hl.1 rfl (Nat.le_of_ble_eq_true rfl) d_M_cutIntoParts_104 ⟨Nat.zero_le _, Nat.zero_le _⟩ ?_
              obtain ⟨h_107, hf⟩ := og_ck_s hf
              refine va_zald hx hb hK hP 3 2 rfl rfl h_107 d_M_cutIntoParts_107 ?_
              refine lv_if_eq (tgt := 124) hx hb d_M_cutIntoParts_108 (by decide) (fun c_108 => ?_) (fun c_108 => ?_)
              · have hf := og_t hf c_108
                refine lv_iconst (v := 0) hx hb d_M_cutIntoParts_124 (by decide) ?_
                obtain ⟨h_125, hf⟩ := og_ck_s hf
                refine va_iast hx hb hK hP hD hS 2 1 rfl rfl h_125 d_M_cutIntoParts_125 (fun H locs hP hD hS => ?_)
                have hP : va_P (dC, dI) vwCl (wM_cutIntoParts a k M_code M_keys M_edges M_thenKeys M_thenEdges M_configuration (s89_1 + s89_2) M_rings M_metSize (upd M_part s73_1.toNatClampNeg s73_2) (upd M_shortest v1.toNatClampNeg 0) M_reaches M_steps) H := hP
                have hD : va_D A (wM_cutIntoParts a k M_code M_keys M_edges M_thenKeys M_thenEdges M_configuration (s89_1 + s89_2) M_rings M_metSize (upd M_part s73_1.toNatClampNeg s73_2) (upd M_shortest v1.toNatClampNeg 0) M_reaches M_steps) := hD
                refine lv_iinc (v := (v1 + 1)) (lv' := [(1, .int (v1 + 1)), (0, .ref (a 0))]) hx hb d_M_cutIntoParts_126 hl (k := 1) rfl rfl (by decide) rfl (fun ls hl => ?_)
                refine lv_goto (tgt := 7) hx hb d_M_cutIntoParts_129 (by decide) ?_
                exact ih7 (v1 + 1) (upd M_part s73_1.toNatClampNeg s73_2) (upd M_shortest v1.toNatClampNeg 0) (s89_1 + s89_2) _ _ _ hf hP hD hS (lv_sub hl [1, 0] rfl)
              · have hf := og_f hf c_108
                refine lv_aload_n hx hb d_M_cutIntoParts_111 rfl (lv_at hl 0 rfl) ?_
                refine vg_M_steps (v := .ref (a 14)) hx hb hts hown hK hP 0 rfl (hts _ tb_271) rfl d_M_cutIntoParts_112 ?_
                refine lv_iload_n hx hb d_M_cutIntoParts_115 rfl (lv_at hl 1 rfl) ?_
                refine lv_iload_n hx hb d_M_cutIntoParts_116 rfl (lv_at hl 1 rfl) ?_
                obtain ⟨r117, e_117, hf⟩ := og_b hf
                refine og_rS (w := (wM_cutIntoParts a k M_code M_keys M_edges M_thenKeys M_thenEdges M_configuration (s89_1 + s89_2) M_rings M_metSize (upd M_part s73_1.toNatClampNeg s73_2) M_shortest M_reaches M_steps)) (As := [.int v1, .int v1]) (rest := [.ref (a 14), .int v1, .ref (a 11)]) ⟨hx, hb, hml, hown, hts⟩ (c_M_cell l dC dI a k v1 v1 r117 e_117) (va_cwS 2 hts (og_gS tb_273 tb_274 tb_259 tb_275) rfl rfl rfl (by decide +kernel) ⟨Nat.le_of_ble_eq_true rfl, Nat.le_of_ble_eq_true rfl⟩) hK hP [] [] trivial rfl rfl hl.1 rfl (Nat.le_of_ble_eq_true rfl) d_M_cutIntoParts_117 ⟨Nat.zero_le _, Nat.zero_le _⟩ ?_
                obtain ⟨h_120, hf⟩ := og_ck_s hf
                refine va_iald hx hb hK hP 4 3 rfl rfl h_120 d_M_cutIntoParts_120 ?_
                refine lv_goto (tgt := 125) hx hb d_M_cutIntoParts_121 (by decide) ?_
                obtain ⟨h_125, hf⟩ := og_ck_s hf
                refine va_iast hx hb hK hP hD hS 2 1 rfl rfl h_125 d_M_cutIntoParts_125 (fun H locs hP hD hS => ?_)
                have hP : va_P (dC, dI) vwCl (wM_cutIntoParts a k M_code M_keys M_edges M_thenKeys M_thenEdges M_configuration (s89_1 + s89_2) M_rings M_metSize (upd M_part s73_1.toNatClampNeg s73_2) (upd M_shortest v1.toNatClampNeg (M_steps r117.toNatClampNeg)) M_reaches M_steps) H := hP
                have hD : va_D A (wM_cutIntoParts a k M_code M_keys M_edges M_thenKeys M_thenEdges M_configuration (s89_1 + s89_2) M_rings M_metSize (upd M_part s73_1.toNatClampNeg s73_2) (upd M_shortest v1.toNatClampNeg (M_steps r117.toNatClampNeg)) M_reaches M_steps) := hD
                refine lv_iinc (v := (v1 + 1)) (lv' := [(1, .int (v1 + 1)), (0, .ref (a 0))]) hx hb d_M_cutIntoParts_126 hl (k := 1) rfl rfl (by decide) rfl (fun ls hl => ?_)
                refine lv_goto (tgt := 7) hx hb d_M_cutIntoParts_129 (by decide) ?_
                exact ih7 (v1 + 1) (upd M_part s73_1.toNatClampNeg s73_2) (upd M_shortest v1.toNatClampNeg (M_steps r117.toNatClampNeg)) (s89_1 + s89_2) _ _ _ hf hP hD hS (lv_sub hl [1, 0] rfl)
            refine lv_icmp_ne (tgt := 88) hx hb d_M_cutIntoParts_81 (by decide) (fun c_81 => ?_) (fun c_81 => ?_)
            · have hf := og_f hf c_81
              refine lv_iconst (v := 0) hx hb d_M_cutIntoParts_88 (by decide) ?_
              exact j89 M_parts 0 _ _ _ hf hP hD hS (lv_sub hl [0, 1] rfl)
            · have hf := og_t hf c_81
              refine lv_iconst (v := 1) hx hb d_M_cutIntoParts_84 (by decide) ?_
              refine lv_goto (tgt := 89) hx hb d_M_cutIntoParts_85 (by decide) ?_
              exact j89 M_parts 1 _ _ _ hf hP hD hS (lv_sub hl [0, 1] rfl)
          refine lv_icmp_ne (tgt := 72) hx hb d_M_cutIntoParts_62 (by decide) (fun c_62 => ?_) (fun c_62 => ?_)
          · have hf := og_f hf c_62
            refine lv_iload_n hx hb d_M_cutIntoParts_72 rfl (lv_at hl 2 rfl) ?_
            exact j73 v1 v2 _ _ _ hf hP hD hS (lv_sub hl [0, 1, 2] rfl)
          · have hf := og_t hf c_62
            refine lv_aload_n hx hb d_M_cutIntoParts_65 rfl (lv_at hl 0 rfl) ?_
            refine vg_M_parts (v := .int M_parts) hx hb hts hown hK hP 0 rfl (hts _ tb_283) rfl d_M_cutIntoParts_66 ?_
            refine lv_goto (tgt := 73) hx hb d_M_cutIntoParts_69 (by decide) ?_
            exact j73 v1 M_parts _ _ _ hf hP hD hS (lv_sub hl [0, 1, 2] rfl)
        have lp19 : ∀ (n19 : Nat) (v2 : Int32) (v3 : Int32) (H : Heap) (locs : List Loc) (ls : Array Slot), fM_cutIntoParts_L19 (fM_cutIntoParts_K19_55 (fun a0 a1 a2 a3 => fM_cutIntoParts_L7 fM_cutIntoParts_K7_132 M_thenKeys M_reaches M_steps n7 a0 a1 a2 a3) M_part M_shortest M_reaches M_steps M_parts v1) M_part M_reaches v1 n19 v2 v3 = some y → va_P (dC, dI) vwCl (wM_cutIntoParts a k M_code M_keys M_edges M_thenKeys M_thenEdges M_configuration M_parts M_rings M_metSize M_part M_shortest M_reaches M_steps) H → va_D A (wM_cutIntoParts a k M_code M_keys M_edges M_thenKeys M_thenEdges M_configuration M_parts M_rings M_metSize M_part M_shortest M_reaches M_steps) → va_S A s.heap H locs → lv_has ls 4 [(0, .ref (a 0)), (1, .int v1), (2, .int v2), (3, .int v3)] → W p l e (headSpec ws_M_cutIntoParts { frames := 2, cells := 0, slots := 0, locals := 43 }).room s m ([.ref (a 0)] : List Value).toArray below meth c H locs 0 0 (MQ below (og_Qv (dC, dI) (wM_cutIntoParts a k M_code M_keys M_edges M_thenKeys M_thenEdges M_configuration y.2.2 M_rings M_metSize y.1 y.2.1 M_reaches M_steps) (tM_cutIntoParts k) A) ([.ref (a 0)] : List Value).toArray s 0 0 A) (F0 m 19 ls []) := by
          intro n19
          induction n19 with
          | zero => intro v2 v3 H locs ls hf hP hD hS hl; rw [fM_cutIntoParts_L19] at hf; cases hf
          | succ n19 ih19 =>
            intro v2 v3 H locs ls hf hP hD hS hl
            rw [fM_cutIntoParts_L19] at hf
            refine lv_iload_n hx hb d_M_cutIntoParts_19 rfl (lv_at hl 3 rfl) ?_
            refine lv_iload_n hx hb d_M_cutIntoParts_20 rfl (lv_at hl 1 rfl) ?_
            refine lv_icmp_ge (tgt := 55) hx hb d_M_cutIntoParts_21 (by decide) (fun c_21 => ?_) (fun c_21 => ?_)
            · have hf := og_t hf c_21
              exact k19_55 v2 _ _ _ hf hP hD hS (lv_sub hl [0, 1, 2] rfl)
            · have hf := og_f hf c_21
              refine lv_iload_n hx hb d_M_cutIntoParts_24 rfl (lv_at hl 2 rfl) ?_
              refine lv_iconst (v := (-1)) hx hb d_M_cutIntoParts_25 (by decide) ?_
              refine lv_icmp_ne (tgt := 55) hx hb d_M_cutIntoParts_26 (by decide) (fun c_26 => ?_) (fun c_26 => ?_)
              · have hf := og_f hf c_26
                exact k19_55 v2 _ _ _ hf hP hD hS (lv_sub hl [0, 1, 2] rfl)
              · have hf := og_t hf c_26
                refine lv_aload_n hx hb d_M_cutIntoParts_29 rfl (lv_at hl 0 rfl) ?_
                refine lv_iload_n hx hb d_M_cutIntoParts_30 rfl (lv_at hl 1 rfl) ?_
                refine lv_iload_n hx hb d_M_cutIntoParts_31 rfl (lv_at hl 3 rfl) ?_
                obtain ⟨r32, e_32, hf⟩ := og_b hf
                refine og_rV (w := (wM_cutIntoParts a k M_code M_keys M_edges M_thenKeys M_thenEdges M_configuration M_parts M_rings M_metSize M_part M_shortest M_reaches M_steps)) (As := [.int v1, .int v3]) (rest := []) (ci := 6) (q0 := 0) ⟨hx, hb, hml, hown, hts⟩ (c_M_isTogether l dC dI a k M_code M_keys M_edges M_thenKeys M_thenEdges M_configuration M_parts M_rings M_metSize M_reaches v1 v3 r32 e_32) (cwV 2 hts (og_gV tb_286 tb_287 tb_288 tb_259 tb_289) rfl rfl rfl (by decide +kernel) ⟨Nat.le_of_ble_eq_true rfl, Nat.le_of_ble_eq_true rfl⟩) hK hP [0, 3] [2] ⟨rfl, rfl, trivial⟩ rfl rfl rfl rfl rfl hl.1 rfl (Nat.le_of_ble_eq_true rfl) d_M_cutIntoParts_32 ⟨Nat.zero_le _, Nat.zero_le _⟩ ?_
                refine lv_if_eq (tgt := 47) hx hb d_M_cutIntoParts_35 (by decide) (fun c_35 => ?_) (fun c_35 => ?_)
                · have hf := og_t hf c_35
                  refine lv_iconst (v := (-1)) hx hb d_M_cutIntoParts_47 (by decide) ?_
                  refine lv_istore_n (lv' := [(2, .int (-1)), (0, .ref (a 0)), (1, .int v1), (3, .int v3)]) hx hb d_M_cutIntoParts_48 rfl hl (by decide) rfl (fun ls hl => ?_)
                  refine lv_iinc (v := (v3 + 1)) (lv' := [(3, .int (v3 + 1)), (2, .int (-1)), (0, .ref (a 0)), (1, .int v1)]) hx hb d_M_cutIntoParts_49 hl (k := 3) rfl rfl (by decide) rfl (fun ls hl => ?_)
                  refine lv_goto (tgt := 19) hx hb d_M_cutIntoParts_52 (by decide) ?_
                  exact ih19 (-1) (v3 + 1) _ _ _ hf hP hD hS (lv_sub hl [2, 3, 1, 0] rfl)
                · have hf := og_f hf c_35
                  refine lv_aload_n hx hb d_M_cutIntoParts_38 rfl (lv_at hl 0 rfl) ?_
                  refine vg_M_part (v := .ref (a 10)) hx hb hts hown hK hP 0 rfl (hts _ tb_284) rfl d_M_cutIntoParts_39 ?_
                  refine lv_iload_n hx hb d_M_cutIntoParts_42 rfl (lv_at hl 3 rfl) ?_
                  obtain ⟨h_43, hf⟩ := og_ck_s hf
                  refine va_iald hx hb hK hP 1 0 rfl rfl h_43 d_M_cutIntoParts_43 ?_
                  refine lv_goto (tgt := 48) hx hb d_M_cutIntoParts_44 (by decide) ?_
                  refine lv_istore_n (lv' := [(2, .int (M_part v3.toNatClampNeg)), (0, .ref (a 0)), (1, .int v1), (3, .int v3)]) hx hb d_M_cutIntoParts_48 rfl hl (by decide) rfl (fun ls hl => ?_)
                  refine lv_iinc (v := (v3 + 1)) (lv' := [(3, .int (v3 + 1)), (2, .int (M_part v3.toNatClampNeg)), (0, .ref (a 0)), (1, .int v1)]) hx hb d_M_cutIntoParts_49 hl (k := 3) rfl rfl (by decide) rfl (fun ls hl => ?_)
                  refine lv_goto (tgt := 19) hx hb d_M_cutIntoParts_52 (by decide) ?_
                  exact ih19 (M_part v3.toNatClampNeg) (v3 + 1) _ _ _ hf hP hD hS (lv_sub hl [2, 3, 1, 0] rfl)
        exact lp19 FU (-1) 0 _ _ _ hf hP hD hS (lv_sub hl [2, 3, 1, 0] rfl)
  exact lp7 FU 0 M_part M_shortest 0 _ _ _ hf hP hD hS (lv_sub hl [1, 0] rfl)
