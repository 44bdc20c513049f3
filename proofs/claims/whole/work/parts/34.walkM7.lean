def wM_ringOf (a : Nat → Nat) (k : Nat → ClassId) (M_code : Int32) (M_keys : Int32) (M_edges : Int32) (M_thenKeys : Int32) (M_thenEdges : Int32) (M_configuration : Int32) (M_parts : Int32) (M_rings : Int32) (M_metSize : Int32) (M_way : (Nat → Int32)) : va_W := [(a 0, .inr (6, [.int M_code, .int M_keys, .int M_edges, .ref (a 1), .ref (a 2), .ref (a 3), .ref (a 4), .ref (a 5), .ref (a 6), .int M_thenKeys, .int M_thenEdges, .int M_configuration, .ref (a 7), .ref (a 8), .ref (a 9), .ref (a 10), .ref (a 11), .ref (a 12), .ref (a 13), .ref (a 14), .int M_parts, .int M_rings, .ref (a 15), .ref (a 16), .ref (a 17), .int M_metSize, .ref (a 18), .ref (a 19), .ref (a 20)])), (a 18, .inl (k 18, 40, .inl M_way))]
def tM_ringOf (k : Nat → ClassId) : List (ClassId × FieldType) := [(k 18, .int)]
set_option maxHeartbeats 4000000 in
set_option maxRecDepth 100000 in
theorem c_M_ringOf (l : Launch) (dC : Nat → ClassId) (dI : Nat → Nat → Nat) (a : Nat → Nat) (k : Nat → ClassId) (sz : Nat) (M_code : Int32) (M_keys : Int32) (M_edges : Int32) (M_thenKeys : Int32) (M_thenEdges : Int32) (M_configuration : Int32) (M_parts : Int32) (M_rings : Int32) (M_metSize : Int32) (M_way : (Nat → Int32)) (p1 : Int32) (p2 : Int32) (y : Int32 × Int32 × (Nat → Int32)) (hf : fM_ringOf M_metSize M_way p1 p2 = some y) : Met l y_M_ringOf ws_M_ringOf ({ frames := 0, cells := 0, slots := 0, locals := 0 }) (og_Pw [.ref (a 0), .int p1, .int p2] (dC, dI) (wM_ringOf a k M_code M_keys M_edges M_thenKeys M_thenEdges M_configuration M_parts M_rings M_metSize M_way) (tM_ringOf k) sz) (og_Qi (dC, dI) (wM_ringOf a k M_code M_keys M_edges M_thenKeys M_thenEdges M_configuration M_parts M_rings y.2.1 y.2.2) (tM_ringOf k) y.1 (va_A (wM_ringOf a k M_code M_keys M_edges M_thenKeys M_thenEdges M_configuration M_parts M_rings M_metSize M_way) sz)) 0 0 (va_A (wM_ringOf a k M_code M_keys M_edges M_thenKeys M_thenEdges M_configuration M_parts M_rings M_metSize M_way) sz) := by
  refine Met.ofW (cc := b_M_ringOf) (maxL := 5) (ret := (some .int)) (by decide) rfl ?_
  intro p e s m args below meth c s₁ B hml hv
  obtain ⟨rfl, hsz, hP, hK, hD0⟩ := hv
  have hx := B.exec
  have hb := B.bytes
  have hr := B.returns
  have hts0 := atoms_spec (ws := ws_M_ringOf) B.pre
  have hts : ∀ w ∈ og_tb, w.before _ s = true := fun w h => hts0 w (List.mem_cons_of_mem _ h)
  have hown : s.vm.findClass R_M = some m.cls := findClass_of_methodNamed B.named
  have hlocks := B.notSynchronized
  subst hsz
  have hD := hD0.self (sz := s.heap.size)
  generalize hAe : va_A (wM_ringOf a k M_code M_keys M_edges M_thenKeys M_thenEdges M_configuration M_parts M_rings M_metSize M_way) s.heap.size = A at hD ⊢
  have hA : ∀ q : Nat, s.heap.size ≤ q → A q := fun q h => by rw [← hAe]; exact Or.inr h
  have hS : va_S A s.heap s.heap [] := va_S.rf
  have hl := lv_entry ([.ref (a 0), .int p1, .int p2]) (n := 5) (Nat.le_of_ble_eq_true rfl)
  rw [lg_entry_eq]
  generalize (lg_sl ([.ref (a 0), .int p1, .int p2]) ++ List.replicate (5 - (lg_sl ([.ref (a 0), .int p1, .int p2])).length) Slot.unset).toArray = ls at hl ⊢
  have hl : lv_has ls 5 [(0, .ref (a 0)), (1, .int p1), (2, .int p2)] := hl
  rw [fM_ringOf] at hf
  refine lv_iconst (v := 0) hx hb d_M_ringOf_0 (by decide) ?_
  refine lv_istore_n (lv' := [(3, .int 0), (0, .ref (a 0)), (1, .int p1), (2, .int p2)]) hx hb d_M_ringOf_1 rfl hl (by decide) rfl (fun ls hl => ?_)
  have k2_18 : ∀ (v3 : Int32) (H : Heap) (locs : List Loc) (ls : Array Slot), fM_ringOf_K2_18 M_way p1 v3 = some y → va_P (dC, dI) vwCl (wM_ringOf a k M_code M_keys M_edges M_thenKeys M_thenEdges M_configuration M_parts M_rings M_metSize M_way) H → va_D A (wM_ringOf a k M_code M_keys M_edges M_thenKeys M_thenEdges M_configuration M_parts M_rings M_metSize M_way) → va_S A s.heap H locs → lv_has ls 5 [(0, .ref (a 0)), (1, .int p1), (3, .int v3)] → W p l e (headSpec ws_M_ringOf { frames := 0, cells := 0, slots := 0, locals := 0 }).room s m ([.ref (a 0), .int p1, .int p2] : List Value).toArray below meth c H locs 0 0 (MQ below (og_Qi (dC, dI) (wM_ringOf a k M_code M_keys M_edges M_thenKeys M_thenEdges M_configuration M_parts M_rings y.2.1 y.2.2) (tM_ringOf k) y.1 A) ([.ref (a 0), .int p1, .int p2] : List Value).toArray s 0 0 A) (F0 m 18 ls []) := by
    intro v3 H locs ls hf hP hD hS hl
    rw [fM_ringOf_K2_18] at hf
    refine lv_aload_n hx hb d_M_ringOf_18 rfl (lv_at hl 0 rfl) ?_
    refine lv_iload_n hx hb d_M_ringOf_19 rfl (lv_at hl 1 rfl) ?_
    refine lv_iload_n hx hb d_M_ringOf_20 rfl (lv_at hl 2 rfl) ?_
    refine lv_isub hx hb d_M_ringOf_21 ?_
    refine vs_M_metSize (v := (p1 - v3)) hx hb hts hown hK hP hD hS 0 rfl (hts _ tb_334) (Nat.le_of_ble_eq_true rfl) d_M_ringOf_22 (fun H locs hP hD hS => ?_)
    have hP : va_P (dC, dI) vwCl (wM_ringOf a k M_code M_keys M_edges M_thenKeys M_thenEdges M_configuration M_parts M_rings (p1 - v3) M_way) H := hP
    have hD : va_D A (wM_ringOf a k M_code M_keys M_edges M_thenKeys M_thenEdges M_configuration M_parts M_rings (p1 - v3) M_way) := hD
    refine lv_iconst (v := 0) hx hb d_M_ringOf_25 (by decide) ?_
    refine lv_istore (lv' := [(4, .int 0), (0, .ref (a 0)), (1, .int p1), (3, .int v3)]) hx hb d_M_ringOf_26 hl (by decide) rfl (fun ls hl => ?_)
    have k28_59 : ∀ (M_way : (Nat → Int32)) (H : Heap) (locs : List Loc) (ls : Array Slot), fM_ringOf_K28_59 (p1 - v3) M_way = some y → va_P (dC, dI) vwCl (wM_ringOf a k M_code M_keys M_edges M_thenKeys M_thenEdges M_configuration M_parts M_rings (p1 - v3) M_way) H → va_D A (wM_ringOf a k M_code M_keys M_edges M_thenKeys M_thenEdges M_configuration M_parts M_rings (p1 - v3) M_way) → va_S A s.heap H locs → lv_has ls 5 [(0, .ref (a 0))] → W p l e (headSpec ws_M_ringOf { frames := 0, cells := 0, slots := 0, locals := 0 }).room s m ([.ref (a 0), .int p1, .int p2] : List Value).toArray below meth c H locs 0 0 (MQ below (og_Qi (dC, dI) (wM_ringOf a k M_code M_keys M_edges M_thenKeys M_thenEdges M_configuration M_parts M_rings y.2.1 y.2.2) (tM_ringOf k) y.1 A) ([.ref (a 0), .int p1, .int p2] : List Value).toArray s 0 0 A) (F0 m 59 ls []) := by
      intro M_way H locs ls hf hP hD hS hl
      rw [fM_ringOf_K28_59] at hf
      refine lv_aload_n hx hb d_M_ringOf_59 rfl (lv_at hl 0 rfl) ?_
      refine vg_M_metSize (v := .int (p1 - v3)) hx hb hts hown hK hP 0 rfl (hts _ tb_334) rfl d_M_ringOf_60 ?_
      obtain rfl := Option.some.inj hf
      exact W.iret (v := (p1 - v3)) hx hb hr (fun t ht hW => ⟨⟨(p1 - v3), (), rfl, rfl, by rw [ht]; exact hP, va_K.moved hW.alike hK, hD⟩, hS.F ht⟩) hS.2.2 d_M_ringOf_63
    have lp28 : ∀ (n28 : Nat) (v4 : Int32) (M_way : (Nat → Int32)) (H : Heap) (locs : List Loc) (ls : Array Slot), fM_ringOf_L28 (fM_ringOf_K28_59 (p1 - v3)) (p1 - v3) v3 n28 v4 M_way = some y → va_P (dC, dI) vwCl (wM_ringOf a k M_code M_keys M_edges M_thenKeys M_thenEdges M_configuration M_parts M_rings (p1 - v3) M_way) H → va_D A (wM_ringOf a k M_code M_keys M_edges M_thenKeys M_thenEdges M_configuration M_parts M_rings (p1 - v3) M_way) → va_S A s.heap H locs → lv_has ls 5 [(0, .ref (a 0)), (3, .int v3), (4, .int v4)] → W p l e (headSpec ws_M_ringOf { frames := 0, cells := 0, slots := 0, locals := 0 }).room s m ([.ref (a 0), .int p1, .int p2] : List Value).toArray below meth c H locs 0 0 (MQ below (og_Qi (dC, dI) (wM_ringOf a k M_code M_keys M_edges M_thenKeys M_thenEdges M_configuration M_parts M_rings y.2.1 y.2.2) (tM_ringOf k) y.1 A) ([.ref (a 0), .int p1, .int p2] : List Value).toArray s 0 0 A) (F0 m 28 ls []) := by
      intro n28
      induction n28 with
      | zero => intro v4 M_way H locs ls hf hP hD hS hl; rw [fM_ringOf_L28] at hf; cases hf
      | succ n28 ih28 =>
        intro v4 M_way H locs ls hf hP hD hS hl
        rw [fM_ringOf_L28] at hf
        refine lv_iload hx hb d_M_ringOf_28 (lv_at hl 2 rfl) ?_
        refine lv_aload_n hx hb d_M_ringOf_30 rfl (lv_at hl 0 rfl) ?_
        refine vg_M_metSize (v := .int (p1 - v3)) hx hb hts hown hK hP 0 rfl (hts _ tb_334) rfl d_M_ringOf_31 ?_
        refine lv_icmp_ge (tgt := 59) hx hb d_M_ringOf_34 (by decide) (fun c_34 => ?_) (fun c_34 => ?_)
        · have hf := og_t hf c_34
          exact k28_59 M_way _ _ _ hf hP hD hS (lv_sub hl [0] rfl)
        · have hf := og_f hf c_34
          refine lv_aload_n hx hb d_M_ringOf_37 rfl (lv_at hl 0 rfl) ?_
          refine vg_M_way (v := .ref (a 18)) hx hb hts hown hK hP 0 rfl (hts _ tb_335) rfl d_M_ringOf_38 ?_
          refine lv_iload hx hb d_M_ringOf_41 (lv_at hl 2 rfl) ?_
          refine lv_aload_n hx hb d_M_ringOf_43 rfl (lv_at hl 0 rfl) ?_
          refine vg_M_way (v := .ref (a 18)) hx hb hts hown hK hP 0 rfl (hts _ tb_335) rfl d_M_ringOf_44 ?_
          refine lv_iload_n hx hb d_M_ringOf_47 rfl (lv_at hl 1 rfl) ?_
          refine lv_iload hx hb d_M_ringOf_48 (lv_at hl 2 rfl) ?_
          refine lv_iadd hx hb d_M_ringOf_50 ?_
          obtain ⟨h_51, hf⟩ := og_ck_s hf
          refine va_iald hx hb hK hP 1 0 rfl rfl h_51 d_M_ringOf_51 ?_
          obtain ⟨h_52, hf⟩ := og_ck_s hf
          refine va_iast hx hb hK hP hD hS 1 0 rfl rfl h_52 d_M_ringOf_52 (fun H locs hP hD hS => ?_)
          have hP : va_P (dC, dI) vwCl (wM_ringOf a k M_code M_keys M_edges M_thenKeys M_thenEdges M_configuration M_parts M_rings (p1 - v3) (upd M_way v4.toNatClampNeg (M_way (v3 + v4).toNatClampNeg))) H := hP
          have hD : va_D A (wM_ringOf a k M_code M_keys M_edges M_thenKeys M_thenEdges M_configuration M_parts M_rings (p1 - v3) (upd M_way v4.toNatClampNeg (M_way (v3 + v4).toNatClampNeg))) := hD
          refine lv_iinc (v := (v4 + 1)) (lv' := [(4, .int (v4 + 1)), (0, .ref (a 0)), (3, .int v3)]) hx hb d_M_ringOf_53 hl (k := 2) rfl rfl (by decide) rfl (fun ls hl => ?_)
          refine lv_goto (tgt := 28) hx hb d_M_ringOf_56 (by decide) ?_
          exact ih28 (v4 + 1) (upd M_way v4.toNatClampNeg (M_way (v3 + v4).toNatClampNeg)) _ _ _ hf hP hD hS (lv_sub hl [1, 2, 0] rfl)
    exact lp28 FU 0 M_way _ _ _ hf hP hD hS (lv_sub hl [1, 3, 0] rfl)
  have lp2 : ∀ (n2 : Nat) (v3 : Int32) (H : Heap) (locs : List Loc) (ls : Array Slot), fM_ringOf_L2 (fM_ringOf_K2_18 M_way p1) M_way p2 n2 v3 = some y → va_P (dC, dI) vwCl (wM_ringOf a k M_code M_keys M_edges M_thenKeys M_thenEdges M_configuration M_parts M_rings M_metSize M_way) H → va_D A (wM_ringOf a k M_code M_keys M_edges M_thenKeys M_thenEdges M_configuration M_parts M_rings M_metSize M_way) → va_S A s.heap H locs → lv_has ls 5 [(0, .ref (a 0)), (1, .int p1), (2, .int p2), (3, .int v3)] → W p l e (headSpec ws_M_ringOf { frames := 0, cells := 0, slots := 0, locals := 0 }).room s m ([.ref (a 0), .int p1, .int p2] : List Value).toArray below meth c H locs 0 0 (MQ below (og_Qi (dC, dI) (wM_ringOf a k M_code M_keys M_edges M_thenKeys M_thenEdges M_configuration M_parts M_rings y.2.1 y.2.2) (tM_ringOf k) y.1 A) ([.ref (a 0), .int p1, .int p2] : List Value).toArray s 0 0 A) (F0 m 2 ls []) := by
    intro n2
    induction n2 with
    | zero => intro v3 H locs ls hf hP hD hS hl; rw [fM_ringOf_L2] at hf; cases hf
    | succ n2 ih2 =>
      intro v3 H locs ls hf hP hD hS hl
      rw [fM_ringOf_L2] at hf
      refine lv_aload_n hx hb d_M_ringOf_2 rfl (lv_at hl 0 rfl) ?_
      refine vg_M_way (v := .ref (a 18)) hx hb hts hown hK hP 0 rfl (hts _ tb_335) rfl d_M_ringOf_3 ?_
      refine lv_iload_n hx hb d_M_ringOf_6 rfl (lv_at hl 3 rfl) ?_
      obtain ⟨h_7, hf⟩ := og_ck_s hf
      refine va_iald hx hb hK hP 1 0 rfl rfl h_7 d_M_ringOf_7 ?_
      refine lv_iload_n hx hb d_M_ringOf_8 rfl (lv_at hl 2 rfl) ?_
      refine lv_icmp_eq (tgt := 18) hx hb d_M_ringOf_9 (by decide) (fun c_9 => ?_) (fun c_9 => ?_)
      · have hf := og_t hf c_9
        exact k2_18 v3 _ _ _ hf hP hD hS (lv_sub hl [0, 1, 3] rfl)
      · have hf := og_f hf c_9
        refine lv_iinc (v := (v3 + 1)) (lv' := [(3, .int (v3 + 1)), (0, .ref (a 0)), (1, .int p1), (2, .int p2)]) hx hb d_M_ringOf_12 hl (k := 3) rfl rfl (by decide) rfl (fun ls hl => ?_)
        refine lv_goto (tgt := 2) hx hb d_M_ringOf_15 (by decide) ?_
        exact ih2 (v3 + 1) _ _ _ hf hP hD hS (lv_sub hl [1, 2, 3, 0] rfl)
  exact lp2 FU 0 _ _ _ hf hP hD hS (lv_sub hl [1, 2, 3, 0] rfl)
