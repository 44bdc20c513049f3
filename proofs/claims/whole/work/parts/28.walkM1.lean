def wM_state (a : Nat → Nat) (k : Nat → ClassId) (M_code : Int32) (M_keys : Int32) (M_edges : Int32) (M_thenKeys : Int32) (M_thenEdges : Int32) (M_configuration : Int32) (M_parts : Int32) (M_rings : Int32) (M_metSize : Int32) (M_rank : (Nat → Int32)) (M_reaches : (Nat → Int32)) : va_W := [(a 0, .inr (6, [.int M_code, .int M_keys, .int M_edges, .ref (a 1), .ref (a 2), .ref (a 3), .ref (a 4), .ref (a 5), .ref (a 6), .int M_thenKeys, .int M_thenEdges, .int M_configuration, .ref (a 7), .ref (a 8), .ref (a 9), .ref (a 10), .ref (a 11), .ref (a 12), .ref (a 13), .ref (a 14), .int M_parts, .int M_rings, .ref (a 15), .ref (a 16), .ref (a 17), .int M_metSize, .ref (a 18), .ref (a 19), .ref (a 20)])), (a 9, .inl (k 9, 40, .inl M_rank)), (a 13, .inl (k 13, 1600, .inl M_reaches))]
def tM_state (k : Nat → ClassId) : List (ClassId × FieldType) := [(k 9, .int), (k 13, .boolean)]
set_option maxHeartbeats 4000000 in
set_option maxRecDepth 100000 in
theorem c_M_state (l : Launch) (dC : Nat → ClassId) (dI : Nat → Nat → Nat) (a : Nat → Nat) (k : Nat → ClassId) (sz : Nat) (M_code : Int32) (M_keys : Int32) (M_edges : Int32) (M_thenKeys : Int32) (M_thenEdges : Int32) (M_configuration : Int32) (M_parts : Int32) (M_rings : Int32) (M_metSize : Int32) (M_rank : (Nat → Int32)) (M_reaches : (Nat → Int32)) (p1 : Int32) (y : Int32 × Int32) (hf : fM_state M_code M_thenKeys M_configuration M_rank M_reaches p1 = some y) : Met l y_M_state ws_M_state ({ frames := 2, cells := 0, slots := 0, locals := 42 }) (og_Pw [.ref (a 0), .int p1] (dC, dI) (wM_state a k M_code M_keys M_edges M_thenKeys M_thenEdges M_configuration M_parts M_rings M_metSize M_rank M_reaches) (tM_state k) sz) (og_Qi (dC, dI) (wM_state a k y.2 M_keys M_edges M_thenKeys M_thenEdges M_configuration M_parts M_rings M_metSize M_rank M_reaches) (tM_state k) y.1 (va_A (wM_state a k M_code M_keys M_edges M_thenKeys M_thenEdges M_configuration M_parts M_rings M_metSize M_rank M_reaches) sz)) 0 0 (va_A (wM_state a k M_code M_keys M_edges M_thenKeys M_thenEdges M_configuration M_parts M_rings M_metSize M_rank M_reaches) sz) := by
  refine Met.ofW (cc := b_M_state) (maxL := 4) (ret := (some .int)) (by decide) rfl ?_
  intro p e s m args below meth c s₁ B hml hv
  obtain ⟨rfl, hsz, hP, hK, hD0⟩ := hv
  have hx := B.exec
  have hb := B.bytes
  have hr := B.returns
  have hts0 := atoms_spec (ws := ws_M_state) B.pre
  have hts : ∀ w ∈ og_tb, w.before _ s = true := fun w h => hts0 w (List.mem_cons_of_mem _ h)
  have hown : s.vm.findClass R_M = some m.cls := findClass_of_methodNamed B.named
  have hlocks := B.notSynchronized
  subst hsz
  have hD := hD0.self (sz := s.heap.size)
  generalize hAe : va_A (wM_state a k M_code M_keys M_edges M_thenKeys M_thenEdges M_configuration M_parts M_rings M_metSize M_rank M_reaches) s.heap.size = A at hD ⊢
  have hA : ∀ q : Nat, s.heap.size ≤ q → A q := fun q h => by rw [← hAe]; exact Or.inr h
  have hS : va_S A s.heap s.heap [] := va_S.rf
  have hl := lv_entry ([.ref (a 0), .int p1]) (n := 4) (Nat.le_of_ble_eq_true rfl)
  rw [lg_entry_eq]
  generalize (lg_sl ([.ref (a 0), .int p1]) ++ List.replicate (4 - (lg_sl ([.ref (a 0), .int p1])).length) Slot.unset).toArray = ls at hl ⊢
  have hl : lv_has ls 4 [(0, .ref (a 0)), (1, .int p1)] := hl
  rw [fM_state] at hf
  refine lv_aload_n hx hb d_M_state_0 rfl (lv_at hl 0 rfl) ?_
  refine lv_iconst (v := 0) hx hb d_M_state_1 (by decide) ?_
  refine vs_M_code (v := 0) hx hb hts hown hK hP hD hS 0 rfl (hts _ tb_254) (Nat.le_of_ble_eq_true rfl) d_M_state_2 (fun H locs hP hD hS => ?_)
  have hP : va_P (dC, dI) vwCl (wM_state a k 0 M_keys M_edges M_thenKeys M_thenEdges M_configuration M_parts M_rings M_metSize M_rank M_reaches) H := hP
  have hD : va_D A (wM_state a k 0 M_keys M_edges M_thenKeys M_thenEdges M_configuration M_parts M_rings M_metSize M_rank M_reaches) := hD
  refine lv_aload_n hx hb d_M_state_5 rfl (lv_at hl 0 rfl) ?_
  refine lv_iload_n hx hb d_M_state_6 rfl (lv_at hl 1 rfl) ?_
  obtain ⟨r7, e_7, hf⟩ := og_b hf
  refine og_rV (w := (wM_state a k 0 M_keys M_edges M_thenKeys M_thenEdges M_configuration M_parts M_rings M_metSize M_rank M_reaches)) (As := [.int p1]) (rest := []) (ci := 6) (q0 := 0) ⟨hx, hb, hml, hown, hts⟩ (c_M_isThere l dC dI a k 0 M_keys M_edges M_thenKeys M_thenEdges M_configuration M_parts M_rings M_metSize p1 r7 e_7) (cwV 1 hts (og_gV tb_326 tb_327 tb_328 tb_259 tb_329) rfl rfl rfl (by decide +kernel) ⟨Nat.le_of_ble_eq_true rfl, Nat.le_of_ble_eq_true rfl⟩) hK hP [0] [] ⟨rfl, trivial⟩ rfl rfl rfl rfl rfl hl.1 rfl (Nat.le_of_ble_eq_true rfl) d_M_state_7 ⟨Nat.zero_le _, Nat.zero_le _⟩ ?_
  refine lv_if_ne (tgt := 15) hx hb d_M_state_10 (by decide) (fun c_10 => ?_) (fun c_10 => ?_)
  · have hf := og_f hf c_10
    refine lv_aload_n hx hb d_M_state_15 rfl (lv_at hl 0 rfl) ?_
    refine lv_aload_n hx hb d_M_state_16 rfl (lv_at hl 0 rfl) ?_
    refine vg_M_rank (v := .ref (a 9)) hx hb hts hown hK hP 0 rfl (hts _ tb_269) rfl d_M_state_17 ?_
    refine lv_iload_n hx hb d_M_state_20 rfl (lv_at hl 1 rfl) ?_
    obtain ⟨h_21, hf⟩ := og_ck_s hf
    refine va_iald hx hb hK hP 1 0 rfl rfl h_21 d_M_state_21 ?_
    obtain ⟨r22, e_22, hf⟩ := og_b hf
    refine og_rV (w := (wM_state a k 0 M_keys M_edges M_thenKeys M_thenEdges M_configuration M_parts M_rings M_metSize M_rank M_reaches)) (As := [.int (M_rank p1.toNatClampNeg)]) (rest := []) (ci := 6) (q0 := 0) ⟨hx, hb, hml, hown, hts⟩ (c_M_isRinged l dC dI a k 0 M_keys M_edges M_thenKeys M_thenEdges M_configuration M_parts M_rings M_metSize M_reaches (M_rank p1.toNatClampNeg) r22 e_22) (cwV 1 hts (og_gV tb_330 tb_331 tb_332 tb_259 tb_333) rfl rfl rfl (by decide +kernel) ⟨Nat.le_of_ble_eq_true rfl, Nat.le_of_ble_eq_true rfl⟩) hK hP [0, 2] [1] ⟨rfl, rfl, trivial⟩ rfl rfl rfl rfl rfl hl.1 rfl (Nat.le_of_ble_eq_true rfl) d_M_state_22 ⟨Nat.zero_le _, Nat.zero_le _⟩ ?_
    refine lv_if_eq (tgt := 30) hx hb d_M_state_25 (by decide) (fun c_25 => ?_) (fun c_25 => ?_)
    · have hf := og_t hf c_25
      refine lv_iconst (v := 0) hx hb d_M_state_30 (by decide) ?_
      refine lv_istore_n (lv' := [(2, .int 0), (0, .ref (a 0)), (1, .int p1)]) hx hb d_M_state_31 rfl hl (by decide) rfl (fun ls hl => ?_)
      refine lv_iconst (v := 0) hx hb d_M_state_32 (by decide) ?_
      refine lv_istore_n (lv' := [(3, .int 0), (2, .int 0), (0, .ref (a 0)), (1, .int p1)]) hx hb d_M_state_33 rfl hl (by decide) rfl (fun ls hl => ?_)
      have k34_84 : ∀ (v2 : Int32) (H : Heap) (locs : List Loc) (ls : Array Slot), fM_state_K34_84 0 v2 = some y → va_P (dC, dI) vwCl (wM_state a k 0 M_keys M_edges M_thenKeys M_thenEdges M_configuration M_parts M_rings M_metSize M_rank M_reaches) H → va_D A (wM_state a k 0 M_keys M_edges M_thenKeys M_thenEdges M_configuration M_parts M_rings M_metSize M_rank M_reaches) → va_S A s.heap H locs → lv_has ls 4 [(2, .int v2)] → W p l e (headSpec ws_M_state { frames := 2, cells := 0, slots := 0, locals := 42 }).room s m ([.ref (a 0), .int p1] : List Value).toArray below meth c H locs 0 0 (MQ below (og_Qi (dC, dI) (wM_state a k y.2 M_keys M_edges M_thenKeys M_thenEdges M_configuration M_parts M_rings M_metSize M_rank M_reaches) (tM_state k) y.1 A) ([.ref (a 0), .int p1] : List Value).toArray s 0 0 A) (F0 m 84 ls []) := by
        intro v2 H locs ls hf hP hD hS hl
        rw [fM_state_K34_84] at hf
        refine lv_iload_n hx hb d_M_state_84 rfl (lv_at hl 0 rfl) ?_
        refine lv_if_eq (tgt := 92) hx hb d_M_state_85 (by decide) (fun c_85 => ?_) (fun c_85 => ?_)
        · have hf := og_t hf c_85
          refine lv_iconst (v := 0) hx hb d_M_state_92 (by decide) ?_
          obtain rfl := Option.some.inj hf
          exact W.iret (v := 0) hx hb hr (fun t ht hW => ⟨⟨0, (), rfl, rfl, by rw [ht]; exact hP, va_K.moved hW.alike hK, hD⟩, hS.F ht⟩) hS.2.2 d_M_state_93
        · have hf := og_f hf c_85
          refine lv_iconst (v := 1) hx hb d_M_state_88 (by decide) ?_
          refine lv_goto (tgt := 93) hx hb d_M_state_89 (by decide) ?_
          obtain rfl := Option.some.inj hf
          exact W.iret (v := 1) hx hb hr (fun t ht hW => ⟨⟨1, (), rfl, rfl, by rw [ht]; exact hP, va_K.moved hW.alike hK, hD⟩, hS.F ht⟩) hS.2.2 d_M_state_93
      have lp34 : ∀ (n34 : Nat) (v2 : Int32) (v3 : Int32) (H : Heap) (locs : List Loc) (ls : Array Slot), fM_state_L34 (fM_state_K34_84 0) M_thenKeys M_rank M_reaches p1 n34 v2 v3 = some y → va_P (dC, dI) vwCl (wM_state a k 0 M_keys M_edges M_thenKeys M_thenEdges M_configuration M_parts M_rings M_metSize M_rank M_reaches) H → va_D A (wM_state a k 0 M_keys M_edges M_thenKeys M_thenEdges M_configuration M_parts M_rings M_metSize M_rank M_reaches) → va_S A s.heap H locs → lv_has ls 4 [(0, .ref (a 0)), (1, .int p1), (2, .int v2), (3, .int v3)] → W p l e (headSpec ws_M_state { frames := 2, cells := 0, slots := 0, locals := 42 }).room s m ([.ref (a 0), .int p1] : List Value).toArray below meth c H locs 0 0 (MQ below (og_Qi (dC, dI) (wM_state a k y.2 M_keys M_edges M_thenKeys M_thenEdges M_configuration M_parts M_rings M_metSize M_rank M_reaches) (tM_state k) y.1 A) ([.ref (a 0), .int p1] : List Value).toArray s 0 0 A) (F0 m 34 ls []) := by
        intro n34
        induction n34 with
        | zero => intro v2 v3 H locs ls hf hP hD hS hl; rw [fM_state_L34] at hf; cases hf
        | succ n34 ih34 =>
          intro v2 v3 H locs ls hf hP hD hS hl
          rw [fM_state_L34] at hf
          refine lv_iload_n hx hb d_M_state_34 rfl (lv_at hl 3 rfl) ?_
          refine lv_aload_n hx hb d_M_state_35 rfl (lv_at hl 0 rfl) ?_
          refine vg_M_thenKeys (v := .int M_thenKeys) hx hb hts hown hK hP 0 rfl (hts _ tb_272) rfl d_M_state_36 ?_
          refine lv_icmp_ge (tgt := 84) hx hb d_M_state_39 (by decide) (fun c_39 => ?_) (fun c_39 => ?_)
          · have hf := og_t hf c_39
            exact k34_84 v2 _ _ _ hf hP hD hS (lv_sub hl [2] rfl)
          · have hf := og_f hf c_39
            refine lv_iload_n hx hb d_M_state_42 rfl (lv_at hl 2 rfl) ?_
            refine lv_if_ne (tgt := 72) hx hb d_M_state_43 (by decide) (fun c_43 => ?_) (fun c_43 => ?_)
            · have hf := og_f hf c_43
              refine lv_iconst (v := 1) hx hb d_M_state_72 (by decide) ?_
              refine lv_goto (tgt := 77) hx hb d_M_state_73 (by decide) ?_
              refine lv_istore_n (lv' := [(2, .int 1), (0, .ref (a 0)), (1, .int p1), (3, .int v3)]) hx hb d_M_state_77 rfl hl (by decide) rfl (fun ls hl => ?_)
              refine lv_iinc (v := (v3 + 1)) (lv' := [(3, .int (v3 + 1)), (2, .int 1), (0, .ref (a 0)), (1, .int p1)]) hx hb d_M_state_78 hl (k := 3) rfl rfl (by decide) rfl (fun ls hl => ?_)
              refine lv_goto (tgt := 34) hx hb d_M_state_81 (by decide) ?_
              exact ih34 1 (v3 + 1) _ _ _ hf hP hD hS (lv_sub hl [2, 3, 1, 0] rfl)
            · have hf := og_t hf c_43
              refine lv_aload_n hx hb d_M_state_46 rfl (lv_at hl 0 rfl) ?_
              refine vg_M_reaches (v := .ref (a 13)) hx hb hts hown hK hP 0 rfl (hts _ tb_270) rfl d_M_state_47 ?_
              refine lv_aload_n hx hb d_M_state_50 rfl (lv_at hl 0 rfl) ?_
              refine vg_M_rank (v := .ref (a 9)) hx hb hts hown hK hP 0 rfl (hts _ tb_269) rfl d_M_state_51 ?_
              refine lv_iload_n hx hb d_M_state_54 rfl (lv_at hl 1 rfl) ?_
              obtain ⟨h_55, hf⟩ := og_ck_s hf
              refine va_iald hx hb hK hP 1 0 rfl rfl h_55 d_M_state_55 ?_
              refine lv_iload_n hx hb d_M_state_56 rfl (lv_at hl 3 rfl) ?_
              obtain ⟨r57, e_57, hf⟩ := og_b hf
              refine og_rS (w := (wM_state a k 0 M_keys M_edges M_thenKeys M_thenEdges M_configuration M_parts M_rings M_metSize M_rank M_reaches)) (As := [.int (M_rank p1.toNatClampNeg), .int v3]) (rest := [.ref (a 13)]) ⟨hx, hb, hml, hown, hts⟩ (c_M_cell l dC dI a k (M_rank p1.toNatClampNeg) v3 r57 e_57) (va_cwS 2 hts (og_gS tb_273 tb_274 tb_259 tb_275) rfl rfl rfl (by decide +kernel) ⟨Nat.le_of_ble_eq_true rfl, Nat.le_of_ble_eq_true rfl⟩) hK hP [] [] trivial rfl rfl hl.1 rfl (Nat.le_of_ble_eq_true rfl) d_M_state_57 ⟨Nat.zero_le _, Nat.zero_le _⟩ ?_
              obtain ⟨h_60, hf⟩ := og_ck_s hf
              refine va_zald hx hb hK hP 2 1 rfl rfl h_60 d_M_state_60 ?_
              refine lv_if_eq (tgt := 76) hx hb d_M_state_61 (by decide) (fun c_61 => ?_) (fun c_61 => ?_)
              · have hf := og_t hf c_61
                refine lv_iconst (v := 0) hx hb d_M_state_76 (by decide) ?_
                refine lv_istore_n (lv' := [(2, .int 0), (0, .ref (a 0)), (1, .int p1), (3, .int v3)]) hx hb d_M_state_77 rfl hl (by decide) rfl (fun ls hl => ?_)
                refine lv_iinc (v := (v3 + 1)) (lv' := [(3, .int (v3 + 1)), (2, .int 0), (0, .ref (a 0)), (1, .int p1)]) hx hb d_M_state_78 hl (k := 3) rfl rfl (by decide) rfl (fun ls hl => ?_)
                refine lv_goto (tgt := 34) hx hb d_M_state_81 (by decide) ?_
                exact ih34 0 (v3 + 1) _ _ _ hf hP hD hS (lv_sub hl [2, 3, 1, 0] rfl)
              · have hf := og_f hf c_61
                refine lv_aload_n hx hb d_M_state_64 rfl (lv_at hl 0 rfl) ?_
                refine lv_iload_n hx hb d_M_state_65 rfl (lv_at hl 3 rfl) ?_
                obtain ⟨r66, e_66, hf⟩ := og_b hf
                refine og_rV (w := (wM_state a k 0 M_keys M_edges M_thenKeys M_thenEdges M_configuration M_parts M_rings M_metSize M_rank M_reaches)) (As := [.int v3]) (rest := []) (ci := 6) (q0 := 0) ⟨hx, hb, hml, hown, hts⟩ (c_M_isRinged l dC dI a k 0 M_keys M_edges M_thenKeys M_thenEdges M_configuration M_parts M_rings M_metSize M_reaches v3 r66 e_66) (cwV 1 hts (og_gV tb_330 tb_331 tb_332 tb_259 tb_333) rfl rfl rfl (by decide +kernel) ⟨Nat.le_of_ble_eq_true rfl, Nat.le_of_ble_eq_true rfl⟩) hK hP [0, 2] [1] ⟨rfl, rfl, trivial⟩ rfl rfl rfl rfl rfl hl.1 rfl (Nat.le_of_ble_eq_true rfl) d_M_state_66 ⟨Nat.zero_le _, Nat.zero_le _⟩ ?_
                refine lv_if_eq (tgt := 76) hx hb d_M_state_69 (by decide) (fun c_69 => ?_) (fun c_69 => ?_)
                · have hf := og_t hf c_69
                  refine lv_iconst (v := 0) hx hb d_M_state_76 (by decide) ?_
                  refine lv_istore_n (lv' := [(2, .int 0), (0, .ref (a 0)), (1, .int p1), (3, .int v3)]) hx hb d_M_state_77 rfl hl (by decide) rfl (fun ls hl => ?_)
                  refine lv_iinc (v := (v3 + 1)) (lv' := [(3, .int (v3 + 1)), (2, .int 0), (0, .ref (a 0)), (1, .int p1)]) hx hb d_M_state_78 hl (k := 3) rfl rfl (by decide) rfl (fun ls hl => ?_)
                  refine lv_goto (tgt := 34) hx hb d_M_state_81 (by decide) ?_
                  exact ih34 0 (v3 + 1) _ _ _ hf hP hD hS (lv_sub hl [2, 3, 1, 0] rfl)
                · have hf := og_f hf c_69
                  refine lv_iconst (v := 1) hx hb d_M_state_72 (by decide) ?_
                  refine lv_goto (tgt := 77) hx hb d_M_state_73 (by decide) ?_
                  refine lv_istore_n (lv' := [(2, .int 1), (0, .ref (a 0)), (1, .int p1), (3, .int v3)]) hx hb d_M_state_77 rfl hl (by decide) rfl (fun ls hl => ?_)
                  refine lv_iinc (v := (v3 + 1)) (lv' := [(3, .int (v3 + 1)), (2, .int 1), (0, .ref (a 0)), (1, .int p1)]) hx hb d_M_state_78 hl (k := 3) rfl rfl (by decide) rfl (fun ls hl => ?_)
                  refine lv_goto (tgt := 34) hx hb d_M_state_81 (by decide) ?_
                  exact ih34 1 (v3 + 1) _ _ _ hf hP hD hS (lv_sub hl [2, 3, 1, 0] rfl)
      exact lp34 FU 0 0 _ _ _ hf hP hD hS (lv_sub hl [2, 3, 1, 0] rfl)
    · have hf := og_f hf c_25
      refine lv_iconst (v := 2) hx hb d_M_state_28 (by decide) ?_
      obtain rfl := Option.some.inj hf
      exact W.iret (v := 2) hx hb hr (fun t ht hW => ⟨⟨2, (), rfl, rfl, by rw [ht]; exact hP, va_K.moved hW.alike hK, hD⟩, hS.F ht⟩) hS.2.2 d_M_state_29
  · have hf := og_t hf c_10
    refine lv_iconst (v := (-1)) hx hb d_M_state_13 (by decide) ?_
    obtain rfl := Option.some.inj hf
    exact W.iret (v := (-1)) hx hb hr (fun t ht hW => ⟨⟨(-1), (), rfl, rfl, by rw [ht]; exact hP, va_K.moved hW.alike hK, hD⟩, hS.F ht⟩) hS.2.2 d_M_state_14
def wM_edgeOf (a : Nat → Nat) (k : Nat → ClassId) (M_code : Int32) (M_keys : Int32) (M_edges : Int32) (M_thenKeys : Int32) (M_thenEdges : Int32) (M_configuration : Int32) (M_parts : Int32) (M_rings : Int32) (M_metSize : Int32) (M_from : (Nat → Int32)) (M_to : (Nat → Int32)) (M_place : (Nat → Int32)) (M_bits : (Nat → Int32)) (M_thenGone : (Nat → Int32)) (M_order : (Nat → Int32)) (M_ringSize : (Nat → Int32)) (M_ring : (Nat → Int32)) : va_W := [(a 0, .inr (6, [.int M_code, .int M_keys, .int M_edges, .ref (a 1), .ref (a 2), .ref (a 3), .ref (a 4), .ref (a 5), .ref (a 6), .int M_thenKeys, .int M_thenEdges, .int M_configuration, .ref (a 7), .ref (a 8), .ref (a 9), .ref (a 10), .ref (a 11), .ref (a 12), .ref (a 13), .ref (a 14), .int M_parts, .int M_rings, .ref (a 15), .ref (a 16), .ref (a 17), .int M_metSize, .ref (a 18), .ref (a 19), .ref (a 20)])), (a 2, .inl (k 2, 160, .inl M_from)), (a 3, .inl (k 3, 160, .inl M_to)), (a 4, .inl (k 4, 160, .inl M_place)), (a 5, .inl (k 5, 160, .inl M_bits)), (a 7, .inl (k 7, 160, .inl M_thenGone)), (a 8, .inl (k 8, 40, .inl M_order)), (a 15, .inl (k 15, 40, .inl M_ringSize)), (a 16, .inl (k 16, 1600, .inl M_ring))]
def tM_edgeOf (k : Nat → ClassId) : List (ClassId × FieldType) := [(k 2, .int), (k 3, .int), (k 4, .int), (k 5, .int), (k 7, .boolean), (k 8, .int), (k 15, .int), (k 16, .int)]
set_option maxHeartbeats 4000000 in
set_option maxRecDepth 100000 in
theorem c_M_edgeOf (l : Launch) (dC : Nat → ClassId) (dI : Nat → Nat → Nat) (a : Nat → Nat) (k : Nat → ClassId) (M_code : Int32) (M_keys : Int32) (M_edges : Int32) (M_thenKeys : Int32) (M_thenEdges : Int32) (M_configuration : Int32) (M_parts : Int32) (M_rings : Int32) (M_metSize : Int32) (M_from : (Nat → Int32)) (M_to : (Nat → Int32)) (M_place : (Nat → Int32)) (M_bits : (Nat → Int32)) (M_thenGone : (Nat → Int32)) (M_order : (Nat → Int32)) (M_ringSize : (Nat → Int32)) (M_ring : (Nat → Int32)) (p1 : Int32) (p2 : Int32) (y : Int32) (hf : fM_edgeOf M_from M_to M_place M_bits M_thenEdges M_configuration M_thenGone M_order M_ringSize M_ring p1 p2 = some y) : Met l y_M_edgeOf ws_M_edgeOf ({ frames := 2, cells := 0, slots := 0, locals := 43 }) (og_Pr [.ref (a 0), .int p1, .int p2] (dC, dI) (wM_edgeOf a k M_code M_keys M_edges M_thenKeys M_thenEdges M_configuration M_parts M_rings M_metSize M_from M_to M_place M_bits M_thenGone M_order M_ringSize M_ring) (tM_edgeOf k)) (vp_Si (fun x => x = y)) 0 0 (fun _ => False) := by
  refine Met.ofW (cc := b_M_edgeOf) (maxL := 5) (ret := (some .int)) (by decide) rfl ?_
  intro p e s m args below meth c s₁ B hml hv
  obtain ⟨rfl, hP, hK⟩ := hv
  have hx := B.exec
  have hb := B.bytes
  have hr := B.returns
  have hts0 := atoms_spec (ws := ws_M_edgeOf) B.pre
  have hts : ∀ w ∈ og_tb, w.before _ s = true := fun w h => hts0 w (List.mem_cons_of_mem _ h)
  have hown : s.vm.findClass R_M = some m.cls := findClass_of_methodNamed B.named
  have hlocks := B.notSynchronized
  have hl := lv_entry ([.ref (a 0), .int p1, .int p2]) (n := 5) (Nat.le_of_ble_eq_true rfl)
  rw [lg_entry_eq]
  generalize (lg_sl ([.ref (a 0), .int p1, .int p2]) ++ List.replicate (5 - (lg_sl ([.ref (a 0), .int p1, .int p2])).length) Slot.unset).toArray = ls at hl ⊢
  have hl : lv_has ls 5 [(0, .ref (a 0)), (1, .int p1), (2, .int p2)] := hl
  rw [fM_edgeOf] at hf
  refine lv_iconst (v := (-1)) hx hb d_M_edgeOf_0 (by decide) ?_
  refine lv_istore_n (lv' := [(3, .int (-1)), (0, .ref (a 0)), (1, .int p1), (2, .int p2)]) hx hb d_M_edgeOf_1 rfl hl (by decide) rfl (fun ls hl => ?_)
  refine lv_iconst (v := 0) hx hb d_M_edgeOf_2 (by decide) ?_
  refine lv_istore (lv' := [(4, .int 0), (3, .int (-1)), (0, .ref (a 0)), (1, .int p1), (2, .int p2)]) hx hb d_M_edgeOf_3 hl (by decide) rfl (fun ls hl => ?_)
  have k5_98 : ∀ (v3 : Int32) (ls : Array Slot), fM_edgeOf_K5_98 v3 = some y → lv_has ls 5 [(3, .int v3)] → W p l e (headSpec ws_M_edgeOf { frames := 2, cells := 0, slots := 0, locals := 43 }).room s m ([.ref (a 0), .int p1, .int p2] : List Value).toArray below meth c s.heap [] 0 0 (MQ below (vp_Si (fun x => x = y)) ([.ref (a 0), .int p1, .int p2] : List Value).toArray s 0 0 (fun _ => False)) (F0 m 98 ls []) := by
    intro v3 ls hf hl
    rw [fM_edgeOf_K5_98] at hf
    refine lv_iload_n hx hb d_M_edgeOf_98 rfl (lv_at hl 0 rfl) ?_
    obtain rfl := Option.some.inj hf
    exact W.iret (v := v3) hx hb hr (fun t ht hW => ⟨v3, rfl, rfl, ht⟩) (fun _ h => absurd h List.not_mem_nil) d_M_edgeOf_99
  have lp5 : ∀ (n5 : Nat) (v3 : Int32) (v4 : Int32) (ls : Array Slot), fM_edgeOf_L5 fM_edgeOf_K5_98 M_from M_to M_place M_bits M_thenEdges M_configuration M_thenGone M_order M_ringSize M_ring p1 p2 n5 v3 v4 = some y → lv_has ls 5 [(0, .ref (a 0)), (1, .int p1), (2, .int p2), (3, .int v3), (4, .int v4)] → W p l e (headSpec ws_M_edgeOf { frames := 2, cells := 0, slots := 0, locals := 43 }).room s m ([.ref (a 0), .int p1, .int p2] : List Value).toArray below meth c s.heap [] 0 0 (MQ below (vp_Si (fun x => x = y)) ([.ref (a 0), .int p1, .int p2] : List Value).toArray s 0 0 (fun _ => False)) (F0 m 5 ls []) := by
    intro n5
    induction n5 with
    | zero => intro v3 v4 ls hf hl; rw [fM_edgeOf_L5] at hf; cases hf
    | succ n5 ih5 =>
      intro v3 v4 ls hf hl
      rw [fM_edgeOf_L5] at hf
      refine lv_iload hx hb d_M_edgeOf_5 (lv_at hl 4 rfl) ?_
      refine lv_aload_n hx hb d_M_edgeOf_7 rfl (lv_at hl 0 rfl) ?_
      refine vg_M_thenEdges (v := .int M_thenEdges) hx hb hts hown hK hP 0 rfl (hts _ tb_276) rfl d_M_edgeOf_8 ?_
      refine lv_icmp_ge (tgt := 98) hx hb d_M_edgeOf_11 (by decide) (fun c_11 => ?_) (fun c_11 => ?_)
      · have hf := og_t hf c_11
        exact k5_98 v3 _ hf (lv_sub hl [3] rfl)
      · have hf := og_f hf c_11
        refine lv_aload_n hx hb d_M_edgeOf_14 rfl (lv_at hl 0 rfl) ?_
        refine lv_iload hx hb d_M_edgeOf_15 (lv_at hl 4 rfl) ?_
        refine lv_aload_n hx hb d_M_edgeOf_17 rfl (lv_at hl 0 rfl) ?_
        refine vg_M_configuration (v := .int M_configuration) hx hb hts hown hK hP 0 rfl (hts _ tb_277) rfl d_M_edgeOf_18 ?_
        obtain ⟨r21, e_21, hf⟩ := og_b hf
        refine og_rV (w := (wM_edgeOf a k M_code M_keys M_edges M_thenKeys M_thenEdges M_configuration M_parts M_rings M_metSize M_from M_to M_place M_bits M_thenGone M_order M_ringSize M_ring)) (As := [.int v4, .int M_configuration]) (rest := []) (ci := 6) (q0 := 0) ⟨hx, hb, hml, hown, hts⟩ (c_M_isThen l dC dI a k M_code M_keys M_edges M_thenKeys M_thenEdges M_configuration M_parts M_rings M_metSize M_bits M_thenGone v4 M_configuration r21 e_21) (cwV 2 hts (og_gV tb_278 tb_279 tb_280 tb_259 tb_281) rfl rfl rfl (by decide +kernel) ⟨Nat.le_of_ble_eq_true rfl, Nat.le_of_ble_eq_true rfl⟩) hK hP [0, 4, 5] [3, 4] ⟨rfl, rfl, rfl, trivial⟩ rfl rfl rfl rfl rfl hl.1 rfl (Nat.le_of_ble_eq_true rfl) d_M_edgeOf_21 ⟨Nat.zero_le _, Nat.zero_le _⟩ ?_
        refine lv_if_eq (tgt := 92) hx hb d_M_edgeOf_24 (by decide) (fun c_24 => ?_) (fun c_24 => ?_)
        · have hf := og_t hf c_24
          refine lv_iinc (v := (v4 + 1)) (lv' := [(4, .int (v4 + 1)), (0, .ref (a 0)), (1, .int p1), (2, .int p2), (3, .int v3)]) hx hb d_M_edgeOf_92 hl (k := 4) rfl rfl (by decide) rfl (fun ls hl => ?_)
          refine lv_goto (tgt := 5) hx hb d_M_edgeOf_95 (by decide) ?_
          exact ih5 v3 (v4 + 1) _ hf (lv_sub hl [1, 2, 3, 4, 0] rfl)
        · have hf := og_f hf c_24
          refine lv_aload_n hx hb d_M_edgeOf_27 rfl (lv_at hl 0 rfl) ?_
          refine vg_M_from (v := .ref (a 2)) hx hb hts hown hK hP 0 rfl (hts _ tb_262) rfl d_M_edgeOf_28 ?_
          refine lv_iload hx hb d_M_edgeOf_31 (lv_at hl 4 rfl) ?_
          obtain ⟨h_33, hf⟩ := og_ck_s hf
          refine va_iald hx hb hK hP 1 0 rfl rfl h_33 d_M_edgeOf_33 ?_
          refine lv_aload_n hx hb d_M_edgeOf_34 rfl (lv_at hl 0 rfl) ?_
          refine lv_iload_n hx hb d_M_edgeOf_35 rfl (lv_at hl 1 rfl) ?_
          refine lv_iload_n hx hb d_M_edgeOf_36 rfl (lv_at hl 2 rfl) ?_
          obtain ⟨r37, e_37, hf⟩ := og_b hf
          refine og_rV (w := (wM_edgeOf a k M_code M_keys M_edges M_thenKeys M_thenEdges M_configuration M_parts M_rings M_metSize M_from M_to M_place M_bits M_thenGone M_order M_ringSize M_ring)) (As := [.int p1, .int p2]) (rest := [.int (M_from v4.toNatClampNeg)]) (ci := 6) (q0 := 0) ⟨hx, hb, hml, hown, hts⟩ (c_M_keyOf l dC dI a k M_code M_keys M_edges M_thenKeys M_thenEdges M_configuration M_parts M_rings M_metSize M_order M_ringSize M_ring p1 p2 r37 e_37) (cwV 2 hts (og_gV tb_314 tb_315 tb_316 tb_259 tb_317) rfl rfl rfl (by decide +kernel) ⟨Nat.le_of_ble_eq_true rfl, Nat.le_of_ble_eq_true rfl⟩) hK hP [0, 6, 7, 8] [5, 6, 7] ⟨rfl, rfl, rfl, rfl, trivial⟩ rfl rfl rfl rfl rfl hl.1 rfl (Nat.le_of_ble_eq_true rfl) d_M_edgeOf_37 ⟨Nat.zero_le _, Nat.zero_le _⟩ ?_
          refine lv_icmp_ne (tgt := 92) hx hb d_M_edgeOf_40 (by decide) (fun c_40 => ?_) (fun c_40 => ?_)
          · have hf := og_f hf c_40
            refine lv_iinc (v := (v4 + 1)) (lv' := [(4, .int (v4 + 1)), (0, .ref (a 0)), (1, .int p1), (2, .int p2), (3, .int v3)]) hx hb d_M_edgeOf_92 hl (k := 4) rfl rfl (by decide) rfl (fun ls hl => ?_)
            refine lv_goto (tgt := 5) hx hb d_M_edgeOf_95 (by decide) ?_
            exact ih5 v3 (v4 + 1) _ hf (lv_sub hl [1, 2, 3, 4, 0] rfl)
          · have hf := og_t hf c_40
            refine lv_aload_n hx hb d_M_edgeOf_43 rfl (lv_at hl 0 rfl) ?_
            refine vg_M_to (v := .ref (a 3)) hx hb hts hown hK hP 0 rfl (hts _ tb_263) rfl d_M_edgeOf_44 ?_
            refine lv_iload hx hb d_M_edgeOf_47 (lv_at hl 4 rfl) ?_
            obtain ⟨h_49, hf⟩ := og_ck_s hf
            refine va_iald hx hb hK hP 2 1 rfl rfl h_49 d_M_edgeOf_49 ?_
            refine lv_aload_n hx hb d_M_edgeOf_50 rfl (lv_at hl 0 rfl) ?_
            refine lv_iload_n hx hb d_M_edgeOf_51 rfl (lv_at hl 1 rfl) ?_
            refine lv_iload_n hx hb d_M_edgeOf_52 rfl (lv_at hl 2 rfl) ?_
            refine lv_iconst (v := 1) hx hb d_M_edgeOf_53 (by decide) ?_
            refine lv_iadd hx hb d_M_edgeOf_54 ?_
            obtain ⟨r55, e_55, hf⟩ := og_b hf
            refine og_rV (w := (wM_edgeOf a k M_code M_keys M_edges M_thenKeys M_thenEdges M_configuration M_parts M_rings M_metSize M_from M_to M_place M_bits M_thenGone M_order M_ringSize M_ring)) (As := [.int p1, .int (p2 + 1)]) (rest := [.int (M_to v4.toNatClampNeg)]) (ci := 6) (q0 := 0) ⟨hx, hb, hml, hown, hts⟩ (c_M_keyOf l dC dI a k M_code M_keys M_edges M_thenKeys M_thenEdges M_configuration M_parts M_rings M_metSize M_order M_ringSize M_ring p1 (p2 + 1) r55 e_55) (cwV 2 hts (og_gV tb_314 tb_315 tb_316 tb_259 tb_317) rfl rfl rfl (by decide +kernel) ⟨Nat.le_of_ble_eq_true rfl, Nat.le_of_ble_eq_true rfl⟩) hK hP [0, 6, 7, 8] [5, 6, 7] ⟨rfl, rfl, rfl, rfl, trivial⟩ rfl rfl rfl rfl rfl hl.1 rfl (Nat.le_of_ble_eq_true rfl) d_M_edgeOf_55 ⟨Nat.zero_le _, Nat.zero_le _⟩ ?_
            refine lv_icmp_eq (tgt := 64) hx hb d_M_edgeOf_58 (by decide) (fun c_58 => ?_) (fun c_58 => ?_)
            · have hf := og_t hf c_58
              refine lv_iload_n hx hb d_M_edgeOf_64 rfl (lv_at hl 3 rfl) ?_
              refine lv_iconst (v := (-1)) hx hb d_M_edgeOf_65 (by decide) ?_
              refine lv_icmp_eq (tgt := 85) hx hb d_M_edgeOf_66 (by decide) (fun c_66 => ?_) (fun c_66 => ?_)
              · have hf := og_t hf c_66
                refine lv_iload hx hb d_M_edgeOf_85 (lv_at hl 4 rfl) ?_
                refine lv_goto (tgt := 91) hx hb d_M_edgeOf_87 (by decide) ?_
                refine lv_istore_n (lv' := [(3, .int v4), (0, .ref (a 0)), (1, .int p1), (2, .int p2), (4, .int v4)]) hx hb d_M_edgeOf_91 rfl hl (by decide) rfl (fun ls hl => ?_)
                refine lv_iinc (v := (v4 + 1)) (lv' := [(4, .int (v4 + 1)), (3, .int v4), (0, .ref (a 0)), (1, .int p1), (2, .int p2)]) hx hb d_M_edgeOf_92 hl (k := 4) rfl rfl (by decide) rfl (fun ls hl => ?_)
                refine lv_goto (tgt := 5) hx hb d_M_edgeOf_95 (by decide) ?_
                exact ih5 v4 (v4 + 1) _ hf (lv_sub hl [2, 3, 4, 1, 0] rfl)
              · have hf := og_f hf c_66
                refine lv_aload_n hx hb d_M_edgeOf_69 rfl (lv_at hl 0 rfl) ?_
                refine vg_M_place (v := .ref (a 4)) hx hb hts hown hK hP 0 rfl (hts _ tb_264) rfl d_M_edgeOf_70 ?_
                refine lv_iload hx hb d_M_edgeOf_73 (lv_at hl 4 rfl) ?_
                obtain ⟨h_75, hf⟩ := og_ck_s hf
                refine va_iald hx hb hK hP 3 2 rfl rfl h_75 d_M_edgeOf_75 ?_
                refine lv_aload_n hx hb d_M_edgeOf_76 rfl (lv_at hl 0 rfl) ?_
                refine vg_M_place (v := .ref (a 4)) hx hb hts hown hK hP 0 rfl (hts _ tb_264) rfl d_M_edgeOf_77 ?_
                refine lv_iload_n hx hb d_M_edgeOf_80 rfl (lv_at hl 3 rfl) ?_
                obtain ⟨h_81, hf⟩ := og_ck_s hf
                refine va_iald hx hb hK hP 3 2 rfl rfl h_81 d_M_edgeOf_81 ?_
                refine lv_icmp_ge (tgt := 90) hx hb d_M_edgeOf_82 (by decide) (fun c_82 => ?_) (fun c_82 => ?_)
                · have hf := og_t hf c_82
                  refine lv_iload_n hx hb d_M_edgeOf_90 rfl (lv_at hl 3 rfl) ?_
                  refine lv_istore_n (lv' := [(3, .int v3), (0, .ref (a 0)), (1, .int p1), (2, .int p2), (4, .int v4)]) hx hb d_M_edgeOf_91 rfl hl (by decide) rfl (fun ls hl => ?_)
                  refine lv_iinc (v := (v4 + 1)) (lv' := [(4, .int (v4 + 1)), (3, .int v3), (0, .ref (a 0)), (1, .int p1), (2, .int p2)]) hx hb d_M_edgeOf_92 hl (k := 4) rfl rfl (by decide) rfl (fun ls hl => ?_)
                  refine lv_goto (tgt := 5) hx hb d_M_edgeOf_95 (by decide) ?_
                  exact ih5 v3 (v4 + 1) _ hf (lv_sub hl [2, 3, 4, 1, 0] rfl)
                · have hf := og_f hf c_82
                  refine lv_iload hx hb d_M_edgeOf_85 (lv_at hl 4 rfl) ?_
                  refine lv_goto (tgt := 91) hx hb d_M_edgeOf_87 (by decide) ?_
                  refine lv_istore_n (lv' := [(3, .int v4), (0, .ref (a 0)), (1, .int p1), (2, .int p2), (4, .int v4)]) hx hb d_M_edgeOf_91 rfl hl (by decide) rfl (fun ls hl => ?_)
                  refine lv_iinc (v := (v4 + 1)) (lv' := [(4, .int (v4 + 1)), (3, .int v4), (0, .ref (a 0)), (1, .int p1), (2, .int p2)]) hx hb d_M_edgeOf_92 hl (k := 4) rfl rfl (by decide) rfl (fun ls hl => ?_)
                  refine lv_goto (tgt := 5) hx hb d_M_edgeOf_95 (by decide) ?_
                  exact ih5 v4 (v4 + 1) _ hf (lv_sub hl [2, 3, 4, 1, 0] rfl)
            · have hf := og_f hf c_58
              refine lv_goto (tgt := 92) hx hb d_M_edgeOf_61 (by decide) ?_
              refine lv_iinc (v := (v4 + 1)) (lv' := [(4, .int (v4 + 1)), (0, .ref (a 0)), (1, .int p1), (2, .int p2), (3, .int v3)]) hx hb d_M_edgeOf_92 hl (k := 4) rfl rfl (by decide) rfl (fun ls hl => ?_)
              refine lv_goto (tgt := 5) hx hb d_M_edgeOf_95 (by decide) ?_
              exact ih5 v3 (v4 + 1) _ hf (lv_sub hl [1, 2, 3, 4, 0] rfl)
  exact lp5 FU (-1) 0 _ hf (lv_sub hl [2, 3, 4, 1, 0] rfl)
def wM_isRing (a : Nat → Nat) (k : Nat → ClassId) (M_code : Int32) (M_keys : Int32) (M_edges : Int32) (M_thenKeys : Int32) (M_thenEdges : Int32) (M_configuration : Int32) (M_parts : Int32) (M_rings : Int32) (M_metSize : Int32) (M_from : (Nat → Int32)) (M_to : (Nat → Int32)) (M_bits : (Nat → Int32)) (M_thenGone : (Nat → Int32)) (M_order : (Nat → Int32)) (M_ringSize : (Nat → Int32)) (M_ring : (Nat → Int32)) : va_W := [(a 0, .inr (6, [.int M_code, .int M_keys, .int M_edges, .ref (a 1), .ref (a 2), .ref (a 3), .ref (a 4), .ref (a 5), .ref (a 6), .int M_thenKeys, .int M_thenEdges, .int M_configuration, .ref (a 7), .ref (a 8), .ref (a 9), .ref (a 10), .ref (a 11), .ref (a 12), .ref (a 13), .ref (a 14), .int M_parts, .int M_rings, .ref (a 15), .ref (a 16), .ref (a 17), .int M_metSize, .ref (a 18), .ref (a 19), .ref (a 20)])), (a 2, .inl (k 2, 160, .inl M_from)), (a 3, .inl (k 3, 160, .inl M_to)), (a 5, .inl (k 5, 160, .inl M_bits)), (a 7, .inl (k 7, 160, .inl M_thenGone)), (a 8, .inl (k 8, 40, .inl M_order)), (a 15, .inl (k 15, 40, .inl M_ringSize)), (a 16, .inl (k 16, 1600, .inl M_ring))]
def tM_isRing (k : Nat → ClassId) : List (ClassId × FieldType) := [(k 2, .int), (k 3, .int), (k 5, .int), (k 7, .boolean), (k 8, .int), (k 15, .int), (k 16, .int)]
set_option maxHeartbeats 4000000 in
set_option maxRecDepth 100000 in
theorem c_M_isRing (l : Launch) (dC : Nat → ClassId) (dI : Nat → Nat → Nat) (a : Nat → Nat) (k : Nat → ClassId) (M_code : Int32) (M_keys : Int32) (M_edges : Int32) (M_thenKeys : Int32) (M_thenEdges : Int32) (M_configuration : Int32) (M_parts : Int32) (M_rings : Int32) (M_metSize : Int32) (M_from : (Nat → Int32)) (M_to : (Nat → Int32)) (M_bits : (Nat → Int32)) (M_thenGone : (Nat → Int32)) (M_order : (Nat → Int32)) (M_ringSize : (Nat → Int32)) (M_ring : (Nat → Int32)) (p1 : Int32) (p2 : Int32) (y : Int32) (hf : fM_isRing M_from M_to M_bits M_thenEdges M_thenGone M_order M_ringSize M_ring p1 p2 = some y) : Met l y_M_isRing ws_M_isRing ({ frames := 2, cells := 0, slots := 0, locals := 43 }) (og_Pr [.ref (a 0), .int p1, .int p2] (dC, dI) (wM_isRing a k M_code M_keys M_edges M_thenKeys M_thenEdges M_configuration M_parts M_rings M_metSize M_from M_to M_bits M_thenGone M_order M_ringSize M_ring) (tM_isRing k)) (vp_Si (fun x => x = y)) 0 0 (fun _ => False) := by
  refine Met.ofW (cc := b_M_isRing) (maxL := 7) (ret := (some .boolean)) (by decide) rfl ?_
  intro p e s m args below meth c s₁ B hml hv
  obtain ⟨rfl, hP, hK⟩ := hv
  have hx := B.exec
  have hb := B.bytes
  have hr := B.returns
  have hts0 := atoms_spec (ws := ws_M_isRing) B.pre
  have hts : ∀ w ∈ og_tb, w.before _ s = true := fun w h => hts0 w (List.mem_cons_of_mem _ h)
  have hown : s.vm.findClass R_M = some m.cls := findClass_of_methodNamed B.named
  have hlocks := B.notSynchronized
  have hl := lv_entry ([.ref (a 0), .int p1, .int p2]) (n := 7) (Nat.le_of_ble_eq_true rfl)
  rw [lg_entry_eq]
  generalize (lg_sl ([.ref (a 0), .int p1, .int p2]) ++ List.replicate (7 - (lg_sl ([.ref (a 0), .int p1, .int p2])).length) Slot.unset).toArray = ls at hl ⊢
  have hl : lv_has ls 7 [(0, .ref (a 0)), (1, .int p1), (2, .int p2)] := hl
  rw [fM_isRing] at hf
  refine lv_iconst (v := 1) hx hb d_M_isRing_0 (by decide) ?_
  refine lv_istore_n (lv' := [(3, .int 1), (0, .ref (a 0)), (1, .int p1), (2, .int p2)]) hx hb d_M_isRing_1 rfl hl (by decide) rfl (fun ls hl => ?_)
  refine lv_iconst (v := 0) hx hb d_M_isRing_2 (by decide) ?_
  refine lv_istore (lv' := [(4, .int 0), (3, .int 1), (0, .ref (a 0)), (1, .int p1), (2, .int p2)]) hx hb d_M_isRing_3 hl (by decide) rfl (fun ls hl => ?_)
  have k5_116 : ∀ (v3 : Int32) (ls : Array Slot), fM_isRing_K5_116 v3 = some y → lv_has ls 7 [(3, .int v3)] → W p l e (headSpec ws_M_isRing { frames := 2, cells := 0, slots := 0, locals := 43 }).room s m ([.ref (a 0), .int p1, .int p2] : List Value).toArray below meth c s.heap [] 0 0 (MQ below (vp_Si (fun x => x = y)) ([.ref (a 0), .int p1, .int p2] : List Value).toArray s 0 0 (fun _ => False)) (F0 m 116 ls []) := by
    intro v3 ls hf hl
    rw [fM_isRing_K5_116] at hf
    refine lv_iload_n hx hb d_M_isRing_116 rfl (lv_at hl 0 rfl) ?_
    obtain ⟨h_b, hf⟩ := og_bl_s hf
    obtain rfl := Option.some.inj hf
    exact W.zret (v := v3) hx hb hr h_b (fun t ht hW => ⟨v3, rfl, rfl, ht⟩) (fun _ h => absurd h List.not_mem_nil) d_M_isRing_117
  have lp5 : ∀ (n5 : Nat) (v3 : Int32) (v4 : Int32) (ls : Array Slot), fM_isRing_L5 fM_isRing_K5_116 M_from M_to M_bits M_thenEdges M_thenGone M_order M_ringSize M_ring p1 p2 n5 v3 v4 = some y → lv_has ls 7 [(0, .ref (a 0)), (1, .int p1), (2, .int p2), (3, .int v3), (4, .int v4)] → W p l e (headSpec ws_M_isRing { frames := 2, cells := 0, slots := 0, locals := 43 }).room s m ([.ref (a 0), .int p1, .int p2] : List Value).toArray below meth c s.heap [] 0 0 (MQ below (vp_Si (fun x => x = y)) ([.ref (a 0), .int p1, .int p2] : List Value).toArray s 0 0 (fun _ => False)) (F0 m 5 ls []) := by
    intro n5
    induction n5 with
    | zero => intro v3 v4 ls hf hl; rw [fM_isRing_L5] at hf; cases hf
    | succ n5 ih5 =>
      intro v3 v4 ls hf hl
      rw [fM_isRing_L5] at hf
      refine lv_iload hx hb d_M_isRing_5 (lv_at hl 4 rfl) ?_
      refine lv_aload_n hx hb d_M_isRing_7 rfl (lv_at hl 0 rfl) ?_
      refine vg_M_ringSize (v := .ref (a 15)) hx hb hts hown hK hP 0 rfl (hts _ tb_295) rfl d_M_isRing_8 ?_
      refine lv_iload_n hx hb d_M_isRing_11 rfl (lv_at hl 1 rfl) ?_
      obtain ⟨h_12, hf⟩ := og_ck_s hf
      refine va_iald hx hb hK hP 6 5 rfl rfl h_12 d_M_isRing_12 ?_
      refine lv_icmp_ge (tgt := 116) hx hb d_M_isRing_13 (by decide) (fun c_13 => ?_) (fun c_13 => ?_)
      · have hf := og_t hf c_13
        exact k5_116 v3 _ hf (lv_sub hl [3] rfl)
      · have hf := og_f hf c_13
        refine lv_iconst (v := 0) hx hb d_M_isRing_16 (by decide) ?_
        refine lv_istore (lv' := [(5, .int 0), (0, .ref (a 0)), (1, .int p1), (2, .int p2), (3, .int v3), (4, .int v4)]) hx hb d_M_isRing_17 hl (by decide) rfl (fun ls hl => ?_)
        refine lv_iconst (v := 0) hx hb d_M_isRing_19 (by decide) ?_
        refine lv_istore (lv' := [(6, .int 0), (5, .int 0), (0, .ref (a 0)), (1, .int p1), (2, .int p2), (3, .int v3), (4, .int v4)]) hx hb d_M_isRing_20 hl (by decide) rfl (fun ls hl => ?_)
        have k22_95 : ∀ (v5 : Int32) (ls : Array Slot), fM_isRing_K22_95 (fun a0 a1 => fM_isRing_L5 fM_isRing_K5_116 M_from M_to M_bits M_thenEdges M_thenGone M_order M_ringSize M_ring p1 p2 n5 a0 a1) v3 v4 v5 = some y → lv_has ls 7 [(0, .ref (a 0)), (1, .int p1), (2, .int p2), (3, .int v3), (4, .int v4), (5, .int v5)] → W p l e (headSpec ws_M_isRing { frames := 2, cells := 0, slots := 0, locals := 43 }).room s m ([.ref (a 0), .int p1, .int p2] : List Value).toArray below meth c s.heap [] 0 0 (MQ below (vp_Si (fun x => x = y)) ([.ref (a 0), .int p1, .int p2] : List Value).toArray s 0 0 (fun _ => False)) (F0 m 95 ls []) := by
          intro v5 ls hf hl
          rw [fM_isRing_K22_95] at hf
          refine lv_iload_n hx hb d_M_isRing_95 rfl (lv_at hl 3 rfl) ?_
          refine lv_if_eq (tgt := 108) hx hb d_M_isRing_96 (by decide) (fun c_96 => ?_) (fun c_96 => ?_)
          · have hf := og_t hf c_96
            refine lv_iconst (v := 0) hx hb d_M_isRing_108 (by decide) ?_
            refine lv_istore_n (lv' := [(3, .int 0), (0, .ref (a 0)), (1, .int p1), (2, .int p2), (4, .int v4), (5, .int v5)]) hx hb d_M_isRing_109 rfl hl (by decide) rfl (fun ls hl => ?_)
            refine lv_iinc (v := (v4 + 1)) (lv' := [(4, .int (v4 + 1)), (3, .int 0), (0, .ref (a 0)), (1, .int p1), (2, .int p2), (5, .int v5)]) hx hb d_M_isRing_110 hl (k := 4) rfl rfl (by decide) rfl (fun ls hl => ?_)
            refine lv_goto (tgt := 5) hx hb d_M_isRing_113 (by decide) ?_
            exact ih5 0 (v4 + 1) _ hf (lv_sub hl [2, 3, 4, 1, 0] rfl)
          · have hf := og_f hf c_96
            refine lv_iload hx hb d_M_isRing_99 (lv_at hl 5 rfl) ?_
            refine lv_if_eq (tgt := 108) hx hb d_M_isRing_101 (by decide) (fun c_101 => ?_) (fun c_101 => ?_)
            · have hf := og_t hf c_101
              refine lv_iconst (v := 0) hx hb d_M_isRing_108 (by decide) ?_
              refine lv_istore_n (lv' := [(3, .int 0), (0, .ref (a 0)), (1, .int p1), (2, .int p2), (4, .int v4), (5, .int v5)]) hx hb d_M_isRing_109 rfl hl (by decide) rfl (fun ls hl => ?_)
              refine lv_iinc (v := (v4 + 1)) (lv' := [(4, .int (v4 + 1)), (3, .int 0), (0, .ref (a 0)), (1, .int p1), (2, .int p2), (5, .int v5)]) hx hb d_M_isRing_110 hl (k := 4) rfl rfl (by decide) rfl (fun ls hl => ?_)
              refine lv_goto (tgt := 5) hx hb d_M_isRing_113 (by decide) ?_
              exact ih5 0 (v4 + 1) _ hf (lv_sub hl [2, 3, 4, 1, 0] rfl)
            · have hf := og_f hf c_101
              refine lv_iconst (v := 1) hx hb d_M_isRing_104 (by decide) ?_
              refine lv_goto (tgt := 109) hx hb d_M_isRing_105 (by decide) ?_
              refine lv_istore_n (lv' := [(3, .int 1), (0, .ref (a 0)), (1, .int p1), (2, .int p2), (4, .int v4), (5, .int v5)]) hx hb d_M_isRing_109 rfl hl (by decide) rfl (fun ls hl => ?_)
              refine lv_iinc (v := (v4 + 1)) (lv' := [(4, .int (v4 + 1)), (3, .int 1), (0, .ref (a 0)), (1, .int p1), (2, .int p2), (5, .int v5)]) hx hb d_M_isRing_110 hl (k := 4) rfl rfl (by decide) rfl (fun ls hl => ?_)
              refine lv_goto (tgt := 5) hx hb d_M_isRing_113 (by decide) ?_
              exact ih5 1 (v4 + 1) _ hf (lv_sub hl [2, 3, 4, 1, 0] rfl)
        have lp22 : ∀ (n22 : Nat) (v5 : Int32) (v6 : Int32) (ls : Array Slot), fM_isRing_L22 (fM_isRing_K22_95 (fun a0 a1 => fM_isRing_L5 fM_isRing_K5_116 M_from M_to M_bits M_thenEdges M_thenGone M_order M_ringSize M_ring p1 p2 n5 a0 a1) v3 v4) M_from M_to M_bits M_thenEdges M_thenGone M_order M_ringSize M_ring p1 p2 v4 n22 v5 v6 = some y → lv_has ls 7 [(0, .ref (a 0)), (1, .int p1), (2, .int p2), (3, .int v3), (4, .int v4), (5, .int v5), (6, .int v6)] → W p l e (headSpec ws_M_isRing { frames := 2, cells := 0, slots := 0, locals := 43 }).room s m ([.ref (a 0), .int p1, .int p2] : List Value).toArray below meth c s.heap [] 0 0 (MQ below (vp_Si (fun x => x = y)) ([.ref (a 0), .int p1, .int p2] : List Value).toArray s 0 0 (fun _ => False)) (F0 m 22 ls []) := by
          intro n22
          induction n22 with
          | zero => intro v5 v6 ls hf hl; rw [fM_isRing_L22] at hf; cases hf
          | succ n22 ih22 =>
            intro v5 v6 ls hf hl
            rw [fM_isRing_L22] at hf
            refine lv_iload hx hb d_M_isRing_22 (lv_at hl 6 rfl) ?_
            refine lv_aload_n hx hb d_M_isRing_24 rfl (lv_at hl 0 rfl) ?_
            refine vg_M_thenEdges (v := .int M_thenEdges) hx hb hts hown hK hP 0 rfl (hts _ tb_276) rfl d_M_isRing_25 ?_
            refine lv_icmp_ge (tgt := 95) hx hb d_M_isRing_28 (by decide) (fun c_28 => ?_) (fun c_28 => ?_)
            · have hf := og_t hf c_28
              exact k22_95 v5 _ hf (lv_sub hl [0, 1, 2, 3, 4, 5] rfl)
            · have hf := og_f hf c_28
              refine lv_iload hx hb d_M_isRing_31 (lv_at hl 5 rfl) ?_
              refine lv_if_ne (tgt := 82) hx hb d_M_isRing_33 (by decide) (fun c_33 => ?_) (fun c_33 => ?_)
              · have hf := og_f hf c_33
                refine lv_iconst (v := 1) hx hb d_M_isRing_82 (by decide) ?_
                refine lv_goto (tgt := 87) hx hb d_M_isRing_83 (by decide) ?_
                refine lv_istore (lv' := [(5, .int 1), (0, .ref (a 0)), (1, .int p1), (2, .int p2), (3, .int v3), (4, .int v4), (6, .int v6)]) hx hb d_M_isRing_87 hl (by decide) rfl (fun ls hl => ?_)
                refine lv_iinc (v := (v6 + 1)) (lv' := [(6, .int (v6 + 1)), (5, .int 1), (0, .ref (a 0)), (1, .int p1), (2, .int p2), (3, .int v3), (4, .int v4)]) hx hb d_M_isRing_89 hl (k := 6) rfl rfl (by decide) rfl (fun ls hl => ?_)
                refine lv_goto (tgt := 22) hx hb d_M_isRing_92 (by decide) ?_
                exact ih22 1 (v6 + 1) _ hf (lv_sub hl [2, 3, 4, 5, 6, 1, 0] rfl)
              · have hf := og_t hf c_33
                refine lv_aload_n hx hb d_M_isRing_36 rfl (lv_at hl 0 rfl) ?_
                refine lv_iload hx hb d_M_isRing_37 (lv_at hl 6 rfl) ?_
                refine lv_iload_n hx hb d_M_isRing_39 rfl (lv_at hl 2 rfl) ?_
                obtain ⟨r40, e_40, hf⟩ := og_b hf
                refine og_rV (w := (wM_isRing a k M_code M_keys M_edges M_thenKeys M_thenEdges M_configuration M_parts M_rings M_metSize M_from M_to M_bits M_thenGone M_order M_ringSize M_ring)) (As := [.int v6, .int p2]) (rest := []) (ci := 6) (q0 := 0) ⟨hx, hb, hml, hown, hts⟩ (c_M_isThen l dC dI a k M_code M_keys M_edges M_thenKeys M_thenEdges M_configuration M_parts M_rings M_metSize M_bits M_thenGone v6 p2 r40 e_40) (cwV 2 hts (og_gV tb_278 tb_279 tb_280 tb_259 tb_281) rfl rfl rfl (by decide +kernel) ⟨Nat.le_of_ble_eq_true rfl, Nat.le_of_ble_eq_true rfl⟩) hK hP [0, 3, 4] [2, 3] ⟨rfl, rfl, rfl, trivial⟩ rfl rfl rfl rfl rfl hl.1 rfl (Nat.le_of_ble_eq_true rfl) d_M_isRing_40 ⟨Nat.zero_le _, Nat.zero_le _⟩ ?_
                refine lv_if_eq (tgt := 86) hx hb d_M_isRing_43 (by decide) (fun c_43 => ?_) (fun c_43 => ?_)
                · have hf := og_t hf c_43
                  refine lv_iconst (v := 0) hx hb d_M_isRing_86 (by decide) ?_
                  refine lv_istore (lv' := [(5, .int 0), (0, .ref (a 0)), (1, .int p1), (2, .int p2), (3, .int v3), (4, .int v4), (6, .int v6)]) hx hb d_M_isRing_87 hl (by decide) rfl (fun ls hl => ?_)
                  refine lv_iinc (v := (v6 + 1)) (lv' := [(6, .int (v6 + 1)), (5, .int 0), (0, .ref (a 0)), (1, .int p1), (2, .int p2), (3, .int v3), (4, .int v4)]) hx hb d_M_isRing_89 hl (k := 6) rfl rfl (by decide) rfl (fun ls hl => ?_)
                  refine lv_goto (tgt := 22) hx hb d_M_isRing_92 (by decide) ?_
                  exact ih22 0 (v6 + 1) _ hf (lv_sub hl [2, 3, 4, 5, 6, 1, 0] rfl)
                · have hf := og_f hf c_43
                  refine lv_aload_n hx hb d_M_isRing_46 rfl (lv_at hl 0 rfl) ?_
                  refine vg_M_from (v := .ref (a 2)) hx hb hts hown hK hP 0 rfl (hts _ tb_262) rfl d_M_isRing_47 ?_
                  refine lv_iload hx hb d_M_isRing_50 (lv_at hl 6 rfl) ?_
                  obtain ⟨h_52, hf⟩ := og_ck_s hf
                  refine va_iald hx hb hK hP 1 0 rfl rfl h_52 d_M_isRing_52 ?_
                  refine lv_aload_n hx hb d_M_isRing_53 rfl (lv_at hl 0 rfl) ?_
                  refine lv_iload_n hx hb d_M_isRing_54 rfl (lv_at hl 1 rfl) ?_
                  refine lv_iload hx hb d_M_isRing_55 (lv_at hl 4 rfl) ?_
                  obtain ⟨r57, e_57, hf⟩ := og_b hf
                  refine og_rV (w := (wM_isRing a k M_code M_keys M_edges M_thenKeys M_thenEdges M_configuration M_parts M_rings M_metSize M_from M_to M_bits M_thenGone M_order M_ringSize M_ring)) (As := [.int p1, .int v4]) (rest := [.int (M_from v6.toNatClampNeg)]) (ci := 6) (q0 := 0) ⟨hx, hb, hml, hown, hts⟩ (c_M_keyOf l dC dI a k M_code M_keys M_edges M_thenKeys M_thenEdges M_configuration M_parts M_rings M_metSize M_order M_ringSize M_ring p1 v4 r57 e_57) (cwV 2 hts (og_gV tb_314 tb_315 tb_316 tb_259 tb_317) rfl rfl rfl (by decide +kernel) ⟨Nat.le_of_ble_eq_true rfl, Nat.le_of_ble_eq_true rfl⟩) hK hP [0, 5, 6, 7] [4, 5, 6] ⟨rfl, rfl, rfl, rfl, trivial⟩ rfl rfl rfl rfl rfl hl.1 rfl (Nat.le_of_ble_eq_true rfl) d_M_isRing_57 ⟨Nat.zero_le _, Nat.zero_le _⟩ ?_
                  refine lv_icmp_ne (tgt := 86) hx hb d_M_isRing_60 (by decide) (fun c_60 => ?_) (fun c_60 => ?_)
                  · have hf := og_f hf c_60
                    refine lv_iconst (v := 0) hx hb d_M_isRing_86 (by decide) ?_
                    refine lv_istore (lv' := [(5, .int 0), (0, .ref (a 0)), (1, .int p1), (2, .int p2), (3, .int v3), (4, .int v4), (6, .int v6)]) hx hb d_M_isRing_87 hl (by decide) rfl (fun ls hl => ?_)
                    refine lv_iinc (v := (v6 + 1)) (lv' := [(6, .int (v6 + 1)), (5, .int 0), (0, .ref (a 0)), (1, .int p1), (2, .int p2), (3, .int v3), (4, .int v4)]) hx hb d_M_isRing_89 hl (k := 6) rfl rfl (by decide) rfl (fun ls hl => ?_)
                    refine lv_goto (tgt := 22) hx hb d_M_isRing_92 (by decide) ?_
                    exact ih22 0 (v6 + 1) _ hf (lv_sub hl [2, 3, 4, 5, 6, 1, 0] rfl)
                  · have hf := og_t hf c_60
                    refine lv_aload_n hx hb d_M_isRing_63 rfl (lv_at hl 0 rfl) ?_
                    refine vg_M_to (v := .ref (a 3)) hx hb hts hown hK hP 0 rfl (hts _ tb_263) rfl d_M_isRing_64 ?_
                    refine lv_iload hx hb d_M_isRing_67 (lv_at hl 6 rfl) ?_
                    obtain ⟨h_69, hf⟩ := og_ck_s hf
                    refine va_iald hx hb hK hP 2 1 rfl rfl h_69 d_M_isRing_69 ?_
                    refine lv_aload_n hx hb d_M_isRing_70 rfl (lv_at hl 0 rfl) ?_
                    refine lv_iload_n hx hb d_M_isRing_71 rfl (lv_at hl 1 rfl) ?_
                    refine lv_iload hx hb d_M_isRing_72 (lv_at hl 4 rfl) ?_
                    refine lv_iconst (v := 1) hx hb d_M_isRing_74 (by decide) ?_
                    refine lv_iadd hx hb d_M_isRing_75 ?_
                    obtain ⟨r76, e_76, hf⟩ := og_b hf
                    refine og_rV (w := (wM_isRing a k M_code M_keys M_edges M_thenKeys M_thenEdges M_configuration M_parts M_rings M_metSize M_from M_to M_bits M_thenGone M_order M_ringSize M_ring)) (As := [.int p1, .int (v4 + 1)]) (rest := [.int (M_to v6.toNatClampNeg)]) (ci := 6) (q0 := 0) ⟨hx, hb, hml, hown, hts⟩ (c_M_keyOf l dC dI a k M_code M_keys M_edges M_thenKeys M_thenEdges M_configuration M_parts M_rings M_metSize M_order M_ringSize M_ring p1 (v4 + 1) r76 e_76) (cwV 2 hts (og_gV tb_314 tb_315 tb_316 tb_259 tb_317) rfl rfl rfl (by decide +kernel) ⟨Nat.le_of_ble_eq_true rfl, Nat.le_of_ble_eq_true rfl⟩) hK hP [0, 5, 6, 7] [4, 5, 6] ⟨rfl, rfl, rfl, rfl, trivial⟩ rfl rfl rfl rfl rfl hl.1 rfl (Nat.le_of_ble_eq_true rfl) d_M_isRing_76 ⟨Nat.zero_le _, Nat.zero_le _⟩ ?_
                    refine lv_icmp_ne (tgt := 86) hx hb d_M_isRing_79 (by decide) (fun c_79 => ?_) (fun c_79 => ?_)
                    · have hf := og_f hf c_79
                      refine lv_iconst (v := 0) hx hb d_M_isRing_86 (by decide) ?_
                      refine lv_istore (lv' := [(5, .int 0), (0, .ref (a 0)), (1, .int p1), (2, .int p2), (3, .int v3), (4, .int v4), (6, .int v6)]) hx hb d_M_isRing_87 hl (by decide) rfl (fun ls hl => ?_)
                      refine lv_iinc (v := (v6 + 1)) (lv' := [(6, .int (v6 + 1)), (5, .int 0), (0, .ref (a 0)), (1, .int p1), (2, .int p2), (3, .int v3), (4, .int v4)]) hx hb d_M_isRing_89 hl (k := 6) rfl rfl (by decide) rfl (fun ls hl => ?_)
                      refine lv_goto (tgt := 22) hx hb d_M_isRing_92 (by decide) ?_
                      exact ih22 0 (v6 + 1) _ hf (lv_sub hl [2, 3, 4, 5, 6, 1, 0] rfl)
                    · have hf := og_t hf c_79
                      refine lv_iconst (v := 1) hx hb d_M_isRing_82 (by decide) ?_
                      refine lv_goto (tgt := 87) hx hb d_M_isRing_83 (by decide) ?_
                      refine lv_istore (lv' := [(5, .int 1), (0, .ref (a 0)), (1, .int p1), (2, .int p2), (3, .int v3), (4, .int v4), (6, .int v6)]) hx hb d_M_isRing_87 hl (by decide) rfl (fun ls hl => ?_)
                      refine lv_iinc (v := (v6 + 1)) (lv' := [(6, .int (v6 + 1)), (5, .int 1), (0, .ref (a 0)), (1, .int p1), (2, .int p2), (3, .int v3), (4, .int v4)]) hx hb d_M_isRing_89 hl (k := 6) rfl rfl (by decide) rfl (fun ls hl => ?_)
                      refine lv_goto (tgt := 22) hx hb d_M_isRing_92 (by decide) ?_
                      exact ih22 1 (v6 + 1) _ hf (lv_sub hl [2, 3, 4, 5, 6, 1, 0] rfl)
        exact lp22 FU 0 0 _ hf (lv_sub hl [2, 3, 4, 5, 6, 1, 0] rfl)
  exact lp5 FU 1 0 _ hf (lv_sub hl [2, 3, 4, 1, 0] rfl)
