def wM_lead (a : Nat → Nat) (k : Nat → ClassId) (M_code : Int32) (M_keys : Int32) (M_edges : Int32) (M_thenKeys : Int32) (M_thenEdges : Int32) (M_configuration : Int32) (M_parts : Int32) (M_rings : Int32) (M_metSize : Int32) (M_asks : (Nat → Int32)) (M_backs : (Nat → Int32)) : va_W := [(a 0, .inr (6, [.int M_code, .int M_keys, .int M_edges, .ref (a 1), .ref (a 2), .ref (a 3), .ref (a 4), .ref (a 5), .ref (a 6), .int M_thenKeys, .int M_thenEdges, .int M_configuration, .ref (a 7), .ref (a 8), .ref (a 9), .ref (a 10), .ref (a 11), .ref (a 12), .ref (a 13), .ref (a 14), .int M_parts, .int M_rings, .ref (a 15), .ref (a 16), .ref (a 17), .int M_metSize, .ref (a 18), .ref (a 19), .ref (a 20)])), (a 12, .inl (k 12, 1600, .inl M_asks)), (a 17, .inl (k 17, 1640, .inl M_backs))]
def tM_lead (k : Nat → ClassId) : List (ClassId × FieldType) := [(k 12, .boolean), (k 17, .boolean)]
set_option maxHeartbeats 4000000 in
set_option maxRecDepth 100000 in
theorem c_M_lead (l : Launch) (dC : Nat → ClassId) (dI : Nat → Nat → Nat) (a : Nat → Nat) (k : Nat → ClassId) (sz : Nat) (M_code : Int32) (M_keys : Int32) (M_edges : Int32) (M_thenKeys : Int32) (M_thenEdges : Int32) (M_configuration : Int32) (M_parts : Int32) (M_rings : Int32) (M_metSize : Int32) (M_asks : (Nat → Int32)) (M_backs : (Nat → Int32)) (p1 : Int32) (p2 : Int32) (y : (Nat → Int32)) (hf : fM_lead M_thenKeys M_asks M_backs p1 p2 = some y) : Met l y_M_lead ws_M_lead ({ frames := 1, cells := 0, slots := 0, locals := 21 }) (og_Pw [.ref (a 0), .int p1, .int p2] (dC, dI) (wM_lead a k M_code M_keys M_edges M_thenKeys M_thenEdges M_configuration M_parts M_rings M_metSize M_asks M_backs) (tM_lead k) sz) (og_Qv (dC, dI) (wM_lead a k M_code M_keys M_edges M_thenKeys M_thenEdges M_configuration M_parts M_rings M_metSize M_asks y) (tM_lead k) (va_A (wM_lead a k M_code M_keys M_edges M_thenKeys M_thenEdges M_configuration M_parts M_rings M_metSize M_asks M_backs) sz)) 0 0 (va_A (wM_lead a k M_code M_keys M_edges M_thenKeys M_thenEdges M_configuration M_parts M_rings M_metSize M_asks M_backs) sz) := by
  refine Met.ofW (cc := b_M_lead) (maxL := 7) (ret := none) (by decide) rfl ?_
  intro p e s m args below meth c s₁ B hml hv
  obtain ⟨rfl, hsz, hP, hK, hD0⟩ := hv
  have hx := B.exec
  have hb := B.bytes
  have hr := B.returns
  have hts0 := atoms_spec (ws := ws_M_lead) B.pre
  have hts : ∀ w ∈ og_tb, w.before _ s = true := fun w h => hts0 w (List.mem_cons_of_mem _ h)
  have hown : s.vm.findClass R_M = some m.cls := findClass_of_methodNamed B.named
  have hlocks := B.notSynchronized
  subst hsz
  have hD := hD0.self (sz := s.heap.size)
  generalize hAe : va_A (wM_lead a k M_code M_keys M_edges M_thenKeys M_thenEdges M_configuration M_parts M_rings M_metSize M_asks M_backs) s.heap.size = A at hD ⊢
  have hA : ∀ q : Nat, s.heap.size ≤ q → A q := fun q h => by rw [← hAe]; exact Or.inr h
  have hS : va_S A s.heap s.heap [] := va_S.rf
  have hl := lv_entry ([.ref (a 0), .int p1, .int p2]) (n := 7) (Nat.le_of_ble_eq_true rfl)
  rw [lg_entry_eq]
  generalize (lg_sl ([.ref (a 0), .int p1, .int p2]) ++ List.replicate (7 - (lg_sl ([.ref (a 0), .int p1, .int p2])).length) Slot.unset).toArray = ls at hl ⊢
  have hl : lv_has ls 7 [(0, .ref (a 0)), (1, .int p1), (2, .int p2)] := hl
  rw [fM_lead] at hf
  refine lv_iconst (v := 0) hx hb d_M_lead_0 (by decide) ?_
  refine lv_istore_n (lv' := [(3, .int 0), (0, .ref (a 0)), (1, .int p1), (2, .int p2)]) hx hb d_M_lead_1 rfl hl (by decide) rfl (fun ls hl => ?_)
  have k2_30 : ∀ (M_backs : (Nat → Int32)) (H : Heap) (locs : List Loc) (ls : Array Slot), fM_lead_K2_30 M_thenKeys M_asks p1 p2 M_backs = some y → va_P (dC, dI) vwCl (wM_lead a k M_code M_keys M_edges M_thenKeys M_thenEdges M_configuration M_parts M_rings M_metSize M_asks M_backs) H → va_D A (wM_lead a k M_code M_keys M_edges M_thenKeys M_thenEdges M_configuration M_parts M_rings M_metSize M_asks M_backs) → va_S A s.heap H locs → lv_has ls 7 [(0, .ref (a 0)), (1, .int p1), (2, .int p2)] → W p l e (headSpec ws_M_lead { frames := 1, cells := 0, slots := 0, locals := 21 }).room s m ([.ref (a 0), .int p1, .int p2] : List Value).toArray below meth c H locs 0 0 (MQ below (og_Qv (dC, dI) (wM_lead a k M_code M_keys M_edges M_thenKeys M_thenEdges M_configuration M_parts M_rings M_metSize M_asks y) (tM_lead k) A) ([.ref (a 0), .int p1, .int p2] : List Value).toArray s 0 0 A) (F0 m 30 ls []) := by
    intro M_backs H locs ls hf hP hD hS hl
    rw [fM_lead_K2_30] at hf
    refine lv_iconst (v := 1) hx hb d_M_lead_30 (by decide) ?_
    refine lv_istore_n (lv' := [(3, .int 1), (0, .ref (a 0)), (1, .int p1), (2, .int p2)]) hx hb d_M_lead_31 rfl hl (by decide) rfl (fun ls hl => ?_)
    have k32_151 : ∀ (M_backs : (Nat → Int32)) (H : Heap) (locs : List Loc) (ls : Array Slot), fM_lead_K32_151 M_backs = some y → va_P (dC, dI) vwCl (wM_lead a k M_code M_keys M_edges M_thenKeys M_thenEdges M_configuration M_parts M_rings M_metSize M_asks M_backs) H → va_D A (wM_lead a k M_code M_keys M_edges M_thenKeys M_thenEdges M_configuration M_parts M_rings M_metSize M_asks M_backs) → va_S A s.heap H locs → lv_has ls 7 [] → W p l e (headSpec ws_M_lead { frames := 1, cells := 0, slots := 0, locals := 21 }).room s m ([.ref (a 0), .int p1, .int p2] : List Value).toArray below meth c H locs 0 0 (MQ below (og_Qv (dC, dI) (wM_lead a k M_code M_keys M_edges M_thenKeys M_thenEdges M_configuration M_parts M_rings M_metSize M_asks y) (tM_lead k) A) ([.ref (a 0), .int p1, .int p2] : List Value).toArray s 0 0 A) (F0 m 151 ls []) := by
      intro M_backs H locs ls hf hP hD hS hl
      rw [fM_lead_K32_151] at hf
      obtain rfl := Option.some.inj hf
      exact W.vret hx hb hr (fun t ht hW => ⟨⟨(), rfl, trivial, by rw [ht]; exact hP, va_K.moved hW.alike hK, hD⟩, hS.F ht⟩) hS.2.2 d_M_lead_151
    have lp32 : ∀ (n32 : Nat) (v3 : Int32) (M_backs : (Nat → Int32)) (H : Heap) (locs : List Loc) (ls : Array Slot), fM_lead_L32 fM_lead_K32_151 M_thenKeys M_asks p1 p2 n32 v3 M_backs = some y → va_P (dC, dI) vwCl (wM_lead a k M_code M_keys M_edges M_thenKeys M_thenEdges M_configuration M_parts M_rings M_metSize M_asks M_backs) H → va_D A (wM_lead a k M_code M_keys M_edges M_thenKeys M_thenEdges M_configuration M_parts M_rings M_metSize M_asks M_backs) → va_S A s.heap H locs → lv_has ls 7 [(0, .ref (a 0)), (1, .int p1), (2, .int p2), (3, .int v3)] → W p l e (headSpec ws_M_lead { frames := 1, cells := 0, slots := 0, locals := 21 }).room s m ([.ref (a 0), .int p1, .int p2] : List Value).toArray below meth c H locs 0 0 (MQ below (og_Qv (dC, dI) (wM_lead a k M_code M_keys M_edges M_thenKeys M_thenEdges M_configuration M_parts M_rings M_metSize M_asks y) (tM_lead k) A) ([.ref (a 0), .int p1, .int p2] : List Value).toArray s 0 0 A) (F0 m 32 ls []) := by
      intro n32
      induction n32 with
      | zero => intro v3 M_backs H locs ls hf hP hD hS hl; rw [fM_lead_L32] at hf; cases hf
      | succ n32 ih32 =>
        intro v3 M_backs H locs ls hf hP hD hS hl
        rw [fM_lead_L32] at hf
        refine lv_iload_n hx hb d_M_lead_32 rfl (lv_at hl 3 rfl) ?_
        refine lv_iload_n hx hb d_M_lead_33 rfl (lv_at hl 2 rfl) ?_
        refine lv_icmp_gt (tgt := 151) hx hb d_M_lead_34 (by decide) (fun c_34 => ?_) (fun c_34 => ?_)
        · have hf := og_t hf c_34
          exact k32_151 M_backs _ _ _ hf hP hD hS (lv_sub hl [] rfl)
        · have hf := og_f hf c_34
          refine lv_iload_n hx hb d_M_lead_37 rfl (lv_at hl 1 rfl) ?_
          refine lv_istore (lv' := [(4, .int p1), (0, .ref (a 0)), (1, .int p1), (2, .int p2), (3, .int v3)]) hx hb d_M_lead_38 hl (by decide) rfl (fun ls hl => ?_)
          have k40_145 : ∀ (M_backs : (Nat → Int32)) (H : Heap) (locs : List Loc) (ls : Array Slot), fM_lead_K40_145 (fun a0 a1 => fM_lead_L32 fM_lead_K32_151 M_thenKeys M_asks p1 p2 n32 a0 a1) v3 M_backs = some y → va_P (dC, dI) vwCl (wM_lead a k M_code M_keys M_edges M_thenKeys M_thenEdges M_configuration M_parts M_rings M_metSize M_asks M_backs) H → va_D A (wM_lead a k M_code M_keys M_edges M_thenKeys M_thenEdges M_configuration M_parts M_rings M_metSize M_asks M_backs) → va_S A s.heap H locs → lv_has ls 7 [(0, .ref (a 0)), (1, .int p1), (2, .int p2), (3, .int v3)] → W p l e (headSpec ws_M_lead { frames := 1, cells := 0, slots := 0, locals := 21 }).room s m ([.ref (a 0), .int p1, .int p2] : List Value).toArray below meth c H locs 0 0 (MQ below (og_Qv (dC, dI) (wM_lead a k M_code M_keys M_edges M_thenKeys M_thenEdges M_configuration M_parts M_rings M_metSize M_asks y) (tM_lead k) A) ([.ref (a 0), .int p1, .int p2] : List Value).toArray s 0 0 A) (F0 m 145 ls []) := by
            intro M_backs H locs ls hf hP hD hS hl
            rw [fM_lead_K40_145] at hf
            refine lv_iinc (v := (v3 + 1)) (lv' := [(3, .int (v3 + 1)), (0, .ref (a 0)), (1, .int p1), (2, .int p2)]) hx hb d_M_lead_145 hl (k := 3) rfl rfl (by decide) rfl (fun ls hl => ?_)
            refine lv_goto (tgt := 32) hx hb d_M_lead_148 (by decide) ?_
            exact ih32 (v3 + 1) M_backs _ _ _ hf hP hD hS (lv_sub hl [1, 2, 3, 0] rfl)
          have lp40 : ∀ (n40 : Nat) (v4 : Int32) (M_backs : (Nat → Int32)) (H : Heap) (locs : List Loc) (ls : Array Slot), fM_lead_L40 (fM_lead_K40_145 (fun a0 a1 => fM_lead_L32 fM_lead_K32_151 M_thenKeys M_asks p1 p2 n32 a0 a1) v3) M_thenKeys M_asks p1 v3 n40 v4 M_backs = some y → va_P (dC, dI) vwCl (wM_lead a k M_code M_keys M_edges M_thenKeys M_thenEdges M_configuration M_parts M_rings M_metSize M_asks M_backs) H → va_D A (wM_lead a k M_code M_keys M_edges M_thenKeys M_thenEdges M_configuration M_parts M_rings M_metSize M_asks M_backs) → va_S A s.heap H locs → lv_has ls 7 [(0, .ref (a 0)), (1, .int p1), (2, .int p2), (3, .int v3), (4, .int v4)] → W p l e (headSpec ws_M_lead { frames := 1, cells := 0, slots := 0, locals := 21 }).room s m ([.ref (a 0), .int p1, .int p2] : List Value).toArray below meth c H locs 0 0 (MQ below (og_Qv (dC, dI) (wM_lead a k M_code M_keys M_edges M_thenKeys M_thenEdges M_configuration M_parts M_rings M_metSize M_asks y) (tM_lead k) A) ([.ref (a 0), .int p1, .int p2] : List Value).toArray s 0 0 A) (F0 m 40 ls []) := by
            intro n40
            induction n40 with
            | zero => intro v4 M_backs H locs ls hf hP hD hS hl; rw [fM_lead_L40] at hf; cases hf
            | succ n40 ih40 =>
              intro v4 M_backs H locs ls hf hP hD hS hl
              rw [fM_lead_L40] at hf
              refine lv_iload hx hb d_M_lead_40 (lv_at hl 4 rfl) ?_
              refine lv_aload_n hx hb d_M_lead_42 rfl (lv_at hl 0 rfl) ?_
              refine vg_M_thenKeys (v := .int M_thenKeys) hx hb hts hown hK hP 0 rfl (hts _ tb_272) rfl d_M_lead_43 ?_
              refine lv_icmp_ge (tgt := 145) hx hb d_M_lead_46 (by decide) (fun c_46 => ?_) (fun c_46 => ?_)
              · have hf := og_t hf c_46
                exact k40_145 M_backs _ _ _ hf hP hD hS (lv_sub hl [0, 1, 2, 3] rfl)
              · have hf := og_f hf c_46
                refine lv_iconst (v := 0) hx hb d_M_lead_49 (by decide) ?_
                refine lv_istore (lv' := [(5, .int 0), (0, .ref (a 0)), (1, .int p1), (2, .int p2), (3, .int v3), (4, .int v4)]) hx hb d_M_lead_50 hl (by decide) rfl (fun ls hl => ?_)
                refine lv_iload_n hx hb d_M_lead_52 rfl (lv_at hl 2 rfl) ?_
                refine lv_istore (lv' := [(6, .int p1), (5, .int 0), (0, .ref (a 0)), (1, .int p1), (2, .int p2), (3, .int v3), (4, .int v4)]) hx hb d_M_lead_53 hl (by decide) rfl (fun ls hl => ?_)
                have k55_125 : ∀ (v5 : Int32) (H : Heap) (locs : List Loc) (ls : Array Slot), fM_lead_K55_125 (fun a0 a1 => fM_lead_L40 (fM_lead_K40_145 (fun a0 a1 => fM_lead_L32 fM_lead_K32_151 M_thenKeys M_asks p1 p2 n32 a0 a1) v3) M_thenKeys M_asks p1 v3 n40 a0 a1) M_backs v3 v4 v5 = some y → va_P (dC, dI) vwCl (wM_lead a k M_code M_keys M_edges M_thenKeys M_thenEdges M_configuration M_parts M_rings M_metSize M_asks M_backs) H → va_D A (wM_lead a k M_code M_keys M_edges M_thenKeys M_thenEdges M_configuration M_parts M_rings M_metSize M_asks M_backs) → va_S A s.heap H locs → lv_has ls 7 [(0, .ref (a 0)), (1, .int p1), (2, .int p2), (3, .int v3), (4, .int v4), (5, .int v5)] → W p l e (headSpec ws_M_lead { frames := 1, cells := 0, slots := 0, locals := 21 }).room s m ([.ref (a 0), .int p1, .int p2] : List Value).toArray below meth c H locs 0 0 (MQ below (og_Qv (dC, dI) (wM_lead a k M_code M_keys M_edges M_thenKeys M_thenEdges M_configuration M_parts M_rings M_metSize M_asks y) (tM_lead k) A) ([.ref (a 0), .int p1, .int p2] : List Value).toArray s 0 0 A) (F0 m 125 ls []) := by
                  intro v5 H locs ls hf hP hD hS hl
                  rw [fM_lead_K55_125] at hf
                  refine lv_aload_n hx hb d_M_lead_125 rfl (lv_at hl 0 rfl) ?_
                  refine vg_M_backs (v := .ref (a 17)) hx hb hts hown hK hP 0 rfl (hts _ tb_290) rfl d_M_lead_126 ?_
                  refine lv_bipush (v := 40) hx hb d_M_lead_129 (by decide) ?_
                  refine lv_iload_n hx hb d_M_lead_131 rfl (lv_at hl 3 rfl) ?_
                  refine lv_imul hx hb d_M_lead_132 ?_
                  refine lv_iload hx hb d_M_lead_133 (lv_at hl 4 rfl) ?_
                  refine lv_iadd hx hb d_M_lead_135 ?_
                  refine lv_iload hx hb d_M_lead_136 (lv_at hl 5 rfl) ?_
                  obtain ⟨h_138, hf⟩ := og_ck_s hf
                  refine va_zast hx hb hK hP hD hS 2 1 rfl rfl h_138 d_M_lead_138 (fun H locs hP hD hS => ?_)
                  have hP : va_P (dC, dI) vwCl (wM_lead a k M_code M_keys M_edges M_thenKeys M_thenEdges M_configuration M_parts M_rings M_metSize M_asks (upd M_backs ((40 * v3) + v4).toNatClampNeg (vp_nar .boolean v5))) H := hP
                  have hD : va_D A (wM_lead a k M_code M_keys M_edges M_thenKeys M_thenEdges M_configuration M_parts M_rings M_metSize M_asks (upd M_backs ((40 * v3) + v4).toNatClampNeg (vp_nar .boolean v5))) := hD
                  refine lv_iinc (v := (v4 + 1)) (lv' := [(4, .int (v4 + 1)), (0, .ref (a 0)), (1, .int p1), (2, .int p2), (3, .int v3), (5, .int v5)]) hx hb d_M_lead_139 hl (k := 4) rfl rfl (by decide) rfl (fun ls hl => ?_)
                  refine lv_goto (tgt := 40) hx hb d_M_lead_142 (by decide) ?_
                  exact ih40 (v4 + 1) (upd M_backs ((40 * v3) + v4).toNatClampNeg (vp_nar .boolean v5)) _ _ _ hf hP hD hS (lv_sub hl [1, 2, 3, 4, 0] rfl)
                have lp55 : ∀ (n55 : Nat) (v5 : Int32) (v6 : Int32) (H : Heap) (locs : List Loc) (ls : Array Slot), fM_lead_L55 (fM_lead_K55_125 (fun a0 a1 => fM_lead_L40 (fM_lead_K40_145 (fun a0 a1 => fM_lead_L32 fM_lead_K32_151 M_thenKeys M_asks p1 p2 n32 a0 a1) v3) M_thenKeys M_asks p1 v3 n40 a0 a1) M_backs v3 v4) M_thenKeys M_asks M_backs p1 v3 v4 n55 v5 v6 = some y → va_P (dC, dI) vwCl (wM_lead a k M_code M_keys M_edges M_thenKeys M_thenEdges M_configuration M_parts M_rings M_metSize M_asks M_backs) H → va_D A (wM_lead a k M_code M_keys M_edges M_thenKeys M_thenEdges M_configuration M_parts M_rings M_metSize M_asks M_backs) → va_S A s.heap H locs → lv_has ls 7 [(0, .ref (a 0)), (1, .int p1), (2, .int p2), (3, .int v3), (4, .int v4), (5, .int v5), (6, .int v6)] → W p l e (headSpec ws_M_lead { frames := 1, cells := 0, slots := 0, locals := 21 }).room s m ([.ref (a 0), .int p1, .int p2] : List Value).toArray below meth c H locs 0 0 (MQ below (og_Qv (dC, dI) (wM_lead a k M_code M_keys M_edges M_thenKeys M_thenEdges M_configuration M_parts M_rings M_metSize M_asks y) (tM_lead k) A) ([.ref (a 0), .int p1, .int p2] : List Value).toArray s 0 0 A) (F0 m 55 ls []) := by
                  intro n55
                  induction n55 with
                  | zero => intro v5 v6 H locs ls hf hP hD hS hl; rw [fM_lead_L55] at hf; cases hf
                  | succ n55 ih55 =>
                    intro v5 v6 H locs ls hf hP hD hS hl
                    rw [fM_lead_L55] at hf
                    refine lv_iload hx hb d_M_lead_55 (lv_at hl 6 rfl) ?_
                    refine lv_aload_n hx hb d_M_lead_57 rfl (lv_at hl 0 rfl) ?_
                    refine vg_M_thenKeys (v := .int M_thenKeys) hx hb hts hown hK hP 0 rfl (hts _ tb_272) rfl d_M_lead_58 ?_
                    refine lv_icmp_ge (tgt := 125) hx hb d_M_lead_61 (by decide) (fun c_61 => ?_) (fun c_61 => ?_)
                    · have hf := og_t hf c_61
                      exact k55_125 v5 _ _ _ hf hP hD hS (lv_sub hl [0, 1, 2, 3, 4, 5] rfl)
                    · have hf := og_f hf c_61
                      refine lv_iload hx hb d_M_lead_64 (lv_at hl 5 rfl) ?_
                      refine lv_if_ne (tgt := 112) hx hb d_M_lead_66 (by decide) (fun c_66 => ?_) (fun c_66 => ?_)
                      · have hf := og_f hf c_66
                        refine lv_iconst (v := 1) hx hb d_M_lead_112 (by decide) ?_
                        refine lv_goto (tgt := 117) hx hb d_M_lead_113 (by decide) ?_
                        refine lv_istore (lv' := [(5, .int 1), (0, .ref (a 0)), (1, .int p1), (2, .int p2), (3, .int v3), (4, .int v4), (6, .int v6)]) hx hb d_M_lead_117 hl (by decide) rfl (fun ls hl => ?_)
                        refine lv_iinc (v := (v6 + 1)) (lv' := [(6, .int (v6 + 1)), (5, .int 1), (0, .ref (a 0)), (1, .int p1), (2, .int p2), (3, .int v3), (4, .int v4)]) hx hb d_M_lead_119 hl (k := 6) rfl rfl (by decide) rfl (fun ls hl => ?_)
                        refine lv_goto (tgt := 55) hx hb d_M_lead_122 (by decide) ?_
                        exact ih55 1 (v6 + 1) _ _ _ hf hP hD hS (lv_sub hl [2, 3, 4, 5, 6, 1, 0] rfl)
                      · have hf := og_t hf c_66
                        refine lv_aload_n hx hb d_M_lead_69 rfl (lv_at hl 0 rfl) ?_
                        refine vg_M_asks (v := .ref (a 12)) hx hb hts hown hK hP 0 rfl (hts _ tb_282) rfl d_M_lead_70 ?_
                        refine lv_iload hx hb d_M_lead_73 (lv_at hl 4 rfl) ?_
                        refine lv_iload hx hb d_M_lead_75 (lv_at hl 6 rfl) ?_
                        obtain ⟨r77, e_77, hf⟩ := og_b hf
                        refine og_rS (w := (wM_lead a k M_code M_keys M_edges M_thenKeys M_thenEdges M_configuration M_parts M_rings M_metSize M_asks M_backs)) (As := [.int v4, .int v6]) (rest := [.ref (a 12)]) ⟨hx, hb, hml, hown, hts⟩ (c_M_cell l dC dI a k v4 v6 r77 e_77) (va_cwS 2 hts (og_gS tb_273 tb_274 tb_259 tb_275) rfl rfl rfl (by decide +kernel) ⟨Nat.le_of_ble_eq_true rfl, Nat.le_of_ble_eq_true rfl⟩) hK hP [] [] trivial rfl rfl hl.1 rfl (Nat.le_of_ble_eq_true rfl) d_M_lead_77 ⟨Nat.zero_le _, Nat.zero_le _⟩ ?_
                        obtain ⟨h_80, hf⟩ := og_ck_s hf
                        refine va_zald hx hb hK hP 1 0 rfl rfl h_80 d_M_lead_80 ?_
                        refine lv_if_eq (tgt := 116) hx hb d_M_lead_81 (by decide) (fun c_81 => ?_) (fun c_81 => ?_)
                        · have hf := og_t hf c_81
                          refine lv_iconst (v := 0) hx hb d_M_lead_116 (by decide) ?_
                          refine lv_istore (lv' := [(5, .int 0), (0, .ref (a 0)), (1, .int p1), (2, .int p2), (3, .int v3), (4, .int v4), (6, .int v6)]) hx hb d_M_lead_117 hl (by decide) rfl (fun ls hl => ?_)
                          refine lv_iinc (v := (v6 + 1)) (lv' := [(6, .int (v6 + 1)), (5, .int 0), (0, .ref (a 0)), (1, .int p1), (2, .int p2), (3, .int v3), (4, .int v4)]) hx hb d_M_lead_119 hl (k := 6) rfl rfl (by decide) rfl (fun ls hl => ?_)
                          refine lv_goto (tgt := 55) hx hb d_M_lead_122 (by decide) ?_
                          exact ih55 0 (v6 + 1) _ _ _ hf hP hD hS (lv_sub hl [2, 3, 4, 5, 6, 1, 0] rfl)
                        · have hf := og_f hf c_81
                          refine lv_aload_n hx hb d_M_lead_84 rfl (lv_at hl 0 rfl) ?_
                          refine vg_M_backs (v := .ref (a 17)) hx hb hts hown hK hP 0 rfl (hts _ tb_290) rfl d_M_lead_85 ?_
                          refine lv_bipush (v := 40) hx hb d_M_lead_88 (by decide) ?_
                          refine lv_iload_n hx hb d_M_lead_90 rfl (lv_at hl 3 rfl) ?_
                          refine lv_iconst (v := 1) hx hb d_M_lead_91 (by decide) ?_
                          refine lv_isub hx hb d_M_lead_92 ?_
                          refine lv_imul hx hb d_M_lead_93 ?_
                          refine lv_iload hx hb d_M_lead_94 (lv_at hl 6 rfl) ?_
                          refine lv_iadd hx hb d_M_lead_96 ?_
                          obtain ⟨h_97, hf⟩ := og_ck_s hf
                          refine va_zald hx hb hK hP 2 1 rfl rfl h_97 d_M_lead_97 ?_
                          refine lv_if_eq (tgt := 116) hx hb d_M_lead_98 (by decide) (fun c_98 => ?_) (fun c_98 => ?_)
                          · have hf := og_t hf c_98
                            refine lv_iconst (v := 0) hx hb d_M_lead_116 (by decide) ?_
                            refine lv_istore (lv' := [(5, .int 0), (0, .ref (a 0)), (1, .int p1), (2, .int p2), (3, .int v3), (4, .int v4), (6, .int v6)]) hx hb d_M_lead_117 hl (by decide) rfl (fun ls hl => ?_)
                            refine lv_iinc (v := (v6 + 1)) (lv' := [(6, .int (v6 + 1)), (5, .int 0), (0, .ref (a 0)), (1, .int p1), (2, .int p2), (3, .int v3), (4, .int v4)]) hx hb d_M_lead_119 hl (k := 6) rfl rfl (by decide) rfl (fun ls hl => ?_)
                            refine lv_goto (tgt := 55) hx hb d_M_lead_122 (by decide) ?_
                            exact ih55 0 (v6 + 1) _ _ _ hf hP hD hS (lv_sub hl [2, 3, 4, 5, 6, 1, 0] rfl)
                          · have hf := og_f hf c_98
                            refine lv_iload hx hb d_M_lead_101 (lv_at hl 6 rfl) ?_
                            refine lv_iload_n hx hb d_M_lead_103 rfl (lv_at hl 1 rfl) ?_
                            refine lv_icmp_gt (tgt := 112) hx hb d_M_lead_104 (by decide) (fun c_104 => ?_) (fun c_104 => ?_)
                            · have hf := og_t hf c_104
                              refine lv_iconst (v := 1) hx hb d_M_lead_112 (by decide) ?_
                              refine lv_goto (tgt := 117) hx hb d_M_lead_113 (by decide) ?_
                              refine lv_istore (lv' := [(5, .int 1), (0, .ref (a 0)), (1, .int p1), (2, .int p2), (3, .int v3), (4, .int v4), (6, .int v6)]) hx hb d_M_lead_117 hl (by decide) rfl (fun ls hl => ?_)
                              refine lv_iinc (v := (v6 + 1)) (lv' := [(6, .int (v6 + 1)), (5, .int 1), (0, .ref (a 0)), (1, .int p1), (2, .int p2), (3, .int v3), (4, .int v4)]) hx hb d_M_lead_119 hl (k := 6) rfl rfl (by decide) rfl (fun ls hl => ?_)
                              refine lv_goto (tgt := 55) hx hb d_M_lead_122 (by decide) ?_
                              exact ih55 1 (v6 + 1) _ _ _ hf hP hD hS (lv_sub hl [2, 3, 4, 5, 6, 1, 0] rfl)
                            · have hf := og_f hf c_104
                              refine lv_iload_n hx hb d_M_lead_107 rfl (lv_at hl 3 rfl) ?_
                              refine lv_iconst (v := 1) hx hb d_M_lead_108 (by decide) ?_
                              refine lv_icmp_ne (tgt := 116) hx hb d_M_lead_109 (by decide) (fun c_109 => ?_) (fun c_109 => ?_)
                              · have hf := og_f hf c_109
                                refine lv_iconst (v := 0) hx hb d_M_lead_116 (by decide) ?_
                                refine lv_istore (lv' := [(5, .int 0), (0, .ref (a 0)), (1, .int p1), (2, .int p2), (3, .int v3), (4, .int v4), (6, .int v6)]) hx hb d_M_lead_117 hl (by decide) rfl (fun ls hl => ?_)
                                refine lv_iinc (v := (v6 + 1)) (lv' := [(6, .int (v6 + 1)), (5, .int 0), (0, .ref (a 0)), (1, .int p1), (2, .int p2), (3, .int v3), (4, .int v4)]) hx hb d_M_lead_119 hl (k := 6) rfl rfl (by decide) rfl (fun ls hl => ?_)
                                refine lv_goto (tgt := 55) hx hb d_M_lead_122 (by decide) ?_
                                exact ih55 0 (v6 + 1) _ _ _ hf hP hD hS (lv_sub hl [2, 3, 4, 5, 6, 1, 0] rfl)
                              · have hf := og_t hf c_109
                                refine lv_iconst (v := 1) hx hb d_M_lead_112 (by decide) ?_
                                refine lv_goto (tgt := 117) hx hb d_M_lead_113 (by decide) ?_
                                refine lv_istore (lv' := [(5, .int 1), (0, .ref (a 0)), (1, .int p1), (2, .int p2), (3, .int v3), (4, .int v4), (6, .int v6)]) hx hb d_M_lead_117 hl (by decide) rfl (fun ls hl => ?_)
                                refine lv_iinc (v := (v6 + 1)) (lv' := [(6, .int (v6 + 1)), (5, .int 1), (0, .ref (a 0)), (1, .int p1), (2, .int p2), (3, .int v3), (4, .int v4)]) hx hb d_M_lead_119 hl (k := 6) rfl rfl (by decide) rfl (fun ls hl => ?_)
                                refine lv_goto (tgt := 55) hx hb d_M_lead_122 (by decide) ?_
                                exact ih55 1 (v6 + 1) _ _ _ hf hP hD hS (lv_sub hl [2, 3, 4, 5, 6, 1, 0] rfl)
                exact lp55 FU 0 p1 _ _ _ hf hP hD hS (lv_sub hl [2, 3, 4, 5, 6, 1, 0] rfl)
          exact lp40 FU p1 M_backs _ _ _ hf hP hD hS (lv_sub hl [1, 2, 3, 4, 0] rfl)
    exact lp32 FU 1 M_backs _ _ _ hf hP hD hS (lv_sub hl [1, 2, 3, 0] rfl)
  have lp2 : ∀ (n2 : Nat) (v3 : Int32) (M_backs : (Nat → Int32)) (H : Heap) (locs : List Loc) (ls : Array Slot), fM_lead_L2 (fM_lead_K2_30 M_thenKeys M_asks p1 p2) p1 n2 v3 M_backs = some y → va_P (dC, dI) vwCl (wM_lead a k M_code M_keys M_edges M_thenKeys M_thenEdges M_configuration M_parts M_rings M_metSize M_asks M_backs) H → va_D A (wM_lead a k M_code M_keys M_edges M_thenKeys M_thenEdges M_configuration M_parts M_rings M_metSize M_asks M_backs) → va_S A s.heap H locs → lv_has ls 7 [(0, .ref (a 0)), (1, .int p1), (2, .int p2), (3, .int v3)] → W p l e (headSpec ws_M_lead { frames := 1, cells := 0, slots := 0, locals := 21 }).room s m ([.ref (a 0), .int p1, .int p2] : List Value).toArray below meth c H locs 0 0 (MQ below (og_Qv (dC, dI) (wM_lead a k M_code M_keys M_edges M_thenKeys M_thenEdges M_configuration M_parts M_rings M_metSize M_asks y) (tM_lead k) A) ([.ref (a 0), .int p1, .int p2] : List Value).toArray s 0 0 A) (F0 m 2 ls []) := by
    intro n2
    induction n2 with
    | zero => intro v3 M_backs H locs ls hf hP hD hS hl; rw [fM_lead_L2] at hf; cases hf
    | succ n2 ih2 =>
      intro v3 M_backs H locs ls hf hP hD hS hl
      rw [fM_lead_L2] at hf
      refine lv_iload_n hx hb d_M_lead_2 rfl (lv_at hl 3 rfl) ?_
      refine lv_bipush (v := 40) hx hb d_M_lead_3 (by decide) ?_
      refine lv_icmp_ge (tgt := 30) hx hb d_M_lead_5 (by decide) (fun c_5 => ?_) (fun c_5 => ?_)
      · have hf := og_t hf c_5
        exact k2_30 M_backs _ _ _ hf hP hD hS (lv_sub hl [0, 1, 2] rfl)
      · have hf := og_f hf c_5
        refine lv_aload_n hx hb d_M_lead_8 rfl (lv_at hl 0 rfl) ?_
        refine vg_M_backs (v := .ref (a 17)) hx hb hts hown hK hP 0 rfl (hts _ tb_290) rfl d_M_lead_9 ?_
        refine lv_iload_n hx hb d_M_lead_12 rfl (lv_at hl 3 rfl) ?_
        refine lv_iload_n hx hb d_M_lead_13 rfl (lv_at hl 3 rfl) ?_
        refine lv_iload_n hx hb d_M_lead_14 rfl (lv_at hl 1 rfl) ?_
        refine lv_icmp_ne (tgt := 22) hx hb d_M_lead_15 (by decide) (fun c_15 => ?_) (fun c_15 => ?_)
        · have hf := og_f hf c_15
          refine lv_iconst (v := 0) hx hb d_M_lead_22 (by decide) ?_
          obtain ⟨h_23, hf⟩ := og_ck_s hf
          refine va_zast hx hb hK hP hD hS 2 1 rfl rfl h_23 d_M_lead_23 (fun H locs hP hD hS => ?_)
          have hP : va_P (dC, dI) vwCl (wM_lead a k M_code M_keys M_edges M_thenKeys M_thenEdges M_configuration M_parts M_rings M_metSize M_asks (upd M_backs v3.toNatClampNeg (vp_nar .boolean 0))) H := hP
          have hD : va_D A (wM_lead a k M_code M_keys M_edges M_thenKeys M_thenEdges M_configuration M_parts M_rings M_metSize M_asks (upd M_backs v3.toNatClampNeg (vp_nar .boolean 0))) := hD
          refine lv_iinc (v := (v3 + 1)) (lv' := [(3, .int (v3 + 1)), (0, .ref (a 0)), (1, .int p1), (2, .int p2)]) hx hb d_M_lead_24 hl (k := 3) rfl rfl (by decide) rfl (fun ls hl => ?_)
          refine lv_goto (tgt := 2) hx hb d_M_lead_27 (by decide) ?_
          exact ih2 (v3 + 1) (upd M_backs v3.toNatClampNeg (vp_nar .boolean 0)) _ _ _ hf hP hD hS (lv_sub hl [1, 2, 3, 0] rfl)
        · have hf := og_t hf c_15
          refine lv_iconst (v := 1) hx hb d_M_lead_18 (by decide) ?_
          refine lv_goto (tgt := 23) hx hb d_M_lead_19 (by decide) ?_
          obtain ⟨h_23, hf⟩ := og_ck_s hf
          refine va_zast hx hb hK hP hD hS 2 1 rfl rfl h_23 d_M_lead_23 (fun H locs hP hD hS => ?_)
          have hP : va_P (dC, dI) vwCl (wM_lead a k M_code M_keys M_edges M_thenKeys M_thenEdges M_configuration M_parts M_rings M_metSize M_asks (upd M_backs v3.toNatClampNeg (vp_nar .boolean 1))) H := hP
          have hD : va_D A (wM_lead a k M_code M_keys M_edges M_thenKeys M_thenEdges M_configuration M_parts M_rings M_metSize M_asks (upd M_backs v3.toNatClampNeg (vp_nar .boolean 1))) := hD
          refine lv_iinc (v := (v3 + 1)) (lv' := [(3, .int (v3 + 1)), (0, .ref (a 0)), (1, .int p1), (2, .int p2)]) hx hb d_M_lead_24 hl (k := 3) rfl rfl (by decide) rfl (fun ls hl => ?_)
          refine lv_goto (tgt := 2) hx hb d_M_lead_27 (by decide) ?_
          exact ih2 (v3 + 1) (upd M_backs v3.toNatClampNeg (vp_nar .boolean 1)) _ _ _ hf hP hD hS (lv_sub hl [1, 2, 3, 0] rfl)
  exact lp2 FU 0 M_backs _ _ _ hf hP hD hS (lv_sub hl [1, 2, 3, 0] rfl)
