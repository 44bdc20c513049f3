def wM_close (a : Nat → Nat) (k : Nat → ClassId) (M_code : Int32) (M_keys : Int32) (M_edges : Int32) (M_thenKeys : Int32) (M_thenEdges : Int32) (M_configuration : Int32) (M_parts : Int32) (M_rings : Int32) (M_metSize : Int32) (M_from : (Nat → Int32)) (M_to : (Nat → Int32)) (M_bits : (Nat → Int32)) (M_thenGone : (Nat → Int32)) (M_rank : (Nat → Int32)) (M_asks : (Nat → Int32)) (M_reaches : (Nat → Int32)) (M_steps : (Nat → Int32)) : va_W := [(a 0, .inr (6, [.int M_code, .int M_keys, .int M_edges, .ref (a 1), .ref (a 2), .ref (a 3), .ref (a 4), .ref (a 5), .ref (a 6), .int M_thenKeys, .int M_thenEdges, .int M_configuration, .ref (a 7), .ref (a 8), .ref (a 9), .ref (a 10), .ref (a 11), .ref (a 12), .ref (a 13), .ref (a 14), .int M_parts, .int M_rings, .ref (a 15), .ref (a 16), .ref (a 17), .int M_metSize, .ref (a 18), .ref (a 19), .ref (a 20)])), (a 2, .inl (k 2, 160, .inl M_from)), (a 3, .inl (k 3, 160, .inl M_to)), (a 5, .inl (k 5, 160, .inl M_bits)), (a 7, .inl (k 7, 160, .inl M_thenGone)), (a 9, .inl (k 9, 40, .inl M_rank)), (a 12, .inl (k 12, 1600, .inl M_asks)), (a 13, .inl (k 13, 1600, .inl M_reaches)), (a 14, .inl (k 14, 1600, .inl M_steps))]
def tM_close (k : Nat → ClassId) : List (ClassId × FieldType) := [(k 2, .int), (k 3, .int), (k 5, .int), (k 7, .boolean), (k 9, .int), (k 12, .boolean), (k 13, .boolean), (k 14, .int)]
set_option maxHeartbeats 4000000 in
set_option maxRecDepth 100000 in
theorem c_M_close (l : Launch) (dC : Nat → ClassId) (dI : Nat → Nat → Nat) (a : Nat → Nat) (k : Nat → ClassId) (sz : Nat) (M_code : Int32) (M_keys : Int32) (M_edges : Int32) (M_thenKeys : Int32) (M_thenEdges : Int32) (M_configuration : Int32) (M_parts : Int32) (M_rings : Int32) (M_metSize : Int32) (M_from : (Nat → Int32)) (M_to : (Nat → Int32)) (M_bits : (Nat → Int32)) (M_thenGone : (Nat → Int32)) (M_rank : (Nat → Int32)) (M_asks : (Nat → Int32)) (M_reaches : (Nat → Int32)) (M_steps : (Nat → Int32)) (y : (Nat → Int32) × (Nat → Int32) × (Nat → Int32)) (hf : fM_close M_from M_to M_bits M_thenKeys M_thenEdges M_configuration M_thenGone M_rank M_asks M_reaches M_steps = some y) : Met l y_M_close ws_M_close ({ frames := 1, cells := 0, slots := 0, locals := 22 }) (og_Pw [.ref (a 0)] (dC, dI) (wM_close a k M_code M_keys M_edges M_thenKeys M_thenEdges M_configuration M_parts M_rings M_metSize M_from M_to M_bits M_thenGone M_rank M_asks M_reaches M_steps) (tM_close k) sz) (og_Qv (dC, dI) (wM_close a k M_code M_keys M_edges M_thenKeys M_thenEdges M_configuration M_parts M_rings M_metSize M_from M_to M_bits M_thenGone M_rank y.1 y.2.1 y.2.2) (tM_close k) (va_A (wM_close a k M_code M_keys M_edges M_thenKeys M_thenEdges M_configuration M_parts M_rings M_metSize M_from M_to M_bits M_thenGone M_rank M_asks M_reaches M_steps) sz)) 0 0 (va_A (wM_close a k M_code M_keys M_edges M_thenKeys M_thenEdges M_configuration M_parts M_rings M_metSize M_from M_to M_bits M_thenGone M_rank M_asks M_reaches M_steps) sz) := by
  refine Met.ofW (cc := b_M_close) (maxL := 5) (ret := none) (by decide) rfl ?_
  intro p e s m args below meth c s₁ B hml hv
  obtain ⟨rfl, hsz, hP, hK, hD0⟩ := hv
  have hx := B.exec
  have hb := B.bytes
  have hr := B.returns
  have hts0 := atoms_spec (ws := ws_M_close) B.pre
  have hts : ∀ w ∈ og_tb, w.before _ s = true := fun w h => hts0 w (List.mem_cons_of_mem _ h)
  have hown : s.vm.findClass R_M = some m.cls := findClass_of_methodNamed B.named
  have hlocks := B.notSynchronized
  subst hsz
  have hD := hD0.self (sz := s.heap.size)
  generalize hAe : va_A (wM_close a k M_code M_keys M_edges M_thenKeys M_thenEdges M_configuration M_parts M_rings M_metSize M_from M_to M_bits M_thenGone M_rank M_asks M_reaches M_steps) s.heap.size = A at hD ⊢
  have hA : ∀ q : Nat, s.heap.size ≤ q → A q := fun q h => by rw [← hAe]; exact Or.inr h
  have hS : va_S A s.heap s.heap [] := va_S.rf
  have hl := lv_entry ([.ref (a 0)]) (n := 5) (Nat.le_of_ble_eq_true rfl)
  rw [lg_entry_eq]
  generalize (lg_sl ([.ref (a 0)]) ++ List.replicate (5 - (lg_sl ([.ref (a 0)])).length) Slot.unset).toArray = ls at hl ⊢
  have hl : lv_has ls 5 [(0, .ref (a 0))] := hl
  rw [fM_close] at hf
  refine lv_iconst (v := 0) hx hb d_M_close_0 (by decide) ?_
  refine lv_istore_n (lv' := [(1, .int 0), (0, .ref (a 0))]) hx hb d_M_close_1 rfl hl (by decide) rfl (fun ls hl => ?_)
  have k2_31 : ∀ (M_asks : (Nat → Int32)) (M_steps : (Nat → Int32)) (H : Heap) (locs : List Loc) (ls : Array Slot), fM_close_K2_31 M_from M_to M_bits M_thenKeys M_thenEdges M_configuration M_thenGone M_rank M_reaches M_asks M_steps = some y → va_P (dC, dI) vwCl (wM_close a k M_code M_keys M_edges M_thenKeys M_thenEdges M_configuration M_parts M_rings M_metSize M_from M_to M_bits M_thenGone M_rank M_asks M_reaches M_steps) H → va_D A (wM_close a k M_code M_keys M_edges M_thenKeys M_thenEdges M_configuration M_parts M_rings M_metSize M_from M_to M_bits M_thenGone M_rank M_asks M_reaches M_steps) → va_S A s.heap H locs → lv_has ls 5 [(0, .ref (a 0))] → W p l e (headSpec ws_M_close { frames := 1, cells := 0, slots := 0, locals := 22 }).room s m ([.ref (a 0)] : List Value).toArray below meth c H locs 0 0 (MQ below (og_Qv (dC, dI) (wM_close a k M_code M_keys M_edges M_thenKeys M_thenEdges M_configuration M_parts M_rings M_metSize M_from M_to M_bits M_thenGone M_rank y.1 y.2.1 y.2.2) (tM_close k) A) ([.ref (a 0)] : List Value).toArray s 0 0 A) (F0 m 31 ls []) := by
    intro M_asks M_steps H locs ls hf hP hD hS hl
    rw [fM_close_K2_31] at hf
    refine lv_iconst (v := 0) hx hb d_M_close_31 (by decide) ?_
    refine lv_istore_n (lv' := [(1, .int 0), (0, .ref (a 0))]) hx hb d_M_close_32 rfl hl (by decide) rfl (fun ls hl => ?_)
    have k33_124 : ∀ (M_asks : (Nat → Int32)) (M_steps : (Nat → Int32)) (H : Heap) (locs : List Loc) (ls : Array Slot), fM_close_K33_124 M_thenKeys M_reaches M_asks M_steps = some y → va_P (dC, dI) vwCl (wM_close a k M_code M_keys M_edges M_thenKeys M_thenEdges M_configuration M_parts M_rings M_metSize M_from M_to M_bits M_thenGone M_rank M_asks M_reaches M_steps) H → va_D A (wM_close a k M_code M_keys M_edges M_thenKeys M_thenEdges M_configuration M_parts M_rings M_metSize M_from M_to M_bits M_thenGone M_rank M_asks M_reaches M_steps) → va_S A s.heap H locs → lv_has ls 5 [(0, .ref (a 0))] → W p l e (headSpec ws_M_close { frames := 1, cells := 0, slots := 0, locals := 22 }).room s m ([.ref (a 0)] : List Value).toArray below meth c H locs 0 0 (MQ below (og_Qv (dC, dI) (wM_close a k M_code M_keys M_edges M_thenKeys M_thenEdges M_configuration M_parts M_rings M_metSize M_from M_to M_bits M_thenGone M_rank y.1 y.2.1 y.2.2) (tM_close k) A) ([.ref (a 0)] : List Value).toArray s 0 0 A) (F0 m 124 ls []) := by
      intro M_asks M_steps H locs ls hf hP hD hS hl
      rw [fM_close_K33_124] at hf
      refine lv_iconst (v := 0) hx hb d_M_close_124 (by decide) ?_
      refine lv_istore_n (lv' := [(1, .int 0), (0, .ref (a 0))]) hx hb d_M_close_125 rfl hl (by decide) rfl (fun ls hl => ?_)
      have k126_222 : ∀ (M_steps : (Nat → Int32)) (H : Heap) (locs : List Loc) (ls : Array Slot), fM_close_K126_222 M_asks M_reaches M_steps = some y → va_P (dC, dI) vwCl (wM_close a k M_code M_keys M_edges M_thenKeys M_thenEdges M_configuration M_parts M_rings M_metSize M_from M_to M_bits M_thenGone M_rank M_asks M_reaches M_steps) H → va_D A (wM_close a k M_code M_keys M_edges M_thenKeys M_thenEdges M_configuration M_parts M_rings M_metSize M_from M_to M_bits M_thenGone M_rank M_asks M_reaches M_steps) → va_S A s.heap H locs → lv_has ls 5 [(0, .ref (a 0))] → W p l e (headSpec ws_M_close { frames := 1, cells := 0, slots := 0, locals := 22 }).room s m ([.ref (a 0)] : List Value).toArray below meth c H locs 0 0 (MQ below (og_Qv (dC, dI) (wM_close a k M_code M_keys M_edges M_thenKeys M_thenEdges M_configuration M_parts M_rings M_metSize M_from M_to M_bits M_thenGone M_rank y.1 y.2.1 y.2.2) (tM_close k) A) ([.ref (a 0)] : List Value).toArray s 0 0 A) (F0 m 222 ls []) := by
        intro M_steps H locs ls hf hP hD hS hl
        rw [fM_close_K126_222] at hf
        refine lv_iconst (v := 0) hx hb d_M_close_222 (by decide) ?_
        refine lv_istore_n (lv' := [(1, .int 0), (0, .ref (a 0))]) hx hb d_M_close_223 rfl hl (by decide) rfl (fun ls hl => ?_)
        have k224_260 : ∀ (M_reaches : (Nat → Int32)) (H : Heap) (locs : List Loc) (ls : Array Slot), fM_close_K224_260 M_asks M_steps M_reaches = some y → va_P (dC, dI) vwCl (wM_close a k M_code M_keys M_edges M_thenKeys M_thenEdges M_configuration M_parts M_rings M_metSize M_from M_to M_bits M_thenGone M_rank M_asks M_reaches M_steps) H → va_D A (wM_close a k M_code M_keys M_edges M_thenKeys M_thenEdges M_configuration M_parts M_rings M_metSize M_from M_to M_bits M_thenGone M_rank M_asks M_reaches M_steps) → va_S A s.heap H locs → lv_has ls 5 [] → W p l e (headSpec ws_M_close { frames := 1, cells := 0, slots := 0, locals := 22 }).room s m ([.ref (a 0)] : List Value).toArray below meth c H locs 0 0 (MQ below (og_Qv (dC, dI) (wM_close a k M_code M_keys M_edges M_thenKeys M_thenEdges M_configuration M_parts M_rings M_metSize M_from M_to M_bits M_thenGone M_rank y.1 y.2.1 y.2.2) (tM_close k) A) ([.ref (a 0)] : List Value).toArray s 0 0 A) (F0 m 260 ls []) := by
          intro M_reaches H locs ls hf hP hD hS hl
          rw [fM_close_K224_260] at hf
          obtain rfl := Option.some.inj hf
          exact W.vret hx hb hr (fun t ht hW => ⟨⟨(), rfl, trivial, by rw [ht]; exact hP, va_K.moved hW.alike hK, hD⟩, hS.F ht⟩) hS.2.2 d_M_close_260
        have lp224 : ∀ (n224 : Nat) (v1 : Int32) (M_reaches : (Nat → Int32)) (H : Heap) (locs : List Loc) (ls : Array Slot), fM_close_L224 (fM_close_K224_260 M_asks M_steps) M_steps n224 v1 M_reaches = some y → va_P (dC, dI) vwCl (wM_close a k M_code M_keys M_edges M_thenKeys M_thenEdges M_configuration M_parts M_rings M_metSize M_from M_to M_bits M_thenGone M_rank M_asks M_reaches M_steps) H → va_D A (wM_close a k M_code M_keys M_edges M_thenKeys M_thenEdges M_configuration M_parts M_rings M_metSize M_from M_to M_bits M_thenGone M_rank M_asks M_reaches M_steps) → va_S A s.heap H locs → lv_has ls 5 [(0, .ref (a 0)), (1, .int v1)] → W p l e (headSpec ws_M_close { frames := 1, cells := 0, slots := 0, locals := 22 }).room s m ([.ref (a 0)] : List Value).toArray below meth c H locs 0 0 (MQ below (og_Qv (dC, dI) (wM_close a k M_code M_keys M_edges M_thenKeys M_thenEdges M_configuration M_parts M_rings M_metSize M_from M_to M_bits M_thenGone M_rank y.1 y.2.1 y.2.2) (tM_close k) A) ([.ref (a 0)] : List Value).toArray s 0 0 A) (F0 m 224 ls []) := by
          intro n224
          induction n224 with
          | zero => intro v1 M_reaches H locs ls hf hP hD hS hl; rw [fM_close_L224] at hf; cases hf
          | succ n224 ih224 =>
            intro v1 M_reaches H locs ls hf hP hD hS hl
            rw [fM_close_L224] at hf
            refine lv_iload_n hx hb d_M_close_224 rfl (lv_at hl 1 rfl) ?_
            refine lv_sipush (v := 1600) hx hb d_M_close_225 (by decide) ?_
            refine lv_icmp_ge (tgt := 260) hx hb d_M_close_228 (by decide) (fun c_228 => ?_) (fun c_228 => ?_)
            · have hf := og_t hf c_228
              exact k224_260 M_reaches _ _ _ hf hP hD hS (lv_sub hl [] rfl)
            · have hf := og_f hf c_228
              refine lv_aload_n hx hb d_M_close_231 rfl (lv_at hl 0 rfl) ?_
              refine vg_M_reaches (v := .ref (a 13)) hx hb hts hown hK hP 0 rfl (hts _ tb_270) rfl d_M_close_232 ?_
              refine lv_iload_n hx hb d_M_close_235 rfl (lv_at hl 1 rfl) ?_
              refine lv_aload_n hx hb d_M_close_236 rfl (lv_at hl 0 rfl) ?_
              refine vg_M_steps (v := .ref (a 14)) hx hb hts hown hK hP 0 rfl (hts _ tb_271) rfl d_M_close_237 ?_
              refine lv_iload_n hx hb d_M_close_240 rfl (lv_at hl 1 rfl) ?_
              obtain ⟨h_241, hf⟩ := og_ck_s hf
              refine va_iald hx hb hK hP 8 7 rfl rfl h_241 d_M_close_241 ?_
              refine lv_sipush (v := 1000) hx hb d_M_close_242 (by decide) ?_
              refine lv_icmp_ge (tgt := 252) hx hb d_M_close_245 (by decide) (fun c_245 => ?_) (fun c_245 => ?_)
              · have hf := og_t hf c_245
                refine lv_iconst (v := 0) hx hb d_M_close_252 (by decide) ?_
                obtain ⟨h_253, hf⟩ := og_ck_s hf
                refine va_zast hx hb hK hP hD hS 7 6 rfl rfl h_253 d_M_close_253 (fun H locs hP hD hS => ?_)
                have hP : va_P (dC, dI) vwCl (wM_close a k M_code M_keys M_edges M_thenKeys M_thenEdges M_configuration M_parts M_rings M_metSize M_from M_to M_bits M_thenGone M_rank M_asks (upd M_reaches v1.toNatClampNeg (vp_nar .boolean 0)) M_steps) H := hP
                have hD : va_D A (wM_close a k M_code M_keys M_edges M_thenKeys M_thenEdges M_configuration M_parts M_rings M_metSize M_from M_to M_bits M_thenGone M_rank M_asks (upd M_reaches v1.toNatClampNeg (vp_nar .boolean 0)) M_steps) := hD
                refine lv_iinc (v := (v1 + 1)) (lv' := [(1, .int (v1 + 1)), (0, .ref (a 0))]) hx hb d_M_close_254 hl (k := 1) rfl rfl (by decide) rfl (fun ls hl => ?_)
                refine lv_goto (tgt := 224) hx hb d_M_close_257 (by decide) ?_
                exact ih224 (v1 + 1) (upd M_reaches v1.toNatClampNeg (vp_nar .boolean 0)) _ _ _ hf hP hD hS (lv_sub hl [1, 0] rfl)
              · have hf := og_f hf c_245
                refine lv_iconst (v := 1) hx hb d_M_close_248 (by decide) ?_
                refine lv_goto (tgt := 253) hx hb d_M_close_249 (by decide) ?_
                obtain ⟨h_253, hf⟩ := og_ck_s hf
                refine va_zast hx hb hK hP hD hS 7 6 rfl rfl h_253 d_M_close_253 (fun H locs hP hD hS => ?_)
                have hP : va_P (dC, dI) vwCl (wM_close a k M_code M_keys M_edges M_thenKeys M_thenEdges M_configuration M_parts M_rings M_metSize M_from M_to M_bits M_thenGone M_rank M_asks (upd M_reaches v1.toNatClampNeg (vp_nar .boolean 1)) M_steps) H := hP
                have hD : va_D A (wM_close a k M_code M_keys M_edges M_thenKeys M_thenEdges M_configuration M_parts M_rings M_metSize M_from M_to M_bits M_thenGone M_rank M_asks (upd M_reaches v1.toNatClampNeg (vp_nar .boolean 1)) M_steps) := hD
                refine lv_iinc (v := (v1 + 1)) (lv' := [(1, .int (v1 + 1)), (0, .ref (a 0))]) hx hb d_M_close_254 hl (k := 1) rfl rfl (by decide) rfl (fun ls hl => ?_)
                refine lv_goto (tgt := 224) hx hb d_M_close_257 (by decide) ?_
                exact ih224 (v1 + 1) (upd M_reaches v1.toNatClampNeg (vp_nar .boolean 1)) _ _ _ hf hP hD hS (lv_sub hl [1, 0] rfl)
        exact lp224 FU 0 M_reaches _ _ _ hf hP hD hS (lv_sub hl [1, 0] rfl)
      have lp126 : ∀ (n126 : Nat) (v1 : Int32) (M_steps : (Nat → Int32)) (H : Heap) (locs : List Loc) (ls : Array Slot), fM_close_L126 (fM_close_K126_222 M_asks M_reaches) M_thenKeys n126 v1 M_steps = some y → va_P (dC, dI) vwCl (wM_close a k M_code M_keys M_edges M_thenKeys M_thenEdges M_configuration M_parts M_rings M_metSize M_from M_to M_bits M_thenGone M_rank M_asks M_reaches M_steps) H → va_D A (wM_close a k M_code M_keys M_edges M_thenKeys M_thenEdges M_configuration M_parts M_rings M_metSize M_from M_to M_bits M_thenGone M_rank M_asks M_reaches M_steps) → va_S A s.heap H locs → lv_has ls 5 [(0, .ref (a 0)), (1, .int v1)] → W p l e (headSpec ws_M_close { frames := 1, cells := 0, slots := 0, locals := 22 }).room s m ([.ref (a 0)] : List Value).toArray below meth c H locs 0 0 (MQ below (og_Qv (dC, dI) (wM_close a k M_code M_keys M_edges M_thenKeys M_thenEdges M_configuration M_parts M_rings M_metSize M_from M_to M_bits M_thenGone M_rank y.1 y.2.1 y.2.2) (tM_close k) A) ([.ref (a 0)] : List Value).toArray s 0 0 A) (F0 m 126 ls []) := by
        intro n126
        induction n126 with
        | zero => intro v1 M_steps H locs ls hf hP hD hS hl; rw [fM_close_L126] at hf; cases hf
        | succ n126 ih126 =>
          intro v1 M_steps H locs ls hf hP hD hS hl
          rw [fM_close_L126] at hf
          refine lv_iload_n hx hb d_M_close_126 rfl (lv_at hl 1 rfl) ?_
          refine lv_aload_n hx hb d_M_close_127 rfl (lv_at hl 0 rfl) ?_
          refine vg_M_thenKeys (v := .int M_thenKeys) hx hb hts hown hK hP 0 rfl (hts _ tb_272) rfl d_M_close_128 ?_
          refine lv_icmp_ge (tgt := 222) hx hb d_M_close_131 (by decide) (fun c_131 => ?_) (fun c_131 => ?_)
          · have hf := og_t hf c_131
            exact k126_222 M_steps _ _ _ hf hP hD hS (lv_sub hl [0] rfl)
          · have hf := og_f hf c_131
            refine lv_iconst (v := 0) hx hb d_M_close_134 (by decide) ?_
            refine lv_istore_n (lv' := [(2, .int 0), (0, .ref (a 0)), (1, .int v1)]) hx hb d_M_close_135 rfl hl (by decide) rfl (fun ls hl => ?_)
            have k136_216 : ∀ (M_steps : (Nat → Int32)) (H : Heap) (locs : List Loc) (ls : Array Slot), fM_close_K136_216 (fun a0 a1 => fM_close_L126 (fM_close_K126_222 M_asks M_reaches) M_thenKeys n126 a0 a1) v1 M_steps = some y → va_P (dC, dI) vwCl (wM_close a k M_code M_keys M_edges M_thenKeys M_thenEdges M_configuration M_parts M_rings M_metSize M_from M_to M_bits M_thenGone M_rank M_asks M_reaches M_steps) H → va_D A (wM_close a k M_code M_keys M_edges M_thenKeys M_thenEdges M_configuration M_parts M_rings M_metSize M_from M_to M_bits M_thenGone M_rank M_asks M_reaches M_steps) → va_S A s.heap H locs → lv_has ls 5 [(0, .ref (a 0)), (1, .int v1)] → W p l e (headSpec ws_M_close { frames := 1, cells := 0, slots := 0, locals := 22 }).room s m ([.ref (a 0)] : List Value).toArray below meth c H locs 0 0 (MQ below (og_Qv (dC, dI) (wM_close a k M_code M_keys M_edges M_thenKeys M_thenEdges M_configuration M_parts M_rings M_metSize M_from M_to M_bits M_thenGone M_rank y.1 y.2.1 y.2.2) (tM_close k) A) ([.ref (a 0)] : List Value).toArray s 0 0 A) (F0 m 216 ls []) := by
              intro M_steps H locs ls hf hP hD hS hl
              rw [fM_close_K136_216] at hf
              refine lv_iinc (v := (v1 + 1)) (lv' := [(1, .int (v1 + 1)), (0, .ref (a 0))]) hx hb d_M_close_216 hl (k := 1) rfl rfl (by decide) rfl (fun ls hl => ?_)
              refine lv_goto (tgt := 126) hx hb d_M_close_219 (by decide) ?_
              exact ih126 (v1 + 1) M_steps _ _ _ hf hP hD hS (lv_sub hl [1, 0] rfl)
            have lp136 : ∀ (n136 : Nat) (v2 : Int32) (M_steps : (Nat → Int32)) (H : Heap) (locs : List Loc) (ls : Array Slot), fM_close_L136 (fM_close_K136_216 (fun a0 a1 => fM_close_L126 (fM_close_K126_222 M_asks M_reaches) M_thenKeys n126 a0 a1) v1) M_thenKeys v1 n136 v2 M_steps = some y → va_P (dC, dI) vwCl (wM_close a k M_code M_keys M_edges M_thenKeys M_thenEdges M_configuration M_parts M_rings M_metSize M_from M_to M_bits M_thenGone M_rank M_asks M_reaches M_steps) H → va_D A (wM_close a k M_code M_keys M_edges M_thenKeys M_thenEdges M_configuration M_parts M_rings M_metSize M_from M_to M_bits M_thenGone M_rank M_asks M_reaches M_steps) → va_S A s.heap H locs → lv_has ls 5 [(0, .ref (a 0)), (1, .int v1), (2, .int v2)] → W p l e (headSpec ws_M_close { frames := 1, cells := 0, slots := 0, locals := 22 }).room s m ([.ref (a 0)] : List Value).toArray below meth c H locs 0 0 (MQ below (og_Qv (dC, dI) (wM_close a k M_code M_keys M_edges M_thenKeys M_thenEdges M_configuration M_parts M_rings M_metSize M_from M_to M_bits M_thenGone M_rank y.1 y.2.1 y.2.2) (tM_close k) A) ([.ref (a 0)] : List Value).toArray s 0 0 A) (F0 m 136 ls []) := by
              intro n136
              induction n136 with
              | zero => intro v2 M_steps H locs ls hf hP hD hS hl; rw [fM_close_L136] at hf; cases hf
              | succ n136 ih136 =>
                intro v2 M_steps H locs ls hf hP hD hS hl
                rw [fM_close_L136] at hf
                refine lv_iload_n hx hb d_M_close_136 rfl (lv_at hl 2 rfl) ?_
                refine lv_aload_n hx hb d_M_close_137 rfl (lv_at hl 0 rfl) ?_
                refine vg_M_thenKeys (v := .int M_thenKeys) hx hb hts hown hK hP 0 rfl (hts _ tb_272) rfl d_M_close_138 ?_
                refine lv_icmp_ge (tgt := 216) hx hb d_M_close_141 (by decide) (fun c_141 => ?_) (fun c_141 => ?_)
                · have hf := og_t hf c_141
                  exact k136_216 M_steps _ _ _ hf hP hD hS (lv_sub hl [0, 1] rfl)
                · have hf := og_f hf c_141
                  refine lv_iconst (v := 0) hx hb d_M_close_144 (by decide) ?_
                  refine lv_istore_n (lv' := [(3, .int 0), (0, .ref (a 0)), (1, .int v1), (2, .int v2)]) hx hb d_M_close_145 rfl hl (by decide) rfl (fun ls hl => ?_)
                  have k146_210 : ∀ (M_steps : (Nat → Int32)) (H : Heap) (locs : List Loc) (ls : Array Slot), fM_close_K146_210 (fun a0 a1 => fM_close_L136 (fM_close_K136_216 (fun a0 a1 => fM_close_L126 (fM_close_K126_222 M_asks M_reaches) M_thenKeys n126 a0 a1) v1) M_thenKeys v1 n136 a0 a1) v2 M_steps = some y → va_P (dC, dI) vwCl (wM_close a k M_code M_keys M_edges M_thenKeys M_thenEdges M_configuration M_parts M_rings M_metSize M_from M_to M_bits M_thenGone M_rank M_asks M_reaches M_steps) H → va_D A (wM_close a k M_code M_keys M_edges M_thenKeys M_thenEdges M_configuration M_parts M_rings M_metSize M_from M_to M_bits M_thenGone M_rank M_asks M_reaches M_steps) → va_S A s.heap H locs → lv_has ls 5 [(0, .ref (a 0)), (1, .int v1), (2, .int v2)] → W p l e (headSpec ws_M_close { frames := 1, cells := 0, slots := 0, locals := 22 }).room s m ([.ref (a 0)] : List Value).toArray below meth c H locs 0 0 (MQ below (og_Qv (dC, dI) (wM_close a k M_code M_keys M_edges M_thenKeys M_thenEdges M_configuration M_parts M_rings M_metSize M_from M_to M_bits M_thenGone M_rank y.1 y.2.1 y.2.2) (tM_close k) A) ([.ref (a 0)] : List Value).toArray s 0 0 A) (F0 m 210 ls []) := by
                    intro M_steps H locs ls hf hP hD hS hl
                    rw [fM_close_K146_210] at hf
                    refine lv_iinc (v := (v2 + 1)) (lv' := [(2, .int (v2 + 1)), (0, .ref (a 0)), (1, .int v1)]) hx hb d_M_close_210 hl (k := 2) rfl rfl (by decide) rfl (fun ls hl => ?_)
                    refine lv_goto (tgt := 136) hx hb d_M_close_213 (by decide) ?_
                    exact ih136 (v2 + 1) M_steps _ _ _ hf hP hD hS (lv_sub hl [1, 2, 0] rfl)
                  have lp146 : ∀ (n146 : Nat) (v3 : Int32) (M_steps : (Nat → Int32)) (H : Heap) (locs : List Loc) (ls : Array Slot), fM_close_L146 (fM_close_K146_210 (fun a0 a1 => fM_close_L136 (fM_close_K136_216 (fun a0 a1 => fM_close_L126 (fM_close_K126_222 M_asks M_reaches) M_thenKeys n126 a0 a1) v1) M_thenKeys v1 n136 a0 a1) v2) M_thenKeys v1 v2 n146 v3 M_steps = some y → va_P (dC, dI) vwCl (wM_close a k M_code M_keys M_edges M_thenKeys M_thenEdges M_configuration M_parts M_rings M_metSize M_from M_to M_bits M_thenGone M_rank M_asks M_reaches M_steps) H → va_D A (wM_close a k M_code M_keys M_edges M_thenKeys M_thenEdges M_configuration M_parts M_rings M_metSize M_from M_to M_bits M_thenGone M_rank M_asks M_reaches M_steps) → va_S A s.heap H locs → lv_has ls 5 [(0, .ref (a 0)), (1, .int v1), (2, .int v2), (3, .int v3)] → W p l e (headSpec ws_M_close { frames := 1, cells := 0, slots := 0, locals := 22 }).room s m ([.ref (a 0)] : List Value).toArray below meth c H locs 0 0 (MQ below (og_Qv (dC, dI) (wM_close a k M_code M_keys M_edges M_thenKeys M_thenEdges M_configuration M_parts M_rings M_metSize M_from M_to M_bits M_thenGone M_rank y.1 y.2.1 y.2.2) (tM_close k) A) ([.ref (a 0)] : List Value).toArray s 0 0 A) (F0 m 146 ls []) := by
                    intro n146
                    induction n146 with
                    | zero => intro v3 M_steps H locs ls hf hP hD hS hl; rw [fM_close_L146] at hf; cases hf
                    | succ n146 ih146 =>
                      intro v3 M_steps H locs ls hf hP hD hS hl
                      rw [fM_close_L146] at hf
                      refine lv_iload_n hx hb d_M_close_146 rfl (lv_at hl 3 rfl) ?_
                      refine lv_aload_n hx hb d_M_close_147 rfl (lv_at hl 0 rfl) ?_
                      refine vg_M_thenKeys (v := .int M_thenKeys) hx hb hts hown hK hP 0 rfl (hts _ tb_272) rfl d_M_close_148 ?_
                      refine lv_icmp_ge (tgt := 210) hx hb d_M_close_151 (by decide) (fun c_151 => ?_) (fun c_151 => ?_)
                      · have hf := og_t hf c_151
                        exact k146_210 M_steps _ _ _ hf hP hD hS (lv_sub hl [0, 1, 2] rfl)
                      · have hf := og_f hf c_151
                        refine lv_aload_n hx hb d_M_close_154 rfl (lv_at hl 0 rfl) ?_
                        refine vg_M_steps (v := .ref (a 14)) hx hb hts hown hK hP 0 rfl (hts _ tb_271) rfl d_M_close_155 ?_
                        refine lv_iload_n hx hb d_M_close_158 rfl (lv_at hl 2 rfl) ?_
                        refine lv_iload_n hx hb d_M_close_159 rfl (lv_at hl 1 rfl) ?_
                        obtain ⟨r160, e_160, hf⟩ := og_b hf
                        refine og_rS (w := (wM_close a k M_code M_keys M_edges M_thenKeys M_thenEdges M_configuration M_parts M_rings M_metSize M_from M_to M_bits M_thenGone M_rank M_asks M_reaches M_steps)) (As := [.int v2, .int v1]) (rest := [.ref (a 14)]) ⟨hx, hb, hml, hown, hts⟩ (c_M_cell l dC dI a k v2 v1 r160 e_160) (va_cwS 2 hts (og_gS tb_273 tb_274 tb_259 tb_275) rfl rfl rfl (by decide +kernel) ⟨Nat.le_of_ble_eq_true rfl, Nat.le_of_ble_eq_true rfl⟩) hK hP [] [] trivial rfl rfl hl.1 rfl (Nat.le_of_ble_eq_true rfl) d_M_close_160 ⟨Nat.zero_le _, Nat.zero_le _⟩ ?_
                        obtain ⟨h_163, hf⟩ := og_ck_s hf
                        refine va_iald hx hb hK hP 8 7 rfl rfl h_163 d_M_close_163 ?_
                        refine lv_aload_n hx hb d_M_close_164 rfl (lv_at hl 0 rfl) ?_
                        refine vg_M_steps (v := .ref (a 14)) hx hb hts hown hK hP 0 rfl (hts _ tb_271) rfl d_M_close_165 ?_
                        refine lv_iload_n hx hb d_M_close_168 rfl (lv_at hl 1 rfl) ?_
                        refine lv_iload_n hx hb d_M_close_169 rfl (lv_at hl 3 rfl) ?_
                        obtain ⟨r170, e_170, hf⟩ := og_b hf
                        refine og_rS (w := (wM_close a k M_code M_keys M_edges M_thenKeys M_thenEdges M_configuration M_parts M_rings M_metSize M_from M_to M_bits M_thenGone M_rank M_asks M_reaches M_steps)) (As := [.int v1, .int v3]) (rest := [.ref (a 14), .int (M_steps r160.toNatClampNeg)]) ⟨hx, hb, hml, hown, hts⟩ (c_M_cell l dC dI a k v1 v3 r170 e_170) (va_cwS 2 hts (og_gS tb_273 tb_274 tb_259 tb_275) rfl rfl rfl (by decide +kernel) ⟨Nat.le_of_ble_eq_true rfl, Nat.le_of_ble_eq_true rfl⟩) hK hP [] [] trivial rfl rfl hl.1 rfl (Nat.le_of_ble_eq_true rfl) d_M_close_170 ⟨Nat.zero_le _, Nat.zero_le _⟩ ?_
                        obtain ⟨h_173, hf⟩ := og_ck_s hf
                        refine va_iald hx hb hK hP 8 7 rfl rfl h_173 d_M_close_173 ?_
                        refine lv_iadd hx hb d_M_close_174 ?_
                        refine lv_istore (lv' := [(4, .int ((M_steps r160.toNatClampNeg) + (M_steps r170.toNatClampNeg))), (0, .ref (a 0)), (1, .int v1), (2, .int v2), (3, .int v3)]) hx hb d_M_close_175 hl (by decide) rfl (fun ls hl => ?_)
                        refine lv_iload hx hb d_M_close_177 (lv_at hl 0 rfl) ?_
                        refine lv_aload_n hx hb d_M_close_179 rfl (lv_at hl 1 rfl) ?_
                        refine vg_M_steps (v := .ref (a 14)) hx hb hts hown hK hP 0 rfl (hts _ tb_271) rfl d_M_close_180 ?_
                        refine lv_iload_n hx hb d_M_close_183 rfl (lv_at hl 3 rfl) ?_
                        refine lv_iload_n hx hb d_M_close_184 rfl (lv_at hl 4 rfl) ?_
                        obtain ⟨r185, e_185, hf⟩ := og_b hf
                        refine og_rS (w := (wM_close a k M_code M_keys M_edges M_thenKeys M_thenEdges M_configuration M_parts M_rings M_metSize M_from M_to M_bits M_thenGone M_rank M_asks M_reaches M_steps)) (As := [.int v2, .int v3]) (rest := [.ref (a 14), .int ((M_steps r160.toNatClampNeg) + (M_steps r170.toNatClampNeg))]) ⟨hx, hb, hml, hown, hts⟩ (c_M_cell l dC dI a k v2 v3 r185 e_185) (va_cwS 2 hts (og_gS tb_273 tb_274 tb_259 tb_275) rfl rfl rfl (by decide +kernel) ⟨Nat.le_of_ble_eq_true rfl, Nat.le_of_ble_eq_true rfl⟩) hK hP [] [] trivial rfl rfl hl.1 rfl (Nat.le_of_ble_eq_true rfl) d_M_close_185 ⟨Nat.zero_le _, Nat.zero_le _⟩ ?_
                        obtain ⟨h_188, hf⟩ := og_ck_s hf
                        refine va_iald hx hb hK hP 8 7 rfl rfl h_188 d_M_close_188 ?_
                        refine lv_icmp_ge (tgt := 204) hx hb d_M_close_189 (by decide) (fun c_189 => ?_) (fun c_189 => ?_)
                        · have hf := og_t hf c_189
                          refine lv_iinc (v := (v3 + 1)) (lv' := [(3, .int (v3 + 1)), (4, .int ((M_steps r160.toNatClampNeg) + (M_steps r170.toNatClampNeg))), (0, .ref (a 0)), (1, .int v1), (2, .int v2)]) hx hb d_M_close_204 hl (k := 4) rfl rfl (by decide) rfl (fun ls hl => ?_)
                          refine lv_goto (tgt := 146) hx hb d_M_close_207 (by decide) ?_
                          exact ih146 (v3 + 1) M_steps _ _ _ hf hP hD hS (lv_sub hl [2, 3, 4, 0] rfl)
                        · have hf := og_f hf c_189
                          refine lv_aload_n hx hb d_M_close_192 rfl (lv_at hl 1 rfl) ?_
                          refine vg_M_steps (v := .ref (a 14)) hx hb hts hown hK hP 0 rfl (hts _ tb_271) rfl d_M_close_193 ?_
                          refine lv_iload_n hx hb d_M_close_196 rfl (lv_at hl 3 rfl) ?_
                          refine lv_iload_n hx hb d_M_close_197 rfl (lv_at hl 4 rfl) ?_
                          obtain ⟨r198, e_198, hf⟩ := og_b hf
                          refine og_rS (w := (wM_close a k M_code M_keys M_edges M_thenKeys M_thenEdges M_configuration M_parts M_rings M_metSize M_from M_to M_bits M_thenGone M_rank M_asks M_reaches M_steps)) (As := [.int v2, .int v3]) (rest := [.ref (a 14)]) ⟨hx, hb, hml, hown, hts⟩ (c_M_cell l dC dI a k v2 v3 r198 e_198) (va_cwS 2 hts (og_gS tb_273 tb_274 tb_259 tb_275) rfl rfl rfl (by decide +kernel) ⟨Nat.le_of_ble_eq_true rfl, Nat.le_of_ble_eq_true rfl⟩) hK hP [] [] trivial rfl rfl hl.1 rfl (Nat.le_of_ble_eq_true rfl) d_M_close_198 ⟨Nat.zero_le _, Nat.zero_le _⟩ ?_
                          refine lv_iload hx hb d_M_close_201 (lv_at hl 0 rfl) ?_
                          obtain ⟨h_203, hf⟩ := og_ck_s hf
                          refine va_iast hx hb hK hP hD hS 8 7 rfl rfl h_203 d_M_close_203 (fun H locs hP hD hS => ?_)
                          have hP : va_P (dC, dI) vwCl (wM_close a k M_code M_keys M_edges M_thenKeys M_thenEdges M_configuration M_parts M_rings M_metSize M_from M_to M_bits M_thenGone M_rank M_asks M_reaches (upd M_steps r198.toNatClampNeg ((M_steps r160.toNatClampNeg) + (M_steps r170.toNatClampNeg)))) H := hP
                          have hD : va_D A (wM_close a k M_code M_keys M_edges M_thenKeys M_thenEdges M_configuration M_parts M_rings M_metSize M_from M_to M_bits M_thenGone M_rank M_asks M_reaches (upd M_steps r198.toNatClampNeg ((M_steps r160.toNatClampNeg) + (M_steps r170.toNatClampNeg)))) := hD
                          refine lv_iinc (v := (v3 + 1)) (lv' := [(3, .int (v3 + 1)), (4, .int ((M_steps r160.toNatClampNeg) + (M_steps r170.toNatClampNeg))), (0, .ref (a 0)), (1, .int v1), (2, .int v2)]) hx hb d_M_close_204 hl (k := 4) rfl rfl (by decide) rfl (fun ls hl => ?_)
                          refine lv_goto (tgt := 146) hx hb d_M_close_207 (by decide) ?_
                          exact ih146 (v3 + 1) (upd M_steps r198.toNatClampNeg ((M_steps r160.toNatClampNeg) + (M_steps r170.toNatClampNeg))) _ _ _ hf hP hD hS (lv_sub hl [2, 3, 4, 0] rfl)
                  exact lp146 FU 0 M_steps _ _ _ hf hP hD hS (lv_sub hl [1, 2, 3, 0] rfl)
            exact lp136 FU 0 M_steps _ _ _ hf hP hD hS (lv_sub hl [1, 2, 0] rfl)
      exact lp126 FU 0 M_steps _ _ _ hf hP hD hS (lv_sub hl [1, 0] rfl)
    have lp33 : ∀ (n33 : Nat) (v1 : Int32) (M_asks : (Nat → Int32)) (M_steps : (Nat → Int32)) (H : Heap) (locs : List Loc) (ls : Array Slot), fM_close_L33 (fM_close_K33_124 M_thenKeys M_reaches) M_from M_to M_bits M_thenEdges M_configuration M_thenGone M_rank n33 v1 M_asks M_steps = some y → va_P (dC, dI) vwCl (wM_close a k M_code M_keys M_edges M_thenKeys M_thenEdges M_configuration M_parts M_rings M_metSize M_from M_to M_bits M_thenGone M_rank M_asks M_reaches M_steps) H → va_D A (wM_close a k M_code M_keys M_edges M_thenKeys M_thenEdges M_configuration M_parts M_rings M_metSize M_from M_to M_bits M_thenGone M_rank M_asks M_reaches M_steps) → va_S A s.heap H locs → lv_has ls 5 [(0, .ref (a 0)), (1, .int v1)] → W p l e (headSpec ws_M_close { frames := 1, cells := 0, slots := 0, locals := 22 }).room s m ([.ref (a 0)] : List Value).toArray below meth c H locs 0 0 (MQ below (og_Qv (dC, dI) (wM_close a k M_code M_keys M_edges M_thenKeys M_thenEdges M_configuration M_parts M_rings M_metSize M_from M_to M_bits M_thenGone M_rank y.1 y.2.1 y.2.2) (tM_close k) A) ([.ref (a 0)] : List Value).toArray s 0 0 A) (F0 m 33 ls []) := by
      intro n33
      induction n33 with
      | zero => intro v1 M_asks M_steps H locs ls hf hP hD hS hl; rw [fM_close_L33] at hf; cases hf
      | succ n33 ih33 =>
        intro v1 M_asks M_steps H locs ls hf hP hD hS hl
        rw [fM_close_L33] at hf
        refine lv_iload_n hx hb d_M_close_33 rfl (lv_at hl 1 rfl) ?_
        refine lv_aload_n hx hb d_M_close_34 rfl (lv_at hl 0 rfl) ?_
        refine vg_M_thenEdges (v := .int M_thenEdges) hx hb hts hown hK hP 0 rfl (hts _ tb_276) rfl d_M_close_35 ?_
        refine lv_icmp_ge (tgt := 124) hx hb d_M_close_38 (by decide) (fun c_38 => ?_) (fun c_38 => ?_)
        · have hf := og_t hf c_38
          exact k33_124 M_asks M_steps _ _ _ hf hP hD hS (lv_sub hl [0] rfl)
        · have hf := og_f hf c_38
          refine lv_aload_n hx hb d_M_close_41 rfl (lv_at hl 0 rfl) ?_
          refine lv_iload_n hx hb d_M_close_42 rfl (lv_at hl 1 rfl) ?_
          refine lv_aload_n hx hb d_M_close_43 rfl (lv_at hl 0 rfl) ?_
          refine vg_M_configuration (v := .int M_configuration) hx hb hts hown hK hP 0 rfl (hts _ tb_277) rfl d_M_close_44 ?_
          obtain ⟨r47, e_47, hf⟩ := og_b hf
          refine og_rV (w := (wM_close a k M_code M_keys M_edges M_thenKeys M_thenEdges M_configuration M_parts M_rings M_metSize M_from M_to M_bits M_thenGone M_rank M_asks M_reaches M_steps)) (As := [.int v1, .int M_configuration]) (rest := []) (ci := 6) (q0 := 0) ⟨hx, hb, hml, hown, hts⟩ (c_M_isThen l dC dI a k M_code M_keys M_edges M_thenKeys M_thenEdges M_configuration M_parts M_rings M_metSize M_bits M_thenGone v1 M_configuration r47 e_47) (cwV 2 hts (og_gV tb_278 tb_279 tb_280 tb_259 tb_281) rfl rfl rfl (by decide +kernel) ⟨Nat.le_of_ble_eq_true rfl, Nat.le_of_ble_eq_true rfl⟩) hK hP [0, 3, 4] [2, 3] ⟨rfl, rfl, rfl, trivial⟩ rfl rfl rfl rfl rfl hl.1 rfl (Nat.le_of_ble_eq_true rfl) d_M_close_47 ⟨Nat.zero_le _, Nat.zero_le _⟩ ?_
          refine lv_if_ne (tgt := 56) hx hb d_M_close_50 (by decide) (fun c_50 => ?_) (fun c_50 => ?_)
          · have hf := og_f hf c_50
            refine lv_aload_n hx hb d_M_close_56 rfl (lv_at hl 0 rfl) ?_
            refine vg_M_asks (v := .ref (a 12)) hx hb hts hown hK hP 0 rfl (hts _ tb_282) rfl d_M_close_57 ?_
            refine lv_aload_n hx hb d_M_close_60 rfl (lv_at hl 0 rfl) ?_
            refine vg_M_rank (v := .ref (a 9)) hx hb hts hown hK hP 0 rfl (hts _ tb_269) rfl d_M_close_61 ?_
            refine lv_aload_n hx hb d_M_close_64 rfl (lv_at hl 0 rfl) ?_
            refine vg_M_from (v := .ref (a 2)) hx hb hts hown hK hP 0 rfl (hts _ tb_262) rfl d_M_close_65 ?_
            refine lv_iload_n hx hb d_M_close_68 rfl (lv_at hl 1 rfl) ?_
            obtain ⟨h_69, hf⟩ := og_ck_s hf
            refine va_iald hx hb hK hP 1 0 rfl rfl h_69 d_M_close_69 ?_
            obtain ⟨h_70, hf⟩ := og_ck_s hf
            refine va_iald hx hb hK hP 5 4 rfl rfl h_70 d_M_close_70 ?_
            refine lv_aload_n hx hb d_M_close_71 rfl (lv_at hl 0 rfl) ?_
            refine vg_M_rank (v := .ref (a 9)) hx hb hts hown hK hP 0 rfl (hts _ tb_269) rfl d_M_close_72 ?_
            refine lv_aload_n hx hb d_M_close_75 rfl (lv_at hl 0 rfl) ?_
            refine vg_M_to (v := .ref (a 3)) hx hb hts hown hK hP 0 rfl (hts _ tb_263) rfl d_M_close_76 ?_
            refine lv_iload_n hx hb d_M_close_79 rfl (lv_at hl 1 rfl) ?_
            obtain ⟨h_80, hf⟩ := og_ck_s hf
            refine va_iald hx hb hK hP 2 1 rfl rfl h_80 d_M_close_80 ?_
            obtain ⟨h_81, hf⟩ := og_ck_s hf
            refine va_iald hx hb hK hP 5 4 rfl rfl h_81 d_M_close_81 ?_
            obtain ⟨r82, e_82, hf⟩ := og_b hf
            refine og_rS (w := (wM_close a k M_code M_keys M_edges M_thenKeys M_thenEdges M_configuration M_parts M_rings M_metSize M_from M_to M_bits M_thenGone M_rank M_asks M_reaches M_steps)) (As := [.int (M_rank (M_from v1.toNatClampNeg).toNatClampNeg), .int (M_rank (M_to v1.toNatClampNeg).toNatClampNeg)]) (rest := [.ref (a 12)]) ⟨hx, hb, hml, hown, hts⟩ (c_M_cell l dC dI a k (M_rank (M_from v1.toNatClampNeg).toNatClampNeg) (M_rank (M_to v1.toNatClampNeg).toNatClampNeg) r82 e_82) (va_cwS 2 hts (og_gS tb_273 tb_274 tb_259 tb_275) rfl rfl rfl (by decide +kernel) ⟨Nat.le_of_ble_eq_true rfl, Nat.le_of_ble_eq_true rfl⟩) hK hP [] [] trivial rfl rfl hl.1 rfl (Nat.le_of_ble_eq_true rfl) d_M_close_82 ⟨Nat.zero_le _, Nat.zero_le _⟩ ?_
            refine lv_iconst (v := 1) hx hb d_M_close_85 (by decide) ?_
            obtain ⟨h_86, hf⟩ := og_ck_s hf
            refine va_zast hx hb hK hP hD hS 6 5 rfl rfl h_86 d_M_close_86 (fun H locs hP hD hS => ?_)
            have hP : va_P (dC, dI) vwCl (wM_close a k M_code M_keys M_edges M_thenKeys M_thenEdges M_configuration M_parts M_rings M_metSize M_from M_to M_bits M_thenGone M_rank (upd M_asks r82.toNatClampNeg (vp_nar .boolean 1)) M_reaches M_steps) H := hP
            have hD : va_D A (wM_close a k M_code M_keys M_edges M_thenKeys M_thenEdges M_configuration M_parts M_rings M_metSize M_from M_to M_bits M_thenGone M_rank (upd M_asks r82.toNatClampNeg (vp_nar .boolean 1)) M_reaches M_steps) := hD
            refine lv_aload_n hx hb d_M_close_87 rfl (lv_at hl 0 rfl) ?_
            refine vg_M_steps (v := .ref (a 14)) hx hb hts hown hK hP 0 rfl (hts _ tb_271) rfl d_M_close_88 ?_
            refine lv_aload_n hx hb d_M_close_91 rfl (lv_at hl 0 rfl) ?_
            refine vg_M_rank (v := .ref (a 9)) hx hb hts hown hK hP 0 rfl (hts _ tb_269) rfl d_M_close_92 ?_
            refine lv_aload_n hx hb d_M_close_95 rfl (lv_at hl 0 rfl) ?_
            refine vg_M_from (v := .ref (a 2)) hx hb hts hown hK hP 0 rfl (hts _ tb_262) rfl d_M_close_96 ?_
            refine lv_iload_n hx hb d_M_close_99 rfl (lv_at hl 1 rfl) ?_
            obtain ⟨h_100, hf⟩ := og_ck_s hf
            refine va_iald hx hb hK hP 1 0 rfl rfl h_100 d_M_close_100 ?_
            obtain ⟨h_101, hf⟩ := og_ck_s hf
            refine va_iald hx hb hK hP 5 4 rfl rfl h_101 d_M_close_101 ?_
            refine lv_aload_n hx hb d_M_close_102 rfl (lv_at hl 0 rfl) ?_
            refine vg_M_rank (v := .ref (a 9)) hx hb hts hown hK hP 0 rfl (hts _ tb_269) rfl d_M_close_103 ?_
            refine lv_aload_n hx hb d_M_close_106 rfl (lv_at hl 0 rfl) ?_
            refine vg_M_to (v := .ref (a 3)) hx hb hts hown hK hP 0 rfl (hts _ tb_263) rfl d_M_close_107 ?_
            refine lv_iload_n hx hb d_M_close_110 rfl (lv_at hl 1 rfl) ?_
            obtain ⟨h_111, hf⟩ := og_ck_s hf
            refine va_iald hx hb hK hP 2 1 rfl rfl h_111 d_M_close_111 ?_
            obtain ⟨h_112, hf⟩ := og_ck_s hf
            refine va_iald hx hb hK hP 5 4 rfl rfl h_112 d_M_close_112 ?_
            obtain ⟨r113, e_113, hf⟩ := og_b hf
            refine og_rS (w := (wM_close a k M_code M_keys M_edges M_thenKeys M_thenEdges M_configuration M_parts M_rings M_metSize M_from M_to M_bits M_thenGone M_rank (upd M_asks r82.toNatClampNeg (vp_nar .boolean 1)) M_reaches M_steps)) (As := [.int (M_rank (M_from v1.toNatClampNeg).toNatClampNeg), .int (M_rank (M_to v1.toNatClampNeg).toNatClampNeg)]) (rest := [.ref (a 14)]) ⟨hx, hb, hml, hown, hts⟩ (c_M_cell l dC dI a k (M_rank (M_from v1.toNatClampNeg).toNatClampNeg) (M_rank (M_to v1.toNatClampNeg).toNatClampNeg) r113 e_113) (va_cwS 2 hts (og_gS tb_273 tb_274 tb_259 tb_275) rfl rfl rfl (by decide +kernel) ⟨Nat.le_of_ble_eq_true rfl, Nat.le_of_ble_eq_true rfl⟩) hK hP [] [] trivial rfl rfl hl.1 rfl (Nat.le_of_ble_eq_true rfl) d_M_close_113 ⟨Nat.zero_le _, Nat.zero_le _⟩ ?_
            refine lv_iconst (v := 1) hx hb d_M_close_116 (by decide) ?_
            obtain ⟨h_117, hf⟩ := og_ck_s hf
            refine va_iast hx hb hK hP hD hS 8 7 rfl rfl h_117 d_M_close_117 (fun H locs hP hD hS => ?_)
            have hP : va_P (dC, dI) vwCl (wM_close a k M_code M_keys M_edges M_thenKeys M_thenEdges M_configuration M_parts M_rings M_metSize M_from M_to M_bits M_thenGone M_rank (upd M_asks r82.toNatClampNeg (vp_nar .boolean 1)) M_reaches (upd M_steps r113.toNatClampNeg 1)) H := hP
            have hD : va_D A (wM_close a k M_code M_keys M_edges M_thenKeys M_thenEdges M_configuration M_parts M_rings M_metSize M_from M_to M_bits M_thenGone M_rank (upd M_asks r82.toNatClampNeg (vp_nar .boolean 1)) M_reaches (upd M_steps r113.toNatClampNeg 1)) := hD
            refine lv_iinc (v := (v1 + 1)) (lv' := [(1, .int (v1 + 1)), (0, .ref (a 0))]) hx hb d_M_close_118 hl (k := 1) rfl rfl (by decide) rfl (fun ls hl => ?_)
            refine lv_goto (tgt := 33) hx hb d_M_close_121 (by decide) ?_
            exact ih33 (v1 + 1) (upd M_asks r82.toNatClampNeg (vp_nar .boolean 1)) (upd M_steps r113.toNatClampNeg 1) _ _ _ hf hP hD hS (lv_sub hl [1, 0] rfl)
          · have hf := og_t hf c_50
            refine lv_goto (tgt := 118) hx hb d_M_close_53 (by decide) ?_
            refine lv_iinc (v := (v1 + 1)) (lv' := [(1, .int (v1 + 1)), (0, .ref (a 0))]) hx hb d_M_close_118 hl (k := 1) rfl rfl (by decide) rfl (fun ls hl => ?_)
            refine lv_goto (tgt := 33) hx hb d_M_close_121 (by decide) ?_
            exact ih33 (v1 + 1) M_asks M_steps _ _ _ hf hP hD hS (lv_sub hl [1, 0] rfl)
    exact lp33 FU 0 M_asks M_steps _ _ _ hf hP hD hS (lv_sub hl [1, 0] rfl)
  have lp2 : ∀ (n2 : Nat) (v1 : Int32) (M_asks : (Nat → Int32)) (M_steps : (Nat → Int32)) (H : Heap) (locs : List Loc) (ls : Array Slot), fM_close_L2 (fM_close_K2_31 M_from M_to M_bits M_thenKeys M_thenEdges M_configuration M_thenGone M_rank M_reaches) n2 v1 M_asks M_steps = some y → va_P (dC, dI) vwCl (wM_close a k M_code M_keys M_edges M_thenKeys M_thenEdges M_configuration M_parts M_rings M_metSize M_from M_to M_bits M_thenGone M_rank M_asks M_reaches M_steps) H → va_D A (wM_close a k M_code M_keys M_edges M_thenKeys M_thenEdges M_configuration M_parts M_rings M_metSize M_from M_to M_bits M_thenGone M_rank M_asks M_reaches M_steps) → va_S A s.heap H locs → lv_has ls 5 [(0, .ref (a 0)), (1, .int v1)] → W p l e (headSpec ws_M_close { frames := 1, cells := 0, slots := 0, locals := 22 }).room s m ([.ref (a 0)] : List Value).toArray below meth c H locs 0 0 (MQ below (og_Qv (dC, dI) (wM_close a k M_code M_keys M_edges M_thenKeys M_thenEdges M_configuration M_parts M_rings M_metSize M_from M_to M_bits M_thenGone M_rank y.1 y.2.1 y.2.2) (tM_close k) A) ([.ref (a 0)] : List Value).toArray s 0 0 A) (F0 m 2 ls []) := by
    intro n2
    induction n2 with
    | zero => intro v1 M_asks M_steps H locs ls hf hP hD hS hl; rw [fM_close_L2] at hf; cases hf
    | succ n2 ih2 =>
      intro v1 M_asks M_steps H locs ls hf hP hD hS hl
      rw [fM_close_L2] at hf
      refine lv_iload_n hx hb d_M_close_2 rfl (lv_at hl 1 rfl) ?_
      refine lv_sipush (v := 1600) hx hb d_M_close_3 (by decide) ?_
      refine lv_icmp_ge (tgt := 31) hx hb d_M_close_6 (by decide) (fun c_6 => ?_) (fun c_6 => ?_)
      · have hf := og_t hf c_6
        exact k2_31 M_asks M_steps _ _ _ hf hP hD hS (lv_sub hl [0] rfl)
      · have hf := og_f hf c_6
        refine lv_aload_n hx hb d_M_close_9 rfl (lv_at hl 0 rfl) ?_
        refine vg_M_asks (v := .ref (a 12)) hx hb hts hown hK hP 0 rfl (hts _ tb_282) rfl d_M_close_10 ?_
        refine lv_iload_n hx hb d_M_close_13 rfl (lv_at hl 1 rfl) ?_
        refine lv_iconst (v := 0) hx hb d_M_close_14 (by decide) ?_
        obtain ⟨h_15, hf⟩ := og_ck_s hf
        refine va_zast hx hb hK hP hD hS 6 5 rfl rfl h_15 d_M_close_15 (fun H locs hP hD hS => ?_)
        have hP : va_P (dC, dI) vwCl (wM_close a k M_code M_keys M_edges M_thenKeys M_thenEdges M_configuration M_parts M_rings M_metSize M_from M_to M_bits M_thenGone M_rank (upd M_asks v1.toNatClampNeg (vp_nar .boolean 0)) M_reaches M_steps) H := hP
        have hD : va_D A (wM_close a k M_code M_keys M_edges M_thenKeys M_thenEdges M_configuration M_parts M_rings M_metSize M_from M_to M_bits M_thenGone M_rank (upd M_asks v1.toNatClampNeg (vp_nar .boolean 0)) M_reaches M_steps) := hD
        refine lv_aload_n hx hb d_M_close_16 rfl (lv_at hl 0 rfl) ?_
        refine vg_M_steps (v := .ref (a 14)) hx hb hts hown hK hP 0 rfl (hts _ tb_271) rfl d_M_close_17 ?_
        refine lv_iload_n hx hb d_M_close_20 rfl (lv_at hl 1 rfl) ?_
        refine lv_sipush (v := 1000) hx hb d_M_close_21 (by decide) ?_
        obtain ⟨h_24, hf⟩ := og_ck_s hf
        refine va_iast hx hb hK hP hD hS 8 7 rfl rfl h_24 d_M_close_24 (fun H locs hP hD hS => ?_)
        have hP : va_P (dC, dI) vwCl (wM_close a k M_code M_keys M_edges M_thenKeys M_thenEdges M_configuration M_parts M_rings M_metSize M_from M_to M_bits M_thenGone M_rank (upd M_asks v1.toNatClampNeg (vp_nar .boolean 0)) M_reaches (upd M_steps v1.toNatClampNeg 1000)) H := hP
        have hD : va_D A (wM_close a k M_code M_keys M_edges M_thenKeys M_thenEdges M_configuration M_parts M_rings M_metSize M_from M_to M_bits M_thenGone M_rank (upd M_asks v1.toNatClampNeg (vp_nar .boolean 0)) M_reaches (upd M_steps v1.toNatClampNeg 1000)) := hD
        refine lv_iinc (v := (v1 + 1)) (lv' := [(1, .int (v1 + 1)), (0, .ref (a 0))]) hx hb d_M_close_25 hl (k := 1) rfl rfl (by decide) rfl (fun ls hl => ?_)
        refine lv_goto (tgt := 2) hx hb d_M_close_28 (by decide) ?_
        exact ih2 (v1 + 1) (upd M_asks v1.toNatClampNeg (vp_nar .boolean 0)) (upd M_steps v1.toNatClampNeg 1000) _ _ _ hf hP hD hS (lv_sub hl [1, 0] rfl)
  exact lp2 FU 0 M_asks M_steps _ _ _ hf hP hD hS (lv_sub hl [1, 0] rfl)
