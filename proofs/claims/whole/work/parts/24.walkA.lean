def wA_push (a : Nat → Nat) (k : Nat → ClassId) (A_metCount : Int32) (A_openCount : Int32) (A_open : (Nat → Int32)) (A_nextEdge : (Nat → Int32)) (A_wasAsked : (Nat → Int32)) : va_W := [(a 24, .inr (5, [.int A_metCount, .ref (a 25), .int A_openCount, .ref (a 26), .ref (a 27), .ref (a 28)])), (a 26, .inl (k 26, 40, .inl A_open)), (a 27, .inl (k 27, 40, .inl A_nextEdge)), (a 28, .inl (k 28, 40, .inl A_wasAsked))]
def tA_push (k : Nat → ClassId) : List (ClassId × FieldType) := [(k 26, .int), (k 27, .int), (k 28, .boolean)]
set_option maxHeartbeats 4000000 in
set_option maxRecDepth 100000 in
theorem c_A_push (l : Launch) (dC : Nat → ClassId) (dI : Nat → Nat → Nat) (a : Nat → Nat) (k : Nat → ClassId) (sz : Nat) (A_metCount : Int32) (A_openCount : Int32) (A_open : (Nat → Int32)) (A_nextEdge : (Nat → Int32)) (A_wasAsked : (Nat → Int32)) (p1 : Int32) (y : Int32 × (Nat → Int32) × (Nat → Int32) × (Nat → Int32)) (hf : fA_push A_openCount A_open A_nextEdge A_wasAsked p1 = some y) : Met l y_A_push ws_A_push ({ frames := 0, cells := 0, slots := 0, locals := 0 }) (og_Pw [.ref (a 24), .int p1] (dC, dI) (wA_push a k A_metCount A_openCount A_open A_nextEdge A_wasAsked) (tA_push k) sz) (og_Qv (dC, dI) (wA_push a k A_metCount y.1 y.2.1 y.2.2.1 y.2.2.2) (tA_push k) (va_A (wA_push a k A_metCount A_openCount A_open A_nextEdge A_wasAsked) sz)) 0 0 (va_A (wA_push a k A_metCount A_openCount A_open A_nextEdge A_wasAsked) sz) := by
  refine Met.ofW (cc := b_A_push) (maxL := 2) (ret := none) (by decide) rfl ?_
  intro p e s m args below meth c s₁ B hml hv
  obtain ⟨rfl, hsz, hP, hK, hD0⟩ := hv
  have hx := B.exec
  have hb := B.bytes
  have hr := B.returns
  have hts0 := atoms_spec (ws := ws_A_push) B.pre
  have hts : ∀ w ∈ og_tb, w.before _ s = true := fun w h => hts0 w (List.mem_cons_of_mem _ h)
  have hown : s.vm.findClass R_A = some m.cls := findClass_of_methodNamed B.named
  have hlocks := B.notSynchronized
  subst hsz
  have hD := hD0.self (sz := s.heap.size)
  generalize hAe : va_A (wA_push a k A_metCount A_openCount A_open A_nextEdge A_wasAsked) s.heap.size = A at hD ⊢
  have hA : ∀ q : Nat, s.heap.size ≤ q → A q := fun q h => by rw [← hAe]; exact Or.inr h
  have hS : va_S A s.heap s.heap [] := va_S.rf
  have hl := lv_entry ([.ref (a 24), .int p1]) (n := 2) (Nat.le_of_ble_eq_true rfl)
  rw [lg_entry_eq]
  generalize (lg_sl ([.ref (a 24), .int p1]) ++ List.replicate (2 - (lg_sl ([.ref (a 24), .int p1])).length) Slot.unset).toArray = ls at hl ⊢
  have hl : lv_has ls 2 [(0, .ref (a 24)), (1, .int p1)] := hl
  rw [fA_push] at hf
  refine lv_aload_n hx hb d_A_push_0 rfl (lv_at hl 0 rfl) ?_
  refine vg_A_openCount (v := .int A_openCount) hx hb hts hown hK hP 0 rfl (hts _ tb_209) rfl d_A_push_1 ?_
  refine lv_bipush (v := 40) hx hb d_A_push_4 (by decide) ?_
  refine lv_icmp_ge (tgt := 43) hx hb d_A_push_6 (by decide) (fun c_6 => ?_) (fun c_6 => ?_)
  · have hf := og_t hf c_6
    obtain rfl := Option.some.inj hf
    exact W.vret hx hb hr (fun t ht hW => ⟨⟨(), rfl, trivial, by rw [ht]; exact hP, va_K.moved hW.alike hK, hD⟩, hS.F ht⟩) hS.2.2 d_A_push_43
  · have hf := og_f hf c_6
    refine lv_aload_n hx hb d_A_push_9 rfl (lv_at hl 0 rfl) ?_
    refine vg_A_open (v := .ref (a 26)) hx hb hts hown hK hP 0 rfl (hts _ tb_210) rfl d_A_push_10 ?_
    refine lv_aload_n hx hb d_A_push_13 rfl (lv_at hl 0 rfl) ?_
    refine vg_A_openCount (v := .int A_openCount) hx hb hts hown hK hP 0 rfl (hts _ tb_209) rfl d_A_push_14 ?_
    refine lv_iload_n hx hb d_A_push_17 rfl (lv_at hl 1 rfl) ?_
    obtain ⟨h_18, hf⟩ := og_ck_s hf
    refine va_iast hx hb hK hP hD hS 1 0 rfl rfl h_18 d_A_push_18 (fun H locs hP hD hS => ?_)
    have hP : va_P (dC, dI) vwCl (wA_push a k A_metCount A_openCount (upd A_open A_openCount.toNatClampNeg p1) A_nextEdge A_wasAsked) H := hP
    have hD : va_D A (wA_push a k A_metCount A_openCount (upd A_open A_openCount.toNatClampNeg p1) A_nextEdge A_wasAsked) := hD
    refine lv_aload_n hx hb d_A_push_19 rfl (lv_at hl 0 rfl) ?_
    refine lv_dup hx hb d_A_push_20 rfl ?_
    refine vg_A_openCount (v := .int A_openCount) hx hb hts hown hK hP 0 rfl (hts _ tb_209) rfl d_A_push_21 ?_
    refine lv_iconst (v := 1) hx hb d_A_push_24 (by decide) ?_
    refine lv_iadd hx hb d_A_push_25 ?_
    refine vs_A_openCount (v := (A_openCount + 1)) hx hb hts hown hK hP hD hS 0 rfl (hts _ tb_209) (Nat.le_of_ble_eq_true rfl) d_A_push_26 (fun H locs hP hD hS => ?_)
    have hP : va_P (dC, dI) vwCl (wA_push a k A_metCount (A_openCount + 1) (upd A_open A_openCount.toNatClampNeg p1) A_nextEdge A_wasAsked) H := hP
    have hD : va_D A (wA_push a k A_metCount (A_openCount + 1) (upd A_open A_openCount.toNatClampNeg p1) A_nextEdge A_wasAsked) := hD
    refine lv_aload_n hx hb d_A_push_29 rfl (lv_at hl 0 rfl) ?_
    refine vg_A_wasAsked (v := .ref (a 28)) hx hb hts hown hK hP 0 rfl (hts _ tb_211) rfl d_A_push_30 ?_
    refine lv_iload_n hx hb d_A_push_33 rfl (lv_at hl 1 rfl) ?_
    refine lv_iconst (v := 1) hx hb d_A_push_34 (by decide) ?_
    obtain ⟨h_35, hf⟩ := og_ck_s hf
    refine va_zast hx hb hK hP hD hS 3 2 rfl rfl h_35 d_A_push_35 (fun H locs hP hD hS => ?_)
    have hP : va_P (dC, dI) vwCl (wA_push a k A_metCount (A_openCount + 1) (upd A_open A_openCount.toNatClampNeg p1) A_nextEdge (upd A_wasAsked p1.toNatClampNeg (vp_nar .boolean 1))) H := hP
    have hD : va_D A (wA_push a k A_metCount (A_openCount + 1) (upd A_open A_openCount.toNatClampNeg p1) A_nextEdge (upd A_wasAsked p1.toNatClampNeg (vp_nar .boolean 1))) := hD
    refine lv_aload_n hx hb d_A_push_36 rfl (lv_at hl 0 rfl) ?_
    refine vg_A_nextEdge (v := .ref (a 27)) hx hb hts hown hK hP 0 rfl (hts _ tb_212) rfl d_A_push_37 ?_
    refine lv_iload_n hx hb d_A_push_40 rfl (lv_at hl 1 rfl) ?_
    refine lv_iconst (v := 0) hx hb d_A_push_41 (by decide) ?_
    obtain ⟨h_42, hf⟩ := og_ck_s hf
    refine va_iast hx hb hK hP hD hS 2 1 rfl rfl h_42 d_A_push_42 (fun H locs hP hD hS => ?_)
    have hP : va_P (dC, dI) vwCl (wA_push a k A_metCount (A_openCount + 1) (upd A_open A_openCount.toNatClampNeg p1) (upd A_nextEdge p1.toNatClampNeg 0) (upd A_wasAsked p1.toNatClampNeg (vp_nar .boolean 1))) H := hP
    have hD : va_D A (wA_push a k A_metCount (A_openCount + 1) (upd A_open A_openCount.toNatClampNeg p1) (upd A_nextEdge p1.toNatClampNeg 0) (upd A_wasAsked p1.toNatClampNeg (vp_nar .boolean 1))) := hD
    obtain rfl := Option.some.inj hf
    exact W.vret hx hb hr (fun t ht hW => ⟨⟨(), rfl, trivial, by rw [ht]; exact hP, va_K.moved hW.alike hK, hD⟩, hS.F ht⟩) hS.2.2 d_A_push_43
def wA_begin (a : Nat → Nat) (k : Nat → ClassId) (A_metCount : Int32) (A_openCount : Int32) (A_open : (Nat → Int32)) (A_nextEdge : (Nat → Int32)) (A_wasAsked : (Nat → Int32)) : va_W := [(a 24, .inr (5, [.int A_metCount, .ref (a 25), .int A_openCount, .ref (a 26), .ref (a 27), .ref (a 28)])), (a 26, .inl (k 26, 40, .inl A_open)), (a 27, .inl (k 27, 40, .inl A_nextEdge)), (a 28, .inl (k 28, 40, .inl A_wasAsked))]
def tA_begin (k : Nat → ClassId) : List (ClassId × FieldType) := [(k 26, .int), (k 27, .int), (k 28, .boolean)]
set_option maxHeartbeats 4000000 in
set_option maxRecDepth 100000 in
theorem c_A_begin (l : Launch) (dC : Nat → ClassId) (dI : Nat → Nat → Nat) (a : Nat → Nat) (k : Nat → ClassId) (sz : Nat) (A_metCount : Int32) (A_openCount : Int32) (A_open : (Nat → Int32)) (A_nextEdge : (Nat → Int32)) (A_wasAsked : (Nat → Int32)) (p1 : Int32) (p2 : Int32) (y : Int32 × Int32 × (Nat → Int32) × (Nat → Int32) × (Nat → Int32)) (hf : fA_begin A_metCount A_openCount A_open A_nextEdge A_wasAsked p1 p2 = some y) : Met l y_A_begin ws_A_begin ({ frames := 1, cells := 0, slots := 0, locals := 21 }) (og_Pw [.ref (a 24), .int p1, .int p2] (dC, dI) (wA_begin a k A_metCount A_openCount A_open A_nextEdge A_wasAsked) (tA_begin k) sz) (og_Qv (dC, dI) (wA_begin a k y.1 y.2.1 y.2.2.1 y.2.2.2.1 y.2.2.2.2) (tA_begin k) (va_A (wA_begin a k A_metCount A_openCount A_open A_nextEdge A_wasAsked) sz)) 0 0 (va_A (wA_begin a k A_metCount A_openCount A_open A_nextEdge A_wasAsked) sz) := by
  refine Met.ofW (cc := b_A_begin) (maxL := 4) (ret := none) (by decide) rfl ?_
  intro p e s m args below meth c s₁ B hml hv
  obtain ⟨rfl, hsz, hP, hK, hD0⟩ := hv
  have hx := B.exec
  have hb := B.bytes
  have hr := B.returns
  have hts0 := atoms_spec (ws := ws_A_begin) B.pre
  have hts : ∀ w ∈ og_tb, w.before _ s = true := fun w h => hts0 w (List.mem_cons_of_mem _ h)
  have hown : s.vm.findClass R_A = some m.cls := findClass_of_methodNamed B.named
  have hlocks := B.notSynchronized
  subst hsz
  have hD := hD0.self (sz := s.heap.size)
  generalize hAe : va_A (wA_begin a k A_metCount A_openCount A_open A_nextEdge A_wasAsked) s.heap.size = A at hD ⊢
  have hA : ∀ q : Nat, s.heap.size ≤ q → A q := fun q h => by rw [← hAe]; exact Or.inr h
  have hS : va_S A s.heap s.heap [] := va_S.rf
  have hl := lv_entry ([.ref (a 24), .int p1, .int p2]) (n := 4) (Nat.le_of_ble_eq_true rfl)
  rw [lg_entry_eq]
  generalize (lg_sl ([.ref (a 24), .int p1, .int p2]) ++ List.replicate (4 - (lg_sl ([.ref (a 24), .int p1, .int p2])).length) Slot.unset).toArray = ls at hl ⊢
  have hl : lv_has ls 4 [(0, .ref (a 24)), (1, .int p1), (2, .int p2)] := hl
  rw [fA_begin] at hf
  refine lv_iconst (v := 0) hx hb d_A_begin_0 (by decide) ?_
  refine lv_istore_n (lv' := [(3, .int 0), (0, .ref (a 24)), (1, .int p1), (2, .int p2)]) hx hb d_A_begin_1 rfl hl (by decide) rfl (fun ls hl => ?_)
  have k2_20 : ∀ (A_wasAsked : (Nat → Int32)) (H : Heap) (locs : List Loc) (ls : Array Slot), fA_begin_K2_20 A_open A_nextEdge p1 A_wasAsked = some y → va_P (dC, dI) vwCl (wA_begin a k A_metCount A_openCount A_open A_nextEdge A_wasAsked) H → va_D A (wA_begin a k A_metCount A_openCount A_open A_nextEdge A_wasAsked) → va_S A s.heap H locs → lv_has ls 4 [(0, .ref (a 24)), (1, .int p1)] → W p l e (headSpec ws_A_begin { frames := 1, cells := 0, slots := 0, locals := 21 }).room s m ([.ref (a 24), .int p1, .int p2] : List Value).toArray below meth c H locs 0 0 (MQ below (og_Qv (dC, dI) (wA_begin a k y.1 y.2.1 y.2.2.1 y.2.2.2.1 y.2.2.2.2) (tA_begin k) A) ([.ref (a 24), .int p1, .int p2] : List Value).toArray s 0 0 A) (F0 m 20 ls []) := by
    intro A_wasAsked H locs ls hf hP hD hS hl
    rw [fA_begin_K2_20] at hf
    refine lv_aload_n hx hb d_A_begin_20 rfl (lv_at hl 0 rfl) ?_
    refine lv_iconst (v := 0) hx hb d_A_begin_21 (by decide) ?_
    refine vs_A_metCount (v := 0) hx hb hts hown hK hP hD hS 0 rfl (hts _ tb_213) (Nat.le_of_ble_eq_true rfl) d_A_begin_22 (fun H locs hP hD hS => ?_)
    have hP : va_P (dC, dI) vwCl (wA_begin a k 0 A_openCount A_open A_nextEdge A_wasAsked) H := hP
    have hD : va_D A (wA_begin a k 0 A_openCount A_open A_nextEdge A_wasAsked) := hD
    refine lv_aload_n hx hb d_A_begin_25 rfl (lv_at hl 0 rfl) ?_
    refine lv_iconst (v := 0) hx hb d_A_begin_26 (by decide) ?_
    refine vs_A_openCount (v := 0) hx hb hts hown hK hP hD hS 0 rfl (hts _ tb_209) (Nat.le_of_ble_eq_true rfl) d_A_begin_27 (fun H locs hP hD hS => ?_)
    have hP : va_P (dC, dI) vwCl (wA_begin a k 0 0 A_open A_nextEdge A_wasAsked) H := hP
    have hD : va_D A (wA_begin a k 0 0 A_open A_nextEdge A_wasAsked) := hD
    refine lv_aload_n hx hb d_A_begin_30 rfl (lv_at hl 0 rfl) ?_
    refine lv_iload_n hx hb d_A_begin_31 rfl (lv_at hl 1 rfl) ?_
    obtain ⟨r32, e_32, hf⟩ := og_b hf
    refine og_wVv (w := (wA_begin a k 0 0 A_open A_nextEdge A_wasAsked)) (w2 := (wA_begin a k 0 r32.1 r32.2.1 r32.2.2.1 r32.2.2.2)) (As := [.int p1]) (rest := []) (ci := 5) (q0 := 0) ⟨hx, hb, hml, hown, hts⟩ (c_A_push l dC dI a k _ 0 0 A_open A_nextEdge A_wasAsked p1 r32 e_32) (cwV 1 hts (og_gV tb_214 tb_215 tb_216 tb_217 tb_218) rfl rfl rfl (by decide +kernel) ⟨Nat.le_of_ble_eq_true rfl, Nat.le_of_ble_eq_true rfl⟩) hK hP hD hS hA [0, 1, 2, 3] [0, 1, 2] ⟨rfl, rfl, rfl, rfl, trivial⟩ rfl [(true, 0), (true, 1), (true, 2), (true, 3)] ⟨rfl, rfl, rfl, rfl, trivial⟩ ⟨rfl, rfl, rfl, rfl, trivial⟩ (by decide) rfl rfl rfl rfl hl.1 rfl (Nat.le_of_ble_eq_true rfl) d_A_begin_32 ⟨Nat.zero_le _, Nat.zero_le _⟩ (fun H locs hP hD hS => ?_)
    obtain rfl := Option.some.inj hf
    exact W.vret hx hb hr (fun t ht hW => ⟨⟨(), rfl, trivial, by rw [ht]; exact hP, va_K.moved hW.alike hK, hD⟩, hS.F ht⟩) hS.2.2 d_A_begin_35
  have lp2 : ∀ (n2 : Nat) (v3 : Int32) (A_wasAsked : (Nat → Int32)) (H : Heap) (locs : List Loc) (ls : Array Slot), fA_begin_L2 (fA_begin_K2_20 A_open A_nextEdge p1) p2 n2 v3 A_wasAsked = some y → va_P (dC, dI) vwCl (wA_begin a k A_metCount A_openCount A_open A_nextEdge A_wasAsked) H → va_D A (wA_begin a k A_metCount A_openCount A_open A_nextEdge A_wasAsked) → va_S A s.heap H locs → lv_has ls 4 [(0, .ref (a 24)), (1, .int p1), (2, .int p2), (3, .int v3)] → W p l e (headSpec ws_A_begin { frames := 1, cells := 0, slots := 0, locals := 21 }).room s m ([.ref (a 24), .int p1, .int p2] : List Value).toArray below meth c H locs 0 0 (MQ below (og_Qv (dC, dI) (wA_begin a k y.1 y.2.1 y.2.2.1 y.2.2.2.1 y.2.2.2.2) (tA_begin k) A) ([.ref (a 24), .int p1, .int p2] : List Value).toArray s 0 0 A) (F0 m 2 ls []) := by
    intro n2
    induction n2 with
    | zero => intro v3 A_wasAsked H locs ls hf hP hD hS hl; rw [fA_begin_L2] at hf; cases hf
    | succ n2 ih2 =>
      intro v3 A_wasAsked H locs ls hf hP hD hS hl
      rw [fA_begin_L2] at hf
      refine lv_iload_n hx hb d_A_begin_2 rfl (lv_at hl 3 rfl) ?_
      refine lv_iload_n hx hb d_A_begin_3 rfl (lv_at hl 2 rfl) ?_
      refine lv_icmp_ge (tgt := 20) hx hb d_A_begin_4 (by decide) (fun c_4 => ?_) (fun c_4 => ?_)
      · have hf := og_t hf c_4
        exact k2_20 A_wasAsked _ _ _ hf hP hD hS (lv_sub hl [0, 1] rfl)
      · have hf := og_f hf c_4
        refine lv_aload_n hx hb d_A_begin_7 rfl (lv_at hl 0 rfl) ?_
        refine vg_A_wasAsked (v := .ref (a 28)) hx hb hts hown hK hP 0 rfl (hts _ tb_211) rfl d_A_begin_8 ?_
        refine lv_iload_n hx hb d_A_begin_11 rfl (lv_at hl 3 rfl) ?_
        refine lv_iconst (v := 0) hx hb d_A_begin_12 (by decide) ?_
        obtain ⟨h_13, hf⟩ := og_ck_s hf
        refine va_zast hx hb hK hP hD hS 3 2 rfl rfl h_13 d_A_begin_13 (fun H locs hP hD hS => ?_)
        have hP : va_P (dC, dI) vwCl (wA_begin a k A_metCount A_openCount A_open A_nextEdge (upd A_wasAsked v3.toNatClampNeg (vp_nar .boolean 0))) H := hP
        have hD : va_D A (wA_begin a k A_metCount A_openCount A_open A_nextEdge (upd A_wasAsked v3.toNatClampNeg (vp_nar .boolean 0))) := hD
        refine lv_iinc (v := (v3 + 1)) (lv' := [(3, .int (v3 + 1)), (0, .ref (a 24)), (1, .int p1), (2, .int p2)]) hx hb d_A_begin_14 hl (k := 3) rfl rfl (by decide) rfl (fun ls hl => ?_)
        refine lv_goto (tgt := 2) hx hb d_A_begin_17 (by decide) ?_
        exact ih2 (v3 + 1) (upd A_wasAsked v3.toNatClampNeg (vp_nar .boolean 0)) _ _ _ hf hP hD hS (lv_sub hl [1, 2, 3, 0] rfl)
  exact lp2 FU 0 A_wasAsked _ _ _ hf hP hD hS (lv_sub hl [1, 2, 3, 0] rfl)
def wA_openAt (a : Nat → Nat) (k : Nat → ClassId) (A_metCount : Int32) (A_openCount : Int32) (A_open : (Nat → Int32)) : va_W := [(a 24, .inr (5, [.int A_metCount, .ref (a 25), .int A_openCount, .ref (a 26), .ref (a 27), .ref (a 28)])), (a 26, .inl (k 26, 40, .inl A_open))]
def tA_openAt (k : Nat → ClassId) : List (ClassId × FieldType) := [(k 26, .int)]
set_option maxHeartbeats 4000000 in
set_option maxRecDepth 100000 in
theorem c_A_openAt (l : Launch) (dC : Nat → ClassId) (dI : Nat → Nat → Nat) (a : Nat → Nat) (k : Nat → ClassId) (A_metCount : Int32) (A_openCount : Int32) (A_open : (Nat → Int32)) (p1 : Int32) (y : Int32) (hf : fA_openAt A_openCount A_open p1 = some y) : Met l y_A_openAt ws_A_openAt ({ frames := 0, cells := 0, slots := 0, locals := 0 }) (og_Pr [.ref (a 24), .int p1] (dC, dI) (wA_openAt a k A_metCount A_openCount A_open) (tA_openAt k)) (vp_Si (fun x => x = y)) 0 0 (fun _ => False) := by
  refine Met.ofW (cc := b_A_openAt) (maxL := 3) (ret := (some .int)) (by decide) rfl ?_
  intro p e s m args below meth c s₁ B hml hv
  obtain ⟨rfl, hP, hK⟩ := hv
  have hx := B.exec
  have hb := B.bytes
  have hr := B.returns
  have hts0 := atoms_spec (ws := ws_A_openAt) B.pre
  have hts : ∀ w ∈ og_tb, w.before _ s = true := fun w h => hts0 w (List.mem_cons_of_mem _ h)
  have hown : s.vm.findClass R_A = some m.cls := findClass_of_methodNamed B.named
  have hlocks := B.notSynchronized
  have hl := lv_entry ([.ref (a 24), .int p1]) (n := 3) (Nat.le_of_ble_eq_true rfl)
  rw [lg_entry_eq]
  generalize (lg_sl ([.ref (a 24), .int p1]) ++ List.replicate (3 - (lg_sl ([.ref (a 24), .int p1])).length) Slot.unset).toArray = ls at hl ⊢
  have hl : lv_has ls 3 [(0, .ref (a 24)), (1, .int p1)] := hl
  rw [fA_openAt] at hf
  refine lv_iconst (v := 0) hx hb d_A_openAt_0 (by decide) ?_
  refine lv_istore_n (lv' := [(2, .int 0), (0, .ref (a 24)), (1, .int p1)]) hx hb d_A_openAt_1 rfl hl (by decide) rfl (fun ls hl => ?_)
  have k2_28 : ∀ (ls : Array Slot), fA_openAt_K2_28 = some y → lv_has ls 3 [] → W p l e (headSpec ws_A_openAt { frames := 0, cells := 0, slots := 0, locals := 0 }).room s m ([.ref (a 24), .int p1] : List Value).toArray below meth c s.heap [] 0 0 (MQ below (vp_Si (fun x => x = y)) ([.ref (a 24), .int p1] : List Value).toArray s 0 0 (fun _ => False)) (F0 m 28 ls []) := by
    intro  ls hf hl
    rw [fA_openAt_K2_28] at hf
    refine lv_iconst (v := (-1)) hx hb d_A_openAt_28 (by decide) ?_
    obtain rfl := Option.some.inj hf
    exact W.iret (v := (-1)) hx hb hr (fun t ht hW => ⟨(-1), rfl, rfl, ht⟩) (fun _ h => absurd h List.not_mem_nil) d_A_openAt_29
  have lp2 : ∀ (n2 : Nat) (v2 : Int32) (ls : Array Slot), fA_openAt_L2 fA_openAt_K2_28 A_openCount A_open p1 n2 v2 = some y → lv_has ls 3 [(0, .ref (a 24)), (1, .int p1), (2, .int v2)] → W p l e (headSpec ws_A_openAt { frames := 0, cells := 0, slots := 0, locals := 0 }).room s m ([.ref (a 24), .int p1] : List Value).toArray below meth c s.heap [] 0 0 (MQ below (vp_Si (fun x => x = y)) ([.ref (a 24), .int p1] : List Value).toArray s 0 0 (fun _ => False)) (F0 m 2 ls []) := by
    intro n2
    induction n2 with
    | zero => intro v2 ls hf hl; rw [fA_openAt_L2] at hf; cases hf
    | succ n2 ih2 =>
      intro v2 ls hf hl
      rw [fA_openAt_L2] at hf
      refine lv_iload_n hx hb d_A_openAt_2 rfl (lv_at hl 2 rfl) ?_
      refine lv_aload_n hx hb d_A_openAt_3 rfl (lv_at hl 0 rfl) ?_
      refine vg_A_openCount (v := .int A_openCount) hx hb hts hown hK hP 0 rfl (hts _ tb_209) rfl d_A_openAt_4 ?_
      refine lv_icmp_ge (tgt := 28) hx hb d_A_openAt_7 (by decide) (fun c_7 => ?_) (fun c_7 => ?_)
      · have hf := og_t hf c_7
        exact k2_28  _ hf (lv_sub hl [] rfl)
      · have hf := og_f hf c_7
        refine lv_aload_n hx hb d_A_openAt_10 rfl (lv_at hl 0 rfl) ?_
        refine vg_A_open (v := .ref (a 26)) hx hb hts hown hK hP 0 rfl (hts _ tb_210) rfl d_A_openAt_11 ?_
        refine lv_iload_n hx hb d_A_openAt_14 rfl (lv_at hl 2 rfl) ?_
        obtain ⟨h_15, hf⟩ := og_ck_s hf
        refine va_iald hx hb hK hP 1 0 rfl rfl h_15 d_A_openAt_15 ?_
        refine lv_iload_n hx hb d_A_openAt_16 rfl (lv_at hl 1 rfl) ?_
        refine lv_icmp_ne (tgt := 22) hx hb d_A_openAt_17 (by decide) (fun c_17 => ?_) (fun c_17 => ?_)
        · have hf := og_f hf c_17
          refine lv_iinc (v := (v2 + 1)) (lv' := [(2, .int (v2 + 1)), (0, .ref (a 24)), (1, .int p1)]) hx hb d_A_openAt_22 hl (k := 2) rfl rfl (by decide) rfl (fun ls hl => ?_)
          refine lv_goto (tgt := 2) hx hb d_A_openAt_25 (by decide) ?_
          exact ih2 (v2 + 1) _ hf (lv_sub hl [1, 2, 0] rfl)
        · have hf := og_t hf c_17
          refine lv_iload_n hx hb d_A_openAt_20 rfl (lv_at hl 2 rfl) ?_
          obtain rfl := Option.some.inj hf
          exact W.iret (v := v2) hx hb hr (fun t ht hW => ⟨v2, rfl, rfl, ht⟩) (fun _ h => absurd h List.not_mem_nil) d_A_openAt_21
  exact lp2 FU 0 _ hf (lv_sub hl [1, 2, 0] rfl)
def wA_nextTarget (a : Nat → Nat) (k : Nat → ClassId) (E_count : Int32) (E_from : (Nat → Int32)) (E_to : (Nat → Int32)) (E_configurations : (Nat → Int32)) (E_gone : (Nat → Int32)) (A_metCount : Int32) (A_openCount : Int32) (A_open : (Nat → Int32)) (A_nextEdge : (Nat → Int32)) (A_wasAsked : (Nat → Int32)) : va_W := [(a 5, .inr (2, [.int E_count, .ref (a 6), .ref (a 7), .ref (a 8), .ref (a 9), .ref (a 10)])), (a 6, .inl (k 6, 160, .inl E_from)), (a 7, .inl (k 7, 160, .inl E_to)), (a 9, .inl (k 9, 160, .inl E_configurations)), (a 10, .inl (k 10, 160, .inl E_gone)), (a 24, .inr (5, [.int A_metCount, .ref (a 25), .int A_openCount, .ref (a 26), .ref (a 27), .ref (a 28)])), (a 26, .inl (k 26, 40, .inl A_open)), (a 27, .inl (k 27, 40, .inl A_nextEdge)), (a 28, .inl (k 28, 40, .inl A_wasAsked))]
def tA_nextTarget (k : Nat → ClassId) : List (ClassId × FieldType) := [(k 6, .int), (k 7, .int), (k 9, .int), (k 10, .boolean), (k 26, .int), (k 27, .int), (k 28, .boolean)]
set_option maxHeartbeats 4000000 in
set_option maxRecDepth 100000 in
theorem c_A_nextTarget (l : Launch) (dC : Nat → ClassId) (dI : Nat → Nat → Nat) (a : Nat → Nat) (k : Nat → ClassId) (sz : Nat) (E_count : Int32) (E_from : (Nat → Int32)) (E_to : (Nat → Int32)) (E_configurations : (Nat → Int32)) (E_gone : (Nat → Int32)) (A_metCount : Int32) (A_openCount : Int32) (A_open : (Nat → Int32)) (A_nextEdge : (Nat → Int32)) (A_wasAsked : (Nat → Int32)) (p1 : Int32) (p3 : Int32) (y : Int32 × (Nat → Int32)) (hf : fA_nextTarget E_count E_from E_to E_configurations E_gone A_openCount A_open A_nextEdge A_wasAsked p1 p3 = some y) : Met l y_A_nextTarget ws_A_nextTarget ({ frames := 2, cells := 0, slots := 0, locals := 43 }) (og_Pw [.ref (a 24), .int p1, .ref (a 5), .int p3] (dC, dI) (wA_nextTarget a k E_count E_from E_to E_configurations E_gone A_metCount A_openCount A_open A_nextEdge A_wasAsked) (tA_nextTarget k) sz) (og_Qi (dC, dI) (wA_nextTarget a k E_count E_from E_to E_configurations E_gone A_metCount A_openCount A_open y.2 A_wasAsked) (tA_nextTarget k) y.1 (va_A (wA_nextTarget a k E_count E_from E_to E_configurations E_gone A_metCount A_openCount A_open A_nextEdge A_wasAsked) sz)) 0 0 (va_A (wA_nextTarget a k E_count E_from E_to E_configurations E_gone A_metCount A_openCount A_open A_nextEdge A_wasAsked) sz) := by
  refine Met.ofW (cc := b_A_nextTarget) (maxL := 6) (ret := (some .int)) (by decide) rfl ?_
  intro p e s m args below meth c s₁ B hml hv
  obtain ⟨rfl, hsz, hP, hK, hD0⟩ := hv
  have hx := B.exec
  have hb := B.bytes
  have hr := B.returns
  have hts0 := atoms_spec (ws := ws_A_nextTarget) B.pre
  have hts : ∀ w ∈ og_tb, w.before _ s = true := fun w h => hts0 w (List.mem_cons_of_mem _ h)
  have hown : s.vm.findClass R_A = some m.cls := findClass_of_methodNamed B.named
  have hlocks := B.notSynchronized
  subst hsz
  have hD := hD0.self (sz := s.heap.size)
  generalize hAe : va_A (wA_nextTarget a k E_count E_from E_to E_configurations E_gone A_metCount A_openCount A_open A_nextEdge A_wasAsked) s.heap.size = A at hD ⊢
  have hA : ∀ q : Nat, s.heap.size ≤ q → A q := fun q h => by rw [← hAe]; exact Or.inr h
  have hS : va_S A s.heap s.heap [] := va_S.rf
  have hl := lv_entry ([.ref (a 24), .int p1, .ref (a 5), .int p3]) (n := 6) (Nat.le_of_ble_eq_true rfl)
  rw [lg_entry_eq]
  generalize (lg_sl ([.ref (a 24), .int p1, .ref (a 5), .int p3]) ++ List.replicate (6 - (lg_sl ([.ref (a 24), .int p1, .ref (a 5), .int p3])).length) Slot.unset).toArray = ls at hl ⊢
  have hl : lv_has ls 6 [(0, .ref (a 24)), (1, .int p1), (2, .ref (a 5)), (3, .int p3)] := hl
  rw [fA_nextTarget] at hf
  refine lv_aload_n hx hb d_A_nextTarget_0 rfl (lv_at hl 0 rfl) ?_
  refine vg_A_nextEdge (v := .ref (a 27)) hx hb hts hown hK hP 5 rfl (hts _ tb_212) rfl d_A_nextTarget_1 ?_
  refine lv_iload_n hx hb d_A_nextTarget_4 rfl (lv_at hl 1 rfl) ?_
  obtain ⟨h_5, hf⟩ := og_ck_s hf
  refine va_iald hx hb hK hP 7 5 rfl rfl h_5 d_A_nextTarget_5 ?_
  refine lv_istore (lv' := [(4, .int (A_nextEdge p1.toNatClampNeg)), (0, .ref (a 24)), (1, .int p1), (2, .ref (a 5)), (3, .int p3)]) hx hb d_A_nextTarget_6 hl (by decide) rfl (fun ls hl => ?_)
  have k8_86 : ∀ (A_nextEdge : (Nat → Int32)) (H : Heap) (locs : List Loc) (ls : Array Slot), fA_nextTarget_K8_86 A_nextEdge = some y → va_P (dC, dI) vwCl (wA_nextTarget a k E_count E_from E_to E_configurations E_gone A_metCount A_openCount A_open A_nextEdge A_wasAsked) H → va_D A (wA_nextTarget a k E_count E_from E_to E_configurations E_gone A_metCount A_openCount A_open A_nextEdge A_wasAsked) → va_S A s.heap H locs → lv_has ls 6 [] → W p l e (headSpec ws_A_nextTarget { frames := 2, cells := 0, slots := 0, locals := 43 }).room s m ([.ref (a 24), .int p1, .ref (a 5), .int p3] : List Value).toArray below meth c H locs 0 0 (MQ below (og_Qi (dC, dI) (wA_nextTarget a k E_count E_from E_to E_configurations E_gone A_metCount A_openCount A_open y.2 A_wasAsked) (tA_nextTarget k) y.1 A) ([.ref (a 24), .int p1, .ref (a 5), .int p3] : List Value).toArray s 0 0 A) (F0 m 86 ls []) := by
    intro A_nextEdge H locs ls hf hP hD hS hl
    rw [fA_nextTarget_K8_86] at hf
    refine lv_iconst (v := (-1)) hx hb d_A_nextTarget_86 (by decide) ?_
    obtain rfl := Option.some.inj hf
    exact W.iret (v := (-1)) hx hb hr (fun t ht hW => ⟨⟨(-1), (), rfl, rfl, by rw [ht]; exact hP, va_K.moved hW.alike hK, hD⟩, hS.F ht⟩) hS.2.2 d_A_nextTarget_87
  have lp8 : ∀ (n8 : Nat) (v4 : Int32) (A_nextEdge : (Nat → Int32)) (H : Heap) (locs : List Loc) (ls : Array Slot), fA_nextTarget_L8 fA_nextTarget_K8_86 E_count E_from E_to E_configurations E_gone A_openCount A_open A_wasAsked p1 p3 n8 v4 A_nextEdge = some y → va_P (dC, dI) vwCl (wA_nextTarget a k E_count E_from E_to E_configurations E_gone A_metCount A_openCount A_open A_nextEdge A_wasAsked) H → va_D A (wA_nextTarget a k E_count E_from E_to E_configurations E_gone A_metCount A_openCount A_open A_nextEdge A_wasAsked) → va_S A s.heap H locs → lv_has ls 6 [(0, .ref (a 24)), (1, .int p1), (2, .ref (a 5)), (3, .int p3), (4, .int v4)] → W p l e (headSpec ws_A_nextTarget { frames := 2, cells := 0, slots := 0, locals := 43 }).room s m ([.ref (a 24), .int p1, .ref (a 5), .int p3] : List Value).toArray below meth c H locs 0 0 (MQ below (og_Qi (dC, dI) (wA_nextTarget a k E_count E_from E_to E_configurations E_gone A_metCount A_openCount A_open y.2 A_wasAsked) (tA_nextTarget k) y.1 A) ([.ref (a 24), .int p1, .ref (a 5), .int p3] : List Value).toArray s 0 0 A) (F0 m 8 ls []) := by
    intro n8
    induction n8 with
    | zero => intro v4 A_nextEdge H locs ls hf hP hD hS hl; rw [fA_nextTarget_L8] at hf; cases hf
    | succ n8 ih8 =>
      intro v4 A_nextEdge H locs ls hf hP hD hS hl
      rw [fA_nextTarget_L8] at hf
      refine lv_iload hx hb d_A_nextTarget_8 (lv_at hl 4 rfl) ?_
      refine lv_aload_n hx hb d_A_nextTarget_10 rfl (lv_at hl 2 rfl) ?_
      refine vg_E_count (v := .int E_count) hx hb hts hown hK hP 0 rfl (hts _ tb_219) rfl d_A_nextTarget_11 ?_
      refine lv_icmp_ge (tgt := 86) hx hb d_A_nextTarget_14 (by decide) (fun c_14 => ?_) (fun c_14 => ?_)
      · have hf := og_t hf c_14
        exact k8_86 A_nextEdge _ _ _ hf hP hD hS (lv_sub hl [] rfl)
      · have hf := og_f hf c_14
        refine lv_aload_n hx hb d_A_nextTarget_17 rfl (lv_at hl 2 rfl) ?_
        refine vg_E_from (v := .ref (a 6)) hx hb hts hown hK hP 0 rfl (hts _ tb_220) rfl d_A_nextTarget_18 ?_
        refine lv_iload hx hb d_A_nextTarget_21 (lv_at hl 4 rfl) ?_
        obtain ⟨h_23, hf⟩ := og_ck_s hf
        refine va_iald hx hb hK hP 1 0 rfl rfl h_23 d_A_nextTarget_23 ?_
        refine lv_iload_n hx hb d_A_nextTarget_24 rfl (lv_at hl 1 rfl) ?_
        refine lv_icmp_ne (tgt := 80) hx hb d_A_nextTarget_25 (by decide) (fun c_25 => ?_) (fun c_25 => ?_)
        · have hf := og_f hf c_25
          refine lv_iinc (v := (v4 + 1)) (lv' := [(4, .int (v4 + 1)), (0, .ref (a 24)), (1, .int p1), (2, .ref (a 5)), (3, .int p3)]) hx hb d_A_nextTarget_80 hl (k := 4) rfl rfl (by decide) rfl (fun ls hl => ?_)
          refine lv_goto (tgt := 8) hx hb d_A_nextTarget_83 (by decide) ?_
          exact ih8 (v4 + 1) A_nextEdge _ _ _ hf hP hD hS (lv_sub hl [1, 2, 3, 4, 0] rfl)
        · have hf := og_t hf c_25
          refine lv_aload_n hx hb d_A_nextTarget_28 rfl (lv_at hl 2 rfl) ?_
          refine lv_iload hx hb d_A_nextTarget_29 (lv_at hl 4 rfl) ?_
          refine lv_iload_n hx hb d_A_nextTarget_31 rfl (lv_at hl 3 rfl) ?_
          obtain ⟨r32, e_32, hf⟩ := og_b hf
          refine og_rV (w := (wA_nextTarget a k E_count E_from E_to E_configurations E_gone A_metCount A_openCount A_open A_nextEdge A_wasAsked)) (As := [.int v4, .int p3]) (rest := []) (ci := 2) (q0 := 0) ⟨hx, hb, hml, hown, hts⟩ (c_E_isIn l dC dI a k E_count E_configurations E_gone v4 p3 r32 e_32) (cwV 2 hts (og_gV tb_221 tb_81 tb_82 tb_31 tb_83) rfl rfl rfl (by decide +kernel) ⟨Nat.le_of_ble_eq_true rfl, Nat.le_of_ble_eq_true rfl⟩) hK hP [0, 3, 4] [2, 3] ⟨rfl, rfl, rfl, trivial⟩ rfl rfl rfl rfl rfl hl.1 rfl (Nat.le_of_ble_eq_true rfl) d_A_nextTarget_32 ⟨Nat.zero_le _, Nat.zero_le _⟩ ?_
          refine lv_if_eq (tgt := 80) hx hb d_A_nextTarget_35 (by decide) (fun c_35 => ?_) (fun c_35 => ?_)
          · have hf := og_t hf c_35
            refine lv_iinc (v := (v4 + 1)) (lv' := [(4, .int (v4 + 1)), (0, .ref (a 24)), (1, .int p1), (2, .ref (a 5)), (3, .int p3)]) hx hb d_A_nextTarget_80 hl (k := 4) rfl rfl (by decide) rfl (fun ls hl => ?_)
            refine lv_goto (tgt := 8) hx hb d_A_nextTarget_83 (by decide) ?_
            exact ih8 (v4 + 1) A_nextEdge _ _ _ hf hP hD hS (lv_sub hl [1, 2, 3, 4, 0] rfl)
          · have hf := og_f hf c_35
            refine lv_aload_n hx hb d_A_nextTarget_38 rfl (lv_at hl 2 rfl) ?_
            refine vg_E_to (v := .ref (a 7)) hx hb hts hown hK hP 0 rfl (hts _ tb_222) rfl d_A_nextTarget_39 ?_
            refine lv_iload hx hb d_A_nextTarget_42 (lv_at hl 4 rfl) ?_
            obtain ⟨h_44, hf⟩ := og_ck_s hf
            refine va_iald hx hb hK hP 2 1 rfl rfl h_44 d_A_nextTarget_44 ?_
            refine lv_istore (lv' := [(5, .int (E_to v4.toNatClampNeg)), (0, .ref (a 24)), (1, .int p1), (2, .ref (a 5)), (3, .int p3), (4, .int v4)]) hx hb d_A_nextTarget_45 hl (by decide) rfl (fun ls hl => ?_)
            refine lv_aload_n hx hb d_A_nextTarget_47 rfl (lv_at hl 1 rfl) ?_
            refine vg_A_wasAsked (v := .ref (a 28)) hx hb hts hown hK hP 5 rfl (hts _ tb_211) rfl d_A_nextTarget_48 ?_
            refine lv_iload hx hb d_A_nextTarget_51 (lv_at hl 0 rfl) ?_
            obtain ⟨h_53, hf⟩ := og_ck_s hf
            refine va_zald hx hb hK hP 8 6 rfl rfl h_53 d_A_nextTarget_53 ?_
            refine lv_if_eq (tgt := 67) hx hb d_A_nextTarget_54 (by decide) (fun c_54 => ?_) (fun c_54 => ?_)
            · have hf := og_t hf c_54
              refine lv_aload_n hx hb d_A_nextTarget_67 rfl (lv_at hl 1 rfl) ?_
              refine vg_A_nextEdge (v := .ref (a 27)) hx hb hts hown hK hP 5 rfl (hts _ tb_212) rfl d_A_nextTarget_68 ?_
              refine lv_iload_n hx hb d_A_nextTarget_71 rfl (lv_at hl 2 rfl) ?_
              refine lv_iload hx hb d_A_nextTarget_72 (lv_at hl 5 rfl) ?_
              refine lv_iconst (v := 1) hx hb d_A_nextTarget_74 (by decide) ?_
              refine lv_iadd hx hb d_A_nextTarget_75 ?_
              obtain ⟨h_76, hf⟩ := og_ck_s hf
              refine va_iast hx hb hK hP hD hS 7 5 rfl rfl h_76 d_A_nextTarget_76 (fun H locs hP hD hS => ?_)
              have hP : va_P (dC, dI) vwCl (wA_nextTarget a k E_count E_from E_to E_configurations E_gone A_metCount A_openCount A_open (upd A_nextEdge p1.toNatClampNeg (v4 + 1)) A_wasAsked) H := hP
              have hD : va_D A (wA_nextTarget a k E_count E_from E_to E_configurations E_gone A_metCount A_openCount A_open (upd A_nextEdge p1.toNatClampNeg (v4 + 1)) A_wasAsked) := hD
              refine lv_iload hx hb d_A_nextTarget_77 (lv_at hl 0 rfl) ?_
              obtain rfl := Option.some.inj hf
              exact W.iret (v := (E_to v4.toNatClampNeg)) hx hb hr (fun t ht hW => ⟨⟨(E_to v4.toNatClampNeg), (), rfl, rfl, by rw [ht]; exact hP, va_K.moved hW.alike hK, hD⟩, hS.F ht⟩) hS.2.2 d_A_nextTarget_79
            · have hf := og_f hf c_54
              refine lv_aload_n hx hb d_A_nextTarget_57 rfl (lv_at hl 1 rfl) ?_
              refine lv_iload hx hb d_A_nextTarget_58 (lv_at hl 0 rfl) ?_
              obtain ⟨r60, e_60, hf⟩ := og_b hf
              refine og_rV (w := (wA_nextTarget a k E_count E_from E_to E_configurations E_gone A_metCount A_openCount A_open A_nextEdge A_wasAsked)) (As := [.int (E_to v4.toNatClampNeg)]) (rest := []) (ci := 5) (q0 := 0) ⟨hx, hb, hml, hown, hts⟩ (c_A_openAt l dC dI a k A_metCount A_openCount A_open (E_to v4.toNatClampNeg) r60 e_60) (cwV 1 hts (og_gV tb_223 tb_224 tb_225 tb_217 tb_226) rfl rfl rfl (by decide +kernel) ⟨Nat.le_of_ble_eq_true rfl, Nat.le_of_ble_eq_true rfl⟩) hK hP [5, 6] [4] ⟨rfl, rfl, trivial⟩ rfl rfl rfl rfl rfl hl.1 rfl (Nat.le_of_ble_eq_true rfl) d_A_nextTarget_60 ⟨Nat.zero_le _, Nat.zero_le _⟩ ?_
              refine lv_iconst (v := (-1)) hx hb d_A_nextTarget_63 (by decide) ?_
              refine lv_icmp_eq (tgt := 80) hx hb d_A_nextTarget_64 (by decide) (fun c_64 => ?_) (fun c_64 => ?_)
              · have hf := og_t hf c_64
                refine lv_iinc (v := (v4 + 1)) (lv' := [(4, .int (v4 + 1)), (5, .int (E_to v4.toNatClampNeg)), (0, .ref (a 24)), (1, .int p1), (2, .ref (a 5)), (3, .int p3)]) hx hb d_A_nextTarget_80 hl (k := 5) rfl rfl (by decide) rfl (fun ls hl => ?_)
                refine lv_goto (tgt := 8) hx hb d_A_nextTarget_83 (by decide) ?_
                exact ih8 (v4 + 1) A_nextEdge _ _ _ hf hP hD hS (lv_sub hl [2, 3, 4, 5, 0] rfl)
              · have hf := og_f hf c_64
                refine lv_aload_n hx hb d_A_nextTarget_67 rfl (lv_at hl 1 rfl) ?_
                refine vg_A_nextEdge (v := .ref (a 27)) hx hb hts hown hK hP 5 rfl (hts _ tb_212) rfl d_A_nextTarget_68 ?_
                refine lv_iload_n hx hb d_A_nextTarget_71 rfl (lv_at hl 2 rfl) ?_
                refine lv_iload hx hb d_A_nextTarget_72 (lv_at hl 5 rfl) ?_
                refine lv_iconst (v := 1) hx hb d_A_nextTarget_74 (by decide) ?_
                refine lv_iadd hx hb d_A_nextTarget_75 ?_
                obtain ⟨h_76, hf⟩ := og_ck_s hf
                refine va_iast hx hb hK hP hD hS 7 5 rfl rfl h_76 d_A_nextTarget_76 (fun H locs hP hD hS => ?_)
                have hP : va_P (dC, dI) vwCl (wA_nextTarget a k E_count E_from E_to E_configurations E_gone A_metCount A_openCount A_open (upd A_nextEdge p1.toNatClampNeg (v4 + 1)) A_wasAsked) H := hP
                have hD : va_D A (wA_nextTarget a k E_count E_from E_to E_configurations E_gone A_metCount A_openCount A_open (upd A_nextEdge p1.toNatClampNeg (v4 + 1)) A_wasAsked) := hD
                refine lv_iload hx hb d_A_nextTarget_77 (lv_at hl 0 rfl) ?_
                obtain rfl := Option.some.inj hf
                exact W.iret (v := (E_to v4.toNatClampNeg)) hx hb hr (fun t ht hW => ⟨⟨(E_to v4.toNatClampNeg), (), rfl, rfl, by rw [ht]; exact hP, va_K.moved hW.alike hK, hD⟩, hS.F ht⟩) hS.2.2 d_A_nextTarget_79
  exact lp8 FU (A_nextEdge p1.toNatClampNeg) A_nextEdge _ _ _ hf hP hD hS (lv_sub hl [1, 2, 3, 4, 0] rfl)
def wA_meet (a : Nat → Nat) (k : Nat → ClassId) (A_metCount : Int32) (A_openCount : Int32) (A_metKeys : (Nat → Int32)) (A_open : (Nat → Int32)) : va_W := [(a 24, .inr (5, [.int A_metCount, .ref (a 25), .int A_openCount, .ref (a 26), .ref (a 27), .ref (a 28)])), (a 25, .inl (k 25, 40, .inl A_metKeys)), (a 26, .inl (k 26, 40, .inl A_open))]
def tA_meet (k : Nat → ClassId) : List (ClassId × FieldType) := [(k 25, .int), (k 26, .int)]
set_option maxHeartbeats 4000000 in
set_option maxRecDepth 100000 in
theorem c_A_meet (l : Launch) (dC : Nat → ClassId) (dI : Nat → Nat → Nat) (a : Nat → Nat) (k : Nat → ClassId) (sz : Nat) (A_metCount : Int32) (A_openCount : Int32) (A_metKeys : (Nat → Int32)) (A_open : (Nat → Int32)) (p1 : Int32) (y : Int32 × (Nat → Int32)) (hf : fA_meet A_metCount A_metKeys A_openCount A_open p1 = some y) : Met l y_A_meet ws_A_meet ({ frames := 1, cells := 0, slots := 0, locals := 64 }) (og_Pw [.ref (a 24), .int p1] (dC, dI) (wA_meet a k A_metCount A_openCount A_metKeys A_open) (tA_meet k) sz) (og_Qv (dC, dI) (wA_meet a k y.1 A_openCount y.2 A_open) (tA_meet k) (va_A (wA_meet a k A_metCount A_openCount A_metKeys A_open) sz)) 0 0 (va_A (wA_meet a k A_metCount A_openCount A_metKeys A_open) sz) := by
  refine Met.ofW (cc := b_A_meet) (maxL := 3) (ret := none) (by decide) rfl ?_
  intro p e s m args below meth c s₁ B hml hv
  obtain ⟨rfl, hsz, hP, hK, hD0⟩ := hv
  have hx := B.exec
  have hb := B.bytes
  have hr := B.returns
  have hts0 := atoms_spec (ws := ws_A_meet) B.pre
  have hts : ∀ w ∈ og_tb, w.before _ s = true := fun w h => hts0 w (List.mem_cons_of_mem _ h)
  have hown : s.vm.findClass R_A = some m.cls := findClass_of_methodNamed B.named
  have hlocks := B.notSynchronized
  subst hsz
  have hD := hD0.self (sz := s.heap.size)
  generalize hAe : va_A (wA_meet a k A_metCount A_openCount A_metKeys A_open) s.heap.size = A at hD ⊢
  have hA : ∀ q : Nat, s.heap.size ≤ q → A q := fun q h => by rw [← hAe]; exact Or.inr h
  have hS : va_S A s.heap s.heap [] := va_S.rf
  have hl := lv_entry ([.ref (a 24), .int p1]) (n := 3) (Nat.le_of_ble_eq_true rfl)
  rw [lg_entry_eq]
  generalize (lg_sl ([.ref (a 24), .int p1]) ++ List.replicate (3 - (lg_sl ([.ref (a 24), .int p1])).length) Slot.unset).toArray = ls at hl ⊢
  have hl : lv_has ls 3 [(0, .ref (a 24)), (1, .int p1)] := hl
  rw [fA_meet] at hf
  refine lv_aload_n hx hb d_A_meet_0 rfl (lv_at hl 0 rfl) ?_
  refine lv_iload_n hx hb d_A_meet_1 rfl (lv_at hl 1 rfl) ?_
  obtain ⟨r2, e_2, hf⟩ := og_b hf
  refine og_rV (w := (wA_meet a k A_metCount A_openCount A_metKeys A_open)) (As := [.int p1]) (rest := []) (ci := 5) (q0 := 0) ⟨hx, hb, hml, hown, hts⟩ (c_A_openAt l dC dI a k A_metCount A_openCount A_open p1 r2 e_2) (cwV 1 hts (og_gV tb_223 tb_224 tb_225 tb_217 tb_226) rfl rfl rfl (by decide +kernel) ⟨Nat.le_of_ble_eq_true rfl, Nat.le_of_ble_eq_true rfl⟩) hK hP [0, 2] [1] ⟨rfl, rfl, trivial⟩ rfl rfl rfl rfl rfl hl.1 rfl (Nat.le_of_ble_eq_true rfl) d_A_meet_2 ⟨Nat.zero_le _, Nat.zero_le _⟩ ?_
  refine lv_istore_n (lv' := [(2, .int r2), (0, .ref (a 24)), (1, .int p1)]) hx hb d_A_meet_5 rfl hl (by decide) rfl (fun ls hl => ?_)
  refine lv_iload_n hx hb d_A_meet_6 rfl (lv_at hl 0 rfl) ?_
  refine lv_iconst (v := (-1)) hx hb d_A_meet_7 (by decide) ?_
  refine lv_icmp_ne (tgt := 12) hx hb d_A_meet_8 (by decide) (fun c_8 => ?_) (fun c_8 => ?_)
  · have hf := og_f hf c_8
    refine lv_aload_n hx hb d_A_meet_12 rfl (lv_at hl 1 rfl) ?_
    refine lv_aload_n hx hb d_A_meet_13 rfl (lv_at hl 1 rfl) ?_
    refine vg_A_openCount (v := .int A_openCount) hx hb hts hown hK hP 0 rfl (hts _ tb_209) rfl d_A_meet_14 ?_
    refine lv_iload_n hx hb d_A_meet_17 rfl (lv_at hl 0 rfl) ?_
    refine lv_isub hx hb d_A_meet_18 ?_
    refine vs_A_metCount (v := (A_openCount - r2)) hx hb hts hown hK hP hD hS 0 rfl (hts _ tb_213) (Nat.le_of_ble_eq_true rfl) d_A_meet_19 (fun H locs hP hD hS => ?_)
    have hP : va_P (dC, dI) vwCl (wA_meet a k (A_openCount - r2) A_openCount A_metKeys A_open) H := hP
    have hD : va_D A (wA_meet a k (A_openCount - r2) A_openCount A_metKeys A_open) := hD
    refine lv_aload_n hx hb d_A_meet_22 rfl (lv_at hl 1 rfl) ?_
    refine vg_A_open (v := .ref (a 26)) hx hb hts hown hK hP 0 rfl (hts _ tb_210) rfl d_A_meet_23 ?_
    refine lv_iload_n hx hb d_A_meet_26 rfl (lv_at hl 0 rfl) ?_
    refine lv_aload_n hx hb d_A_meet_27 rfl (lv_at hl 1 rfl) ?_
    refine vg_A_metKeys (v := .ref (a 25)) hx hb hts hown hK hP 0 rfl (hts _ tb_227) rfl d_A_meet_28 ?_
    refine lv_iconst (v := 0) hx hb d_A_meet_31 (by decide) ?_
    refine lv_aload_n hx hb d_A_meet_32 rfl (lv_at hl 1 rfl) ?_
    refine vg_A_metCount (v := .int (A_openCount - r2)) hx hb hts hown hK hP 0 rfl (hts _ tb_213) rfl d_A_meet_33 ?_
    obtain ⟨⟨h1_36, h2_36, h3_36, h4_36, h5_36⟩, hf⟩ := og_cp_s hf
    refine va_copyi hx hb (by rw [hml]; exact hl.1.symm) hown (hts _ tb_228) (hts _ tb_229) (hts _ tb_230) (hts _ tb_231) hK hP hD hS 2 1 1 0 rfl rfl rfl rfl rfl h1_36 h2_36 h3_36 h4_36 h5_36 (fun _ _ => rfl) (Nat.le_of_ble_eq_true rfl) (by decide) d_A_meet_36 (fun H locs hP hD hS => ?_)
    have hP : va_P (dC, dI) vwCl (wA_meet a k (A_openCount - r2) A_openCount (va_cpy A_open A_metKeys r2.toNatClampNeg (0 : Int32).toNatClampNeg (A_openCount - r2).toNatClampNeg) A_open) H := hP
    have hD : va_D A (wA_meet a k (A_openCount - r2) A_openCount (va_cpy A_open A_metKeys r2.toNatClampNeg (0 : Int32).toNatClampNeg (A_openCount - r2).toNatClampNeg) A_open) := hD
    obtain rfl := Option.some.inj hf
    exact W.vret hx hb hr (fun t ht hW => ⟨⟨(), rfl, trivial, by rw [ht]; exact hP, va_K.moved hW.alike hK, hD⟩, hS.F ht⟩) hS.2.2 d_A_meet_39
  · have hf := og_t hf c_8
    obtain rfl := Option.some.inj hf
    exact W.vret hx hb hr (fun t ht hW => ⟨⟨(), rfl, trivial, by rw [ht]; exact hP, va_K.moved hW.alike hK, hD⟩, hS.F ht⟩) hS.2.2 d_A_meet_11
def wA_goOn (a : Nat → Nat) (k : Nat → ClassId) (E_count : Int32) (E_from : (Nat → Int32)) (E_to : (Nat → Int32)) (E_configurations : (Nat → Int32)) (E_gone : (Nat → Int32)) (A_metCount : Int32) (A_openCount : Int32) (A_metKeys : (Nat → Int32)) (A_open : (Nat → Int32)) (A_nextEdge : (Nat → Int32)) (A_wasAsked : (Nat → Int32)) : va_W := [(a 5, .inr (2, [.int E_count, .ref (a 6), .ref (a 7), .ref (a 8), .ref (a 9), .ref (a 10)])), (a 6, .inl (k 6, 160, .inl E_from)), (a 7, .inl (k 7, 160, .inl E_to)), (a 9, .inl (k 9, 160, .inl E_configurations)), (a 10, .inl (k 10, 160, .inl E_gone)), (a 24, .inr (5, [.int A_metCount, .ref (a 25), .int A_openCount, .ref (a 26), .ref (a 27), .ref (a 28)])), (a 25, .inl (k 25, 40, .inl A_metKeys)), (a 26, .inl (k 26, 40, .inl A_open)), (a 27, .inl (k 27, 40, .inl A_nextEdge)), (a 28, .inl (k 28, 40, .inl A_wasAsked))]
def tA_goOn (k : Nat → ClassId) : List (ClassId × FieldType) := [(k 6, .int), (k 7, .int), (k 9, .int), (k 10, .boolean), (k 25, .int), (k 26, .int), (k 27, .int), (k 28, .boolean)]
set_option maxHeartbeats 4000000 in
set_option maxRecDepth 100000 in
theorem c_A_goOn (l : Launch) (dC : Nat → ClassId) (dI : Nat → Nat → Nat) (a : Nat → Nat) (k : Nat → ClassId) (sz : Nat) (E_count : Int32) (E_from : (Nat → Int32)) (E_to : (Nat → Int32)) (E_configurations : (Nat → Int32)) (E_gone : (Nat → Int32)) (A_metCount : Int32) (A_openCount : Int32) (A_metKeys : (Nat → Int32)) (A_open : (Nat → Int32)) (A_nextEdge : (Nat → Int32)) (A_wasAsked : (Nat → Int32)) (p2 : Int32) (y : Int32 × (Nat → Int32) × Int32 × (Nat → Int32) × (Nat → Int32) × (Nat → Int32)) (hf : fA_goOn E_count E_from E_to E_configurations E_gone A_metCount A_metKeys A_openCount A_open A_nextEdge A_wasAsked p2 = some y) : Met l y_A_goOn ws_A_goOn ({ frames := 3, cells := 0, slots := 0, locals := 86 }) (og_Pw [.ref (a 24), .ref (a 5), .int p2] (dC, dI) (wA_goOn a k E_count E_from E_to E_configurations E_gone A_metCount A_openCount A_metKeys A_open A_nextEdge A_wasAsked) (tA_goOn k) sz) (og_Qv (dC, dI) (wA_goOn a k E_count E_from E_to E_configurations E_gone y.1 y.2.2.1 y.2.1 y.2.2.2.1 y.2.2.2.2.1 y.2.2.2.2.2) (tA_goOn k) (va_A (wA_goOn a k E_count E_from E_to E_configurations E_gone A_metCount A_openCount A_metKeys A_open A_nextEdge A_wasAsked) sz)) 0 0 (va_A (wA_goOn a k E_count E_from E_to E_configurations E_gone A_metCount A_openCount A_metKeys A_open A_nextEdge A_wasAsked) sz) := by
  refine Met.ofW (cc := b_A_goOn) (maxL := 5) (ret := none) (by decide) rfl ?_
  intro p e s m args below meth c s₁ B hml hv
  obtain ⟨rfl, hsz, hP, hK, hD0⟩ := hv
  have hx := B.exec
  have hb := B.bytes
  have hr := B.returns
  have hts0 := atoms_spec (ws := ws_A_goOn) B.pre
  have hts : ∀ w ∈ og_tb, w.before _ s = true := fun w h => hts0 w (List.mem_cons_of_mem _ h)
  have hown : s.vm.findClass R_A = some m.cls := findClass_of_methodNamed B.named
  have hlocks := B.notSynchronized
  subst hsz
  have hD := hD0.self (sz := s.heap.size)
  generalize hAe : va_A (wA_goOn a k E_count E_from E_to E_configurations E_gone A_metCount A_openCount A_metKeys A_open A_nextEdge A_wasAsked) s.heap.size = A at hD ⊢
  have hA : ∀ q : Nat, s.heap.size ≤ q → A q := fun q h => by rw [← hAe]; exact Or.inr h
  have hS : va_S A s.heap s.heap [] := va_S.rf
  have hl := lv_entry ([.ref (a 24), .ref (a 5), .int p2]) (n := 5) (Nat.le_of_ble_eq_true rfl)
  rw [lg_entry_eq]
  generalize (lg_sl ([.ref (a 24), .ref (a 5), .int p2]) ++ List.replicate (5 - (lg_sl ([.ref (a 24), .ref (a 5), .int p2])).length) Slot.unset).toArray = ls at hl ⊢
  have hl : lv_has ls 5 [(0, .ref (a 24)), (1, .ref (a 5)), (2, .int p2)] := hl
  rw [fA_goOn] at hf
  refine lv_iconst (v := 0) hx hb d_A_goOn_0 (by decide) ?_
  refine lv_istore_n (lv' := [(3, .int 0), (0, .ref (a 24)), (1, .ref (a 5)), (2, .int p2)]) hx hb d_A_goOn_1 rfl hl (by decide) rfl (fun ls hl => ?_)
  have k2_82 : ∀ (A_metCount : Int32) (A_metKeys : (Nat → Int32)) (A_openCount : Int32) (A_open : (Nat → Int32)) (A_nextEdge : (Nat → Int32)) (A_wasAsked : (Nat → Int32)) (H : Heap) (locs : List Loc) (ls : Array Slot), fA_goOn_K2_82 A_metCount A_metKeys A_openCount A_open A_nextEdge A_wasAsked = some y → va_P (dC, dI) vwCl (wA_goOn a k E_count E_from E_to E_configurations E_gone A_metCount A_openCount A_metKeys A_open A_nextEdge A_wasAsked) H → va_D A (wA_goOn a k E_count E_from E_to E_configurations E_gone A_metCount A_openCount A_metKeys A_open A_nextEdge A_wasAsked) → va_S A s.heap H locs → lv_has ls 5 [] → W p l e (headSpec ws_A_goOn { frames := 3, cells := 0, slots := 0, locals := 86 }).room s m ([.ref (a 24), .ref (a 5), .int p2] : List Value).toArray below meth c H locs 0 0 (MQ below (og_Qv (dC, dI) (wA_goOn a k E_count E_from E_to E_configurations E_gone y.1 y.2.2.1 y.2.1 y.2.2.2.1 y.2.2.2.2.1 y.2.2.2.2.2) (tA_goOn k) A) ([.ref (a 24), .ref (a 5), .int p2] : List Value).toArray s 0 0 A) (F0 m 82 ls []) := by
    intro A_metCount A_metKeys A_openCount A_open A_nextEdge A_wasAsked H locs ls hf hP hD hS hl
    rw [fA_goOn_K2_82] at hf
    obtain rfl := Option.some.inj hf
    exact W.vret hx hb hr (fun t ht hW => ⟨⟨(), rfl, trivial, by rw [ht]; exact hP, va_K.moved hW.alike hK, hD⟩, hS.F ht⟩) hS.2.2 d_A_goOn_82
  have lp2 : ∀ (n2 : Nat) (v3 : Int32) (A_metCount : Int32) (A_metKeys : (Nat → Int32)) (A_openCount : Int32) (A_open : (Nat → Int32)) (A_nextEdge : (Nat → Int32)) (A_wasAsked : (Nat → Int32)) (H : Heap) (locs : List Loc) (ls : Array Slot), fA_goOn_L2 fA_goOn_K2_82 E_count E_from E_to E_configurations E_gone p2 n2 v3 A_metCount A_metKeys A_openCount A_open A_nextEdge A_wasAsked = some y → va_P (dC, dI) vwCl (wA_goOn a k E_count E_from E_to E_configurations E_gone A_metCount A_openCount A_metKeys A_open A_nextEdge A_wasAsked) H → va_D A (wA_goOn a k E_count E_from E_to E_configurations E_gone A_metCount A_openCount A_metKeys A_open A_nextEdge A_wasAsked) → va_S A s.heap H locs → lv_has ls 5 [(0, .ref (a 24)), (1, .ref (a 5)), (2, .int p2), (3, .int v3)] → W p l e (headSpec ws_A_goOn { frames := 3, cells := 0, slots := 0, locals := 86 }).room s m ([.ref (a 24), .ref (a 5), .int p2] : List Value).toArray below meth c H locs 0 0 (MQ below (og_Qv (dC, dI) (wA_goOn a k E_count E_from E_to E_configurations E_gone y.1 y.2.2.1 y.2.1 y.2.2.2.1 y.2.2.2.2.1 y.2.2.2.2.2) (tA_goOn k) A) ([.ref (a 24), .ref (a 5), .int p2] : List Value).toArray s 0 0 A) (F0 m 2 ls []) := by
    intro n2
    induction n2 with
    | zero => intro v3 A_metCount A_metKeys A_openCount A_open A_nextEdge A_wasAsked H locs ls hf hP hD hS hl; rw [fA_goOn_L2] at hf; cases hf
    | succ n2 ih2 =>
      intro v3 A_metCount A_metKeys A_openCount A_open A_nextEdge A_wasAsked H locs ls hf hP hD hS hl
      rw [fA_goOn_L2] at hf
      refine lv_iload_n hx hb d_A_goOn_2 rfl (lv_at hl 3 rfl) ?_
      refine lv_bipush (v := 80) hx hb d_A_goOn_3 (by decide) ?_
      refine lv_icmp_ge (tgt := 82) hx hb d_A_goOn_5 (by decide) (fun c_5 => ?_) (fun c_5 => ?_)
      · have hf := og_t hf c_5
        exact k2_82 A_metCount A_metKeys A_openCount A_open A_nextEdge A_wasAsked _ _ _ hf hP hD hS (lv_sub hl [] rfl)
      · have hf := og_f hf c_5
        refine lv_aload_n hx hb d_A_goOn_8 rfl (lv_at hl 0 rfl) ?_
        refine vg_A_openCount (v := .int A_openCount) hx hb hts hown hK hP 5 rfl (hts _ tb_209) rfl d_A_goOn_9 ?_
        refine lv_if_le (tgt := 82) hx hb d_A_goOn_12 (by decide) (fun c_12 => ?_) (fun c_12 => ?_)
        · have hf := og_t hf c_12
          exact k2_82 A_metCount A_metKeys A_openCount A_open A_nextEdge A_wasAsked _ _ _ hf hP hD hS (lv_sub hl [] rfl)
        · have hf := og_f hf c_12
          refine lv_aload_n hx hb d_A_goOn_15 rfl (lv_at hl 0 rfl) ?_
          refine lv_aload_n hx hb d_A_goOn_16 rfl (lv_at hl 0 rfl) ?_
          refine vg_A_open (v := .ref (a 26)) hx hb hts hown hK hP 5 rfl (hts _ tb_210) rfl d_A_goOn_17 ?_
          refine lv_aload_n hx hb d_A_goOn_20 rfl (lv_at hl 0 rfl) ?_
          refine vg_A_openCount (v := .int A_openCount) hx hb hts hown hK hP 5 rfl (hts _ tb_209) rfl d_A_goOn_21 ?_
          refine lv_iconst (v := 1) hx hb d_A_goOn_24 (by decide) ?_
          refine lv_isub hx hb d_A_goOn_25 ?_
          obtain ⟨h_26, hf⟩ := og_ck_s hf
          refine va_iald hx hb hK hP 7 5 rfl rfl h_26 d_A_goOn_26 ?_
          refine lv_aload_n hx hb d_A_goOn_27 rfl (lv_at hl 1 rfl) ?_
          refine lv_iload_n hx hb d_A_goOn_28 rfl (lv_at hl 2 rfl) ?_
          obtain ⟨r29, e_29, hf⟩ := og_b hf
          refine og_wV (w := (wA_goOn a k E_count E_from E_to E_configurations E_gone A_metCount A_openCount A_metKeys A_open A_nextEdge A_wasAsked)) (w2 := (wA_goOn a k E_count E_from E_to E_configurations E_gone A_metCount A_openCount A_metKeys A_open r29.2 A_wasAsked)) (As := [.int (A_open (A_openCount - 1).toNatClampNeg), .ref (a 5), .int p2]) (rest := []) (ci := 5) (q0 := 5) ⟨hx, hb, hml, hown, hts⟩ (c_A_nextTarget l dC dI a k _ E_count E_from E_to E_configurations E_gone A_metCount A_openCount A_open A_nextEdge A_wasAsked (A_open (A_openCount - 1).toNatClampNeg) p2 r29 e_29) (cwV 3 hts (og_gV tb_232 tb_233 tb_234 tb_217 tb_235) rfl rfl rfl (by decide +kernel) ⟨Nat.le_of_ble_eq_true rfl, Nat.le_of_ble_eq_true rfl⟩) hK hP hD hS hA [0, 1, 2, 3, 4, 5, 7, 8, 9] [0, 1, 2, 3, 5, 6, 7] ⟨rfl, rfl, rfl, rfl, rfl, rfl, rfl, rfl, rfl, trivial⟩ rfl [(true, 0), (true, 1), (true, 2), (true, 3), (true, 4), (true, 5), (false, 6), (true, 6), (true, 7), (true, 8)] ⟨rfl, rfl, rfl, rfl, rfl, rfl, rfl, rfl, rfl, rfl, rfl, trivial⟩ ⟨rfl, rfl, rfl, rfl, rfl, rfl, rfl, rfl, rfl, rfl, trivial⟩ (by decide) rfl rfl rfl rfl hl.1 rfl (Nat.le_of_ble_eq_true rfl) d_A_goOn_29 ⟨Nat.zero_le _, Nat.zero_le _⟩ (fun H locs hP hD hS => ?_)
          refine lv_istore (lv' := [(4, .int r29.1), (0, .ref (a 24)), (1, .ref (a 5)), (2, .int p2), (3, .int v3)]) hx hb d_A_goOn_32 hl (by decide) rfl (fun ls hl => ?_)
          refine lv_iload hx hb d_A_goOn_34 (lv_at hl 0 rfl) ?_
          refine lv_iconst (v := (-1)) hx hb d_A_goOn_36 (by decide) ?_
          refine lv_icmp_ne (tgt := 53) hx hb d_A_goOn_37 (by decide) (fun c_37 => ?_) (fun c_37 => ?_)
          · have hf := og_f hf c_37
            refine lv_aload_n hx hb d_A_goOn_53 rfl (lv_at hl 1 rfl) ?_
            refine vg_A_wasAsked (v := .ref (a 28)) hx hb hts hown hK hP 5 rfl (hts _ tb_211) rfl d_A_goOn_54 ?_
            refine lv_iload hx hb d_A_goOn_57 (lv_at hl 0 rfl) ?_
            obtain ⟨h_59, hf⟩ := og_ck_s hf
            refine va_zald hx hb hK hP 9 7 rfl rfl h_59 d_A_goOn_59 ?_
            refine lv_if_eq (tgt := 70) hx hb d_A_goOn_60 (by decide) (fun c_60 => ?_) (fun c_60 => ?_)
            · have hf := og_t hf c_60
              refine lv_aload_n hx hb d_A_goOn_70 rfl (lv_at hl 1 rfl) ?_
              refine lv_iload hx hb d_A_goOn_71 (lv_at hl 0 rfl) ?_
              obtain ⟨r73, e_73, hf⟩ := og_b hf
              refine og_wVv (w := (wA_goOn a k E_count E_from E_to E_configurations E_gone A_metCount A_openCount A_metKeys A_open r29.2 A_wasAsked)) (w2 := (wA_goOn a k E_count E_from E_to E_configurations E_gone A_metCount r73.1 A_metKeys r73.2.1 r73.2.2.1 r73.2.2.2)) (As := [.int r29.1]) (rest := []) (ci := 5) (q0 := 0) ⟨hx, hb, hml, hown, hts⟩ (c_A_push l dC dI a k _ A_metCount A_openCount A_open r29.2 A_wasAsked r29.1 r73 e_73) (cwV 1 hts (og_gV tb_214 tb_215 tb_216 tb_217 tb_218) rfl rfl rfl (by decide +kernel) ⟨Nat.le_of_ble_eq_true rfl, Nat.le_of_ble_eq_true rfl⟩) hK hP hD hS hA [5, 7, 8, 9] [5, 6, 7] ⟨rfl, rfl, rfl, rfl, trivial⟩ rfl [(false, 0), (false, 1), (false, 2), (false, 3), (false, 4), (true, 0), (false, 6), (true, 1), (true, 2), (true, 3)] ⟨rfl, rfl, rfl, rfl, rfl, rfl, rfl, rfl, rfl, rfl, rfl, rfl, rfl, rfl, rfl, rfl, trivial⟩ ⟨rfl, rfl, rfl, rfl, rfl, rfl, rfl, rfl, rfl, rfl, trivial⟩ (by decide) rfl rfl rfl rfl hl.1 rfl (Nat.le_of_ble_eq_true rfl) d_A_goOn_73 ⟨Nat.zero_le _, Nat.zero_le _⟩ (fun H locs hP hD hS => ?_)
              refine lv_iinc (v := (v3 + 1)) (lv' := [(3, .int (v3 + 1)), (4, .int r29.1), (0, .ref (a 24)), (1, .ref (a 5)), (2, .int p2)]) hx hb d_A_goOn_76 hl (k := 4) rfl rfl (by decide) rfl (fun ls hl => ?_)
              refine lv_goto (tgt := 2) hx hb d_A_goOn_79 (by decide) ?_
              exact ih2 (v3 + 1) A_metCount A_metKeys r73.1 r73.2.1 r73.2.2.1 r73.2.2.2 _ _ _ hf hP hD hS (lv_sub hl [2, 3, 4, 0] rfl)
            · have hf := og_f hf c_60
              refine lv_aload_n hx hb d_A_goOn_63 rfl (lv_at hl 1 rfl) ?_
              refine lv_iload hx hb d_A_goOn_64 (lv_at hl 0 rfl) ?_
              obtain ⟨r66, e_66, hf⟩ := og_b hf
              refine og_wVv (w := (wA_goOn a k E_count E_from E_to E_configurations E_gone A_metCount A_openCount A_metKeys A_open r29.2 A_wasAsked)) (w2 := (wA_goOn a k E_count E_from E_to E_configurations E_gone r66.1 A_openCount r66.2 A_open r29.2 A_wasAsked)) (As := [.int r29.1]) (rest := []) (ci := 5) (q0 := 0) ⟨hx, hb, hml, hown, hts⟩ (c_A_meet l dC dI a k _ A_metCount A_openCount A_metKeys A_open r29.1 r66 e_66) (cwV 1 hts (og_gV tb_236 tb_237 tb_238 tb_217 tb_239) rfl rfl rfl (by decide +kernel) ⟨Nat.le_of_ble_eq_true rfl, Nat.le_of_ble_eq_true rfl⟩) hK hP hD hS hA [5, 6, 7] [4, 5] ⟨rfl, rfl, rfl, trivial⟩ rfl [(false, 0), (false, 1), (false, 2), (false, 3), (false, 4), (true, 0), (true, 1), (true, 2), (false, 8), (false, 9)] ⟨rfl, rfl, rfl, rfl, rfl, rfl, rfl, rfl, rfl, rfl, rfl, rfl, rfl, rfl, rfl, rfl, rfl, trivial⟩ ⟨rfl, rfl, rfl, rfl, rfl, rfl, rfl, rfl, rfl, rfl, trivial⟩ (by decide) rfl rfl rfl rfl hl.1 rfl (Nat.le_of_ble_eq_true rfl) d_A_goOn_66 ⟨Nat.zero_le _, Nat.zero_le _⟩ (fun H locs hP hD hS => ?_)
              obtain rfl := Option.some.inj hf
              exact W.vret hx hb hr (fun t ht hW => ⟨⟨(), rfl, trivial, by rw [ht]; exact hP, va_K.moved hW.alike hK, hD⟩, hS.F ht⟩) hS.2.2 d_A_goOn_69
          · have hf := og_t hf c_37
            refine lv_aload_n hx hb d_A_goOn_40 rfl (lv_at hl 1 rfl) ?_
            refine lv_dup hx hb d_A_goOn_41 rfl ?_
            refine vg_A_openCount (v := .int A_openCount) hx hb hts hown hK hP 5 rfl (hts _ tb_209) rfl d_A_goOn_42 ?_
            refine lv_iconst (v := 1) hx hb d_A_goOn_45 (by decide) ?_
            refine lv_isub hx hb d_A_goOn_46 ?_
            refine vs_A_openCount (v := (A_openCount - 1)) hx hb hts hown hK hP hD hS 5 rfl (hts _ tb_209) (Nat.le_of_ble_eq_true rfl) d_A_goOn_47 (fun H locs hP hD hS => ?_)
            have hP : va_P (dC, dI) vwCl (wA_goOn a k E_count E_from E_to E_configurations E_gone A_metCount (A_openCount - 1) A_metKeys A_open r29.2 A_wasAsked) H := hP
            have hD : va_D A (wA_goOn a k E_count E_from E_to E_configurations E_gone A_metCount (A_openCount - 1) A_metKeys A_open r29.2 A_wasAsked) := hD
            refine lv_goto (tgt := 76) hx hb d_A_goOn_50 (by decide) ?_
            refine lv_iinc (v := (v3 + 1)) (lv' := [(3, .int (v3 + 1)), (4, .int r29.1), (0, .ref (a 24)), (1, .ref (a 5)), (2, .int p2)]) hx hb d_A_goOn_76 hl (k := 4) rfl rfl (by decide) rfl (fun ls hl => ?_)
            refine lv_goto (tgt := 2) hx hb d_A_goOn_79 (by decide) ?_
            exact ih2 (v3 + 1) A_metCount A_metKeys (A_openCount - 1) A_open r29.2 A_wasAsked _ _ _ hf hP hD hS (lv_sub hl [2, 3, 4, 0] rfl)
  exact lp2 FU 0 A_metCount A_metKeys A_openCount A_open A_nextEdge A_wasAsked _ _ _ hf hP hD hS (lv_sub hl [1, 2, 3, 0] rfl)
