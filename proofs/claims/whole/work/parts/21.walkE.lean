def wE_add (a : Nat → Nat) (k : Nat → ClassId) (E_count : Int32) (E_from : (Nat → Int32)) (E_to : (Nat → Int32)) (E_places : (Nat → Int32)) (E_configurations : (Nat → Int32)) : va_W := [(a 5, .inr (2, [.int E_count, .ref (a 6), .ref (a 7), .ref (a 8), .ref (a 9), .ref (a 10)])), (a 6, .inl (k 6, 160, .inl E_from)), (a 7, .inl (k 7, 160, .inl E_to)), (a 8, .inl (k 8, 160, .inl E_places)), (a 9, .inl (k 9, 160, .inl E_configurations))]
def tE_add (k : Nat → ClassId) : List (ClassId × FieldType) := [(k 6, .int), (k 7, .int), (k 8, .int), (k 9, .int)]
set_option maxHeartbeats 4000000 in
set_option maxRecDepth 100000 in
theorem c_E_add (l : Launch) (dC : Nat → ClassId) (dI : Nat → Nat → Nat) (a : Nat → Nat) (k : Nat → ClassId) (sz : Nat) (E_count : Int32) (E_from : (Nat → Int32)) (E_to : (Nat → Int32)) (E_places : (Nat → Int32)) (E_configurations : (Nat → Int32)) (p1 : Int32) (p2 : Int32) (p3 : Int32) (p4 : Int32) (y : Int32 × Int32 × (Nat → Int32) × (Nat → Int32) × (Nat → Int32) × (Nat → Int32)) (hf : fE_add E_count E_from E_to E_places E_configurations p1 p2 p3 p4 = some y) : Met l y_E_add ws_E_add ({ frames := 0, cells := 0, slots := 0, locals := 0 }) (og_Pw [.ref (a 5), .int p1, .int p2, .int p3, .int p4] (dC, dI) (wE_add a k E_count E_from E_to E_places E_configurations) (tE_add k) sz) (og_Qi (dC, dI) (wE_add a k y.2.1 y.2.2.1 y.2.2.2.1 y.2.2.2.2.1 y.2.2.2.2.2) (tE_add k) y.1 (va_A (wE_add a k E_count E_from E_to E_places E_configurations) sz)) 0 0 (va_A (wE_add a k E_count E_from E_to E_places E_configurations) sz) := by
  refine Met.ofW (cc := b_E_add) (maxL := 6) (ret := (some .int)) (by decide) rfl ?_
  intro p e s m args below meth c s₁ B hml hv
  obtain ⟨rfl, hsz, hP, hK, hD0⟩ := hv
  have hx := B.exec
  have hb := B.bytes
  have hr := B.returns
  have hts0 := atoms_spec (ws := ws_E_add) B.pre
  have hts : ∀ w ∈ og_tb, w.before _ s = true := fun w h => hts0 w (List.mem_cons_of_mem _ h)
  have hown : s.vm.findClass R_E = some m.cls := findClass_of_methodNamed B.named
  have hlocks := B.notSynchronized
  subst hsz
  have hD := hD0.self (sz := s.heap.size)
  generalize hAe : va_A (wE_add a k E_count E_from E_to E_places E_configurations) s.heap.size = A at hD ⊢
  have hA : ∀ q : Nat, s.heap.size ≤ q → A q := fun q h => by rw [← hAe]; exact Or.inr h
  have hS : va_S A s.heap s.heap [] := va_S.rf
  have hl := lv_entry ([.ref (a 5), .int p1, .int p2, .int p3, .int p4]) (n := 6) (Nat.le_of_ble_eq_true rfl)
  rw [lg_entry_eq]
  generalize (lg_sl ([.ref (a 5), .int p1, .int p2, .int p3, .int p4]) ++ List.replicate (6 - (lg_sl ([.ref (a 5), .int p1, .int p2, .int p3, .int p4])).length) Slot.unset).toArray = ls at hl ⊢
  have hl : lv_has ls 6 [(0, .ref (a 5)), (1, .int p1), (2, .int p2), (3, .int p3), (4, .int p4)] := hl
  rw [fE_add] at hf
  refine lv_aload_n hx hb d_E_add_0 rfl (lv_at hl 0 rfl) ?_
  refine vg_E_count (v := .int E_count) hx hb hts hown hK hP 0 rfl (hts _ tb_18) rfl d_E_add_1 ?_
  refine lv_sipush (v := 160) hx hb d_E_add_4 (by decide) ?_
  refine lv_icmp_lt (tgt := 12) hx hb d_E_add_7 (by decide) (fun c_7 => ?_) (fun c_7 => ?_)
  · have hf := og_t hf c_7
    refine lv_aload_n hx hb d_E_add_12 rfl (lv_at hl 0 rfl) ?_
    refine vg_E_count (v := .int E_count) hx hb hts hown hK hP 0 rfl (hts _ tb_18) rfl d_E_add_13 ?_
    refine lv_istore (lv' := [(5, .int E_count), (0, .ref (a 5)), (1, .int p1), (2, .int p2), (3, .int p3), (4, .int p4)]) hx hb d_E_add_16 hl (by decide) rfl (fun ls hl => ?_)
    refine lv_aload_n hx hb d_E_add_18 rfl (lv_at hl 1 rfl) ?_
    refine vg_E_from (v := .ref (a 6)) hx hb hts hown hK hP 0 rfl (hts _ tb_19) rfl d_E_add_19 ?_
    refine lv_iload hx hb d_E_add_22 (lv_at hl 0 rfl) ?_
    refine lv_iload_n hx hb d_E_add_24 rfl (lv_at hl 2 rfl) ?_
    obtain ⟨h_25, hf⟩ := og_ck_s hf
    refine va_iast hx hb hK hP hD hS 1 0 rfl rfl h_25 d_E_add_25 (fun H locs hP hD hS => ?_)
    have hP : va_P (dC, dI) vwCl (wE_add a k E_count (upd E_from E_count.toNatClampNeg p1) E_to E_places E_configurations) H := hP
    have hD : va_D A (wE_add a k E_count (upd E_from E_count.toNatClampNeg p1) E_to E_places E_configurations) := hD
    refine lv_aload_n hx hb d_E_add_26 rfl (lv_at hl 1 rfl) ?_
    refine vg_E_to (v := .ref (a 7)) hx hb hts hown hK hP 0 rfl (hts _ tb_20) rfl d_E_add_27 ?_
    refine lv_iload hx hb d_E_add_30 (lv_at hl 0 rfl) ?_
    refine lv_iload_n hx hb d_E_add_32 rfl (lv_at hl 3 rfl) ?_
    obtain ⟨h_33, hf⟩ := og_ck_s hf
    refine va_iast hx hb hK hP hD hS 2 1 rfl rfl h_33 d_E_add_33 (fun H locs hP hD hS => ?_)
    have hP : va_P (dC, dI) vwCl (wE_add a k E_count (upd E_from E_count.toNatClampNeg p1) (upd E_to E_count.toNatClampNeg p2) E_places E_configurations) H := hP
    have hD : va_D A (wE_add a k E_count (upd E_from E_count.toNatClampNeg p1) (upd E_to E_count.toNatClampNeg p2) E_places E_configurations) := hD
    refine lv_aload_n hx hb d_E_add_34 rfl (lv_at hl 1 rfl) ?_
    refine vg_E_places (v := .ref (a 8)) hx hb hts hown hK hP 0 rfl (hts _ tb_21) rfl d_E_add_35 ?_
    refine lv_iload hx hb d_E_add_38 (lv_at hl 0 rfl) ?_
    refine lv_iload_n hx hb d_E_add_40 rfl (lv_at hl 4 rfl) ?_
    obtain ⟨h_41, hf⟩ := og_ck_s hf
    refine va_iast hx hb hK hP hD hS 3 2 rfl rfl h_41 d_E_add_41 (fun H locs hP hD hS => ?_)
    have hP : va_P (dC, dI) vwCl (wE_add a k E_count (upd E_from E_count.toNatClampNeg p1) (upd E_to E_count.toNatClampNeg p2) (upd E_places E_count.toNatClampNeg p3) E_configurations) H := hP
    have hD : va_D A (wE_add a k E_count (upd E_from E_count.toNatClampNeg p1) (upd E_to E_count.toNatClampNeg p2) (upd E_places E_count.toNatClampNeg p3) E_configurations) := hD
    refine lv_aload_n hx hb d_E_add_42 rfl (lv_at hl 1 rfl) ?_
    refine vg_E_configurations (v := .ref (a 9)) hx hb hts hown hK hP 0 rfl (hts _ tb_22) rfl d_E_add_43 ?_
    refine lv_iload hx hb d_E_add_46 (lv_at hl 0 rfl) ?_
    refine lv_iload hx hb d_E_add_48 (lv_at hl 5 rfl) ?_
    refine lv_sipush (v := 255) hx hb d_E_add_50 (by decide) ?_
    refine lv_iand hx hb d_E_add_53 ?_
    obtain ⟨h_54, hf⟩ := og_ck_s hf
    refine va_iast hx hb hK hP hD hS 4 3 rfl rfl h_54 d_E_add_54 (fun H locs hP hD hS => ?_)
    have hP : va_P (dC, dI) vwCl (wE_add a k E_count (upd E_from E_count.toNatClampNeg p1) (upd E_to E_count.toNatClampNeg p2) (upd E_places E_count.toNatClampNeg p3) (upd E_configurations E_count.toNatClampNeg (p4 &&& 255))) H := hP
    have hD : va_D A (wE_add a k E_count (upd E_from E_count.toNatClampNeg p1) (upd E_to E_count.toNatClampNeg p2) (upd E_places E_count.toNatClampNeg p3) (upd E_configurations E_count.toNatClampNeg (p4 &&& 255))) := hD
    refine lv_aload_n hx hb d_E_add_55 rfl (lv_at hl 1 rfl) ?_
    refine lv_dup hx hb d_E_add_56 rfl ?_
    refine vg_E_count (v := .int E_count) hx hb hts hown hK hP 0 rfl (hts _ tb_18) rfl d_E_add_57 ?_
    refine lv_iconst (v := 1) hx hb d_E_add_60 (by decide) ?_
    refine lv_iadd hx hb d_E_add_61 ?_
    refine vs_E_count (v := (E_count + 1)) hx hb hts hown hK hP hD hS 0 rfl (hts _ tb_18) (Nat.le_of_ble_eq_true rfl) d_E_add_62 (fun H locs hP hD hS => ?_)
    have hP : va_P (dC, dI) vwCl (wE_add a k (E_count + 1) (upd E_from E_count.toNatClampNeg p1) (upd E_to E_count.toNatClampNeg p2) (upd E_places E_count.toNatClampNeg p3) (upd E_configurations E_count.toNatClampNeg (p4 &&& 255))) H := hP
    have hD : va_D A (wE_add a k (E_count + 1) (upd E_from E_count.toNatClampNeg p1) (upd E_to E_count.toNatClampNeg p2) (upd E_places E_count.toNatClampNeg p3) (upd E_configurations E_count.toNatClampNeg (p4 &&& 255))) := hD
    refine lv_iload hx hb d_E_add_65 (lv_at hl 0 rfl) ?_
    obtain rfl := Option.some.inj hf
    exact W.iret (v := E_count) hx hb hr (fun t ht hW => ⟨⟨E_count, (), rfl, rfl, by rw [ht]; exact hP, va_K.moved hW.alike hK, hD⟩, hS.F ht⟩) hS.2.2 d_E_add_67
  · have hf := og_f hf c_7
    refine lv_iconst (v := (-1)) hx hb d_E_add_10 (by decide) ?_
    obtain rfl := Option.some.inj hf
    exact W.iret (v := (-1)) hx hb hr (fun t ht hW => ⟨⟨(-1), (), rfl, rfl, by rw [ht]; exact hP, va_K.moved hW.alike hK, hD⟩, hS.F ht⟩) hS.2.2 d_E_add_11
def wE_joins (a : Nat → Nat) (k : Nat → ClassId) (E_count : Int32) (E_from : (Nat → Int32)) (E_to : (Nat → Int32)) : va_W := [(a 5, .inr (2, [.int E_count, .ref (a 6), .ref (a 7), .ref (a 8), .ref (a 9), .ref (a 10)])), (a 6, .inl (k 6, 160, .inl E_from)), (a 7, .inl (k 7, 160, .inl E_to))]
def tE_joins (k : Nat → ClassId) : List (ClassId × FieldType) := [(k 6, .int), (k 7, .int)]
set_option maxHeartbeats 4000000 in
set_option maxRecDepth 100000 in
theorem c_E_joins (l : Launch) (dC : Nat → ClassId) (dI : Nat → Nat → Nat) (a : Nat → Nat) (k : Nat → ClassId) (E_count : Int32) (E_from : (Nat → Int32)) (E_to : (Nat → Int32)) (p1 : Int32) (p2 : Int32) (p3 : Int32) (y : Int32) (hf : fE_joins E_from E_to p1 p2 p3 = some y) : Met l y_E_joins ws_E_joins ({ frames := 0, cells := 0, slots := 0, locals := 0 }) (og_Pr [.ref (a 5), .int p1, .int p2, .int p3] (dC, dI) (wE_joins a k E_count E_from E_to) (tE_joins k)) (vp_Si (fun x => x = y)) 0 0 (fun _ => False) := by
  refine Met.ofW (cc := b_E_joins) (maxL := 4) (ret := (some .boolean)) (by decide) rfl ?_
  intro p e s m args below meth c s₁ B hml hv
  obtain ⟨rfl, hP, hK⟩ := hv
  have hx := B.exec
  have hb := B.bytes
  have hr := B.returns
  have hts0 := atoms_spec (ws := ws_E_joins) B.pre
  have hts : ∀ w ∈ og_tb, w.before _ s = true := fun w h => hts0 w (List.mem_cons_of_mem _ h)
  have hown : s.vm.findClass R_E = some m.cls := findClass_of_methodNamed B.named
  have hlocks := B.notSynchronized
  have hl := lv_entry ([.ref (a 5), .int p1, .int p2, .int p3]) (n := 4) (Nat.le_of_ble_eq_true rfl)
  rw [lg_entry_eq]
  generalize (lg_sl ([.ref (a 5), .int p1, .int p2, .int p3]) ++ List.replicate (4 - (lg_sl ([.ref (a 5), .int p1, .int p2, .int p3])).length) Slot.unset).toArray = ls at hl ⊢
  have hl : lv_has ls 4 [(0, .ref (a 5)), (1, .int p1), (2, .int p2), (3, .int p3)] := hl
  rw [fE_joins] at hf
  refine lv_aload_n hx hb d_E_joins_0 rfl (lv_at hl 0 rfl) ?_
  refine vg_E_from (v := .ref (a 6)) hx hb hts hown hK hP 0 rfl (hts _ tb_19) rfl d_E_joins_1 ?_
  refine lv_iload_n hx hb d_E_joins_4 rfl (lv_at hl 1 rfl) ?_
  obtain ⟨h_5, hf⟩ := og_ck_s hf
  refine va_iald hx hb hK hP 1 0 rfl rfl h_5 d_E_joins_5 ?_
  refine lv_iload_n hx hb d_E_joins_6 rfl (lv_at hl 2 rfl) ?_
  refine lv_icmp_ne (tgt := 24) hx hb d_E_joins_7 (by decide) (fun c_7 => ?_) (fun c_7 => ?_)
  · have hf := og_f hf c_7
    refine lv_iconst (v := 0) hx hb d_E_joins_24 (by decide) ?_
    obtain rfl := Option.some.inj hf
    exact W.zret (v := 0) hx hb hr rfl (fun t ht hW => ⟨0, rfl, rfl, ht⟩) (fun _ h => absurd h List.not_mem_nil) d_E_joins_25
  · have hf := og_t hf c_7
    refine lv_aload_n hx hb d_E_joins_10 rfl (lv_at hl 0 rfl) ?_
    refine vg_E_to (v := .ref (a 7)) hx hb hts hown hK hP 0 rfl (hts _ tb_20) rfl d_E_joins_11 ?_
    refine lv_iload_n hx hb d_E_joins_14 rfl (lv_at hl 1 rfl) ?_
    obtain ⟨h_15, hf⟩ := og_ck_s hf
    refine va_iald hx hb hK hP 2 1 rfl rfl h_15 d_E_joins_15 ?_
    refine lv_iload_n hx hb d_E_joins_16 rfl (lv_at hl 3 rfl) ?_
    refine lv_icmp_ne (tgt := 24) hx hb d_E_joins_17 (by decide) (fun c_17 => ?_) (fun c_17 => ?_)
    · have hf := og_f hf c_17
      refine lv_iconst (v := 0) hx hb d_E_joins_24 (by decide) ?_
      obtain rfl := Option.some.inj hf
      exact W.zret (v := 0) hx hb hr rfl (fun t ht hW => ⟨0, rfl, rfl, ht⟩) (fun _ h => absurd h List.not_mem_nil) d_E_joins_25
    · have hf := og_t hf c_17
      refine lv_iconst (v := 1) hx hb d_E_joins_20 (by decide) ?_
      refine lv_goto (tgt := 25) hx hb d_E_joins_21 (by decide) ?_
      obtain rfl := Option.some.inj hf
      exact W.zret (v := 1) hx hb hr rfl (fun t ht hW => ⟨1, rfl, rfl, ht⟩) (fun _ h => absurd h List.not_mem_nil) d_E_joins_25
def wE_has (a : Nat → Nat) (k : Nat → ClassId) (E_count : Int32) : va_W := [(a 5, .inr (2, [.int E_count, .ref (a 6), .ref (a 7), .ref (a 8), .ref (a 9), .ref (a 10)]))]
def tE_has (k : Nat → ClassId) : List (ClassId × FieldType) := []
set_option maxHeartbeats 4000000 in
set_option maxRecDepth 100000 in
theorem c_E_has (l : Launch) (dC : Nat → ClassId) (dI : Nat → Nat → Nat) (a : Nat → Nat) (k : Nat → ClassId) (E_count : Int32) (p1 : Int32) (y : Int32) (hf : fE_has E_count p1 = some y) : Met l y_E_has ws_E_has ({ frames := 0, cells := 0, slots := 0, locals := 0 }) (og_Pr [.ref (a 5), .int p1] (dC, dI) (wE_has a k E_count) (tE_has k)) (vp_Si (fun x => x = y)) 0 0 (fun _ => False) := by
  refine Met.ofW (cc := b_E_has) (maxL := 2) (ret := (some .boolean)) (by decide) rfl ?_
  intro p e s m args below meth c s₁ B hml hv
  obtain ⟨rfl, hP, hK⟩ := hv
  have hx := B.exec
  have hb := B.bytes
  have hr := B.returns
  have hts0 := atoms_spec (ws := ws_E_has) B.pre
  have hts : ∀ w ∈ og_tb, w.before _ s = true := fun w h => hts0 w (List.mem_cons_of_mem _ h)
  have hown : s.vm.findClass R_E = some m.cls := findClass_of_methodNamed B.named
  have hlocks := B.notSynchronized
  have hl := lv_entry ([.ref (a 5), .int p1]) (n := 2) (Nat.le_of_ble_eq_true rfl)
  rw [lg_entry_eq]
  generalize (lg_sl ([.ref (a 5), .int p1]) ++ List.replicate (2 - (lg_sl ([.ref (a 5), .int p1])).length) Slot.unset).toArray = ls at hl ⊢
  have hl : lv_has ls 2 [(0, .ref (a 5)), (1, .int p1)] := hl
  rw [fE_has] at hf
  refine lv_iload_n hx hb d_E_has_0 rfl (lv_at hl 1 rfl) ?_
  refine lv_if_lt (tgt := 16) hx hb d_E_has_1 (by decide) (fun c_1 => ?_) (fun c_1 => ?_)
  · have hf := og_t hf c_1
    refine lv_iconst (v := 0) hx hb d_E_has_16 (by decide) ?_
    obtain rfl := Option.some.inj hf
    exact W.zret (v := 0) hx hb hr rfl (fun t ht hW => ⟨0, rfl, rfl, ht⟩) (fun _ h => absurd h List.not_mem_nil) d_E_has_17
  · have hf := og_f hf c_1
    refine lv_iload_n hx hb d_E_has_4 rfl (lv_at hl 1 rfl) ?_
    refine lv_aload_n hx hb d_E_has_5 rfl (lv_at hl 0 rfl) ?_
    refine vg_E_count (v := .int E_count) hx hb hts hown hK hP 0 rfl (hts _ tb_18) rfl d_E_has_6 ?_
    refine lv_icmp_ge (tgt := 16) hx hb d_E_has_9 (by decide) (fun c_9 => ?_) (fun c_9 => ?_)
    · have hf := og_t hf c_9
      refine lv_iconst (v := 0) hx hb d_E_has_16 (by decide) ?_
      obtain rfl := Option.some.inj hf
      exact W.zret (v := 0) hx hb hr rfl (fun t ht hW => ⟨0, rfl, rfl, ht⟩) (fun _ h => absurd h List.not_mem_nil) d_E_has_17
    · have hf := og_f hf c_9
      refine lv_iconst (v := 1) hx hb d_E_has_12 (by decide) ?_
      refine lv_goto (tgt := 17) hx hb d_E_has_13 (by decide) ?_
      obtain rfl := Option.some.inj hf
      exact W.zret (v := 1) hx hb hr rfl (fun t ht hW => ⟨1, rfl, rfl, ht⟩) (fun _ h => absurd h List.not_mem_nil) d_E_has_17
def wE_drop (a : Nat → Nat) (k : Nat → ClassId) (E_count : Int32) (E_gone : (Nat → Int32)) : va_W := [(a 5, .inr (2, [.int E_count, .ref (a 6), .ref (a 7), .ref (a 8), .ref (a 9), .ref (a 10)])), (a 10, .inl (k 10, 160, .inl E_gone))]
def tE_drop (k : Nat → ClassId) : List (ClassId × FieldType) := [(k 10, .boolean)]
set_option maxHeartbeats 4000000 in
set_option maxRecDepth 100000 in
theorem c_E_drop (l : Launch) (dC : Nat → ClassId) (dI : Nat → Nat → Nat) (a : Nat → Nat) (k : Nat → ClassId) (sz : Nat) (E_count : Int32) (E_gone : (Nat → Int32)) (p1 : Int32) (y : Int32 × (Nat → Int32)) (hf : fE_drop E_count E_gone p1 = some y) : Met l y_E_drop ws_E_drop ({ frames := 1, cells := 0, slots := 0, locals := 21 }) (og_Pw [.ref (a 5), .int p1] (dC, dI) (wE_drop a k E_count E_gone) (tE_drop k) sz) (og_Qi (dC, dI) (wE_drop a k E_count y.2) (tE_drop k) y.1 (va_A (wE_drop a k E_count E_gone) sz)) 0 0 (va_A (wE_drop a k E_count E_gone) sz) := by
  refine Met.ofW (cc := b_E_drop) (maxL := 2) (ret := (some .boolean)) (by decide) rfl ?_
  intro p e s m args below meth c s₁ B hml hv
  obtain ⟨rfl, hsz, hP, hK, hD0⟩ := hv
  have hx := B.exec
  have hb := B.bytes
  have hr := B.returns
  have hts0 := atoms_spec (ws := ws_E_drop) B.pre
  have hts : ∀ w ∈ og_tb, w.before _ s = true := fun w h => hts0 w (List.mem_cons_of_mem _ h)
  have hown : s.vm.findClass R_E = some m.cls := findClass_of_methodNamed B.named
  have hlocks := B.notSynchronized
  subst hsz
  have hD := hD0.self (sz := s.heap.size)
  generalize hAe : va_A (wE_drop a k E_count E_gone) s.heap.size = A at hD ⊢
  have hA : ∀ q : Nat, s.heap.size ≤ q → A q := fun q h => by rw [← hAe]; exact Or.inr h
  have hS : va_S A s.heap s.heap [] := va_S.rf
  have hl := lv_entry ([.ref (a 5), .int p1]) (n := 2) (Nat.le_of_ble_eq_true rfl)
  rw [lg_entry_eq]
  generalize (lg_sl ([.ref (a 5), .int p1]) ++ List.replicate (2 - (lg_sl ([.ref (a 5), .int p1])).length) Slot.unset).toArray = ls at hl ⊢
  have hl : lv_has ls 2 [(0, .ref (a 5)), (1, .int p1)] := hl
  rw [fE_drop] at hf
  refine lv_aload_n hx hb d_E_drop_0 rfl (lv_at hl 0 rfl) ?_
  refine lv_iload_n hx hb d_E_drop_1 rfl (lv_at hl 1 rfl) ?_
  obtain ⟨r2, e_2, hf⟩ := og_b hf
  refine og_rV (w := (wE_drop a k E_count E_gone)) (As := [.int p1]) (rest := []) (ci := 2) (q0 := 0) ⟨hx, hb, hml, hown, hts⟩ (c_E_has l dC dI a k E_count p1 r2 e_2) (cwV 1 hts (og_gV tb_33 tb_34 tb_35 tb_31 tb_36) rfl rfl rfl (by decide +kernel) ⟨Nat.le_of_ble_eq_true rfl, Nat.le_of_ble_eq_true rfl⟩) hK hP [0] [] ⟨rfl, trivial⟩ rfl rfl rfl rfl rfl hl.1 rfl (Nat.le_of_ble_eq_true rfl) d_E_drop_2 ⟨Nat.zero_le _, Nat.zero_le _⟩ ?_
  refine lv_if_eq (tgt := 17) hx hb d_E_drop_5 (by decide) (fun c_5 => ?_) (fun c_5 => ?_)
  · have hf := og_t hf c_5
    refine lv_iconst (v := 0) hx hb d_E_drop_17 (by decide) ?_
    obtain rfl := Option.some.inj hf
    exact W.zret (v := 0) hx hb hr rfl (fun t ht hW => ⟨⟨0, (), rfl, rfl, by rw [ht]; exact hP, va_K.moved hW.alike hK, hD⟩, hS.F ht⟩) hS.2.2 d_E_drop_18
  · have hf := og_f hf c_5
    refine lv_aload_n hx hb d_E_drop_8 rfl (lv_at hl 0 rfl) ?_
    refine vg_E_gone (v := .ref (a 10)) hx hb hts hown hK hP 0 rfl (hts _ tb_37) rfl d_E_drop_9 ?_
    refine lv_iload_n hx hb d_E_drop_12 rfl (lv_at hl 1 rfl) ?_
    obtain ⟨h_13, hf⟩ := og_ck_s hf
    refine va_zald hx hb hK hP 1 0 rfl rfl h_13 d_E_drop_13 ?_
    refine lv_if_eq (tgt := 19) hx hb d_E_drop_14 (by decide) (fun c_14 => ?_) (fun c_14 => ?_)
    · have hf := og_t hf c_14
      refine lv_aload_n hx hb d_E_drop_19 rfl (lv_at hl 0 rfl) ?_
      refine vg_E_gone (v := .ref (a 10)) hx hb hts hown hK hP 0 rfl (hts _ tb_37) rfl d_E_drop_20 ?_
      refine lv_iload_n hx hb d_E_drop_23 rfl (lv_at hl 1 rfl) ?_
      refine lv_iconst (v := 1) hx hb d_E_drop_24 (by decide) ?_
      obtain ⟨h_25, hf⟩ := og_ck_s hf
      refine va_zast hx hb hK hP hD hS 1 0 rfl rfl h_25 d_E_drop_25 (fun H locs hP hD hS => ?_)
      have hP : va_P (dC, dI) vwCl (wE_drop a k E_count (upd E_gone p1.toNatClampNeg (vp_nar .boolean 1))) H := hP
      have hD : va_D A (wE_drop a k E_count (upd E_gone p1.toNatClampNeg (vp_nar .boolean 1))) := hD
      refine lv_iconst (v := 1) hx hb d_E_drop_26 (by decide) ?_
      obtain rfl := Option.some.inj hf
      exact W.zret (v := 1) hx hb hr rfl (fun t ht hW => ⟨⟨1, (), rfl, rfl, by rw [ht]; exact hP, va_K.moved hW.alike hK, hD⟩, hS.F ht⟩) hS.2.2 d_E_drop_27
    · have hf := og_f hf c_14
      refine lv_iconst (v := 0) hx hb d_E_drop_17 (by decide) ?_
      obtain rfl := Option.some.inj hf
      exact W.zret (v := 0) hx hb hr rfl (fun t ht hW => ⟨⟨0, (), rfl, rfl, by rw [ht]; exact hP, va_K.moved hW.alike hK, hD⟩, hS.F ht⟩) hS.2.2 d_E_drop_18
def wE_dropBetween (a : Nat → Nat) (k : Nat → ClassId) (E_count : Int32) (E_from : (Nat → Int32)) (E_to : (Nat → Int32)) (E_gone : (Nat → Int32)) : va_W := [(a 5, .inr (2, [.int E_count, .ref (a 6), .ref (a 7), .ref (a 8), .ref (a 9), .ref (a 10)])), (a 6, .inl (k 6, 160, .inl E_from)), (a 7, .inl (k 7, 160, .inl E_to)), (a 10, .inl (k 10, 160, .inl E_gone))]
def tE_dropBetween (k : Nat → ClassId) : List (ClassId × FieldType) := [(k 6, .int), (k 7, .int), (k 10, .boolean)]
set_option maxHeartbeats 4000000 in
set_option maxRecDepth 100000 in
theorem c_E_dropBetween (l : Launch) (dC : Nat → ClassId) (dI : Nat → Nat → Nat) (a : Nat → Nat) (k : Nat → ClassId) (sz : Nat) (E_count : Int32) (E_from : (Nat → Int32)) (E_to : (Nat → Int32)) (E_gone : (Nat → Int32)) (p1 : Int32) (p2 : Int32) (y : Int32 × (Nat → Int32)) (hf : fE_dropBetween E_count E_from E_to E_gone p1 p2 = some y) : Met l y_E_dropBetween ws_E_dropBetween ({ frames := 2, cells := 0, slots := 0, locals := 42 }) (og_Pw [.ref (a 5), .int p1, .int p2] (dC, dI) (wE_dropBetween a k E_count E_from E_to E_gone) (tE_dropBetween k) sz) (og_Qi (dC, dI) (wE_dropBetween a k E_count E_from E_to y.2) (tE_dropBetween k) y.1 (va_A (wE_dropBetween a k E_count E_from E_to E_gone) sz)) 0 0 (va_A (wE_dropBetween a k E_count E_from E_to E_gone) sz) := by
  refine Met.ofW (cc := b_E_dropBetween) (maxL := 5) (ret := (some .int)) (by decide) rfl ?_
  intro p e s m args below meth c s₁ B hml hv
  obtain ⟨rfl, hsz, hP, hK, hD0⟩ := hv
  have hx := B.exec
  have hb := B.bytes
  have hr := B.returns
  have hts0 := atoms_spec (ws := ws_E_dropBetween) B.pre
  have hts : ∀ w ∈ og_tb, w.before _ s = true := fun w h => hts0 w (List.mem_cons_of_mem _ h)
  have hown : s.vm.findClass R_E = some m.cls := findClass_of_methodNamed B.named
  have hlocks := B.notSynchronized
  subst hsz
  have hD := hD0.self (sz := s.heap.size)
  generalize hAe : va_A (wE_dropBetween a k E_count E_from E_to E_gone) s.heap.size = A at hD ⊢
  have hA : ∀ q : Nat, s.heap.size ≤ q → A q := fun q h => by rw [← hAe]; exact Or.inr h
  have hS : va_S A s.heap s.heap [] := va_S.rf
  have hl := lv_entry ([.ref (a 5), .int p1, .int p2]) (n := 5) (Nat.le_of_ble_eq_true rfl)
  rw [lg_entry_eq]
  generalize (lg_sl ([.ref (a 5), .int p1, .int p2]) ++ List.replicate (5 - (lg_sl ([.ref (a 5), .int p1, .int p2])).length) Slot.unset).toArray = ls at hl ⊢
  have hl : lv_has ls 5 [(0, .ref (a 5)), (1, .int p1), (2, .int p2)] := hl
  rw [fE_dropBetween] at hf
  refine lv_iconst (v := 0) hx hb d_E_dropBetween_0 (by decide) ?_
  refine lv_istore_n (lv' := [(3, .int 0), (0, .ref (a 5)), (1, .int p1), (2, .int p2)]) hx hb d_E_dropBetween_1 rfl hl (by decide) rfl (fun ls hl => ?_)
  refine lv_iconst (v := 0) hx hb d_E_dropBetween_2 (by decide) ?_
  refine lv_istore (lv' := [(4, .int 0), (3, .int 0), (0, .ref (a 5)), (1, .int p1), (2, .int p2)]) hx hb d_E_dropBetween_3 hl (by decide) rfl (fun ls hl => ?_)
  have k5_43 : ∀ (v3 : Int32) (E_gone : (Nat → Int32)) (H : Heap) (locs : List Loc) (ls : Array Slot), fE_dropBetween_K5_43 v3 E_gone = some y → va_P (dC, dI) vwCl (wE_dropBetween a k E_count E_from E_to E_gone) H → va_D A (wE_dropBetween a k E_count E_from E_to E_gone) → va_S A s.heap H locs → lv_has ls 5 [(3, .int v3)] → W p l e (headSpec ws_E_dropBetween { frames := 2, cells := 0, slots := 0, locals := 42 }).room s m ([.ref (a 5), .int p1, .int p2] : List Value).toArray below meth c H locs 0 0 (MQ below (og_Qi (dC, dI) (wE_dropBetween a k E_count E_from E_to y.2) (tE_dropBetween k) y.1 A) ([.ref (a 5), .int p1, .int p2] : List Value).toArray s 0 0 A) (F0 m 43 ls []) := by
    intro v3 E_gone H locs ls hf hP hD hS hl
    rw [fE_dropBetween_K5_43] at hf
    refine lv_iload_n hx hb d_E_dropBetween_43 rfl (lv_at hl 0 rfl) ?_
    obtain rfl := Option.some.inj hf
    exact W.iret (v := v3) hx hb hr (fun t ht hW => ⟨⟨v3, (), rfl, rfl, by rw [ht]; exact hP, va_K.moved hW.alike hK, hD⟩, hS.F ht⟩) hS.2.2 d_E_dropBetween_44
  have lp5 : ∀ (n5 : Nat) (v3 : Int32) (v4 : Int32) (E_gone : (Nat → Int32)) (H : Heap) (locs : List Loc) (ls : Array Slot), fE_dropBetween_L5 fE_dropBetween_K5_43 E_count E_from E_to p1 p2 n5 v3 v4 E_gone = some y → va_P (dC, dI) vwCl (wE_dropBetween a k E_count E_from E_to E_gone) H → va_D A (wE_dropBetween a k E_count E_from E_to E_gone) → va_S A s.heap H locs → lv_has ls 5 [(0, .ref (a 5)), (1, .int p1), (2, .int p2), (3, .int v3), (4, .int v4)] → W p l e (headSpec ws_E_dropBetween { frames := 2, cells := 0, slots := 0, locals := 42 }).room s m ([.ref (a 5), .int p1, .int p2] : List Value).toArray below meth c H locs 0 0 (MQ below (og_Qi (dC, dI) (wE_dropBetween a k E_count E_from E_to y.2) (tE_dropBetween k) y.1 A) ([.ref (a 5), .int p1, .int p2] : List Value).toArray s 0 0 A) (F0 m 5 ls []) := by
    intro n5
    induction n5 with
    | zero => intro v3 v4 E_gone H locs ls hf hP hD hS hl; rw [fE_dropBetween_L5] at hf; cases hf
    | succ n5 ih5 =>
      intro v3 v4 E_gone H locs ls hf hP hD hS hl
      rw [fE_dropBetween_L5] at hf
      refine lv_iload hx hb d_E_dropBetween_5 (lv_at hl 4 rfl) ?_
      refine lv_aload_n hx hb d_E_dropBetween_7 rfl (lv_at hl 0 rfl) ?_
      refine vg_E_count (v := .int E_count) hx hb hts hown hK hP 0 rfl (hts _ tb_18) rfl d_E_dropBetween_8 ?_
      refine lv_icmp_ge (tgt := 43) hx hb d_E_dropBetween_11 (by decide) (fun c_11 => ?_) (fun c_11 => ?_)
      · have hf := og_t hf c_11
        exact k5_43 v3 E_gone _ _ _ hf hP hD hS (lv_sub hl [3] rfl)
      · have hf := og_f hf c_11
        refine lv_aload_n hx hb d_E_dropBetween_14 rfl (lv_at hl 0 rfl) ?_
        refine lv_iload hx hb d_E_dropBetween_15 (lv_at hl 4 rfl) ?_
        refine lv_iload_n hx hb d_E_dropBetween_17 rfl (lv_at hl 1 rfl) ?_
        refine lv_iload_n hx hb d_E_dropBetween_18 rfl (lv_at hl 2 rfl) ?_
        obtain ⟨r19, e_19, hf⟩ := og_b hf
        refine og_rV (w := (wE_dropBetween a k E_count E_from E_to E_gone)) (As := [.int v4, .int p1, .int p2]) (rest := []) (ci := 2) (q0 := 0) ⟨hx, hb, hml, hown, hts⟩ (c_E_joins l dC dI a k E_count E_from E_to v4 p1 p2 r19 e_19) (cwV 3 hts (og_gV tb_38 tb_39 tb_40 tb_31 tb_41) rfl rfl rfl (by decide +kernel) ⟨Nat.le_of_ble_eq_true rfl, Nat.le_of_ble_eq_true rfl⟩) hK hP [0, 1, 2] [0, 1] ⟨rfl, rfl, rfl, trivial⟩ rfl rfl rfl rfl rfl hl.1 rfl (Nat.le_of_ble_eq_true rfl) d_E_dropBetween_19 ⟨Nat.zero_le _, Nat.zero_le _⟩ ?_
        refine lv_if_eq (tgt := 37) hx hb d_E_dropBetween_22 (by decide) (fun c_22 => ?_) (fun c_22 => ?_)
        · have hf := og_t hf c_22
          refine lv_iinc (v := (v4 + 1)) (lv' := [(4, .int (v4 + 1)), (0, .ref (a 5)), (1, .int p1), (2, .int p2), (3, .int v3)]) hx hb d_E_dropBetween_37 hl (k := 4) rfl rfl (by decide) rfl (fun ls hl => ?_)
          refine lv_goto (tgt := 5) hx hb d_E_dropBetween_40 (by decide) ?_
          exact ih5 v3 (v4 + 1) E_gone _ _ _ hf hP hD hS (lv_sub hl [1, 2, 3, 4, 0] rfl)
        · have hf := og_f hf c_22
          refine lv_aload_n hx hb d_E_dropBetween_25 rfl (lv_at hl 0 rfl) ?_
          refine lv_iload hx hb d_E_dropBetween_26 (lv_at hl 4 rfl) ?_
          obtain ⟨r28, e_28, hf⟩ := og_b hf
          refine og_wV (w := (wE_dropBetween a k E_count E_from E_to E_gone)) (w2 := (wE_dropBetween a k E_count E_from E_to r28.2)) (As := [.int v4]) (rest := []) (ci := 2) (q0 := 0) ⟨hx, hb, hml, hown, hts⟩ (c_E_drop l dC dI a k _ E_count E_gone v4 r28 e_28) (cwV 1 hts (og_gV tb_42 tb_43 tb_44 tb_31 tb_45) rfl rfl rfl (by decide +kernel) ⟨Nat.le_of_ble_eq_true rfl, Nat.le_of_ble_eq_true rfl⟩) hK hP hD hS hA [0, 3] [2] ⟨rfl, rfl, trivial⟩ rfl [(true, 0), (false, 1), (false, 2), (true, 1)] ⟨rfl, rfl, rfl, rfl, rfl, rfl, trivial⟩ ⟨rfl, rfl, rfl, rfl, trivial⟩ (by decide) rfl rfl rfl rfl hl.1 rfl (Nat.le_of_ble_eq_true rfl) d_E_dropBetween_28 ⟨Nat.zero_le _, Nat.zero_le _⟩ (fun H locs hP hD hS => ?_)
          refine lv_if_eq (tgt := 37) hx hb d_E_dropBetween_31 (by decide) (fun c_31 => ?_) (fun c_31 => ?_)
          · have hf := og_t hf c_31
            refine lv_iinc (v := (v4 + 1)) (lv' := [(4, .int (v4 + 1)), (0, .ref (a 5)), (1, .int p1), (2, .int p2), (3, .int v3)]) hx hb d_E_dropBetween_37 hl (k := 4) rfl rfl (by decide) rfl (fun ls hl => ?_)
            refine lv_goto (tgt := 5) hx hb d_E_dropBetween_40 (by decide) ?_
            exact ih5 v3 (v4 + 1) r28.2 _ _ _ hf hP hD hS (lv_sub hl [1, 2, 3, 4, 0] rfl)
          · have hf := og_f hf c_31
            refine lv_iinc (v := (v3 + 1)) (lv' := [(3, .int (v3 + 1)), (0, .ref (a 5)), (1, .int p1), (2, .int p2), (4, .int v4)]) hx hb d_E_dropBetween_34 hl (k := 3) rfl rfl (by decide) rfl (fun ls hl => ?_)
            refine lv_iinc (v := (v4 + 1)) (lv' := [(4, .int (v4 + 1)), (3, .int (v3 + 1)), (0, .ref (a 5)), (1, .int p1), (2, .int p2)]) hx hb d_E_dropBetween_37 hl (k := 4) rfl rfl (by decide) rfl (fun ls hl => ?_)
            refine lv_goto (tgt := 5) hx hb d_E_dropBetween_40 (by decide) ?_
            exact ih5 (v3 + 1) (v4 + 1) r28.2 _ _ _ hf hP hD hS (lv_sub hl [2, 3, 4, 1, 0] rfl)
  exact lp5 FU 0 0 E_gone _ _ _ hf hP hD hS (lv_sub hl [2, 3, 4, 1, 0] rfl)
def wE_isIn (a : Nat → Nat) (k : Nat → ClassId) (E_count : Int32) (E_configurations : (Nat → Int32)) (E_gone : (Nat → Int32)) : va_W := [(a 5, .inr (2, [.int E_count, .ref (a 6), .ref (a 7), .ref (a 8), .ref (a 9), .ref (a 10)])), (a 9, .inl (k 9, 160, .inl E_configurations)), (a 10, .inl (k 10, 160, .inl E_gone))]
def tE_isIn (k : Nat → ClassId) : List (ClassId × FieldType) := [(k 9, .int), (k 10, .boolean)]
set_option maxHeartbeats 4000000 in
set_option maxRecDepth 100000 in
theorem c_E_isIn (l : Launch) (dC : Nat → ClassId) (dI : Nat → Nat → Nat) (a : Nat → Nat) (k : Nat → ClassId) (E_count : Int32) (E_configurations : (Nat → Int32)) (E_gone : (Nat → Int32)) (p1 : Int32) (p2 : Int32) (y : Int32) (hf : fE_isIn E_count E_configurations E_gone p1 p2 = some y) : Met l y_E_isIn ws_E_isIn ({ frames := 1, cells := 0, slots := 0, locals := 21 }) (og_Pr [.ref (a 5), .int p1, .int p2] (dC, dI) (wE_isIn a k E_count E_configurations E_gone) (tE_isIn k)) (vp_Si (fun x => x = y)) 0 0 (fun _ => False) := by
  refine Met.ofW (cc := b_E_isIn) (maxL := 3) (ret := (some .boolean)) (by decide) rfl ?_
  intro p e s m args below meth c s₁ B hml hv
  obtain ⟨rfl, hP, hK⟩ := hv
  have hx := B.exec
  have hb := B.bytes
  have hr := B.returns
  have hts0 := atoms_spec (ws := ws_E_isIn) B.pre
  have hts : ∀ w ∈ og_tb, w.before _ s = true := fun w h => hts0 w (List.mem_cons_of_mem _ h)
  have hown : s.vm.findClass R_E = some m.cls := findClass_of_methodNamed B.named
  have hlocks := B.notSynchronized
  have hl := lv_entry ([.ref (a 5), .int p1, .int p2]) (n := 3) (Nat.le_of_ble_eq_true rfl)
  rw [lg_entry_eq]
  generalize (lg_sl ([.ref (a 5), .int p1, .int p2]) ++ List.replicate (3 - (lg_sl ([.ref (a 5), .int p1, .int p2])).length) Slot.unset).toArray = ls at hl ⊢
  have hl : lv_has ls 3 [(0, .ref (a 5)), (1, .int p1), (2, .int p2)] := hl
  rw [fE_isIn] at hf
  refine lv_aload_n hx hb d_E_isIn_0 rfl (lv_at hl 0 rfl) ?_
  refine lv_iload_n hx hb d_E_isIn_1 rfl (lv_at hl 1 rfl) ?_
  obtain ⟨r2, e_2, hf⟩ := og_b hf
  refine og_rV (w := (wE_isIn a k E_count E_configurations E_gone)) (As := [.int p1]) (rest := []) (ci := 2) (q0 := 0) ⟨hx, hb, hml, hown, hts⟩ (c_E_has l dC dI a k E_count p1 r2 e_2) (cwV 1 hts (og_gV tb_33 tb_34 tb_35 tb_31 tb_36) rfl rfl rfl (by decide +kernel) ⟨Nat.le_of_ble_eq_true rfl, Nat.le_of_ble_eq_true rfl⟩) hK hP [0] [] ⟨rfl, trivial⟩ rfl rfl rfl rfl rfl hl.1 rfl (Nat.le_of_ble_eq_true rfl) d_E_isIn_2 ⟨Nat.zero_le _, Nat.zero_le _⟩ ?_
  refine lv_if_eq (tgt := 34) hx hb d_E_isIn_5 (by decide) (fun c_5 => ?_) (fun c_5 => ?_)
  · have hf := og_t hf c_5
    refine lv_iconst (v := 0) hx hb d_E_isIn_34 (by decide) ?_
    obtain rfl := Option.some.inj hf
    exact W.zret (v := 0) hx hb hr rfl (fun t ht hW => ⟨0, rfl, rfl, ht⟩) (fun _ h => absurd h List.not_mem_nil) d_E_isIn_35
  · have hf := og_f hf c_5
    refine lv_aload_n hx hb d_E_isIn_8 rfl (lv_at hl 0 rfl) ?_
    refine vg_E_gone (v := .ref (a 10)) hx hb hts hown hK hP 0 rfl (hts _ tb_37) rfl d_E_isIn_9 ?_
    refine lv_iload_n hx hb d_E_isIn_12 rfl (lv_at hl 1 rfl) ?_
    obtain ⟨h_13, hf⟩ := og_ck_s hf
    refine va_zald hx hb hK hP 2 1 rfl rfl h_13 d_E_isIn_13 ?_
    refine lv_if_ne (tgt := 34) hx hb d_E_isIn_14 (by decide) (fun c_14 => ?_) (fun c_14 => ?_)
    · have hf := og_f hf c_14
      refine lv_iconst (v := 0) hx hb d_E_isIn_34 (by decide) ?_
      obtain rfl := Option.some.inj hf
      exact W.zret (v := 0) hx hb hr rfl (fun t ht hW => ⟨0, rfl, rfl, ht⟩) (fun _ h => absurd h List.not_mem_nil) d_E_isIn_35
    · have hf := og_t hf c_14
      refine lv_aload_n hx hb d_E_isIn_17 rfl (lv_at hl 0 rfl) ?_
      refine vg_E_configurations (v := .ref (a 9)) hx hb hts hown hK hP 0 rfl (hts _ tb_22) rfl d_E_isIn_18 ?_
      refine lv_iload_n hx hb d_E_isIn_21 rfl (lv_at hl 1 rfl) ?_
      obtain ⟨h_22, hf⟩ := og_ck_s hf
      refine va_iald hx hb hK hP 1 0 rfl rfl h_22 d_E_isIn_22 ?_
      refine lv_iload_n hx hb d_E_isIn_23 rfl (lv_at hl 2 rfl) ?_
      refine lv_ishr hx hb d_E_isIn_24 ?_
      refine lv_iconst (v := 1) hx hb d_E_isIn_25 (by decide) ?_
      refine lv_iand hx hb d_E_isIn_26 ?_
      refine lv_if_eq (tgt := 34) hx hb d_E_isIn_27 (by decide) (fun c_27 => ?_) (fun c_27 => ?_)
      · have hf := og_t hf c_27
        refine lv_iconst (v := 0) hx hb d_E_isIn_34 (by decide) ?_
        obtain rfl := Option.some.inj hf
        exact W.zret (v := 0) hx hb hr rfl (fun t ht hW => ⟨0, rfl, rfl, ht⟩) (fun _ h => absurd h List.not_mem_nil) d_E_isIn_35
      · have hf := og_f hf c_27
        refine lv_iconst (v := 1) hx hb d_E_isIn_30 (by decide) ?_
        refine lv_goto (tgt := 35) hx hb d_E_isIn_31 (by decide) ?_
        obtain rfl := Option.some.inj hf
        exact W.zret (v := 1) hx hb hr rfl (fun t ht hW => ⟨1, rfl, rfl, ht⟩) (fun _ h => absurd h List.not_mem_nil) d_E_isIn_35
def wE_leastPlaced (a : Nat → Nat) (k : Nat → ClassId) (E_count : Int32) (E_from : (Nat → Int32)) (E_to : (Nat → Int32)) (E_places : (Nat → Int32)) (E_configurations : (Nat → Int32)) (E_gone : (Nat → Int32)) : va_W := [(a 5, .inr (2, [.int E_count, .ref (a 6), .ref (a 7), .ref (a 8), .ref (a 9), .ref (a 10)])), (a 6, .inl (k 6, 160, .inl E_from)), (a 7, .inl (k 7, 160, .inl E_to)), (a 8, .inl (k 8, 160, .inl E_places)), (a 9, .inl (k 9, 160, .inl E_configurations)), (a 10, .inl (k 10, 160, .inl E_gone))]
def tE_leastPlaced (k : Nat → ClassId) : List (ClassId × FieldType) := [(k 6, .int), (k 7, .int), (k 8, .int), (k 9, .int), (k 10, .boolean)]
set_option maxHeartbeats 4000000 in
set_option maxRecDepth 100000 in
theorem c_E_leastPlaced (l : Launch) (dC : Nat → ClassId) (dI : Nat → Nat → Nat) (a : Nat → Nat) (k : Nat → ClassId) (E_count : Int32) (E_from : (Nat → Int32)) (E_to : (Nat → Int32)) (E_places : (Nat → Int32)) (E_configurations : (Nat → Int32)) (E_gone : (Nat → Int32)) (p1 : Int32) (p2 : Int32) (p3 : Int32) (y : Int32) (hf : fE_leastPlaced E_count E_from E_to E_places E_configurations E_gone p1 p2 p3 = some y) : Met l y_E_leastPlaced ws_E_leastPlaced ({ frames := 2, cells := 0, slots := 0, locals := 43 }) (og_Pr [.ref (a 5), .int p1, .int p2, .int p3] (dC, dI) (wE_leastPlaced a k E_count E_from E_to E_places E_configurations E_gone) (tE_leastPlaced k)) (vp_Si (fun x => x = y)) 0 0 (fun _ => False) := by
  refine Met.ofW (cc := b_E_leastPlaced) (maxL := 6) (ret := (some .int)) (by decide) rfl ?_
  intro p e s m args below meth c s₁ B hml hv
  obtain ⟨rfl, hP, hK⟩ := hv
  have hx := B.exec
  have hb := B.bytes
  have hr := B.returns
  have hts0 := atoms_spec (ws := ws_E_leastPlaced) B.pre
  have hts : ∀ w ∈ og_tb, w.before _ s = true := fun w h => hts0 w (List.mem_cons_of_mem _ h)
  have hown : s.vm.findClass R_E = some m.cls := findClass_of_methodNamed B.named
  have hlocks := B.notSynchronized
  have hl := lv_entry ([.ref (a 5), .int p1, .int p2, .int p3]) (n := 6) (Nat.le_of_ble_eq_true rfl)
  rw [lg_entry_eq]
  generalize (lg_sl ([.ref (a 5), .int p1, .int p2, .int p3]) ++ List.replicate (6 - (lg_sl ([.ref (a 5), .int p1, .int p2, .int p3])).length) Slot.unset).toArray = ls at hl ⊢
  have hl : lv_has ls 6 [(0, .ref (a 5)), (1, .int p1), (2, .int p2), (3, .int p3)] := hl
  rw [fE_leastPlaced] at hf
  refine lv_iconst (v := (-1)) hx hb d_E_leastPlaced_0 (by decide) ?_
  refine lv_istore (lv' := [(4, .int (-1)), (0, .ref (a 5)), (1, .int p1), (2, .int p2), (3, .int p3)]) hx hb d_E_leastPlaced_1 hl (by decide) rfl (fun ls hl => ?_)
  refine lv_iconst (v := 0) hx hb d_E_leastPlaced_3 (by decide) ?_
  refine lv_istore (lv' := [(5, .int 0), (4, .int (-1)), (0, .ref (a 5)), (1, .int p1), (2, .int p2), (3, .int p3)]) hx hb d_E_leastPlaced_4 hl (by decide) rfl (fun ls hl => ?_)
  have k6_69 : ∀ (v4 : Int32) (ls : Array Slot), fE_leastPlaced_K6_69 v4 = some y → lv_has ls 6 [(4, .int v4)] → W p l e (headSpec ws_E_leastPlaced { frames := 2, cells := 0, slots := 0, locals := 43 }).room s m ([.ref (a 5), .int p1, .int p2, .int p3] : List Value).toArray below meth c s.heap [] 0 0 (MQ below (vp_Si (fun x => x = y)) ([.ref (a 5), .int p1, .int p2, .int p3] : List Value).toArray s 0 0 (fun _ => False)) (F0 m 69 ls []) := by
    intro v4 ls hf hl
    rw [fE_leastPlaced_K6_69] at hf
    refine lv_iload hx hb d_E_leastPlaced_69 (lv_at hl 0 rfl) ?_
    obtain rfl := Option.some.inj hf
    exact W.iret (v := v4) hx hb hr (fun t ht hW => ⟨v4, rfl, rfl, ht⟩) (fun _ h => absurd h List.not_mem_nil) d_E_leastPlaced_71
  have lp6 : ∀ (n6 : Nat) (v4 : Int32) (v5 : Int32) (ls : Array Slot), fE_leastPlaced_L6 fE_leastPlaced_K6_69 E_count E_from E_to E_places E_configurations E_gone p1 p2 p3 n6 v4 v5 = some y → lv_has ls 6 [(0, .ref (a 5)), (1, .int p1), (2, .int p2), (3, .int p3), (4, .int v4), (5, .int v5)] → W p l e (headSpec ws_E_leastPlaced { frames := 2, cells := 0, slots := 0, locals := 43 }).room s m ([.ref (a 5), .int p1, .int p2, .int p3] : List Value).toArray below meth c s.heap [] 0 0 (MQ below (vp_Si (fun x => x = y)) ([.ref (a 5), .int p1, .int p2, .int p3] : List Value).toArray s 0 0 (fun _ => False)) (F0 m 6 ls []) := by
    intro n6
    induction n6 with
    | zero => intro v4 v5 ls hf hl; rw [fE_leastPlaced_L6] at hf; cases hf
    | succ n6 ih6 =>
      intro v4 v5 ls hf hl
      rw [fE_leastPlaced_L6] at hf
      refine lv_iload hx hb d_E_leastPlaced_6 (lv_at hl 5 rfl) ?_
      refine lv_aload_n hx hb d_E_leastPlaced_8 rfl (lv_at hl 0 rfl) ?_
      refine vg_E_count (v := .int E_count) hx hb hts hown hK hP 0 rfl (hts _ tb_18) rfl d_E_leastPlaced_9 ?_
      refine lv_icmp_ge (tgt := 69) hx hb d_E_leastPlaced_12 (by decide) (fun c_12 => ?_) (fun c_12 => ?_)
      · have hf := og_t hf c_12
        exact k6_69 v4 _ hf (lv_sub hl [4] rfl)
      · have hf := og_f hf c_12
        refine lv_aload_n hx hb d_E_leastPlaced_15 rfl (lv_at hl 0 rfl) ?_
        refine lv_iload hx hb d_E_leastPlaced_16 (lv_at hl 5 rfl) ?_
        refine lv_iload_n hx hb d_E_leastPlaced_18 rfl (lv_at hl 1 rfl) ?_
        refine lv_iload_n hx hb d_E_leastPlaced_19 rfl (lv_at hl 2 rfl) ?_
        obtain ⟨r20, e_20, hf⟩ := og_b hf
        refine og_rV (w := (wE_leastPlaced a k E_count E_from E_to E_places E_configurations E_gone)) (As := [.int v5, .int p1, .int p2]) (rest := []) (ci := 2) (q0 := 0) ⟨hx, hb, hml, hown, hts⟩ (c_E_joins l dC dI a k E_count E_from E_to v5 p1 p2 r20 e_20) (cwV 3 hts (og_gV tb_38 tb_39 tb_40 tb_31 tb_41) rfl rfl rfl (by decide +kernel) ⟨Nat.le_of_ble_eq_true rfl, Nat.le_of_ble_eq_true rfl⟩) hK hP [0, 1, 2] [0, 1] ⟨rfl, rfl, rfl, trivial⟩ rfl rfl rfl rfl rfl hl.1 rfl (Nat.le_of_ble_eq_true rfl) d_E_leastPlaced_20 ⟨Nat.zero_le _, Nat.zero_le _⟩ ?_
        refine lv_if_eq (tgt := 63) hx hb d_E_leastPlaced_23 (by decide) (fun c_23 => ?_) (fun c_23 => ?_)
        · have hf := og_t hf c_23
          refine lv_iinc (v := (v5 + 1)) (lv' := [(5, .int (v5 + 1)), (0, .ref (a 5)), (1, .int p1), (2, .int p2), (3, .int p3), (4, .int v4)]) hx hb d_E_leastPlaced_63 hl (k := 5) rfl rfl (by decide) rfl (fun ls hl => ?_)
          refine lv_goto (tgt := 6) hx hb d_E_leastPlaced_66 (by decide) ?_
          exact ih6 v4 (v5 + 1) _ hf (lv_sub hl [1, 2, 3, 4, 5, 0] rfl)
        · have hf := og_f hf c_23
          refine lv_aload_n hx hb d_E_leastPlaced_26 rfl (lv_at hl 0 rfl) ?_
          refine lv_iload hx hb d_E_leastPlaced_27 (lv_at hl 5 rfl) ?_
          refine lv_iload_n hx hb d_E_leastPlaced_29 rfl (lv_at hl 3 rfl) ?_
          obtain ⟨r30, e_30, hf⟩ := og_b hf
          refine og_rV (w := (wE_leastPlaced a k E_count E_from E_to E_places E_configurations E_gone)) (As := [.int v5, .int p3]) (rest := []) (ci := 2) (q0 := 0) ⟨hx, hb, hml, hown, hts⟩ (c_E_isIn l dC dI a k E_count E_configurations E_gone v5 p3 r30 e_30) (cwV 2 hts (og_gV tb_133 tb_81 tb_82 tb_31 tb_83) rfl rfl rfl (by decide +kernel) ⟨Nat.le_of_ble_eq_true rfl, Nat.le_of_ble_eq_true rfl⟩) hK hP [0, 4, 5] [3, 4] ⟨rfl, rfl, rfl, trivial⟩ rfl rfl rfl rfl rfl hl.1 rfl (Nat.le_of_ble_eq_true rfl) d_E_leastPlaced_30 ⟨Nat.zero_le _, Nat.zero_le _⟩ ?_
          refine lv_if_eq (tgt := 63) hx hb d_E_leastPlaced_33 (by decide) (fun c_33 => ?_) (fun c_33 => ?_)
          · have hf := og_t hf c_33
            refine lv_iinc (v := (v5 + 1)) (lv' := [(5, .int (v5 + 1)), (0, .ref (a 5)), (1, .int p1), (2, .int p2), (3, .int p3), (4, .int v4)]) hx hb d_E_leastPlaced_63 hl (k := 5) rfl rfl (by decide) rfl (fun ls hl => ?_)
            refine lv_goto (tgt := 6) hx hb d_E_leastPlaced_66 (by decide) ?_
            exact ih6 v4 (v5 + 1) _ hf (lv_sub hl [1, 2, 3, 4, 5, 0] rfl)
          · have hf := og_f hf c_33
            refine lv_iload hx hb d_E_leastPlaced_36 (lv_at hl 4 rfl) ?_
            refine lv_iconst (v := (-1)) hx hb d_E_leastPlaced_38 (by decide) ?_
            refine lv_icmp_eq (tgt := 59) hx hb d_E_leastPlaced_39 (by decide) (fun c_39 => ?_) (fun c_39 => ?_)
            · have hf := og_t hf c_39
              refine lv_iload hx hb d_E_leastPlaced_59 (lv_at hl 5 rfl) ?_
              refine lv_istore (lv' := [(4, .int v5), (0, .ref (a 5)), (1, .int p1), (2, .int p2), (3, .int p3), (5, .int v5)]) hx hb d_E_leastPlaced_61 hl (by decide) rfl (fun ls hl => ?_)
              refine lv_iinc (v := (v5 + 1)) (lv' := [(5, .int (v5 + 1)), (4, .int v5), (0, .ref (a 5)), (1, .int p1), (2, .int p2), (3, .int p3)]) hx hb d_E_leastPlaced_63 hl (k := 5) rfl rfl (by decide) rfl (fun ls hl => ?_)
              refine lv_goto (tgt := 6) hx hb d_E_leastPlaced_66 (by decide) ?_
              exact ih6 v5 (v5 + 1) _ hf (lv_sub hl [2, 3, 4, 5, 1, 0] rfl)
            · have hf := og_f hf c_39
              refine lv_aload_n hx hb d_E_leastPlaced_42 rfl (lv_at hl 0 rfl) ?_
              refine vg_E_places (v := .ref (a 8)) hx hb hts hown hK hP 0 rfl (hts _ tb_21) rfl d_E_leastPlaced_43 ?_
              refine lv_iload hx hb d_E_leastPlaced_46 (lv_at hl 5 rfl) ?_
              obtain ⟨h_48, hf⟩ := og_ck_s hf
              refine va_iald hx hb hK hP 3 2 rfl rfl h_48 d_E_leastPlaced_48 ?_
              refine lv_aload_n hx hb d_E_leastPlaced_49 rfl (lv_at hl 0 rfl) ?_
              refine vg_E_places (v := .ref (a 8)) hx hb hts hown hK hP 0 rfl (hts _ tb_21) rfl d_E_leastPlaced_50 ?_
              refine lv_iload hx hb d_E_leastPlaced_53 (lv_at hl 4 rfl) ?_
              obtain ⟨h_55, hf⟩ := og_ck_s hf
              refine va_iald hx hb hK hP 3 2 rfl rfl h_55 d_E_leastPlaced_55 ?_
              refine lv_icmp_ge (tgt := 63) hx hb d_E_leastPlaced_56 (by decide) (fun c_56 => ?_) (fun c_56 => ?_)
              · have hf := og_t hf c_56
                refine lv_iinc (v := (v5 + 1)) (lv' := [(5, .int (v5 + 1)), (0, .ref (a 5)), (1, .int p1), (2, .int p2), (3, .int p3), (4, .int v4)]) hx hb d_E_leastPlaced_63 hl (k := 5) rfl rfl (by decide) rfl (fun ls hl => ?_)
                refine lv_goto (tgt := 6) hx hb d_E_leastPlaced_66 (by decide) ?_
                exact ih6 v4 (v5 + 1) _ hf (lv_sub hl [1, 2, 3, 4, 5, 0] rfl)
              · have hf := og_f hf c_56
                refine lv_iload hx hb d_E_leastPlaced_59 (lv_at hl 5 rfl) ?_
                refine lv_istore (lv' := [(4, .int v5), (0, .ref (a 5)), (1, .int p1), (2, .int p2), (3, .int p3), (5, .int v5)]) hx hb d_E_leastPlaced_61 hl (by decide) rfl (fun ls hl => ?_)
                refine lv_iinc (v := (v5 + 1)) (lv' := [(5, .int (v5 + 1)), (4, .int v5), (0, .ref (a 5)), (1, .int p1), (2, .int p2), (3, .int p3)]) hx hb d_E_leastPlaced_63 hl (k := 5) rfl rfl (by decide) rfl (fun ls hl => ?_)
                refine lv_goto (tgt := 6) hx hb d_E_leastPlaced_66 (by decide) ?_
                exact ih6 v5 (v5 + 1) _ hf (lv_sub hl [2, 3, 4, 5, 1, 0] rfl)
  exact lp6 FU (-1) 0 _ hf (lv_sub hl [2, 3, 4, 5, 1, 0] rfl)
def wE_configurationsBetween (a : Nat → Nat) (k : Nat → ClassId) (E_count : Int32) (E_from : (Nat → Int32)) (E_to : (Nat → Int32)) (E_configurations : (Nat → Int32)) (E_gone : (Nat → Int32)) : va_W := [(a 5, .inr (2, [.int E_count, .ref (a 6), .ref (a 7), .ref (a 8), .ref (a 9), .ref (a 10)])), (a 6, .inl (k 6, 160, .inl E_from)), (a 7, .inl (k 7, 160, .inl E_to)), (a 9, .inl (k 9, 160, .inl E_configurations)), (a 10, .inl (k 10, 160, .inl E_gone))]
def tE_configurationsBetween (k : Nat → ClassId) : List (ClassId × FieldType) := [(k 6, .int), (k 7, .int), (k 9, .int), (k 10, .boolean)]
set_option maxHeartbeats 4000000 in
set_option maxRecDepth 100000 in
theorem c_E_configurationsBetween (l : Launch) (dC : Nat → ClassId) (dI : Nat → Nat → Nat) (a : Nat → Nat) (k : Nat → ClassId) (E_count : Int32) (E_from : (Nat → Int32)) (E_to : (Nat → Int32)) (E_configurations : (Nat → Int32)) (E_gone : (Nat → Int32)) (p1 : Int32) (p2 : Int32) (y : Int32) (hf : fE_configurationsBetween E_count E_from E_to E_configurations E_gone p1 p2 = some y) : Met l y_E_configurationsBetween ws_E_configurationsBetween ({ frames := 1, cells := 0, slots := 0, locals := 23 }) (og_Pr [.ref (a 5), .int p1, .int p2] (dC, dI) (wE_configurationsBetween a k E_count E_from E_to E_configurations E_gone) (tE_configurationsBetween k)) (vp_Si (fun x => x = y)) 0 0 (fun _ => False) := by
  refine Met.ofW (cc := b_E_configurationsBetween) (maxL := 5) (ret := (some .int)) (by decide) rfl ?_
  intro p e s m args below meth c s₁ B hml hv
  obtain ⟨rfl, hP, hK⟩ := hv
  have hx := B.exec
  have hb := B.bytes
  have hr := B.returns
  have hts0 := atoms_spec (ws := ws_E_configurationsBetween) B.pre
  have hts : ∀ w ∈ og_tb, w.before _ s = true := fun w h => hts0 w (List.mem_cons_of_mem _ h)
  have hown : s.vm.findClass R_E = some m.cls := findClass_of_methodNamed B.named
  have hlocks := B.notSynchronized
  have hl := lv_entry ([.ref (a 5), .int p1, .int p2]) (n := 5) (Nat.le_of_ble_eq_true rfl)
  rw [lg_entry_eq]
  generalize (lg_sl ([.ref (a 5), .int p1, .int p2]) ++ List.replicate (5 - (lg_sl ([.ref (a 5), .int p1, .int p2])).length) Slot.unset).toArray = ls at hl ⊢
  have hl : lv_has ls 5 [(0, .ref (a 5)), (1, .int p1), (2, .int p2)] := hl
  rw [fE_configurationsBetween] at hf
  refine lv_iconst (v := 0) hx hb d_E_configurationsBetween_0 (by decide) ?_
  refine lv_istore_n (lv' := [(3, .int 0), (0, .ref (a 5)), (1, .int p1), (2, .int p2)]) hx hb d_E_configurationsBetween_1 rfl hl (by decide) rfl (fun ls hl => ?_)
  refine lv_iconst (v := 0) hx hb d_E_configurationsBetween_2 (by decide) ?_
  refine lv_istore (lv' := [(4, .int 0), (3, .int 0), (0, .ref (a 5)), (1, .int p1), (2, .int p2)]) hx hb d_E_configurationsBetween_3 hl (by decide) rfl (fun ls hl => ?_)
  have k5_51 : ∀ (v3 : Int32) (ls : Array Slot), fE_configurationsBetween_K5_51 v3 = some y → lv_has ls 5 [(3, .int v3)] → W p l e (headSpec ws_E_configurationsBetween { frames := 1, cells := 0, slots := 0, locals := 23 }).room s m ([.ref (a 5), .int p1, .int p2] : List Value).toArray below meth c s.heap [] 0 0 (MQ below (vp_Si (fun x => x = y)) ([.ref (a 5), .int p1, .int p2] : List Value).toArray s 0 0 (fun _ => False)) (F0 m 51 ls []) := by
    intro v3 ls hf hl
    rw [fE_configurationsBetween_K5_51] at hf
    refine lv_iload_n hx hb d_E_configurationsBetween_51 rfl (lv_at hl 0 rfl) ?_
    obtain rfl := Option.some.inj hf
    exact W.iret (v := v3) hx hb hr (fun t ht hW => ⟨v3, rfl, rfl, ht⟩) (fun _ h => absurd h List.not_mem_nil) d_E_configurationsBetween_52
  have lp5 : ∀ (n5 : Nat) (v3 : Int32) (v4 : Int32) (ls : Array Slot), fE_configurationsBetween_L5 fE_configurationsBetween_K5_51 E_count E_from E_to E_configurations E_gone p1 p2 n5 v3 v4 = some y → lv_has ls 5 [(0, .ref (a 5)), (1, .int p1), (2, .int p2), (3, .int v3), (4, .int v4)] → W p l e (headSpec ws_E_configurationsBetween { frames := 1, cells := 0, slots := 0, locals := 23 }).room s m ([.ref (a 5), .int p1, .int p2] : List Value).toArray below meth c s.heap [] 0 0 (MQ below (vp_Si (fun x => x = y)) ([.ref (a 5), .int p1, .int p2] : List Value).toArray s 0 0 (fun _ => False)) (F0 m 5 ls []) := by
    intro n5
    induction n5 with
    | zero => intro v3 v4 ls hf hl; rw [fE_configurationsBetween_L5] at hf; cases hf
    | succ n5 ih5 =>
      intro v3 v4 ls hf hl
      rw [fE_configurationsBetween_L5] at hf
      refine lv_iload hx hb d_E_configurationsBetween_5 (lv_at hl 4 rfl) ?_
      refine lv_aload_n hx hb d_E_configurationsBetween_7 rfl (lv_at hl 0 rfl) ?_
      refine vg_E_count (v := .int E_count) hx hb hts hown hK hP 0 rfl (hts _ tb_18) rfl d_E_configurationsBetween_8 ?_
      refine lv_icmp_ge (tgt := 51) hx hb d_E_configurationsBetween_11 (by decide) (fun c_11 => ?_) (fun c_11 => ?_)
      · have hf := og_t hf c_11
        exact k5_51 v3 _ hf (lv_sub hl [3] rfl)
      · have hf := og_f hf c_11
        refine lv_aload_n hx hb d_E_configurationsBetween_14 rfl (lv_at hl 0 rfl) ?_
        refine lv_iload hx hb d_E_configurationsBetween_15 (lv_at hl 4 rfl) ?_
        refine lv_iload_n hx hb d_E_configurationsBetween_17 rfl (lv_at hl 1 rfl) ?_
        refine lv_iload_n hx hb d_E_configurationsBetween_18 rfl (lv_at hl 2 rfl) ?_
        obtain ⟨r19, e_19, hf⟩ := og_b hf
        refine og_rV (w := (wE_configurationsBetween a k E_count E_from E_to E_configurations E_gone)) (As := [.int v4, .int p1, .int p2]) (rest := []) (ci := 2) (q0 := 0) ⟨hx, hb, hml, hown, hts⟩ (c_E_joins l dC dI a k E_count E_from E_to v4 p1 p2 r19 e_19) (cwV 3 hts (og_gV tb_38 tb_39 tb_40 tb_31 tb_41) rfl rfl rfl (by decide +kernel) ⟨Nat.le_of_ble_eq_true rfl, Nat.le_of_ble_eq_true rfl⟩) hK hP [0, 1, 2] [0, 1] ⟨rfl, rfl, rfl, trivial⟩ rfl rfl rfl rfl rfl hl.1 rfl (Nat.le_of_ble_eq_true rfl) d_E_configurationsBetween_19 ⟨Nat.zero_le _, Nat.zero_le _⟩ ?_
        refine lv_if_eq (tgt := 45) hx hb d_E_configurationsBetween_22 (by decide) (fun c_22 => ?_) (fun c_22 => ?_)
        · have hf := og_t hf c_22
          refine lv_iinc (v := (v4 + 1)) (lv' := [(4, .int (v4 + 1)), (0, .ref (a 5)), (1, .int p1), (2, .int p2), (3, .int v3)]) hx hb d_E_configurationsBetween_45 hl (k := 4) rfl rfl (by decide) rfl (fun ls hl => ?_)
          refine lv_goto (tgt := 5) hx hb d_E_configurationsBetween_48 (by decide) ?_
          exact ih5 v3 (v4 + 1) _ hf (lv_sub hl [1, 2, 3, 4, 0] rfl)
        · have hf := og_f hf c_22
          refine lv_aload_n hx hb d_E_configurationsBetween_25 rfl (lv_at hl 0 rfl) ?_
          refine vg_E_gone (v := .ref (a 10)) hx hb hts hown hK hP 0 rfl (hts _ tb_37) rfl d_E_configurationsBetween_26 ?_
          refine lv_iload hx hb d_E_configurationsBetween_29 (lv_at hl 4 rfl) ?_
          obtain ⟨h_31, hf⟩ := og_ck_s hf
          refine va_zald hx hb hK hP 4 3 rfl rfl h_31 d_E_configurationsBetween_31 ?_
          refine lv_if_ne (tgt := 45) hx hb d_E_configurationsBetween_32 (by decide) (fun c_32 => ?_) (fun c_32 => ?_)
          · have hf := og_f hf c_32
            refine lv_iinc (v := (v4 + 1)) (lv' := [(4, .int (v4 + 1)), (0, .ref (a 5)), (1, .int p1), (2, .int p2), (3, .int v3)]) hx hb d_E_configurationsBetween_45 hl (k := 4) rfl rfl (by decide) rfl (fun ls hl => ?_)
            refine lv_goto (tgt := 5) hx hb d_E_configurationsBetween_48 (by decide) ?_
            exact ih5 v3 (v4 + 1) _ hf (lv_sub hl [1, 2, 3, 4, 0] rfl)
          · have hf := og_t hf c_32
            refine lv_iload_n hx hb d_E_configurationsBetween_35 rfl (lv_at hl 3 rfl) ?_
            refine lv_aload_n hx hb d_E_configurationsBetween_36 rfl (lv_at hl 0 rfl) ?_
            refine vg_E_configurations (v := .ref (a 9)) hx hb hts hown hK hP 0 rfl (hts _ tb_22) rfl d_E_configurationsBetween_37 ?_
            refine lv_iload hx hb d_E_configurationsBetween_40 (lv_at hl 4 rfl) ?_
            obtain ⟨h_42, hf⟩ := og_ck_s hf
            refine va_iald hx hb hK hP 3 2 rfl rfl h_42 d_E_configurationsBetween_42 ?_
            refine lv_ior hx hb d_E_configurationsBetween_43 ?_
            refine lv_istore_n (lv' := [(3, .int (v3 ||| (E_configurations v4.toNatClampNeg))), (0, .ref (a 5)), (1, .int p1), (2, .int p2), (4, .int v4)]) hx hb d_E_configurationsBetween_44 rfl hl (by decide) rfl (fun ls hl => ?_)
            refine lv_iinc (v := (v4 + 1)) (lv' := [(4, .int (v4 + 1)), (3, .int (v3 ||| (E_configurations v4.toNatClampNeg))), (0, .ref (a 5)), (1, .int p1), (2, .int p2)]) hx hb d_E_configurationsBetween_45 hl (k := 4) rfl rfl (by decide) rfl (fun ls hl => ?_)
            refine lv_goto (tgt := 5) hx hb d_E_configurationsBetween_48 (by decide) ?_
            exact ih5 (v3 ||| (E_configurations v4.toNatClampNeg)) (v4 + 1) _ hf (lv_sub hl [2, 3, 4, 1, 0] rfl)
  exact lp5 FU 0 0 _ hf (lv_sub hl [2, 3, 4, 1, 0] rfl)
def wE_placeOf (a : Nat → Nat) (k : Nat → ClassId) (E_count : Int32) (E_places : (Nat → Int32)) : va_W := [(a 5, .inr (2, [.int E_count, .ref (a 6), .ref (a 7), .ref (a 8), .ref (a 9), .ref (a 10)])), (a 8, .inl (k 8, 160, .inl E_places))]
def tE_placeOf (k : Nat → ClassId) : List (ClassId × FieldType) := [(k 8, .int)]
set_option maxHeartbeats 4000000 in
set_option maxRecDepth 100000 in
theorem c_E_placeOf (l : Launch) (dC : Nat → ClassId) (dI : Nat → Nat → Nat) (a : Nat → Nat) (k : Nat → ClassId) (E_count : Int32) (E_places : (Nat → Int32)) (p1 : Int32) (y : Int32) (hf : fE_placeOf E_count E_places p1 = some y) : Met l y_E_placeOf ws_E_placeOf ({ frames := 1, cells := 0, slots := 0, locals := 21 }) (og_Pr [.ref (a 5), .int p1] (dC, dI) (wE_placeOf a k E_count E_places) (tE_placeOf k)) (vp_Si (fun x => x = y)) 0 0 (fun _ => False) := by
  refine Met.ofW (cc := b_E_placeOf) (maxL := 2) (ret := (some .int)) (by decide) rfl ?_
  intro p e s m args below meth c s₁ B hml hv
  obtain ⟨rfl, hP, hK⟩ := hv
  have hx := B.exec
  have hb := B.bytes
  have hr := B.returns
  have hts0 := atoms_spec (ws := ws_E_placeOf) B.pre
  have hts : ∀ w ∈ og_tb, w.before _ s = true := fun w h => hts0 w (List.mem_cons_of_mem _ h)
  have hown : s.vm.findClass R_E = some m.cls := findClass_of_methodNamed B.named
  have hlocks := B.notSynchronized
  have hl := lv_entry ([.ref (a 5), .int p1]) (n := 2) (Nat.le_of_ble_eq_true rfl)
  rw [lg_entry_eq]
  generalize (lg_sl ([.ref (a 5), .int p1]) ++ List.replicate (2 - (lg_sl ([.ref (a 5), .int p1])).length) Slot.unset).toArray = ls at hl ⊢
  have hl : lv_has ls 2 [(0, .ref (a 5)), (1, .int p1)] := hl
  rw [fE_placeOf] at hf
  refine lv_aload_n hx hb d_E_placeOf_0 rfl (lv_at hl 0 rfl) ?_
  refine lv_iload_n hx hb d_E_placeOf_1 rfl (lv_at hl 1 rfl) ?_
  obtain ⟨r2, e_2, hf⟩ := og_b hf
  refine og_rV (w := (wE_placeOf a k E_count E_places)) (As := [.int p1]) (rest := []) (ci := 2) (q0 := 0) ⟨hx, hb, hml, hown, hts⟩ (c_E_has l dC dI a k E_count p1 r2 e_2) (cwV 1 hts (og_gV tb_33 tb_34 tb_35 tb_31 tb_36) rfl rfl rfl (by decide +kernel) ⟨Nat.le_of_ble_eq_true rfl, Nat.le_of_ble_eq_true rfl⟩) hK hP [0] [] ⟨rfl, trivial⟩ rfl rfl rfl rfl rfl hl.1 rfl (Nat.le_of_ble_eq_true rfl) d_E_placeOf_2 ⟨Nat.zero_le _, Nat.zero_le _⟩ ?_
  refine lv_if_eq (tgt := 17) hx hb d_E_placeOf_5 (by decide) (fun c_5 => ?_) (fun c_5 => ?_)
  · have hf := og_t hf c_5
    refine lv_iconst (v := (-1)) hx hb d_E_placeOf_17 (by decide) ?_
    obtain rfl := Option.some.inj hf
    exact W.iret (v := (-1)) hx hb hr (fun t ht hW => ⟨(-1), rfl, rfl, ht⟩) (fun _ h => absurd h List.not_mem_nil) d_E_placeOf_18
  · have hf := og_f hf c_5
    refine lv_aload_n hx hb d_E_placeOf_8 rfl (lv_at hl 0 rfl) ?_
    refine vg_E_places (v := .ref (a 8)) hx hb hts hown hK hP 0 rfl (hts _ tb_21) rfl d_E_placeOf_9 ?_
    refine lv_iload_n hx hb d_E_placeOf_12 rfl (lv_at hl 1 rfl) ?_
    obtain ⟨h_13, hf⟩ := og_ck_s hf
    refine va_iald hx hb hK hP 1 0 rfl rfl h_13 d_E_placeOf_13 ?_
    refine lv_goto (tgt := 18) hx hb d_E_placeOf_14 (by decide) ?_
    obtain rfl := Option.some.inj hf
    exact W.iret (v := (E_places p1.toNatClampNeg)) hx hb hr (fun t ht hW => ⟨(E_places p1.toNatClampNeg), rfl, rfl, ht⟩) (fun _ h => absurd h List.not_mem_nil) d_E_placeOf_18
