def wK_isNamed (a : Nat → Nat) (k : Nat → ClassId) (K_count : Int32) (K_names : (Nat → Int32)) : va_W := [(a 1, .inr (1, [.int K_count, .ref (a 2), .ref (a 3), .ref (a 4)])), (a 2, .inl (k 2, 40, .inl K_names))]
def tK_isNamed (k : Nat → ClassId) : List (ClassId × FieldType) := [(k 2, .int)]
set_option maxHeartbeats 4000000 in
set_option maxRecDepth 100000 in
theorem c_K_isNamed (l : Launch) (dC : Nat → ClassId) (dI : Nat → Nat → Nat) (a : Nat → Nat) (k : Nat → ClassId) (K_count : Int32) (K_names : (Nat → Int32)) (p1 : Int32) (y : Int32) (hf : fK_isNamed K_count K_names p1 = some y) : Met l y_K_isNamed ws_K_isNamed ({ frames := 0, cells := 0, slots := 0, locals := 0 }) (og_Pr [.ref (a 1), .int p1] (dC, dI) (wK_isNamed a k K_count K_names) (tK_isNamed k)) (vp_Si (fun x => x = y)) 0 0 (fun _ => False) := by
  refine Met.ofW (cc := b_K_isNamed) (maxL := 3) (ret := (some .boolean)) (by decide) rfl ?_
  intro p e s m args below meth c s₁ B hml hv
  obtain ⟨rfl, hP, hK⟩ := hv
  have hx := B.exec
  have hb := B.bytes
  have hr := B.returns
  have hts0 := atoms_spec (ws := ws_K_isNamed) B.pre
  have hts : ∀ w ∈ og_tb, w.before _ s = true := fun w h => hts0 w (List.mem_cons_of_mem _ h)
  have hown : s.vm.findClass R_K = some m.cls := findClass_of_methodNamed B.named
  have hlocks := B.notSynchronized
  have hl := lv_entry ([.ref (a 1), .int p1]) (n := 3) (Nat.le_of_ble_eq_true rfl)
  rw [lg_entry_eq]
  generalize (lg_sl ([.ref (a 1), .int p1]) ++ List.replicate (3 - (lg_sl ([.ref (a 1), .int p1])).length) Slot.unset).toArray = ls at hl ⊢
  have hl : lv_has ls 3 [(0, .ref (a 1)), (1, .int p1)] := hl
  rw [fK_isNamed] at hf
  refine lv_iconst (v := 0) hx hb d_K_isNamed_0 (by decide) ?_
  refine lv_istore_n (lv' := [(2, .int 0), (0, .ref (a 1)), (1, .int p1)]) hx hb d_K_isNamed_1 rfl hl (by decide) rfl (fun ls hl => ?_)
  have k2_28 : ∀ (ls : Array Slot), fK_isNamed_K2_28 = some y → lv_has ls 3 [] → W p l e (headSpec ws_K_isNamed { frames := 0, cells := 0, slots := 0, locals := 0 }).room s m ([.ref (a 1), .int p1] : List Value).toArray below meth c s.heap [] 0 0 (MQ below (vp_Si (fun x => x = y)) ([.ref (a 1), .int p1] : List Value).toArray s 0 0 (fun _ => False)) (F0 m 28 ls []) := by
    intro  ls hf hl
    rw [fK_isNamed_K2_28] at hf
    refine lv_iconst (v := 0) hx hb d_K_isNamed_28 (by decide) ?_
    obtain rfl := Option.some.inj hf
    exact W.zret (v := 0) hx hb hr rfl (fun t ht hW => ⟨0, rfl, rfl, ht⟩) (fun _ h => absurd h List.not_mem_nil) d_K_isNamed_29
  have lp2 : ∀ (n2 : Nat) (v2 : Int32) (ls : Array Slot), fK_isNamed_L2 fK_isNamed_K2_28 K_count K_names p1 n2 v2 = some y → lv_has ls 3 [(0, .ref (a 1)), (1, .int p1), (2, .int v2)] → W p l e (headSpec ws_K_isNamed { frames := 0, cells := 0, slots := 0, locals := 0 }).room s m ([.ref (a 1), .int p1] : List Value).toArray below meth c s.heap [] 0 0 (MQ below (vp_Si (fun x => x = y)) ([.ref (a 1), .int p1] : List Value).toArray s 0 0 (fun _ => False)) (F0 m 2 ls []) := by
    intro n2
    induction n2 with
    | zero => intro v2 ls hf hl; rw [fK_isNamed_L2] at hf; cases hf
    | succ n2 ih2 =>
      intro v2 ls hf hl
      rw [fK_isNamed_L2] at hf
      refine lv_iload_n hx hb d_K_isNamed_2 rfl (lv_at hl 2 rfl) ?_
      refine lv_aload_n hx hb d_K_isNamed_3 rfl (lv_at hl 0 rfl) ?_
      refine vg_K_count (v := .int K_count) hx hb hts hown hK hP 0 rfl (hts _ tb_0) rfl d_K_isNamed_4 ?_
      refine lv_icmp_ge (tgt := 28) hx hb d_K_isNamed_7 (by decide) (fun c_7 => ?_) (fun c_7 => ?_)
      · have hf := og_t hf c_7
        exact k2_28  _ hf (lv_sub hl [] rfl)
      · have hf := og_f hf c_7
        refine lv_aload_n hx hb d_K_isNamed_10 rfl (lv_at hl 0 rfl) ?_
        refine vg_K_names (v := .ref (a 2)) hx hb hts hown hK hP 0 rfl (hts _ tb_1) rfl d_K_isNamed_11 ?_
        refine lv_iload_n hx hb d_K_isNamed_14 rfl (lv_at hl 2 rfl) ?_
        obtain ⟨h_15, hf⟩ := og_ck_s hf
        refine va_iald hx hb hK hP 1 0 rfl rfl h_15 d_K_isNamed_15 ?_
        refine lv_iload_n hx hb d_K_isNamed_16 rfl (lv_at hl 1 rfl) ?_
        refine lv_icmp_ne (tgt := 22) hx hb d_K_isNamed_17 (by decide) (fun c_17 => ?_) (fun c_17 => ?_)
        · have hf := og_f hf c_17
          refine lv_iinc (v := (v2 + 1)) (lv' := [(2, .int (v2 + 1)), (0, .ref (a 1)), (1, .int p1)]) hx hb d_K_isNamed_22 hl (k := 2) rfl rfl (by decide) rfl (fun ls hl => ?_)
          refine lv_goto (tgt := 2) hx hb d_K_isNamed_25 (by decide) ?_
          exact ih2 (v2 + 1) _ hf (lv_sub hl [1, 2, 0] rfl)
        · have hf := og_t hf c_17
          refine lv_iconst (v := 1) hx hb d_K_isNamed_20 (by decide) ?_
          obtain rfl := Option.some.inj hf
          exact W.zret (v := 1) hx hb hr rfl (fun t ht hW => ⟨1, rfl, rfl, ht⟩) (fun _ h => absurd h List.not_mem_nil) d_K_isNamed_21
  exact lp2 FU 0 _ hf (lv_sub hl [1, 2, 0] rfl)
def wK_insert (a : Nat → Nat) (k : Nat → ClassId) (K_count : Int32) (K_names : (Nat → Int32)) (K_byRank : (Nat → Int32)) (K_rankOf : (Nat → Int32)) : va_W := [(a 1, .inr (1, [.int K_count, .ref (a 2), .ref (a 3), .ref (a 4)])), (a 2, .inl (k 2, 40, .inl K_names)), (a 3, .inl (k 3, 40, .inl K_byRank)), (a 4, .inl (k 4, 40, .inl K_rankOf))]
def tK_insert (k : Nat → ClassId) : List (ClassId × FieldType) := [(k 2, .int), (k 3, .int), (k 4, .int)]
set_option maxHeartbeats 4000000 in
set_option maxRecDepth 100000 in
theorem c_K_insert (l : Launch) (dC : Nat → ClassId) (dI : Nat → Nat → Nat) (a : Nat → Nat) (k : Nat → ClassId) (sz : Nat) (K_count : Int32) (K_names : (Nat → Int32)) (K_byRank : (Nat → Int32)) (K_rankOf : (Nat → Int32)) (p1 : Int32) (y : (Nat → Int32) × (Nat → Int32)) (hf : fK_insert K_names K_byRank K_rankOf p1 = some y) : Met l y_K_insert ws_K_insert ({ frames := 0, cells := 0, slots := 0, locals := 0 }) (og_Pw [.ref (a 1), .int p1] (dC, dI) (wK_insert a k K_count K_names K_byRank K_rankOf) (tK_insert k) sz) (og_Qv (dC, dI) (wK_insert a k K_count K_names y.1 y.2) (tK_insert k) (va_A (wK_insert a k K_count K_names K_byRank K_rankOf) sz)) 0 0 (va_A (wK_insert a k K_count K_names K_byRank K_rankOf) sz) := by
  refine Met.ofW (cc := b_K_insert) (maxL := 4) (ret := none) (by decide) rfl ?_
  intro p e s m args below meth c s₁ B hml hv
  obtain ⟨rfl, hsz, hP, hK, hD0⟩ := hv
  have hx := B.exec
  have hb := B.bytes
  have hr := B.returns
  have hts0 := atoms_spec (ws := ws_K_insert) B.pre
  have hts : ∀ w ∈ og_tb, w.before _ s = true := fun w h => hts0 w (List.mem_cons_of_mem _ h)
  have hown : s.vm.findClass R_K = some m.cls := findClass_of_methodNamed B.named
  have hlocks := B.notSynchronized
  subst hsz
  have hD := hD0.self (sz := s.heap.size)
  generalize hAe : va_A (wK_insert a k K_count K_names K_byRank K_rankOf) s.heap.size = A at hD ⊢
  have hA : ∀ q : Nat, s.heap.size ≤ q → A q := fun q h => by rw [← hAe]; exact Or.inr h
  have hS : va_S A s.heap s.heap [] := va_S.rf
  have hl := lv_entry ([.ref (a 1), .int p1]) (n := 4) (Nat.le_of_ble_eq_true rfl)
  rw [lg_entry_eq]
  generalize (lg_sl ([.ref (a 1), .int p1]) ++ List.replicate (4 - (lg_sl ([.ref (a 1), .int p1])).length) Slot.unset).toArray = ls at hl ⊢
  have hl : lv_has ls 4 [(0, .ref (a 1)), (1, .int p1)] := hl
  rw [fK_insert] at hf
  refine lv_iconst (v := 0) hx hb d_K_insert_0 (by decide) ?_
  refine lv_istore_n (lv' := [(2, .int 0), (0, .ref (a 1)), (1, .int p1)]) hx hb d_K_insert_1 rfl hl (by decide) rfl (fun ls hl => ?_)
  refine lv_iconst (v := 0) hx hb d_K_insert_2 (by decide) ?_
  refine lv_istore_n (lv' := [(3, .int 0), (2, .int 0), (0, .ref (a 1)), (1, .int p1)]) hx hb d_K_insert_3 rfl hl (by decide) rfl (fun ls hl => ?_)
  have k4_46 : ∀ (v2 : Int32) (K_rankOf : (Nat → Int32)) (H : Heap) (locs : List Loc) (ls : Array Slot), fK_insert_K4_46 K_byRank p1 v2 K_rankOf = some y → va_P (dC, dI) vwCl (wK_insert a k K_count K_names K_byRank K_rankOf) H → va_D A (wK_insert a k K_count K_names K_byRank K_rankOf) → va_S A s.heap H locs → lv_has ls 4 [(0, .ref (a 1)), (1, .int p1), (2, .int v2)] → W p l e (headSpec ws_K_insert { frames := 0, cells := 0, slots := 0, locals := 0 }).room s m ([.ref (a 1), .int p1] : List Value).toArray below meth c H locs 0 0 (MQ below (og_Qv (dC, dI) (wK_insert a k K_count K_names y.1 y.2) (tK_insert k) A) ([.ref (a 1), .int p1] : List Value).toArray s 0 0 A) (F0 m 46 ls []) := by
    intro v2 K_rankOf H locs ls hf hP hD hS hl
    rw [fK_insert_K4_46] at hf
    refine lv_aload_n hx hb d_K_insert_46 rfl (lv_at hl 0 rfl) ?_
    refine vg_K_rankOf (v := .ref (a 4)) hx hb hts hown hK hP 0 rfl (hts _ tb_2) rfl d_K_insert_47 ?_
    refine lv_iload_n hx hb d_K_insert_50 rfl (lv_at hl 1 rfl) ?_
    refine lv_iload_n hx hb d_K_insert_51 rfl (lv_at hl 2 rfl) ?_
    obtain ⟨h_52, hf⟩ := og_ck_s hf
    refine va_iast hx hb hK hP hD hS 3 2 rfl rfl h_52 d_K_insert_52 (fun H locs hP hD hS => ?_)
    have hP : va_P (dC, dI) vwCl (wK_insert a k K_count K_names K_byRank (upd K_rankOf p1.toNatClampNeg v2)) H := hP
    have hD : va_D A (wK_insert a k K_count K_names K_byRank (upd K_rankOf p1.toNatClampNeg v2)) := hD
    refine lv_iconst (v := 0) hx hb d_K_insert_53 (by decide) ?_
    refine lv_istore_n (lv' := [(3, .int 0), (0, .ref (a 1)), (1, .int p1), (2, .int v2)]) hx hb d_K_insert_54 rfl hl (by decide) rfl (fun ls hl => ?_)
    have k55_78 : ∀ (K_byRank : (Nat → Int32)) (H : Heap) (locs : List Loc) (ls : Array Slot), fK_insert_K55_78 (upd K_rankOf p1.toNatClampNeg v2) K_byRank = some y → va_P (dC, dI) vwCl (wK_insert a k K_count K_names K_byRank (upd K_rankOf p1.toNatClampNeg v2)) H → va_D A (wK_insert a k K_count K_names K_byRank (upd K_rankOf p1.toNatClampNeg v2)) → va_S A s.heap H locs → lv_has ls 4 [] → W p l e (headSpec ws_K_insert { frames := 0, cells := 0, slots := 0, locals := 0 }).room s m ([.ref (a 1), .int p1] : List Value).toArray below meth c H locs 0 0 (MQ below (og_Qv (dC, dI) (wK_insert a k K_count K_names y.1 y.2) (tK_insert k) A) ([.ref (a 1), .int p1] : List Value).toArray s 0 0 A) (F0 m 78 ls []) := by
      intro K_byRank H locs ls hf hP hD hS hl
      rw [fK_insert_K55_78] at hf
      obtain rfl := Option.some.inj hf
      exact W.vret hx hb hr (fun t ht hW => ⟨⟨(), rfl, trivial, by rw [ht]; exact hP, va_K.moved hW.alike hK, hD⟩, hS.F ht⟩) hS.2.2 d_K_insert_78
    have lp55 : ∀ (n55 : Nat) (v3 : Int32) (K_byRank : (Nat → Int32)) (H : Heap) (locs : List Loc) (ls : Array Slot), fK_insert_L55 (fK_insert_K55_78 (upd K_rankOf p1.toNatClampNeg v2)) (upd K_rankOf p1.toNatClampNeg v2) p1 n55 v3 K_byRank = some y → va_P (dC, dI) vwCl (wK_insert a k K_count K_names K_byRank (upd K_rankOf p1.toNatClampNeg v2)) H → va_D A (wK_insert a k K_count K_names K_byRank (upd K_rankOf p1.toNatClampNeg v2)) → va_S A s.heap H locs → lv_has ls 4 [(0, .ref (a 1)), (1, .int p1), (3, .int v3)] → W p l e (headSpec ws_K_insert { frames := 0, cells := 0, slots := 0, locals := 0 }).room s m ([.ref (a 1), .int p1] : List Value).toArray below meth c H locs 0 0 (MQ below (og_Qv (dC, dI) (wK_insert a k K_count K_names y.1 y.2) (tK_insert k) A) ([.ref (a 1), .int p1] : List Value).toArray s 0 0 A) (F0 m 55 ls []) := by
      intro n55
      induction n55 with
      | zero => intro v3 K_byRank H locs ls hf hP hD hS hl; rw [fK_insert_L55] at hf; cases hf
      | succ n55 ih55 =>
        intro v3 K_byRank H locs ls hf hP hD hS hl
        rw [fK_insert_L55] at hf
        refine lv_iload_n hx hb d_K_insert_55 rfl (lv_at hl 2 rfl) ?_
        refine lv_iload_n hx hb d_K_insert_56 rfl (lv_at hl 1 rfl) ?_
        refine lv_icmp_gt (tgt := 78) hx hb d_K_insert_57 (by decide) (fun c_57 => ?_) (fun c_57 => ?_)
        · have hf := og_t hf c_57
          exact k55_78 K_byRank _ _ _ hf hP hD hS (lv_sub hl [] rfl)
        · have hf := og_f hf c_57
          refine lv_aload_n hx hb d_K_insert_60 rfl (lv_at hl 0 rfl) ?_
          refine vg_K_byRank (v := .ref (a 3)) hx hb hts hown hK hP 0 rfl (hts _ tb_3) rfl d_K_insert_61 ?_
          refine lv_aload_n hx hb d_K_insert_64 rfl (lv_at hl 0 rfl) ?_
          refine vg_K_rankOf (v := .ref (a 4)) hx hb hts hown hK hP 0 rfl (hts _ tb_2) rfl d_K_insert_65 ?_
          refine lv_iload_n hx hb d_K_insert_68 rfl (lv_at hl 2 rfl) ?_
          obtain ⟨h_69, hf⟩ := og_ck_s hf
          refine va_iald hx hb hK hP 3 2 rfl rfl h_69 d_K_insert_69 ?_
          refine lv_iload_n hx hb d_K_insert_70 rfl (lv_at hl 2 rfl) ?_
          obtain ⟨h_71, hf⟩ := og_ck_s hf
          refine va_iast hx hb hK hP hD hS 2 1 rfl rfl h_71 d_K_insert_71 (fun H locs hP hD hS => ?_)
          have hP : va_P (dC, dI) vwCl (wK_insert a k K_count K_names (upd K_byRank ((upd K_rankOf p1.toNatClampNeg v2) v3.toNatClampNeg).toNatClampNeg v3) (upd K_rankOf p1.toNatClampNeg v2)) H := hP
          have hD : va_D A (wK_insert a k K_count K_names (upd K_byRank ((upd K_rankOf p1.toNatClampNeg v2) v3.toNatClampNeg).toNatClampNeg v3) (upd K_rankOf p1.toNatClampNeg v2)) := hD
          refine lv_iinc (v := (v3 + 1)) (lv' := [(3, .int (v3 + 1)), (0, .ref (a 1)), (1, .int p1)]) hx hb d_K_insert_72 hl (k := 2) rfl rfl (by decide) rfl (fun ls hl => ?_)
          refine lv_goto (tgt := 55) hx hb d_K_insert_75 (by decide) ?_
          exact ih55 (v3 + 1) (upd K_byRank ((upd K_rankOf p1.toNatClampNeg v2) v3.toNatClampNeg).toNatClampNeg v3) _ _ _ hf hP hD hS (lv_sub hl [1, 2, 0] rfl)
    exact lp55 FU 0 K_byRank _ _ _ hf hP hD hS (lv_sub hl [1, 2, 0] rfl)
  have lp4 : ∀ (n4 : Nat) (v2 : Int32) (v3 : Int32) (K_rankOf : (Nat → Int32)) (H : Heap) (locs : List Loc) (ls : Array Slot), fK_insert_L4 (fK_insert_K4_46 K_byRank p1) K_names p1 n4 v2 v3 K_rankOf = some y → va_P (dC, dI) vwCl (wK_insert a k K_count K_names K_byRank K_rankOf) H → va_D A (wK_insert a k K_count K_names K_byRank K_rankOf) → va_S A s.heap H locs → lv_has ls 4 [(0, .ref (a 1)), (1, .int p1), (2, .int v2), (3, .int v3)] → W p l e (headSpec ws_K_insert { frames := 0, cells := 0, slots := 0, locals := 0 }).room s m ([.ref (a 1), .int p1] : List Value).toArray below meth c H locs 0 0 (MQ below (og_Qv (dC, dI) (wK_insert a k K_count K_names y.1 y.2) (tK_insert k) A) ([.ref (a 1), .int p1] : List Value).toArray s 0 0 A) (F0 m 4 ls []) := by
    intro n4
    induction n4 with
    | zero => intro v2 v3 K_rankOf H locs ls hf hP hD hS hl; rw [fK_insert_L4] at hf; cases hf
    | succ n4 ih4 =>
      intro v2 v3 K_rankOf H locs ls hf hP hD hS hl
      rw [fK_insert_L4] at hf
      refine lv_iload_n hx hb d_K_insert_4 rfl (lv_at hl 3 rfl) ?_
      refine lv_iload_n hx hb d_K_insert_5 rfl (lv_at hl 1 rfl) ?_
      refine lv_icmp_ge (tgt := 46) hx hb d_K_insert_6 (by decide) (fun c_6 => ?_) (fun c_6 => ?_)
      · have hf := og_t hf c_6
        exact k4_46 v2 K_rankOf _ _ _ hf hP hD hS (lv_sub hl [0, 1, 2] rfl)
      · have hf := og_f hf c_6
        refine lv_aload_n hx hb d_K_insert_9 rfl (lv_at hl 0 rfl) ?_
        refine vg_K_names (v := .ref (a 2)) hx hb hts hown hK hP 0 rfl (hts _ tb_1) rfl d_K_insert_10 ?_
        refine lv_iload_n hx hb d_K_insert_13 rfl (lv_at hl 3 rfl) ?_
        obtain ⟨h_14, hf⟩ := og_ck_s hf
        refine va_iald hx hb hK hP 1 0 rfl rfl h_14 d_K_insert_14 ?_
        refine lv_aload_n hx hb d_K_insert_15 rfl (lv_at hl 0 rfl) ?_
        refine vg_K_names (v := .ref (a 2)) hx hb hts hown hK hP 0 rfl (hts _ tb_1) rfl d_K_insert_16 ?_
        refine lv_iload_n hx hb d_K_insert_19 rfl (lv_at hl 1 rfl) ?_
        obtain ⟨h_20, hf⟩ := og_ck_s hf
        refine va_iald hx hb hK hP 1 0 rfl rfl h_20 d_K_insert_20 ?_
        refine lv_icmp_ge (tgt := 30) hx hb d_K_insert_21 (by decide) (fun c_21 => ?_) (fun c_21 => ?_)
        · have hf := og_t hf c_21
          refine lv_aload_n hx hb d_K_insert_30 rfl (lv_at hl 0 rfl) ?_
          refine vg_K_rankOf (v := .ref (a 4)) hx hb hts hown hK hP 0 rfl (hts _ tb_2) rfl d_K_insert_31 ?_
          refine lv_iload_n hx hb d_K_insert_34 rfl (lv_at hl 3 rfl) ?_
          refine lv_dup2_11 hx hb d_K_insert_35 rfl rfl ?_
          obtain ⟨h_36, hf⟩ := og_ck_s hf
          refine va_iald hx hb hK hP 3 2 rfl rfl h_36 d_K_insert_36 ?_
          refine lv_iconst (v := 1) hx hb d_K_insert_37 (by decide) ?_
          refine lv_iadd hx hb d_K_insert_38 ?_
          obtain ⟨h_39, hf⟩ := og_ck_s hf
          refine va_iast hx hb hK hP hD hS 3 2 rfl rfl h_39 d_K_insert_39 (fun H locs hP hD hS => ?_)
          have hP : va_P (dC, dI) vwCl (wK_insert a k K_count K_names K_byRank (upd K_rankOf v3.toNatClampNeg ((K_rankOf v3.toNatClampNeg) + 1))) H := hP
          have hD : va_D A (wK_insert a k K_count K_names K_byRank (upd K_rankOf v3.toNatClampNeg ((K_rankOf v3.toNatClampNeg) + 1))) := hD
          refine lv_iinc (v := (v3 + 1)) (lv' := [(3, .int (v3 + 1)), (0, .ref (a 1)), (1, .int p1), (2, .int v2)]) hx hb d_K_insert_40 hl (k := 3) rfl rfl (by decide) rfl (fun ls hl => ?_)
          refine lv_goto (tgt := 4) hx hb d_K_insert_43 (by decide) ?_
          exact ih4 v2 (v3 + 1) (upd K_rankOf v3.toNatClampNeg ((K_rankOf v3.toNatClampNeg) + 1)) _ _ _ hf hP hD hS (lv_sub hl [1, 2, 3, 0] rfl)
        · have hf := og_f hf c_21
          refine lv_iinc (v := (v2 + 1)) (lv' := [(2, .int (v2 + 1)), (0, .ref (a 1)), (1, .int p1), (3, .int v3)]) hx hb d_K_insert_24 hl (k := 2) rfl rfl (by decide) rfl (fun ls hl => ?_)
          refine lv_goto (tgt := 40) hx hb d_K_insert_27 (by decide) ?_
          refine lv_iinc (v := (v3 + 1)) (lv' := [(3, .int (v3 + 1)), (2, .int (v2 + 1)), (0, .ref (a 1)), (1, .int p1)]) hx hb d_K_insert_40 hl (k := 3) rfl rfl (by decide) rfl (fun ls hl => ?_)
          refine lv_goto (tgt := 4) hx hb d_K_insert_43 (by decide) ?_
          exact ih4 (v2 + 1) (v3 + 1) K_rankOf _ _ _ hf hP hD hS (lv_sub hl [2, 3, 1, 0] rfl)
  exact lp4 FU 0 0 K_rankOf _ _ _ hf hP hD hS (lv_sub hl [2, 3, 1, 0] rfl)
def wK_add (a : Nat → Nat) (k : Nat → ClassId) (K_count : Int32) (K_names : (Nat → Int32)) (K_byRank : (Nat → Int32)) (K_rankOf : (Nat → Int32)) : va_W := [(a 1, .inr (1, [.int K_count, .ref (a 2), .ref (a 3), .ref (a 4)])), (a 2, .inl (k 2, 40, .inl K_names)), (a 3, .inl (k 3, 40, .inl K_byRank)), (a 4, .inl (k 4, 40, .inl K_rankOf))]
def tK_add (k : Nat → ClassId) : List (ClassId × FieldType) := [(k 2, .int), (k 3, .int), (k 4, .int)]
set_option maxHeartbeats 4000000 in
set_option maxRecDepth 100000 in
theorem c_K_add (l : Launch) (dC : Nat → ClassId) (dI : Nat → Nat → Nat) (a : Nat → Nat) (k : Nat → ClassId) (sz : Nat) (K_count : Int32) (K_names : (Nat → Int32)) (K_byRank : (Nat → Int32)) (K_rankOf : (Nat → Int32)) (p1 : Int32) (y : Int32 × Int32 × (Nat → Int32) × (Nat → Int32) × (Nat → Int32)) (hf : fK_add K_count K_names K_byRank K_rankOf p1 = some y) : Met l y_K_add ws_K_add ({ frames := 1, cells := 0, slots := 0, locals := 23 }) (og_Pw [.ref (a 1), .int p1] (dC, dI) (wK_add a k K_count K_names K_byRank K_rankOf) (tK_add k) sz) (og_Qi (dC, dI) (wK_add a k y.2.1 y.2.2.1 y.2.2.2.1 y.2.2.2.2) (tK_add k) y.1 (va_A (wK_add a k K_count K_names K_byRank K_rankOf) sz)) 0 0 (va_A (wK_add a k K_count K_names K_byRank K_rankOf) sz) := by
  refine Met.ofW (cc := b_K_add) (maxL := 3) (ret := (some .int)) (by decide) rfl ?_
  intro p e s m args below meth c s₁ B hml hv
  obtain ⟨rfl, hsz, hP, hK, hD0⟩ := hv
  have hx := B.exec
  have hb := B.bytes
  have hr := B.returns
  have hts0 := atoms_spec (ws := ws_K_add) B.pre
  have hts : ∀ w ∈ og_tb, w.before _ s = true := fun w h => hts0 w (List.mem_cons_of_mem _ h)
  have hown : s.vm.findClass R_K = some m.cls := findClass_of_methodNamed B.named
  have hlocks := B.notSynchronized
  subst hsz
  have hD := hD0.self (sz := s.heap.size)
  generalize hAe : va_A (wK_add a k K_count K_names K_byRank K_rankOf) s.heap.size = A at hD ⊢
  have hA : ∀ q : Nat, s.heap.size ≤ q → A q := fun q h => by rw [← hAe]; exact Or.inr h
  have hS : va_S A s.heap s.heap [] := va_S.rf
  have hl := lv_entry ([.ref (a 1), .int p1]) (n := 3) (Nat.le_of_ble_eq_true rfl)
  rw [lg_entry_eq]
  generalize (lg_sl ([.ref (a 1), .int p1]) ++ List.replicate (3 - (lg_sl ([.ref (a 1), .int p1])).length) Slot.unset).toArray = ls at hl ⊢
  have hl : lv_has ls 3 [(0, .ref (a 1)), (1, .int p1)] := hl
  rw [fK_add] at hf
  refine lv_aload_n hx hb d_K_add_0 rfl (lv_at hl 0 rfl) ?_
  refine vg_K_count (v := .int K_count) hx hb hts hown hK hP 0 rfl (hts _ tb_0) rfl d_K_add_1 ?_
  refine lv_bipush (v := 40) hx hb d_K_add_4 (by decide) ?_
  refine lv_icmp_ge (tgt := 17) hx hb d_K_add_6 (by decide) (fun c_6 => ?_) (fun c_6 => ?_)
  · have hf := og_t hf c_6
    refine lv_iconst (v := (-1)) hx hb d_K_add_17 (by decide) ?_
    obtain rfl := Option.some.inj hf
    exact W.iret (v := (-1)) hx hb hr (fun t ht hW => ⟨⟨(-1), (), rfl, rfl, by rw [ht]; exact hP, va_K.moved hW.alike hK, hD⟩, hS.F ht⟩) hS.2.2 d_K_add_18
  · have hf := og_f hf c_6
    refine lv_aload_n hx hb d_K_add_9 rfl (lv_at hl 0 rfl) ?_
    refine lv_iload_n hx hb d_K_add_10 rfl (lv_at hl 1 rfl) ?_
    obtain ⟨r11, e_11, hf⟩ := og_b hf
    refine og_rV (w := (wK_add a k K_count K_names K_byRank K_rankOf)) (As := [.int p1]) (rest := []) (ci := 1) (q0 := 0) ⟨hx, hb, hml, hown, hts⟩ (c_K_isNamed l dC dI a k K_count K_names p1 r11 e_11) (cwV 1 hts (og_gV tb_4 tb_5 tb_6 tb_7 tb_8) rfl rfl rfl (by decide +kernel) ⟨Nat.le_of_ble_eq_true rfl, Nat.le_of_ble_eq_true rfl⟩) hK hP [0, 1] [0] ⟨rfl, rfl, trivial⟩ rfl rfl rfl rfl rfl hl.1 rfl (Nat.le_of_ble_eq_true rfl) d_K_add_11 ⟨Nat.zero_le _, Nat.zero_le _⟩ ?_
    refine lv_if_eq (tgt := 19) hx hb d_K_add_14 (by decide) (fun c_14 => ?_) (fun c_14 => ?_)
    · have hf := og_t hf c_14
      refine lv_aload_n hx hb d_K_add_19 rfl (lv_at hl 0 rfl) ?_
      refine vg_K_count (v := .int K_count) hx hb hts hown hK hP 0 rfl (hts _ tb_0) rfl d_K_add_20 ?_
      refine lv_istore_n (lv' := [(2, .int K_count), (0, .ref (a 1)), (1, .int p1)]) hx hb d_K_add_23 rfl hl (by decide) rfl (fun ls hl => ?_)
      refine lv_aload_n hx hb d_K_add_24 rfl (lv_at hl 1 rfl) ?_
      refine vg_K_names (v := .ref (a 2)) hx hb hts hown hK hP 0 rfl (hts _ tb_1) rfl d_K_add_25 ?_
      refine lv_iload_n hx hb d_K_add_28 rfl (lv_at hl 0 rfl) ?_
      refine lv_iload_n hx hb d_K_add_29 rfl (lv_at hl 2 rfl) ?_
      obtain ⟨h_30, hf⟩ := og_ck_s hf
      refine va_iast hx hb hK hP hD hS 1 0 rfl rfl h_30 d_K_add_30 (fun H locs hP hD hS => ?_)
      have hP : va_P (dC, dI) vwCl (wK_add a k K_count (upd K_names K_count.toNatClampNeg p1) K_byRank K_rankOf) H := hP
      have hD : va_D A (wK_add a k K_count (upd K_names K_count.toNatClampNeg p1) K_byRank K_rankOf) := hD
      refine lv_aload_n hx hb d_K_add_31 rfl (lv_at hl 1 rfl) ?_
      refine lv_iload_n hx hb d_K_add_32 rfl (lv_at hl 0 rfl) ?_
      obtain ⟨r33, e_33, hf⟩ := og_b hf
      refine og_wVv (w := (wK_add a k K_count (upd K_names K_count.toNatClampNeg p1) K_byRank K_rankOf)) (w2 := (wK_add a k K_count (upd K_names K_count.toNatClampNeg p1) r33.1 r33.2)) (As := [.int K_count]) (rest := []) (ci := 1) (q0 := 0) ⟨hx, hb, hml, hown, hts⟩ (c_K_insert l dC dI a k _ K_count (upd K_names K_count.toNatClampNeg p1) K_byRank K_rankOf K_count r33 e_33) (cwV 1 hts (og_gV tb_9 tb_10 tb_11 tb_7 tb_12) rfl rfl rfl (by decide +kernel) ⟨Nat.le_of_ble_eq_true rfl, Nat.le_of_ble_eq_true rfl⟩) hK hP hD hS hA [0, 1, 2, 3] [0, 1, 2] ⟨rfl, rfl, rfl, rfl, trivial⟩ rfl [(true, 0), (true, 1), (true, 2), (true, 3)] ⟨rfl, rfl, rfl, rfl, trivial⟩ ⟨rfl, rfl, rfl, rfl, trivial⟩ (by decide) rfl rfl rfl rfl hl.1 rfl (Nat.le_of_ble_eq_true rfl) d_K_add_33 ⟨Nat.zero_le _, Nat.zero_le _⟩ (fun H locs hP hD hS => ?_)
      refine lv_aload_n hx hb d_K_add_36 rfl (lv_at hl 1 rfl) ?_
      refine lv_dup hx hb d_K_add_37 rfl ?_
      refine vg_K_count (v := .int K_count) hx hb hts hown hK hP 0 rfl (hts _ tb_0) rfl d_K_add_38 ?_
      refine lv_iconst (v := 1) hx hb d_K_add_41 (by decide) ?_
      refine lv_iadd hx hb d_K_add_42 ?_
      refine vs_K_count (v := (K_count + 1)) hx hb hts hown hK hP hD hS 0 rfl (hts _ tb_0) (Nat.le_of_ble_eq_true rfl) d_K_add_43 (fun H locs hP hD hS => ?_)
      have hP : va_P (dC, dI) vwCl (wK_add a k (K_count + 1) (upd K_names K_count.toNatClampNeg p1) r33.1 r33.2) H := hP
      have hD : va_D A (wK_add a k (K_count + 1) (upd K_names K_count.toNatClampNeg p1) r33.1 r33.2) := hD
      refine lv_iload_n hx hb d_K_add_46 rfl (lv_at hl 0 rfl) ?_
      obtain rfl := Option.some.inj hf
      exact W.iret (v := K_count) hx hb hr (fun t ht hW => ⟨⟨K_count, (), rfl, rfl, by rw [ht]; exact hP, va_K.moved hW.alike hK, hD⟩, hS.F ht⟩) hS.2.2 d_K_add_47
    · have hf := og_f hf c_14
      refine lv_iconst (v := (-1)) hx hb d_K_add_17 (by decide) ?_
      obtain rfl := Option.some.inj hf
      exact W.iret (v := (-1)) hx hb hr (fun t ht hW => ⟨⟨(-1), (), rfl, rfl, by rw [ht]; exact hP, va_K.moved hW.alike hK, hD⟩, hS.F ht⟩) hS.2.2 d_K_add_18
def wK_has (a : Nat → Nat) (k : Nat → ClassId) (K_count : Int32) : va_W := [(a 1, .inr (1, [.int K_count, .ref (a 2), .ref (a 3), .ref (a 4)]))]
def tK_has (k : Nat → ClassId) : List (ClassId × FieldType) := []
set_option maxHeartbeats 4000000 in
set_option maxRecDepth 100000 in
theorem c_K_has (l : Launch) (dC : Nat → ClassId) (dI : Nat → Nat → Nat) (a : Nat → Nat) (k : Nat → ClassId) (K_count : Int32) (p1 : Int32) (y : Int32) (hf : fK_has K_count p1 = some y) : Met l y_K_has ws_K_has ({ frames := 0, cells := 0, slots := 0, locals := 0 }) (og_Pr [.ref (a 1), .int p1] (dC, dI) (wK_has a k K_count) (tK_has k)) (vp_Si (fun x => x = y)) 0 0 (fun _ => False) := by
  refine Met.ofW (cc := b_K_has) (maxL := 2) (ret := (some .boolean)) (by decide) rfl ?_
  intro p e s m args below meth c s₁ B hml hv
  obtain ⟨rfl, hP, hK⟩ := hv
  have hx := B.exec
  have hb := B.bytes
  have hr := B.returns
  have hts0 := atoms_spec (ws := ws_K_has) B.pre
  have hts : ∀ w ∈ og_tb, w.before _ s = true := fun w h => hts0 w (List.mem_cons_of_mem _ h)
  have hown : s.vm.findClass R_K = some m.cls := findClass_of_methodNamed B.named
  have hlocks := B.notSynchronized
  have hl := lv_entry ([.ref (a 1), .int p1]) (n := 2) (Nat.le_of_ble_eq_true rfl)
  rw [lg_entry_eq]
  generalize (lg_sl ([.ref (a 1), .int p1]) ++ List.replicate (2 - (lg_sl ([.ref (a 1), .int p1])).length) Slot.unset).toArray = ls at hl ⊢
  have hl : lv_has ls 2 [(0, .ref (a 1)), (1, .int p1)] := hl
  rw [fK_has] at hf
  refine lv_iload_n hx hb d_K_has_0 rfl (lv_at hl 1 rfl) ?_
  refine lv_if_lt (tgt := 16) hx hb d_K_has_1 (by decide) (fun c_1 => ?_) (fun c_1 => ?_)
  · have hf := og_t hf c_1
    refine lv_iconst (v := 0) hx hb d_K_has_16 (by decide) ?_
    obtain rfl := Option.some.inj hf
    exact W.zret (v := 0) hx hb hr rfl (fun t ht hW => ⟨0, rfl, rfl, ht⟩) (fun _ h => absurd h List.not_mem_nil) d_K_has_17
  · have hf := og_f hf c_1
    refine lv_iload_n hx hb d_K_has_4 rfl (lv_at hl 1 rfl) ?_
    refine lv_aload_n hx hb d_K_has_5 rfl (lv_at hl 0 rfl) ?_
    refine vg_K_count (v := .int K_count) hx hb hts hown hK hP 0 rfl (hts _ tb_0) rfl d_K_has_6 ?_
    refine lv_icmp_ge (tgt := 16) hx hb d_K_has_9 (by decide) (fun c_9 => ?_) (fun c_9 => ?_)
    · have hf := og_t hf c_9
      refine lv_iconst (v := 0) hx hb d_K_has_16 (by decide) ?_
      obtain rfl := Option.some.inj hf
      exact W.zret (v := 0) hx hb hr rfl (fun t ht hW => ⟨0, rfl, rfl, ht⟩) (fun _ h => absurd h List.not_mem_nil) d_K_has_17
    · have hf := og_f hf c_9
      refine lv_iconst (v := 1) hx hb d_K_has_12 (by decide) ?_
      refine lv_goto (tgt := 17) hx hb d_K_has_13 (by decide) ?_
      obtain rfl := Option.some.inj hf
      exact W.zret (v := 1) hx hb hr rfl (fun t ht hW => ⟨1, rfl, rfl, ht⟩) (fun _ h => absurd h List.not_mem_nil) d_K_has_17
