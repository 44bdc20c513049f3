def wT_tellKeys (a : Nat → Nat) (k : Nat → ClassId) (K_count : Int32) (K_byRank : (Nat → Int32)) (R_count : Int32) (R_reached : (Nat → Int64)) (R_shortest : (Nat → Int32)) (T_configuration : Int32) (T_ringCount : Int32) (T_keyCount : Int32) (T_stateOf : (Nat → Int32)) (T_leastOf : (Nat → Int32)) : va_W := [(a 1, .inr (1, [.int K_count, .ref (a 2), .ref (a 3), .ref (a 4)])), (a 3, .inl (k 3, 40, .inl K_byRank)), (a 11, .inr (3, [.int R_count, .ref (a 12), .ref (a 13), .ref (a 14), .ref (a 15)])), (a 13, .inl (k 13, 40, .inr (.inl R_reached))), (a 14, .inl (k 14, 40, .inl R_shortest)), (a 16, .inr (4, [.int T_configuration, .int T_ringCount, .ref (a 17), .ref (a 18), .ref (a 19), .ref (a 20), .int T_keyCount, .ref (a 21), .ref (a 22), .ref (a 23)])), (a 18, .inl (k 18, 40, .inl T_stateOf)), (a 19, .inl (k 19, 40, .inl T_leastOf))]
def tT_tellKeys (k : Nat → ClassId) : List (ClassId × FieldType) := [(k 3, .int), (k 13, .long), (k 14, .int), (k 18, .int), (k 19, .int)]
set_option maxHeartbeats 4000000 in
set_option maxRecDepth 100000 in
theorem c_T_tellKeys (l : Launch) (dC : Nat → ClassId) (dI : Nat → Nat → Nat) (a : Nat → Nat) (k : Nat → ClassId) (sz : Nat) (K_count : Int32) (K_byRank : (Nat → Int32)) (R_count : Int32) (R_reached : (Nat → Int64)) (R_shortest : (Nat → Int32)) (T_configuration : Int32) (T_ringCount : Int32) (T_keyCount : Int32) (T_stateOf : (Nat → Int32)) (T_leastOf : (Nat → Int32)) (y : (Nat → Int32) × (Nat → Int32)) (hf : fT_tellKeys K_byRank R_count R_reached R_shortest T_stateOf T_leastOf T_keyCount = some y) : Met l y_T_tellKeys ws_T_tellKeys ({ frames := 2, cells := 0, slots := 0, locals := 44 }) (og_Pw [.ref (a 16), .ref (a 1), .ref (a 11)] (dC, dI) (wT_tellKeys a k K_count K_byRank R_count R_reached R_shortest T_configuration T_ringCount T_keyCount T_stateOf T_leastOf) (tT_tellKeys k) sz) (og_Qv (dC, dI) (wT_tellKeys a k K_count K_byRank R_count R_reached R_shortest T_configuration T_ringCount T_keyCount y.1 y.2) (tT_tellKeys k) (va_A (wT_tellKeys a k K_count K_byRank R_count R_reached R_shortest T_configuration T_ringCount T_keyCount T_stateOf T_leastOf) sz)) 0 0 (va_A (wT_tellKeys a k K_count K_byRank R_count R_reached R_shortest T_configuration T_ringCount T_keyCount T_stateOf T_leastOf) sz) := by
  refine Met.ofW (cc := b_T_tellKeys) (maxL := 5) (ret := none) (by decide) rfl ?_
  intro p e s m args below meth c s₁ B hml hv
  obtain ⟨rfl, hsz, hP, hK, hD0⟩ := hv
  have hx := B.exec
  have hb := B.bytes
  have hr := B.returns
  have hts0 := atoms_spec (ws := ws_T_tellKeys) B.pre
  have hts : ∀ w ∈ og_tb, w.before _ s = true := fun w h => hts0 w (List.mem_cons_of_mem _ h)
  have hown : s.vm.findClass R_T = some m.cls := findClass_of_methodNamed B.named
  have hlocks := B.notSynchronized
  subst hsz
  have hD := hD0.self (sz := s.heap.size)
  generalize hAe : va_A (wT_tellKeys a k K_count K_byRank R_count R_reached R_shortest T_configuration T_ringCount T_keyCount T_stateOf T_leastOf) s.heap.size = A at hD ⊢
  have hA : ∀ q : Nat, s.heap.size ≤ q → A q := fun q h => by rw [← hAe]; exact Or.inr h
  have hS : va_S A s.heap s.heap [] := va_S.rf
  have hl := lv_entry ([.ref (a 16), .ref (a 1), .ref (a 11)]) (n := 5) (Nat.le_of_ble_eq_true rfl)
  rw [lg_entry_eq]
  generalize (lg_sl ([.ref (a 16), .ref (a 1), .ref (a 11)]) ++ List.replicate (5 - (lg_sl ([.ref (a 16), .ref (a 1), .ref (a 11)])).length) Slot.unset).toArray = ls at hl ⊢
  have hl : lv_has ls 5 [(0, .ref (a 16)), (1, .ref (a 1)), (2, .ref (a 11))] := hl
  rw [fT_tellKeys] at hf
  refine lv_iconst (v := 0) hx hb d_T_tellKeys_0 (by decide) ?_
  refine lv_istore_n (lv' := [(3, .int 0), (0, .ref (a 16)), (1, .ref (a 1)), (2, .ref (a 11))]) hx hb d_T_tellKeys_1 rfl hl (by decide) rfl (fun ls hl => ?_)
  have k2_77 : ∀ (T_stateOf : (Nat → Int32)) (T_leastOf : (Nat → Int32)) (H : Heap) (locs : List Loc) (ls : Array Slot), fT_tellKeys_K2_77 T_stateOf T_leastOf = some y → va_P (dC, dI) vwCl (wT_tellKeys a k K_count K_byRank R_count R_reached R_shortest T_configuration T_ringCount T_keyCount T_stateOf T_leastOf) H → va_D A (wT_tellKeys a k K_count K_byRank R_count R_reached R_shortest T_configuration T_ringCount T_keyCount T_stateOf T_leastOf) → va_S A s.heap H locs → lv_has ls 5 [] → W p l e (headSpec ws_T_tellKeys { frames := 2, cells := 0, slots := 0, locals := 44 }).room s m ([.ref (a 16), .ref (a 1), .ref (a 11)] : List Value).toArray below meth c H locs 0 0 (MQ below (og_Qv (dC, dI) (wT_tellKeys a k K_count K_byRank R_count R_reached R_shortest T_configuration T_ringCount T_keyCount y.1 y.2) (tT_tellKeys k) A) ([.ref (a 16), .ref (a 1), .ref (a 11)] : List Value).toArray s 0 0 A) (F0 m 77 ls []) := by
    intro T_stateOf T_leastOf H locs ls hf hP hD hS hl
    rw [fT_tellKeys_K2_77] at hf
    obtain rfl := Option.some.inj hf
    exact W.vret hx hb hr (fun t ht hW => ⟨⟨(), rfl, trivial, by rw [ht]; exact hP, va_K.moved hW.alike hK, hD⟩, hS.F ht⟩) hS.2.2 d_T_tellKeys_77
  have lp2 : ∀ (n2 : Nat) (v3 : Int32) (T_stateOf : (Nat → Int32)) (T_leastOf : (Nat → Int32)) (H : Heap) (locs : List Loc) (ls : Array Slot), fT_tellKeys_L2 fT_tellKeys_K2_77 K_byRank R_count R_reached R_shortest T_keyCount n2 v3 T_stateOf T_leastOf = some y → va_P (dC, dI) vwCl (wT_tellKeys a k K_count K_byRank R_count R_reached R_shortest T_configuration T_ringCount T_keyCount T_stateOf T_leastOf) H → va_D A (wT_tellKeys a k K_count K_byRank R_count R_reached R_shortest T_configuration T_ringCount T_keyCount T_stateOf T_leastOf) → va_S A s.heap H locs → lv_has ls 5 [(0, .ref (a 16)), (1, .ref (a 1)), (2, .ref (a 11)), (3, .int v3)] → W p l e (headSpec ws_T_tellKeys { frames := 2, cells := 0, slots := 0, locals := 44 }).room s m ([.ref (a 16), .ref (a 1), .ref (a 11)] : List Value).toArray below meth c H locs 0 0 (MQ below (og_Qv (dC, dI) (wT_tellKeys a k K_count K_byRank R_count R_reached R_shortest T_configuration T_ringCount T_keyCount y.1 y.2) (tT_tellKeys k) A) ([.ref (a 16), .ref (a 1), .ref (a 11)] : List Value).toArray s 0 0 A) (F0 m 2 ls []) := by
    intro n2
    induction n2 with
    | zero => intro v3 T_stateOf T_leastOf H locs ls hf hP hD hS hl; rw [fT_tellKeys_L2] at hf; cases hf
    | succ n2 ih2 =>
      intro v3 T_stateOf T_leastOf H locs ls hf hP hD hS hl
      rw [fT_tellKeys_L2] at hf
      refine lv_iload_n hx hb d_T_tellKeys_2 rfl (lv_at hl 3 rfl) ?_
      refine lv_aload_n hx hb d_T_tellKeys_3 rfl (lv_at hl 0 rfl) ?_
      refine vg_T_keyCount (v := .int T_keyCount) hx hb hts hown hK hP 5 rfl (hts _ tb_87) rfl d_T_tellKeys_4 ?_
      refine lv_icmp_ge (tgt := 77) hx hb d_T_tellKeys_7 (by decide) (fun c_7 => ?_) (fun c_7 => ?_)
      · have hf := og_t hf c_7
        exact k2_77 T_stateOf T_leastOf _ _ _ hf hP hD hS (lv_sub hl [] rfl)
      · have hf := og_f hf c_7
        refine lv_aload_n hx hb d_T_tellKeys_10 rfl (lv_at hl 1 rfl) ?_
        refine vg_K_byRank (v := .ref (a 3)) hx hb hts hown hK hP 0 rfl (hts _ tb_88) rfl d_T_tellKeys_11 ?_
        refine lv_iload_n hx hb d_T_tellKeys_14 rfl (lv_at hl 3 rfl) ?_
        obtain ⟨h_15, hf⟩ := og_ck_s hf
        refine va_iald hx hb hK hP 1 0 rfl rfl h_15 d_T_tellKeys_15 ?_
        refine lv_istore (lv' := [(4, .int (K_byRank v3.toNatClampNeg)), (0, .ref (a 16)), (1, .ref (a 1)), (2, .ref (a 11)), (3, .int v3)]) hx hb d_T_tellKeys_16 hl (by decide) rfl (fun ls hl => ?_)
        refine lv_aload_n hx hb d_T_tellKeys_18 rfl (lv_at hl 1 rfl) ?_
        refine vg_T_leastOf (v := .ref (a 19)) hx hb hts hown hK hP 5 rfl (hts _ tb_89) rfl d_T_tellKeys_19 ?_
        refine lv_iload hx hb d_T_tellKeys_22 (lv_at hl 0 rfl) ?_
        refine lv_aload_n hx hb d_T_tellKeys_24 rfl (lv_at hl 3 rfl) ?_
        refine lv_iload_n hx hb d_T_tellKeys_25 rfl (lv_at hl 4 rfl) ?_
        obtain ⟨r26, e_26, hf⟩ := og_b hf
        refine og_rV (w := (wT_tellKeys a k K_count K_byRank R_count R_reached R_shortest T_configuration T_ringCount T_keyCount T_stateOf T_leastOf)) (As := [.int v3]) (rest := [.int (K_byRank v3.toNatClampNeg), .ref (a 19)]) (ci := 3) (q0 := 0) ⟨hx, hb, hml, hown, hts⟩ (c_R_shortestRing l dC dI a k R_count R_shortest v3 r26 e_26) (cwV 1 hts (og_gV tb_90 tb_91 tb_92 tb_61 tb_93) rfl rfl rfl (by decide +kernel) ⟨Nat.le_of_ble_eq_true rfl, Nat.le_of_ble_eq_true rfl⟩) hK hP [2, 4] [2] ⟨rfl, rfl, trivial⟩ rfl rfl rfl rfl rfl hl.1 rfl (Nat.le_of_ble_eq_true rfl) d_T_tellKeys_26 ⟨Nat.zero_le _, Nat.zero_le _⟩ ?_
        obtain ⟨h_29, hf⟩ := og_ck_s hf
        refine va_iast hx hb hK hP hD hS 7 4 rfl rfl h_29 d_T_tellKeys_29 (fun H locs hP hD hS => ?_)
        have hP : va_P (dC, dI) vwCl (wT_tellKeys a k K_count K_byRank R_count R_reached R_shortest T_configuration T_ringCount T_keyCount T_stateOf (upd T_leastOf (K_byRank v3.toNatClampNeg).toNatClampNeg r26)) H := hP
        have hD : va_D A (wT_tellKeys a k K_count K_byRank R_count R_reached R_shortest T_configuration T_ringCount T_keyCount T_stateOf (upd T_leastOf (K_byRank v3.toNatClampNeg).toNatClampNeg r26)) := hD
        refine lv_aload_n hx hb d_T_tellKeys_30 rfl (lv_at hl 1 rfl) ?_
        refine vg_T_leastOf (v := .ref (a 19)) hx hb hts hown hK hP 5 rfl (hts _ tb_89) rfl d_T_tellKeys_31 ?_
        refine lv_iload hx hb d_T_tellKeys_34 (lv_at hl 0 rfl) ?_
        obtain ⟨h_36, hf⟩ := og_ck_s hf
        refine va_iald hx hb hK hP 7 4 rfl rfl h_36 d_T_tellKeys_36 ?_
        refine lv_if_le (tgt := 51) hx hb d_T_tellKeys_37 (by decide) (fun c_37 => ?_) (fun c_37 => ?_)
        · have hf := og_t hf c_37
          refine lv_aload_n hx hb d_T_tellKeys_51 rfl (lv_at hl 1 rfl) ?_
          refine vg_T_stateOf (v := .ref (a 18)) hx hb hts hown hK hP 5 rfl (hts _ tb_94) rfl d_T_tellKeys_52 ?_
          refine lv_iload hx hb d_T_tellKeys_55 (lv_at hl 0 rfl) ?_
          refine lv_aload_n hx hb d_T_tellKeys_57 rfl (lv_at hl 3 rfl) ?_
          refine lv_iload_n hx hb d_T_tellKeys_58 rfl (lv_at hl 4 rfl) ?_
          obtain ⟨r59, e_59, hf⟩ := og_b hf
          refine og_rV (w := (wT_tellKeys a k K_count K_byRank R_count R_reached R_shortest T_configuration T_ringCount T_keyCount T_stateOf (upd T_leastOf (K_byRank v3.toNatClampNeg).toNatClampNeg r26))) (As := [.int v3]) (rest := [.int (K_byRank v3.toNatClampNeg), .ref (a 18)]) (ci := 3) (q0 := 0) ⟨hx, hb, hml, hown, hts⟩ (c_R_reachesRinged l dC dI a k R_count R_reached R_shortest v3 r59 e_59) (cwV 1 hts (og_gV tb_95 tb_96 tb_97 tb_61 tb_98) rfl rfl rfl (by decide +kernel) ⟨Nat.le_of_ble_eq_true rfl, Nat.le_of_ble_eq_true rfl⟩) hK hP [2, 3, 4] [1, 2] ⟨rfl, rfl, rfl, trivial⟩ rfl rfl rfl rfl rfl hl.1 rfl (Nat.le_of_ble_eq_true rfl) d_T_tellKeys_59 ⟨Nat.zero_le _, Nat.zero_le _⟩ ?_
          refine lv_if_eq (tgt := 69) hx hb d_T_tellKeys_62 (by decide) (fun c_62 => ?_) (fun c_62 => ?_)
          · have hf := og_t hf c_62
            refine lv_iconst (v := 0) hx hb d_T_tellKeys_69 (by decide) ?_
            obtain ⟨h_70, hf⟩ := og_ck_s hf
            refine va_iast hx hb hK hP hD hS 6 3 rfl rfl h_70 d_T_tellKeys_70 (fun H locs hP hD hS => ?_)
            have hP : va_P (dC, dI) vwCl (wT_tellKeys a k K_count K_byRank R_count R_reached R_shortest T_configuration T_ringCount T_keyCount (upd T_stateOf (K_byRank v3.toNatClampNeg).toNatClampNeg 0) (upd T_leastOf (K_byRank v3.toNatClampNeg).toNatClampNeg r26)) H := hP
            have hD : va_D A (wT_tellKeys a k K_count K_byRank R_count R_reached R_shortest T_configuration T_ringCount T_keyCount (upd T_stateOf (K_byRank v3.toNatClampNeg).toNatClampNeg 0) (upd T_leastOf (K_byRank v3.toNatClampNeg).toNatClampNeg r26)) := hD
            refine lv_iinc (v := (v3 + 1)) (lv' := [(3, .int (v3 + 1)), (4, .int (K_byRank v3.toNatClampNeg)), (0, .ref (a 16)), (1, .ref (a 1)), (2, .ref (a 11))]) hx hb d_T_tellKeys_71 hl (k := 4) rfl rfl (by decide) rfl (fun ls hl => ?_)
            refine lv_goto (tgt := 2) hx hb d_T_tellKeys_74 (by decide) ?_
            exact ih2 (v3 + 1) (upd T_stateOf (K_byRank v3.toNatClampNeg).toNatClampNeg 0) (upd T_leastOf (K_byRank v3.toNatClampNeg).toNatClampNeg r26) _ _ _ hf hP hD hS (lv_sub hl [2, 3, 4, 0] rfl)
          · have hf := og_f hf c_62
            refine lv_iconst (v := 1) hx hb d_T_tellKeys_65 (by decide) ?_
            refine lv_goto (tgt := 70) hx hb d_T_tellKeys_66 (by decide) ?_
            obtain ⟨h_70, hf⟩ := og_ck_s hf
            refine va_iast hx hb hK hP hD hS 6 3 rfl rfl h_70 d_T_tellKeys_70 (fun H locs hP hD hS => ?_)
            have hP : va_P (dC, dI) vwCl (wT_tellKeys a k K_count K_byRank R_count R_reached R_shortest T_configuration T_ringCount T_keyCount (upd T_stateOf (K_byRank v3.toNatClampNeg).toNatClampNeg 1) (upd T_leastOf (K_byRank v3.toNatClampNeg).toNatClampNeg r26)) H := hP
            have hD : va_D A (wT_tellKeys a k K_count K_byRank R_count R_reached R_shortest T_configuration T_ringCount T_keyCount (upd T_stateOf (K_byRank v3.toNatClampNeg).toNatClampNeg 1) (upd T_leastOf (K_byRank v3.toNatClampNeg).toNatClampNeg r26)) := hD
            refine lv_iinc (v := (v3 + 1)) (lv' := [(3, .int (v3 + 1)), (4, .int (K_byRank v3.toNatClampNeg)), (0, .ref (a 16)), (1, .ref (a 1)), (2, .ref (a 11))]) hx hb d_T_tellKeys_71 hl (k := 4) rfl rfl (by decide) rfl (fun ls hl => ?_)
            refine lv_goto (tgt := 2) hx hb d_T_tellKeys_74 (by decide) ?_
            exact ih2 (v3 + 1) (upd T_stateOf (K_byRank v3.toNatClampNeg).toNatClampNeg 1) (upd T_leastOf (K_byRank v3.toNatClampNeg).toNatClampNeg r26) _ _ _ hf hP hD hS (lv_sub hl [2, 3, 4, 0] rfl)
        · have hf := og_f hf c_37
          refine lv_aload_n hx hb d_T_tellKeys_40 rfl (lv_at hl 1 rfl) ?_
          refine vg_T_stateOf (v := .ref (a 18)) hx hb hts hown hK hP 5 rfl (hts _ tb_94) rfl d_T_tellKeys_41 ?_
          refine lv_iload hx hb d_T_tellKeys_44 (lv_at hl 0 rfl) ?_
          refine lv_iconst (v := 2) hx hb d_T_tellKeys_46 (by decide) ?_
          obtain ⟨h_47, hf⟩ := og_ck_s hf
          refine va_iast hx hb hK hP hD hS 6 3 rfl rfl h_47 d_T_tellKeys_47 (fun H locs hP hD hS => ?_)
          have hP : va_P (dC, dI) vwCl (wT_tellKeys a k K_count K_byRank R_count R_reached R_shortest T_configuration T_ringCount T_keyCount (upd T_stateOf (K_byRank v3.toNatClampNeg).toNatClampNeg 2) (upd T_leastOf (K_byRank v3.toNatClampNeg).toNatClampNeg r26)) H := hP
          have hD : va_D A (wT_tellKeys a k K_count K_byRank R_count R_reached R_shortest T_configuration T_ringCount T_keyCount (upd T_stateOf (K_byRank v3.toNatClampNeg).toNatClampNeg 2) (upd T_leastOf (K_byRank v3.toNatClampNeg).toNatClampNeg r26)) := hD
          refine lv_goto (tgt := 71) hx hb d_T_tellKeys_48 (by decide) ?_
          refine lv_iinc (v := (v3 + 1)) (lv' := [(3, .int (v3 + 1)), (4, .int (K_byRank v3.toNatClampNeg)), (0, .ref (a 16)), (1, .ref (a 1)), (2, .ref (a 11))]) hx hb d_T_tellKeys_71 hl (k := 4) rfl rfl (by decide) rfl (fun ls hl => ?_)
          refine lv_goto (tgt := 2) hx hb d_T_tellKeys_74 (by decide) ?_
          exact ih2 (v3 + 1) (upd T_stateOf (K_byRank v3.toNatClampNeg).toNatClampNeg 2) (upd T_leastOf (K_byRank v3.toNatClampNeg).toNatClampNeg r26) _ _ _ hf hP hD hS (lv_sub hl [2, 3, 4, 0] rfl)
  exact lp2 FU 0 T_stateOf T_leastOf _ _ _ hf hP hD hS (lv_sub hl [1, 2, 3, 0] rfl)
def wT_firstOfPart (a : Nat → Nat) (k : Nat → ClassId) (R_count : Int32) (R_reached : (Nat → Int64)) (T_configuration : Int32) (T_ringCount : Int32) (T_keyCount : Int32) : va_W := [(a 11, .inr (3, [.int R_count, .ref (a 12), .ref (a 13), .ref (a 14), .ref (a 15)])), (a 13, .inl (k 13, 40, .inr (.inl R_reached))), (a 16, .inr (4, [.int T_configuration, .int T_ringCount, .ref (a 17), .ref (a 18), .ref (a 19), .ref (a 20), .int T_keyCount, .ref (a 21), .ref (a 22), .ref (a 23)]))]
def tT_firstOfPart (k : Nat → ClassId) : List (ClassId × FieldType) := [(k 13, .long)]
set_option maxHeartbeats 4000000 in
set_option maxRecDepth 100000 in
theorem c_T_firstOfPart (l : Launch) (dC : Nat → ClassId) (dI : Nat → Nat → Nat) (a : Nat → Nat) (k : Nat → ClassId) (R_count : Int32) (R_reached : (Nat → Int64)) (T_configuration : Int32) (T_ringCount : Int32) (T_keyCount : Int32) (p1 : Int32) (y : Int32) (hf : fT_firstOfPart R_reached p1 = some y) : Met l y_T_firstOfPart ws_T_firstOfPart ({ frames := 2, cells := 0, slots := 0, locals := 44 }) (og_Pr [.ref (a 16), .int p1, .ref (a 11)] (dC, dI) (wT_firstOfPart a k R_count R_reached T_configuration T_ringCount T_keyCount) (tT_firstOfPart k)) (vp_Si (fun x => x = y)) 0 0 (fun _ => False) := by
  refine Met.ofW (cc := b_T_firstOfPart) (maxL := 4) (ret := (some .int)) (by decide) rfl ?_
  intro p e s m args below meth c s₁ B hml hv
  obtain ⟨rfl, hP, hK⟩ := hv
  have hx := B.exec
  have hb := B.bytes
  have hr := B.returns
  have hts0 := atoms_spec (ws := ws_T_firstOfPart) B.pre
  have hts : ∀ w ∈ og_tb, w.before _ s = true := fun w h => hts0 w (List.mem_cons_of_mem _ h)
  have hown : s.vm.findClass R_T = some m.cls := findClass_of_methodNamed B.named
  have hlocks := B.notSynchronized
  have hl := lv_entry ([.ref (a 16), .int p1, .ref (a 11)]) (n := 4) (Nat.le_of_ble_eq_true rfl)
  rw [lg_entry_eq]
  generalize (lg_sl ([.ref (a 16), .int p1, .ref (a 11)]) ++ List.replicate (4 - (lg_sl ([.ref (a 16), .int p1, .ref (a 11)])).length) Slot.unset).toArray = ls at hl ⊢
  have hl : lv_has ls 4 [(0, .ref (a 16)), (1, .int p1), (2, .ref (a 11))] := hl
  rw [fT_firstOfPart] at hf
  refine lv_iconst (v := 0) hx hb d_T_firstOfPart_0 (by decide) ?_
  refine lv_istore_n (lv' := [(3, .int 0), (0, .ref (a 16)), (1, .int p1), (2, .ref (a 11))]) hx hb d_T_firstOfPart_1 rfl hl (by decide) rfl (fun ls hl => ?_)
  have k2_24 : ∀ (ls : Array Slot), fT_firstOfPart_K2_24 p1 = some y → lv_has ls 4 [(1, .int p1)] → W p l e (headSpec ws_T_firstOfPart { frames := 2, cells := 0, slots := 0, locals := 44 }).room s m ([.ref (a 16), .int p1, .ref (a 11)] : List Value).toArray below meth c s.heap [] 0 0 (MQ below (vp_Si (fun x => x = y)) ([.ref (a 16), .int p1, .ref (a 11)] : List Value).toArray s 0 0 (fun _ => False)) (F0 m 24 ls []) := by
    intro  ls hf hl
    rw [fT_firstOfPart_K2_24] at hf
    refine lv_iload_n hx hb d_T_firstOfPart_24 rfl (lv_at hl 0 rfl) ?_
    obtain rfl := Option.some.inj hf
    exact W.iret (v := p1) hx hb hr (fun t ht hW => ⟨p1, rfl, rfl, ht⟩) (fun _ h => absurd h List.not_mem_nil) d_T_firstOfPart_25
  have lp2 : ∀ (n2 : Nat) (v3 : Int32) (ls : Array Slot), fT_firstOfPart_L2 (fT_firstOfPart_K2_24 p1) R_reached p1 n2 v3 = some y → lv_has ls 4 [(1, .int p1), (2, .ref (a 11)), (3, .int v3)] → W p l e (headSpec ws_T_firstOfPart { frames := 2, cells := 0, slots := 0, locals := 44 }).room s m ([.ref (a 16), .int p1, .ref (a 11)] : List Value).toArray below meth c s.heap [] 0 0 (MQ below (vp_Si (fun x => x = y)) ([.ref (a 16), .int p1, .ref (a 11)] : List Value).toArray s 0 0 (fun _ => False)) (F0 m 2 ls []) := by
    intro n2
    induction n2 with
    | zero => intro v3 ls hf hl; rw [fT_firstOfPart_L2] at hf; cases hf
    | succ n2 ih2 =>
      intro v3 ls hf hl
      rw [fT_firstOfPart_L2] at hf
      refine lv_iload_n hx hb d_T_firstOfPart_2 rfl (lv_at hl 2 rfl) ?_
      refine lv_iload_n hx hb d_T_firstOfPart_3 rfl (lv_at hl 0 rfl) ?_
      refine lv_icmp_ge (tgt := 24) hx hb d_T_firstOfPart_4 (by decide) (fun c_4 => ?_) (fun c_4 => ?_)
      · have hf := og_t hf c_4
        exact k2_24  _ hf (lv_sub hl [0] rfl)
      · have hf := og_f hf c_4
        refine lv_aload_n hx hb d_T_firstOfPart_7 rfl (lv_at hl 1 rfl) ?_
        refine lv_iload_n hx hb d_T_firstOfPart_8 rfl (lv_at hl 2 rfl) ?_
        refine lv_iload_n hx hb d_T_firstOfPart_9 rfl (lv_at hl 0 rfl) ?_
        obtain ⟨r10, e_10, hf⟩ := og_b hf
        refine og_rV (w := (wT_firstOfPart a k R_count R_reached T_configuration T_ringCount T_keyCount)) (As := [.int v3, .int p1]) (rest := []) (ci := 3) (q0 := 0) ⟨hx, hb, hml, hown, hts⟩ (c_R_reachEachOther l dC dI a k R_count R_reached v3 p1 r10 e_10) (cwV 2 hts (og_gV tb_99 tb_100 tb_101 tb_61 tb_102) rfl rfl rfl (by decide +kernel) ⟨Nat.le_of_ble_eq_true rfl, Nat.le_of_ble_eq_true rfl⟩) hK hP [0, 1] [0] ⟨rfl, rfl, trivial⟩ rfl rfl rfl rfl rfl hl.1 rfl (Nat.le_of_ble_eq_true rfl) d_T_firstOfPart_10 ⟨Nat.zero_le _, Nat.zero_le _⟩ ?_
        refine lv_if_eq (tgt := 18) hx hb d_T_firstOfPart_13 (by decide) (fun c_13 => ?_) (fun c_13 => ?_)
        · have hf := og_t hf c_13
          refine lv_iinc (v := (v3 + 1)) (lv' := [(3, .int (v3 + 1)), (1, .int p1), (2, .ref (a 11))]) hx hb d_T_firstOfPart_18 hl (k := 2) rfl rfl (by decide) rfl (fun ls hl => ?_)
          refine lv_goto (tgt := 2) hx hb d_T_firstOfPart_21 (by decide) ?_
          exact ih2 (v3 + 1) _ hf (lv_sub hl [1, 2, 0] rfl)
        · have hf := og_f hf c_13
          refine lv_iload_n hx hb d_T_firstOfPart_16 rfl (lv_at hl 2 rfl) ?_
          obtain rfl := Option.some.inj hf
          exact W.iret (v := v3) hx hb hr (fun t ht hW => ⟨v3, rfl, rfl, ht⟩) (fun _ h => absurd h List.not_mem_nil) d_T_firstOfPart_17
  exact lp2 FU 0 _ hf (lv_sub hl [2, 3, 0] rfl)
def wT_numberParts (a : Nat → Nat) (k : Nat → ClassId) (K_count : Int32) (K_byRank : (Nat → Int32)) (R_count : Int32) (R_reached : (Nat → Int64)) (T_configuration : Int32) (T_ringCount : Int32) (T_keyCount : Int32) (T_partOf : (Nat → Int32)) : va_W := [(a 1, .inr (1, [.int K_count, .ref (a 2), .ref (a 3), .ref (a 4)])), (a 3, .inl (k 3, 40, .inl K_byRank)), (a 11, .inr (3, [.int R_count, .ref (a 12), .ref (a 13), .ref (a 14), .ref (a 15)])), (a 13, .inl (k 13, 40, .inr (.inl R_reached))), (a 16, .inr (4, [.int T_configuration, .int T_ringCount, .ref (a 17), .ref (a 18), .ref (a 19), .ref (a 20), .int T_keyCount, .ref (a 21), .ref (a 22), .ref (a 23)])), (a 17, .inl (k 17, 40, .inl T_partOf))]
def tT_numberParts (k : Nat → ClassId) : List (ClassId × FieldType) := [(k 3, .int), (k 13, .long), (k 17, .int)]
set_option maxHeartbeats 4000000 in
set_option maxRecDepth 100000 in
theorem c_T_numberParts (l : Launch) (dC : Nat → ClassId) (dI : Nat → Nat → Nat) (a : Nat → Nat) (k : Nat → ClassId) (sz : Nat) (K_count : Int32) (K_byRank : (Nat → Int32)) (R_count : Int32) (R_reached : (Nat → Int64)) (T_configuration : Int32) (T_ringCount : Int32) (T_keyCount : Int32) (T_partOf : (Nat → Int32)) (y : (Nat → Int32)) (hf : fT_numberParts K_byRank R_reached T_partOf T_keyCount = some y) : Met l y_T_numberParts ws_T_numberParts ({ frames := 3, cells := 0, slots := 0, locals := 67 }) (og_Pw [.ref (a 16), .ref (a 1), .ref (a 11)] (dC, dI) (wT_numberParts a k K_count K_byRank R_count R_reached T_configuration T_ringCount T_keyCount T_partOf) (tT_numberParts k) sz) (og_Qv (dC, dI) (wT_numberParts a k K_count K_byRank R_count R_reached T_configuration T_ringCount T_keyCount y) (tT_numberParts k) (va_A (wT_numberParts a k K_count K_byRank R_count R_reached T_configuration T_ringCount T_keyCount T_partOf) sz)) 0 0 (va_A (wT_numberParts a k K_count K_byRank R_count R_reached T_configuration T_ringCount T_keyCount T_partOf) sz) := by
  refine Met.ofW (cc := b_T_numberParts) (maxL := 6) (ret := none) (by decide) rfl ?_
  intro p e s m args below meth c s₁ B hml hv
  obtain ⟨rfl, hsz, hP, hK, hD0⟩ := hv
  have hx := B.exec
  have hb := B.bytes
  have hr := B.returns
  have hts0 := atoms_spec (ws := ws_T_numberParts) B.pre
  have hts : ∀ w ∈ og_tb, w.before _ s = true := fun w h => hts0 w (List.mem_cons_of_mem _ h)
  have hown : s.vm.findClass R_T = some m.cls := findClass_of_methodNamed B.named
  have hlocks := B.notSynchronized
  subst hsz
  have hD := hD0.self (sz := s.heap.size)
  generalize hAe : va_A (wT_numberParts a k K_count K_byRank R_count R_reached T_configuration T_ringCount T_keyCount T_partOf) s.heap.size = A at hD ⊢
  have hA : ∀ q : Nat, s.heap.size ≤ q → A q := fun q h => by rw [← hAe]; exact Or.inr h
  have hS : va_S A s.heap s.heap [] := va_S.rf
  have hl := lv_entry ([.ref (a 16), .ref (a 1), .ref (a 11)]) (n := 6) (Nat.le_of_ble_eq_true rfl)
  rw [lg_entry_eq]
  generalize (lg_sl ([.ref (a 16), .ref (a 1), .ref (a 11)]) ++ List.replicate (6 - (lg_sl ([.ref (a 16), .ref (a 1), .ref (a 11)])).length) Slot.unset).toArray = ls at hl ⊢
  have hl : lv_has ls 6 [(0, .ref (a 16)), (1, .ref (a 1)), (2, .ref (a 11))] := hl
  rw [fT_numberParts] at hf
  refine lv_iconst (v := 0) hx hb d_T_numberParts_0 (by decide) ?_
  refine lv_istore_n (lv' := [(3, .int 0), (0, .ref (a 16)), (1, .ref (a 1)), (2, .ref (a 11))]) hx hb d_T_numberParts_1 rfl hl (by decide) rfl (fun ls hl => ?_)
  refine lv_iconst (v := 0) hx hb d_T_numberParts_2 (by decide) ?_
  refine lv_istore (lv' := [(4, .int 0), (3, .int 0), (0, .ref (a 16)), (1, .ref (a 1)), (2, .ref (a 11))]) hx hb d_T_numberParts_3 hl (by decide) rfl (fun ls hl => ?_)
  have k5_79 : ∀ (T_partOf : (Nat → Int32)) (H : Heap) (locs : List Loc) (ls : Array Slot), fT_numberParts_K5_79 T_partOf = some y → va_P (dC, dI) vwCl (wT_numberParts a k K_count K_byRank R_count R_reached T_configuration T_ringCount T_keyCount T_partOf) H → va_D A (wT_numberParts a k K_count K_byRank R_count R_reached T_configuration T_ringCount T_keyCount T_partOf) → va_S A s.heap H locs → lv_has ls 6 [] → W p l e (headSpec ws_T_numberParts { frames := 3, cells := 0, slots := 0, locals := 67 }).room s m ([.ref (a 16), .ref (a 1), .ref (a 11)] : List Value).toArray below meth c H locs 0 0 (MQ below (og_Qv (dC, dI) (wT_numberParts a k K_count K_byRank R_count R_reached T_configuration T_ringCount T_keyCount y) (tT_numberParts k) A) ([.ref (a 16), .ref (a 1), .ref (a 11)] : List Value).toArray s 0 0 A) (F0 m 79 ls []) := by
    intro T_partOf H locs ls hf hP hD hS hl
    rw [fT_numberParts_K5_79] at hf
    obtain rfl := Option.some.inj hf
    exact W.vret hx hb hr (fun t ht hW => ⟨⟨(), rfl, trivial, by rw [ht]; exact hP, va_K.moved hW.alike hK, hD⟩, hS.F ht⟩) hS.2.2 d_T_numberParts_79
  have lp5 : ∀ (n5 : Nat) (v3 : Int32) (v4 : Int32) (T_partOf : (Nat → Int32)) (H : Heap) (locs : List Loc) (ls : Array Slot), fT_numberParts_L5 fT_numberParts_K5_79 K_byRank R_reached T_keyCount n5 v3 v4 T_partOf = some y → va_P (dC, dI) vwCl (wT_numberParts a k K_count K_byRank R_count R_reached T_configuration T_ringCount T_keyCount T_partOf) H → va_D A (wT_numberParts a k K_count K_byRank R_count R_reached T_configuration T_ringCount T_keyCount T_partOf) → va_S A s.heap H locs → lv_has ls 6 [(0, .ref (a 16)), (1, .ref (a 1)), (2, .ref (a 11)), (3, .int v3), (4, .int v4)] → W p l e (headSpec ws_T_numberParts { frames := 3, cells := 0, slots := 0, locals := 67 }).room s m ([.ref (a 16), .ref (a 1), .ref (a 11)] : List Value).toArray below meth c H locs 0 0 (MQ below (og_Qv (dC, dI) (wT_numberParts a k K_count K_byRank R_count R_reached T_configuration T_ringCount T_keyCount y) (tT_numberParts k) A) ([.ref (a 16), .ref (a 1), .ref (a 11)] : List Value).toArray s 0 0 A) (F0 m 5 ls []) := by
    intro n5
    induction n5 with
    | zero => intro v3 v4 T_partOf H locs ls hf hP hD hS hl; rw [fT_numberParts_L5] at hf; cases hf
    | succ n5 ih5 =>
      intro v3 v4 T_partOf H locs ls hf hP hD hS hl
      rw [fT_numberParts_L5] at hf
      refine lv_iload hx hb d_T_numberParts_5 (lv_at hl 4 rfl) ?_
      refine lv_aload_n hx hb d_T_numberParts_7 rfl (lv_at hl 0 rfl) ?_
      refine vg_T_keyCount (v := .int T_keyCount) hx hb hts hown hK hP 4 rfl (hts _ tb_87) rfl d_T_numberParts_8 ?_
      refine lv_icmp_ge (tgt := 79) hx hb d_T_numberParts_11 (by decide) (fun c_11 => ?_) (fun c_11 => ?_)
      · have hf := og_t hf c_11
        exact k5_79 T_partOf _ _ _ hf hP hD hS (lv_sub hl [] rfl)
      · have hf := og_f hf c_11
        refine lv_aload_n hx hb d_T_numberParts_14 rfl (lv_at hl 0 rfl) ?_
        refine lv_iload hx hb d_T_numberParts_15 (lv_at hl 4 rfl) ?_
        refine lv_aload_n hx hb d_T_numberParts_17 rfl (lv_at hl 2 rfl) ?_
        obtain ⟨r18, e_18, hf⟩ := og_b hf
        refine og_rV (w := (wT_numberParts a k K_count K_byRank R_count R_reached T_configuration T_ringCount T_keyCount T_partOf)) (As := [.int v4, .ref (a 11)]) (rest := []) (ci := 4) (q0 := 2) ⟨hx, hb, hml, hown, hts⟩ (c_T_firstOfPart l dC dI a k R_count R_reached T_configuration T_ringCount T_keyCount v4 r18 e_18) (cwV 2 hts (og_gV tb_103 tb_104 tb_105 tb_106 tb_107) rfl rfl rfl (by decide +kernel) ⟨Nat.le_of_ble_eq_true rfl, Nat.le_of_ble_eq_true rfl⟩) hK hP [2, 3, 4] [1] ⟨rfl, rfl, rfl, trivial⟩ rfl rfl rfl rfl rfl hl.1 rfl (Nat.le_of_ble_eq_true rfl) d_T_numberParts_18 ⟨Nat.zero_le _, Nat.zero_le _⟩ ?_
        refine lv_istore (lv' := [(5, .int r18), (0, .ref (a 16)), (1, .ref (a 1)), (2, .ref (a 11)), (3, .int v3), (4, .int v4)]) hx hb d_T_numberParts_21 hl (by decide) rfl (fun ls hl => ?_)
        refine lv_iload hx hb d_T_numberParts_23 (lv_at hl 0 rfl) ?_
        refine lv_iload hx hb d_T_numberParts_25 (lv_at hl 5 rfl) ?_
        refine lv_icmp_ne (tgt := 49) hx hb d_T_numberParts_27 (by decide) (fun c_27 => ?_) (fun c_27 => ?_)
        · have hf := og_f hf c_27
          refine lv_aload_n hx hb d_T_numberParts_49 rfl (lv_at hl 1 rfl) ?_
          refine vg_T_partOf (v := .ref (a 17)) hx hb hts hown hK hP 4 rfl (hts _ tb_108) rfl d_T_numberParts_50 ?_
          refine lv_aload_n hx hb d_T_numberParts_53 rfl (lv_at hl 2 rfl) ?_
          refine vg_K_byRank (v := .ref (a 3)) hx hb hts hown hK hP 0 rfl (hts _ tb_88) rfl d_T_numberParts_54 ?_
          refine lv_iload hx hb d_T_numberParts_57 (lv_at hl 5 rfl) ?_
          obtain ⟨h_59, hf⟩ := og_ck_s hf
          refine va_iald hx hb hK hP 1 0 rfl rfl h_59 d_T_numberParts_59 ?_
          refine lv_aload_n hx hb d_T_numberParts_60 rfl (lv_at hl 1 rfl) ?_
          refine vg_T_partOf (v := .ref (a 17)) hx hb hts hown hK hP 4 rfl (hts _ tb_108) rfl d_T_numberParts_61 ?_
          refine lv_aload_n hx hb d_T_numberParts_64 rfl (lv_at hl 2 rfl) ?_
          refine vg_K_byRank (v := .ref (a 3)) hx hb hts hown hK hP 0 rfl (hts _ tb_88) rfl d_T_numberParts_65 ?_
          refine lv_iload hx hb d_T_numberParts_68 (lv_at hl 0 rfl) ?_
          obtain ⟨h_70, hf⟩ := og_ck_s hf
          refine va_iald hx hb hK hP 1 0 rfl rfl h_70 d_T_numberParts_70 ?_
          obtain ⟨h_71, hf⟩ := og_ck_s hf
          refine va_iald hx hb hK hP 5 2 rfl rfl h_71 d_T_numberParts_71 ?_
          obtain ⟨h_72, hf⟩ := og_ck_s hf
          refine va_iast hx hb hK hP hD hS 5 2 rfl rfl h_72 d_T_numberParts_72 (fun H locs hP hD hS => ?_)
          have hP : va_P (dC, dI) vwCl (wT_numberParts a k K_count K_byRank R_count R_reached T_configuration T_ringCount T_keyCount (upd T_partOf (K_byRank v4.toNatClampNeg).toNatClampNeg (T_partOf (K_byRank r18.toNatClampNeg).toNatClampNeg))) H := hP
          have hD : va_D A (wT_numberParts a k K_count K_byRank R_count R_reached T_configuration T_ringCount T_keyCount (upd T_partOf (K_byRank v4.toNatClampNeg).toNatClampNeg (T_partOf (K_byRank r18.toNatClampNeg).toNatClampNeg))) := hD
          refine lv_iinc (v := (v4 + 1)) (lv' := [(4, .int (v4 + 1)), (5, .int r18), (0, .ref (a 16)), (1, .ref (a 1)), (2, .ref (a 11)), (3, .int v3)]) hx hb d_T_numberParts_73 hl (k := 5) rfl rfl (by decide) rfl (fun ls hl => ?_)
          refine lv_goto (tgt := 5) hx hb d_T_numberParts_76 (by decide) ?_
          exact ih5 v3 (v4 + 1) (upd T_partOf (K_byRank v4.toNatClampNeg).toNatClampNeg (T_partOf (K_byRank r18.toNatClampNeg).toNatClampNeg)) _ _ _ hf hP hD hS (lv_sub hl [2, 3, 4, 5, 0] rfl)
        · have hf := og_t hf c_27
          refine lv_aload_n hx hb d_T_numberParts_30 rfl (lv_at hl 1 rfl) ?_
          refine vg_T_partOf (v := .ref (a 17)) hx hb hts hown hK hP 4 rfl (hts _ tb_108) rfl d_T_numberParts_31 ?_
          refine lv_aload_n hx hb d_T_numberParts_34 rfl (lv_at hl 2 rfl) ?_
          refine vg_K_byRank (v := .ref (a 3)) hx hb hts hown hK hP 0 rfl (hts _ tb_88) rfl d_T_numberParts_35 ?_
          refine lv_iload hx hb d_T_numberParts_38 (lv_at hl 5 rfl) ?_
          obtain ⟨h_40, hf⟩ := og_ck_s hf
          refine va_iald hx hb hK hP 1 0 rfl rfl h_40 d_T_numberParts_40 ?_
          refine lv_iload_n hx hb d_T_numberParts_41 rfl (lv_at hl 4 rfl) ?_
          obtain ⟨h_42, hf⟩ := og_ck_s hf
          refine va_iast hx hb hK hP hD hS 5 2 rfl rfl h_42 d_T_numberParts_42 (fun H locs hP hD hS => ?_)
          have hP : va_P (dC, dI) vwCl (wT_numberParts a k K_count K_byRank R_count R_reached T_configuration T_ringCount T_keyCount (upd T_partOf (K_byRank v4.toNatClampNeg).toNatClampNeg v3)) H := hP
          have hD : va_D A (wT_numberParts a k K_count K_byRank R_count R_reached T_configuration T_ringCount T_keyCount (upd T_partOf (K_byRank v4.toNatClampNeg).toNatClampNeg v3)) := hD
          refine lv_iinc (v := (v3 + 1)) (lv' := [(3, .int (v3 + 1)), (5, .int r18), (0, .ref (a 16)), (1, .ref (a 1)), (2, .ref (a 11)), (4, .int v4)]) hx hb d_T_numberParts_43 hl (k := 4) rfl rfl (by decide) rfl (fun ls hl => ?_)
          refine lv_goto (tgt := 73) hx hb d_T_numberParts_46 (by decide) ?_
          refine lv_iinc (v := (v4 + 1)) (lv' := [(4, .int (v4 + 1)), (3, .int (v3 + 1)), (5, .int r18), (0, .ref (a 16)), (1, .ref (a 1)), (2, .ref (a 11))]) hx hb d_T_numberParts_73 hl (k := 5) rfl rfl (by decide) rfl (fun ls hl => ?_)
          refine lv_goto (tgt := 5) hx hb d_T_numberParts_76 (by decide) ?_
          exact ih5 (v3 + 1) (v4 + 1) (upd T_partOf (K_byRank v4.toNatClampNeg).toNatClampNeg v3) _ _ _ hf hP hD hS (lv_sub hl [3, 4, 5, 1, 0] rfl)
  exact lp5 FU 0 0 T_partOf _ _ _ hf hP hD hS (lv_sub hl [2, 3, 4, 1, 0] rfl)
def wT_leastRinged (a : Nat → Nat) (k : Nat → ClassId) (R_count : Int32) (R_reached : (Nat → Int64)) (R_shortest : (Nat → Int32)) (T_configuration : Int32) (T_ringCount : Int32) (T_keyCount : Int32) : va_W := [(a 11, .inr (3, [.int R_count, .ref (a 12), .ref (a 13), .ref (a 14), .ref (a 15)])), (a 13, .inl (k 13, 40, .inr (.inl R_reached))), (a 14, .inl (k 14, 40, .inl R_shortest)), (a 16, .inr (4, [.int T_configuration, .int T_ringCount, .ref (a 17), .ref (a 18), .ref (a 19), .ref (a 20), .int T_keyCount, .ref (a 21), .ref (a 22), .ref (a 23)]))]
def tT_leastRinged (k : Nat → ClassId) : List (ClassId × FieldType) := [(k 13, .long), (k 14, .int)]
set_option maxHeartbeats 4000000 in
set_option maxRecDepth 100000 in
theorem c_T_leastRinged (l : Launch) (dC : Nat → ClassId) (dI : Nat → Nat → Nat) (a : Nat → Nat) (k : Nat → ClassId) (R_count : Int32) (R_reached : (Nat → Int64)) (R_shortest : (Nat → Int32)) (T_configuration : Int32) (T_ringCount : Int32) (T_keyCount : Int32) (p1 : Int32) (y : Int32) (hf : fT_leastRinged R_reached R_shortest T_keyCount p1 = some y) : Met l y_T_leastRinged ws_T_leastRinged ({ frames := 2, cells := 0, slots := 0, locals := 44 }) (og_Pr [.ref (a 16), .int p1, .ref (a 11)] (dC, dI) (wT_leastRinged a k R_count R_reached R_shortest T_configuration T_ringCount T_keyCount) (tT_leastRinged k)) (vp_Si (fun x => x = y)) 0 0 (fun _ => False) := by
  refine Met.ofW (cc := b_T_leastRinged) (maxL := 5) (ret := (some .int)) (by decide) rfl ?_
  intro p e s m args below meth c s₁ B hml hv
  obtain ⟨rfl, hP, hK⟩ := hv
  have hx := B.exec
  have hb := B.bytes
  have hr := B.returns
  have hts0 := atoms_spec (ws := ws_T_leastRinged) B.pre
  have hts : ∀ w ∈ og_tb, w.before _ s = true := fun w h => hts0 w (List.mem_cons_of_mem _ h)
  have hown : s.vm.findClass R_T = some m.cls := findClass_of_methodNamed B.named
  have hlocks := B.notSynchronized
  have hl := lv_entry ([.ref (a 16), .int p1, .ref (a 11)]) (n := 5) (Nat.le_of_ble_eq_true rfl)
  rw [lg_entry_eq]
  generalize (lg_sl ([.ref (a 16), .int p1, .ref (a 11)]) ++ List.replicate (5 - (lg_sl ([.ref (a 16), .int p1, .ref (a 11)])).length) Slot.unset).toArray = ls at hl ⊢
  have hl : lv_has ls 5 [(0, .ref (a 16)), (1, .int p1), (2, .ref (a 11))] := hl
  rw [fT_leastRinged] at hf
  refine lv_iload_n hx hb d_T_leastRinged_0 rfl (lv_at hl 1 rfl) ?_
  refine lv_istore_n (lv' := [(3, .int p1), (0, .ref (a 16)), (1, .int p1), (2, .ref (a 11))]) hx hb d_T_leastRinged_1 rfl hl (by decide) rfl (fun ls hl => ?_)
  refine lv_iload_n hx hb d_T_leastRinged_2 rfl (lv_at hl 2 rfl) ?_
  refine lv_iconst (v := 1) hx hb d_T_leastRinged_3 (by decide) ?_
  refine lv_iadd hx hb d_T_leastRinged_4 ?_
  refine lv_istore (lv' := [(4, .int (p1 + 1)), (3, .int p1), (0, .ref (a 16)), (1, .int p1), (2, .ref (a 11))]) hx hb d_T_leastRinged_5 hl (by decide) rfl (fun ls hl => ?_)
  have k7_49 : ∀ (v3 : Int32) (ls : Array Slot), fT_leastRinged_K7_49 v3 = some y → lv_has ls 5 [(3, .int v3)] → W p l e (headSpec ws_T_leastRinged { frames := 2, cells := 0, slots := 0, locals := 44 }).room s m ([.ref (a 16), .int p1, .ref (a 11)] : List Value).toArray below meth c s.heap [] 0 0 (MQ below (vp_Si (fun x => x = y)) ([.ref (a 16), .int p1, .ref (a 11)] : List Value).toArray s 0 0 (fun _ => False)) (F0 m 49 ls []) := by
    intro v3 ls hf hl
    rw [fT_leastRinged_K7_49] at hf
    refine lv_iload_n hx hb d_T_leastRinged_49 rfl (lv_at hl 0 rfl) ?_
    obtain rfl := Option.some.inj hf
    exact W.iret (v := v3) hx hb hr (fun t ht hW => ⟨v3, rfl, rfl, ht⟩) (fun _ h => absurd h List.not_mem_nil) d_T_leastRinged_50
  have lp7 : ∀ (n7 : Nat) (v3 : Int32) (v4 : Int32) (ls : Array Slot), fT_leastRinged_L7 fT_leastRinged_K7_49 R_reached R_shortest T_keyCount p1 n7 v3 v4 = some y → lv_has ls 5 [(0, .ref (a 16)), (1, .int p1), (2, .ref (a 11)), (3, .int v3), (4, .int v4)] → W p l e (headSpec ws_T_leastRinged { frames := 2, cells := 0, slots := 0, locals := 44 }).room s m ([.ref (a 16), .int p1, .ref (a 11)] : List Value).toArray below meth c s.heap [] 0 0 (MQ below (vp_Si (fun x => x = y)) ([.ref (a 16), .int p1, .ref (a 11)] : List Value).toArray s 0 0 (fun _ => False)) (F0 m 7 ls []) := by
    intro n7
    induction n7 with
    | zero => intro v3 v4 ls hf hl; rw [fT_leastRinged_L7] at hf; cases hf
    | succ n7 ih7 =>
      intro v3 v4 ls hf hl
      rw [fT_leastRinged_L7] at hf
      refine lv_iload hx hb d_T_leastRinged_7 (lv_at hl 4 rfl) ?_
      refine lv_aload_n hx hb d_T_leastRinged_9 rfl (lv_at hl 0 rfl) ?_
      refine vg_T_keyCount (v := .int T_keyCount) hx hb hts hown hK hP 3 rfl (hts _ tb_87) rfl d_T_leastRinged_10 ?_
      refine lv_icmp_ge (tgt := 49) hx hb d_T_leastRinged_13 (by decide) (fun c_13 => ?_) (fun c_13 => ?_)
      · have hf := og_t hf c_13
        exact k7_49 v3 _ hf (lv_sub hl [3] rfl)
      · have hf := og_f hf c_13
        refine lv_aload_n hx hb d_T_leastRinged_16 rfl (lv_at hl 2 rfl) ?_
        refine lv_iload_n hx hb d_T_leastRinged_17 rfl (lv_at hl 1 rfl) ?_
        refine lv_iload hx hb d_T_leastRinged_18 (lv_at hl 4 rfl) ?_
        obtain ⟨r20, e_20, hf⟩ := og_b hf
        refine og_rV (w := (wT_leastRinged a k R_count R_reached R_shortest T_configuration T_ringCount T_keyCount)) (As := [.int p1, .int v4]) (rest := []) (ci := 3) (q0 := 0) ⟨hx, hb, hml, hown, hts⟩ (c_R_reachEachOther l dC dI a k R_count R_reached p1 v4 r20 e_20) (cwV 2 hts (og_gV tb_99 tb_100 tb_101 tb_61 tb_102) rfl rfl rfl (by decide +kernel) ⟨Nat.le_of_ble_eq_true rfl, Nat.le_of_ble_eq_true rfl⟩) hK hP [0, 1] [0] ⟨rfl, rfl, trivial⟩ rfl rfl rfl rfl rfl hl.1 rfl (Nat.le_of_ble_eq_true rfl) d_T_leastRinged_20 ⟨Nat.zero_le _, Nat.zero_le _⟩ ?_
        refine lv_if_eq (tgt := 43) hx hb d_T_leastRinged_23 (by decide) (fun c_23 => ?_) (fun c_23 => ?_)
        · have hf := og_t hf c_23
          refine lv_iinc (v := (v4 + 1)) (lv' := [(4, .int (v4 + 1)), (0, .ref (a 16)), (1, .int p1), (2, .ref (a 11)), (3, .int v3)]) hx hb d_T_leastRinged_43 hl (k := 4) rfl rfl (by decide) rfl (fun ls hl => ?_)
          refine lv_goto (tgt := 7) hx hb d_T_leastRinged_46 (by decide) ?_
          exact ih7 v3 (v4 + 1) _ hf (lv_sub hl [1, 2, 3, 4, 0] rfl)
        · have hf := og_f hf c_23
          refine lv_aload_n hx hb d_T_leastRinged_26 rfl (lv_at hl 2 rfl) ?_
          refine lv_iload hx hb d_T_leastRinged_27 (lv_at hl 4 rfl) ?_
          obtain ⟨r29, e_29, hf⟩ := og_b hf
          refine og_rV (w := (wT_leastRinged a k R_count R_reached R_shortest T_configuration T_ringCount T_keyCount)) (As := [.int v4]) (rest := []) (ci := 3) (q0 := 0) ⟨hx, hb, hml, hown, hts⟩ (c_R_shortestRing l dC dI a k R_count R_shortest v4 r29 e_29) (cwV 1 hts (og_gV tb_90 tb_91 tb_92 tb_61 tb_93) rfl rfl rfl (by decide +kernel) ⟨Nat.le_of_ble_eq_true rfl, Nat.le_of_ble_eq_true rfl⟩) hK hP [0, 2] [1] ⟨rfl, rfl, trivial⟩ rfl rfl rfl rfl rfl hl.1 rfl (Nat.le_of_ble_eq_true rfl) d_T_leastRinged_29 ⟨Nat.zero_le _, Nat.zero_le _⟩ ?_
          refine lv_aload_n hx hb d_T_leastRinged_32 rfl (lv_at hl 2 rfl) ?_
          refine lv_iload_n hx hb d_T_leastRinged_33 rfl (lv_at hl 3 rfl) ?_
          obtain ⟨r34, e_34, hf⟩ := og_b hf
          refine og_rV (w := (wT_leastRinged a k R_count R_reached R_shortest T_configuration T_ringCount T_keyCount)) (As := [.int v3]) (rest := [.int r29]) (ci := 3) (q0 := 0) ⟨hx, hb, hml, hown, hts⟩ (c_R_shortestRing l dC dI a k R_count R_shortest v3 r34 e_34) (cwV 1 hts (og_gV tb_90 tb_91 tb_92 tb_61 tb_93) rfl rfl rfl (by decide +kernel) ⟨Nat.le_of_ble_eq_true rfl, Nat.le_of_ble_eq_true rfl⟩) hK hP [0, 2] [1] ⟨rfl, rfl, trivial⟩ rfl rfl rfl rfl rfl hl.1 rfl (Nat.le_of_ble_eq_true rfl) d_T_leastRinged_34 ⟨Nat.zero_le _, Nat.zero_le _⟩ ?_
          refine lv_icmp_ge (tgt := 43) hx hb d_T_leastRinged_37 (by decide) (fun c_37 => ?_) (fun c_37 => ?_)
          · have hf := og_t hf c_37
            refine lv_iinc (v := (v4 + 1)) (lv' := [(4, .int (v4 + 1)), (0, .ref (a 16)), (1, .int p1), (2, .ref (a 11)), (3, .int v3)]) hx hb d_T_leastRinged_43 hl (k := 4) rfl rfl (by decide) rfl (fun ls hl => ?_)
            refine lv_goto (tgt := 7) hx hb d_T_leastRinged_46 (by decide) ?_
            exact ih7 v3 (v4 + 1) _ hf (lv_sub hl [1, 2, 3, 4, 0] rfl)
          · have hf := og_f hf c_37
            refine lv_iload hx hb d_T_leastRinged_40 (lv_at hl 4 rfl) ?_
            refine lv_istore_n (lv' := [(3, .int v4), (0, .ref (a 16)), (1, .int p1), (2, .ref (a 11)), (4, .int v4)]) hx hb d_T_leastRinged_42 rfl hl (by decide) rfl (fun ls hl => ?_)
            refine lv_iinc (v := (v4 + 1)) (lv' := [(4, .int (v4 + 1)), (3, .int v4), (0, .ref (a 16)), (1, .int p1), (2, .ref (a 11))]) hx hb d_T_leastRinged_43 hl (k := 4) rfl rfl (by decide) rfl (fun ls hl => ?_)
            refine lv_goto (tgt := 7) hx hb d_T_leastRinged_46 (by decide) ?_
            exact ih7 v4 (v4 + 1) _ hf (lv_sub hl [2, 3, 4, 1, 0] rfl)
  exact lp7 FU p1 (p1 + 1) _ hf (lv_sub hl [2, 3, 4, 1, 0] rfl)
def wT_tellRing (a : Nat → Nat) (k : Nat → ClassId) (K_count : Int32) (K_byRank : (Nat → Int32)) (R_count : Int32) (R_asked : (Nat → Int64)) (R_shortest : (Nat → Int32)) (R_layers : (Nat → Int64)) (T_configuration : Int32) (T_ringCount : Int32) (T_keyCount : Int32) (T_starts : (Nat → Int32)) (T_ringKeys : (Nat → Int32)) : va_W := [(a 1, .inr (1, [.int K_count, .ref (a 2), .ref (a 3), .ref (a 4)])), (a 3, .inl (k 3, 40, .inl K_byRank)), (a 11, .inr (3, [.int R_count, .ref (a 12), .ref (a 13), .ref (a 14), .ref (a 15)])), (a 12, .inl (k 12, 40, .inr (.inl R_asked))), (a 14, .inl (k 14, 40, .inl R_shortest)), (a 15, .inl (k 15, 40, .inr (.inl R_layers))), (a 16, .inr (4, [.int T_configuration, .int T_ringCount, .ref (a 17), .ref (a 18), .ref (a 19), .ref (a 20), .int T_keyCount, .ref (a 21), .ref (a 22), .ref (a 23)])), (a 21, .inl (k 21, 41, .inl T_starts)), (a 22, .inl (k 22, 40, .inl T_ringKeys))]
def tT_tellRing (k : Nat → ClassId) : List (ClassId × FieldType) := [(k 3, .int), (k 12, .long), (k 14, .int), (k 15, .long), (k 21, .int), (k 22, .int)]
set_option maxHeartbeats 4000000 in
set_option maxRecDepth 100000 in
theorem c_T_tellRing (l : Launch) (dC : Nat → ClassId) (dI : Nat → Nat → Nat) (a : Nat → Nat) (k : Nat → ClassId) (sz : Nat) (K_count : Int32) (K_byRank : (Nat → Int32)) (R_count : Int32) (R_asked : (Nat → Int64)) (R_shortest : (Nat → Int32)) (R_layers : (Nat → Int64)) (T_configuration : Int32) (T_ringCount : Int32) (T_keyCount : Int32) (T_starts : (Nat → Int32)) (T_ringKeys : (Nat → Int32)) (p1 : Int32) (y : (Nat → Int64) × Int32 × (Nat → Int32) × (Nat → Int32)) (hf : fT_tellRing K_byRank R_count R_asked R_shortest R_layers T_ringCount T_starts T_ringKeys p1 = some y) : Met l y_T_tellRing ws_T_tellRing ({ frames := 3, cells := 0, slots := 0, locals := 66 }) (og_Pw [.ref (a 16), .int p1, .ref (a 1), .ref (a 11)] (dC, dI) (wT_tellRing a k K_count K_byRank R_count R_asked R_shortest R_layers T_configuration T_ringCount T_keyCount T_starts T_ringKeys) (tT_tellRing k) sz) (og_Qv (dC, dI) (wT_tellRing a k K_count K_byRank R_count R_asked R_shortest y.1 T_configuration y.2.1 T_keyCount y.2.2.1 y.2.2.2) (tT_tellRing k) (va_A (wT_tellRing a k K_count K_byRank R_count R_asked R_shortest R_layers T_configuration T_ringCount T_keyCount T_starts T_ringKeys) sz)) 0 0 (va_A (wT_tellRing a k K_count K_byRank R_count R_asked R_shortest R_layers T_configuration T_ringCount T_keyCount T_starts T_ringKeys) sz) := by
  refine Met.ofW (cc := b_T_tellRing) (maxL := 8) (ret := none) (by decide) rfl ?_
  intro p e s m args below meth c s₁ B hml hv
  obtain ⟨rfl, hsz, hP, hK, hD0⟩ := hv
  have hx := B.exec
  have hb := B.bytes
  have hr := B.returns
  have hts0 := atoms_spec (ws := ws_T_tellRing) B.pre
  have hts : ∀ w ∈ og_tb, w.before _ s = true := fun w h => hts0 w (List.mem_cons_of_mem _ h)
  have hown : s.vm.findClass R_T = some m.cls := findClass_of_methodNamed B.named
  have hlocks := B.notSynchronized
  subst hsz
  have hD := hD0.self (sz := s.heap.size)
  generalize hAe : va_A (wT_tellRing a k K_count K_byRank R_count R_asked R_shortest R_layers T_configuration T_ringCount T_keyCount T_starts T_ringKeys) s.heap.size = A at hD ⊢
  have hA : ∀ q : Nat, s.heap.size ≤ q → A q := fun q h => by rw [← hAe]; exact Or.inr h
  have hS : va_S A s.heap s.heap [] := va_S.rf
  have hl := lv_entry ([.ref (a 16), .int p1, .ref (a 1), .ref (a 11)]) (n := 8) (Nat.le_of_ble_eq_true rfl)
  rw [lg_entry_eq]
  generalize (lg_sl ([.ref (a 16), .int p1, .ref (a 1), .ref (a 11)]) ++ List.replicate (8 - (lg_sl ([.ref (a 16), .int p1, .ref (a 1), .ref (a 11)])).length) Slot.unset).toArray = ls at hl ⊢
  have hl : lv_has ls 8 [(0, .ref (a 16)), (1, .int p1), (2, .ref (a 1)), (3, .ref (a 11))] := hl
  rw [fT_tellRing] at hf
  refine lv_aload_n hx hb d_T_tellRing_0 rfl (lv_at hl 3 rfl) ?_
  refine lv_iload_n hx hb d_T_tellRing_1 rfl (lv_at hl 1 rfl) ?_
  obtain ⟨r2, e_2, hf⟩ := og_b hf
  refine og_rV (w := (wT_tellRing a k K_count K_byRank R_count R_asked R_shortest R_layers T_configuration T_ringCount T_keyCount T_starts T_ringKeys)) (As := [.int p1]) (rest := []) (ci := 3) (q0 := 0) ⟨hx, hb, hml, hown, hts⟩ (c_R_shortestRing l dC dI a k R_count R_shortest p1 r2 e_2) (cwV 1 hts (og_gV tb_90 tb_91 tb_92 tb_61 tb_93) rfl rfl rfl (by decide +kernel) ⟨Nat.le_of_ble_eq_true rfl, Nat.le_of_ble_eq_true rfl⟩) hK hP [2, 4] [2] ⟨rfl, rfl, trivial⟩ rfl rfl rfl rfl rfl hl.1 rfl (Nat.le_of_ble_eq_true rfl) d_T_tellRing_2 ⟨Nat.zero_le _, Nat.zero_le _⟩ ?_
  refine lv_istore (lv' := [(4, .int r2), (0, .ref (a 16)), (1, .int p1), (2, .ref (a 1)), (3, .ref (a 11))]) hx hb d_T_tellRing_5 hl (by decide) rfl (fun ls hl => ?_)
  refine lv_aload_n hx hb d_T_tellRing_7 rfl (lv_at hl 1 rfl) ?_
  refine vg_T_starts (v := .ref (a 21)) hx hb hts hown hK hP 6 rfl (hts _ tb_114) rfl d_T_tellRing_8 ?_
  refine lv_aload_n hx hb d_T_tellRing_11 rfl (lv_at hl 1 rfl) ?_
  refine vg_T_ringCount (v := .int T_ringCount) hx hb hts hown hK hP 6 rfl (hts _ tb_115) rfl d_T_tellRing_12 ?_
  obtain ⟨h_15, hf⟩ := og_ck_s hf
  refine va_iald hx hb hK hP 7 4 rfl rfl h_15 d_T_tellRing_15 ?_
  refine lv_istore (lv' := [(5, .int (T_starts T_ringCount.toNatClampNeg)), (4, .int r2), (0, .ref (a 16)), (1, .int p1), (2, .ref (a 1)), (3, .ref (a 11))]) hx hb d_T_tellRing_16 hl (by decide) rfl (fun ls hl => ?_)
  refine lv_aload_n hx hb d_T_tellRing_18 rfl (lv_at hl 5 rfl) ?_
  refine lv_iload_n hx hb d_T_tellRing_19 rfl (lv_at hl 3 rfl) ?_
  refine lv_iload hx hb d_T_tellRing_20 (lv_at hl 1 rfl) ?_
  obtain ⟨r22, e_22, hf⟩ := og_b hf
  refine og_wVv (w := (wT_tellRing a k K_count K_byRank R_count R_asked R_shortest R_layers T_configuration T_ringCount T_keyCount T_starts T_ringKeys)) (w2 := (wT_tellRing a k K_count K_byRank R_count R_asked R_shortest r22 T_configuration T_ringCount T_keyCount T_starts T_ringKeys)) (As := [.int p1, .int r2]) (rest := []) (ci := 3) (q0 := 0) ⟨hx, hb, hml, hown, hts⟩ (c_R_layTowards l dC dI a k _ R_count R_asked R_layers p1 r2 r22 e_22) (cwV 2 hts (og_gV tb_116 tb_117 tb_118 tb_61 tb_119) rfl rfl rfl (by decide +kernel) ⟨Nat.le_of_ble_eq_true rfl, Nat.le_of_ble_eq_true rfl⟩) hK hP hD hS hA [2, 3, 5] [1, 3] ⟨rfl, rfl, rfl, trivial⟩ rfl [(false, 0), (false, 1), (true, 0), (true, 1), (false, 4), (true, 2), (false, 6), (false, 7), (false, 8)] ⟨rfl, rfl, rfl, rfl, rfl, rfl, rfl, rfl, rfl, rfl, rfl, rfl, rfl, rfl, rfl, trivial⟩ ⟨rfl, rfl, rfl, rfl, rfl, rfl, rfl, rfl, rfl, trivial⟩ (by decide) rfl rfl rfl rfl hl.1 rfl (Nat.le_of_ble_eq_true rfl) d_T_tellRing_22 ⟨Nat.zero_le _, Nat.zero_le _⟩ (fun H locs hP hD hS => ?_)
  refine lv_iload_n hx hb d_T_tellRing_25 rfl (lv_at hl 3 rfl) ?_
  refine lv_istore (lv' := [(6, .int p1), (5, .int (T_starts T_ringCount.toNatClampNeg)), (4, .int r2), (0, .ref (a 16)), (1, .int p1), (2, .ref (a 1)), (3, .ref (a 11))]) hx hb d_T_tellRing_26 hl (by decide) rfl (fun ls hl => ?_)
  refine lv_iload hx hb d_T_tellRing_28 (lv_at hl 2 rfl) ?_
  refine lv_iconst (v := 1) hx hb d_T_tellRing_30 (by decide) ?_
  refine lv_isub hx hb d_T_tellRing_31 ?_
  refine lv_istore (lv' := [(7, .int (r2 - 1)), (6, .int p1), (5, .int (T_starts T_ringCount.toNatClampNeg)), (4, .int r2), (0, .ref (a 16)), (1, .int p1), (2, .ref (a 1)), (3, .ref (a 11))]) hx hb d_T_tellRing_32 hl (by decide) rfl (fun ls hl => ?_)
  have k34_85 : ∀ (v5 : Int32) (T_ringKeys : (Nat → Int32)) (H : Heap) (locs : List Loc) (ls : Array Slot), fT_tellRing_K34_85 r22 T_ringCount T_starts v5 T_ringKeys = some y → va_P (dC, dI) vwCl (wT_tellRing a k K_count K_byRank R_count R_asked R_shortest r22 T_configuration T_ringCount T_keyCount T_starts T_ringKeys) H → va_D A (wT_tellRing a k K_count K_byRank R_count R_asked R_shortest r22 T_configuration T_ringCount T_keyCount T_starts T_ringKeys) → va_S A s.heap H locs → lv_has ls 8 [(0, .ref (a 16)), (5, .int v5)] → W p l e (headSpec ws_T_tellRing { frames := 3, cells := 0, slots := 0, locals := 66 }).room s m ([.ref (a 16), .int p1, .ref (a 1), .ref (a 11)] : List Value).toArray below meth c H locs 0 0 (MQ below (og_Qv (dC, dI) (wT_tellRing a k K_count K_byRank R_count R_asked R_shortest y.1 T_configuration y.2.1 T_keyCount y.2.2.1 y.2.2.2) (tT_tellRing k) A) ([.ref (a 16), .int p1, .ref (a 1), .ref (a 11)] : List Value).toArray s 0 0 A) (F0 m 85 ls []) := by
    intro v5 T_ringKeys H locs ls hf hP hD hS hl
    rw [fT_tellRing_K34_85] at hf
    refine lv_aload_n hx hb d_T_tellRing_85 rfl (lv_at hl 0 rfl) ?_
    refine lv_dup hx hb d_T_tellRing_86 rfl ?_
    refine vg_T_ringCount (v := .int T_ringCount) hx hb hts hown hK hP 6 rfl (hts _ tb_115) rfl d_T_tellRing_87 ?_
    refine lv_iconst (v := 1) hx hb d_T_tellRing_90 (by decide) ?_
    refine lv_iadd hx hb d_T_tellRing_91 ?_
    refine vs_T_ringCount (v := (T_ringCount + 1)) hx hb hts hown hK hP hD hS 6 rfl (hts _ tb_115) (Nat.le_of_ble_eq_true rfl) d_T_tellRing_92 (fun H locs hP hD hS => ?_)
    have hP : va_P (dC, dI) vwCl (wT_tellRing a k K_count K_byRank R_count R_asked R_shortest r22 T_configuration (T_ringCount + 1) T_keyCount T_starts T_ringKeys) H := hP
    have hD : va_D A (wT_tellRing a k K_count K_byRank R_count R_asked R_shortest r22 T_configuration (T_ringCount + 1) T_keyCount T_starts T_ringKeys) := hD
    refine lv_aload_n hx hb d_T_tellRing_95 rfl (lv_at hl 0 rfl) ?_
    refine vg_T_starts (v := .ref (a 21)) hx hb hts hown hK hP 6 rfl (hts _ tb_114) rfl d_T_tellRing_96 ?_
    refine lv_aload_n hx hb d_T_tellRing_99 rfl (lv_at hl 0 rfl) ?_
    refine vg_T_ringCount (v := .int (T_ringCount + 1)) hx hb hts hown hK hP 6 rfl (hts _ tb_115) rfl d_T_tellRing_100 ?_
    refine lv_iload hx hb d_T_tellRing_103 (lv_at hl 1 rfl) ?_
    obtain ⟨h_105, hf⟩ := og_ck_s hf
    refine va_iast hx hb hK hP hD hS 7 4 rfl rfl h_105 d_T_tellRing_105 (fun H locs hP hD hS => ?_)
    have hP : va_P (dC, dI) vwCl (wT_tellRing a k K_count K_byRank R_count R_asked R_shortest r22 T_configuration (T_ringCount + 1) T_keyCount (upd T_starts (T_ringCount + 1).toNatClampNeg v5) T_ringKeys) H := hP
    have hD : va_D A (wT_tellRing a k K_count K_byRank R_count R_asked R_shortest r22 T_configuration (T_ringCount + 1) T_keyCount (upd T_starts (T_ringCount + 1).toNatClampNeg v5) T_ringKeys) := hD
    obtain rfl := Option.some.inj hf
    exact W.vret hx hb hr (fun t ht hW => ⟨⟨(), rfl, trivial, by rw [ht]; exact hP, va_K.moved hW.alike hK, hD⟩, hS.F ht⟩) hS.2.2 d_T_tellRing_106
  have lp34 : ∀ (n34 : Nat) (v5 : Int32) (v6 : Int32) (v7 : Int32) (T_ringKeys : (Nat → Int32)) (H : Heap) (locs : List Loc) (ls : Array Slot), fT_tellRing_L34 (fT_tellRing_K34_85 r22 T_ringCount T_starts) K_byRank R_asked r22 n34 v5 v6 v7 T_ringKeys = some y → va_P (dC, dI) vwCl (wT_tellRing a k K_count K_byRank R_count R_asked R_shortest r22 T_configuration T_ringCount T_keyCount T_starts T_ringKeys) H → va_D A (wT_tellRing a k K_count K_byRank R_count R_asked R_shortest r22 T_configuration T_ringCount T_keyCount T_starts T_ringKeys) → va_S A s.heap H locs → lv_has ls 8 [(0, .ref (a 16)), (2, .ref (a 1)), (3, .ref (a 11)), (5, .int v5), (6, .int v6), (7, .int v7)] → W p l e (headSpec ws_T_tellRing { frames := 3, cells := 0, slots := 0, locals := 66 }).room s m ([.ref (a 16), .int p1, .ref (a 1), .ref (a 11)] : List Value).toArray below meth c H locs 0 0 (MQ below (og_Qv (dC, dI) (wT_tellRing a k K_count K_byRank R_count R_asked R_shortest y.1 T_configuration y.2.1 T_keyCount y.2.2.1 y.2.2.2) (tT_tellRing k) A) ([.ref (a 16), .int p1, .ref (a 1), .ref (a 11)] : List Value).toArray s 0 0 A) (F0 m 34 ls []) := by
    intro n34
    induction n34 with
    | zero => intro v5 v6 v7 T_ringKeys H locs ls hf hP hD hS hl; rw [fT_tellRing_L34] at hf; cases hf
    | succ n34 ih34 =>
      intro v5 v6 v7 T_ringKeys H locs ls hf hP hD hS hl
      rw [fT_tellRing_L34] at hf
      refine lv_iload hx hb d_T_tellRing_34 (lv_at hl 5 rfl) ?_
      refine lv_if_lt (tgt := 85) hx hb d_T_tellRing_36 (by decide) (fun c_36 => ?_) (fun c_36 => ?_)
      · have hf := og_t hf c_36
        exact k34_85 v5 T_ringKeys _ _ _ hf hP hD hS (lv_sub hl [0, 3] rfl)
      · have hf := og_f hf c_36
        refine lv_iload hx hb d_T_tellRing_39 (lv_at hl 4 rfl) ?_
        refine lv_iconst (v := (-1)) hx hb d_T_tellRing_41 (by decide) ?_
        refine lv_icmp_eq (tgt := 85) hx hb d_T_tellRing_42 (by decide) (fun c_42 => ?_) (fun c_42 => ?_)
        · have hf := og_t hf c_42
          exact k34_85 v5 T_ringKeys _ _ _ hf hP hD hS (lv_sub hl [0, 3] rfl)
        · have hf := og_f hf c_42
          refine lv_iload hx hb d_T_tellRing_45 (lv_at hl 3 rfl) ?_
          refine lv_bipush (v := 40) hx hb d_T_tellRing_47 (by decide) ?_
          refine lv_icmp_ge (tgt := 85) hx hb d_T_tellRing_49 (by decide) (fun c_49 => ?_) (fun c_49 => ?_)
          · have hf := og_t hf c_49
            exact k34_85 v5 T_ringKeys _ _ _ hf hP hD hS (lv_sub hl [0, 3] rfl)
          · have hf := og_f hf c_49
            refine lv_aload_n hx hb d_T_tellRing_52 rfl (lv_at hl 0 rfl) ?_
            refine vg_T_ringKeys (v := .ref (a 22)) hx hb hts hown hK hP 6 rfl (hts _ tb_120) rfl d_T_tellRing_53 ?_
            refine lv_iload hx hb d_T_tellRing_56 (lv_at hl 3 rfl) ?_
            refine lv_aload_n hx hb d_T_tellRing_58 rfl (lv_at hl 1 rfl) ?_
            refine vg_K_byRank (v := .ref (a 3)) hx hb hts hown hK hP 0 rfl (hts _ tb_88) rfl d_T_tellRing_59 ?_
            refine lv_iload hx hb d_T_tellRing_62 (lv_at hl 4 rfl) ?_
            obtain ⟨h_64, hf⟩ := og_ck_s hf
            refine va_iald hx hb hK hP 1 0 rfl rfl h_64 d_T_tellRing_64 ?_
            obtain ⟨h_65, hf⟩ := og_ck_s hf
            refine va_iast hx hb hK hP hD hS 8 5 rfl rfl h_65 d_T_tellRing_65 (fun H locs hP hD hS => ?_)
            have hP : va_P (dC, dI) vwCl (wT_tellRing a k K_count K_byRank R_count R_asked R_shortest r22 T_configuration T_ringCount T_keyCount T_starts (upd T_ringKeys v5.toNatClampNeg (K_byRank v6.toNatClampNeg))) H := hP
            have hD : va_D A (wT_tellRing a k K_count K_byRank R_count R_asked R_shortest r22 T_configuration T_ringCount T_keyCount T_starts (upd T_ringKeys v5.toNatClampNeg (K_byRank v6.toNatClampNeg))) := hD
            refine lv_iinc (v := (v5 + 1)) (lv' := [(5, .int (v5 + 1)), (0, .ref (a 16)), (2, .ref (a 1)), (3, .ref (a 11)), (6, .int v6), (7, .int v7)]) hx hb d_T_tellRing_66 hl (k := 3) rfl rfl (by decide) rfl (fun ls hl => ?_)
            refine lv_aload_n hx hb d_T_tellRing_69 rfl (lv_at hl 3 rfl) ?_
            refine lv_iload hx hb d_T_tellRing_70 (lv_at hl 4 rfl) ?_
            refine lv_iload hx hb d_T_tellRing_72 (lv_at hl 5 rfl) ?_
            obtain ⟨r74, e_74, hf⟩ := og_b hf
            refine og_rV (w := (wT_tellRing a k K_count K_byRank R_count R_asked R_shortest r22 T_configuration T_ringCount T_keyCount T_starts (upd T_ringKeys v5.toNatClampNeg (K_byRank v6.toNatClampNeg)))) (As := [.int v6, .int v7]) (rest := []) (ci := 3) (q0 := 0) ⟨hx, hb, hml, hown, hts⟩ (c_R_firstAsked l dC dI a k R_count R_asked r22 v6 v7 r74 e_74) (cwV 2 hts (og_gV tb_121 tb_122 tb_123 tb_61 tb_124) rfl rfl rfl (by decide +kernel) ⟨Nat.le_of_ble_eq_true rfl, Nat.le_of_ble_eq_true rfl⟩) hK hP [2, 3, 5] [1, 3] ⟨rfl, rfl, rfl, trivial⟩ rfl rfl rfl rfl rfl hl.1 rfl (Nat.le_of_ble_eq_true rfl) d_T_tellRing_74 ⟨Nat.zero_le _, Nat.zero_le _⟩ ?_
            refine lv_istore (lv' := [(6, .int r74), (5, .int (v5 + 1)), (0, .ref (a 16)), (2, .ref (a 1)), (3, .ref (a 11)), (7, .int v7)]) hx hb d_T_tellRing_77 hl (by decide) rfl (fun ls hl => ?_)
            refine lv_iinc (v := (v7 + (-1))) (lv' := [(7, .int (v7 + (-1))), (6, .int r74), (5, .int (v5 + 1)), (0, .ref (a 16)), (2, .ref (a 1)), (3, .ref (a 11))]) hx hb d_T_tellRing_79 hl (k := 5) rfl rfl (by decide) rfl (fun ls hl => ?_)
            refine lv_goto (tgt := 34) hx hb d_T_tellRing_82 (by decide) ?_
            exact ih34 (v5 + 1) r74 (v7 + (-1)) (upd T_ringKeys v5.toNatClampNeg (K_byRank v6.toNatClampNeg)) _ _ _ hf hP hD hS (lv_sub hl [3, 4, 5, 2, 1, 0] rfl)
  exact lp34 FU (T_starts T_ringCount.toNatClampNeg) p1 (r2 - 1) T_ringKeys _ _ _ hf hP hD hS (lv_sub hl [4, 6, 7, 2, 1, 0] rfl)
def wT_tellRings (a : Nat → Nat) (k : Nat → ClassId) (K_count : Int32) (K_byRank : (Nat → Int32)) (R_count : Int32) (R_asked : (Nat → Int64)) (R_reached : (Nat → Int64)) (R_shortest : (Nat → Int32)) (R_layers : (Nat → Int64)) (T_configuration : Int32) (T_ringCount : Int32) (T_keyCount : Int32) (T_starts : (Nat → Int32)) (T_ringKeys : (Nat → Int32)) : va_W := [(a 1, .inr (1, [.int K_count, .ref (a 2), .ref (a 3), .ref (a 4)])), (a 3, .inl (k 3, 40, .inl K_byRank)), (a 11, .inr (3, [.int R_count, .ref (a 12), .ref (a 13), .ref (a 14), .ref (a 15)])), (a 12, .inl (k 12, 40, .inr (.inl R_asked))), (a 13, .inl (k 13, 40, .inr (.inl R_reached))), (a 14, .inl (k 14, 40, .inl R_shortest)), (a 15, .inl (k 15, 40, .inr (.inl R_layers))), (a 16, .inr (4, [.int T_configuration, .int T_ringCount, .ref (a 17), .ref (a 18), .ref (a 19), .ref (a 20), .int T_keyCount, .ref (a 21), .ref (a 22), .ref (a 23)])), (a 21, .inl (k 21, 41, .inl T_starts)), (a 22, .inl (k 22, 40, .inl T_ringKeys))]
def tT_tellRings (k : Nat → ClassId) : List (ClassId × FieldType) := [(k 3, .int), (k 12, .long), (k 13, .long), (k 14, .int), (k 15, .long), (k 21, .int), (k 22, .int)]
set_option maxHeartbeats 4000000 in
set_option maxRecDepth 100000 in
theorem c_T_tellRings (l : Launch) (dC : Nat → ClassId) (dI : Nat → Nat → Nat) (a : Nat → Nat) (k : Nat → ClassId) (sz : Nat) (K_count : Int32) (K_byRank : (Nat → Int32)) (R_count : Int32) (R_asked : (Nat → Int64)) (R_reached : (Nat → Int64)) (R_shortest : (Nat → Int32)) (R_layers : (Nat → Int64)) (T_configuration : Int32) (T_ringCount : Int32) (T_keyCount : Int32) (T_starts : (Nat → Int32)) (T_ringKeys : (Nat → Int32)) (y : (Nat → Int64) × Int32 × (Nat → Int32) × (Nat → Int32)) (hf : fT_tellRings K_byRank R_count R_asked R_reached R_shortest R_layers T_ringCount T_keyCount T_starts T_ringKeys = some y) : Met l y_T_tellRings ws_T_tellRings ({ frames := 4, cells := 0, slots := 0, locals := 93 }) (og_Pw [.ref (a 16), .ref (a 1), .ref (a 11)] (dC, dI) (wT_tellRings a k K_count K_byRank R_count R_asked R_reached R_shortest R_layers T_configuration T_ringCount T_keyCount T_starts T_ringKeys) (tT_tellRings k) sz) (og_Qv (dC, dI) (wT_tellRings a k K_count K_byRank R_count R_asked R_reached R_shortest y.1 T_configuration y.2.1 T_keyCount y.2.2.1 y.2.2.2) (tT_tellRings k) (va_A (wT_tellRings a k K_count K_byRank R_count R_asked R_reached R_shortest R_layers T_configuration T_ringCount T_keyCount T_starts T_ringKeys) sz)) 0 0 (va_A (wT_tellRings a k K_count K_byRank R_count R_asked R_reached R_shortest R_layers T_configuration T_ringCount T_keyCount T_starts T_ringKeys) sz) := by
  refine Met.ofW (cc := b_T_tellRings) (maxL := 4) (ret := none) (by decide) rfl ?_
  intro p e s m args below meth c s₁ B hml hv
  obtain ⟨rfl, hsz, hP, hK, hD0⟩ := hv
  have hx := B.exec
  have hb := B.bytes
  have hr := B.returns
  have hts0 := atoms_spec (ws := ws_T_tellRings) B.pre
  have hts : ∀ w ∈ og_tb, w.before _ s = true := fun w h => hts0 w (List.mem_cons_of_mem _ h)
  have hown : s.vm.findClass R_T = some m.cls := findClass_of_methodNamed B.named
  have hlocks := B.notSynchronized
  subst hsz
  have hD := hD0.self (sz := s.heap.size)
  generalize hAe : va_A (wT_tellRings a k K_count K_byRank R_count R_asked R_reached R_shortest R_layers T_configuration T_ringCount T_keyCount T_starts T_ringKeys) s.heap.size = A at hD ⊢
  have hA : ∀ q : Nat, s.heap.size ≤ q → A q := fun q h => by rw [← hAe]; exact Or.inr h
  have hS : va_S A s.heap s.heap [] := va_S.rf
  have hl := lv_entry ([.ref (a 16), .ref (a 1), .ref (a 11)]) (n := 4) (Nat.le_of_ble_eq_true rfl)
  rw [lg_entry_eq]
  generalize (lg_sl ([.ref (a 16), .ref (a 1), .ref (a 11)]) ++ List.replicate (4 - (lg_sl ([.ref (a 16), .ref (a 1), .ref (a 11)])).length) Slot.unset).toArray = ls at hl ⊢
  have hl : lv_has ls 4 [(0, .ref (a 16)), (1, .ref (a 1)), (2, .ref (a 11))] := hl
  rw [fT_tellRings] at hf
  refine lv_aload_n hx hb d_T_tellRings_0 rfl (lv_at hl 0 rfl) ?_
  refine lv_iconst (v := 0) hx hb d_T_tellRings_1 (by decide) ?_
  refine vs_T_ringCount (v := 0) hx hb hts hown hK hP hD hS 7 rfl (hts _ tb_115) (Nat.le_of_ble_eq_true rfl) d_T_tellRings_2 (fun H locs hP hD hS => ?_)
  have hP : va_P (dC, dI) vwCl (wT_tellRings a k K_count K_byRank R_count R_asked R_reached R_shortest R_layers T_configuration 0 T_keyCount T_starts T_ringKeys) H := hP
  have hD : va_D A (wT_tellRings a k K_count K_byRank R_count R_asked R_reached R_shortest R_layers T_configuration 0 T_keyCount T_starts T_ringKeys) := hD
  refine lv_iconst (v := 0) hx hb d_T_tellRings_5 (by decide) ?_
  refine lv_istore_n (lv' := [(3, .int 0), (0, .ref (a 16)), (1, .ref (a 1)), (2, .ref (a 11))]) hx hb d_T_tellRings_6 rfl hl (by decide) rfl (fun ls hl => ?_)
  have k7_51 : ∀ (R_layers : (Nat → Int64)) (T_ringCount : Int32) (T_starts : (Nat → Int32)) (T_ringKeys : (Nat → Int32)) (H : Heap) (locs : List Loc) (ls : Array Slot), fT_tellRings_K7_51 R_layers T_ringCount T_starts T_ringKeys = some y → va_P (dC, dI) vwCl (wT_tellRings a k K_count K_byRank R_count R_asked R_reached R_shortest R_layers T_configuration T_ringCount T_keyCount T_starts T_ringKeys) H → va_D A (wT_tellRings a k K_count K_byRank R_count R_asked R_reached R_shortest R_layers T_configuration T_ringCount T_keyCount T_starts T_ringKeys) → va_S A s.heap H locs → lv_has ls 4 [] → W p l e (headSpec ws_T_tellRings { frames := 4, cells := 0, slots := 0, locals := 93 }).room s m ([.ref (a 16), .ref (a 1), .ref (a 11)] : List Value).toArray below meth c H locs 0 0 (MQ below (og_Qv (dC, dI) (wT_tellRings a k K_count K_byRank R_count R_asked R_reached R_shortest y.1 T_configuration y.2.1 T_keyCount y.2.2.1 y.2.2.2) (tT_tellRings k) A) ([.ref (a 16), .ref (a 1), .ref (a 11)] : List Value).toArray s 0 0 A) (F0 m 51 ls []) := by
    intro R_layers T_ringCount T_starts T_ringKeys H locs ls hf hP hD hS hl
    rw [fT_tellRings_K7_51] at hf
    obtain rfl := Option.some.inj hf
    exact W.vret hx hb hr (fun t ht hW => ⟨⟨(), rfl, trivial, by rw [ht]; exact hP, va_K.moved hW.alike hK, hD⟩, hS.F ht⟩) hS.2.2 d_T_tellRings_51
  have lp7 : ∀ (n7 : Nat) (v3 : Int32) (R_layers : (Nat → Int64)) (T_ringCount : Int32) (T_starts : (Nat → Int32)) (T_ringKeys : (Nat → Int32)) (H : Heap) (locs : List Loc) (ls : Array Slot), fT_tellRings_L7 fT_tellRings_K7_51 K_byRank R_count R_asked R_reached R_shortest T_keyCount n7 v3 R_layers T_ringCount T_starts T_ringKeys = some y → va_P (dC, dI) vwCl (wT_tellRings a k K_count K_byRank R_count R_asked R_reached R_shortest R_layers T_configuration T_ringCount T_keyCount T_starts T_ringKeys) H → va_D A (wT_tellRings a k K_count K_byRank R_count R_asked R_reached R_shortest R_layers T_configuration T_ringCount T_keyCount T_starts T_ringKeys) → va_S A s.heap H locs → lv_has ls 4 [(0, .ref (a 16)), (1, .ref (a 1)), (2, .ref (a 11)), (3, .int v3)] → W p l e (headSpec ws_T_tellRings { frames := 4, cells := 0, slots := 0, locals := 93 }).room s m ([.ref (a 16), .ref (a 1), .ref (a 11)] : List Value).toArray below meth c H locs 0 0 (MQ below (og_Qv (dC, dI) (wT_tellRings a k K_count K_byRank R_count R_asked R_reached R_shortest y.1 T_configuration y.2.1 T_keyCount y.2.2.1 y.2.2.2) (tT_tellRings k) A) ([.ref (a 16), .ref (a 1), .ref (a 11)] : List Value).toArray s 0 0 A) (F0 m 7 ls []) := by
    intro n7
    induction n7 with
    | zero => intro v3 R_layers T_ringCount T_starts T_ringKeys H locs ls hf hP hD hS hl; rw [fT_tellRings_L7] at hf; cases hf
    | succ n7 ih7 =>
      intro v3 R_layers T_ringCount T_starts T_ringKeys H locs ls hf hP hD hS hl
      rw [fT_tellRings_L7] at hf
      refine lv_iload_n hx hb d_T_tellRings_7 rfl (lv_at hl 3 rfl) ?_
      refine lv_aload_n hx hb d_T_tellRings_8 rfl (lv_at hl 0 rfl) ?_
      refine vg_T_keyCount (v := .int T_keyCount) hx hb hts hown hK hP 7 rfl (hts _ tb_87) rfl d_T_tellRings_9 ?_
      refine lv_icmp_ge (tgt := 51) hx hb d_T_tellRings_12 (by decide) (fun c_12 => ?_) (fun c_12 => ?_)
      · have hf := og_t hf c_12
        exact k7_51 R_layers T_ringCount T_starts T_ringKeys _ _ _ hf hP hD hS (lv_sub hl [] rfl)
      · have hf := og_f hf c_12
        refine lv_aload_n hx hb d_T_tellRings_15 rfl (lv_at hl 2 rfl) ?_
        refine lv_iload_n hx hb d_T_tellRings_16 rfl (lv_at hl 3 rfl) ?_
        obtain ⟨r17, e_17, hf⟩ := og_b hf
        refine og_rV (w := (wT_tellRings a k K_count K_byRank R_count R_asked R_reached R_shortest R_layers T_configuration T_ringCount T_keyCount T_starts T_ringKeys)) (As := [.int v3]) (rest := []) (ci := 3) (q0 := 0) ⟨hx, hb, hml, hown, hts⟩ (c_R_shortestRing l dC dI a k R_count R_shortest v3 r17 e_17) (cwV 1 hts (og_gV tb_90 tb_91 tb_92 tb_61 tb_93) rfl rfl rfl (by decide +kernel) ⟨Nat.le_of_ble_eq_true rfl, Nat.le_of_ble_eq_true rfl⟩) hK hP [2, 5] [3] ⟨rfl, rfl, trivial⟩ rfl rfl rfl rfl rfl hl.1 rfl (Nat.le_of_ble_eq_true rfl) d_T_tellRings_17 ⟨Nat.zero_le _, Nat.zero_le _⟩ ?_
        refine lv_if_le (tgt := 45) hx hb d_T_tellRings_20 (by decide) (fun c_20 => ?_) (fun c_20 => ?_)
        · have hf := og_t hf c_20
          refine lv_iinc (v := (v3 + 1)) (lv' := [(3, .int (v3 + 1)), (0, .ref (a 16)), (1, .ref (a 1)), (2, .ref (a 11))]) hx hb d_T_tellRings_45 hl (k := 3) rfl rfl (by decide) rfl (fun ls hl => ?_)
          refine lv_goto (tgt := 7) hx hb d_T_tellRings_48 (by decide) ?_
          exact ih7 (v3 + 1) R_layers T_ringCount T_starts T_ringKeys _ _ _ hf hP hD hS (lv_sub hl [1, 2, 3, 0] rfl)
        · have hf := og_f hf c_20
          refine lv_aload_n hx hb d_T_tellRings_23 rfl (lv_at hl 0 rfl) ?_
          refine lv_iload_n hx hb d_T_tellRings_24 rfl (lv_at hl 3 rfl) ?_
          refine lv_aload_n hx hb d_T_tellRings_25 rfl (lv_at hl 2 rfl) ?_
          obtain ⟨r26, e_26, hf⟩ := og_b hf
          refine og_rV (w := (wT_tellRings a k K_count K_byRank R_count R_asked R_reached R_shortest R_layers T_configuration T_ringCount T_keyCount T_starts T_ringKeys)) (As := [.int v3, .ref (a 11)]) (rest := []) (ci := 4) (q0 := 2) ⟨hx, hb, hml, hown, hts⟩ (c_T_firstOfPart l dC dI a k R_count R_reached T_configuration T_ringCount T_keyCount v3 r26 e_26) (cwV 2 hts (og_gV tb_103 tb_104 tb_105 tb_106 tb_107) rfl rfl rfl (by decide +kernel) ⟨Nat.le_of_ble_eq_true rfl, Nat.le_of_ble_eq_true rfl⟩) hK hP [2, 4, 7] [2] ⟨rfl, rfl, rfl, trivial⟩ rfl rfl rfl rfl rfl hl.1 rfl (Nat.le_of_ble_eq_true rfl) d_T_tellRings_26 ⟨Nat.zero_le _, Nat.zero_le _⟩ ?_
          refine lv_iload_n hx hb d_T_tellRings_29 rfl (lv_at hl 3 rfl) ?_
          refine lv_icmp_ne (tgt := 45) hx hb d_T_tellRings_30 (by decide) (fun c_30 => ?_) (fun c_30 => ?_)
          · have hf := og_f hf c_30
            refine lv_iinc (v := (v3 + 1)) (lv' := [(3, .int (v3 + 1)), (0, .ref (a 16)), (1, .ref (a 1)), (2, .ref (a 11))]) hx hb d_T_tellRings_45 hl (k := 3) rfl rfl (by decide) rfl (fun ls hl => ?_)
            refine lv_goto (tgt := 7) hx hb d_T_tellRings_48 (by decide) ?_
            exact ih7 (v3 + 1) R_layers T_ringCount T_starts T_ringKeys _ _ _ hf hP hD hS (lv_sub hl [1, 2, 3, 0] rfl)
          · have hf := og_t hf c_30
            refine lv_aload_n hx hb d_T_tellRings_33 rfl (lv_at hl 0 rfl) ?_
            refine lv_aload_n hx hb d_T_tellRings_34 rfl (lv_at hl 0 rfl) ?_
            refine lv_iload_n hx hb d_T_tellRings_35 rfl (lv_at hl 3 rfl) ?_
            refine lv_aload_n hx hb d_T_tellRings_36 rfl (lv_at hl 2 rfl) ?_
            obtain ⟨r37, e_37, hf⟩ := og_b hf
            refine og_rV (w := (wT_tellRings a k K_count K_byRank R_count R_asked R_reached R_shortest R_layers T_configuration T_ringCount T_keyCount T_starts T_ringKeys)) (As := [.int v3, .ref (a 11)]) (rest := [.ref (a 16)]) (ci := 4) (q0 := 3) ⟨hx, hb, hml, hown, hts⟩ (c_T_leastRinged l dC dI a k R_count R_reached R_shortest T_configuration T_ringCount T_keyCount v3 r37 e_37) (cwV 2 hts (og_gV tb_125 tb_126 tb_127 tb_106 tb_128) rfl rfl rfl (by decide +kernel) ⟨Nat.le_of_ble_eq_true rfl, Nat.le_of_ble_eq_true rfl⟩) hK hP [2, 4, 5, 7] [2, 3] ⟨rfl, rfl, rfl, rfl, trivial⟩ rfl rfl rfl rfl rfl hl.1 rfl (Nat.le_of_ble_eq_true rfl) d_T_tellRings_37 ⟨Nat.zero_le _, Nat.zero_le _⟩ ?_
            refine lv_aload_n hx hb d_T_tellRings_40 rfl (lv_at hl 1 rfl) ?_
            refine lv_aload_n hx hb d_T_tellRings_41 rfl (lv_at hl 2 rfl) ?_
            obtain ⟨r42, e_42, hf⟩ := og_b hf
            refine og_wVv (w := (wT_tellRings a k K_count K_byRank R_count R_asked R_reached R_shortest R_layers T_configuration T_ringCount T_keyCount T_starts T_ringKeys)) (w2 := (wT_tellRings a k K_count K_byRank R_count R_asked R_reached R_shortest r42.1 T_configuration r42.2.1 T_keyCount r42.2.2.1 r42.2.2.2)) (As := [.int r37, .ref (a 1), .ref (a 11)]) (rest := []) (ci := 4) (q0 := 6) ⟨hx, hb, hml, hown, hts⟩ (c_T_tellRing l dC dI a k _ K_count K_byRank R_count R_asked R_shortest R_layers T_configuration T_ringCount T_keyCount T_starts T_ringKeys r37 r42 e_42) (cwV 3 hts (og_gV tb_129 tb_130 tb_131 tb_106 tb_132) rfl rfl rfl (by decide +kernel) ⟨Nat.le_of_ble_eq_true rfl, Nat.le_of_ble_eq_true rfl⟩) hK hP hD hS hA [0, 1, 2, 3, 5, 6, 7, 8, 9] [0, 1, 3, 4, 5, 6] ⟨rfl, rfl, rfl, rfl, rfl, rfl, rfl, rfl, rfl, trivial⟩ rfl [(true, 0), (true, 1), (true, 2), (true, 3), (false, 4), (true, 4), (true, 5), (true, 6), (true, 7), (true, 8)] ⟨rfl, rfl, rfl, rfl, rfl, rfl, rfl, rfl, rfl, rfl, rfl, trivial⟩ ⟨rfl, rfl, rfl, rfl, rfl, rfl, rfl, rfl, rfl, rfl, trivial⟩ (by decide) rfl rfl rfl rfl hl.1 rfl (Nat.le_of_ble_eq_true rfl) d_T_tellRings_42 ⟨Nat.zero_le _, Nat.zero_le _⟩ (fun H locs hP hD hS => ?_)
            refine lv_iinc (v := (v3 + 1)) (lv' := [(3, .int (v3 + 1)), (0, .ref (a 16)), (1, .ref (a 1)), (2, .ref (a 11))]) hx hb d_T_tellRings_45 hl (k := 3) rfl rfl (by decide) rfl (fun ls hl => ?_)
            refine lv_goto (tgt := 7) hx hb d_T_tellRings_48 (by decide) ?_
            exact ih7 (v3 + 1) r42.1 r42.2.1 r42.2.2.1 r42.2.2.2 _ _ _ hf hP hD hS (lv_sub hl [1, 2, 3, 0] rfl)
  exact lp7 FU 0 R_layers 0 T_starts T_ringKeys _ _ _ hf hP hD hS (lv_sub hl [1, 2, 3, 0] rfl)
def wT_tellEdges (a : Nat → Nat) (k : Nat → ClassId) (E_count : Int32) (E_from : (Nat → Int32)) (E_to : (Nat → Int32)) (E_places : (Nat → Int32)) (E_configurations : (Nat → Int32)) (E_gone : (Nat → Int32)) (T_configuration : Int32) (T_ringCount : Int32) (T_keyCount : Int32) (T_onlyIn : (Nat → Int32)) (T_starts : (Nat → Int32)) (T_ringKeys : (Nat → Int32)) (T_ringEdges : (Nat → Int32)) : va_W := [(a 5, .inr (2, [.int E_count, .ref (a 6), .ref (a 7), .ref (a 8), .ref (a 9), .ref (a 10)])), (a 6, .inl (k 6, 160, .inl E_from)), (a 7, .inl (k 7, 160, .inl E_to)), (a 8, .inl (k 8, 160, .inl E_places)), (a 9, .inl (k 9, 160, .inl E_configurations)), (a 10, .inl (k 10, 160, .inl E_gone)), (a 16, .inr (4, [.int T_configuration, .int T_ringCount, .ref (a 17), .ref (a 18), .ref (a 19), .ref (a 20), .int T_keyCount, .ref (a 21), .ref (a 22), .ref (a 23)])), (a 20, .inl (k 20, 40, .inl T_onlyIn)), (a 21, .inl (k 21, 41, .inl T_starts)), (a 22, .inl (k 22, 40, .inl T_ringKeys)), (a 23, .inl (k 23, 40, .inl T_ringEdges))]
def tT_tellEdges (k : Nat → ClassId) : List (ClassId × FieldType) := [(k 6, .int), (k 7, .int), (k 8, .int), (k 9, .int), (k 10, .boolean), (k 20, .int), (k 21, .int), (k 22, .int), (k 23, .int)]
set_option maxHeartbeats 4000000 in
set_option maxRecDepth 100000 in
theorem c_T_tellEdges (l : Launch) (dC : Nat → ClassId) (dI : Nat → Nat → Nat) (a : Nat → Nat) (k : Nat → ClassId) (sz : Nat) (E_count : Int32) (E_from : (Nat → Int32)) (E_to : (Nat → Int32)) (E_places : (Nat → Int32)) (E_configurations : (Nat → Int32)) (E_gone : (Nat → Int32)) (T_configuration : Int32) (T_ringCount : Int32) (T_keyCount : Int32) (T_onlyIn : (Nat → Int32)) (T_starts : (Nat → Int32)) (T_ringKeys : (Nat → Int32)) (T_ringEdges : (Nat → Int32)) (p1 : Int32) (y : (Nat → Int32) × (Nat → Int32)) (hf : fT_tellEdges E_count E_from E_to E_places E_configurations E_gone T_configuration T_onlyIn T_starts T_ringKeys T_ringEdges p1 = some y) : Met l y_T_tellEdges ws_T_tellEdges ({ frames := 3, cells := 0, slots := 0, locals := 68 }) (og_Pw [.ref (a 16), .int p1, .ref (a 5)] (dC, dI) (wT_tellEdges a k E_count E_from E_to E_places E_configurations E_gone T_configuration T_ringCount T_keyCount T_onlyIn T_starts T_ringKeys T_ringEdges) (tT_tellEdges k) sz) (og_Qv (dC, dI) (wT_tellEdges a k E_count E_from E_to E_places E_configurations E_gone T_configuration T_ringCount T_keyCount y.1 T_starts T_ringKeys y.2) (tT_tellEdges k) (va_A (wT_tellEdges a k E_count E_from E_to E_places E_configurations E_gone T_configuration T_ringCount T_keyCount T_onlyIn T_starts T_ringKeys T_ringEdges) sz)) 0 0 (va_A (wT_tellEdges a k E_count E_from E_to E_places E_configurations E_gone T_configuration T_ringCount T_keyCount T_onlyIn T_starts T_ringKeys T_ringEdges) sz) := by
  refine Met.ofW (cc := b_T_tellEdges) (maxL := 7) (ret := none) (by decide) rfl ?_
  intro p e s m args below meth c s₁ B hml hv
  obtain ⟨rfl, hsz, hP, hK, hD0⟩ := hv
  have hx := B.exec
  have hb := B.bytes
  have hr := B.returns
  have hts0 := atoms_spec (ws := ws_T_tellEdges) B.pre
  have hts : ∀ w ∈ og_tb, w.before _ s = true := fun w h => hts0 w (List.mem_cons_of_mem _ h)
  have hown : s.vm.findClass R_T = some m.cls := findClass_of_methodNamed B.named
  have hlocks := B.notSynchronized
  subst hsz
  have hD := hD0.self (sz := s.heap.size)
  generalize hAe : va_A (wT_tellEdges a k E_count E_from E_to E_places E_configurations E_gone T_configuration T_ringCount T_keyCount T_onlyIn T_starts T_ringKeys T_ringEdges) s.heap.size = A at hD ⊢
  have hA : ∀ q : Nat, s.heap.size ≤ q → A q := fun q h => by rw [← hAe]; exact Or.inr h
  have hS : va_S A s.heap s.heap [] := va_S.rf
  have hl := lv_entry ([.ref (a 16), .int p1, .ref (a 5)]) (n := 7) (Nat.le_of_ble_eq_true rfl)
  rw [lg_entry_eq]
  generalize (lg_sl ([.ref (a 16), .int p1, .ref (a 5)]) ++ List.replicate (7 - (lg_sl ([.ref (a 16), .int p1, .ref (a 5)])).length) Slot.unset).toArray = ls at hl ⊢
  have hl : lv_has ls 7 [(0, .ref (a 16)), (1, .int p1), (2, .ref (a 5))] := hl
  rw [fT_tellEdges] at hf
  refine lv_sipush (v := 255) hx hb d_T_tellEdges_0 (by decide) ?_
  refine lv_istore_n (lv' := [(3, .int 255), (0, .ref (a 16)), (1, .int p1), (2, .ref (a 5))]) hx hb d_T_tellEdges_3 rfl hl (by decide) rfl (fun ls hl => ?_)
  refine lv_aload_n hx hb d_T_tellEdges_4 rfl (lv_at hl 1 rfl) ?_
  refine vg_T_starts (v := .ref (a 21)) hx hb hts hown hK hP 6 rfl (hts _ tb_114) rfl d_T_tellEdges_5 ?_
  refine lv_iload_n hx hb d_T_tellEdges_8 rfl (lv_at hl 2 rfl) ?_
  obtain ⟨h_9, hf⟩ := og_ck_s hf
  refine va_iald hx hb hK hP 8 6 rfl rfl h_9 d_T_tellEdges_9 ?_
  refine lv_istore (lv' := [(4, .int (T_starts p1.toNatClampNeg)), (3, .int 255), (0, .ref (a 16)), (1, .int p1), (2, .ref (a 5))]) hx hb d_T_tellEdges_10 hl (by decide) rfl (fun ls hl => ?_)
  have k12_105 : ∀ (v3 : Int32) (T_ringEdges : (Nat → Int32)) (H : Heap) (locs : List Loc) (ls : Array Slot), fT_tellEdges_K12_105 T_configuration T_onlyIn p1 v3 T_ringEdges = some y → va_P (dC, dI) vwCl (wT_tellEdges a k E_count E_from E_to E_places E_configurations E_gone T_configuration T_ringCount T_keyCount T_onlyIn T_starts T_ringKeys T_ringEdges) H → va_D A (wT_tellEdges a k E_count E_from E_to E_places E_configurations E_gone T_configuration T_ringCount T_keyCount T_onlyIn T_starts T_ringKeys T_ringEdges) → va_S A s.heap H locs → lv_has ls 7 [(0, .ref (a 16)), (1, .int p1), (3, .int v3)] → W p l e (headSpec ws_T_tellEdges { frames := 3, cells := 0, slots := 0, locals := 68 }).room s m ([.ref (a 16), .int p1, .ref (a 5)] : List Value).toArray below meth c H locs 0 0 (MQ below (og_Qv (dC, dI) (wT_tellEdges a k E_count E_from E_to E_places E_configurations E_gone T_configuration T_ringCount T_keyCount y.1 T_starts T_ringKeys y.2) (tT_tellEdges k) A) ([.ref (a 16), .int p1, .ref (a 5)] : List Value).toArray s 0 0 A) (F0 m 105 ls []) := by
    intro v3 T_ringEdges H locs ls hf hP hD hS hl
    rw [fT_tellEdges_K12_105] at hf
    refine lv_aload_n hx hb d_T_tellEdges_105 rfl (lv_at hl 0 rfl) ?_
    refine vg_T_onlyIn (v := .ref (a 20)) hx hb hts hown hK hP 6 rfl (hts _ tb_134) rfl d_T_tellEdges_106 ?_
    refine lv_iload_n hx hb d_T_tellEdges_109 rfl (lv_at hl 1 rfl) ?_
    refine lv_iload_n hx hb d_T_tellEdges_110 rfl (lv_at hl 2 rfl) ?_
    refine lv_iconst (v := 1) hx hb d_T_tellEdges_111 (by decide) ?_
    refine lv_aload_n hx hb d_T_tellEdges_112 rfl (lv_at hl 0 rfl) ?_
    refine vg_T_configuration (v := .int T_configuration) hx hb hts hown hK hP 6 rfl (hts _ tb_135) rfl d_T_tellEdges_113 ?_
    refine lv_ishl hx hb d_T_tellEdges_116 ?_
    refine lv_icmp_ne (tgt := 127) hx hb d_T_tellEdges_117 (by decide) (fun c_117 => ?_) (fun c_117 => ?_)
    · have hf := og_f hf c_117
      refine lv_iconst (v := (-1)) hx hb d_T_tellEdges_127 (by decide) ?_
      obtain ⟨h_128, hf⟩ := og_ck_s hf
      refine va_iast hx hb hK hP hD hS 7 5 rfl rfl h_128 d_T_tellEdges_128 (fun H locs hP hD hS => ?_)
      have hP : va_P (dC, dI) vwCl (wT_tellEdges a k E_count E_from E_to E_places E_configurations E_gone T_configuration T_ringCount T_keyCount (upd T_onlyIn p1.toNatClampNeg (-1)) T_starts T_ringKeys T_ringEdges) H := hP
      have hD : va_D A (wT_tellEdges a k E_count E_from E_to E_places E_configurations E_gone T_configuration T_ringCount T_keyCount (upd T_onlyIn p1.toNatClampNeg (-1)) T_starts T_ringKeys T_ringEdges) := hD
      obtain rfl := Option.some.inj hf
      exact W.vret hx hb hr (fun t ht hW => ⟨⟨(), rfl, trivial, by rw [ht]; exact hP, va_K.moved hW.alike hK, hD⟩, hS.F ht⟩) hS.2.2 d_T_tellEdges_129
    · have hf := og_t hf c_117
      refine lv_aload_n hx hb d_T_tellEdges_120 rfl (lv_at hl 0 rfl) ?_
      refine vg_T_configuration (v := .int T_configuration) hx hb hts hown hK hP 6 rfl (hts _ tb_135) rfl d_T_tellEdges_121 ?_
      refine lv_goto (tgt := 128) hx hb d_T_tellEdges_124 (by decide) ?_
      obtain ⟨h_128, hf⟩ := og_ck_s hf
      refine va_iast hx hb hK hP hD hS 7 5 rfl rfl h_128 d_T_tellEdges_128 (fun H locs hP hD hS => ?_)
      have hP : va_P (dC, dI) vwCl (wT_tellEdges a k E_count E_from E_to E_places E_configurations E_gone T_configuration T_ringCount T_keyCount (upd T_onlyIn p1.toNatClampNeg T_configuration) T_starts T_ringKeys T_ringEdges) H := hP
      have hD : va_D A (wT_tellEdges a k E_count E_from E_to E_places E_configurations E_gone T_configuration T_ringCount T_keyCount (upd T_onlyIn p1.toNatClampNeg T_configuration) T_starts T_ringKeys T_ringEdges) := hD
      obtain rfl := Option.some.inj hf
      exact W.vret hx hb hr (fun t ht hW => ⟨⟨(), rfl, trivial, by rw [ht]; exact hP, va_K.moved hW.alike hK, hD⟩, hS.F ht⟩) hS.2.2 d_T_tellEdges_129
  have lp12 : ∀ (n12 : Nat) (v3 : Int32) (v4 : Int32) (T_ringEdges : (Nat → Int32)) (H : Heap) (locs : List Loc) (ls : Array Slot), fT_tellEdges_L12 (fT_tellEdges_K12_105 T_configuration T_onlyIn p1) E_count E_from E_to E_places E_configurations E_gone T_configuration T_starts T_ringKeys p1 n12 v3 v4 T_ringEdges = some y → va_P (dC, dI) vwCl (wT_tellEdges a k E_count E_from E_to E_places E_configurations E_gone T_configuration T_ringCount T_keyCount T_onlyIn T_starts T_ringKeys T_ringEdges) H → va_D A (wT_tellEdges a k E_count E_from E_to E_places E_configurations E_gone T_configuration T_ringCount T_keyCount T_onlyIn T_starts T_ringKeys T_ringEdges) → va_S A s.heap H locs → lv_has ls 7 [(0, .ref (a 16)), (1, .int p1), (2, .ref (a 5)), (3, .int v3), (4, .int v4)] → W p l e (headSpec ws_T_tellEdges { frames := 3, cells := 0, slots := 0, locals := 68 }).room s m ([.ref (a 16), .int p1, .ref (a 5)] : List Value).toArray below meth c H locs 0 0 (MQ below (og_Qv (dC, dI) (wT_tellEdges a k E_count E_from E_to E_places E_configurations E_gone T_configuration T_ringCount T_keyCount y.1 T_starts T_ringKeys y.2) (tT_tellEdges k) A) ([.ref (a 16), .int p1, .ref (a 5)] : List Value).toArray s 0 0 A) (F0 m 12 ls []) := by
    intro n12
    induction n12 with
    | zero => intro v3 v4 T_ringEdges H locs ls hf hP hD hS hl; rw [fT_tellEdges_L12] at hf; cases hf
    | succ n12 ih12 =>
      intro v3 v4 T_ringEdges H locs ls hf hP hD hS hl
      rw [fT_tellEdges_L12] at hf
      refine lv_iload hx hb d_T_tellEdges_12 (lv_at hl 4 rfl) ?_
      refine lv_aload_n hx hb d_T_tellEdges_14 rfl (lv_at hl 0 rfl) ?_
      refine vg_T_starts (v := .ref (a 21)) hx hb hts hown hK hP 6 rfl (hts _ tb_114) rfl d_T_tellEdges_15 ?_
      refine lv_iload_n hx hb d_T_tellEdges_18 rfl (lv_at hl 1 rfl) ?_
      refine lv_iconst (v := 1) hx hb d_T_tellEdges_19 (by decide) ?_
      refine lv_iadd hx hb d_T_tellEdges_20 ?_
      obtain ⟨h_21, hf⟩ := og_ck_s hf
      refine va_iald hx hb hK hP 8 6 rfl rfl h_21 d_T_tellEdges_21 ?_
      refine lv_icmp_ge (tgt := 105) hx hb d_T_tellEdges_22 (by decide) (fun c_22 => ?_) (fun c_22 => ?_)
      · have hf := og_t hf c_22
        exact k12_105 v3 T_ringEdges _ _ _ hf hP hD hS (lv_sub hl [0, 1, 3] rfl)
      · have hf := og_f hf c_22
        refine lv_aload_n hx hb d_T_tellEdges_25 rfl (lv_at hl 0 rfl) ?_
        refine vg_T_ringKeys (v := .ref (a 22)) hx hb hts hown hK hP 6 rfl (hts _ tb_120) rfl d_T_tellEdges_26 ?_
        refine lv_iload hx hb d_T_tellEdges_29 (lv_at hl 4 rfl) ?_
        obtain ⟨h_31, hf⟩ := og_ck_s hf
        refine va_iald hx hb hK hP 9 7 rfl rfl h_31 d_T_tellEdges_31 ?_
        refine lv_istore (lv' := [(5, .int (T_ringKeys v4.toNatClampNeg)), (0, .ref (a 16)), (1, .int p1), (2, .ref (a 5)), (3, .int v3), (4, .int v4)]) hx hb d_T_tellEdges_32 hl (by decide) rfl (fun ls hl => ?_)
        refine lv_aload_n hx hb d_T_tellEdges_34 rfl (lv_at hl 1 rfl) ?_
        refine vg_T_ringKeys (v := .ref (a 22)) hx hb hts hown hK hP 6 rfl (hts _ tb_120) rfl d_T_tellEdges_35 ?_
        refine lv_iload hx hb d_T_tellEdges_38 (lv_at hl 5 rfl) ?_
        refine lv_iconst (v := 1) hx hb d_T_tellEdges_40 (by decide) ?_
        refine lv_iadd hx hb d_T_tellEdges_41 ?_
        refine lv_aload_n hx hb d_T_tellEdges_42 rfl (lv_at hl 1 rfl) ?_
        refine vg_T_starts (v := .ref (a 21)) hx hb hts hown hK hP 6 rfl (hts _ tb_114) rfl d_T_tellEdges_43 ?_
        refine lv_iload_n hx hb d_T_tellEdges_46 rfl (lv_at hl 2 rfl) ?_
        refine lv_iconst (v := 1) hx hb d_T_tellEdges_47 (by decide) ?_
        refine lv_iadd hx hb d_T_tellEdges_48 ?_
        obtain ⟨h_49, hf⟩ := og_ck_s hf
        refine va_iald hx hb hK hP 8 6 rfl rfl h_49 d_T_tellEdges_49 ?_
        have j66 : ∀ (s66_1 : Int32) (H : Heap) (locs : List Loc) (ls : Array Slot), fT_tellEdges_J66 (fun a0 a1 a2 => fT_tellEdges_L12 (fT_tellEdges_K12_105 T_configuration T_onlyIn p1) E_count E_from E_to E_places E_configurations E_gone T_configuration T_starts T_ringKeys p1 n12 a0 a1 a2) E_count E_from E_to E_places E_configurations E_gone T_configuration T_ringKeys T_ringEdges v3 v4 (T_ringKeys v4.toNatClampNeg) s66_1 = some y → va_P (dC, dI) vwCl (wT_tellEdges a k E_count E_from E_to E_places E_configurations E_gone T_configuration T_ringCount T_keyCount T_onlyIn T_starts T_ringKeys T_ringEdges) H → va_D A (wT_tellEdges a k E_count E_from E_to E_places E_configurations E_gone T_configuration T_ringCount T_keyCount T_onlyIn T_starts T_ringKeys T_ringEdges) → va_S A s.heap H locs → lv_has ls 7 [(0, .ref (a 16)), (1, .int p1), (2, .ref (a 5)), (3, .int v3), (4, .int v4), (5, .int (T_ringKeys v4.toNatClampNeg))] → W p l e (headSpec ws_T_tellEdges { frames := 3, cells := 0, slots := 0, locals := 68 }).room s m ([.ref (a 16), .int p1, .ref (a 5)] : List Value).toArray below meth c H locs 0 0 (MQ below (og_Qv (dC, dI) (wT_tellEdges a k E_count E_from E_to E_places E_configurations E_gone T_configuration T_ringCount T_keyCount y.1 T_starts T_ringKeys y.2) (tT_tellEdges k) A) ([.ref (a 16), .int p1, .ref (a 5)] : List Value).toArray s 0 0 A) (F0 m 66 ls [.int s66_1, .ref (a 22)]) := by
          intro s66_1 H locs ls hf hP hD hS hl
          rw [fT_tellEdges_J66] at hf
          obtain ⟨h_66, hf⟩ := og_ck_s hf
          refine va_iald hx hb hK hP 9 7 rfl rfl h_66 d_T_tellEdges_66 ?_
          refine lv_istore (lv' := [(6, .int (T_ringKeys s66_1.toNatClampNeg)), (0, .ref (a 16)), (1, .int p1), (2, .ref (a 5)), (3, .int v3), (4, .int v4), (5, .int (T_ringKeys v4.toNatClampNeg))]) hx hb d_T_tellEdges_67 hl (by decide) rfl (fun ls hl => ?_)
          refine lv_aload_n hx hb d_T_tellEdges_69 rfl (lv_at hl 1 rfl) ?_
          refine vg_T_ringEdges (v := .ref (a 23)) hx hb hts hown hK hP 6 rfl (hts _ tb_136) rfl d_T_tellEdges_70 ?_
          refine lv_iload hx hb d_T_tellEdges_73 (lv_at hl 5 rfl) ?_
          refine lv_aload_n hx hb d_T_tellEdges_75 rfl (lv_at hl 3 rfl) ?_
          refine lv_iload hx hb d_T_tellEdges_76 (lv_at hl 6 rfl) ?_
          refine lv_iload hx hb d_T_tellEdges_78 (lv_at hl 0 rfl) ?_
          refine lv_aload_n hx hb d_T_tellEdges_80 rfl (lv_at hl 1 rfl) ?_
          refine vg_T_configuration (v := .int T_configuration) hx hb hts hown hK hP 6 rfl (hts _ tb_135) rfl d_T_tellEdges_81 ?_
          obtain ⟨r84, e_84, hf⟩ := og_b hf
          refine og_rV (w := (wT_tellEdges a k E_count E_from E_to E_places E_configurations E_gone T_configuration T_ringCount T_keyCount T_onlyIn T_starts T_ringKeys T_ringEdges)) (As := [.int (T_ringKeys v4.toNatClampNeg), .int (T_ringKeys s66_1.toNatClampNeg), .int T_configuration]) (rest := [.int v4, .ref (a 23)]) (ci := 2) (q0 := 0) ⟨hx, hb, hml, hown, hts⟩ (c_E_leastPlaced l dC dI a k E_count E_from E_to E_places E_configurations E_gone (T_ringKeys v4.toNatClampNeg) (T_ringKeys s66_1.toNatClampNeg) T_configuration r84 e_84) (cwV 3 hts (og_gV tb_137 tb_138 tb_139 tb_31 tb_140) rfl rfl rfl (by decide +kernel) ⟨Nat.le_of_ble_eq_true rfl, Nat.le_of_ble_eq_true rfl⟩) hK hP [0, 1, 2, 3, 4, 5] [0, 1, 2, 3, 4] ⟨rfl, rfl, rfl, rfl, rfl, rfl, trivial⟩ rfl rfl rfl rfl rfl hl.1 rfl (Nat.le_of_ble_eq_true rfl) d_T_tellEdges_84 ⟨Nat.zero_le _, Nat.zero_le _⟩ ?_
          obtain ⟨h_87, hf⟩ := og_ck_s hf
          refine va_iast hx hb hK hP hD hS 10 8 rfl rfl h_87 d_T_tellEdges_87 (fun H locs hP hD hS => ?_)
          have hP : va_P (dC, dI) vwCl (wT_tellEdges a k E_count E_from E_to E_places E_configurations E_gone T_configuration T_ringCount T_keyCount T_onlyIn T_starts T_ringKeys (upd T_ringEdges v4.toNatClampNeg r84)) H := hP
          have hD : va_D A (wT_tellEdges a k E_count E_from E_to E_places E_configurations E_gone T_configuration T_ringCount T_keyCount T_onlyIn T_starts T_ringKeys (upd T_ringEdges v4.toNatClampNeg r84)) := hD
          refine lv_iload_n hx hb d_T_tellEdges_88 rfl (lv_at hl 4 rfl) ?_
          refine lv_aload_n hx hb d_T_tellEdges_89 rfl (lv_at hl 3 rfl) ?_
          refine lv_iload hx hb d_T_tellEdges_90 (lv_at hl 6 rfl) ?_
          refine lv_iload hx hb d_T_tellEdges_92 (lv_at hl 0 rfl) ?_
          obtain ⟨r94, e_94, hf⟩ := og_b hf
          refine og_rV (w := (wT_tellEdges a k E_count E_from E_to E_places E_configurations E_gone T_configuration T_ringCount T_keyCount T_onlyIn T_starts T_ringKeys (upd T_ringEdges v4.toNatClampNeg r84))) (As := [.int (T_ringKeys v4.toNatClampNeg), .int (T_ringKeys s66_1.toNatClampNeg)]) (rest := [.int v3]) (ci := 2) (q0 := 0) ⟨hx, hb, hml, hown, hts⟩ (c_E_configurationsBetween l dC dI a k E_count E_from E_to E_configurations E_gone (T_ringKeys v4.toNatClampNeg) (T_ringKeys s66_1.toNatClampNeg) r94 e_94) (cwV 2 hts (og_gV tb_141 tb_142 tb_143 tb_31 tb_144) rfl rfl rfl (by decide +kernel) ⟨Nat.le_of_ble_eq_true rfl, Nat.le_of_ble_eq_true rfl⟩) hK hP [0, 1, 2, 4, 5] [0, 1, 3, 4] ⟨rfl, rfl, rfl, rfl, rfl, trivial⟩ rfl rfl rfl rfl rfl hl.1 rfl (Nat.le_of_ble_eq_true rfl) d_T_tellEdges_94 ⟨Nat.zero_le _, Nat.zero_le _⟩ ?_
          refine lv_iand hx hb d_T_tellEdges_97 ?_
          refine lv_istore_n (lv' := [(3, .int (v3 &&& r94)), (6, .int (T_ringKeys s66_1.toNatClampNeg)), (0, .ref (a 16)), (1, .int p1), (2, .ref (a 5)), (4, .int v4), (5, .int (T_ringKeys v4.toNatClampNeg))]) hx hb d_T_tellEdges_98 rfl hl (by decide) rfl (fun ls hl => ?_)
          refine lv_iinc (v := (v4 + 1)) (lv' := [(4, .int (v4 + 1)), (3, .int (v3 &&& r94)), (6, .int (T_ringKeys s66_1.toNatClampNeg)), (0, .ref (a 16)), (1, .int p1), (2, .ref (a 5)), (5, .int (T_ringKeys v4.toNatClampNeg))]) hx hb d_T_tellEdges_99 hl (k := 5) rfl rfl (by decide) rfl (fun ls hl => ?_)
          refine lv_goto (tgt := 12) hx hb d_T_tellEdges_102 (by decide) ?_
          exact ih12 (v3 &&& r94) (v4 + 1) (upd T_ringEdges v4.toNatClampNeg r84) _ _ _ hf hP hD hS (lv_sub hl [3, 4, 5, 1, 0] rfl)
        refine lv_icmp_ge (tgt := 60) hx hb d_T_tellEdges_50 (by decide) (fun c_50 => ?_) (fun c_50 => ?_)
        · have hf := og_t hf c_50
          refine lv_aload_n hx hb d_T_tellEdges_60 rfl (lv_at hl 1 rfl) ?_
          refine vg_T_starts (v := .ref (a 21)) hx hb hts hown hK hP 6 rfl (hts _ tb_114) rfl d_T_tellEdges_61 ?_
          refine lv_iload_n hx hb d_T_tellEdges_64 rfl (lv_at hl 2 rfl) ?_
          obtain ⟨h_65, hf⟩ := og_ck_s hf
          refine va_iald hx hb hK hP 8 6 rfl rfl h_65 d_T_tellEdges_65 ?_
          exact j66 (T_starts p1.toNatClampNeg) _ _ _ hf hP hD hS (lv_sub hl [1, 2, 3, 4, 5, 0] rfl)
        · have hf := og_f hf c_50
          refine lv_iload hx hb d_T_tellEdges_53 (lv_at hl 5 rfl) ?_
          refine lv_iconst (v := 1) hx hb d_T_tellEdges_55 (by decide) ?_
          refine lv_iadd hx hb d_T_tellEdges_56 ?_
          refine lv_goto (tgt := 66) hx hb d_T_tellEdges_57 (by decide) ?_
          exact j66 (v4 + 1) _ _ _ hf hP hD hS (lv_sub hl [1, 2, 3, 4, 5, 0] rfl)
  exact lp12 FU 255 (T_starts p1.toNatClampNeg) T_ringEdges _ _ _ hf hP hD hS (lv_sub hl [2, 3, 4, 1, 0] rfl)
def wT_hasRing (a : Nat → Nat) (k : Nat → ClassId) (T_configuration : Int32) (T_ringCount : Int32) (T_keyCount : Int32) : va_W := [(a 16, .inr (4, [.int T_configuration, .int T_ringCount, .ref (a 17), .ref (a 18), .ref (a 19), .ref (a 20), .int T_keyCount, .ref (a 21), .ref (a 22), .ref (a 23)]))]
def tT_hasRing (k : Nat → ClassId) : List (ClassId × FieldType) := []
set_option maxHeartbeats 4000000 in
set_option maxRecDepth 100000 in
theorem c_T_hasRing (l : Launch) (dC : Nat → ClassId) (dI : Nat → Nat → Nat) (a : Nat → Nat) (k : Nat → ClassId) (T_configuration : Int32) (T_ringCount : Int32) (T_keyCount : Int32) (p1 : Int32) (y : Int32) (hf : fT_hasRing T_ringCount p1 = some y) : Met l y_T_hasRing ws_T_hasRing ({ frames := 0, cells := 0, slots := 0, locals := 0 }) (og_Pr [.ref (a 16), .int p1] (dC, dI) (wT_hasRing a k T_configuration T_ringCount T_keyCount) (tT_hasRing k)) (vp_Si (fun x => x = y)) 0 0 (fun _ => False) := by
  refine Met.ofW (cc := b_T_hasRing) (maxL := 2) (ret := (some .boolean)) (by decide) rfl ?_
  intro p e s m args below meth c s₁ B hml hv
  obtain ⟨rfl, hP, hK⟩ := hv
  have hx := B.exec
  have hb := B.bytes
  have hr := B.returns
  have hts0 := atoms_spec (ws := ws_T_hasRing) B.pre
  have hts : ∀ w ∈ og_tb, w.before _ s = true := fun w h => hts0 w (List.mem_cons_of_mem _ h)
  have hown : s.vm.findClass R_T = some m.cls := findClass_of_methodNamed B.named
  have hlocks := B.notSynchronized
  have hl := lv_entry ([.ref (a 16), .int p1]) (n := 2) (Nat.le_of_ble_eq_true rfl)
  rw [lg_entry_eq]
  generalize (lg_sl ([.ref (a 16), .int p1]) ++ List.replicate (2 - (lg_sl ([.ref (a 16), .int p1])).length) Slot.unset).toArray = ls at hl ⊢
  have hl : lv_has ls 2 [(0, .ref (a 16)), (1, .int p1)] := hl
  rw [fT_hasRing] at hf
  refine lv_iload_n hx hb d_T_hasRing_0 rfl (lv_at hl 1 rfl) ?_
  refine lv_if_lt (tgt := 16) hx hb d_T_hasRing_1 (by decide) (fun c_1 => ?_) (fun c_1 => ?_)
  · have hf := og_t hf c_1
    refine lv_iconst (v := 0) hx hb d_T_hasRing_16 (by decide) ?_
    obtain rfl := Option.some.inj hf
    exact W.zret (v := 0) hx hb hr rfl (fun t ht hW => ⟨0, rfl, rfl, ht⟩) (fun _ h => absurd h List.not_mem_nil) d_T_hasRing_17
  · have hf := og_f hf c_1
    refine lv_iload_n hx hb d_T_hasRing_4 rfl (lv_at hl 1 rfl) ?_
    refine lv_aload_n hx hb d_T_hasRing_5 rfl (lv_at hl 0 rfl) ?_
    refine vg_T_ringCount (v := .int T_ringCount) hx hb hts hown hK hP 0 rfl (hts _ tb_115) rfl d_T_hasRing_6 ?_
    refine lv_icmp_ge (tgt := 16) hx hb d_T_hasRing_9 (by decide) (fun c_9 => ?_) (fun c_9 => ?_)
    · have hf := og_t hf c_9
      refine lv_iconst (v := 0) hx hb d_T_hasRing_16 (by decide) ?_
      obtain rfl := Option.some.inj hf
      exact W.zret (v := 0) hx hb hr rfl (fun t ht hW => ⟨0, rfl, rfl, ht⟩) (fun _ h => absurd h List.not_mem_nil) d_T_hasRing_17
    · have hf := og_f hf c_9
      refine lv_iconst (v := 1) hx hb d_T_hasRing_12 (by decide) ?_
      refine lv_goto (tgt := 17) hx hb d_T_hasRing_13 (by decide) ?_
      obtain rfl := Option.some.inj hf
      exact W.zret (v := 1) hx hb hr rfl (fun t ht hW => ⟨1, rfl, rfl, ht⟩) (fun _ h => absurd h List.not_mem_nil) d_T_hasRing_17
def wT_length (a : Nat → Nat) (k : Nat → ClassId) (T_configuration : Int32) (T_ringCount : Int32) (T_keyCount : Int32) (T_starts : (Nat → Int32)) : va_W := [(a 16, .inr (4, [.int T_configuration, .int T_ringCount, .ref (a 17), .ref (a 18), .ref (a 19), .ref (a 20), .int T_keyCount, .ref (a 21), .ref (a 22), .ref (a 23)])), (a 21, .inl (k 21, 41, .inl T_starts))]
def tT_length (k : Nat → ClassId) : List (ClassId × FieldType) := [(k 21, .int)]
set_option maxHeartbeats 4000000 in
set_option maxRecDepth 100000 in
theorem c_T_length (l : Launch) (dC : Nat → ClassId) (dI : Nat → Nat → Nat) (a : Nat → Nat) (k : Nat → ClassId) (T_configuration : Int32) (T_ringCount : Int32) (T_keyCount : Int32) (T_starts : (Nat → Int32)) (p1 : Int32) (y : Int32) (hf : fT_length T_starts p1 = some y) : Met l y_T_length ws_T_length ({ frames := 0, cells := 0, slots := 0, locals := 0 }) (og_Pr [.ref (a 16), .int p1] (dC, dI) (wT_length a k T_configuration T_ringCount T_keyCount T_starts) (tT_length k)) (vp_Si (fun x => x = y)) 0 0 (fun _ => False) := by
  refine Met.ofW (cc := b_T_length) (maxL := 2) (ret := (some .int)) (by decide) rfl ?_
  intro p e s m args below meth c s₁ B hml hv
  obtain ⟨rfl, hP, hK⟩ := hv
  have hx := B.exec
  have hb := B.bytes
  have hr := B.returns
  have hts0 := atoms_spec (ws := ws_T_length) B.pre
  have hts : ∀ w ∈ og_tb, w.before _ s = true := fun w h => hts0 w (List.mem_cons_of_mem _ h)
  have hown : s.vm.findClass R_T = some m.cls := findClass_of_methodNamed B.named
  have hlocks := B.notSynchronized
  have hl := lv_entry ([.ref (a 16), .int p1]) (n := 2) (Nat.le_of_ble_eq_true rfl)
  rw [lg_entry_eq]
  generalize (lg_sl ([.ref (a 16), .int p1]) ++ List.replicate (2 - (lg_sl ([.ref (a 16), .int p1])).length) Slot.unset).toArray = ls at hl ⊢
  have hl : lv_has ls 2 [(0, .ref (a 16)), (1, .int p1)] := hl
  rw [fT_length] at hf
  refine lv_aload_n hx hb d_T_length_0 rfl (lv_at hl 0 rfl) ?_
  refine vg_T_starts (v := .ref (a 21)) hx hb hts hown hK hP 0 rfl (hts _ tb_114) rfl d_T_length_1 ?_
  refine lv_iload_n hx hb d_T_length_4 rfl (lv_at hl 1 rfl) ?_
  refine lv_iconst (v := 1) hx hb d_T_length_5 (by decide) ?_
  refine lv_iadd hx hb d_T_length_6 ?_
  obtain ⟨h_7, hf⟩ := og_ck_s hf
  refine va_iald hx hb hK hP 1 0 rfl rfl h_7 d_T_length_7 ?_
  refine lv_aload_n hx hb d_T_length_8 rfl (lv_at hl 0 rfl) ?_
  refine vg_T_starts (v := .ref (a 21)) hx hb hts hown hK hP 0 rfl (hts _ tb_114) rfl d_T_length_9 ?_
  refine lv_iload_n hx hb d_T_length_12 rfl (lv_at hl 1 rfl) ?_
  obtain ⟨h_13, hf⟩ := og_ck_s hf
  refine va_iald hx hb hK hP 1 0 rfl rfl h_13 d_T_length_13 ?_
  refine lv_isub hx hb d_T_length_14 ?_
  obtain rfl := Option.some.inj hf
  exact W.iret (v := ((T_starts (p1 + 1).toNatClampNeg) - (T_starts p1.toNatClampNeg))) hx hb hr (fun t ht hW => ⟨((T_starts (p1 + 1).toNatClampNeg) - (T_starts p1.toNatClampNeg)), rfl, rfl, ht⟩) (fun _ h => absurd h List.not_mem_nil) d_T_length_15
def wT_keyAt (a : Nat → Nat) (k : Nat → ClassId) (T_configuration : Int32) (T_ringCount : Int32) (T_keyCount : Int32) (T_starts : (Nat → Int32)) (T_ringKeys : (Nat → Int32)) : va_W := [(a 16, .inr (4, [.int T_configuration, .int T_ringCount, .ref (a 17), .ref (a 18), .ref (a 19), .ref (a 20), .int T_keyCount, .ref (a 21), .ref (a 22), .ref (a 23)])), (a 21, .inl (k 21, 41, .inl T_starts)), (a 22, .inl (k 22, 40, .inl T_ringKeys))]
def tT_keyAt (k : Nat → ClassId) : List (ClassId × FieldType) := [(k 21, .int), (k 22, .int)]
set_option maxHeartbeats 4000000 in
set_option maxRecDepth 100000 in
theorem c_T_keyAt (l : Launch) (dC : Nat → ClassId) (dI : Nat → Nat → Nat) (a : Nat → Nat) (k : Nat → ClassId) (T_configuration : Int32) (T_ringCount : Int32) (T_keyCount : Int32) (T_starts : (Nat → Int32)) (T_ringKeys : (Nat → Int32)) (p1 : Int32) (p2 : Int32) (y : Int32) (hf : fT_keyAt T_starts T_ringKeys p1 p2 = some y) : Met l y_T_keyAt ws_T_keyAt ({ frames := 0, cells := 0, slots := 0, locals := 0 }) (og_Pr [.ref (a 16), .int p1, .int p2] (dC, dI) (wT_keyAt a k T_configuration T_ringCount T_keyCount T_starts T_ringKeys) (tT_keyAt k)) (vp_Si (fun x => x = y)) 0 0 (fun _ => False) := by
  refine Met.ofW (cc := b_T_keyAt) (maxL := 3) (ret := (some .int)) (by decide) rfl ?_
  intro p e s m args below meth c s₁ B hml hv
  obtain ⟨rfl, hP, hK⟩ := hv
  have hx := B.exec
  have hb := B.bytes
  have hr := B.returns
  have hts0 := atoms_spec (ws := ws_T_keyAt) B.pre
  have hts : ∀ w ∈ og_tb, w.before _ s = true := fun w h => hts0 w (List.mem_cons_of_mem _ h)
  have hown : s.vm.findClass R_T = some m.cls := findClass_of_methodNamed B.named
  have hlocks := B.notSynchronized
  have hl := lv_entry ([.ref (a 16), .int p1, .int p2]) (n := 3) (Nat.le_of_ble_eq_true rfl)
  rw [lg_entry_eq]
  generalize (lg_sl ([.ref (a 16), .int p1, .int p2]) ++ List.replicate (3 - (lg_sl ([.ref (a 16), .int p1, .int p2])).length) Slot.unset).toArray = ls at hl ⊢
  have hl : lv_has ls 3 [(0, .ref (a 16)), (1, .int p1), (2, .int p2)] := hl
  rw [fT_keyAt] at hf
  refine lv_aload_n hx hb d_T_keyAt_0 rfl (lv_at hl 0 rfl) ?_
  refine vg_T_ringKeys (v := .ref (a 22)) hx hb hts hown hK hP 0 rfl (hts _ tb_120) rfl d_T_keyAt_1 ?_
  refine lv_aload_n hx hb d_T_keyAt_4 rfl (lv_at hl 0 rfl) ?_
  refine vg_T_starts (v := .ref (a 21)) hx hb hts hown hK hP 0 rfl (hts _ tb_114) rfl d_T_keyAt_5 ?_
  refine lv_iload_n hx hb d_T_keyAt_8 rfl (lv_at hl 1 rfl) ?_
  obtain ⟨h_9, hf⟩ := og_ck_s hf
  refine va_iald hx hb hK hP 1 0 rfl rfl h_9 d_T_keyAt_9 ?_
  refine lv_iload_n hx hb d_T_keyAt_10 rfl (lv_at hl 2 rfl) ?_
  refine lv_iadd hx hb d_T_keyAt_11 ?_
  obtain ⟨h_12, hf⟩ := og_ck_s hf
  refine va_iald hx hb hK hP 2 1 rfl rfl h_12 d_T_keyAt_12 ?_
  obtain rfl := Option.some.inj hf
  exact W.iret (v := (T_ringKeys ((T_starts p1.toNatClampNeg) + p2).toNatClampNeg)) hx hb hr (fun t ht hW => ⟨(T_ringKeys ((T_starts p1.toNatClampNeg) + p2).toNatClampNeg), rfl, rfl, ht⟩) (fun _ h => absurd h List.not_mem_nil) d_T_keyAt_13
def wT_edgeAt (a : Nat → Nat) (k : Nat → ClassId) (T_configuration : Int32) (T_ringCount : Int32) (T_keyCount : Int32) (T_starts : (Nat → Int32)) (T_ringEdges : (Nat → Int32)) : va_W := [(a 16, .inr (4, [.int T_configuration, .int T_ringCount, .ref (a 17), .ref (a 18), .ref (a 19), .ref (a 20), .int T_keyCount, .ref (a 21), .ref (a 22), .ref (a 23)])), (a 21, .inl (k 21, 41, .inl T_starts)), (a 23, .inl (k 23, 40, .inl T_ringEdges))]
def tT_edgeAt (k : Nat → ClassId) : List (ClassId × FieldType) := [(k 21, .int), (k 23, .int)]
set_option maxHeartbeats 4000000 in
set_option maxRecDepth 100000 in
theorem c_T_edgeAt (l : Launch) (dC : Nat → ClassId) (dI : Nat → Nat → Nat) (a : Nat → Nat) (k : Nat → ClassId) (T_configuration : Int32) (T_ringCount : Int32) (T_keyCount : Int32) (T_starts : (Nat → Int32)) (T_ringEdges : (Nat → Int32)) (p1 : Int32) (p2 : Int32) (y : Int32) (hf : fT_edgeAt T_starts T_ringEdges p1 p2 = some y) : Met l y_T_edgeAt ws_T_edgeAt ({ frames := 0, cells := 0, slots := 0, locals := 0 }) (og_Pr [.ref (a 16), .int p1, .int p2] (dC, dI) (wT_edgeAt a k T_configuration T_ringCount T_keyCount T_starts T_ringEdges) (tT_edgeAt k)) (vp_Si (fun x => x = y)) 0 0 (fun _ => False) := by
  refine Met.ofW (cc := b_T_edgeAt) (maxL := 3) (ret := (some .int)) (by decide) rfl ?_
  intro p e s m args below meth c s₁ B hml hv
  obtain ⟨rfl, hP, hK⟩ := hv
  have hx := B.exec
  have hb := B.bytes
  have hr := B.returns
  have hts0 := atoms_spec (ws := ws_T_edgeAt) B.pre
  have hts : ∀ w ∈ og_tb, w.before _ s = true := fun w h => hts0 w (List.mem_cons_of_mem _ h)
  have hown : s.vm.findClass R_T = some m.cls := findClass_of_methodNamed B.named
  have hlocks := B.notSynchronized
  have hl := lv_entry ([.ref (a 16), .int p1, .int p2]) (n := 3) (Nat.le_of_ble_eq_true rfl)
  rw [lg_entry_eq]
  generalize (lg_sl ([.ref (a 16), .int p1, .int p2]) ++ List.replicate (3 - (lg_sl ([.ref (a 16), .int p1, .int p2])).length) Slot.unset).toArray = ls at hl ⊢
  have hl : lv_has ls 3 [(0, .ref (a 16)), (1, .int p1), (2, .int p2)] := hl
  rw [fT_edgeAt] at hf
  refine lv_aload_n hx hb d_T_edgeAt_0 rfl (lv_at hl 0 rfl) ?_
  refine vg_T_ringEdges (v := .ref (a 23)) hx hb hts hown hK hP 0 rfl (hts _ tb_136) rfl d_T_edgeAt_1 ?_
  refine lv_aload_n hx hb d_T_edgeAt_4 rfl (lv_at hl 0 rfl) ?_
  refine vg_T_starts (v := .ref (a 21)) hx hb hts hown hK hP 0 rfl (hts _ tb_114) rfl d_T_edgeAt_5 ?_
  refine lv_iload_n hx hb d_T_edgeAt_8 rfl (lv_at hl 1 rfl) ?_
  obtain ⟨h_9, hf⟩ := og_ck_s hf
  refine va_iald hx hb hK hP 1 0 rfl rfl h_9 d_T_edgeAt_9 ?_
  refine lv_iload_n hx hb d_T_edgeAt_10 rfl (lv_at hl 2 rfl) ?_
  refine lv_iadd hx hb d_T_edgeAt_11 ?_
  obtain ⟨h_12, hf⟩ := og_ck_s hf
  refine va_iald hx hb hK hP 2 1 rfl rfl h_12 d_T_edgeAt_12 ?_
  obtain rfl := Option.some.inj hf
  exact W.iret (v := (T_ringEdges ((T_starts p1.toNatClampNeg) + p2).toNatClampNeg)) hx hb hr (fun t ht hW => ⟨(T_ringEdges ((T_starts p1.toNatClampNeg) + p2).toNatClampNeg), rfl, rfl, ht⟩) (fun _ h => absurd h List.not_mem_nil) d_T_edgeAt_13
def wT_lastEdge (a : Nat → Nat) (k : Nat → ClassId) (T_configuration : Int32) (T_ringCount : Int32) (T_keyCount : Int32) (T_starts : (Nat → Int32)) (T_ringEdges : (Nat → Int32)) : va_W := [(a 16, .inr (4, [.int T_configuration, .int T_ringCount, .ref (a 17), .ref (a 18), .ref (a 19), .ref (a 20), .int T_keyCount, .ref (a 21), .ref (a 22), .ref (a 23)])), (a 21, .inl (k 21, 41, .inl T_starts)), (a 23, .inl (k 23, 40, .inl T_ringEdges))]
def tT_lastEdge (k : Nat → ClassId) : List (ClassId × FieldType) := [(k 21, .int), (k 23, .int)]
set_option maxHeartbeats 4000000 in
set_option maxRecDepth 100000 in
theorem c_T_lastEdge (l : Launch) (dC : Nat → ClassId) (dI : Nat → Nat → Nat) (a : Nat → Nat) (k : Nat → ClassId) (T_configuration : Int32) (T_ringCount : Int32) (T_keyCount : Int32) (T_starts : (Nat → Int32)) (T_ringEdges : (Nat → Int32)) (p1 : Int32) (y : Int32) (hf : fT_lastEdge T_starts T_ringEdges p1 = some y) : Met l y_T_lastEdge ws_T_lastEdge ({ frames := 1, cells := 0, slots := 0, locals := 21 }) (og_Pr [.ref (a 16), .int p1] (dC, dI) (wT_lastEdge a k T_configuration T_ringCount T_keyCount T_starts T_ringEdges) (tT_lastEdge k)) (vp_Si (fun x => x = y)) 0 0 (fun _ => False) := by
  refine Met.ofW (cc := b_T_lastEdge) (maxL := 4) (ret := (some .int)) (by decide) rfl ?_
  intro p e s m args below meth c s₁ B hml hv
  obtain ⟨rfl, hP, hK⟩ := hv
  have hx := B.exec
  have hb := B.bytes
  have hr := B.returns
  have hts0 := atoms_spec (ws := ws_T_lastEdge) B.pre
  have hts : ∀ w ∈ og_tb, w.before _ s = true := fun w h => hts0 w (List.mem_cons_of_mem _ h)
  have hown : s.vm.findClass R_T = some m.cls := findClass_of_methodNamed B.named
  have hlocks := B.notSynchronized
  have hl := lv_entry ([.ref (a 16), .int p1]) (n := 4) (Nat.le_of_ble_eq_true rfl)
  rw [lg_entry_eq]
  generalize (lg_sl ([.ref (a 16), .int p1]) ++ List.replicate (4 - (lg_sl ([.ref (a 16), .int p1])).length) Slot.unset).toArray = ls at hl ⊢
  have hl : lv_has ls 4 [(0, .ref (a 16)), (1, .int p1)] := hl
  rw [fT_lastEdge] at hf
  refine lv_iconst (v := (-1)) hx hb d_T_lastEdge_0 (by decide) ?_
  refine lv_istore_n (lv' := [(2, .int (-1)), (0, .ref (a 16)), (1, .int p1)]) hx hb d_T_lastEdge_1 rfl hl (by decide) rfl (fun ls hl => ?_)
  refine lv_aload_n hx hb d_T_lastEdge_2 rfl (lv_at hl 1 rfl) ?_
  refine vg_T_starts (v := .ref (a 21)) hx hb hts hown hK hP 0 rfl (hts _ tb_114) rfl d_T_lastEdge_3 ?_
  refine lv_iload_n hx hb d_T_lastEdge_6 rfl (lv_at hl 2 rfl) ?_
  obtain ⟨h_7, hf⟩ := og_ck_s hf
  refine va_iald hx hb hK hP 1 0 rfl rfl h_7 d_T_lastEdge_7 ?_
  refine lv_istore_n (lv' := [(3, .int (T_starts p1.toNatClampNeg)), (2, .int (-1)), (0, .ref (a 16)), (1, .int p1)]) hx hb d_T_lastEdge_8 rfl hl (by decide) rfl (fun ls hl => ?_)
  have k9_38 : ∀ (v2 : Int32) (ls : Array Slot), fT_lastEdge_K9_38 v2 = some y → lv_has ls 4 [(2, .int v2)] → W p l e (headSpec ws_T_lastEdge { frames := 1, cells := 0, slots := 0, locals := 21 }).room s m ([.ref (a 16), .int p1] : List Value).toArray below meth c s.heap [] 0 0 (MQ below (vp_Si (fun x => x = y)) ([.ref (a 16), .int p1] : List Value).toArray s 0 0 (fun _ => False)) (F0 m 38 ls []) := by
    intro v2 ls hf hl
    rw [fT_lastEdge_K9_38] at hf
    refine lv_iload_n hx hb d_T_lastEdge_38 rfl (lv_at hl 0 rfl) ?_
    obtain rfl := Option.some.inj hf
    exact W.iret (v := v2) hx hb hr (fun t ht hW => ⟨v2, rfl, rfl, ht⟩) (fun _ h => absurd h List.not_mem_nil) d_T_lastEdge_39
  have lp9 : ∀ (n9 : Nat) (v2 : Int32) (v3 : Int32) (ls : Array Slot), fT_lastEdge_L9 fT_lastEdge_K9_38 T_starts T_ringEdges p1 n9 v2 v3 = some y → lv_has ls 4 [(0, .ref (a 16)), (1, .int p1), (2, .int v2), (3, .int v3)] → W p l e (headSpec ws_T_lastEdge { frames := 1, cells := 0, slots := 0, locals := 21 }).room s m ([.ref (a 16), .int p1] : List Value).toArray below meth c s.heap [] 0 0 (MQ below (vp_Si (fun x => x = y)) ([.ref (a 16), .int p1] : List Value).toArray s 0 0 (fun _ => False)) (F0 m 9 ls []) := by
    intro n9
    induction n9 with
    | zero => intro v2 v3 ls hf hl; rw [fT_lastEdge_L9] at hf; cases hf
    | succ n9 ih9 =>
      intro v2 v3 ls hf hl
      rw [fT_lastEdge_L9] at hf
      refine lv_iload_n hx hb d_T_lastEdge_9 rfl (lv_at hl 3 rfl) ?_
      refine lv_aload_n hx hb d_T_lastEdge_10 rfl (lv_at hl 0 rfl) ?_
      refine vg_T_starts (v := .ref (a 21)) hx hb hts hown hK hP 0 rfl (hts _ tb_114) rfl d_T_lastEdge_11 ?_
      refine lv_iload_n hx hb d_T_lastEdge_14 rfl (lv_at hl 1 rfl) ?_
      refine lv_iconst (v := 1) hx hb d_T_lastEdge_15 (by decide) ?_
      refine lv_iadd hx hb d_T_lastEdge_16 ?_
      obtain ⟨h_17, hf⟩ := og_ck_s hf
      refine va_iald hx hb hK hP 1 0 rfl rfl h_17 d_T_lastEdge_17 ?_
      refine lv_icmp_ge (tgt := 38) hx hb d_T_lastEdge_18 (by decide) (fun c_18 => ?_) (fun c_18 => ?_)
      · have hf := og_t hf c_18
        exact k9_38 v2 _ hf (lv_sub hl [2] rfl)
      · have hf := og_f hf c_18
        refine lv_iload_n hx hb d_T_lastEdge_21 rfl (lv_at hl 2 rfl) ?_
        refine lv_aload_n hx hb d_T_lastEdge_22 rfl (lv_at hl 0 rfl) ?_
        refine vg_T_ringEdges (v := .ref (a 23)) hx hb hts hown hK hP 0 rfl (hts _ tb_136) rfl d_T_lastEdge_23 ?_
        refine lv_iload_n hx hb d_T_lastEdge_26 rfl (lv_at hl 3 rfl) ?_
        obtain ⟨h_27, hf⟩ := og_ck_s hf
        refine va_iald hx hb hK hP 2 1 rfl rfl h_27 d_T_lastEdge_27 ?_
        refine va_mmax hx hb (by rw [hml]; exact hl.1.symm) hown (hts _ tb_194) (hts _ tb_195) (hts _ tb_196) (hts _ tb_197) (Nat.le_of_ble_eq_true rfl) (Nat.le_of_ble_eq_true rfl) (Nat.zero_le _) (Nat.zero_le _) d_T_lastEdge_28 ?_
        refine lv_istore_n (lv' := [(2, .int (if v2 < (T_ringEdges v3.toNatClampNeg) then (T_ringEdges v3.toNatClampNeg) else v2)), (0, .ref (a 16)), (1, .int p1), (3, .int v3)]) hx hb d_T_lastEdge_31 rfl hl (by decide) rfl (fun ls hl => ?_)
        refine lv_iinc (v := (v3 + 1)) (lv' := [(3, .int (v3 + 1)), (2, .int (if v2 < (T_ringEdges v3.toNatClampNeg) then (T_ringEdges v3.toNatClampNeg) else v2)), (0, .ref (a 16)), (1, .int p1)]) hx hb d_T_lastEdge_32 hl (k := 3) rfl rfl (by decide) rfl (fun ls hl => ?_)
        refine lv_goto (tgt := 9) hx hb d_T_lastEdge_35 (by decide) ?_
        exact ih9 (if v2 < (T_ringEdges v3.toNatClampNeg) then (T_ringEdges v3.toNatClampNeg) else v2) (v3 + 1) _ hf (lv_sub hl [2, 3, 1, 0] rfl)
  exact lp9 FU (-1) (T_starts p1.toNatClampNeg) _ hf (lv_sub hl [2, 3, 1, 0] rfl)
def wT_hasKey (a : Nat → Nat) (k : Nat → ClassId) (T_configuration : Int32) (T_ringCount : Int32) (T_keyCount : Int32) : va_W := [(a 16, .inr (4, [.int T_configuration, .int T_ringCount, .ref (a 17), .ref (a 18), .ref (a 19), .ref (a 20), .int T_keyCount, .ref (a 21), .ref (a 22), .ref (a 23)]))]
def tT_hasKey (k : Nat → ClassId) : List (ClassId × FieldType) := []
set_option maxHeartbeats 4000000 in
set_option maxRecDepth 100000 in
theorem c_T_hasKey (l : Launch) (dC : Nat → ClassId) (dI : Nat → Nat → Nat) (a : Nat → Nat) (k : Nat → ClassId) (T_configuration : Int32) (T_ringCount : Int32) (T_keyCount : Int32) (p1 : Int32) (y : Int32) (hf : fT_hasKey T_keyCount p1 = some y) : Met l y_T_hasKey ws_T_hasKey ({ frames := 0, cells := 0, slots := 0, locals := 0 }) (og_Pr [.ref (a 16), .int p1] (dC, dI) (wT_hasKey a k T_configuration T_ringCount T_keyCount) (tT_hasKey k)) (vp_Si (fun x => x = y)) 0 0 (fun _ => False) := by
  refine Met.ofW (cc := b_T_hasKey) (maxL := 2) (ret := (some .boolean)) (by decide) rfl ?_
  intro p e s m args below meth c s₁ B hml hv
  obtain ⟨rfl, hP, hK⟩ := hv
  have hx := B.exec
  have hb := B.bytes
  have hr := B.returns
  have hts0 := atoms_spec (ws := ws_T_hasKey) B.pre
  have hts : ∀ w ∈ og_tb, w.before _ s = true := fun w h => hts0 w (List.mem_cons_of_mem _ h)
  have hown : s.vm.findClass R_T = some m.cls := findClass_of_methodNamed B.named
  have hlocks := B.notSynchronized
  have hl := lv_entry ([.ref (a 16), .int p1]) (n := 2) (Nat.le_of_ble_eq_true rfl)
  rw [lg_entry_eq]
  generalize (lg_sl ([.ref (a 16), .int p1]) ++ List.replicate (2 - (lg_sl ([.ref (a 16), .int p1])).length) Slot.unset).toArray = ls at hl ⊢
  have hl : lv_has ls 2 [(0, .ref (a 16)), (1, .int p1)] := hl
  rw [fT_hasKey] at hf
  refine lv_iload_n hx hb d_T_hasKey_0 rfl (lv_at hl 1 rfl) ?_
  refine lv_if_lt (tgt := 16) hx hb d_T_hasKey_1 (by decide) (fun c_1 => ?_) (fun c_1 => ?_)
  · have hf := og_t hf c_1
    refine lv_iconst (v := 0) hx hb d_T_hasKey_16 (by decide) ?_
    obtain rfl := Option.some.inj hf
    exact W.zret (v := 0) hx hb hr rfl (fun t ht hW => ⟨0, rfl, rfl, ht⟩) (fun _ h => absurd h List.not_mem_nil) d_T_hasKey_17
  · have hf := og_f hf c_1
    refine lv_iload_n hx hb d_T_hasKey_4 rfl (lv_at hl 1 rfl) ?_
    refine lv_aload_n hx hb d_T_hasKey_5 rfl (lv_at hl 0 rfl) ?_
    refine vg_T_keyCount (v := .int T_keyCount) hx hb hts hown hK hP 0 rfl (hts _ tb_87) rfl d_T_hasKey_6 ?_
    refine lv_icmp_ge (tgt := 16) hx hb d_T_hasKey_9 (by decide) (fun c_9 => ?_) (fun c_9 => ?_)
    · have hf := og_t hf c_9
      refine lv_iconst (v := 0) hx hb d_T_hasKey_16 (by decide) ?_
      obtain rfl := Option.some.inj hf
      exact W.zret (v := 0) hx hb hr rfl (fun t ht hW => ⟨0, rfl, rfl, ht⟩) (fun _ h => absurd h List.not_mem_nil) d_T_hasKey_17
    · have hf := og_f hf c_9
      refine lv_iconst (v := 1) hx hb d_T_hasKey_12 (by decide) ?_
      refine lv_goto (tgt := 17) hx hb d_T_hasKey_13 (by decide) ?_
      obtain rfl := Option.some.inj hf
      exact W.zret (v := 1) hx hb hr rfl (fun t ht hW => ⟨1, rfl, rfl, ht⟩) (fun _ h => absurd h List.not_mem_nil) d_T_hasKey_17
