def wR_contains (a : Nat → Nat) (k : Nat → ClassId) : va_W := []
def tR_contains (k : Nat → ClassId) : List (ClassId × FieldType) := []
set_option maxHeartbeats 4000000 in
set_option maxRecDepth 100000 in
theorem c_R_contains (l : Launch) (dC : Nat → ClassId) (dI : Nat → Nat → Nat) (a : Nat → Nat) (k : Nat → ClassId) (p0 : Int64) (p2 : Int32) (y : Int32) (hf : fR_contains p0 p2 = some y) : Met l y_R_contains ws_R_contains ({ frames := 0, cells := 0, slots := 0, locals := 0 }) (og_Pr [.long p0, .int p2] (dC, dI) (wR_contains a k) (tR_contains k)) (vp_Si (fun x => x = y)) 0 0 (fun _ => False) := by
  refine Met.ofW (cc := b_R_contains) (maxL := 3) (ret := (some .boolean)) (by decide) rfl ?_
  intro p e s m args below meth c s₁ B hml hv
  obtain ⟨rfl, hP, hK⟩ := hv
  have hx := B.exec
  have hb := B.bytes
  have hr := B.returns
  have hts0 := atoms_spec (ws := ws_R_contains) B.pre
  have hts : ∀ w ∈ og_tb, w.before _ s = true := fun w h => hts0 w (List.mem_cons_of_mem _ h)
  have hown : s.vm.findClass R_R = some m.cls := findClass_of_methodNamed B.named
  have hlocks := B.notSynchronized
  have hl := lv_entry ([.long p0, .int p2]) (n := 3) (Nat.le_of_ble_eq_true rfl)
  rw [lg_entry_eq]
  generalize (lg_sl ([.long p0, .int p2]) ++ List.replicate (3 - (lg_sl ([.long p0, .int p2])).length) Slot.unset).toArray = ls at hl ⊢
  have hl : lv_has ls 3 [(0, .long p0), (2, .int p2)] := hl
  rw [fR_contains] at hf
  refine lv_lload_n hx hb d_R_contains_0 rfl (lv_at hl 0 rfl) ?_
  refine lv_iload_n hx hb d_R_contains_1 rfl (lv_at hl 1 rfl) ?_
  refine lv_lushr hx hb d_R_contains_2 rfl ?_
  refine lv_lconst (v := 1) hx hb d_R_contains_3 (by decide) ?_
  refine lv_land hx hb d_R_contains_4 ?_
  refine lv_lconst (v := 0) hx hb d_R_contains_5 (by decide) ?_
  refine W.lcmp hx hb d_R_contains_6 ?_
  refine lv_if_eq (tgt := 14) hx hb d_R_contains_7 (by decide) (fun c_7 => ?_) (fun c_7 => ?_)
  · have hf := og_t hf c_7
    refine lv_iconst (v := 0) hx hb d_R_contains_14 (by decide) ?_
    obtain rfl := Option.some.inj hf
    exact W.zret (v := 0) hx hb hr rfl (fun t ht hW => ⟨0, rfl, rfl, ht⟩) (fun _ h => absurd h List.not_mem_nil) d_R_contains_15
  · have hf := og_f hf c_7
    refine lv_iconst (v := 1) hx hb d_R_contains_10 (by decide) ?_
    refine lv_goto (tgt := 15) hx hb d_R_contains_11 (by decide) ?_
    obtain rfl := Option.some.inj hf
    exact W.zret (v := 1) hx hb hr rfl (fun t ht hW => ⟨1, rfl, rfl, ht⟩) (fun _ h => absurd h List.not_mem_nil) d_R_contains_15
def wR_lowest (a : Nat → Nat) (k : Nat → ClassId) : va_W := []
def tR_lowest (k : Nat → ClassId) : List (ClassId × FieldType) := []
set_option maxHeartbeats 4000000 in
set_option maxRecDepth 100000 in
theorem c_R_lowest (l : Launch) (dC : Nat → ClassId) (dI : Nat → Nat → Nat) (a : Nat → Nat) (k : Nat → ClassId) (p0 : Int64) (y : Int32) (hf : fR_lowest p0 = some y) : Met l y_R_lowest ws_R_lowest ({ frames := 1, cells := 0, slots := 0, locals := 21 }) (og_Pr [.long p0] (dC, dI) (wR_lowest a k) (tR_lowest k)) (vp_Si (fun x => x = y)) 0 0 (fun _ => False) := by
  refine Met.ofW (cc := b_R_lowest) (maxL := 2) (ret := (some .int)) (by decide) rfl ?_
  intro p e s m args below meth c s₁ B hml hv
  obtain ⟨rfl, hP, hK⟩ := hv
  have hx := B.exec
  have hb := B.bytes
  have hr := B.returns
  have hts0 := atoms_spec (ws := ws_R_lowest) B.pre
  have hts : ∀ w ∈ og_tb, w.before _ s = true := fun w h => hts0 w (List.mem_cons_of_mem _ h)
  have hown : s.vm.findClass R_R = some m.cls := findClass_of_methodNamed B.named
  have hlocks := B.notSynchronized
  have hl := lv_entry ([.long p0]) (n := 2) (Nat.le_of_ble_eq_true rfl)
  rw [lg_entry_eq]
  generalize (lg_sl ([.long p0]) ++ List.replicate (2 - (lg_sl ([.long p0])).length) Slot.unset).toArray = ls at hl ⊢
  have hl : lv_has ls 2 [(0, .long p0)] := hl
  rw [fR_lowest] at hf
  refine lv_lload_n hx hb d_R_lowest_0 rfl (lv_at hl 0 rfl) ?_
  refine lv_lload_n hx hb d_R_lowest_1 rfl (lv_at hl 0 rfl) ?_
  refine lv_lneg hx hb d_R_lowest_2 ?_
  refine lv_land hx hb d_R_lowest_3 ?_
  refine lv_lconst (v := 1) hx hb d_R_lowest_4 (by decide) ?_
  refine lv_lsub hx hb d_R_lowest_5 ?_
  obtain ⟨r6, e_6, hf⟩ := og_b hf
  refine og_rS (w := (wR_lowest a k)) (As := [.long ((p0 &&& (-p0)) - 1)]) (rest := []) ⟨hx, hb, hml, hown, hts⟩ (c_X_bitCount l dC dI a k ((p0 &&& (-p0)) - 1) r6 e_6) (va_cwS 1 hts (og_gS tb_54 tb_55 tb_56 tb_57) rfl rfl rfl (by decide +kernel) ⟨Nat.le_of_ble_eq_true rfl, Nat.le_of_ble_eq_true rfl⟩) hK hP [] [] trivial rfl rfl hl.1 rfl (Nat.le_of_ble_eq_true rfl) d_R_lowest_6 ⟨Nat.zero_le _, Nat.zero_le _⟩ ?_
  obtain rfl := Option.some.inj hf
  exact W.iret (v := r6) hx hb hr (fun t ht hW => ⟨r6, rfl, rfl, ht⟩) (fun _ h => absurd h List.not_mem_nil) d_R_lowest_9
def wR_askedBy (a : Nat → Nat) (k : Nat → ClassId) (R_count : Int32) (R_asked : (Nat → Int64)) : va_W := [(a 11, .inr (3, [.int R_count, .ref (a 12), .ref (a 13), .ref (a 14), .ref (a 15)])), (a 12, .inl (k 12, 40, .inr (.inl R_asked)))]
def tR_askedBy (k : Nat → ClassId) : List (ClassId × FieldType) := [(k 12, .long)]
set_option maxHeartbeats 4000000 in
set_option maxRecDepth 100000 in
theorem c_R_askedBy (l : Launch) (dC : Nat → ClassId) (dI : Nat → Nat → Nat) (a : Nat → Nat) (k : Nat → ClassId) (R_count : Int32) (R_asked : (Nat → Int64)) (p1 : Int64) (y : Int64) (hf : fR_askedBy R_asked p1 = some y) : Met l y_R_askedBy ws_R_askedBy ({ frames := 2, cells := 0, slots := 0, locals := 42 }) (og_Pr [.ref (a 11), .long p1] (dC, dI) (wR_askedBy a k R_count R_asked) (tR_askedBy k)) (vp_Sl (fun x => x = y)) 0 0 (fun _ => False) := by
  refine Met.ofW (cc := b_R_askedBy) (maxL := 8) (ret := (some .long)) (by decide) rfl ?_
  intro p e s m args below meth c s₁ B hml hv
  obtain ⟨rfl, hP, hK⟩ := hv
  have hx := B.exec
  have hb := B.bytes
  have hr := B.returns
  have hts0 := atoms_spec (ws := ws_R_askedBy) B.pre
  have hts : ∀ w ∈ og_tb, w.before _ s = true := fun w h => hts0 w (List.mem_cons_of_mem _ h)
  have hown : s.vm.findClass R_R = some m.cls := findClass_of_methodNamed B.named
  have hlocks := B.notSynchronized
  have hl := lv_entry ([.ref (a 11), .long p1]) (n := 8) (Nat.le_of_ble_eq_true rfl)
  rw [lg_entry_eq]
  generalize (lg_sl ([.ref (a 11), .long p1]) ++ List.replicate (8 - (lg_sl ([.ref (a 11), .long p1])).length) Slot.unset).toArray = ls at hl ⊢
  have hl : lv_has ls 8 [(0, .ref (a 11)), (1, .long p1)] := hl
  rw [fR_askedBy] at hf
  refine lv_lconst (v := 0) hx hb d_R_askedBy_0 (by decide) ?_
  refine lv_lstore_n (lv' := [(3, .long 0), (0, .ref (a 11)), (1, .long p1)]) hx hb d_R_askedBy_1 rfl hl (by decide) rfl (fun ls hl => ?_)
  refine lv_lload_n hx hb d_R_askedBy_2 rfl (lv_at hl 2 rfl) ?_
  refine lv_lstore (lv' := [(5, .long p1), (3, .long 0), (0, .ref (a 11)), (1, .long p1)]) hx hb d_R_askedBy_3 hl (by decide) rfl (fun ls hl => ?_)
  refine lv_lload_n hx hb d_R_askedBy_5 rfl (lv_at hl 3 rfl) ?_
  obtain ⟨r6, e_6, hf⟩ := og_b hf
  refine og_rS (w := (wR_askedBy a k R_count R_asked)) (As := [.long p1]) (rest := []) ⟨hx, hb, hml, hown, hts⟩ (c_X_bitCount l dC dI a k p1 r6 e_6) (va_cwS 1 hts (og_gS tb_54 tb_55 tb_56 tb_57) rfl rfl rfl (by decide +kernel) ⟨Nat.le_of_ble_eq_true rfl, Nat.le_of_ble_eq_true rfl⟩) hK hP [] [] trivial rfl rfl hl.1 rfl (Nat.le_of_ble_eq_true rfl) d_R_askedBy_6 ⟨Nat.zero_le _, Nat.zero_le _⟩ ?_
  refine lv_istore (lv' := [(7, .int r6), (5, .long p1), (3, .long 0), (0, .ref (a 11)), (1, .long p1)]) hx hb d_R_askedBy_9 hl (by decide) rfl (fun ls hl => ?_)
  have k11_44 : ∀ (v3 : Int64) (ls : Array Slot), fR_askedBy_K11_44 v3 = some y → lv_has ls 8 [(3, .long v3)] → W p l e (headSpec ws_R_askedBy { frames := 2, cells := 0, slots := 0, locals := 42 }).room s m ([.ref (a 11), .long p1] : List Value).toArray below meth c s.heap [] 0 0 (MQ below (vp_Sl (fun x => x = y)) ([.ref (a 11), .long p1] : List Value).toArray s 0 0 (fun _ => False)) (F0 m 44 ls []) := by
    intro v3 ls hf hl
    rw [fR_askedBy_K11_44] at hf
    refine lv_lload_n hx hb d_R_askedBy_44 rfl (lv_at hl 0 rfl) ?_
    obtain rfl := Option.some.inj hf
    exact W.lret (v := v3) hx hb hr (fun t ht hW => ⟨v3, rfl, rfl, ht⟩) (fun _ h => absurd h List.not_mem_nil) d_R_askedBy_45
  have lp11 : ∀ (n11 : Nat) (v3 : Int64) (v5 : Int64) (v7 : Int32) (ls : Array Slot), fR_askedBy_L11 fR_askedBy_K11_44 R_asked n11 v3 v5 v7 = some y → lv_has ls 8 [(0, .ref (a 11)), (3, .long v3), (5, .long v5), (7, .int v7)] → W p l e (headSpec ws_R_askedBy { frames := 2, cells := 0, slots := 0, locals := 42 }).room s m ([.ref (a 11), .long p1] : List Value).toArray below meth c s.heap [] 0 0 (MQ below (vp_Sl (fun x => x = y)) ([.ref (a 11), .long p1] : List Value).toArray s 0 0 (fun _ => False)) (F0 m 11 ls []) := by
    intro n11
    induction n11 with
    | zero => intro v3 v5 v7 ls hf hl; rw [fR_askedBy_L11] at hf; cases hf
    | succ n11 ih11 =>
      intro v3 v5 v7 ls hf hl
      rw [fR_askedBy_L11] at hf
      refine lv_iload hx hb d_R_askedBy_11 (lv_at hl 3 rfl) ?_
      refine lv_if_le (tgt := 44) hx hb d_R_askedBy_13 (by decide) (fun c_13 => ?_) (fun c_13 => ?_)
      · have hf := og_t hf c_13
        exact k11_44 v3 _ hf (lv_sub hl [1] rfl)
      · have hf := og_f hf c_13
        refine lv_lload_n hx hb d_R_askedBy_16 rfl (lv_at hl 1 rfl) ?_
        refine lv_aload_n hx hb d_R_askedBy_17 rfl (lv_at hl 0 rfl) ?_
        refine vg_R_asked (v := .ref (a 12)) hx hb hts hown hK hP 0 rfl (hts _ tb_58) rfl d_R_askedBy_18 ?_
        refine lv_lload hx hb d_R_askedBy_21 (lv_at hl 2 rfl) ?_
        obtain ⟨r23, e_23, hf⟩ := og_b hf
        refine og_rS (w := (wR_askedBy a k R_count R_asked)) (As := [.long v5]) (rest := [.ref (a 12), .long v3]) ⟨hx, hb, hml, hown, hts⟩ (c_R_lowest l dC dI a k v5 r23 e_23) (va_cwS 1 hts (og_gS tb_59 tb_60 tb_61 tb_62) rfl rfl rfl (by decide +kernel) ⟨Nat.le_of_ble_eq_true rfl, Nat.le_of_ble_eq_true rfl⟩) hK hP [] [] trivial rfl rfl hl.1 rfl (Nat.le_of_ble_eq_true rfl) d_R_askedBy_23 ⟨Nat.zero_le _, Nat.zero_le _⟩ ?_
        obtain ⟨h_26, hf⟩ := og_ck_s hf
        refine va_lald hx hb hK hP 1 0 rfl rfl h_26 d_R_askedBy_26 ?_
        refine lv_lor hx hb d_R_askedBy_27 ?_
        refine lv_lstore_n (lv' := [(3, .long (v3 ||| (R_asked r23.toNatClampNeg))), (0, .ref (a 11)), (5, .long v5), (7, .int v7)]) hx hb d_R_askedBy_28 rfl hl (by decide) rfl (fun ls hl => ?_)
        refine lv_lload hx hb d_R_askedBy_29 (lv_at hl 2 rfl) ?_
        refine lv_lload hx hb d_R_askedBy_31 (lv_at hl 2 rfl) ?_
        refine lv_lconst (v := 1) hx hb d_R_askedBy_33 (by decide) ?_
        refine lv_lsub hx hb d_R_askedBy_34 ?_
        refine lv_land hx hb d_R_askedBy_35 ?_
        refine lv_lstore (lv' := [(5, .long (v5 &&& (v5 - 1))), (3, .long (v3 ||| (R_asked r23.toNatClampNeg))), (0, .ref (a 11)), (7, .int v7)]) hx hb d_R_askedBy_36 hl (by decide) rfl (fun ls hl => ?_)
        refine lv_iinc (v := (v7 + (-1))) (lv' := [(7, .int (v7 + (-1))), (5, .long (v5 &&& (v5 - 1))), (3, .long (v3 ||| (R_asked r23.toNatClampNeg))), (0, .ref (a 11))]) hx hb d_R_askedBy_38 hl (k := 3) rfl rfl (by decide) rfl (fun ls hl => ?_)
        refine lv_goto (tgt := 11) hx hb d_R_askedBy_41 (by decide) ?_
        exact ih11 (v3 ||| (R_asked r23.toNatClampNeg)) (v5 &&& (v5 - 1)) (v7 + (-1)) _ hf (lv_sub hl [3, 2, 1, 0] rfl)
  exact lp11 FU 0 p1 r6 _ hf (lv_sub hl [3, 2, 1, 0] rfl)
def wR_follow (a : Nat → Nat) (k : Nat → ClassId) (R_count : Int32) (R_asked : (Nat → Int64)) (R_reached : (Nat → Int64)) (R_shortest : (Nat → Int32)) : va_W := [(a 11, .inr (3, [.int R_count, .ref (a 12), .ref (a 13), .ref (a 14), .ref (a 15)])), (a 12, .inl (k 12, 40, .inr (.inl R_asked))), (a 13, .inl (k 13, 40, .inr (.inl R_reached))), (a 14, .inl (k 14, 40, .inl R_shortest))]
def tR_follow (k : Nat → ClassId) : List (ClassId × FieldType) := [(k 12, .long), (k 13, .long), (k 14, .int)]
set_option maxHeartbeats 4000000 in
set_option maxRecDepth 100000 in
theorem c_R_follow (l : Launch) (dC : Nat → ClassId) (dI : Nat → Nat → Nat) (a : Nat → Nat) (k : Nat → ClassId) (sz : Nat) (R_count : Int32) (R_asked : (Nat → Int64)) (R_reached : (Nat → Int64)) (R_shortest : (Nat → Int32)) (p1 : Int32) (y : (Nat → Int64) × (Nat → Int32)) (hf : fR_follow R_count R_asked R_reached R_shortest p1 = some y) : Met l y_R_follow ws_R_follow ({ frames := 3, cells := 0, slots := 0, locals := 69 }) (og_Pw [.ref (a 11), .int p1] (dC, dI) (wR_follow a k R_count R_asked R_reached R_shortest) (tR_follow k) sz) (og_Qv (dC, dI) (wR_follow a k R_count R_asked y.1 y.2) (tR_follow k) (va_A (wR_follow a k R_count R_asked R_reached R_shortest) sz)) 0 0 (va_A (wR_follow a k R_count R_asked R_reached R_shortest) sz) := by
  refine Met.ofW (cc := b_R_follow) (maxL := 7) (ret := none) (by decide) rfl ?_
  intro p e s m args below meth c s₁ B hml hv
  obtain ⟨rfl, hsz, hP, hK, hD0⟩ := hv
  have hx := B.exec
  have hb := B.bytes
  have hr := B.returns
  have hts0 := atoms_spec (ws := ws_R_follow) B.pre
  have hts : ∀ w ∈ og_tb, w.before _ s = true := fun w h => hts0 w (List.mem_cons_of_mem _ h)
  have hown : s.vm.findClass R_R = some m.cls := findClass_of_methodNamed B.named
  have hlocks := B.notSynchronized
  subst hsz
  have hD := hD0.self (sz := s.heap.size)
  generalize hAe : va_A (wR_follow a k R_count R_asked R_reached R_shortest) s.heap.size = A at hD ⊢
  have hA : ∀ q : Nat, s.heap.size ≤ q → A q := fun q h => by rw [← hAe]; exact Or.inr h
  have hS : va_S A s.heap s.heap [] := va_S.rf
  have hl := lv_entry ([.ref (a 11), .int p1]) (n := 7) (Nat.le_of_ble_eq_true rfl)
  rw [lg_entry_eq]
  generalize (lg_sl ([.ref (a 11), .int p1]) ++ List.replicate (7 - (lg_sl ([.ref (a 11), .int p1])).length) Slot.unset).toArray = ls at hl ⊢
  have hl : lv_has ls 7 [(0, .ref (a 11)), (1, .int p1)] := hl
  rw [fR_follow] at hf
  refine lv_lconst (v := 0) hx hb d_R_follow_0 (by decide) ?_
  refine lv_lstore_n (lv' := [(2, .long 0), (0, .ref (a 11)), (1, .int p1)]) hx hb d_R_follow_1 rfl hl (by decide) rfl (fun ls hl => ?_)
  refine lv_aload_n hx hb d_R_follow_2 rfl (lv_at hl 1 rfl) ?_
  refine vg_R_asked (v := .ref (a 12)) hx hb hts hown hK hP 0 rfl (hts _ tb_58) rfl d_R_follow_3 ?_
  refine lv_iload_n hx hb d_R_follow_6 rfl (lv_at hl 2 rfl) ?_
  obtain ⟨h_7, hf⟩ := og_ck_s hf
  refine va_lald hx hb hK hP 1 0 rfl rfl h_7 d_R_follow_7 ?_
  refine lv_lstore (lv' := [(4, .long (R_asked p1.toNatClampNeg)), (2, .long 0), (0, .ref (a 11)), (1, .int p1)]) hx hb d_R_follow_8 hl (by decide) rfl (fun ls hl => ?_)
  refine lv_aload_n hx hb d_R_follow_10 rfl (lv_at hl 2 rfl) ?_
  refine vg_R_shortest (v := .ref (a 14)) hx hb hts hown hK hP 0 rfl (hts _ tb_63) rfl d_R_follow_11 ?_
  refine lv_iload_n hx hb d_R_follow_14 rfl (lv_at hl 3 rfl) ?_
  refine lv_iconst (v := 0) hx hb d_R_follow_15 (by decide) ?_
  obtain ⟨h_16, hf⟩ := og_ck_s hf
  refine va_iast hx hb hK hP hD hS 3 2 rfl rfl h_16 d_R_follow_16 (fun H locs hP hD hS => ?_)
  have hP : va_P (dC, dI) vwCl (wR_follow a k R_count R_asked R_reached (upd R_shortest p1.toNatClampNeg 0)) H := hP
  have hD : va_D A (wR_follow a k R_count R_asked R_reached (upd R_shortest p1.toNatClampNeg 0)) := hD
  refine lv_iconst (v := 1) hx hb d_R_follow_17 (by decide) ?_
  refine lv_istore (lv' := [(6, .int 1), (4, .long (R_asked p1.toNatClampNeg)), (2, .long 0), (0, .ref (a 11)), (1, .int p1)]) hx hb d_R_follow_18 hl (by decide) rfl (fun ls hl => ?_)
  have k20_78 : ∀ (v2 : Int64) (R_shortest : (Nat → Int32)) (H : Heap) (locs : List Loc) (ls : Array Slot), fR_follow_K20_78 R_reached p1 v2 R_shortest = some y → va_P (dC, dI) vwCl (wR_follow a k R_count R_asked R_reached R_shortest) H → va_D A (wR_follow a k R_count R_asked R_reached R_shortest) → va_S A s.heap H locs → lv_has ls 7 [(0, .ref (a 11)), (1, .int p1), (2, .long v2)] → W p l e (headSpec ws_R_follow { frames := 3, cells := 0, slots := 0, locals := 69 }).room s m ([.ref (a 11), .int p1] : List Value).toArray below meth c H locs 0 0 (MQ below (og_Qv (dC, dI) (wR_follow a k R_count R_asked y.1 y.2) (tR_follow k) A) ([.ref (a 11), .int p1] : List Value).toArray s 0 0 A) (F0 m 78 ls []) := by
    intro v2 R_shortest H locs ls hf hP hD hS hl
    rw [fR_follow_K20_78] at hf
    refine lv_aload_n hx hb d_R_follow_78 rfl (lv_at hl 0 rfl) ?_
    refine vg_R_reached (v := .ref (a 13)) hx hb hts hown hK hP 0 rfl (hts _ tb_64) rfl d_R_follow_79 ?_
    refine lv_iload_n hx hb d_R_follow_82 rfl (lv_at hl 1 rfl) ?_
    refine lv_lload_n hx hb d_R_follow_83 rfl (lv_at hl 2 rfl) ?_
    obtain ⟨h_84, hf⟩ := og_ck_s hf
    refine va_last hx hb hK hP hD hS 2 1 rfl rfl h_84 d_R_follow_84 (fun H locs hP hD hS => ?_)
    have hP : va_P (dC, dI) vwCl (wR_follow a k R_count R_asked (vp_updL R_reached p1.toNatClampNeg v2) R_shortest) H := hP
    have hD : va_D A (wR_follow a k R_count R_asked (vp_updL R_reached p1.toNatClampNeg v2) R_shortest) := hD
    obtain rfl := Option.some.inj hf
    exact W.vret hx hb hr (fun t ht hW => ⟨⟨(), rfl, trivial, by rw [ht]; exact hP, va_K.moved hW.alike hK, hD⟩, hS.F ht⟩) hS.2.2 d_R_follow_85
  have lp20 : ∀ (n20 : Nat) (v2 : Int64) (v4 : Int64) (v6 : Int32) (R_shortest : (Nat → Int32)) (H : Heap) (locs : List Loc) (ls : Array Slot), fR_follow_L20 (fR_follow_K20_78 R_reached p1) R_count R_asked p1 n20 v2 v4 v6 R_shortest = some y → va_P (dC, dI) vwCl (wR_follow a k R_count R_asked R_reached R_shortest) H → va_D A (wR_follow a k R_count R_asked R_reached R_shortest) → va_S A s.heap H locs → lv_has ls 7 [(0, .ref (a 11)), (1, .int p1), (2, .long v2), (4, .long v4), (6, .int v6)] → W p l e (headSpec ws_R_follow { frames := 3, cells := 0, slots := 0, locals := 69 }).room s m ([.ref (a 11), .int p1] : List Value).toArray below meth c H locs 0 0 (MQ below (og_Qv (dC, dI) (wR_follow a k R_count R_asked y.1 y.2) (tR_follow k) A) ([.ref (a 11), .int p1] : List Value).toArray s 0 0 A) (F0 m 20 ls []) := by
    intro n20
    induction n20 with
    | zero => intro v2 v4 v6 R_shortest H locs ls hf hP hD hS hl; rw [fR_follow_L20] at hf; cases hf
    | succ n20 ih20 =>
      intro v2 v4 v6 R_shortest H locs ls hf hP hD hS hl
      rw [fR_follow_L20] at hf
      refine lv_iload hx hb d_R_follow_20 (lv_at hl 4 rfl) ?_
      refine lv_aload_n hx hb d_R_follow_22 rfl (lv_at hl 0 rfl) ?_
      refine vg_R_count (v := .int R_count) hx hb hts hown hK hP 0 rfl (hts _ tb_65) rfl d_R_follow_23 ?_
      refine lv_icmp_gt (tgt := 78) hx hb d_R_follow_26 (by decide) (fun c_26 => ?_) (fun c_26 => ?_)
      · have hf := og_t hf c_26
        exact k20_78 v2 R_shortest _ _ _ hf hP hD hS (lv_sub hl [0, 1, 2] rfl)
      · have hf := og_f hf c_26
        refine lv_lload hx hb d_R_follow_29 (lv_at hl 3 rfl) ?_
        refine lv_lconst (v := 0) hx hb d_R_follow_31 (by decide) ?_
        refine W.lcmp hx hb d_R_follow_32 ?_
        refine lv_if_eq (tgt := 78) hx hb d_R_follow_33 (by decide) (fun c_33 => ?_) (fun c_33 => ?_)
        · have hf := og_t hf c_33
          exact k20_78 v2 R_shortest _ _ _ hf hP hD hS (lv_sub hl [0, 1, 2] rfl)
        · have hf := og_f hf c_33
          refine lv_lload hx hb d_R_follow_36 (lv_at hl 3 rfl) ?_
          refine lv_iload_n hx hb d_R_follow_38 rfl (lv_at hl 1 rfl) ?_
          obtain ⟨r39, e_39, hf⟩ := og_b hf
          refine og_rS (w := (wR_follow a k R_count R_asked R_reached R_shortest)) (As := [.long v4, .int p1]) (rest := []) ⟨hx, hb, hml, hown, hts⟩ (c_R_contains l dC dI a k v4 p1 r39 e_39) (va_cwS 2 hts (og_gS tb_66 tb_67 tb_61 tb_68) rfl rfl rfl (by decide +kernel) ⟨Nat.le_of_ble_eq_true rfl, Nat.le_of_ble_eq_true rfl⟩) hK hP [] [] trivial rfl rfl hl.1 rfl (Nat.le_of_ble_eq_true rfl) d_R_follow_39 ⟨Nat.zero_le _, Nat.zero_le _⟩ ?_
          have j53 : ∀ (R_shortest : (Nat → Int32)) (H : Heap) (locs : List Loc) (ls : Array Slot), fR_follow_J53 (fun a0 a1 a2 a3 => fR_follow_L20 (fR_follow_K20_78 R_reached p1) R_count R_asked p1 n20 a0 a1 a2 a3) R_asked v2 v4 v6 R_shortest = some y → va_P (dC, dI) vwCl (wR_follow a k R_count R_asked R_reached R_shortest) H → va_D A (wR_follow a k R_count R_asked R_reached R_shortest) → va_S A s.heap H locs → lv_has ls 7 [(0, .ref (a 11)), (1, .int p1), (2, .long v2), (4, .long v4), (6, .int v6)] → W p l e (headSpec ws_R_follow { frames := 3, cells := 0, slots := 0, locals := 69 }).room s m ([.ref (a 11), .int p1] : List Value).toArray below meth c H locs 0 0 (MQ below (og_Qv (dC, dI) (wR_follow a k R_count R_asked y.1 y.2) (tR_follow k) A) ([.ref (a 11), .int p1] : List Value).toArray s 0 0 A) (F0 m 53 ls []) := by
            intro R_shortest H locs ls hf hP hD hS hl
            rw [fR_follow_J53] at hf
            refine lv_lload_n hx hb d_R_follow_53 rfl (lv_at hl 2 rfl) ?_
            refine lv_lload hx hb d_R_follow_54 (lv_at hl 3 rfl) ?_
            refine lv_lor hx hb d_R_follow_56 ?_
            refine lv_lstore_n (lv' := [(2, .long (v2 ||| v4)), (0, .ref (a 11)), (1, .int p1), (4, .long v4), (6, .int v6)]) hx hb d_R_follow_57 rfl hl (by decide) rfl (fun ls hl => ?_)
            refine lv_aload_n hx hb d_R_follow_58 rfl (lv_at hl 1 rfl) ?_
            refine lv_lload hx hb d_R_follow_59 (lv_at hl 3 rfl) ?_
            obtain ⟨r61, e_61, hf⟩ := og_b hf
            refine og_rVl (w := (wR_follow a k R_count R_asked R_reached R_shortest)) (As := [.long v4]) (rest := []) (ci := 3) (q0 := 0) ⟨hx, hb, hml, hown, hts⟩ (c_R_askedBy l dC dI a k R_count R_asked v4 r61 e_61) (cwV 1 hts (og_gV tb_69 tb_70 tb_71 tb_61 tb_72) rfl rfl rfl (by decide +kernel) ⟨Nat.le_of_ble_eq_true rfl, Nat.le_of_ble_eq_true rfl⟩) hK hP [0, 1] [0] ⟨rfl, rfl, trivial⟩ rfl rfl rfl rfl rfl hl.1 rfl (Nat.le_of_ble_eq_true rfl) d_R_follow_61 ⟨Nat.zero_le _, Nat.zero_le _⟩ ?_
            refine lv_lload_n hx hb d_R_follow_64 rfl (lv_at hl 0 rfl) ?_
            refine lv_ldc2 (v := (-1)) hx hb hown (hts _ tb_73) d_R_follow_65 ?_
            refine lv_lxor hx hb d_R_follow_68 ?_
            refine lv_land hx hb d_R_follow_69 ?_
            refine lv_lstore (lv' := [(4, .long (r61 &&& ((v2 ||| v4) ^^^ (-1)))), (2, .long (v2 ||| v4)), (0, .ref (a 11)), (1, .int p1), (6, .int v6)]) hx hb d_R_follow_70 hl (by decide) rfl (fun ls hl => ?_)
            refine lv_iinc (v := (v6 + 1)) (lv' := [(6, .int (v6 + 1)), (4, .long (r61 &&& ((v2 ||| v4) ^^^ (-1)))), (2, .long (v2 ||| v4)), (0, .ref (a 11)), (1, .int p1)]) hx hb d_R_follow_72 hl (k := 4) rfl rfl (by decide) rfl (fun ls hl => ?_)
            refine lv_goto (tgt := 20) hx hb d_R_follow_75 (by decide) ?_
            exact ih20 (v2 ||| v4) (r61 &&& ((v2 ||| v4) ^^^ (-1))) (v6 + 1) R_shortest _ _ _ hf hP hD hS (lv_sub hl [3, 4, 2, 1, 0] rfl)
          refine lv_if_eq (tgt := 53) hx hb d_R_follow_42 (by decide) (fun c_42 => ?_) (fun c_42 => ?_)
          · have hf := og_t hf c_42
            exact j53 R_shortest _ _ _ hf hP hD hS (lv_sub hl [0, 1, 2, 3, 4] rfl)
          · have hf := og_f hf c_42
            refine lv_aload_n hx hb d_R_follow_45 rfl (lv_at hl 0 rfl) ?_
            refine vg_R_shortest (v := .ref (a 14)) hx hb hts hown hK hP 0 rfl (hts _ tb_63) rfl d_R_follow_46 ?_
            refine lv_iload_n hx hb d_R_follow_49 rfl (lv_at hl 1 rfl) ?_
            refine lv_iload hx hb d_R_follow_50 (lv_at hl 4 rfl) ?_
            obtain ⟨h_52, hf⟩ := og_ck_s hf
            refine va_iast hx hb hK hP hD hS 3 2 rfl rfl h_52 d_R_follow_52 (fun H locs hP hD hS => ?_)
            have hP : va_P (dC, dI) vwCl (wR_follow a k R_count R_asked R_reached (upd R_shortest p1.toNatClampNeg v6)) H := hP
            have hD : va_D A (wR_follow a k R_count R_asked R_reached (upd R_shortest p1.toNatClampNeg v6)) := hD
            exact j53 (upd R_shortest p1.toNatClampNeg v6) _ _ _ hf hP hD hS (lv_sub hl [0, 1, 2, 3, 4] rfl)
  exact lp20 FU 0 (R_asked p1.toNatClampNeg) 1 (upd R_shortest p1.toNatClampNeg 0) _ _ _ hf hP hD hS (lv_sub hl [3, 4, 2, 1, 0] rfl)
def wR_draw (a : Nat → Nat) (k : Nat → ClassId) (K_count : Int32) (K_rankOf : (Nat → Int32)) (E_count : Int32) (E_from : (Nat → Int32)) (E_to : (Nat → Int32)) (E_configurations : (Nat → Int32)) (E_gone : (Nat → Int32)) (R_count : Int32) (R_asked : (Nat → Int64)) (R_reached : (Nat → Int64)) (R_shortest : (Nat → Int32)) : va_W := [(a 1, .inr (1, [.int K_count, .ref (a 2), .ref (a 3), .ref (a 4)])), (a 4, .inl (k 4, 40, .inl K_rankOf)), (a 5, .inr (2, [.int E_count, .ref (a 6), .ref (a 7), .ref (a 8), .ref (a 9), .ref (a 10)])), (a 6, .inl (k 6, 160, .inl E_from)), (a 7, .inl (k 7, 160, .inl E_to)), (a 9, .inl (k 9, 160, .inl E_configurations)), (a 10, .inl (k 10, 160, .inl E_gone)), (a 11, .inr (3, [.int R_count, .ref (a 12), .ref (a 13), .ref (a 14), .ref (a 15)])), (a 12, .inl (k 12, 40, .inr (.inl R_asked))), (a 13, .inl (k 13, 40, .inr (.inl R_reached))), (a 14, .inl (k 14, 40, .inl R_shortest))]
def tR_draw (k : Nat → ClassId) : List (ClassId × FieldType) := [(k 4, .int), (k 6, .int), (k 7, .int), (k 9, .int), (k 10, .boolean), (k 12, .long), (k 13, .long), (k 14, .int)]
set_option maxHeartbeats 4000000 in
set_option maxRecDepth 100000 in
theorem c_R_draw (l : Launch) (dC : Nat → ClassId) (dI : Nat → Nat → Nat) (a : Nat → Nat) (k : Nat → ClassId) (sz : Nat) (K_count : Int32) (K_rankOf : (Nat → Int32)) (E_count : Int32) (E_from : (Nat → Int32)) (E_to : (Nat → Int32)) (E_configurations : (Nat → Int32)) (E_gone : (Nat → Int32)) (R_count : Int32) (R_asked : (Nat → Int64)) (R_reached : (Nat → Int64)) (R_shortest : (Nat → Int32)) (p3 : Int32) (y : Int32 × (Nat → Int64) × (Nat → Int64) × (Nat → Int32)) (hf : fR_draw K_count K_rankOf E_count E_from E_to E_configurations E_gone R_count R_asked R_reached R_shortest p3 = some y) : Met l y_R_draw ws_R_draw ({ frames := 4, cells := 0, slots := 0, locals := 95 }) (og_Pw [.ref (a 11), .ref (a 1), .ref (a 5), .int p3] (dC, dI) (wR_draw a k K_count K_rankOf E_count E_from E_to E_configurations E_gone R_count R_asked R_reached R_shortest) (tR_draw k) sz) (og_Qv (dC, dI) (wR_draw a k K_count K_rankOf E_count E_from E_to E_configurations E_gone y.1 y.2.1 y.2.2.1 y.2.2.2) (tR_draw k) (va_A (wR_draw a k K_count K_rankOf E_count E_from E_to E_configurations E_gone R_count R_asked R_reached R_shortest) sz)) 0 0 (va_A (wR_draw a k K_count K_rankOf E_count E_from E_to E_configurations E_gone R_count R_asked R_reached R_shortest) sz) := by
  refine Met.ofW (cc := b_R_draw) (maxL := 5) (ret := none) (by decide) rfl ?_
  intro p e s m args below meth c s₁ B hml hv
  obtain ⟨rfl, hsz, hP, hK, hD0⟩ := hv
  have hx := B.exec
  have hb := B.bytes
  have hr := B.returns
  have hts0 := atoms_spec (ws := ws_R_draw) B.pre
  have hts : ∀ w ∈ og_tb, w.before _ s = true := fun w h => hts0 w (List.mem_cons_of_mem _ h)
  have hown : s.vm.findClass R_R = some m.cls := findClass_of_methodNamed B.named
  have hlocks := B.notSynchronized
  subst hsz
  have hD := hD0.self (sz := s.heap.size)
  generalize hAe : va_A (wR_draw a k K_count K_rankOf E_count E_from E_to E_configurations E_gone R_count R_asked R_reached R_shortest) s.heap.size = A at hD ⊢
  have hA : ∀ q : Nat, s.heap.size ≤ q → A q := fun q h => by rw [← hAe]; exact Or.inr h
  have hS : va_S A s.heap s.heap [] := va_S.rf
  have hl := lv_entry ([.ref (a 11), .ref (a 1), .ref (a 5), .int p3]) (n := 5) (Nat.le_of_ble_eq_true rfl)
  rw [lg_entry_eq]
  generalize (lg_sl ([.ref (a 11), .ref (a 1), .ref (a 5), .int p3]) ++ List.replicate (5 - (lg_sl ([.ref (a 11), .ref (a 1), .ref (a 5), .int p3])).length) Slot.unset).toArray = ls at hl ⊢
  have hl : lv_has ls 5 [(0, .ref (a 11)), (1, .ref (a 1)), (2, .ref (a 5)), (3, .int p3)] := hl
  rw [fR_draw] at hf
  refine lv_aload_n hx hb d_R_draw_0 rfl (lv_at hl 0 rfl) ?_
  refine lv_aload_n hx hb d_R_draw_1 rfl (lv_at hl 1 rfl) ?_
  refine vg_K_count (v := .int K_count) hx hb hts hown hK hP 0 rfl (hts _ tb_74) rfl d_R_draw_2 ?_
  refine vs_R_count (v := K_count) hx hb hts hown hK hP hD hS 7 rfl (hts _ tb_65) (Nat.le_of_ble_eq_true rfl) d_R_draw_5 (fun H locs hP hD hS => ?_)
  have hP : va_P (dC, dI) vwCl (wR_draw a k K_count K_rankOf E_count E_from E_to E_configurations E_gone K_count R_asked R_reached R_shortest) H := hP
  have hD : va_D A (wR_draw a k K_count K_rankOf E_count E_from E_to E_configurations E_gone K_count R_asked R_reached R_shortest) := hD
  refine lv_iconst (v := 0) hx hb d_R_draw_8 (by decide) ?_
  refine lv_istore (lv' := [(4, .int 0), (0, .ref (a 11)), (1, .ref (a 1)), (2, .ref (a 5)), (3, .int p3)]) hx hb d_R_draw_9 hl (by decide) rfl (fun ls hl => ?_)
  have k11_34 : ∀ (R_asked : (Nat → Int64)) (H : Heap) (locs : List Loc) (ls : Array Slot), fR_draw_K11_34 K_rankOf E_count E_from E_to E_configurations E_gone K_count R_reached R_shortest p3 R_asked = some y → va_P (dC, dI) vwCl (wR_draw a k K_count K_rankOf E_count E_from E_to E_configurations E_gone K_count R_asked R_reached R_shortest) H → va_D A (wR_draw a k K_count K_rankOf E_count E_from E_to E_configurations E_gone K_count R_asked R_reached R_shortest) → va_S A s.heap H locs → lv_has ls 5 [(0, .ref (a 11)), (1, .ref (a 1)), (2, .ref (a 5)), (3, .int p3)] → W p l e (headSpec ws_R_draw { frames := 4, cells := 0, slots := 0, locals := 95 }).room s m ([.ref (a 11), .ref (a 1), .ref (a 5), .int p3] : List Value).toArray below meth c H locs 0 0 (MQ below (og_Qv (dC, dI) (wR_draw a k K_count K_rankOf E_count E_from E_to E_configurations E_gone y.1 y.2.1 y.2.2.1 y.2.2.2) (tR_draw k) A) ([.ref (a 11), .ref (a 1), .ref (a 5), .int p3] : List Value).toArray s 0 0 A) (F0 m 34 ls []) := by
    intro R_asked H locs ls hf hP hD hS hl
    rw [fR_draw_K11_34] at hf
    refine lv_iconst (v := 0) hx hb d_R_draw_34 (by decide) ?_
    refine lv_istore (lv' := [(4, .int 0), (0, .ref (a 11)), (1, .ref (a 1)), (2, .ref (a 5)), (3, .int p3)]) hx hb d_R_draw_35 hl (by decide) rfl (fun ls hl => ?_)
    have k37_96 : ∀ (R_asked : (Nat → Int64)) (H : Heap) (locs : List Loc) (ls : Array Slot), fR_draw_K37_96 K_count R_reached R_shortest R_asked = some y → va_P (dC, dI) vwCl (wR_draw a k K_count K_rankOf E_count E_from E_to E_configurations E_gone K_count R_asked R_reached R_shortest) H → va_D A (wR_draw a k K_count K_rankOf E_count E_from E_to E_configurations E_gone K_count R_asked R_reached R_shortest) → va_S A s.heap H locs → lv_has ls 5 [(0, .ref (a 11))] → W p l e (headSpec ws_R_draw { frames := 4, cells := 0, slots := 0, locals := 95 }).room s m ([.ref (a 11), .ref (a 1), .ref (a 5), .int p3] : List Value).toArray below meth c H locs 0 0 (MQ below (og_Qv (dC, dI) (wR_draw a k K_count K_rankOf E_count E_from E_to E_configurations E_gone y.1 y.2.1 y.2.2.1 y.2.2.2) (tR_draw k) A) ([.ref (a 11), .ref (a 1), .ref (a 5), .int p3] : List Value).toArray s 0 0 A) (F0 m 96 ls []) := by
      intro R_asked H locs ls hf hP hD hS hl
      rw [fR_draw_K37_96] at hf
      refine lv_iconst (v := 0) hx hb d_R_draw_96 (by decide) ?_
      refine lv_istore (lv' := [(4, .int 0), (0, .ref (a 11))]) hx hb d_R_draw_97 hl (by decide) rfl (fun ls hl => ?_)
      have k99_120 : ∀ (R_reached : (Nat → Int64)) (R_shortest : (Nat → Int32)) (H : Heap) (locs : List Loc) (ls : Array Slot), fR_draw_K99_120 K_count R_asked R_reached R_shortest = some y → va_P (dC, dI) vwCl (wR_draw a k K_count K_rankOf E_count E_from E_to E_configurations E_gone K_count R_asked R_reached R_shortest) H → va_D A (wR_draw a k K_count K_rankOf E_count E_from E_to E_configurations E_gone K_count R_asked R_reached R_shortest) → va_S A s.heap H locs → lv_has ls 5 [] → W p l e (headSpec ws_R_draw { frames := 4, cells := 0, slots := 0, locals := 95 }).room s m ([.ref (a 11), .ref (a 1), .ref (a 5), .int p3] : List Value).toArray below meth c H locs 0 0 (MQ below (og_Qv (dC, dI) (wR_draw a k K_count K_rankOf E_count E_from E_to E_configurations E_gone y.1 y.2.1 y.2.2.1 y.2.2.2) (tR_draw k) A) ([.ref (a 11), .ref (a 1), .ref (a 5), .int p3] : List Value).toArray s 0 0 A) (F0 m 120 ls []) := by
        intro R_reached R_shortest H locs ls hf hP hD hS hl
        rw [fR_draw_K99_120] at hf
        obtain rfl := Option.some.inj hf
        exact W.vret hx hb hr (fun t ht hW => ⟨⟨(), rfl, trivial, by rw [ht]; exact hP, va_K.moved hW.alike hK, hD⟩, hS.F ht⟩) hS.2.2 d_R_draw_120
      have lp99 : ∀ (n99 : Nat) (v4 : Int32) (R_reached : (Nat → Int64)) (R_shortest : (Nat → Int32)) (H : Heap) (locs : List Loc) (ls : Array Slot), fR_draw_L99 (fR_draw_K99_120 K_count R_asked) K_count R_asked n99 v4 R_reached R_shortest = some y → va_P (dC, dI) vwCl (wR_draw a k K_count K_rankOf E_count E_from E_to E_configurations E_gone K_count R_asked R_reached R_shortest) H → va_D A (wR_draw a k K_count K_rankOf E_count E_from E_to E_configurations E_gone K_count R_asked R_reached R_shortest) → va_S A s.heap H locs → lv_has ls 5 [(0, .ref (a 11)), (4, .int v4)] → W p l e (headSpec ws_R_draw { frames := 4, cells := 0, slots := 0, locals := 95 }).room s m ([.ref (a 11), .ref (a 1), .ref (a 5), .int p3] : List Value).toArray below meth c H locs 0 0 (MQ below (og_Qv (dC, dI) (wR_draw a k K_count K_rankOf E_count E_from E_to E_configurations E_gone y.1 y.2.1 y.2.2.1 y.2.2.2) (tR_draw k) A) ([.ref (a 11), .ref (a 1), .ref (a 5), .int p3] : List Value).toArray s 0 0 A) (F0 m 99 ls []) := by
        intro n99
        induction n99 with
        | zero => intro v4 R_reached R_shortest H locs ls hf hP hD hS hl; rw [fR_draw_L99] at hf; cases hf
        | succ n99 ih99 =>
          intro v4 R_reached R_shortest H locs ls hf hP hD hS hl
          rw [fR_draw_L99] at hf
          refine lv_iload hx hb d_R_draw_99 (lv_at hl 1 rfl) ?_
          refine lv_aload_n hx hb d_R_draw_101 rfl (lv_at hl 0 rfl) ?_
          refine vg_R_count (v := .int K_count) hx hb hts hown hK hP 7 rfl (hts _ tb_65) rfl d_R_draw_102 ?_
          refine lv_icmp_ge (tgt := 120) hx hb d_R_draw_105 (by decide) (fun c_105 => ?_) (fun c_105 => ?_)
          · have hf := og_t hf c_105
            exact k99_120 R_reached R_shortest _ _ _ hf hP hD hS (lv_sub hl [] rfl)
          · have hf := og_f hf c_105
            refine lv_aload_n hx hb d_R_draw_108 rfl (lv_at hl 0 rfl) ?_
            refine lv_iload hx hb d_R_draw_109 (lv_at hl 1 rfl) ?_
            obtain ⟨r111, e_111, hf⟩ := og_b hf
            refine og_wVv (w := (wR_draw a k K_count K_rankOf E_count E_from E_to E_configurations E_gone K_count R_asked R_reached R_shortest)) (w2 := (wR_draw a k K_count K_rankOf E_count E_from E_to E_configurations E_gone K_count R_asked r111.1 r111.2)) (As := [.int v4]) (rest := []) (ci := 3) (q0 := 0) ⟨hx, hb, hml, hown, hts⟩ (c_R_follow l dC dI a k _ K_count R_asked R_reached R_shortest v4 r111 e_111) (cwV 1 hts (og_gV tb_75 tb_76 tb_77 tb_61 tb_78) rfl rfl rfl (by decide +kernel) ⟨Nat.le_of_ble_eq_true rfl, Nat.le_of_ble_eq_true rfl⟩) hK hP hD hS hA [7, 8, 9, 10] [5, 6, 7] ⟨rfl, rfl, rfl, rfl, trivial⟩ rfl [(false, 0), (false, 1), (false, 2), (false, 3), (false, 4), (false, 5), (false, 6), (true, 0), (true, 1), (true, 2), (true, 3)] ⟨rfl, rfl, rfl, rfl, rfl, rfl, rfl, rfl, rfl, rfl, rfl, rfl, rfl, rfl, rfl, rfl, rfl, rfl, trivial⟩ ⟨rfl, rfl, rfl, rfl, rfl, rfl, rfl, rfl, rfl, rfl, rfl, trivial⟩ (by decide) rfl rfl rfl rfl hl.1 rfl (Nat.le_of_ble_eq_true rfl) d_R_draw_111 ⟨Nat.zero_le _, Nat.zero_le _⟩ (fun H locs hP hD hS => ?_)
            refine lv_iinc (v := (v4 + 1)) (lv' := [(4, .int (v4 + 1)), (0, .ref (a 11))]) hx hb d_R_draw_114 hl (k := 1) rfl rfl (by decide) rfl (fun ls hl => ?_)
            refine lv_goto (tgt := 99) hx hb d_R_draw_117 (by decide) ?_
            exact ih99 (v4 + 1) r111.1 r111.2 _ _ _ hf hP hD hS (lv_sub hl [1, 0] rfl)
      exact lp99 FU 0 R_reached R_shortest _ _ _ hf hP hD hS (lv_sub hl [1, 0] rfl)
    have lp37 : ∀ (n37 : Nat) (v4 : Int32) (R_asked : (Nat → Int64)) (H : Heap) (locs : List Loc) (ls : Array Slot), fR_draw_L37 (fR_draw_K37_96 K_count R_reached R_shortest) K_rankOf E_count E_from E_to E_configurations E_gone p3 n37 v4 R_asked = some y → va_P (dC, dI) vwCl (wR_draw a k K_count K_rankOf E_count E_from E_to E_configurations E_gone K_count R_asked R_reached R_shortest) H → va_D A (wR_draw a k K_count K_rankOf E_count E_from E_to E_configurations E_gone K_count R_asked R_reached R_shortest) → va_S A s.heap H locs → lv_has ls 5 [(0, .ref (a 11)), (1, .ref (a 1)), (2, .ref (a 5)), (3, .int p3), (4, .int v4)] → W p l e (headSpec ws_R_draw { frames := 4, cells := 0, slots := 0, locals := 95 }).room s m ([.ref (a 11), .ref (a 1), .ref (a 5), .int p3] : List Value).toArray below meth c H locs 0 0 (MQ below (og_Qv (dC, dI) (wR_draw a k K_count K_rankOf E_count E_from E_to E_configurations E_gone y.1 y.2.1 y.2.2.1 y.2.2.2) (tR_draw k) A) ([.ref (a 11), .ref (a 1), .ref (a 5), .int p3] : List Value).toArray s 0 0 A) (F0 m 37 ls []) := by
      intro n37
      induction n37 with
      | zero => intro v4 R_asked H locs ls hf hP hD hS hl; rw [fR_draw_L37] at hf; cases hf
      | succ n37 ih37 =>
        intro v4 R_asked H locs ls hf hP hD hS hl
        rw [fR_draw_L37] at hf
        refine lv_iload hx hb d_R_draw_37 (lv_at hl 4 rfl) ?_
        refine lv_aload_n hx hb d_R_draw_39 rfl (lv_at hl 2 rfl) ?_
        refine vg_E_count (v := .int E_count) hx hb hts hown hK hP 2 rfl (hts _ tb_79) rfl d_R_draw_40 ?_
        refine lv_icmp_ge (tgt := 96) hx hb d_R_draw_43 (by decide) (fun c_43 => ?_) (fun c_43 => ?_)
        · have hf := og_t hf c_43
          exact k37_96 R_asked _ _ _ hf hP hD hS (lv_sub hl [0] rfl)
        · have hf := og_f hf c_43
          refine lv_aload_n hx hb d_R_draw_46 rfl (lv_at hl 2 rfl) ?_
          refine lv_iload hx hb d_R_draw_47 (lv_at hl 4 rfl) ?_
          refine lv_iload_n hx hb d_R_draw_49 rfl (lv_at hl 3 rfl) ?_
          obtain ⟨r50, e_50, hf⟩ := og_b hf
          refine og_rV (w := (wR_draw a k K_count K_rankOf E_count E_from E_to E_configurations E_gone K_count R_asked R_reached R_shortest)) (As := [.int v4, .int p3]) (rest := []) (ci := 2) (q0 := 0) ⟨hx, hb, hml, hown, hts⟩ (c_E_isIn l dC dI a k E_count E_configurations E_gone v4 p3 r50 e_50) (cwV 2 hts (og_gV tb_80 tb_81 tb_82 tb_31 tb_83) rfl rfl rfl (by decide +kernel) ⟨Nat.le_of_ble_eq_true rfl, Nat.le_of_ble_eq_true rfl⟩) hK hP [2, 5, 6] [3, 4] ⟨rfl, rfl, rfl, trivial⟩ rfl rfl rfl rfl rfl hl.1 rfl (Nat.le_of_ble_eq_true rfl) d_R_draw_50 ⟨Nat.zero_le _, Nat.zero_le _⟩ ?_
          refine lv_if_eq (tgt := 90) hx hb d_R_draw_53 (by decide) (fun c_53 => ?_) (fun c_53 => ?_)
          · have hf := og_t hf c_53
            refine lv_iinc (v := (v4 + 1)) (lv' := [(4, .int (v4 + 1)), (0, .ref (a 11)), (1, .ref (a 1)), (2, .ref (a 5)), (3, .int p3)]) hx hb d_R_draw_90 hl (k := 4) rfl rfl (by decide) rfl (fun ls hl => ?_)
            refine lv_goto (tgt := 37) hx hb d_R_draw_93 (by decide) ?_
            exact ih37 (v4 + 1) R_asked _ _ _ hf hP hD hS (lv_sub hl [1, 2, 3, 4, 0] rfl)
          · have hf := og_f hf c_53
            refine lv_aload_n hx hb d_R_draw_56 rfl (lv_at hl 0 rfl) ?_
            refine vg_R_asked (v := .ref (a 12)) hx hb hts hown hK hP 7 rfl (hts _ tb_58) rfl d_R_draw_57 ?_
            refine lv_aload_n hx hb d_R_draw_60 rfl (lv_at hl 1 rfl) ?_
            refine vg_K_rankOf (v := .ref (a 4)) hx hb hts hown hK hP 0 rfl (hts _ tb_84) rfl d_R_draw_61 ?_
            refine lv_aload_n hx hb d_R_draw_64 rfl (lv_at hl 2 rfl) ?_
            refine vg_E_from (v := .ref (a 6)) hx hb hts hown hK hP 2 rfl (hts _ tb_85) rfl d_R_draw_65 ?_
            refine lv_iload hx hb d_R_draw_68 (lv_at hl 4 rfl) ?_
            obtain ⟨h_70, hf⟩ := og_ck_s hf
            refine va_iald hx hb hK hP 3 1 rfl rfl h_70 d_R_draw_70 ?_
            obtain ⟨h_71, hf⟩ := og_ck_s hf
            refine va_iald hx hb hK hP 1 0 rfl rfl h_71 d_R_draw_71 ?_
            refine lv_dup2_11 hx hb d_R_draw_72 rfl rfl ?_
            obtain ⟨h_73, hf⟩ := og_ck_s hf
            refine va_lald hx hb hK hP 8 5 rfl rfl h_73 d_R_draw_73 ?_
            refine lv_lconst (v := 1) hx hb d_R_draw_74 (by decide) ?_
            refine lv_aload_n hx hb d_R_draw_75 rfl (lv_at hl 1 rfl) ?_
            refine vg_K_rankOf (v := .ref (a 4)) hx hb hts hown hK hP 0 rfl (hts _ tb_84) rfl d_R_draw_76 ?_
            refine lv_aload_n hx hb d_R_draw_79 rfl (lv_at hl 2 rfl) ?_
            refine vg_E_to (v := .ref (a 7)) hx hb hts hown hK hP 2 rfl (hts _ tb_86) rfl d_R_draw_80 ?_
            refine lv_iload hx hb d_R_draw_83 (lv_at hl 4 rfl) ?_
            obtain ⟨h_85, hf⟩ := og_ck_s hf
            refine va_iald hx hb hK hP 4 2 rfl rfl h_85 d_R_draw_85 ?_
            obtain ⟨h_86, hf⟩ := og_ck_s hf
            refine va_iald hx hb hK hP 1 0 rfl rfl h_86 d_R_draw_86 ?_
            refine lv_lshl hx hb d_R_draw_87 rfl ?_
            refine lv_lor hx hb d_R_draw_88 ?_
            obtain ⟨h_89, hf⟩ := og_ck_s hf
            refine va_last hx hb hK hP hD hS 8 5 rfl rfl h_89 d_R_draw_89 (fun H locs hP hD hS => ?_)
            have hP : va_P (dC, dI) vwCl (wR_draw a k K_count K_rankOf E_count E_from E_to E_configurations E_gone K_count (vp_updL R_asked (K_rankOf (E_from v4.toNatClampNeg).toNatClampNeg).toNatClampNeg ((R_asked (K_rankOf (E_from v4.toNatClampNeg).toNatClampNeg).toNatClampNeg) ||| ((1 : Int64) <<< ((K_rankOf (E_to v4.toNatClampNeg).toNatClampNeg).toInt64 &&& 63)))) R_reached R_shortest) H := hP
            have hD : va_D A (wR_draw a k K_count K_rankOf E_count E_from E_to E_configurations E_gone K_count (vp_updL R_asked (K_rankOf (E_from v4.toNatClampNeg).toNatClampNeg).toNatClampNeg ((R_asked (K_rankOf (E_from v4.toNatClampNeg).toNatClampNeg).toNatClampNeg) ||| ((1 : Int64) <<< ((K_rankOf (E_to v4.toNatClampNeg).toNatClampNeg).toInt64 &&& 63)))) R_reached R_shortest) := hD
            refine lv_iinc (v := (v4 + 1)) (lv' := [(4, .int (v4 + 1)), (0, .ref (a 11)), (1, .ref (a 1)), (2, .ref (a 5)), (3, .int p3)]) hx hb d_R_draw_90 hl (k := 4) rfl rfl (by decide) rfl (fun ls hl => ?_)
            refine lv_goto (tgt := 37) hx hb d_R_draw_93 (by decide) ?_
            exact ih37 (v4 + 1) (vp_updL R_asked (K_rankOf (E_from v4.toNatClampNeg).toNatClampNeg).toNatClampNeg ((R_asked (K_rankOf (E_from v4.toNatClampNeg).toNatClampNeg).toNatClampNeg) ||| ((1 : Int64) <<< ((K_rankOf (E_to v4.toNatClampNeg).toNatClampNeg).toInt64 &&& 63)))) _ _ _ hf hP hD hS (lv_sub hl [1, 2, 3, 4, 0] rfl)
    exact lp37 FU 0 R_asked _ _ _ hf hP hD hS (lv_sub hl [1, 2, 3, 4, 0] rfl)
  have lp11 : ∀ (n11 : Nat) (v4 : Int32) (R_asked : (Nat → Int64)) (H : Heap) (locs : List Loc) (ls : Array Slot), fR_draw_L11 (fR_draw_K11_34 K_rankOf E_count E_from E_to E_configurations E_gone K_count R_reached R_shortest p3) K_count n11 v4 R_asked = some y → va_P (dC, dI) vwCl (wR_draw a k K_count K_rankOf E_count E_from E_to E_configurations E_gone K_count R_asked R_reached R_shortest) H → va_D A (wR_draw a k K_count K_rankOf E_count E_from E_to E_configurations E_gone K_count R_asked R_reached R_shortest) → va_S A s.heap H locs → lv_has ls 5 [(0, .ref (a 11)), (1, .ref (a 1)), (2, .ref (a 5)), (3, .int p3), (4, .int v4)] → W p l e (headSpec ws_R_draw { frames := 4, cells := 0, slots := 0, locals := 95 }).room s m ([.ref (a 11), .ref (a 1), .ref (a 5), .int p3] : List Value).toArray below meth c H locs 0 0 (MQ below (og_Qv (dC, dI) (wR_draw a k K_count K_rankOf E_count E_from E_to E_configurations E_gone y.1 y.2.1 y.2.2.1 y.2.2.2) (tR_draw k) A) ([.ref (a 11), .ref (a 1), .ref (a 5), .int p3] : List Value).toArray s 0 0 A) (F0 m 11 ls []) := by
    intro n11
    induction n11 with
    | zero => intro v4 R_asked H locs ls hf hP hD hS hl; rw [fR_draw_L11] at hf; cases hf
    | succ n11 ih11 =>
      intro v4 R_asked H locs ls hf hP hD hS hl
      rw [fR_draw_L11] at hf
      refine lv_iload hx hb d_R_draw_11 (lv_at hl 4 rfl) ?_
      refine lv_aload_n hx hb d_R_draw_13 rfl (lv_at hl 0 rfl) ?_
      refine vg_R_count (v := .int K_count) hx hb hts hown hK hP 7 rfl (hts _ tb_65) rfl d_R_draw_14 ?_
      refine lv_icmp_ge (tgt := 34) hx hb d_R_draw_17 (by decide) (fun c_17 => ?_) (fun c_17 => ?_)
      · have hf := og_t hf c_17
        exact k11_34 R_asked _ _ _ hf hP hD hS (lv_sub hl [0, 1, 2, 3] rfl)
      · have hf := og_f hf c_17
        refine lv_aload_n hx hb d_R_draw_20 rfl (lv_at hl 0 rfl) ?_
        refine vg_R_asked (v := .ref (a 12)) hx hb hts hown hK hP 7 rfl (hts _ tb_58) rfl d_R_draw_21 ?_
        refine lv_iload hx hb d_R_draw_24 (lv_at hl 4 rfl) ?_
        refine lv_lconst (v := 0) hx hb d_R_draw_26 (by decide) ?_
        obtain ⟨h_27, hf⟩ := og_ck_s hf
        refine va_last hx hb hK hP hD hS 8 5 rfl rfl h_27 d_R_draw_27 (fun H locs hP hD hS => ?_)
        have hP : va_P (dC, dI) vwCl (wR_draw a k K_count K_rankOf E_count E_from E_to E_configurations E_gone K_count (vp_updL R_asked v4.toNatClampNeg 0) R_reached R_shortest) H := hP
        have hD : va_D A (wR_draw a k K_count K_rankOf E_count E_from E_to E_configurations E_gone K_count (vp_updL R_asked v4.toNatClampNeg 0) R_reached R_shortest) := hD
        refine lv_iinc (v := (v4 + 1)) (lv' := [(4, .int (v4 + 1)), (0, .ref (a 11)), (1, .ref (a 1)), (2, .ref (a 5)), (3, .int p3)]) hx hb d_R_draw_28 hl (k := 4) rfl rfl (by decide) rfl (fun ls hl => ?_)
        refine lv_goto (tgt := 11) hx hb d_R_draw_31 (by decide) ?_
        exact ih11 (v4 + 1) (vp_updL R_asked v4.toNatClampNeg 0) _ _ _ hf hP hD hS (lv_sub hl [1, 2, 3, 4, 0] rfl)
  exact lp11 FU 0 R_asked _ _ _ hf hP hD hS (lv_sub hl [1, 2, 3, 4, 0] rfl)
def wR_shortestRing (a : Nat → Nat) (k : Nat → ClassId) (R_count : Int32) (R_shortest : (Nat → Int32)) : va_W := [(a 11, .inr (3, [.int R_count, .ref (a 12), .ref (a 13), .ref (a 14), .ref (a 15)])), (a 14, .inl (k 14, 40, .inl R_shortest))]
def tR_shortestRing (k : Nat → ClassId) : List (ClassId × FieldType) := [(k 14, .int)]
set_option maxHeartbeats 4000000 in
set_option maxRecDepth 100000 in
theorem c_R_shortestRing (l : Launch) (dC : Nat → ClassId) (dI : Nat → Nat → Nat) (a : Nat → Nat) (k : Nat → ClassId) (R_count : Int32) (R_shortest : (Nat → Int32)) (p1 : Int32) (y : Int32) (hf : fR_shortestRing R_shortest p1 = some y) : Met l y_R_shortestRing ws_R_shortestRing ({ frames := 0, cells := 0, slots := 0, locals := 0 }) (og_Pr [.ref (a 11), .int p1] (dC, dI) (wR_shortestRing a k R_count R_shortest) (tR_shortestRing k)) (vp_Si (fun x => x = y)) 0 0 (fun _ => False) := by
  refine Met.ofW (cc := b_R_shortestRing) (maxL := 2) (ret := (some .int)) (by decide) rfl ?_
  intro p e s m args below meth c s₁ B hml hv
  obtain ⟨rfl, hP, hK⟩ := hv
  have hx := B.exec
  have hb := B.bytes
  have hr := B.returns
  have hts0 := atoms_spec (ws := ws_R_shortestRing) B.pre
  have hts : ∀ w ∈ og_tb, w.before _ s = true := fun w h => hts0 w (List.mem_cons_of_mem _ h)
  have hown : s.vm.findClass R_R = some m.cls := findClass_of_methodNamed B.named
  have hlocks := B.notSynchronized
  have hl := lv_entry ([.ref (a 11), .int p1]) (n := 2) (Nat.le_of_ble_eq_true rfl)
  rw [lg_entry_eq]
  generalize (lg_sl ([.ref (a 11), .int p1]) ++ List.replicate (2 - (lg_sl ([.ref (a 11), .int p1])).length) Slot.unset).toArray = ls at hl ⊢
  have hl : lv_has ls 2 [(0, .ref (a 11)), (1, .int p1)] := hl
  rw [fR_shortestRing] at hf
  refine lv_aload_n hx hb d_R_shortestRing_0 rfl (lv_at hl 0 rfl) ?_
  refine vg_R_shortest (v := .ref (a 14)) hx hb hts hown hK hP 0 rfl (hts _ tb_63) rfl d_R_shortestRing_1 ?_
  refine lv_iload_n hx hb d_R_shortestRing_4 rfl (lv_at hl 1 rfl) ?_
  obtain ⟨h_5, hf⟩ := og_ck_s hf
  refine va_iald hx hb hK hP 1 0 rfl rfl h_5 d_R_shortestRing_5 ?_
  obtain rfl := Option.some.inj hf
  exact W.iret (v := (R_shortest p1.toNatClampNeg)) hx hb hr (fun t ht hW => ⟨(R_shortest p1.toNatClampNeg), rfl, rfl, ht⟩) (fun _ h => absurd h List.not_mem_nil) d_R_shortestRing_6
def wR_reachesRinged (a : Nat → Nat) (k : Nat → ClassId) (R_count : Int32) (R_reached : (Nat → Int64)) (R_shortest : (Nat → Int32)) : va_W := [(a 11, .inr (3, [.int R_count, .ref (a 12), .ref (a 13), .ref (a 14), .ref (a 15)])), (a 13, .inl (k 13, 40, .inr (.inl R_reached))), (a 14, .inl (k 14, 40, .inl R_shortest))]
def tR_reachesRinged (k : Nat → ClassId) : List (ClassId × FieldType) := [(k 13, .long), (k 14, .int)]
set_option maxHeartbeats 4000000 in
set_option maxRecDepth 100000 in
theorem c_R_reachesRinged (l : Launch) (dC : Nat → ClassId) (dI : Nat → Nat → Nat) (a : Nat → Nat) (k : Nat → ClassId) (R_count : Int32) (R_reached : (Nat → Int64)) (R_shortest : (Nat → Int32)) (p1 : Int32) (y : Int32) (hf : fR_reachesRinged R_count R_reached R_shortest p1 = some y) : Met l y_R_reachesRinged ws_R_reachesRinged ({ frames := 1, cells := 0, slots := 0, locals := 22 }) (og_Pr [.ref (a 11), .int p1] (dC, dI) (wR_reachesRinged a k R_count R_reached R_shortest) (tR_reachesRinged k)) (vp_Si (fun x => x = y)) 0 0 (fun _ => False) := by
  refine Met.ofW (cc := b_R_reachesRinged) (maxL := 3) (ret := (some .boolean)) (by decide) rfl ?_
  intro p e s m args below meth c s₁ B hml hv
  obtain ⟨rfl, hP, hK⟩ := hv
  have hx := B.exec
  have hb := B.bytes
  have hr := B.returns
  have hts0 := atoms_spec (ws := ws_R_reachesRinged) B.pre
  have hts : ∀ w ∈ og_tb, w.before _ s = true := fun w h => hts0 w (List.mem_cons_of_mem _ h)
  have hown : s.vm.findClass R_R = some m.cls := findClass_of_methodNamed B.named
  have hlocks := B.notSynchronized
  have hl := lv_entry ([.ref (a 11), .int p1]) (n := 3) (Nat.le_of_ble_eq_true rfl)
  rw [lg_entry_eq]
  generalize (lg_sl ([.ref (a 11), .int p1]) ++ List.replicate (3 - (lg_sl ([.ref (a 11), .int p1])).length) Slot.unset).toArray = ls at hl ⊢
  have hl : lv_has ls 3 [(0, .ref (a 11)), (1, .int p1)] := hl
  rw [fR_reachesRinged] at hf
  refine lv_iconst (v := 0) hx hb d_R_reachesRinged_0 (by decide) ?_
  refine lv_istore_n (lv' := [(2, .int 0), (0, .ref (a 11)), (1, .int p1)]) hx hb d_R_reachesRinged_1 rfl hl (by decide) rfl (fun ls hl => ?_)
  have k2_40 : ∀ (ls : Array Slot), fR_reachesRinged_K2_40 = some y → lv_has ls 3 [] → W p l e (headSpec ws_R_reachesRinged { frames := 1, cells := 0, slots := 0, locals := 22 }).room s m ([.ref (a 11), .int p1] : List Value).toArray below meth c s.heap [] 0 0 (MQ below (vp_Si (fun x => x = y)) ([.ref (a 11), .int p1] : List Value).toArray s 0 0 (fun _ => False)) (F0 m 40 ls []) := by
    intro  ls hf hl
    rw [fR_reachesRinged_K2_40] at hf
    refine lv_iconst (v := 0) hx hb d_R_reachesRinged_40 (by decide) ?_
    obtain rfl := Option.some.inj hf
    exact W.zret (v := 0) hx hb hr rfl (fun t ht hW => ⟨0, rfl, rfl, ht⟩) (fun _ h => absurd h List.not_mem_nil) d_R_reachesRinged_41
  have lp2 : ∀ (n2 : Nat) (v2 : Int32) (ls : Array Slot), fR_reachesRinged_L2 fR_reachesRinged_K2_40 R_count R_reached R_shortest p1 n2 v2 = some y → lv_has ls 3 [(0, .ref (a 11)), (1, .int p1), (2, .int v2)] → W p l e (headSpec ws_R_reachesRinged { frames := 1, cells := 0, slots := 0, locals := 22 }).room s m ([.ref (a 11), .int p1] : List Value).toArray below meth c s.heap [] 0 0 (MQ below (vp_Si (fun x => x = y)) ([.ref (a 11), .int p1] : List Value).toArray s 0 0 (fun _ => False)) (F0 m 2 ls []) := by
    intro n2
    induction n2 with
    | zero => intro v2 ls hf hl; rw [fR_reachesRinged_L2] at hf; cases hf
    | succ n2 ih2 =>
      intro v2 ls hf hl
      rw [fR_reachesRinged_L2] at hf
      refine lv_iload_n hx hb d_R_reachesRinged_2 rfl (lv_at hl 2 rfl) ?_
      refine lv_aload_n hx hb d_R_reachesRinged_3 rfl (lv_at hl 0 rfl) ?_
      refine vg_R_count (v := .int R_count) hx hb hts hown hK hP 0 rfl (hts _ tb_65) rfl d_R_reachesRinged_4 ?_
      refine lv_icmp_ge (tgt := 40) hx hb d_R_reachesRinged_7 (by decide) (fun c_7 => ?_) (fun c_7 => ?_)
      · have hf := og_t hf c_7
        exact k2_40  _ hf (lv_sub hl [] rfl)
      · have hf := og_f hf c_7
        refine lv_aload_n hx hb d_R_reachesRinged_10 rfl (lv_at hl 0 rfl) ?_
        refine vg_R_shortest (v := .ref (a 14)) hx hb hts hown hK hP 0 rfl (hts _ tb_63) rfl d_R_reachesRinged_11 ?_
        refine lv_iload_n hx hb d_R_reachesRinged_14 rfl (lv_at hl 2 rfl) ?_
        obtain ⟨h_15, hf⟩ := og_ck_s hf
        refine va_iald hx hb hK hP 2 1 rfl rfl h_15 d_R_reachesRinged_15 ?_
        refine lv_if_le (tgt := 34) hx hb d_R_reachesRinged_16 (by decide) (fun c_16 => ?_) (fun c_16 => ?_)
        · have hf := og_t hf c_16
          refine lv_iinc (v := (v2 + 1)) (lv' := [(2, .int (v2 + 1)), (0, .ref (a 11)), (1, .int p1)]) hx hb d_R_reachesRinged_34 hl (k := 2) rfl rfl (by decide) rfl (fun ls hl => ?_)
          refine lv_goto (tgt := 2) hx hb d_R_reachesRinged_37 (by decide) ?_
          exact ih2 (v2 + 1) _ hf (lv_sub hl [1, 2, 0] rfl)
        · have hf := og_f hf c_16
          refine lv_aload_n hx hb d_R_reachesRinged_19 rfl (lv_at hl 0 rfl) ?_
          refine vg_R_reached (v := .ref (a 13)) hx hb hts hown hK hP 0 rfl (hts _ tb_64) rfl d_R_reachesRinged_20 ?_
          refine lv_iload_n hx hb d_R_reachesRinged_23 rfl (lv_at hl 1 rfl) ?_
          obtain ⟨h_24, hf⟩ := og_ck_s hf
          refine va_lald hx hb hK hP 1 0 rfl rfl h_24 d_R_reachesRinged_24 ?_
          refine lv_iload_n hx hb d_R_reachesRinged_25 rfl (lv_at hl 2 rfl) ?_
          obtain ⟨r26, e_26, hf⟩ := og_b hf
          refine og_rS (w := (wR_reachesRinged a k R_count R_reached R_shortest)) (As := [.long (R_reached p1.toNatClampNeg), .int v2]) (rest := []) ⟨hx, hb, hml, hown, hts⟩ (c_R_contains l dC dI a k (R_reached p1.toNatClampNeg) v2 r26 e_26) (va_cwS 2 hts (og_gS tb_66 tb_67 tb_61 tb_68) rfl rfl rfl (by decide +kernel) ⟨Nat.le_of_ble_eq_true rfl, Nat.le_of_ble_eq_true rfl⟩) hK hP [] [] trivial rfl rfl hl.1 rfl (Nat.le_of_ble_eq_true rfl) d_R_reachesRinged_26 ⟨Nat.zero_le _, Nat.zero_le _⟩ ?_
          refine lv_if_eq (tgt := 34) hx hb d_R_reachesRinged_29 (by decide) (fun c_29 => ?_) (fun c_29 => ?_)
          · have hf := og_t hf c_29
            refine lv_iinc (v := (v2 + 1)) (lv' := [(2, .int (v2 + 1)), (0, .ref (a 11)), (1, .int p1)]) hx hb d_R_reachesRinged_34 hl (k := 2) rfl rfl (by decide) rfl (fun ls hl => ?_)
            refine lv_goto (tgt := 2) hx hb d_R_reachesRinged_37 (by decide) ?_
            exact ih2 (v2 + 1) _ hf (lv_sub hl [1, 2, 0] rfl)
          · have hf := og_f hf c_29
            refine lv_iconst (v := 1) hx hb d_R_reachesRinged_32 (by decide) ?_
            obtain rfl := Option.some.inj hf
            exact W.zret (v := 1) hx hb hr rfl (fun t ht hW => ⟨1, rfl, rfl, ht⟩) (fun _ h => absurd h List.not_mem_nil) d_R_reachesRinged_33
  exact lp2 FU 0 _ hf (lv_sub hl [1, 2, 0] rfl)
def wR_reachEachOther (a : Nat → Nat) (k : Nat → ClassId) (R_count : Int32) (R_reached : (Nat → Int64)) : va_W := [(a 11, .inr (3, [.int R_count, .ref (a 12), .ref (a 13), .ref (a 14), .ref (a 15)])), (a 13, .inl (k 13, 40, .inr (.inl R_reached)))]
def tR_reachEachOther (k : Nat → ClassId) : List (ClassId × FieldType) := [(k 13, .long)]
set_option maxHeartbeats 4000000 in
set_option maxRecDepth 100000 in
theorem c_R_reachEachOther (l : Launch) (dC : Nat → ClassId) (dI : Nat → Nat → Nat) (a : Nat → Nat) (k : Nat → ClassId) (R_count : Int32) (R_reached : (Nat → Int64)) (p1 : Int32) (p2 : Int32) (y : Int32) (hf : fR_reachEachOther R_reached p1 p2 = some y) : Met l y_R_reachEachOther ws_R_reachEachOther ({ frames := 1, cells := 0, slots := 0, locals := 22 }) (og_Pr [.ref (a 11), .int p1, .int p2] (dC, dI) (wR_reachEachOther a k R_count R_reached) (tR_reachEachOther k)) (vp_Si (fun x => x = y)) 0 0 (fun _ => False) := by
  refine Met.ofW (cc := b_R_reachEachOther) (maxL := 3) (ret := (some .boolean)) (by decide) rfl ?_
  intro p e s m args below meth c s₁ B hml hv
  obtain ⟨rfl, hP, hK⟩ := hv
  have hx := B.exec
  have hb := B.bytes
  have hr := B.returns
  have hts0 := atoms_spec (ws := ws_R_reachEachOther) B.pre
  have hts : ∀ w ∈ og_tb, w.before _ s = true := fun w h => hts0 w (List.mem_cons_of_mem _ h)
  have hown : s.vm.findClass R_R = some m.cls := findClass_of_methodNamed B.named
  have hlocks := B.notSynchronized
  have hl := lv_entry ([.ref (a 11), .int p1, .int p2]) (n := 3) (Nat.le_of_ble_eq_true rfl)
  rw [lg_entry_eq]
  generalize (lg_sl ([.ref (a 11), .int p1, .int p2]) ++ List.replicate (3 - (lg_sl ([.ref (a 11), .int p1, .int p2])).length) Slot.unset).toArray = ls at hl ⊢
  have hl : lv_has ls 3 [(0, .ref (a 11)), (1, .int p1), (2, .int p2)] := hl
  rw [fR_reachEachOther] at hf
  refine lv_aload_n hx hb d_R_reachEachOther_0 rfl (lv_at hl 0 rfl) ?_
  refine vg_R_reached (v := .ref (a 13)) hx hb hts hown hK hP 0 rfl (hts _ tb_64) rfl d_R_reachEachOther_1 ?_
  refine lv_iload_n hx hb d_R_reachEachOther_4 rfl (lv_at hl 1 rfl) ?_
  obtain ⟨h_5, hf⟩ := og_ck_s hf
  refine va_lald hx hb hK hP 1 0 rfl rfl h_5 d_R_reachEachOther_5 ?_
  refine lv_iload_n hx hb d_R_reachEachOther_6 rfl (lv_at hl 2 rfl) ?_
  obtain ⟨r7, e_7, hf⟩ := og_b hf
  refine og_rS (w := (wR_reachEachOther a k R_count R_reached)) (As := [.long (R_reached p1.toNatClampNeg), .int p2]) (rest := []) ⟨hx, hb, hml, hown, hts⟩ (c_R_contains l dC dI a k (R_reached p1.toNatClampNeg) p2 r7 e_7) (va_cwS 2 hts (og_gS tb_66 tb_67 tb_61 tb_68) rfl rfl rfl (by decide +kernel) ⟨Nat.le_of_ble_eq_true rfl, Nat.le_of_ble_eq_true rfl⟩) hK hP [] [] trivial rfl rfl hl.1 rfl (Nat.le_of_ble_eq_true rfl) d_R_reachEachOther_7 ⟨Nat.zero_le _, Nat.zero_le _⟩ ?_
  refine lv_if_eq (tgt := 30) hx hb d_R_reachEachOther_10 (by decide) (fun c_10 => ?_) (fun c_10 => ?_)
  · have hf := og_t hf c_10
    refine lv_iconst (v := 0) hx hb d_R_reachEachOther_30 (by decide) ?_
    obtain rfl := Option.some.inj hf
    exact W.zret (v := 0) hx hb hr rfl (fun t ht hW => ⟨0, rfl, rfl, ht⟩) (fun _ h => absurd h List.not_mem_nil) d_R_reachEachOther_31
  · have hf := og_f hf c_10
    refine lv_aload_n hx hb d_R_reachEachOther_13 rfl (lv_at hl 0 rfl) ?_
    refine vg_R_reached (v := .ref (a 13)) hx hb hts hown hK hP 0 rfl (hts _ tb_64) rfl d_R_reachEachOther_14 ?_
    refine lv_iload_n hx hb d_R_reachEachOther_17 rfl (lv_at hl 2 rfl) ?_
    obtain ⟨h_18, hf⟩ := og_ck_s hf
    refine va_lald hx hb hK hP 1 0 rfl rfl h_18 d_R_reachEachOther_18 ?_
    refine lv_iload_n hx hb d_R_reachEachOther_19 rfl (lv_at hl 1 rfl) ?_
    obtain ⟨r20, e_20, hf⟩ := og_b hf
    refine og_rS (w := (wR_reachEachOther a k R_count R_reached)) (As := [.long (R_reached p2.toNatClampNeg), .int p1]) (rest := []) ⟨hx, hb, hml, hown, hts⟩ (c_R_contains l dC dI a k (R_reached p2.toNatClampNeg) p1 r20 e_20) (va_cwS 2 hts (og_gS tb_66 tb_67 tb_61 tb_68) rfl rfl rfl (by decide +kernel) ⟨Nat.le_of_ble_eq_true rfl, Nat.le_of_ble_eq_true rfl⟩) hK hP [] [] trivial rfl rfl hl.1 rfl (Nat.le_of_ble_eq_true rfl) d_R_reachEachOther_20 ⟨Nat.zero_le _, Nat.zero_le _⟩ ?_
    refine lv_if_eq (tgt := 30) hx hb d_R_reachEachOther_23 (by decide) (fun c_23 => ?_) (fun c_23 => ?_)
    · have hf := og_t hf c_23
      refine lv_iconst (v := 0) hx hb d_R_reachEachOther_30 (by decide) ?_
      obtain rfl := Option.some.inj hf
      exact W.zret (v := 0) hx hb hr rfl (fun t ht hW => ⟨0, rfl, rfl, ht⟩) (fun _ h => absurd h List.not_mem_nil) d_R_reachEachOther_31
    · have hf := og_f hf c_23
      refine lv_iconst (v := 1) hx hb d_R_reachEachOther_26 (by decide) ?_
      refine lv_goto (tgt := 31) hx hb d_R_reachEachOther_27 (by decide) ?_
      obtain rfl := Option.some.inj hf
      exact W.zret (v := 1) hx hb hr rfl (fun t ht hW => ⟨1, rfl, rfl, ht⟩) (fun _ h => absurd h List.not_mem_nil) d_R_reachEachOther_31
def wR_askersOf (a : Nat → Nat) (k : Nat → ClassId) (R_count : Int32) (R_asked : (Nat → Int64)) : va_W := [(a 11, .inr (3, [.int R_count, .ref (a 12), .ref (a 13), .ref (a 14), .ref (a 15)])), (a 12, .inl (k 12, 40, .inr (.inl R_asked)))]
def tR_askersOf (k : Nat → ClassId) : List (ClassId × FieldType) := [(k 12, .long)]
set_option maxHeartbeats 4000000 in
set_option maxRecDepth 100000 in
theorem c_R_askersOf (l : Launch) (dC : Nat → ClassId) (dI : Nat → Nat → Nat) (a : Nat → Nat) (k : Nat → ClassId) (R_count : Int32) (R_asked : (Nat → Int64)) (p1 : Int64) (y : Int64) (hf : fR_askersOf R_count R_asked p1 = some y) : Met l y_R_askersOf ws_R_askersOf ({ frames := 0, cells := 0, slots := 0, locals := 0 }) (og_Pr [.ref (a 11), .long p1] (dC, dI) (wR_askersOf a k R_count R_asked) (tR_askersOf k)) (vp_Sl (fun x => x = y)) 0 0 (fun _ => False) := by
  refine Met.ofW (cc := b_R_askersOf) (maxL := 6) (ret := (some .long)) (by decide) rfl ?_
  intro p e s m args below meth c s₁ B hml hv
  obtain ⟨rfl, hP, hK⟩ := hv
  have hx := B.exec
  have hb := B.bytes
  have hr := B.returns
  have hts0 := atoms_spec (ws := ws_R_askersOf) B.pre
  have hts : ∀ w ∈ og_tb, w.before _ s = true := fun w h => hts0 w (List.mem_cons_of_mem _ h)
  have hown : s.vm.findClass R_R = some m.cls := findClass_of_methodNamed B.named
  have hlocks := B.notSynchronized
  have hl := lv_entry ([.ref (a 11), .long p1]) (n := 6) (Nat.le_of_ble_eq_true rfl)
  rw [lg_entry_eq]
  generalize (lg_sl ([.ref (a 11), .long p1]) ++ List.replicate (6 - (lg_sl ([.ref (a 11), .long p1])).length) Slot.unset).toArray = ls at hl ⊢
  have hl : lv_has ls 6 [(0, .ref (a 11)), (1, .long p1)] := hl
  rw [fR_askersOf] at hf
  refine lv_lconst (v := 0) hx hb d_R_askersOf_0 (by decide) ?_
  refine lv_lstore_n (lv' := [(3, .long 0), (0, .ref (a 11)), (1, .long p1)]) hx hb d_R_askersOf_1 rfl hl (by decide) rfl (fun ls hl => ?_)
  refine lv_iconst (v := 0) hx hb d_R_askersOf_2 (by decide) ?_
  refine lv_istore (lv' := [(5, .int 0), (3, .long 0), (0, .ref (a 11)), (1, .long p1)]) hx hb d_R_askersOf_3 hl (by decide) rfl (fun ls hl => ?_)
  have k5_41 : ∀ (v3 : Int64) (ls : Array Slot), fR_askersOf_K5_41 v3 = some y → lv_has ls 6 [(3, .long v3)] → W p l e (headSpec ws_R_askersOf { frames := 0, cells := 0, slots := 0, locals := 0 }).room s m ([.ref (a 11), .long p1] : List Value).toArray below meth c s.heap [] 0 0 (MQ below (vp_Sl (fun x => x = y)) ([.ref (a 11), .long p1] : List Value).toArray s 0 0 (fun _ => False)) (F0 m 41 ls []) := by
    intro v3 ls hf hl
    rw [fR_askersOf_K5_41] at hf
    refine lv_lload_n hx hb d_R_askersOf_41 rfl (lv_at hl 0 rfl) ?_
    obtain rfl := Option.some.inj hf
    exact W.lret (v := v3) hx hb hr (fun t ht hW => ⟨v3, rfl, rfl, ht⟩) (fun _ h => absurd h List.not_mem_nil) d_R_askersOf_42
  have lp5 : ∀ (n5 : Nat) (v3 : Int64) (v5 : Int32) (ls : Array Slot), fR_askersOf_L5 fR_askersOf_K5_41 R_count R_asked p1 n5 v3 v5 = some y → lv_has ls 6 [(0, .ref (a 11)), (1, .long p1), (3, .long v3), (5, .int v5)] → W p l e (headSpec ws_R_askersOf { frames := 0, cells := 0, slots := 0, locals := 0 }).room s m ([.ref (a 11), .long p1] : List Value).toArray below meth c s.heap [] 0 0 (MQ below (vp_Sl (fun x => x = y)) ([.ref (a 11), .long p1] : List Value).toArray s 0 0 (fun _ => False)) (F0 m 5 ls []) := by
    intro n5
    induction n5 with
    | zero => intro v3 v5 ls hf hl; rw [fR_askersOf_L5] at hf; cases hf
    | succ n5 ih5 =>
      intro v3 v5 ls hf hl
      rw [fR_askersOf_L5] at hf
      refine lv_iload hx hb d_R_askersOf_5 (lv_at hl 3 rfl) ?_
      refine lv_aload_n hx hb d_R_askersOf_7 rfl (lv_at hl 0 rfl) ?_
      refine vg_R_count (v := .int R_count) hx hb hts hown hK hP 0 rfl (hts _ tb_65) rfl d_R_askersOf_8 ?_
      refine lv_icmp_ge (tgt := 41) hx hb d_R_askersOf_11 (by decide) (fun c_11 => ?_) (fun c_11 => ?_)
      · have hf := og_t hf c_11
        exact k5_41 v3 _ hf (lv_sub hl [2] rfl)
      · have hf := og_f hf c_11
        refine lv_aload_n hx hb d_R_askersOf_14 rfl (lv_at hl 0 rfl) ?_
        refine vg_R_asked (v := .ref (a 12)) hx hb hts hown hK hP 0 rfl (hts _ tb_58) rfl d_R_askersOf_15 ?_
        refine lv_iload hx hb d_R_askersOf_18 (lv_at hl 3 rfl) ?_
        obtain ⟨h_20, hf⟩ := og_ck_s hf
        refine va_lald hx hb hK hP 1 0 rfl rfl h_20 d_R_askersOf_20 ?_
        refine lv_lload_n hx hb d_R_askersOf_21 rfl (lv_at hl 1 rfl) ?_
        refine lv_land hx hb d_R_askersOf_22 ?_
        refine lv_lconst (v := 0) hx hb d_R_askersOf_23 (by decide) ?_
        refine W.lcmp hx hb d_R_askersOf_24 ?_
        refine lv_if_eq (tgt := 35) hx hb d_R_askersOf_25 (by decide) (fun c_25 => ?_) (fun c_25 => ?_)
        · have hf := og_t hf c_25
          refine lv_iinc (v := (v5 + 1)) (lv' := [(5, .int (v5 + 1)), (0, .ref (a 11)), (1, .long p1), (3, .long v3)]) hx hb d_R_askersOf_35 hl (k := 3) rfl rfl (by decide) rfl (fun ls hl => ?_)
          refine lv_goto (tgt := 5) hx hb d_R_askersOf_38 (by decide) ?_
          exact ih5 v3 (v5 + 1) _ hf (lv_sub hl [1, 2, 3, 0] rfl)
        · have hf := og_f hf c_25
          refine lv_lload_n hx hb d_R_askersOf_28 rfl (lv_at hl 2 rfl) ?_
          refine lv_lconst (v := 1) hx hb d_R_askersOf_29 (by decide) ?_
          refine lv_iload hx hb d_R_askersOf_30 (lv_at hl 3 rfl) ?_
          refine lv_lshl hx hb d_R_askersOf_32 rfl ?_
          refine lv_lor hx hb d_R_askersOf_33 ?_
          refine lv_lstore_n (lv' := [(3, .long (v3 ||| ((1 : Int64) <<< (v5.toInt64 &&& 63)))), (0, .ref (a 11)), (1, .long p1), (5, .int v5)]) hx hb d_R_askersOf_34 rfl hl (by decide) rfl (fun ls hl => ?_)
          refine lv_iinc (v := (v5 + 1)) (lv' := [(5, .int (v5 + 1)), (3, .long (v3 ||| ((1 : Int64) <<< (v5.toInt64 &&& 63)))), (0, .ref (a 11)), (1, .long p1)]) hx hb d_R_askersOf_35 hl (k := 3) rfl rfl (by decide) rfl (fun ls hl => ?_)
          refine lv_goto (tgt := 5) hx hb d_R_askersOf_38 (by decide) ?_
          exact ih5 (v3 ||| ((1 : Int64) <<< (v5.toInt64 &&& 63))) (v5 + 1) _ hf (lv_sub hl [2, 3, 1, 0] rfl)
  exact lp5 FU 0 0 _ hf (lv_sub hl [2, 3, 1, 0] rfl)
def wR_layTowards (a : Nat → Nat) (k : Nat → ClassId) (R_count : Int32) (R_asked : (Nat → Int64)) (R_layers : (Nat → Int64)) : va_W := [(a 11, .inr (3, [.int R_count, .ref (a 12), .ref (a 13), .ref (a 14), .ref (a 15)])), (a 12, .inl (k 12, 40, .inr (.inl R_asked))), (a 15, .inl (k 15, 40, .inr (.inl R_layers)))]
def tR_layTowards (k : Nat → ClassId) : List (ClassId × FieldType) := [(k 12, .long), (k 15, .long)]
set_option maxHeartbeats 4000000 in
set_option maxRecDepth 100000 in
theorem c_R_layTowards (l : Launch) (dC : Nat → ClassId) (dI : Nat → Nat → Nat) (a : Nat → Nat) (k : Nat → ClassId) (sz : Nat) (R_count : Int32) (R_asked : (Nat → Int64)) (R_layers : (Nat → Int64)) (p1 : Int32) (p2 : Int32) (y : (Nat → Int64)) (hf : fR_layTowards R_count R_asked R_layers p1 p2 = some y) : Met l y_R_layTowards ws_R_layTowards ({ frames := 1, cells := 0, slots := 0, locals := 25 }) (og_Pw [.ref (a 11), .int p1, .int p2] (dC, dI) (wR_layTowards a k R_count R_asked R_layers) (tR_layTowards k) sz) (og_Qv (dC, dI) (wR_layTowards a k R_count R_asked y) (tR_layTowards k) (va_A (wR_layTowards a k R_count R_asked R_layers) sz)) 0 0 (va_A (wR_layTowards a k R_count R_asked R_layers) sz) := by
  refine Met.ofW (cc := b_R_layTowards) (maxL := 4) (ret := none) (by decide) rfl ?_
  intro p e s m args below meth c s₁ B hml hv
  obtain ⟨rfl, hsz, hP, hK, hD0⟩ := hv
  have hx := B.exec
  have hb := B.bytes
  have hr := B.returns
  have hts0 := atoms_spec (ws := ws_R_layTowards) B.pre
  have hts : ∀ w ∈ og_tb, w.before _ s = true := fun w h => hts0 w (List.mem_cons_of_mem _ h)
  have hown : s.vm.findClass R_R = some m.cls := findClass_of_methodNamed B.named
  have hlocks := B.notSynchronized
  subst hsz
  have hD := hD0.self (sz := s.heap.size)
  generalize hAe : va_A (wR_layTowards a k R_count R_asked R_layers) s.heap.size = A at hD ⊢
  have hA : ∀ q : Nat, s.heap.size ≤ q → A q := fun q h => by rw [← hAe]; exact Or.inr h
  have hS : va_S A s.heap s.heap [] := va_S.rf
  have hl := lv_entry ([.ref (a 11), .int p1, .int p2]) (n := 4) (Nat.le_of_ble_eq_true rfl)
  rw [lg_entry_eq]
  generalize (lg_sl ([.ref (a 11), .int p1, .int p2]) ++ List.replicate (4 - (lg_sl ([.ref (a 11), .int p1, .int p2])).length) Slot.unset).toArray = ls at hl ⊢
  have hl : lv_has ls 4 [(0, .ref (a 11)), (1, .int p1), (2, .int p2)] := hl
  rw [fR_layTowards] at hf
  refine lv_aload_n hx hb d_R_layTowards_0 rfl (lv_at hl 0 rfl) ?_
  refine vg_R_layers (v := .ref (a 15)) hx hb hts hown hK hP 0 rfl (hts _ tb_109) rfl d_R_layTowards_1 ?_
  refine lv_iconst (v := 0) hx hb d_R_layTowards_4 (by decide) ?_
  refine lv_lconst (v := 1) hx hb d_R_layTowards_5 (by decide) ?_
  refine lv_iload_n hx hb d_R_layTowards_6 rfl (lv_at hl 1 rfl) ?_
  refine lv_lshl hx hb d_R_layTowards_7 rfl ?_
  obtain ⟨h_8, hf⟩ := og_ck_s hf
  refine va_last hx hb hK hP hD hS 2 1 rfl rfl h_8 d_R_layTowards_8 (fun H locs hP hD hS => ?_)
  have hP : va_P (dC, dI) vwCl (wR_layTowards a k R_count R_asked (vp_updL R_layers (0 : Int32).toNatClampNeg ((1 : Int64) <<< (p1.toInt64 &&& 63)))) H := hP
  have hD : va_D A (wR_layTowards a k R_count R_asked (vp_updL R_layers (0 : Int32).toNatClampNeg ((1 : Int64) <<< (p1.toInt64 &&& 63)))) := hD
  refine lv_iconst (v := 1) hx hb d_R_layTowards_9 (by decide) ?_
  refine lv_istore_n (lv' := [(3, .int 1), (0, .ref (a 11)), (1, .int p1), (2, .int p2)]) hx hb d_R_layTowards_10 rfl hl (by decide) rfl (fun ls hl => ?_)
  have k11_46 : ∀ (R_layers : (Nat → Int64)) (H : Heap) (locs : List Loc) (ls : Array Slot), fR_layTowards_K11_46 R_layers = some y → va_P (dC, dI) vwCl (wR_layTowards a k R_count R_asked R_layers) H → va_D A (wR_layTowards a k R_count R_asked R_layers) → va_S A s.heap H locs → lv_has ls 4 [] → W p l e (headSpec ws_R_layTowards { frames := 1, cells := 0, slots := 0, locals := 25 }).room s m ([.ref (a 11), .int p1, .int p2] : List Value).toArray below meth c H locs 0 0 (MQ below (og_Qv (dC, dI) (wR_layTowards a k R_count R_asked y) (tR_layTowards k) A) ([.ref (a 11), .int p1, .int p2] : List Value).toArray s 0 0 A) (F0 m 46 ls []) := by
    intro R_layers H locs ls hf hP hD hS hl
    rw [fR_layTowards_K11_46] at hf
    obtain rfl := Option.some.inj hf
    exact W.vret hx hb hr (fun t ht hW => ⟨⟨(), rfl, trivial, by rw [ht]; exact hP, va_K.moved hW.alike hK, hD⟩, hS.F ht⟩) hS.2.2 d_R_layTowards_46
  have lp11 : ∀ (n11 : Nat) (v3 : Int32) (R_layers : (Nat → Int64)) (H : Heap) (locs : List Loc) (ls : Array Slot), fR_layTowards_L11 fR_layTowards_K11_46 R_count R_asked p2 n11 v3 R_layers = some y → va_P (dC, dI) vwCl (wR_layTowards a k R_count R_asked R_layers) H → va_D A (wR_layTowards a k R_count R_asked R_layers) → va_S A s.heap H locs → lv_has ls 4 [(0, .ref (a 11)), (2, .int p2), (3, .int v3)] → W p l e (headSpec ws_R_layTowards { frames := 1, cells := 0, slots := 0, locals := 25 }).room s m ([.ref (a 11), .int p1, .int p2] : List Value).toArray below meth c H locs 0 0 (MQ below (og_Qv (dC, dI) (wR_layTowards a k R_count R_asked y) (tR_layTowards k) A) ([.ref (a 11), .int p1, .int p2] : List Value).toArray s 0 0 A) (F0 m 11 ls []) := by
    intro n11
    induction n11 with
    | zero => intro v3 R_layers H locs ls hf hP hD hS hl; rw [fR_layTowards_L11] at hf; cases hf
    | succ n11 ih11 =>
      intro v3 R_layers H locs ls hf hP hD hS hl
      rw [fR_layTowards_L11] at hf
      refine lv_iload_n hx hb d_R_layTowards_11 rfl (lv_at hl 2 rfl) ?_
      refine lv_iload_n hx hb d_R_layTowards_12 rfl (lv_at hl 1 rfl) ?_
      refine lv_icmp_ge (tgt := 46) hx hb d_R_layTowards_13 (by decide) (fun c_13 => ?_) (fun c_13 => ?_)
      · have hf := og_t hf c_13
        exact k11_46 R_layers _ _ _ hf hP hD hS (lv_sub hl [] rfl)
      · have hf := og_f hf c_13
        refine lv_iload_n hx hb d_R_layTowards_16 rfl (lv_at hl 2 rfl) ?_
        refine lv_bipush (v := 40) hx hb d_R_layTowards_17 (by decide) ?_
        refine lv_icmp_ge (tgt := 46) hx hb d_R_layTowards_19 (by decide) (fun c_19 => ?_) (fun c_19 => ?_)
        · have hf := og_t hf c_19
          exact k11_46 R_layers _ _ _ hf hP hD hS (lv_sub hl [] rfl)
        · have hf := og_f hf c_19
          refine lv_aload_n hx hb d_R_layTowards_22 rfl (lv_at hl 0 rfl) ?_
          refine vg_R_layers (v := .ref (a 15)) hx hb hts hown hK hP 0 rfl (hts _ tb_109) rfl d_R_layTowards_23 ?_
          refine lv_iload_n hx hb d_R_layTowards_26 rfl (lv_at hl 2 rfl) ?_
          refine lv_aload_n hx hb d_R_layTowards_27 rfl (lv_at hl 0 rfl) ?_
          refine lv_aload_n hx hb d_R_layTowards_28 rfl (lv_at hl 0 rfl) ?_
          refine vg_R_layers (v := .ref (a 15)) hx hb hts hown hK hP 0 rfl (hts _ tb_109) rfl d_R_layTowards_29 ?_
          refine lv_iload_n hx hb d_R_layTowards_32 rfl (lv_at hl 2 rfl) ?_
          refine lv_iconst (v := 1) hx hb d_R_layTowards_33 (by decide) ?_
          refine lv_isub hx hb d_R_layTowards_34 ?_
          obtain ⟨h_35, hf⟩ := og_ck_s hf
          refine va_lald hx hb hK hP 2 1 rfl rfl h_35 d_R_layTowards_35 ?_
          obtain ⟨r36, e_36, hf⟩ := og_b hf
          refine og_rVl (w := (wR_layTowards a k R_count R_asked R_layers)) (As := [.long (R_layers (v3 - 1).toNatClampNeg)]) (rest := [.int v3, .ref (a 15)]) (ci := 3) (q0 := 0) ⟨hx, hb, hml, hown, hts⟩ (c_R_askersOf l dC dI a k R_count R_asked (R_layers (v3 - 1).toNatClampNeg) r36 e_36) (cwV 1 hts (og_gV tb_110 tb_111 tb_112 tb_61 tb_113) rfl rfl rfl (by decide +kernel) ⟨Nat.le_of_ble_eq_true rfl, Nat.le_of_ble_eq_true rfl⟩) hK hP [0, 1] [0] ⟨rfl, rfl, trivial⟩ rfl rfl rfl rfl rfl hl.1 rfl (Nat.le_of_ble_eq_true rfl) d_R_layTowards_36 ⟨Nat.zero_le _, Nat.zero_le _⟩ ?_
          obtain ⟨h_39, hf⟩ := og_ck_s hf
          refine va_last hx hb hK hP hD hS 2 1 rfl rfl h_39 d_R_layTowards_39 (fun H locs hP hD hS => ?_)
          have hP : va_P (dC, dI) vwCl (wR_layTowards a k R_count R_asked (vp_updL R_layers v3.toNatClampNeg r36)) H := hP
          have hD : va_D A (wR_layTowards a k R_count R_asked (vp_updL R_layers v3.toNatClampNeg r36)) := hD
          refine lv_iinc (v := (v3 + 1)) (lv' := [(3, .int (v3 + 1)), (0, .ref (a 11)), (2, .int p2)]) hx hb d_R_layTowards_40 hl (k := 2) rfl rfl (by decide) rfl (fun ls hl => ?_)
          refine lv_goto (tgt := 11) hx hb d_R_layTowards_43 (by decide) ?_
          exact ih11 (v3 + 1) (vp_updL R_layers v3.toNatClampNeg r36) _ _ _ hf hP hD hS (lv_sub hl [1, 2, 0] rfl)
  exact lp11 FU 1 (vp_updL R_layers (0 : Int32).toNatClampNeg ((1 : Int64) <<< (p1.toInt64 &&& 63))) _ _ _ hf hP hD hS (lv_sub hl [1, 3, 0] rfl)
def wR_firstAsked (a : Nat → Nat) (k : Nat → ClassId) (R_count : Int32) (R_asked : (Nat → Int64)) (R_layers : (Nat → Int64)) : va_W := [(a 11, .inr (3, [.int R_count, .ref (a 12), .ref (a 13), .ref (a 14), .ref (a 15)])), (a 12, .inl (k 12, 40, .inr (.inl R_asked))), (a 15, .inl (k 15, 40, .inr (.inl R_layers)))]
def tR_firstAsked (k : Nat → ClassId) : List (ClassId × FieldType) := [(k 12, .long), (k 15, .long)]
set_option maxHeartbeats 4000000 in
set_option maxRecDepth 100000 in
theorem c_R_firstAsked (l : Launch) (dC : Nat → ClassId) (dI : Nat → Nat → Nat) (a : Nat → Nat) (k : Nat → ClassId) (R_count : Int32) (R_asked : (Nat → Int64)) (R_layers : (Nat → Int64)) (p1 : Int32) (p2 : Int32) (y : Int32) (hf : fR_firstAsked R_asked R_layers p1 p2 = some y) : Met l y_R_firstAsked ws_R_firstAsked ({ frames := 2, cells := 0, slots := 0, locals := 42 }) (og_Pr [.ref (a 11), .int p1, .int p2] (dC, dI) (wR_firstAsked a k R_count R_asked R_layers) (tR_firstAsked k)) (vp_Si (fun x => x = y)) 0 0 (fun _ => False) := by
  refine Met.ofW (cc := b_R_firstAsked) (maxL := 5) (ret := (some .int)) (by decide) rfl ?_
  intro p e s m args below meth c s₁ B hml hv
  obtain ⟨rfl, hP, hK⟩ := hv
  have hx := B.exec
  have hb := B.bytes
  have hr := B.returns
  have hts0 := atoms_spec (ws := ws_R_firstAsked) B.pre
  have hts : ∀ w ∈ og_tb, w.before _ s = true := fun w h => hts0 w (List.mem_cons_of_mem _ h)
  have hown : s.vm.findClass R_R = some m.cls := findClass_of_methodNamed B.named
  have hlocks := B.notSynchronized
  have hl := lv_entry ([.ref (a 11), .int p1, .int p2]) (n := 5) (Nat.le_of_ble_eq_true rfl)
  rw [lg_entry_eq]
  generalize (lg_sl ([.ref (a 11), .int p1, .int p2]) ++ List.replicate (5 - (lg_sl ([.ref (a 11), .int p1, .int p2])).length) Slot.unset).toArray = ls at hl ⊢
  have hl : lv_has ls 5 [(0, .ref (a 11)), (1, .int p1), (2, .int p2)] := hl
  rw [fR_firstAsked] at hf
  refine lv_aload_n hx hb d_R_firstAsked_0 rfl (lv_at hl 0 rfl) ?_
  refine vg_R_asked (v := .ref (a 12)) hx hb hts hown hK hP 0 rfl (hts _ tb_58) rfl d_R_firstAsked_1 ?_
  refine lv_iload_n hx hb d_R_firstAsked_4 rfl (lv_at hl 1 rfl) ?_
  obtain ⟨h_5, hf⟩ := og_ck_s hf
  refine va_lald hx hb hK hP 1 0 rfl rfl h_5 d_R_firstAsked_5 ?_
  refine lv_aload_n hx hb d_R_firstAsked_6 rfl (lv_at hl 0 rfl) ?_
  refine vg_R_layers (v := .ref (a 15)) hx hb hts hown hK hP 0 rfl (hts _ tb_109) rfl d_R_firstAsked_7 ?_
  refine lv_iload_n hx hb d_R_firstAsked_10 rfl (lv_at hl 2 rfl) ?_
  obtain ⟨h_11, hf⟩ := og_ck_s hf
  refine va_lald hx hb hK hP 2 1 rfl rfl h_11 d_R_firstAsked_11 ?_
  refine lv_land hx hb d_R_firstAsked_12 ?_
  refine lv_lstore_n (lv' := [(3, .long ((R_asked p1.toNatClampNeg) &&& (R_layers p2.toNatClampNeg))), (0, .ref (a 11)), (1, .int p1), (2, .int p2)]) hx hb d_R_firstAsked_13 rfl hl (by decide) rfl (fun ls hl => ?_)
  refine lv_lload_n hx hb d_R_firstAsked_14 rfl (lv_at hl 0 rfl) ?_
  refine lv_lconst (v := 0) hx hb d_R_firstAsked_15 (by decide) ?_
  refine W.lcmp hx hb d_R_firstAsked_16 ?_
  refine lv_if_ne (tgt := 24) hx hb d_R_firstAsked_17 (by decide) (fun c_17 => ?_) (fun c_17 => ?_)
  · have hf := og_f hf c_17
    refine lv_lload_n hx hb d_R_firstAsked_24 rfl (lv_at hl 0 rfl) ?_
    obtain ⟨r25, e_25, hf⟩ := og_b hf
    refine og_rS (w := (wR_firstAsked a k R_count R_asked R_layers)) (As := [.long ((R_asked p1.toNatClampNeg) &&& (R_layers p2.toNatClampNeg))]) (rest := []) ⟨hx, hb, hml, hown, hts⟩ (c_R_lowest l dC dI a k ((R_asked p1.toNatClampNeg) &&& (R_layers p2.toNatClampNeg)) r25 e_25) (va_cwS 1 hts (og_gS tb_59 tb_60 tb_61 tb_62) rfl rfl rfl (by decide +kernel) ⟨Nat.le_of_ble_eq_true rfl, Nat.le_of_ble_eq_true rfl⟩) hK hP [] [] trivial rfl rfl hl.1 rfl (Nat.le_of_ble_eq_true rfl) d_R_firstAsked_25 ⟨Nat.zero_le _, Nat.zero_le _⟩ ?_
    obtain rfl := Option.some.inj hf
    exact W.iret (v := r25) hx hb hr (fun t ht hW => ⟨r25, rfl, rfl, ht⟩) (fun _ h => absurd h List.not_mem_nil) d_R_firstAsked_28
  · have hf := og_t hf c_17
    refine lv_iconst (v := (-1)) hx hb d_R_firstAsked_20 (by decide) ?_
    refine lv_goto (tgt := 28) hx hb d_R_firstAsked_21 (by decide) ?_
    obtain rfl := Option.some.inj hf
    exact W.iret (v := (-1)) hx hb hr (fun t ht hW => ⟨(-1), rfl, rfl, ht⟩) (fun _ h => absurd h List.not_mem_nil) d_R_firstAsked_28
