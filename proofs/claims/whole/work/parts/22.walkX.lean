def wX_bitCount (a : Nat → Nat) (k : Nat → ClassId) : va_W := []
def tX_bitCount (k : Nat → ClassId) : List (ClassId × FieldType) := []
set_option maxHeartbeats 4000000 in
set_option maxRecDepth 100000 in
theorem c_X_bitCount (l : Launch) (dC : Nat → ClassId) (dI : Nat → Nat → Nat) (a : Nat → Nat) (k : Nat → ClassId) (p0 : Int64) (y : Int32) (hf : fX_bitCount p0 = some y) : Met l y_X_bitCount ws_X_bitCount ({ frames := 0, cells := 0, slots := 0, locals := 0 }) (og_Pr [.long p0] (dC, dI) (wX_bitCount a k) (tX_bitCount k)) (vp_Si (fun x => x = y)) 0 0 (fun _ => False) := by
  refine Met.ofW (cc := b_X_bitCount) (maxL := 2) (ret := (some .int)) (by decide) rfl ?_
  intro p e s m args below meth c s₁ B hml hv
  obtain ⟨rfl, hP, hK⟩ := hv
  have hx := B.exec
  have hb := B.bytes
  have hr := B.returns
  have hts0 := atoms_spec (ws := ws_X_bitCount) B.pre
  have hts : ∀ w ∈ og_tb, w.before _ s = true := fun w h => hts0 w (List.mem_cons_of_mem _ h)
  have hown : s.vm.findClass R_X = some m.cls := findClass_of_methodNamed B.named
  have hlocks := B.notSynchronized
  have hl := lv_entry ([.long p0]) (n := 2) (Nat.le_of_ble_eq_true rfl)
  rw [lg_entry_eq]
  generalize (lg_sl ([.long p0]) ++ List.replicate (2 - (lg_sl ([.long p0])).length) Slot.unset).toArray = ls at hl ⊢
  have hl : lv_has ls 2 [(0, .long p0)] := hl
  rw [fX_bitCount] at hf
  refine lv_lload_n hx hb d_X_bitCount_0 rfl (lv_at hl 0 rfl) ?_
  refine lv_lload_n hx hb d_X_bitCount_1 rfl (lv_at hl 0 rfl) ?_
  refine lv_iconst (v := 1) hx hb d_X_bitCount_2 (by decide) ?_
  refine lv_lushr hx hb d_X_bitCount_3 rfl ?_
  refine lv_ldc2 (v := 6148914691236517205) hx hb hown (hts _ tb_51) d_X_bitCount_4 ?_
  refine lv_land hx hb d_X_bitCount_7 ?_
  refine lv_lsub hx hb d_X_bitCount_8 ?_
  refine lv_topl (fun x9 ex9 => ?_)
  have hf := og_le_s hf ex9
  refine lv_lstore_n (lv' := [(0, .long x9)]) hx hb d_X_bitCount_9 rfl hl (by decide) rfl (fun ls hl => ?_)
  refine lv_lload_n hx hb d_X_bitCount_10 rfl (lv_at hl 0 rfl) ?_
  refine lv_ldc2 (v := 3689348814741910323) hx hb hown (hts _ tb_52) d_X_bitCount_11 ?_
  refine lv_land hx hb d_X_bitCount_14 ?_
  refine lv_lload_n hx hb d_X_bitCount_15 rfl (lv_at hl 0 rfl) ?_
  refine lv_iconst (v := 2) hx hb d_X_bitCount_16 (by decide) ?_
  refine lv_lushr hx hb d_X_bitCount_17 rfl ?_
  refine lv_ldc2 (v := 3689348814741910323) hx hb hown (hts _ tb_52) d_X_bitCount_18 ?_
  refine lv_land hx hb d_X_bitCount_21 ?_
  refine lv_ladd hx hb d_X_bitCount_22 ?_
  refine lv_topl (fun x23 ex23 => ?_)
  have hf := og_le_s hf ex23
  refine lv_lstore_n (lv' := [(0, .long x23)]) hx hb d_X_bitCount_23 rfl hl (by decide) rfl (fun ls hl => ?_)
  refine lv_lload_n hx hb d_X_bitCount_24 rfl (lv_at hl 0 rfl) ?_
  refine lv_lload_n hx hb d_X_bitCount_25 rfl (lv_at hl 0 rfl) ?_
  refine lv_iconst (v := 4) hx hb d_X_bitCount_26 (by decide) ?_
  refine lv_lushr hx hb d_X_bitCount_27 rfl ?_
  refine lv_ladd hx hb d_X_bitCount_28 ?_
  refine lv_ldc2 (v := 1085102592571150095) hx hb hown (hts _ tb_53) d_X_bitCount_29 ?_
  refine lv_land hx hb d_X_bitCount_32 ?_
  refine lv_topl (fun x33 ex33 => ?_)
  have hf := og_le_s hf ex33
  refine lv_lstore_n (lv' := [(0, .long x33)]) hx hb d_X_bitCount_33 rfl hl (by decide) rfl (fun ls hl => ?_)
  refine lv_lload_n hx hb d_X_bitCount_34 rfl (lv_at hl 0 rfl) ?_
  refine lv_lload_n hx hb d_X_bitCount_35 rfl (lv_at hl 0 rfl) ?_
  refine lv_bipush (v := 8) hx hb d_X_bitCount_36 (by decide) ?_
  refine lv_lushr hx hb d_X_bitCount_38 rfl ?_
  refine lv_ladd hx hb d_X_bitCount_39 ?_
  refine lv_topl (fun x40 ex40 => ?_)
  have hf := og_le_s hf ex40
  refine lv_lstore_n (lv' := [(0, .long x40)]) hx hb d_X_bitCount_40 rfl hl (by decide) rfl (fun ls hl => ?_)
  refine lv_lload_n hx hb d_X_bitCount_41 rfl (lv_at hl 0 rfl) ?_
  refine lv_lload_n hx hb d_X_bitCount_42 rfl (lv_at hl 0 rfl) ?_
  refine lv_bipush (v := 16) hx hb d_X_bitCount_43 (by decide) ?_
  refine lv_lushr hx hb d_X_bitCount_45 rfl ?_
  refine lv_ladd hx hb d_X_bitCount_46 ?_
  refine lv_topl (fun x47 ex47 => ?_)
  have hf := og_le_s hf ex47
  refine lv_lstore_n (lv' := [(0, .long x47)]) hx hb d_X_bitCount_47 rfl hl (by decide) rfl (fun ls hl => ?_)
  refine lv_lload_n hx hb d_X_bitCount_48 rfl (lv_at hl 0 rfl) ?_
  refine lv_lload_n hx hb d_X_bitCount_49 rfl (lv_at hl 0 rfl) ?_
  refine lv_bipush (v := 32) hx hb d_X_bitCount_50 (by decide) ?_
  refine lv_lushr hx hb d_X_bitCount_52 rfl ?_
  refine lv_ladd hx hb d_X_bitCount_53 ?_
  refine lv_topl (fun x54 ex54 => ?_)
  have hf := og_le_s hf ex54
  refine lv_lstore_n (lv' := [(0, .long x54)]) hx hb d_X_bitCount_54 rfl hl (by decide) rfl (fun ls hl => ?_)
  refine lv_lload_n hx hb d_X_bitCount_55 rfl (lv_at hl 0 rfl) ?_
  refine lv_l2i hx hb d_X_bitCount_56 rfl ?_
  refine lv_bipush (v := 127) hx hb d_X_bitCount_57 (by decide) ?_
  refine lv_iand hx hb d_X_bitCount_59 ?_
  obtain rfl := Option.some.inj hf
  exact W.iret (v := (x54.toInt32 &&& 127)) hx hb hr (fun t ht hW => ⟨(x54.toInt32 &&& 127), rfl, rfl, ht⟩) (fun _ h => absurd h List.not_mem_nil) d_X_bitCount_60
