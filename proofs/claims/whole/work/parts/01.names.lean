-- ===== PART A: goes FIRST, ahead of the names: the tables' words, and 'selects' of the private methods out of them =====
/-- a private method of a class that the tables say can be made, by its rows of tables_1 -/
def lw_okq (q : MethodName × Nat) : Prop := (q.1.cls ≠ "java/lang/invoke/MethodHandle" ∧ q.1.cls ≠ "java/lang/invoke/VarHandle") ∧ Cond.instantiable q.1.cls q.2 ∈ tables_1 ∧ Cond.privateMethod q.1 ∈ tables_1 ∧ Cond.instanceMethod q.1 ∈ tables_1
theorem lw_p0 : lw_okq (⟨"CycleRows$Keys", "isNamed", "(I)Z"⟩, 4) := ⟨⟨by decide +kernel, by decide +kernel⟩, List.mem_of_getElem? (i := 20) (by decide +kernel), List.mem_of_getElem? (i := 194) (by decide +kernel), List.mem_of_getElem? (i := 195) (by decide +kernel)⟩
theorem lw_p1 : lw_okq (⟨"CycleRows$Keys", "insert", "(I)V"⟩, 4) := ⟨⟨by decide +kernel, by decide +kernel⟩, List.mem_of_getElem? (i := 20) (by decide +kernel), List.mem_of_getElem? (i := 198) (by decide +kernel), List.mem_of_getElem? (i := 199) (by decide +kernel)⟩
theorem lw_p2 : lw_okq (⟨"CycleRows$Edges", "joins", "(III)Z"⟩, 6) := ⟨⟨by decide +kernel, by decide +kernel⟩, List.mem_of_getElem? (i := 45) (by decide +kernel), List.mem_of_getElem? (i := 222) (by decide +kernel), List.mem_of_getElem? (i := 223) (by decide +kernel)⟩
theorem lw_p3 : lw_okq (⟨"CycleRows$Edges", "has", "(I)Z"⟩, 6) := ⟨⟨by decide +kernel, by decide +kernel⟩, List.mem_of_getElem? (i := 45) (by decide +kernel), List.mem_of_getElem? (i := 230) (by decide +kernel), List.mem_of_getElem? (i := 231) (by decide +kernel)⟩
theorem lw_p4 : lw_okq (⟨"CycleRows$Reaches", "follow", "(I)V"⟩, 5) := ⟨⟨by decide +kernel, by decide +kernel⟩, List.mem_of_getElem? (i := 77) (by decide +kernel), List.mem_of_getElem? (i := 251) (by decide +kernel), List.mem_of_getElem? (i := 252) (by decide +kernel)⟩
theorem lw_p5 : lw_okq (⟨"CycleRows$Reaches", "askedBy", "(J)J"⟩, 5) := ⟨⟨by decide +kernel, by decide +kernel⟩, List.mem_of_getElem? (i := 77) (by decide +kernel), List.mem_of_getElem? (i := 258) (by decide +kernel), List.mem_of_getElem? (i := 259) (by decide +kernel)⟩
theorem lw_p6 : lw_okq (⟨"CycleRows$Told", "tellKeys", "(LCycleRows$Keys;LCycleRows$Reaches;)V"⟩, 10) := ⟨⟨by decide +kernel, by decide +kernel⟩, List.mem_of_getElem? (i := 100) (by decide +kernel), List.mem_of_getElem? (i := 276) (by decide +kernel), List.mem_of_getElem? (i := 277) (by decide +kernel)⟩
theorem lw_p7 : lw_okq (⟨"CycleRows$Told", "numberParts", "(LCycleRows$Keys;LCycleRows$Reaches;)V"⟩, 10) := ⟨⟨by decide +kernel, by decide +kernel⟩, List.mem_of_getElem? (i := 100) (by decide +kernel), List.mem_of_getElem? (i := 288) (by decide +kernel), List.mem_of_getElem? (i := 289) (by decide +kernel)⟩
theorem lw_p8 : lw_okq (⟨"CycleRows$Told", "firstOfPart", "(ILCycleRows$Reaches;)I"⟩, 10) := ⟨⟨by decide +kernel, by decide +kernel⟩, List.mem_of_getElem? (i := 100) (by decide +kernel), List.mem_of_getElem? (i := 292) (by decide +kernel), List.mem_of_getElem? (i := 293) (by decide +kernel)⟩
theorem lw_p9 : lw_okq (⟨"CycleRows$Told", "tellRings", "(LCycleRows$Keys;LCycleRows$Reaches;)V"⟩, 10) := ⟨⟨by decide +kernel, by decide +kernel⟩, List.mem_of_getElem? (i := 100) (by decide +kernel), List.mem_of_getElem? (i := 300) (by decide +kernel), List.mem_of_getElem? (i := 301) (by decide +kernel)⟩
theorem lw_p10 : lw_okq (⟨"CycleRows$Told", "leastRinged", "(ILCycleRows$Reaches;)I"⟩, 10) := ⟨⟨by decide +kernel, by decide +kernel⟩, List.mem_of_getElem? (i := 100) (by decide +kernel), List.mem_of_getElem? (i := 304) (by decide +kernel), List.mem_of_getElem? (i := 305) (by decide +kernel)⟩
theorem lw_p11 : lw_okq (⟨"CycleRows$Told", "tellRing", "(ILCycleRows$Keys;LCycleRows$Reaches;)V"⟩, 10) := ⟨⟨by decide +kernel, by decide +kernel⟩, List.mem_of_getElem? (i := 100) (by decide +kernel), List.mem_of_getElem? (i := 308) (by decide +kernel), List.mem_of_getElem? (i := 309) (by decide +kernel)⟩
theorem lw_p12 : lw_okq (⟨"CycleRows$Reaches", "askersOf", "(J)J"⟩, 5) := ⟨⟨by decide +kernel, by decide +kernel⟩, List.mem_of_getElem? (i := 77) (by decide +kernel), List.mem_of_getElem? (i := 316) (by decide +kernel), List.mem_of_getElem? (i := 317) (by decide +kernel)⟩
theorem lw_p13 : lw_okq (⟨"CycleRows$Told", "tellEdges", "(ILCycleRows$Edges;)V"⟩, 10) := ⟨⟨by decide +kernel, by decide +kernel⟩, List.mem_of_getElem? (i := 100) (by decide +kernel), List.mem_of_getElem? (i := 324) (by decide +kernel), List.mem_of_getElem? (i := 325) (by decide +kernel)⟩
theorem lw_p14 : lw_okq (⟨"CycleRows$Asking", "push", "(I)V"⟩, 6) := ⟨⟨by decide +kernel, by decide +kernel⟩, List.mem_of_getElem? (i := 143) (by decide +kernel), List.mem_of_getElem? (i := 404) (by decide +kernel), List.mem_of_getElem? (i := 405) (by decide +kernel)⟩
theorem lw_p15 : lw_okq (⟨"CycleRows$Asking", "nextTarget", "(ILCycleRows$Edges;I)I"⟩, 6) := ⟨⟨by decide +kernel, by decide +kernel⟩, List.mem_of_getElem? (i := 143) (by decide +kernel), List.mem_of_getElem? (i := 412) (by decide +kernel), List.mem_of_getElem? (i := 413) (by decide +kernel)⟩
def lw_privs_1 : List (MethodName × Nat) := [(⟨"CycleRows$Keys", "isNamed", "(I)Z"⟩, 4), (⟨"CycleRows$Keys", "insert", "(I)V"⟩, 4), (⟨"CycleRows$Edges", "joins", "(III)Z"⟩, 6), (⟨"CycleRows$Edges", "has", "(I)Z"⟩, 6), (⟨"CycleRows$Reaches", "follow", "(I)V"⟩, 5), (⟨"CycleRows$Reaches", "askedBy", "(J)J"⟩, 5), (⟨"CycleRows$Told", "tellKeys", "(LCycleRows$Keys;LCycleRows$Reaches;)V"⟩, 10), (⟨"CycleRows$Told", "numberParts", "(LCycleRows$Keys;LCycleRows$Reaches;)V"⟩, 10), (⟨"CycleRows$Told", "firstOfPart", "(ILCycleRows$Reaches;)I"⟩, 10), (⟨"CycleRows$Told", "tellRings", "(LCycleRows$Keys;LCycleRows$Reaches;)V"⟩, 10), (⟨"CycleRows$Told", "leastRinged", "(ILCycleRows$Reaches;)I"⟩, 10), (⟨"CycleRows$Told", "tellRing", "(ILCycleRows$Keys;LCycleRows$Reaches;)V"⟩, 10), (⟨"CycleRows$Reaches", "askersOf", "(J)J"⟩, 5), (⟨"CycleRows$Told", "tellEdges", "(ILCycleRows$Edges;)V"⟩, 10), (⟨"CycleRows$Asking", "push", "(I)V"⟩, 6), (⟨"CycleRows$Asking", "nextTarget", "(ILCycleRows$Edges;I)I"⟩, 6)]
theorem lw_r1 : ∀ q ∈ lw_privs_1, lw_okq q := List.forall_mem_cons.mpr ⟨lw_p0, List.forall_mem_cons.mpr ⟨lw_p1, List.forall_mem_cons.mpr ⟨lw_p2, List.forall_mem_cons.mpr ⟨lw_p3, List.forall_mem_cons.mpr ⟨lw_p4, List.forall_mem_cons.mpr ⟨lw_p5, List.forall_mem_cons.mpr ⟨lw_p6, List.forall_mem_cons.mpr ⟨lw_p7, List.forall_mem_cons.mpr ⟨lw_p8, List.forall_mem_cons.mpr ⟨lw_p9, List.forall_mem_cons.mpr ⟨lw_p10, List.forall_mem_cons.mpr ⟨lw_p11, List.forall_mem_cons.mpr ⟨lw_p12, List.forall_mem_cons.mpr ⟨lw_p13, List.forall_mem_cons.mpr ⟨lw_p14, List.forall_mem_cons.mpr ⟨lw_p15, fun _ h => absurd h List.not_mem_nil⟩⟩⟩⟩⟩⟩⟩⟩⟩⟩⟩⟩⟩⟩⟩⟩
theorem lw_p16 : lw_okq (⟨"CycleRows$Asking", "openAt", "(I)I"⟩, 6) := ⟨⟨by decide +kernel, by decide +kernel⟩, List.mem_of_getElem? (i := 143) (by decide +kernel), List.mem_of_getElem? (i := 417) (by decide +kernel), List.mem_of_getElem? (i := 418) (by decide +kernel)⟩
theorem lw_p17 : lw_okq (⟨"CycleRows$Asking", "meet", "(I)V"⟩, 6) := ⟨⟨by decide +kernel, by decide +kernel⟩, List.mem_of_getElem? (i := 143) (by decide +kernel), List.mem_of_getElem? (i := 421) (by decide +kernel), List.mem_of_getElem? (i := 422) (by decide +kernel)⟩
theorem lw_p18 : lw_okq (⟨"CycleRowsModel", "isKey", "(I)Z"⟩, 29) := ⟨⟨by decide +kernel, by decide +kernel⟩, List.mem_of_getElem? (i := 432) (by decide +kernel), List.mem_of_getElem? (i := 534) (by decide +kernel), List.mem_of_getElem? (i := 535) (by decide +kernel)⟩
theorem lw_p19 : lw_okq (⟨"CycleRowsModel", "sort", "()V"⟩, 29) := ⟨⟨by decide +kernel, by decide +kernel⟩, List.mem_of_getElem? (i := 432) (by decide +kernel), List.mem_of_getElem? (i := 550) (by decide +kernel), List.mem_of_getElem? (i := 551) (by decide +kernel)⟩
theorem lw_p20 : lw_okq (⟨"CycleRowsModel", "close", "()V"⟩, 29) := ⟨⟨by decide +kernel, by decide +kernel⟩, List.mem_of_getElem? (i := 432) (by decide +kernel), List.mem_of_getElem? (i := 554) (by decide +kernel), List.mem_of_getElem? (i := 555) (by decide +kernel)⟩
theorem lw_p21 : lw_okq (⟨"CycleRowsModel", "isThen", "(II)Z"⟩, 29) := ⟨⟨by decide +kernel, by decide +kernel⟩, List.mem_of_getElem? (i := 432) (by decide +kernel), List.mem_of_getElem? (i := 558) (by decide +kernel), List.mem_of_getElem? (i := 559) (by decide +kernel)⟩
theorem lw_p22 : lw_okq (⟨"CycleRowsModel", "cutIntoParts", "()V"⟩, 29) := ⟨⟨by decide +kernel, by decide +kernel⟩, List.mem_of_getElem? (i := 432) (by decide +kernel), List.mem_of_getElem? (i := 565) (by decide +kernel), List.mem_of_getElem? (i := 566) (by decide +kernel)⟩
theorem lw_p23 : lw_okq (⟨"CycleRowsModel", "isTogether", "(II)Z"⟩, 29) := ⟨⟨by decide +kernel, by decide +kernel⟩, List.mem_of_getElem? (i := 432) (by decide +kernel), List.mem_of_getElem? (i := 569) (by decide +kernel), List.mem_of_getElem? (i := 570) (by decide +kernel)⟩
theorem lw_p24 : lw_okq (⟨"CycleRowsModel", "tellRing", "(I)V"⟩, 29) := ⟨⟨by decide +kernel, by decide +kernel⟩, List.mem_of_getElem? (i := 432) (by decide +kernel), List.mem_of_getElem? (i := 573) (by decide +kernel), List.mem_of_getElem? (i := 574) (by decide +kernel)⟩
theorem lw_p25 : lw_okq (⟨"CycleRowsModel", "lead", "(II)V"⟩, 29) := ⟨⟨by decide +kernel, by decide +kernel⟩, List.mem_of_getElem? (i := 432) (by decide +kernel), List.mem_of_getElem? (i := 577) (by decide +kernel), List.mem_of_getElem? (i := 578) (by decide +kernel)⟩
theorem lw_p26 : lw_okq (⟨"CycleRowsModel", "keyOf", "(II)I"⟩, 29) := ⟨⟨by decide +kernel, by decide +kernel⟩, List.mem_of_getElem? (i := 432) (by decide +kernel), List.mem_of_getElem? (i := 589) (by decide +kernel), List.mem_of_getElem? (i := 590) (by decide +kernel)⟩
theorem lw_p27 : lw_okq (⟨"CycleRowsModel", "edgeOf", "(II)I"⟩, 29) := ⟨⟨by decide +kernel, by decide +kernel⟩, List.mem_of_getElem? (i := 432) (by decide +kernel), List.mem_of_getElem? (i := 593) (by decide +kernel), List.mem_of_getElem? (i := 594) (by decide +kernel)⟩
theorem lw_p28 : lw_okq (⟨"CycleRowsModel", "isRing", "(II)Z"⟩, 29) := ⟨⟨by decide +kernel, by decide +kernel⟩, List.mem_of_getElem? (i := 432) (by decide +kernel), List.mem_of_getElem? (i := 601) (by decide +kernel), List.mem_of_getElem? (i := 602) (by decide +kernel)⟩
theorem lw_p29 : lw_okq (⟨"CycleRowsModel", "isThere", "(I)Z"⟩, 29) := ⟨⟨by decide +kernel, by decide +kernel⟩, List.mem_of_getElem? (i := 432) (by decide +kernel), List.mem_of_getElem? (i := 613) (by decide +kernel), List.mem_of_getElem? (i := 614) (by decide +kernel)⟩
theorem lw_p30 : lw_okq (⟨"CycleRowsModel", "isRinged", "(I)Z"⟩, 29) := ⟨⟨by decide +kernel, by decide +kernel⟩, List.mem_of_getElem? (i := 432) (by decide +kernel), List.mem_of_getElem? (i := 621) (by decide +kernel), List.mem_of_getElem? (i := 622) (by decide +kernel)⟩
theorem lw_p31 : lw_okq (⟨"CycleRowsModel", "ringOf", "(II)I"⟩, 29) := ⟨⟨by decide +kernel, by decide +kernel⟩, List.mem_of_getElem? (i := 432) (by decide +kernel), List.mem_of_getElem? (i := 633) (by decide +kernel), List.mem_of_getElem? (i := 634) (by decide +kernel)⟩
def lw_privs_2 : List (MethodName × Nat) := [(⟨"CycleRows$Asking", "openAt", "(I)I"⟩, 6), (⟨"CycleRows$Asking", "meet", "(I)V"⟩, 6), (⟨"CycleRowsModel", "isKey", "(I)Z"⟩, 29), (⟨"CycleRowsModel", "sort", "()V"⟩, 29), (⟨"CycleRowsModel", "close", "()V"⟩, 29), (⟨"CycleRowsModel", "isThen", "(II)Z"⟩, 29), (⟨"CycleRowsModel", "cutIntoParts", "()V"⟩, 29), (⟨"CycleRowsModel", "isTogether", "(II)Z"⟩, 29), (⟨"CycleRowsModel", "tellRing", "(I)V"⟩, 29), (⟨"CycleRowsModel", "lead", "(II)V"⟩, 29), (⟨"CycleRowsModel", "keyOf", "(II)I"⟩, 29), (⟨"CycleRowsModel", "edgeOf", "(II)I"⟩, 29), (⟨"CycleRowsModel", "isRing", "(II)Z"⟩, 29), (⟨"CycleRowsModel", "isThere", "(I)Z"⟩, 29), (⟨"CycleRowsModel", "isRinged", "(I)Z"⟩, 29), (⟨"CycleRowsModel", "ringOf", "(II)I"⟩, 29)]
theorem lw_r2 : ∀ q ∈ lw_privs_2, lw_okq q := List.forall_mem_cons.mpr ⟨lw_p16, List.forall_mem_cons.mpr ⟨lw_p17, List.forall_mem_cons.mpr ⟨lw_p18, List.forall_mem_cons.mpr ⟨lw_p19, List.forall_mem_cons.mpr ⟨lw_p20, List.forall_mem_cons.mpr ⟨lw_p21, List.forall_mem_cons.mpr ⟨lw_p22, List.forall_mem_cons.mpr ⟨lw_p23, List.forall_mem_cons.mpr ⟨lw_p24, List.forall_mem_cons.mpr ⟨lw_p25, List.forall_mem_cons.mpr ⟨lw_p26, List.forall_mem_cons.mpr ⟨lw_p27, List.forall_mem_cons.mpr ⟨lw_p28, List.forall_mem_cons.mpr ⟨lw_p29, List.forall_mem_cons.mpr ⟨lw_p30, List.forall_mem_cons.mpr ⟨lw_p31, fun _ h => absurd h List.not_mem_nil⟩⟩⟩⟩⟩⟩⟩⟩⟩⟩⟩⟩⟩⟩⟩⟩
def lw_privs : List (MethodName × Nat) := lw_privs_1 ++ (lw_privs_2)
def lw_tbl : List Cond := k2_sels lw_privs ++ tables_1
theorem lw_privs_ok : ∀ q ∈ lw_privs, lw_okq q := by
  show ∀ q ∈ lw_privs_1 ++ (lw_privs_2), lw_okq q
  exact List.forall_mem_append.mpr ⟨lw_r1, lw_r2⟩
def og_tb : List Cond := lw_tbl.filter goodWord
def R_C : String := "CycleRows"
def T_C : u_T := fun k => match k with
  | 0 => ("CycleRows", "keys", "LCycleRows$Keys;", true)
  | 1 => ("CycleRows", "edges", "LCycleRows$Edges;", true)
  | 2 => ("CycleRows", "reaches", "LCycleRows$Reaches;", true)
  | 3 => ("CycleRows", "told", "LCycleRows$Told;", true)
  | _ => ("CycleRows", "asking", "LCycleRows$Asking;", true)
def ty_C : Nat → FieldType := fun k => match k with
  | 0 => .object "CycleRows$Keys"
  | 1 => .object "CycleRows$Edges"
  | 2 => .object "CycleRows$Reaches"
  | 3 => .object "CycleRows$Told"
  | _ => .object "CycleRows$Asking"
theorem nm_C : ∀ a, a < 5 → ∀ b, b < 5 → a ≠ b → (T_C a).2.1 ≠ (T_C b).2.1 := by decide +kernel
theorem tyok_C : ∀ k, k < 5 → parseFieldDescriptor (T_C k).2.2.1 = some (ty_C k) := by decide +kernel
theorem lay_C : ∀ w ∈ u_ws R_C T_C 5, w ∈ og_tb := by decide +kernel
def R_K : String := "CycleRows$Keys"
def T_K : u_T := fun k => match k with
  | 0 => ("CycleRows$Keys", "count", "I", false)
  | 1 => ("CycleRows$Keys", "names", "[I", true)
  | 2 => ("CycleRows$Keys", "byRank", "[I", true)
  | _ => ("CycleRows$Keys", "rankOf", "[I", true)
def ty_K : Nat → FieldType := fun k => match k with
  | 0 => .int
  | 1 => .array .int
  | 2 => .array .int
  | _ => .array .int
theorem nm_K : ∀ a, a < 4 → ∀ b, b < 4 → a ≠ b → (T_K a).2.1 ≠ (T_K b).2.1 := by decide +kernel
theorem tyok_K : ∀ k, k < 4 → parseFieldDescriptor (T_K k).2.2.1 = some (ty_K k) := by decide +kernel
theorem lay_K : ∀ w ∈ u_ws R_K T_K 4, w ∈ og_tb := by decide +kernel
def R_E : String := "CycleRows$Edges"
def T_E : u_T := fun k => match k with
  | 0 => ("CycleRows$Edges", "count", "I", false)
  | 1 => ("CycleRows$Edges", "from", "[I", true)
  | 2 => ("CycleRows$Edges", "to", "[I", true)
  | 3 => ("CycleRows$Edges", "places", "[I", true)
  | 4 => ("CycleRows$Edges", "configurations", "[I", true)
  | _ => ("CycleRows$Edges", "gone", "[Z", true)
def ty_E : Nat → FieldType := fun k => match k with
  | 0 => .int
  | 1 => .array .int
  | 2 => .array .int
  | 3 => .array .int
  | 4 => .array .int
  | _ => .array .boolean
theorem nm_E : ∀ a, a < 6 → ∀ b, b < 6 → a ≠ b → (T_E a).2.1 ≠ (T_E b).2.1 := by decide +kernel
theorem tyok_E : ∀ k, k < 6 → parseFieldDescriptor (T_E k).2.2.1 = some (ty_E k) := by decide +kernel
theorem lay_E : ∀ w ∈ u_ws R_E T_E 6, w ∈ og_tb := by decide +kernel
def R_R : String := "CycleRows$Reaches"
def T_R : u_T := fun k => match k with
  | 0 => ("CycleRows$Reaches", "count", "I", false)
  | 1 => ("CycleRows$Reaches", "asked", "[J", true)
  | 2 => ("CycleRows$Reaches", "reached", "[J", true)
  | 3 => ("CycleRows$Reaches", "shortest", "[I", true)
  | _ => ("CycleRows$Reaches", "layers", "[J", true)
def ty_R : Nat → FieldType := fun k => match k with
  | 0 => .int
  | 1 => .array .long
  | 2 => .array .long
  | 3 => .array .int
  | _ => .array .long
theorem nm_R : ∀ a, a < 5 → ∀ b, b < 5 → a ≠ b → (T_R a).2.1 ≠ (T_R b).2.1 := by decide +kernel
theorem tyok_R : ∀ k, k < 5 → parseFieldDescriptor (T_R k).2.2.1 = some (ty_R k) := by decide +kernel
theorem lay_R : ∀ w ∈ u_ws R_R T_R 5, w ∈ og_tb := by decide +kernel
def R_T : String := "CycleRows$Told"
def T_T : u_T := fun k => match k with
  | 0 => ("CycleRows$Told", "configuration", "I", false)
  | 1 => ("CycleRows$Told", "ringCount", "I", false)
  | 2 => ("CycleRows$Told", "partOf", "[I", true)
  | 3 => ("CycleRows$Told", "stateOf", "[I", true)
  | 4 => ("CycleRows$Told", "leastOf", "[I", true)
  | 5 => ("CycleRows$Told", "onlyIn", "[I", true)
  | 6 => ("CycleRows$Told", "keyCount", "I", false)
  | 7 => ("CycleRows$Told", "starts", "[I", true)
  | 8 => ("CycleRows$Told", "ringKeys", "[I", true)
  | _ => ("CycleRows$Told", "ringEdges", "[I", true)
def ty_T : Nat → FieldType := fun k => match k with
  | 0 => .int
  | 1 => .int
  | 2 => .array .int
  | 3 => .array .int
  | 4 => .array .int
  | 5 => .array .int
  | 6 => .int
  | 7 => .array .int
  | 8 => .array .int
  | _ => .array .int
theorem nm_T : ∀ a, a < 10 → ∀ b, b < 10 → a ≠ b → (T_T a).2.1 ≠ (T_T b).2.1 := by decide +kernel
theorem tyok_T : ∀ k, k < 10 → parseFieldDescriptor (T_T k).2.2.1 = some (ty_T k) := by decide +kernel
theorem lay_T : ∀ w ∈ u_ws R_T T_T 10, w ∈ og_tb := by decide +kernel
def R_A : String := "CycleRows$Asking"
def T_A : u_T := fun k => match k with
  | 0 => ("CycleRows$Asking", "metCount", "I", false)
  | 1 => ("CycleRows$Asking", "metKeys", "[I", true)
  | 2 => ("CycleRows$Asking", "openCount", "I", false)
  | 3 => ("CycleRows$Asking", "open", "[I", true)
  | 4 => ("CycleRows$Asking", "nextEdge", "[I", true)
  | _ => ("CycleRows$Asking", "wasAsked", "[Z", true)
def ty_A : Nat → FieldType := fun k => match k with
  | 0 => .int
  | 1 => .array .int
  | 2 => .int
  | 3 => .array .int
  | 4 => .array .int
  | _ => .array .boolean
theorem nm_A : ∀ a, a < 6 → ∀ b, b < 6 → a ≠ b → (T_A a).2.1 ≠ (T_A b).2.1 := by decide +kernel
theorem tyok_A : ∀ k, k < 6 → parseFieldDescriptor (T_A k).2.2.1 = some (ty_A k) := by decide +kernel
theorem lay_A : ∀ w ∈ u_ws R_A T_A 6, w ∈ og_tb := by decide +kernel
def R_M : String := "CycleRowsModel"
def T_M : u_T := fun k => match k with
  | 0 => ("CycleRowsModel", "code", "I", false)
  | 1 => ("CycleRowsModel", "keys", "I", false)
  | 2 => ("CycleRowsModel", "edges", "I", false)
  | 3 => ("CycleRowsModel", "name", "[I", true)
  | 4 => ("CycleRowsModel", "from", "[I", true)
  | 5 => ("CycleRowsModel", "to", "[I", true)
  | 6 => ("CycleRowsModel", "place", "[I", true)
  | 7 => ("CycleRowsModel", "bits", "[I", true)
  | 8 => ("CycleRowsModel", "gone", "[Z", true)
  | 9 => ("CycleRowsModel", "thenKeys", "I", false)
  | 10 => ("CycleRowsModel", "thenEdges", "I", false)
  | 11 => ("CycleRowsModel", "configuration", "I", false)
  | 12 => ("CycleRowsModel", "thenGone", "[Z", true)
  | 13 => ("CycleRowsModel", "order", "[I", true)
  | 14 => ("CycleRowsModel", "rank", "[I", true)
  | 15 => ("CycleRowsModel", "part", "[I", true)
  | 16 => ("CycleRowsModel", "shortest", "[I", true)
  | 17 => ("CycleRowsModel", "asks", "[Z", true)
  | 18 => ("CycleRowsModel", "reaches", "[Z", true)
  | 19 => ("CycleRowsModel", "steps", "[I", true)
  | 20 => ("CycleRowsModel", "parts", "I", false)
  | 21 => ("CycleRowsModel", "rings", "I", false)
  | 22 => ("CycleRowsModel", "ringSize", "[I", true)
  | 23 => ("CycleRowsModel", "ring", "[I", true)
  | 24 => ("CycleRowsModel", "backs", "[Z", true)
  | 25 => ("CycleRowsModel", "metSize", "I", false)
  | 26 => ("CycleRowsModel", "way", "[I", true)
  | 27 => ("CycleRowsModel", "asked", "[I", true)
  | _ => ("CycleRowsModel", "at", "[I", true)
def ty_M : Nat → FieldType := fun k => match k with
  | 0 => .int
  | 1 => .int
  | 2 => .int
  | 3 => .array .int
  | 4 => .array .int
  | 5 => .array .int
  | 6 => .array .int
  | 7 => .array .int
  | 8 => .array .boolean
  | 9 => .int
  | 10 => .int
  | 11 => .int
  | 12 => .array .boolean
  | 13 => .array .int
  | 14 => .array .int
  | 15 => .array .int
  | 16 => .array .int
  | 17 => .array .boolean
  | 18 => .array .boolean
  | 19 => .array .int
  | 20 => .int
  | 21 => .int
  | 22 => .array .int
  | 23 => .array .int
  | 24 => .array .boolean
  | 25 => .int
  | 26 => .array .int
  | 27 => .array .int
  | _ => .array .int
theorem nm_M : ∀ a, a < 29 → ∀ b, b < 29 → a ≠ b → (T_M a).2.1 ≠ (T_M b).2.1 := by decide +kernel
theorem tyok_M : ∀ k, k < 29 → parseFieldDescriptor (T_M k).2.2.1 = some (ty_M k) := by decide +kernel
theorem lay_M : ∀ w ∈ u_ws R_M T_M 29, w ∈ og_tb := by decide +kernel
def R_L : String := "CycleRowsLaw"
def R_X : String := "java/lang/Long"
abbrev vwCl : List vw_C := [(R_C, T_C, 5), (R_K, T_K, 4), (R_E, T_E, 6), (R_R, T_R, 5), (R_T, T_T, 10), (R_A, T_A, 6), (R_M, T_M, 29)]
abbrev b_C_init : ByteArray := prog_1_method_1_code
def y_C_init : MethodName := ⟨R_C, "<init>", "()V"⟩
def ws_C_init : List Cond := .code y_C_init b_C_init 1 none :: og_tb
abbrev b_C_key : ByteArray := prog_1_method_2_code
def y_C_key : MethodName := ⟨R_C, "key", "(I)I"⟩
def ws_C_key : List Cond := .code y_C_key b_C_key 2 (some .int) :: og_tb
abbrev b_C_edge : ByteArray := prog_1_method_3_code
def y_C_edge : MethodName := ⟨R_C, "edge", "(IIII)I"⟩
def ws_C_edge : List Cond := .code y_C_edge b_C_edge 5 (some .int) :: og_tb
abbrev b_C_remove : ByteArray := prog_1_method_4_code
def y_C_remove : MethodName := ⟨R_C, "remove", "(II)I"⟩
def ws_C_remove : List Cond := .code y_C_remove b_C_remove 3 (some .int) :: og_tb
abbrev b_C_cut : ByteArray := prog_1_method_5_code
def y_C_cut : MethodName := ⟨R_C, "cut", "(I)Z"⟩
def ws_C_cut : List Cond := .code y_C_cut b_C_cut 2 (some .boolean) :: og_tb
abbrev b_C_run : ByteArray := prog_1_method_6_code
def y_C_run : MethodName := ⟨R_C, "run", "(I)I"⟩
def ws_C_run : List Cond := .code y_C_run b_C_run 2 (some .int) :: og_tb
abbrev b_C_size : ByteArray := prog_1_method_7_code
def y_C_size : MethodName := ⟨R_C, "size", "(I)I"⟩
def ws_C_size : List Cond := .code y_C_size b_C_size 2 (some .int) :: og_tb
abbrev b_C_ring : ByteArray := prog_1_method_8_code
def y_C_ring : MethodName := ⟨R_C, "ring", "(III)I"⟩
def ws_C_ring : List Cond := .code y_C_ring b_C_ring 4 (some .int) :: og_tb
abbrev b_C_only : ByteArray := prog_1_method_9_code
def y_C_only : MethodName := ⟨R_C, "only", "(I)I"⟩
def ws_C_only : List Cond := .code y_C_only b_C_only 2 (some .int) :: og_tb
abbrev b_C_newest : ByteArray := prog_1_method_10_code
def y_C_newest : MethodName := ⟨R_C, "newest", "(I)I"⟩
def ws_C_newest : List Cond := .code y_C_newest b_C_newest 2 (some .int) :: og_tb
abbrev b_C_strong : ByteArray := prog_1_method_11_code
def y_C_strong : MethodName := ⟨R_C, "strong", "(I)I"⟩
def ws_C_strong : List Cond := .code y_C_strong b_C_strong 2 (some .int) :: og_tb
abbrev b_C_state : ByteArray := prog_1_method_12_code
def y_C_state : MethodName := ⟨R_C, "state", "(I)I"⟩
def ws_C_state : List Cond := .code y_C_state b_C_state 2 (some .int) :: og_tb
abbrev b_C_least : ByteArray := prog_1_method_13_code
def y_C_least : MethodName := ⟨R_C, "least", "(I)I"⟩
def ws_C_least : List Cond := .code y_C_least b_C_least 2 (some .int) :: og_tb
abbrev b_C_ask : ByteArray := prog_1_method_14_code
def y_C_ask : MethodName := ⟨R_C, "ask", "(I)I"⟩
def ws_C_ask : List Cond := .code y_C_ask b_C_ask 2 (some .int) :: og_tb
abbrev b_C_met : ByteArray := prog_1_method_15_code
def y_C_met : MethodName := ⟨R_C, "met", "(I)I"⟩
def ws_C_met : List Cond := .code y_C_met b_C_met 2 (some .int) :: og_tb
abbrev b_M_init : ByteArray := prog_8_method_1_code
def y_M_init : MethodName := ⟨R_M, "<init>", "()V"⟩
def ws_M_init : List Cond := .code y_M_init b_M_init 1 none :: og_tb
abbrev b_M_isKey : ByteArray := prog_8_method_3_code
def y_M_isKey : MethodName := ⟨R_M, "isKey", "(I)Z"⟩
def ws_M_isKey : List Cond := .code y_M_isKey b_M_isKey 2 (some .boolean) :: og_tb
abbrev b_M_key : ByteArray := prog_8_method_4_code
def y_M_key : MethodName := ⟨R_M, "key", "(I)I"⟩
def ws_M_key : List Cond := .code y_M_key b_M_key 4 (some .int) :: og_tb
abbrev b_M_edge : ByteArray := prog_8_method_5_code
def y_M_edge : MethodName := ⟨R_M, "edge", "(IIII)I"⟩
def ws_M_edge : List Cond := .code y_M_edge b_M_edge 5 (some .int) :: og_tb
abbrev b_M_remove : ByteArray := prog_8_method_6_code
def y_M_remove : MethodName := ⟨R_M, "remove", "(II)I"⟩
def ws_M_remove : List Cond := .code y_M_remove b_M_remove 5 (some .int) :: og_tb
abbrev b_M_cut : ByteArray := prog_8_method_7_code
def y_M_cut : MethodName := ⟨R_M, "cut", "(I)Z"⟩
def ws_M_cut : List Cond := .code y_M_cut b_M_cut 2 (some .boolean) :: og_tb
abbrev b_M_isThen : ByteArray := prog_8_method_8_code
def y_M_isThen : MethodName := ⟨R_M, "isThen", "(II)Z"⟩
def ws_M_isThen : List Cond := .code y_M_isThen b_M_isThen 3 (some .boolean) :: og_tb
abbrev b_M_sort : ByteArray := prog_8_method_9_code
def y_M_sort : MethodName := ⟨R_M, "sort", "()V"⟩
def ws_M_sort : List Cond := .code y_M_sort b_M_sort 4 none :: og_tb
abbrev b_M_cell : ByteArray := prog_8_method_10_code
def y_M_cell : MethodName := ⟨R_M, "cell", "(II)I"⟩
def ws_M_cell : List Cond := .code y_M_cell b_M_cell 2 (some .int) :: og_tb
abbrev b_M_close : ByteArray := prog_8_method_11_code
def y_M_close : MethodName := ⟨R_M, "close", "()V"⟩
def ws_M_close : List Cond := .code y_M_close b_M_close 5 none :: og_tb
abbrev b_M_isTogether : ByteArray := prog_8_method_12_code
def y_M_isTogether : MethodName := ⟨R_M, "isTogether", "(II)Z"⟩
def ws_M_isTogether : List Cond := .code y_M_isTogether b_M_isTogether 3 (some .boolean) :: og_tb
abbrev b_M_cutIntoParts : ByteArray := prog_8_method_13_code
def y_M_cutIntoParts : MethodName := ⟨R_M, "cutIntoParts", "()V"⟩
def ws_M_cutIntoParts : List Cond := .code y_M_cutIntoParts b_M_cutIntoParts 4 none :: og_tb
abbrev b_M_lead : ByteArray := prog_8_method_14_code
def y_M_lead : MethodName := ⟨R_M, "lead", "(II)V"⟩
def ws_M_lead : List Cond := .code y_M_lead b_M_lead 7 none :: og_tb
abbrev b_M_tellRing : ByteArray := prog_8_method_15_code
def y_M_tellRing : MethodName := ⟨R_M, "tellRing", "(I)V"⟩
def ws_M_tellRing : List Cond := .code y_M_tellRing b_M_tellRing 7 none :: og_tb
abbrev b_M_run : ByteArray := prog_8_method_16_code
def y_M_run : MethodName := ⟨R_M, "run", "(I)I"⟩
def ws_M_run : List Cond := .code y_M_run b_M_run 3 (some .int) :: og_tb
abbrev b_M_size : ByteArray := prog_8_method_17_code
def y_M_size : MethodName := ⟨R_M, "size", "(I)I"⟩
def ws_M_size : List Cond := .code y_M_size b_M_size 2 (some .int) :: og_tb
abbrev b_M_keyOf : ByteArray := prog_8_method_18_code
def y_M_keyOf : MethodName := ⟨R_M, "keyOf", "(II)I"⟩
def ws_M_keyOf : List Cond := .code y_M_keyOf b_M_keyOf 3 (some .int) :: og_tb
abbrev b_M_edgeOf : ByteArray := prog_8_method_19_code
def y_M_edgeOf : MethodName := ⟨R_M, "edgeOf", "(II)I"⟩
def ws_M_edgeOf : List Cond := .code y_M_edgeOf b_M_edgeOf 5 (some .int) :: og_tb
abbrev b_M_ring : ByteArray := prog_8_method_20_code
def y_M_ring : MethodName := ⟨R_M, "ring", "(III)I"⟩
def ws_M_ring : List Cond := .code y_M_ring b_M_ring 5 (some .int) :: og_tb
abbrev b_M_isRing : ByteArray := prog_8_method_21_code
def y_M_isRing : MethodName := ⟨R_M, "isRing", "(II)Z"⟩
def ws_M_isRing : List Cond := .code y_M_isRing b_M_isRing 7 (some .boolean) :: og_tb
abbrev b_M_only : ByteArray := prog_8_method_22_code
def y_M_only : MethodName := ⟨R_M, "only", "(I)I"⟩
def ws_M_only : List Cond := .code y_M_only b_M_only 3 (some .int) :: og_tb
abbrev b_M_newest : ByteArray := prog_8_method_23_code
def y_M_newest : MethodName := ⟨R_M, "newest", "(I)I"⟩
def ws_M_newest : List Cond := .code y_M_newest b_M_newest 4 (some .int) :: og_tb
abbrev b_M_isThere : ByteArray := prog_8_method_24_code
def y_M_isThere : MethodName := ⟨R_M, "isThere", "(I)Z"⟩
def ws_M_isThere : List Cond := .code y_M_isThere b_M_isThere 2 (some .boolean) :: og_tb
abbrev b_M_strong : ByteArray := prog_8_method_25_code
def y_M_strong : MethodName := ⟨R_M, "strong", "(I)I"⟩
def ws_M_strong : List Cond := .code y_M_strong b_M_strong 2 (some .int) :: og_tb
abbrev b_M_isRinged : ByteArray := prog_8_method_26_code
def y_M_isRinged : MethodName := ⟨R_M, "isRinged", "(I)Z"⟩
def ws_M_isRinged : List Cond := .code y_M_isRinged b_M_isRinged 2 (some .boolean) :: og_tb
abbrev b_M_state : ByteArray := prog_8_method_27_code
def y_M_state : MethodName := ⟨R_M, "state", "(I)I"⟩
def ws_M_state : List Cond := .code y_M_state b_M_state 4 (some .int) :: og_tb
abbrev b_M_least : ByteArray := prog_8_method_28_code
def y_M_least : MethodName := ⟨R_M, "least", "(I)I"⟩
def ws_M_least : List Cond := .code y_M_least b_M_least 2 (some .int) :: og_tb
abbrev b_M_ask : ByteArray := prog_8_method_29_code
def y_M_ask : MethodName := ⟨R_M, "ask", "(I)I"⟩
def ws_M_ask : List Cond := .code y_M_ask b_M_ask 5 (some .int) :: og_tb
abbrev b_M_ringOf : ByteArray := prog_8_method_30_code
def y_M_ringOf : MethodName := ⟨R_M, "ringOf", "(II)I"⟩
def ws_M_ringOf : List Cond := .code y_M_ringOf b_M_ringOf 5 (some .int) :: og_tb
abbrev b_M_met : ByteArray := prog_8_method_31_code
def y_M_met : MethodName := ⟨R_M, "met", "(I)I"⟩
def ws_M_met : List Cond := .code y_M_met b_M_met 2 (some .int) :: og_tb
abbrev b_A_init : ByteArray := prog_2_method_1_code
def y_A_init : MethodName := ⟨R_A, "<init>", "()V"⟩
def ws_A_init : List Cond := .code y_A_init b_A_init 1 none :: og_tb
abbrev b_A_begin : ByteArray := prog_2_method_2_code
def y_A_begin : MethodName := ⟨R_A, "begin", "(II)V"⟩
def ws_A_begin : List Cond := .code y_A_begin b_A_begin 4 none :: og_tb
abbrev b_A_goOn : ByteArray := prog_2_method_3_code
def y_A_goOn : MethodName := ⟨R_A, "goOn", "(LCycleRows$Edges;I)V"⟩
def ws_A_goOn : List Cond := .code y_A_goOn b_A_goOn 5 none :: og_tb
abbrev b_A_push : ByteArray := prog_2_method_4_code
def y_A_push : MethodName := ⟨R_A, "push", "(I)V"⟩
def ws_A_push : List Cond := .code y_A_push b_A_push 2 none :: og_tb
abbrev b_A_nextTarget : ByteArray := prog_2_method_5_code
def y_A_nextTarget : MethodName := ⟨R_A, "nextTarget", "(ILCycleRows$Edges;I)I"⟩
def ws_A_nextTarget : List Cond := .code y_A_nextTarget b_A_nextTarget 6 (some .int) :: og_tb
abbrev b_A_openAt : ByteArray := prog_2_method_6_code
def y_A_openAt : MethodName := ⟨R_A, "openAt", "(I)I"⟩
def ws_A_openAt : List Cond := .code y_A_openAt b_A_openAt 3 (some .int) :: og_tb
abbrev b_A_meet : ByteArray := prog_2_method_7_code
def y_A_meet : MethodName := ⟨R_A, "meet", "(I)V"⟩
def ws_A_meet : List Cond := .code y_A_meet b_A_meet 3 none :: og_tb
abbrev b_E_init : ByteArray := prog_3_method_1_code
def y_E_init : MethodName := ⟨R_E, "<init>", "()V"⟩
def ws_E_init : List Cond := .code y_E_init b_E_init 1 none :: og_tb
abbrev b_E_add : ByteArray := prog_3_method_2_code
def y_E_add : MethodName := ⟨R_E, "add", "(IIII)I"⟩
def ws_E_add : List Cond := .code y_E_add b_E_add 6 (some .int) :: og_tb
abbrev b_E_drop : ByteArray := prog_3_method_3_code
def y_E_drop : MethodName := ⟨R_E, "drop", "(I)Z"⟩
def ws_E_drop : List Cond := .code y_E_drop b_E_drop 2 (some .boolean) :: og_tb
abbrev b_E_dropBetween : ByteArray := prog_3_method_4_code
def y_E_dropBetween : MethodName := ⟨R_E, "dropBetween", "(II)I"⟩
def ws_E_dropBetween : List Cond := .code y_E_dropBetween b_E_dropBetween 5 (some .int) :: og_tb
abbrev b_E_placeOf : ByteArray := prog_3_method_5_code
def y_E_placeOf : MethodName := ⟨R_E, "placeOf", "(I)I"⟩
def ws_E_placeOf : List Cond := .code y_E_placeOf b_E_placeOf 2 (some .int) :: og_tb
abbrev b_E_isIn : ByteArray := prog_3_method_6_code
def y_E_isIn : MethodName := ⟨R_E, "isIn", "(II)Z"⟩
def ws_E_isIn : List Cond := .code y_E_isIn b_E_isIn 3 (some .boolean) :: og_tb
abbrev b_E_leastPlaced : ByteArray := prog_3_method_7_code
def y_E_leastPlaced : MethodName := ⟨R_E, "leastPlaced", "(III)I"⟩
def ws_E_leastPlaced : List Cond := .code y_E_leastPlaced b_E_leastPlaced 6 (some .int) :: og_tb
abbrev b_E_configurationsBetween : ByteArray := prog_3_method_8_code
def y_E_configurationsBetween : MethodName := ⟨R_E, "configurationsBetween", "(II)I"⟩
def ws_E_configurationsBetween : List Cond := .code y_E_configurationsBetween b_E_configurationsBetween 5 (some .int) :: og_tb
abbrev b_E_has : ByteArray := prog_3_method_9_code
def y_E_has : MethodName := ⟨R_E, "has", "(I)Z"⟩
def ws_E_has : List Cond := .code y_E_has b_E_has 2 (some .boolean) :: og_tb
abbrev b_E_joins : ByteArray := prog_3_method_10_code
def y_E_joins : MethodName := ⟨R_E, "joins", "(III)Z"⟩
def ws_E_joins : List Cond := .code y_E_joins b_E_joins 4 (some .boolean) :: og_tb
abbrev b_K_init : ByteArray := prog_4_method_1_code
def y_K_init : MethodName := ⟨R_K, "<init>", "()V"⟩
def ws_K_init : List Cond := .code y_K_init b_K_init 1 none :: og_tb
abbrev b_K_has : ByteArray := prog_4_method_2_code
def y_K_has : MethodName := ⟨R_K, "has", "(I)Z"⟩
def ws_K_has : List Cond := .code y_K_has b_K_has 2 (some .boolean) :: og_tb
abbrev b_K_add : ByteArray := prog_4_method_3_code
def y_K_add : MethodName := ⟨R_K, "add", "(I)I"⟩
def ws_K_add : List Cond := .code y_K_add b_K_add 3 (some .int) :: og_tb
abbrev b_K_isNamed : ByteArray := prog_4_method_4_code
def y_K_isNamed : MethodName := ⟨R_K, "isNamed", "(I)Z"⟩
def ws_K_isNamed : List Cond := .code y_K_isNamed b_K_isNamed 3 (some .boolean) :: og_tb
abbrev b_K_insert : ByteArray := prog_4_method_5_code
def y_K_insert : MethodName := ⟨R_K, "insert", "(I)V"⟩
def ws_K_insert : List Cond := .code y_K_insert b_K_insert 4 none :: og_tb
abbrev b_R_init : ByteArray := prog_5_method_1_code
def y_R_init : MethodName := ⟨R_R, "<init>", "()V"⟩
def ws_R_init : List Cond := .code y_R_init b_R_init 1 none :: og_tb
abbrev b_R_draw : ByteArray := prog_5_method_2_code
def y_R_draw : MethodName := ⟨R_R, "draw", "(LCycleRows$Keys;LCycleRows$Edges;I)V"⟩
def ws_R_draw : List Cond := .code y_R_draw b_R_draw 5 none :: og_tb
abbrev b_R_shortestRing : ByteArray := prog_5_method_3_code
def y_R_shortestRing : MethodName := ⟨R_R, "shortestRing", "(I)I"⟩
def ws_R_shortestRing : List Cond := .code y_R_shortestRing b_R_shortestRing 2 (some .int) :: og_tb
abbrev b_R_reachesRinged : ByteArray := prog_5_method_4_code
def y_R_reachesRinged : MethodName := ⟨R_R, "reachesRinged", "(I)Z"⟩
def ws_R_reachesRinged : List Cond := .code y_R_reachesRinged b_R_reachesRinged 3 (some .boolean) :: og_tb
abbrev b_R_reachEachOther : ByteArray := prog_5_method_5_code
def y_R_reachEachOther : MethodName := ⟨R_R, "reachEachOther", "(II)Z"⟩
def ws_R_reachEachOther : List Cond := .code y_R_reachEachOther b_R_reachEachOther 3 (some .boolean) :: og_tb
abbrev b_R_layTowards : ByteArray := prog_5_method_6_code
def y_R_layTowards : MethodName := ⟨R_R, "layTowards", "(II)V"⟩
def ws_R_layTowards : List Cond := .code y_R_layTowards b_R_layTowards 4 none :: og_tb
abbrev b_R_firstAsked : ByteArray := prog_5_method_7_code
def y_R_firstAsked : MethodName := ⟨R_R, "firstAsked", "(II)I"⟩
def ws_R_firstAsked : List Cond := .code y_R_firstAsked b_R_firstAsked 5 (some .int) :: og_tb
abbrev b_R_follow : ByteArray := prog_5_method_8_code
def y_R_follow : MethodName := ⟨R_R, "follow", "(I)V"⟩
def ws_R_follow : List Cond := .code y_R_follow b_R_follow 7 none :: og_tb
abbrev b_R_askedBy : ByteArray := prog_5_method_9_code
def y_R_askedBy : MethodName := ⟨R_R, "askedBy", "(J)J"⟩
def ws_R_askedBy : List Cond := .code y_R_askedBy b_R_askedBy 8 (some .long) :: og_tb
abbrev b_R_askersOf : ByteArray := prog_5_method_10_code
def y_R_askersOf : MethodName := ⟨R_R, "askersOf", "(J)J"⟩
def ws_R_askersOf : List Cond := .code y_R_askersOf b_R_askersOf 6 (some .long) :: og_tb
abbrev b_R_contains : ByteArray := prog_5_method_11_code
def y_R_contains : MethodName := ⟨R_R, "contains", "(JI)Z"⟩
def ws_R_contains : List Cond := .code y_R_contains b_R_contains 3 (some .boolean) :: og_tb
abbrev b_R_lowest : ByteArray := prog_5_method_12_code
def y_R_lowest : MethodName := ⟨R_R, "lowest", "(J)I"⟩
def ws_R_lowest : List Cond := .code y_R_lowest b_R_lowest 2 (some .int) :: og_tb
abbrev b_T_init : ByteArray := prog_6_method_1_code
def y_T_init : MethodName := ⟨R_T, "<init>", "()V"⟩
def ws_T_init : List Cond := .code y_T_init b_T_init 1 none :: og_tb
abbrev b_T_hasKey : ByteArray := prog_6_method_2_code
def y_T_hasKey : MethodName := ⟨R_T, "hasKey", "(I)Z"⟩
def ws_T_hasKey : List Cond := .code y_T_hasKey b_T_hasKey 2 (some .boolean) :: og_tb
abbrev b_T_hasRing : ByteArray := prog_6_method_3_code
def y_T_hasRing : MethodName := ⟨R_T, "hasRing", "(I)Z"⟩
def ws_T_hasRing : List Cond := .code y_T_hasRing b_T_hasRing 2 (some .boolean) :: og_tb
abbrev b_T_length : ByteArray := prog_6_method_4_code
def y_T_length : MethodName := ⟨R_T, "length", "(I)I"⟩
def ws_T_length : List Cond := .code y_T_length b_T_length 2 (some .int) :: og_tb
abbrev b_T_keyAt : ByteArray := prog_6_method_5_code
def y_T_keyAt : MethodName := ⟨R_T, "keyAt", "(II)I"⟩
def ws_T_keyAt : List Cond := .code y_T_keyAt b_T_keyAt 3 (some .int) :: og_tb
abbrev b_T_edgeAt : ByteArray := prog_6_method_6_code
def y_T_edgeAt : MethodName := ⟨R_T, "edgeAt", "(II)I"⟩
def ws_T_edgeAt : List Cond := .code y_T_edgeAt b_T_edgeAt 3 (some .int) :: og_tb
abbrev b_T_lastEdge : ByteArray := prog_6_method_7_code
def y_T_lastEdge : MethodName := ⟨R_T, "lastEdge", "(I)I"⟩
def ws_T_lastEdge : List Cond := .code y_T_lastEdge b_T_lastEdge 4 (some .int) :: og_tb
abbrev b_T_tell : ByteArray := prog_6_method_8_code
def y_T_tell : MethodName := ⟨R_T, "tell", "(LCycleRows$Keys;LCycleRows$Edges;LCycleRows$Reaches;I)V"⟩
def ws_T_tell : List Cond := .code y_T_tell b_T_tell 6 none :: og_tb
abbrev b_T_tellKeys : ByteArray := prog_6_method_9_code
def y_T_tellKeys : MethodName := ⟨R_T, "tellKeys", "(LCycleRows$Keys;LCycleRows$Reaches;)V"⟩
def ws_T_tellKeys : List Cond := .code y_T_tellKeys b_T_tellKeys 5 none :: og_tb
abbrev b_T_numberParts : ByteArray := prog_6_method_10_code
def y_T_numberParts : MethodName := ⟨R_T, "numberParts", "(LCycleRows$Keys;LCycleRows$Reaches;)V"⟩
def ws_T_numberParts : List Cond := .code y_T_numberParts b_T_numberParts 6 none :: og_tb
abbrev b_T_tellRings : ByteArray := prog_6_method_11_code
def y_T_tellRings : MethodName := ⟨R_T, "tellRings", "(LCycleRows$Keys;LCycleRows$Reaches;)V"⟩
def ws_T_tellRings : List Cond := .code y_T_tellRings b_T_tellRings 4 none :: og_tb
abbrev b_T_firstOfPart : ByteArray := prog_6_method_12_code
def y_T_firstOfPart : MethodName := ⟨R_T, "firstOfPart", "(ILCycleRows$Reaches;)I"⟩
def ws_T_firstOfPart : List Cond := .code y_T_firstOfPart b_T_firstOfPart 4 (some .int) :: og_tb
abbrev b_T_leastRinged : ByteArray := prog_6_method_13_code
def y_T_leastRinged : MethodName := ⟨R_T, "leastRinged", "(ILCycleRows$Reaches;)I"⟩
def ws_T_leastRinged : List Cond := .code y_T_leastRinged b_T_leastRinged 5 (some .int) :: og_tb
abbrev b_T_tellRing : ByteArray := prog_6_method_14_code
def y_T_tellRing : MethodName := ⟨R_T, "tellRing", "(ILCycleRows$Keys;LCycleRows$Reaches;)V"⟩
def ws_T_tellRing : List Cond := .code y_T_tellRing b_T_tellRing 8 none :: og_tb
abbrev b_T_tellEdges : ByteArray := prog_6_method_15_code
def y_T_tellEdges : MethodName := ⟨R_T, "tellEdges", "(ILCycleRows$Edges;)V"⟩
def ws_T_tellEdges : List Cond := .code y_T_tellEdges b_T_tellEdges 7 none :: og_tb
abbrev b_X_bitCount : ByteArray := prog_9_method_50_code
def y_X_bitCount : MethodName := ⟨R_X, "bitCount", "(J)I"⟩
def ws_X_bitCount : List Cond := .code y_X_bitCount b_X_bitCount 2 (some .int) :: og_tb
