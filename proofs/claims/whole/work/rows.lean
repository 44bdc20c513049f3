section
-- ===== PART A: goes FIRST, ahead of the names: the tables' words, and 'selects' of the private methods out of them =====
/-- a private method of a class that the tables say can be made, by its rows of tables_1 -/
def lw_okq (q : MethodName × Nat) : Prop := (q.1.cls ≠ "java/lang/invoke/MethodHandle" ∧ q.1.cls ≠ "java/lang/invoke/VarHandle") ∧ Cond.instantiable q.1.cls q.2 ∈ tables_1 ∧ Cond.privateMethod q.1 ∈ tables_1 ∧ Cond.instanceMethod q.1 ∈ tables_1
theorem lw_p0 : lw_okq (⟨"CycleRows$Keys", "isNamed", "(I)Z"⟩, 4) := ⟨⟨by decide +kernel, by decide +kernel⟩, List.mem_of_getElem? (i := 20) (by decide +kernel), List.mem_of_getElem? (i := 194) (by decide +kernel), List.mem_of_getElem? (i := 195) (by decide +kernel)⟩
theorem lw_p1 : lw_okq (⟨"CycleRows$Keys", "insert", "(I)V"⟩, 4) := ⟨⟨by decide +kernel, by decide +kernel⟩, List.mem_of_getElem? (i := 20) (by decide +kernel), List.mem_of_getElem? (i := 198) (by decide +kernel), List.mem_of_getElem? (i := 199) (by decide +kernel)⟩
theorem lw_p2 : lw_okq (⟨"CycleRows$Edges", "joins", "(III)Z"⟩, 6) := ⟨⟨by decide +kernel, by decide +kernel⟩, List.mem_of_getElem? (i := 45) (by decide +kernel), List.mem_of_getElem? (i := 222) (by decide +kernel), List.mem_of_getElem? (i := 223) (by decide +kernel)⟩
theorem lw_p3 : lw_okq (⟨"CycleRows$Edges", "has", "(I)Z"⟩, 6) := ⟨⟨by decide +kernel, by decide +kernel⟩, List.mem_of_getElem? (i := 45) (by decide +kernel), List.mem_of_getElem? (i := 230) (by decide +kernel), List.mem_of_getElem? (i := 231) (by decide +kernel)⟩
theorem lw_p4 : lw_okq (⟨"CycleRows$Reaches", "follow", "(I)V"⟩, 5) := ⟨⟨by decide +kernel, by decide +kernel⟩, List.mem_of_getElem? (i := 77) (by decide +kernel), List.mem_of_getElem? (i := 251) (by decide +kernel), List.mem_of_getElem? (i := 252) (by decide +kernel)⟩
theorem lw_p5 : lw_okq (⟨"CycleRows$Reaches", "askedBy", "(J)J"⟩, 5) := ⟨⟨by decide +kernel, by decide +kernel⟩, List.mem_of_getElem? (i := 77) (by decide +kernel), List.mem_of_getElem? (i := 258) (by decide +kernel), List.mem_of_getElem? (i := 259) (by decide +kernel)⟩
theorem lw_p6 : lw_okq (⟨"CycleRows$Told", "tellKeys", "(LCycleRows$Keys;LCycleRows$Reaches;)V"⟩, 10) := ⟨⟨by decide +kernel, by decide +kernel⟩, List.mem_of_getElem? (i := 100) (by decide +kernel), List.mem_of_getElem? (i := 276) (by decide +kernel), List.mem_of_getElem? (i := 277) (by decide +kernel)⟩
theorem lw_p7 : lw_okq (⟨"CycleRows$Told", "numberParts", "(LCycleRows$Keys;LCycleRows$Reaches;)V"⟩, 10) := ⟨⟨by decide +kernel, by decide +kernel⟩, List.mem_of_getElem? (i := 100) (by decide +kernel), List.mem_of_getElem? (i := 288) (by decide +kernel), List.mem_of_getElem? (i := 289) (by decide +kernel)⟩
theorem lw_p8 : lw_okq (⟨"CycleRows$Told", "firstOfPart", "(ILCycleRows$Reaches;)I"⟩, 10) := ⟨⟨by decide +kernel, by decide +kernel⟩, List.mem_of_getElem? (i := 100) (by decide +kernel), List.mem_of_getElem? (i := 292) (by decide +kernel), List.mem_of_getElem? (i := 293) (by decide +kernel)⟩
theorem lw_p9 : lw_okq (⟨"CycleRows$Told", "tellRings", "(LCycleRows$Keys;LCycleRows$Reaches;)V"⟩, 10) := ⟨⟨by decide +kernel, by decide +kernel⟩, List.mem_of_getElem? (i := 100) (by decide +kernel), List.mem_of_getElem? (i := 300) (by decide +kernel), List.mem_of_getElem? (i := 301) (by decide +kernel)⟩
theorem lw_p10 : lw_okq (⟨"CycleRows$Told", "leastRinged", "(ILCycleRows$Reaches;)I"⟩, 10) := ⟨⟨by decide +kernel, by decide +kernel⟩, List.mem_of_getElem? (i := 100) (by decide +kernel), List.mem_of_getElem? (i := 304) (by decide +kernel), List.mem_of_getElem? (i := 305) (by decide +kernel)⟩
theorem lw_p11 : lw_okq (⟨"CycleRows$Told", "tellRing", "(ILCycleRows$Keys;LCycleRows$Reaches;)V"⟩, 10) := ⟨⟨by decide +kernel, by decide +kernel⟩, List.mem_of_getElem? (i := 100) (by decide +kernel), List.mem_of_getElem? (i := 308) (by decide +kernel), List.mem_of_getElem? (i := 309) (by decide +kernel)⟩
theorem lw_p12 : lw_okq (⟨"CycleRows$Reaches", "askersOf", "(J)J"⟩, 5) := ⟨⟨by decide +kernel, by decide +kernel⟩, List.mem_of_getElem? (i := 77) (by decide +kernel), List.mem_of_getElem? (i := 316) (by decide +kernel), List.mem_of_getElem? (i := 317) (by decide +kernel)⟩
theorem lw_p13 : lw_okq (⟨"CycleRows$Told", "tellEdges", "(ILCycleRows$Edges;)V"⟩, 10) := ⟨⟨by decide +kernel, by decide +kernel⟩, List.mem_of_getElem? (i := 100) (by decide +kernel), List.mem_of_getElem? (i := 324) (by decide +kernel), List.mem_of_getElem? (i := 325) (by decide +kernel)⟩
theorem lw_p14 : lw_okq (⟨"CycleRows$Asking", "push", "(I)V"⟩, 6) := ⟨⟨by decide +kernel, by decide +kernel⟩, List.mem_of_getElem? (i := 143) (by decide +kernel), List.mem_of_getElem? (i := 404) (by decide +kernel), List.mem_of_getElem? (i := 405) (by decide +kernel)⟩
theorem lw_p15 : lw_okq (⟨"CycleRows$Asking", "nextTarget", "(ILCycleRows$Edges;I)I"⟩, 6) := ⟨⟨by decide +kernel, by decide +kernel⟩, List.mem_of_getElem? (i := 143) (by decide +kernel), List.mem_of_getElem? (i := 412) (by decide +kernel), List.mem_of_getElem? (i := 413) (by decide +kernel)⟩
def lw_privs_1 : List (MethodName × Nat) := [(⟨"CycleRows$Keys", "isNamed", "(I)Z"⟩, 4), (⟨"CycleRows$Keys", "insert", "(I)V"⟩, 4), (⟨"CycleRows$Edges", "joins", "(III)Z"⟩, 6), (⟨"CycleRows$Edges", "has", "(I)Z"⟩, 6), (⟨"CycleRows$Reaches", "follow", "(I)V"⟩, 5), (⟨"CycleRows$Reaches", "askedBy", "(J)J"⟩, 5), (⟨"CycleRows$Told", "tellKeys", "(LCycleRows$Keys;LCycleRows$Reaches;)V"⟩, 10), (⟨"CycleRows$Told", "numberParts", "(LCycleRows$Keys;LCycleRows$Reaches;)V"⟩, 10), (⟨"CycleRows$Told", "firstOfPart", "(ILCycleRows$Reaches;)I"⟩, 10), (⟨"CycleRows$Told", "tellRings", "(LCycleRows$Keys;LCycleRows$Reaches;)V"⟩, 10), (⟨"CycleRows$Told", "leastRinged", "(ILCycleRows$Reaches;)I"⟩, 10), (⟨"CycleRows$Told", "tellRing", "(ILCycleRows$Keys;LCycleRows$Reaches;)V"⟩, 10), (⟨"CycleRows$Reaches", "askersOf", "(J)J"⟩, 5), (⟨"CycleRows$Told", "tellEdges", "(ILCycleRows$Edges;)V"⟩, 10), (⟨"CycleRows$Asking", "push", "(I)V"⟩, 6), (⟨"CycleRows$Asking", "nextTarget", "(ILCycleRows$Edges;I)I"⟩, 6)]
theorem lw_r1 : ∀ q ∈ lw_privs_1, lw_okq q := List.forall_mem_cons.mpr ⟨lw_p0, List.forall_mem_cons.mpr ⟨lw_p1, List.forall_mem_cons.mpr ⟨lw_p2, List.forall_mem_cons.mpr ⟨lw_p3, List.forall_mem_cons.mpr ⟨lw_p4, List.forall_mem_cons.mpr ⟨lw_p5, List.forall_mem_cons.mpr ⟨lw_p6, List.forall_mem_cons.mpr ⟨lw_p7, List.forall_mem_cons.mpr ⟨lw_p8, List.forall_mem_cons.mpr ⟨lw_p9, List.forall_mem_cons.mpr ⟨lw_p10, List.forall_mem_cons.mpr ⟨lw_p11, List.forall_mem_cons.mpr ⟨lw_p12, List.forall_mem_cons.mpr ⟨lw_p13, List.forall_mem_cons.mpr ⟨lw_p14, List.forall_mem_cons.mpr ⟨lw_p15, fun _ h => absurd h List.not_mem_nil⟩⟩⟩⟩⟩⟩⟩⟩⟩⟩⟩⟩⟩⟩⟩⟩
theorem lw_p16 : lw_okq (⟨"CycleRows$Asking", "openAt", "(I)I"⟩, 6) := ⟨⟨by decide +kernel, by decide +kernel⟩, List.mem_of_getElem? (i := 143) (by decide +kernel), List.mem_of_getElem? (i := 417) (by decide +kernel), List.mem_of_getElem? (i := 418) (by decide +kernel)⟩
theorem lw_p17 : lw_okq (⟨"CycleRows$Asking", "meet", "(I)V"⟩, 6) := ⟨⟨by decide +kernel, by decide +kernel⟩, List.mem_of_getElem? (i := 143) (by decide +kernel), List.mem_of_getElem? (i := 421) (by decide +kernel), List.mem_of_getElem? (i := 422) (by decide +kernel)⟩
theorem lw_p18 : lw_okq (⟨"CycleRowsModel", "isKey", "(I)Z"⟩, 29) := ⟨⟨by decide +kernel, by decide +kernel⟩, List.mem_of_getElem? (i := 432) (by decide +kernel), List.mem_of_getElem? (i := 534) (by decide +kernel), List.mem_of_getElem? (i := 535) (by decide +kernel)⟩
theorem lw_p19 : lw_okq (⟨"CycleRowsModel", "sort", "()V"⟩, 29) := ⟨⟨by decide +kernel, by decide +kernel⟩, List.mem_of_getElem? (i := 432) (by decide +kernel), List.mem_of_getElem? (i := 550) (by decide +kernel), List.mem_of_getElem? (i := 551) (by decide +kernel)⟩
theorem lw_p20 : lw_okq (⟨"CycleRowsModel", "close", "()V"⟩, 29) := ⟨⟨by decide +kernel, by decide +kernel⟩, List.mem_of_getElem? (i := 432) (by decide +kernel), List.mem_of_getElem? (i := 554) (by decide +kernel), List.mem_of_getElem? (i := 555) (by decide +kernel)⟩
theorem lw_p21 : lw_okq (⟨"CycleRowsModel", "isThen", "(II)Z"⟩, 29) := ⟨⟨by decide +kernel, by decide +kernel⟩, List.mem_of_getElem? (i := 432) (by decide +kernel), List.mem_of_getElem? (i := 558) (by decide +kernel), List.mem_of_getElem? (i := 559) (by decide +kernel)⟩
theorem lw_p22 : lw_okq (⟨"CycleRowsModel", "cutIntoParts", "()V"⟩, 29) := ⟨⟨by decide +kernel, by decide +kernel⟩, List.mem_of_getElem? (i := 432) (by decide +kernel), List.mem_of_getElem? (i := 565) (by decide +kernel), List.mem_of_getElem? (i := 566) (by decide +kernel)⟩
theorem lw_p23 : lw_okq (⟨"CycleRowsModel", "isTogether", "(II)Z"⟩, 29) := ⟨⟨by decide +kernel, by decide +kernel⟩, List.mem_of_getElem? (i := 432) (by decide +kernel), List.mem_of_getElem? (i := 569) (by decide +kernel), List.mem_of_getElem? (i := 570) (by decide +kernel)⟩
theorem lw_p24 : lw_okq (⟨"CycleRowsModel", "tellRing", "(I)V"⟩, 29) := ⟨⟨by decide +kernel, by decide +kernel⟩, List.mem_of_getElem? (i := 432) (by decide +kernel), List.mem_of_getElem? (i := 573) (by decide +kernel), List.mem_of_getElem? (i := 574) (by decide +kernel)⟩
theorem lw_p25 : lw_okq (⟨"CycleRowsModel", "lead", "(II)V"⟩, 29) := ⟨⟨by decide +kernel, by decide +kernel⟩, List.mem_of_getElem? (i := 432) (by decide +kernel), List.mem_of_getElem? (i := 577) (by decide +kernel), List.mem_of_getElem? (i := 578) (by decide +kernel)⟩
theorem lw_p26 : lw_okq (⟨"CycleRowsModel", "keyOf", "(II)I"⟩, 29) := ⟨⟨by decide +kernel, by decide +kernel⟩, List.mem_of_getElem? (i := 432) (by decide +kernel), List.mem_of_getElem? (i := 589) (by decide +kernel), List.mem_of_getElem? (i := 590) (by decide +kernel)⟩
theorem lw_p27 : lw_okq (⟨"CycleRowsModel", "edgeOf", "(II)I"⟩, 29) := ⟨⟨by decide +kernel, by decide +kernel⟩, List.mem_of_getElem? (i := 432) (by decide +kernel), List.mem_of_getElem? (i := 593) (by decide +kernel), List.mem_of_getElem? (i := 594) (by decide +kernel)⟩
theorem lw_p28 : lw_okq (⟨"CycleRowsModel", "isRing", "(II)Z"⟩, 29) := ⟨⟨by decide +kernel, by decide +kernel⟩, List.mem_of_getElem? (i := 432) (by decide +kernel), List.mem_of_getElem? (i := 601) (by decide +kernel), List.mem_of_getElem? (i := 602) (by decide +kernel)⟩
theorem lw_p29 : lw_okq (⟨"CycleRowsModel", "isThere", "(I)Z"⟩, 29) := ⟨⟨by decide +kernel, by decide +kernel⟩, List.mem_of_getElem? (i := 432) (by decide +kernel), List.mem_of_getElem? (i := 613) (by decide +kernel), List.mem_of_getElem? (i := 614) (by decide +kernel)⟩
theorem lw_p30 : lw_okq (⟨"CycleRowsModel", "isRinged", "(I)Z"⟩, 29) := ⟨⟨by decide +kernel, by decide +kernel⟩, List.mem_of_getElem? (i := 432) (by decide +kernel), List.mem_of_getElem? (i := 621) (by decide +kernel), List.mem_of_getElem? (i := 622) (by decide +kernel)⟩
theorem lw_p31 : lw_okq (⟨"CycleRowsModel", "ringOf", "(II)I"⟩, 29) := ⟨⟨by decide +kernel, by decide +kernel⟩, List.mem_of_getElem? (i := 432) (by decide +kernel), List.mem_of_getElem? (i := 633) (by decide +kernel), List.mem_of_getElem? (i := 634) (by decide +kernel)⟩
def lw_privs_2 : List (MethodName × Nat) := [(⟨"CycleRows$Asking", "openAt", "(I)I"⟩, 6), (⟨"CycleRows$Asking", "meet", "(I)V"⟩, 6), (⟨"CycleRowsModel", "isKey", "(I)Z"⟩, 29), (⟨"CycleRowsModel", "sort", "()V"⟩, 29), (⟨"CycleRowsModel", "close", "()V"⟩, 29), (⟨"CycleRowsModel", "isThen", "(II)Z"⟩, 29), (⟨"CycleRowsModel", "cutIntoParts", "()V"⟩, 29), (⟨"CycleRowsModel", "isTogether", "(II)Z"⟩, 29), (⟨"CycleRowsModel", "tellRing", "(I)V"⟩, 29), (⟨"CycleRowsModel", "lead", "(II)V"⟩, 29), (⟨"CycleRowsModel", "keyOf", "(II)I"⟩, 29), (⟨"CycleRowsModel", "edgeOf", "(II)I"⟩, 29), (⟨"CycleRowsModel", "isRing", "(II)Z"⟩, 29), (⟨"CycleRowsModel", "isThere", "(I)Z"⟩, 29), (⟨"CycleRowsModel", "isRinged", "(I)Z"⟩, 29), (⟨"CycleRowsModel", "ringOf", "(II)I"⟩, 29)]
theorem lw_r2 : ∀ q ∈ lw_privs_2, lw_okq q := List.forall_mem_cons.mpr ⟨lw_p16, List.forall_mem_cons.mpr ⟨lw_p17, List.forall_mem_cons.mpr ⟨lw_p18, List.forall_mem_cons.mpr ⟨lw_p19, List.forall_mem_cons.mpr ⟨lw_p20, List.forall_mem_cons.mpr ⟨lw_p21, List.forall_mem_cons.mpr ⟨lw_p22, List.forall_mem_cons.mpr ⟨lw_p23, List.forall_mem_cons.mpr ⟨lw_p24, List.forall_mem_cons.mpr ⟨lw_p25, List.forall_mem_cons.mpr ⟨lw_p26, List.forall_mem_cons.mpr ⟨lw_p27, List.forall_mem_cons.mpr ⟨lw_p28, List.forall_mem_cons.mpr ⟨lw_p29, List.forall_mem_cons.mpr ⟨lw_p30, List.forall_mem_cons.mpr ⟨lw_p31, fun _ h => absurd h List.not_mem_nil⟩⟩⟩⟩⟩⟩⟩⟩⟩⟩⟩⟩⟩⟩⟩⟩
def lw_privs : List (MethodName × Nat) := lw_privs_1 ++ (lw_privs_2)
def lw_tbl : List Cond := k2_sels lw_privs ++ tables_1
theorem lw_privs_ok : ∀ q ∈ lw_privs, lw_okq q := by
  show ∀ q ∈ lw_privs_1 ++ (lw_privs_2), lw_okq q
  exact List.forall_mem_append.mpr ⟨lw_r1, lw_r2⟩
def og_tb : List Cond := lw_tbl.filter goodWord
def R_C : String := "CycleRows"
def T_C : u_T := fun k => match k with
  | 0 => ("CycleRows", "keys", "LCycleRows$Keys;", true)
  | 1 => ("CycleRows", "edges", "LCycleRows$Edges;", true)
  | 2 => ("CycleRows", "reaches", "LCycleRows$Reaches;", true)
  | 3 => ("CycleRows", "told", "LCycleRows$Told;", true)
  | _ => ("CycleRows", "asking", "LCycleRows$Asking;", true)
def ty_C : Nat → FieldType := fun k => match k with
  | 0 => .object "CycleRows$Keys"
  | 1 => .object "CycleRows$Edges"
  | 2 => .object "CycleRows$Reaches"
  | 3 => .object "CycleRows$Told"
  | _ => .object "CycleRows$Asking"
theorem nm_C : ∀ a, a < 5 → ∀ b, b < 5 → a ≠ b → (T_C a).2.1 ≠ (T_C b).2.1 := by decide +kernel
theorem tyok_C : ∀ k, k < 5 → parseFieldDescriptor (T_C k).2.2.1 = some (ty_C k) := by decide +kernel
theorem lay_C : ∀ w ∈ u_ws R_C T_C 5, w ∈ og_tb := by decide +kernel
def R_K : String := "CycleRows$Keys"
def T_K : u_T := fun k => match k with
  | 0 => ("CycleRows$Keys", "count", "I", false)
  | 1 => ("CycleRows$Keys", "names", "[I", true)
  | 2 => ("CycleRows$Keys", "byRank", "[I", true)
  | _ => ("CycleRows$Keys", "rankOf", "[I", true)
def ty_K : Nat → FieldType := fun k => match k with
  | 0 => .int
  | 1 => .array .int
  | 2 => .array .int
  | _ => .array .int
theorem nm_K : ∀ a, a < 4 → ∀ b, b < 4 → a ≠ b → (T_K a).2.1 ≠ (T_K b).2.1 := by decide +kernel
theorem tyok_K : ∀ k, k < 4 → parseFieldDescriptor (T_K k).2.2.1 = some (ty_K k) := by decide +kernel
theorem lay_K : ∀ w ∈ u_ws R_K T_K 4, w ∈ og_tb := by decide +kernel
def R_E : String := "CycleRows$Edges"
def T_E : u_T := fun k => match k with
  | 0 => ("CycleRows$Edges", "count", "I", false)
  | 1 => ("CycleRows$Edges", "from", "[I", true)
  | 2 => ("CycleRows$Edges", "to", "[I", true)
  | 3 => ("CycleRows$Edges", "places", "[I", true)
  | 4 => ("CycleRows$Edges", "configurations", "[I", true)
  | _ => ("CycleRows$Edges", "gone", "[Z", true)
def ty_E : Nat → FieldType := fun k => match k with
  | 0 => .int
  | 1 => .array .int
  | 2 => .array .int
  | 3 => .array .int
  | 4 => .array .int
  | _ => .array .boolean
theorem nm_E : ∀ a, a < 6 → ∀ b, b < 6 → a ≠ b → (T_E a).2.1 ≠ (T_E b).2.1 := by decide +kernel
theorem tyok_E : ∀ k, k < 6 → parseFieldDescriptor (T_E k).2.2.1 = some (ty_E k) := by decide +kernel
theorem lay_E : ∀ w ∈ u_ws R_E T_E 6, w ∈ og_tb := by decide +kernel
def R_R : String := "CycleRows$Reaches"
def T_R : u_T := fun k => match k with
  | 0 => ("CycleRows$Reaches", "count", "I", false)
  | 1 => ("CycleRows$Reaches", "asked", "[J", true)
  | 2 => ("CycleRows$Reaches", "reached", "[J", true)
  | 3 => ("CycleRows$Reaches", "shortest", "[I", true)
  | _ => ("CycleRows$Reaches", "layers", "[J", true)
def ty_R : Nat → FieldType := fun k => match k with
  | 0 => .int
  | 1 => .array .long
  | 2 => .array .long
  | 3 => .array .int
  | _ => .array .long
theorem nm_R : ∀ a, a < 5 → ∀ b, b < 5 → a ≠ b → (T_R a).2.1 ≠ (T_R b).2.1 := by decide +kernel
theorem tyok_R : ∀ k, k < 5 → parseFieldDescriptor (T_R k).2.2.1 = some (ty_R k) := by decide +kernel
theorem lay_R : ∀ w ∈ u_ws R_R T_R 5, w ∈ og_tb := by decide +kernel
def R_T : String := "CycleRows$Told"
def T_T : u_T := fun k => match k with
  | 0 => ("CycleRows$Told", "configuration", "I", false)
  | 1 => ("CycleRows$Told", "ringCount", "I", false)
  | 2 => ("CycleRows$Told", "partOf", "[I", true)
  | 3 => ("CycleRows$Told", "stateOf", "[I", true)
  | 4 => ("CycleRows$Told", "leastOf", "[I", true)
  | 5 => ("CycleRows$Told", "onlyIn", "[I", true)
  | 6 => ("CycleRows$Told", "keyCount", "I", false)
  | 7 => ("CycleRows$Told", "starts", "[I", true)
  | 8 => ("CycleRows$Told", "ringKeys", "[I", true)
  | _ => ("CycleRows$Told", "ringEdges", "[I", true)
def ty_T : Nat → FieldType := fun k => match k with
  | 0 => .int
  | 1 => .int
  | 2 => .array .int
  | 3 => .array .int
  | 4 => .array .int
  | 5 => .array .int
  | 6 => .int
  | 7 => .array .int
  | 8 => .array .int
  | _ => .array .int
theorem nm_T : ∀ a, a < 10 → ∀ b, b < 10 → a ≠ b → (T_T a).2.1 ≠ (T_T b).2.1 := by decide +kernel
theorem tyok_T : ∀ k, k < 10 → parseFieldDescriptor (T_T k).2.2.1 = some (ty_T k) := by decide +kernel
theorem lay_T : ∀ w ∈ u_ws R_T T_T 10, w ∈ og_tb := by decide +kernel
def R_A : String := "CycleRows$Asking"
def T_A : u_T := fun k => match k with
  | 0 => ("CycleRows$Asking", "metCount", "I", false)
  | 1 => ("CycleRows$Asking", "metKeys", "[I", true)
  | 2 => ("CycleRows$Asking", "openCount", "I", false)
  | 3 => ("CycleRows$Asking", "open", "[I", true)
  | 4 => ("CycleRows$Asking", "nextEdge", "[I", true)
  | _ => ("CycleRows$Asking", "wasAsked", "[Z", true)
def ty_A : Nat → FieldType := fun k => match k with
  | 0 => .int
  | 1 => .array .int
  | 2 => .int
  | 3 => .array .int
  | 4 => .array .int
  | _ => .array .boolean
theorem nm_A : ∀ a, a < 6 → ∀ b, b < 6 → a ≠ b → (T_A a).2.1 ≠ (T_A b).2.1 := by decide +kernel
theorem tyok_A : ∀ k, k < 6 → parseFieldDescriptor (T_A k).2.2.1 = some (ty_A k) := by decide +kernel
theorem lay_A : ∀ w ∈ u_ws R_A T_A 6, w ∈ og_tb := by decide +kernel
def R_M : String := "CycleRowsModel"
def T_M : u_T := fun k => match k with
  | 0 => ("CycleRowsModel", "code", "I", false)
  | 1 => ("CycleRowsModel", "keys", "I", false)
  | 2 => ("CycleRowsModel", "edges", "I", false)
  | 3 => ("CycleRowsModel", "name", "[I", true)
  | 4 => ("CycleRowsModel", "from", "[I", true)
  | 5 => ("CycleRowsModel", "to", "[I", true)
  | 6 => ("CycleRowsModel", "place", "[I", true)
  | 7 => ("CycleRowsModel", "bits", "[I", true)
  | 8 => ("CycleRowsModel", "gone", "[Z", true)
  | 9 => ("CycleRowsModel", "thenKeys", "I", false)
  | 10 => ("CycleRowsModel", "thenEdges", "I", false)
  | 11 => ("CycleRowsModel", "configuration", "I", false)
  | 12 => ("CycleRowsModel", "thenGone", "[Z", true)
  | 13 => ("CycleRowsModel", "order", "[I", true)
  | 14 => ("CycleRowsModel", "rank", "[I", true)
  | 15 => ("CycleRowsModel", "part", "[I", true)
  | 16 => ("CycleRowsModel", "shortest", "[I", true)
  | 17 => ("CycleRowsModel", "asks", "[Z", true)
  | 18 => ("CycleRowsModel", "reaches", "[Z", true)
  | 19 => ("CycleRowsModel", "steps", "[I", true)
  | 20 => ("CycleRowsModel", "parts", "I", false)
  | 21 => ("CycleRowsModel", "rings", "I", false)
  | 22 => ("CycleRowsModel", "ringSize", "[I", true)
  | 23 => ("CycleRowsModel", "ring", "[I", true)
  | 24 => ("CycleRowsModel", "backs", "[Z", true)
  | 25 => ("CycleRowsModel", "metSize", "I", false)
  | 26 => ("CycleRowsModel", "way", "[I", true)
  | 27 => ("CycleRowsModel", "asked", "[I", true)
  | _ => ("CycleRowsModel", "at", "[I", true)
def ty_M : Nat → FieldType := fun k => match k with
  | 0 => .int
  | 1 => .int
  | 2 => .int
  | 3 => .array .int
  | 4 => .array .int
  | 5 => .array .int
  | 6 => .array .int
  | 7 => .array .int
  | 8 => .array .boolean
  | 9 => .int
  | 10 => .int
  | 11 => .int
  | 12 => .array .boolean
  | 13 => .array .int
  | 14 => .array .int
  | 15 => .array .int
  | 16 => .array .int
  | 17 => .array .boolean
  | 18 => .array .boolean
  | 19 => .array .int
  | 20 => .int
  | 21 => .int
  | 22 => .array .int
  | 23 => .array .int
  | 24 => .array .boolean
  | 25 => .int
  | 26 => .array .int
  | 27 => .array .int
  | _ => .array .int
theorem nm_M : ∀ a, a < 29 → ∀ b, b < 29 → a ≠ b → (T_M a).2.1 ≠ (T_M b).2.1 := by decide +kernel
theorem tyok_M : ∀ k, k < 29 → parseFieldDescriptor (T_M k).2.2.1 = some (ty_M k) := by decide +kernel
theorem lay_M : ∀ w ∈ u_ws R_M T_M 29, w ∈ og_tb := by decide +kernel
def R_L : String := "CycleRowsLaw"
def R_X : String := "java/lang/Long"
abbrev vwCl : List vw_C := [(R_C, T_C, 5), (R_K, T_K, 4), (R_E, T_E, 6), (R_R, T_R, 5), (R_T, T_T, 10), (R_A, T_A, 6), (R_M, T_M, 29)]
abbrev b_C_init : ByteArray := prog_1_method_1_code
def y_C_init : MethodName := ⟨R_C, "<init>", "()V"⟩
def ws_C_init : List Cond := .code y_C_init b_C_init 1 none :: og_tb
abbrev b_C_key : ByteArray := prog_1_method_2_code
def y_C_key : MethodName := ⟨R_C, "key", "(I)I"⟩
def ws_C_key : List Cond := .code y_C_key b_C_key 2 (some .int) :: og_tb
abbrev b_C_edge : ByteArray := prog_1_method_3_code
def y_C_edge : MethodName := ⟨R_C, "edge", "(IIII)I"⟩
def ws_C_edge : List Cond := .code y_C_edge b_C_edge 5 (some .int) :: og_tb
abbrev b_C_remove : ByteArray := prog_1_method_4_code
def y_C_remove : MethodName := ⟨R_C, "remove", "(II)I"⟩
def ws_C_remove : List Cond := .code y_C_remove b_C_remove 3 (some .int) :: og_tb
abbrev b_C_cut : ByteArray := prog_1_method_5_code
def y_C_cut : MethodName := ⟨R_C, "cut", "(I)Z"⟩
def ws_C_cut : List Cond := .code y_C_cut b_C_cut 2 (some .boolean) :: og_tb
abbrev b_C_run : ByteArray := prog_1_method_6_code
def y_C_run : MethodName := ⟨R_C, "run", "(I)I"⟩
def ws_C_run : List Cond := .code y_C_run b_C_run 2 (some .int) :: og_tb
abbrev b_C_size : ByteArray := prog_1_method_7_code
def y_C_size : MethodName := ⟨R_C, "size", "(I)I"⟩
def ws_C_size : List Cond := .code y_C_size b_C_size 2 (some .int) :: og_tb
abbrev b_C_ring : ByteArray := prog_1_method_8_code
def y_C_ring : MethodName := ⟨R_C, "ring", "(III)I"⟩
def ws_C_ring : List Cond := .code y_C_ring b_C_ring 4 (some .int) :: og_tb
abbrev b_C_only : ByteArray := prog_1_method_9_code
def y_C_only : MethodName := ⟨R_C, "only", "(I)I"⟩
def ws_C_only : List Cond := .code y_C_only b_C_only 2 (some .int) :: og_tb
abbrev b_C_newest : ByteArray := prog_1_method_10_code
def y_C_newest : MethodName := ⟨R_C, "newest", "(I)I"⟩
def ws_C_newest : List Cond := .code y_C_newest b_C_newest 2 (some .int) :: og_tb
abbrev b_C_strong : ByteArray := prog_1_method_11_code
def y_C_strong : MethodName := ⟨R_C, "strong", "(I)I"⟩
def ws_C_strong : List Cond := .code y_C_strong b_C_strong 2 (some .int) :: og_tb
abbrev b_C_state : ByteArray := prog_1_method_12_code
def y_C_state : MethodName := ⟨R_C, "state", "(I)I"⟩
def ws_C_state : List Cond := .code y_C_state b_C_state 2 (some .int) :: og_tb
abbrev b_C_least : ByteArray := prog_1_method_13_code
def y_C_least : MethodName := ⟨R_C, "least", "(I)I"⟩
def ws_C_least : List Cond := .code y_C_least b_C_least 2 (some .int) :: og_tb
abbrev b_C_ask : ByteArray := prog_1_method_14_code
def y_C_ask : MethodName := ⟨R_C, "ask", "(I)I"⟩
def ws_C_ask : List Cond := .code y_C_ask b_C_ask 2 (some .int) :: og_tb
abbrev b_C_met : ByteArray := prog_1_method_15_code
def y_C_met : MethodName := ⟨R_C, "met", "(I)I"⟩
def ws_C_met : List Cond := .code y_C_met b_C_met 2 (some .int) :: og_tb
abbrev b_M_init : ByteArray := prog_8_method_1_code
def y_M_init : MethodName := ⟨R_M, "<init>", "()V"⟩
def ws_M_init : List Cond := .code y_M_init b_M_init 1 none :: og_tb
abbrev b_M_isKey : ByteArray := prog_8_method_3_code
def y_M_isKey : MethodName := ⟨R_M, "isKey", "(I)Z"⟩
def ws_M_isKey : List Cond := .code y_M_isKey b_M_isKey 2 (some .boolean) :: og_tb
abbrev b_M_key : ByteArray := prog_8_method_4_code
def y_M_key : MethodName := ⟨R_M, "key", "(I)I"⟩
def ws_M_key : List Cond := .code y_M_key b_M_key 4 (some .int) :: og_tb
abbrev b_M_edge : ByteArray := prog_8_method_5_code
def y_M_edge : MethodName := ⟨R_M, "edge", "(IIII)I"⟩
def ws_M_edge : List Cond := .code y_M_edge b_M_edge 5 (some .int) :: og_tb
abbrev b_M_remove : ByteArray := prog_8_method_6_code
def y_M_remove : MethodName := ⟨R_M, "remove", "(II)I"⟩
def ws_M_remove : List Cond := .code y_M_remove b_M_remove 5 (some .int) :: og_tb
abbrev b_M_cut : ByteArray := prog_8_method_7_code
def y_M_cut : MethodName := ⟨R_M, "cut", "(I)Z"⟩
def ws_M_cut : List Cond := .code y_M_cut b_M_cut 2 (some .boolean) :: og_tb
abbrev b_M_isThen : ByteArray := prog_8_method_8_code
def y_M_isThen : MethodName := ⟨R_M, "isThen", "(II)Z"⟩
def ws_M_isThen : List Cond := .code y_M_isThen b_M_isThen 3 (some .boolean) :: og_tb
abbrev b_M_sort : ByteArray := prog_8_method_9_code
def y_M_sort : MethodName := ⟨R_M, "sort", "()V"⟩
def ws_M_sort : List Cond := .code y_M_sort b_M_sort 4 none :: og_tb
abbrev b_M_cell : ByteArray := prog_8_method_10_code
def y_M_cell : MethodName := ⟨R_M, "cell", "(II)I"⟩
def ws_M_cell : List Cond := .code y_M_cell b_M_cell 2 (some .int) :: og_tb
abbrev b_M_close : ByteArray := prog_8_method_11_code
def y_M_close : MethodName := ⟨R_M, "close", "()V"⟩
def ws_M_close : List Cond := .code y_M_close b_M_close 5 none :: og_tb
abbrev b_M_isTogether : ByteArray := prog_8_method_12_code
def y_M_isTogether : MethodName := ⟨R_M, "isTogether", "(II)Z"⟩
def ws_M_isTogether : List Cond := .code y_M_isTogether b_M_isTogether 3 (some .boolean) :: og_tb
abbrev b_M_cutIntoParts : ByteArray := prog_8_method_13_code
def y_M_cutIntoParts : MethodName := ⟨R_M, "cutIntoParts", "()V"⟩
def ws_M_cutIntoParts : List Cond := .code y_M_cutIntoParts b_M_cutIntoParts 4 none :: og_tb
abbrev b_M_lead : ByteArray := prog_8_method_14_code
def y_M_lead : MethodName := ⟨R_M, "lead", "(II)V"⟩
def ws_M_lead : List Cond := .code y_M_lead b_M_lead 7 none :: og_tb
abbrev b_M_tellRing : ByteArray := prog_8_method_15_code
def y_M_tellRing : MethodName := ⟨R_M, "tellRing", "(I)V"⟩
def ws_M_tellRing : List Cond := .code y_M_tellRing b_M_tellRing 7 none :: og_tb
abbrev b_M_run : ByteArray := prog_8_method_16_code
def y_M_run : MethodName := ⟨R_M, "run", "(I)I"⟩
def ws_M_run : List Cond := .code y_M_run b_M_run 3 (some .int) :: og_tb
abbrev b_M_size : ByteArray := prog_8_method_17_code
def y_M_size : MethodName := ⟨R_M, "size", "(I)I"⟩
def ws_M_size : List Cond := .code y_M_size b_M_size 2 (some .int) :: og_tb
abbrev b_M_keyOf : ByteArray := prog_8_method_18_code
def y_M_keyOf : MethodName := ⟨R_M, "keyOf", "(II)I"⟩
def ws_M_keyOf : List Cond := .code y_M_keyOf b_M_keyOf 3 (some .int) :: og_tb
abbrev b_M_edgeOf : ByteArray := prog_8_method_19_code
def y_M_edgeOf : MethodName := ⟨R_M, "edgeOf", "(II)I"⟩
def ws_M_edgeOf : List Cond := .code y_M_edgeOf b_M_edgeOf 5 (some .int) :: og_tb
abbrev b_M_ring : ByteArray := prog_8_method_20_code
def y_M_ring : MethodName := ⟨R_M, "ring", "(III)I"⟩
def ws_M_ring : List Cond := .code y_M_ring b_M_ring 5 (some .int) :: og_tb
abbrev b_M_isRing : ByteArray := prog_8_method_21_code
def y_M_isRing : MethodName := ⟨R_M, "isRing", "(II)Z"⟩
def ws_M_isRing : List Cond := .code y_M_isRing b_M_isRing 7 (some .boolean) :: og_tb
abbrev b_M_only : ByteArray := prog_8_method_22_code
def y_M_only : MethodName := ⟨R_M, "only", "(I)I"⟩
def ws_M_only : List Cond := .code y_M_only b_M_only 3 (some .int) :: og_tb
abbrev b_M_newest : ByteArray := prog_8_method_23_code
def y_M_newest : MethodName := ⟨R_M, "newest", "(I)I"⟩
def ws_M_newest : List Cond := .code y_M_newest b_M_newest 4 (some .int) :: og_tb
abbrev b_M_isThere : ByteArray := prog_8_method_24_code
def y_M_isThere : MethodName := ⟨R_M, "isThere", "(I)Z"⟩
def ws_M_isThere : List Cond := .code y_M_isThere b_M_isThere 2 (some .boolean) :: og_tb
abbrev b_M_strong : ByteArray := prog_8_method_25_code
def y_M_strong : MethodName := ⟨R_M, "strong", "(I)I"⟩
def ws_M_strong : List Cond := .code y_M_strong b_M_strong 2 (some .int) :: og_tb
abbrev b_M_isRinged : ByteArray := prog_8_method_26_code
def y_M_isRinged : MethodName := ⟨R_M, "isRinged", "(I)Z"⟩
def ws_M_isRinged : List Cond := .code y_M_isRinged b_M_isRinged 2 (some .boolean) :: og_tb
abbrev b_M_state : ByteArray := prog_8_method_27_code
def y_M_state : MethodName := ⟨R_M, "state", "(I)I"⟩
def ws_M_state : List Cond := .code y_M_state b_M_state 4 (some .int) :: og_tb
abbrev b_M_least : ByteArray := prog_8_method_28_code
def y_M_least : MethodName := ⟨R_M, "least", "(I)I"⟩
def ws_M_least : List Cond := .code y_M_least b_M_least 2 (some .int) :: og_tb
abbrev b_M_ask : ByteArray := prog_8_method_29_code
def y_M_ask : MethodName := ⟨R_M, "ask", "(I)I"⟩
def ws_M_ask : List Cond := .code y_M_ask b_M_ask 5 (some .int) :: og_tb
abbrev b_M_ringOf : ByteArray := prog_8_method_30_code
def y_M_ringOf : MethodName := ⟨R_M, "ringOf", "(II)I"⟩
def ws_M_ringOf : List Cond := .code y_M_ringOf b_M_ringOf 5 (some .int) :: og_tb
abbrev b_M_met : ByteArray := prog_8_method_31_code
def y_M_met : MethodName := ⟨R_M, "met", "(I)I"⟩
def ws_M_met : List Cond := .code y_M_met b_M_met 2 (some .int) :: og_tb
abbrev b_A_init : ByteArray := prog_2_method_1_code
def y_A_init : MethodName := ⟨R_A, "<init>", "()V"⟩
def ws_A_init : List Cond := .code y_A_init b_A_init 1 none :: og_tb
abbrev b_A_begin : ByteArray := prog_2_method_2_code
def y_A_begin : MethodName := ⟨R_A, "begin", "(II)V"⟩
def ws_A_begin : List Cond := .code y_A_begin b_A_begin 4 none :: og_tb
abbrev b_A_goOn : ByteArray := prog_2_method_3_code
def y_A_goOn : MethodName := ⟨R_A, "goOn", "(LCycleRows$Edges;I)V"⟩
def ws_A_goOn : List Cond := .code y_A_goOn b_A_goOn 5 none :: og_tb
abbrev b_A_push : ByteArray := prog_2_method_4_code
def y_A_push : MethodName := ⟨R_A, "push", "(I)V"⟩
def ws_A_push : List Cond := .code y_A_push b_A_push 2 none :: og_tb
abbrev b_A_nextTarget : ByteArray := prog_2_method_5_code
def y_A_nextTarget : MethodName := ⟨R_A, "nextTarget", "(ILCycleRows$Edges;I)I"⟩
def ws_A_nextTarget : List Cond := .code y_A_nextTarget b_A_nextTarget 6 (some .int) :: og_tb
abbrev b_A_openAt : ByteArray := prog_2_method_6_code
def y_A_openAt : MethodName := ⟨R_A, "openAt", "(I)I"⟩
def ws_A_openAt : List Cond := .code y_A_openAt b_A_openAt 3 (some .int) :: og_tb
abbrev b_A_meet : ByteArray := prog_2_method_7_code
def y_A_meet : MethodName := ⟨R_A, "meet", "(I)V"⟩
def ws_A_meet : List Cond := .code y_A_meet b_A_meet 3 none :: og_tb
abbrev b_E_init : ByteArray := prog_3_method_1_code
def y_E_init : MethodName := ⟨R_E, "<init>", "()V"⟩
def ws_E_init : List Cond := .code y_E_init b_E_init 1 none :: og_tb
abbrev b_E_add : ByteArray := prog_3_method_2_code
def y_E_add : MethodName := ⟨R_E, "add", "(IIII)I"⟩
def ws_E_add : List Cond := .code y_E_add b_E_add 6 (some .int) :: og_tb
abbrev b_E_drop : ByteArray := prog_3_method_3_code
def y_E_drop : MethodName := ⟨R_E, "drop", "(I)Z"⟩
def ws_E_drop : List Cond := .code y_E_drop b_E_drop 2 (some .boolean) :: og_tb
abbrev b_E_dropBetween : ByteArray := prog_3_method_4_code
def y_E_dropBetween : MethodName := ⟨R_E, "dropBetween", "(II)I"⟩
def ws_E_dropBetween : List Cond := .code y_E_dropBetween b_E_dropBetween 5 (some .int) :: og_tb
abbrev b_E_placeOf : ByteArray := prog_3_method_5_code
def y_E_placeOf : MethodName := ⟨R_E, "placeOf", "(I)I"⟩
def ws_E_placeOf : List Cond := .code y_E_placeOf b_E_placeOf 2 (some .int) :: og_tb
abbrev b_E_isIn : ByteArray := prog_3_method_6_code
def y_E_isIn : MethodName := ⟨R_E, "isIn", "(II)Z"⟩
def ws_E_isIn : List Cond := .code y_E_isIn b_E_isIn 3 (some .boolean) :: og_tb
abbrev b_E_leastPlaced : ByteArray := prog_3_method_7_code
def y_E_leastPlaced : MethodName := ⟨R_E, "leastPlaced", "(III)I"⟩
def ws_E_leastPlaced : List Cond := .code y_E_leastPlaced b_E_leastPlaced 6 (some .int) :: og_tb
abbrev b_E_configurationsBetween : ByteArray := prog_3_method_8_code
def y_E_configurationsBetween : MethodName := ⟨R_E, "configurationsBetween", "(II)I"⟩
def ws_E_configurationsBetween : List Cond := .code y_E_configurationsBetween b_E_configurationsBetween 5 (some .int) :: og_tb
abbrev b_E_has : ByteArray := prog_3_method_9_code
def y_E_has : MethodName := ⟨R_E, "has", "(I)Z"⟩
def ws_E_has : List Cond := .code y_E_has b_E_has 2 (some .boolean) :: og_tb
abbrev b_E_joins : ByteArray := prog_3_method_10_code
def y_E_joins : MethodName := ⟨R_E, "joins", "(III)Z"⟩
def ws_E_joins : List Cond := .code y_E_joins b_E_joins 4 (some .boolean) :: og_tb
abbrev b_K_init : ByteArray := prog_4_method_1_code
def y_K_init : MethodName := ⟨R_K, "<init>", "()V"⟩
def ws_K_init : List Cond := .code y_K_init b_K_init 1 none :: og_tb
abbrev b_K_has : ByteArray := prog_4_method_2_code
def y_K_has : MethodName := ⟨R_K, "has", "(I)Z"⟩
def ws_K_has : List Cond := .code y_K_has b_K_has 2 (some .boolean) :: og_tb
abbrev b_K_add : ByteArray := prog_4_method_3_code
def y_K_add : MethodName := ⟨R_K, "add", "(I)I"⟩
def ws_K_add : List Cond := .code y_K_add b_K_add 3 (some .int) :: og_tb
abbrev b_K_isNamed : ByteArray := prog_4_method_4_code
def y_K_isNamed : MethodName := ⟨R_K, "isNamed", "(I)Z"⟩
def ws_K_isNamed : List Cond := .code y_K_isNamed b_K_isNamed 3 (some .boolean) :: og_tb
abbrev b_K_insert : ByteArray := prog_4_method_5_code
def y_K_insert : MethodName := ⟨R_K, "insert", "(I)V"⟩
def ws_K_insert : List Cond := .code y_K_insert b_K_insert 4 none :: og_tb
abbrev b_R_init : ByteArray := prog_5_method_1_code
def y_R_init : MethodName := ⟨R_R, "<init>", "()V"⟩
def ws_R_init : List Cond := .code y_R_init b_R_init 1 none :: og_tb
abbrev b_R_draw : ByteArray := prog_5_method_2_code
def y_R_draw : MethodName := ⟨R_R, "draw", "(LCycleRows$Keys;LCycleRows$Edges;I)V"⟩
def ws_R_draw : List Cond := .code y_R_draw b_R_draw 5 none :: og_tb
abbrev b_R_shortestRing : ByteArray := prog_5_method_3_code
def y_R_shortestRing : MethodName := ⟨R_R, "shortestRing", "(I)I"⟩
def ws_R_shortestRing : List Cond := .code y_R_shortestRing b_R_shortestRing 2 (some .int) :: og_tb
abbrev b_R_reachesRinged : ByteArray := prog_5_method_4_code
def y_R_reachesRinged : MethodName := ⟨R_R, "reachesRinged", "(I)Z"⟩
def ws_R_reachesRinged : List Cond := .code y_R_reachesRinged b_R_reachesRinged 3 (some .boolean) :: og_tb
abbrev b_R_reachEachOther : ByteArray := prog_5_method_5_code
def y_R_reachEachOther : MethodName := ⟨R_R, "reachEachOther", "(II)Z"⟩
def ws_R_reachEachOther : List Cond := .code y_R_reachEachOther b_R_reachEachOther 3 (some .boolean) :: og_tb
abbrev b_R_layTowards : ByteArray := prog_5_method_6_code
def y_R_layTowards : MethodName := ⟨R_R, "layTowards", "(II)V"⟩
def ws_R_layTowards : List Cond := .code y_R_layTowards b_R_layTowards 6 none :: og_tb
abbrev b_R_firstAsked : ByteArray := prog_5_method_7_code
def y_R_firstAsked : MethodName := ⟨R_R, "firstAsked", "(II)I"⟩
def ws_R_firstAsked : List Cond := .code y_R_firstAsked b_R_firstAsked 5 (some .int) :: og_tb
abbrev b_R_follow : ByteArray := prog_5_method_8_code
def y_R_follow : MethodName := ⟨R_R, "follow", "(I)V"⟩
def ws_R_follow : List Cond := .code y_R_follow b_R_follow 7 none :: og_tb
abbrev b_R_askedBy : ByteArray := prog_5_method_9_code
def y_R_askedBy : MethodName := ⟨R_R, "askedBy", "(J)J"⟩
def ws_R_askedBy : List Cond := .code y_R_askedBy b_R_askedBy 8 (some .long) :: og_tb
abbrev b_R_askersOf : ByteArray := prog_5_method_10_code
def y_R_askersOf : MethodName := ⟨R_R, "askersOf", "(J)J"⟩
def ws_R_askersOf : List Cond := .code y_R_askersOf b_R_askersOf 6 (some .long) :: og_tb
abbrev b_R_contains : ByteArray := prog_5_method_11_code
def y_R_contains : MethodName := ⟨R_R, "contains", "(JI)Z"⟩
def ws_R_contains : List Cond := .code y_R_contains b_R_contains 3 (some .boolean) :: og_tb
abbrev b_R_lowest : ByteArray := prog_5_method_12_code
def y_R_lowest : MethodName := ⟨R_R, "lowest", "(J)I"⟩
def ws_R_lowest : List Cond := .code y_R_lowest b_R_lowest 2 (some .int) :: og_tb
abbrev b_T_init : ByteArray := prog_6_method_1_code
def y_T_init : MethodName := ⟨R_T, "<init>", "()V"⟩
def ws_T_init : List Cond := .code y_T_init b_T_init 1 none :: og_tb
abbrev b_T_hasKey : ByteArray := prog_6_method_2_code
def y_T_hasKey : MethodName := ⟨R_T, "hasKey", "(I)Z"⟩
def ws_T_hasKey : List Cond := .code y_T_hasKey b_T_hasKey 2 (some .boolean) :: og_tb
abbrev b_T_hasRing : ByteArray := prog_6_method_3_code
def y_T_hasRing : MethodName := ⟨R_T, "hasRing", "(I)Z"⟩
def ws_T_hasRing : List Cond := .code y_T_hasRing b_T_hasRing 2 (some .boolean) :: og_tb
abbrev b_T_length : ByteArray := prog_6_method_4_code
def y_T_length : MethodName := ⟨R_T, "length", "(I)I"⟩
def ws_T_length : List Cond := .code y_T_length b_T_length 2 (some .int) :: og_tb
abbrev b_T_keyAt : ByteArray := prog_6_method_5_code
def y_T_keyAt : MethodName := ⟨R_T, "keyAt", "(II)I"⟩
def ws_T_keyAt : List Cond := .code y_T_keyAt b_T_keyAt 3 (some .int) :: og_tb
abbrev b_T_edgeAt : ByteArray := prog_6_method_6_code
def y_T_edgeAt : MethodName := ⟨R_T, "edgeAt", "(II)I"⟩
def ws_T_edgeAt : List Cond := .code y_T_edgeAt b_T_edgeAt 3 (some .int) :: og_tb
abbrev b_T_lastEdge : ByteArray := prog_6_method_7_code
def y_T_lastEdge : MethodName := ⟨R_T, "lastEdge", "(I)I"⟩
def ws_T_lastEdge : List Cond := .code y_T_lastEdge b_T_lastEdge 4 (some .int) :: og_tb
abbrev b_T_tell : ByteArray := prog_6_method_8_code
def y_T_tell : MethodName := ⟨R_T, "tell", "(LCycleRows$Keys;LCycleRows$Edges;LCycleRows$Reaches;I)V"⟩
def ws_T_tell : List Cond := .code y_T_tell b_T_tell 6 none :: og_tb
abbrev b_T_tellKeys : ByteArray := prog_6_method_9_code
def y_T_tellKeys : MethodName := ⟨R_T, "tellKeys", "(LCycleRows$Keys;LCycleRows$Reaches;)V"⟩
def ws_T_tellKeys : List Cond := .code y_T_tellKeys b_T_tellKeys 5 none :: og_tb
abbrev b_T_numberParts : ByteArray := prog_6_method_10_code
def y_T_numberParts : MethodName := ⟨R_T, "numberParts", "(LCycleRows$Keys;LCycleRows$Reaches;)V"⟩
def ws_T_numberParts : List Cond := .code y_T_numberParts b_T_numberParts 6 none :: og_tb
abbrev b_T_tellRings : ByteArray := prog_6_method_11_code
def y_T_tellRings : MethodName := ⟨R_T, "tellRings", "(LCycleRows$Keys;LCycleRows$Reaches;)V"⟩
def ws_T_tellRings : List Cond := .code y_T_tellRings b_T_tellRings 4 none :: og_tb
abbrev b_T_firstOfPart : ByteArray := prog_6_method_12_code
def y_T_firstOfPart : MethodName := ⟨R_T, "firstOfPart", "(ILCycleRows$Reaches;)I"⟩
def ws_T_firstOfPart : List Cond := .code y_T_firstOfPart b_T_firstOfPart 4 (some .int) :: og_tb
abbrev b_T_leastRinged : ByteArray := prog_6_method_13_code
def y_T_leastRinged : MethodName := ⟨R_T, "leastRinged", "(ILCycleRows$Reaches;)I"⟩
def ws_T_leastRinged : List Cond := .code y_T_leastRinged b_T_leastRinged 5 (some .int) :: og_tb
abbrev b_T_tellRing : ByteArray := prog_6_method_14_code
def y_T_tellRing : MethodName := ⟨R_T, "tellRing", "(ILCycleRows$Keys;LCycleRows$Reaches;)V"⟩
def ws_T_tellRing : List Cond := .code y_T_tellRing b_T_tellRing 8 none :: og_tb
abbrev b_T_tellEdges : ByteArray := prog_6_method_15_code
def y_T_tellEdges : MethodName := ⟨R_T, "tellEdges", "(ILCycleRows$Edges;)V"⟩
def ws_T_tellEdges : List Cond := .code y_T_tellEdges b_T_tellEdges 7 none :: og_tb
abbrev b_X_bitCount : ByteArray := prog_9_method_50_code
def y_X_bitCount : MethodName := ⟨R_X, "bitCount", "(J)I"⟩
def ws_X_bitCount : List Cond := .code y_X_bitCount b_X_bitCount 2 (some .int) :: og_tb
end
section
-- the good words of the tables: a callee's words stand among the caller's
theorem og_g {w : Cond} (h : w ∈ og_tb) : w ∈ og_tb ∧ ((w.onTables && w.keeps) = true ∨ ∃ ty, w = .arrayClass ty) := ⟨h, good_of_word (List.mem_filter.mp h).2⟩
theorem og_gC {cw : Cond} (h : cw ∈ og_tb) : GoodIn og_tb (cw :: og_tb) := fun w hw => by
  rcases List.mem_cons.mp hw with rfl | hw
  · exact og_g h
  · exact og_g hw
theorem og_gV {own : String} {idx : Nat} {C : String} {y : MethodName} {cw : Cond} (h1 : Cond.methodLink own idx y ∈ og_tb) (h2 : Cond.instanceMethod y ∈ og_tb) (h3 : Cond.selects C y y ∈ og_tb) (h4 : Cond.initialized C ∈ og_tb) (h5 : cw ∈ og_tb) : GoodIn og_tb (wsV own idx C y (cw :: og_tb)) := fun w hw => by
  rcases List.mem_append.mp hw with hw | hw
  · rcases List.mem_cons.mp hw with rfl | hw
    · exact og_g h1
    · rcases List.mem_cons.mp hw with rfl | hw
      · exact og_g h2
      · rcases List.mem_cons.mp hw with rfl | hw
        · exact og_g h3
        · rcases List.mem_cons.mp hw with rfl | hw
          · exact og_g h4
          · exact absurd hw List.not_mem_nil
  · exact og_gC h5 w hw
theorem og_gS {own : String} {idx : Nat} {y : MethodName} {cw : Cond} (h1 : Cond.methodLink own idx y ∈ og_tb) (h2 : Cond.static y ∈ og_tb) (h4 : Cond.initialized y.cls ∈ og_tb) (h5 : cw ∈ og_tb) : GoodIn og_tb (va_wsS own idx y (cw :: og_tb)) := fun w hw => by
  rcases List.mem_append.mp hw with hw | hw
  · rcases List.mem_cons.mp hw with rfl | hw
    · exact og_g h1
    · rcases List.mem_cons.mp hw with rfl | hw
      · exact og_g h2
      · rcases List.mem_cons.mp hw with rfl | hw
        · exact og_g h4
        · exact absurd hw List.not_mem_nil
  · exact og_gC h5 w hw

theorem tb_0 : Cond.fieldLink R_K 9 "CycleRows$Keys" "count" "I" ∈ og_tb := List.mem_filter.mpr ⟨List.mem_append_right _ (List.mem_of_getElem? (i := 25) (by decide +kernel)), by decide +kernel⟩
theorem tb_1 : Cond.fieldLink R_K 15 "CycleRows$Keys" "names" "[I" ∈ og_tb := List.mem_filter.mpr ⟨List.mem_append_right _ (List.mem_of_getElem? (i := 29) (by decide +kernel)), by decide +kernel⟩
theorem tb_2 : Cond.fieldLink R_K 22 "CycleRows$Keys" "rankOf" "[I" ∈ og_tb := List.mem_filter.mpr ⟨List.mem_append_right _ (List.mem_of_getElem? (i := 32) (by decide +kernel)), by decide +kernel⟩
theorem tb_3 : Cond.fieldLink R_K 19 "CycleRows$Keys" "byRank" "[I" ∈ og_tb := List.mem_filter.mpr ⟨List.mem_append_right _ (List.mem_of_getElem? (i := 30) (by decide +kernel)), by decide +kernel⟩
theorem tb_4 : Cond.methodLink R_K 25 y_K_isNamed ∈ og_tb := List.mem_filter.mpr ⟨List.mem_append_right _ (List.mem_of_getElem? (i := 193) (by decide +kernel)), by decide +kernel⟩
theorem tb_5 : Cond.instanceMethod y_K_isNamed ∈ og_tb := List.mem_filter.mpr ⟨List.mem_append_right _ (List.mem_of_getElem? (i := 195) (by decide +kernel)), by decide +kernel⟩
theorem tb_6 : Cond.selects R_K y_K_isNamed y_K_isNamed ∈ og_tb := List.mem_filter.mpr ⟨List.mem_append_left _ (List.mem_of_getElem? (i := 0) (by decide +kernel)), by decide +kernel⟩
theorem tb_7 : Cond.initialized R_K ∈ og_tb := List.mem_filter.mpr ⟨List.mem_append_right _ (List.mem_of_getElem? (i := 2) (by decide +kernel)), by decide +kernel⟩
theorem tb_8 : Cond.code y_K_isNamed b_K_isNamed 3 (some .boolean) ∈ og_tb := List.mem_filter.mpr ⟨List.mem_append_right _ (List.mem_of_getElem? (i := 196) (by decide +kernel)), by decide +kernel⟩
theorem tb_9 : Cond.methodLink R_K 29 y_K_insert ∈ og_tb := List.mem_filter.mpr ⟨List.mem_append_right _ (List.mem_of_getElem? (i := 197) (by decide +kernel)), by decide +kernel⟩
theorem tb_10 : Cond.instanceMethod y_K_insert ∈ og_tb := List.mem_filter.mpr ⟨List.mem_append_right _ (List.mem_of_getElem? (i := 199) (by decide +kernel)), by decide +kernel⟩
theorem tb_11 : Cond.selects R_K y_K_insert y_K_insert ∈ og_tb := List.mem_filter.mpr ⟨List.mem_append_left _ (List.mem_of_getElem? (i := 1) (by decide +kernel)), by decide +kernel⟩
theorem tb_12 : Cond.code y_K_insert b_K_insert 4 none ∈ og_tb := List.mem_filter.mpr ⟨List.mem_append_right _ (List.mem_of_getElem? (i := 200) (by decide +kernel)), by decide +kernel⟩
theorem tb_13 : Cond.fieldLink R_C 10 "CycleRows" "keys" "LCycleRows$Keys;" ∈ og_tb := List.mem_filter.mpr ⟨List.mem_append_right _ (List.mem_of_getElem? (i := 169) (by decide +kernel)), by decide +kernel⟩
theorem tb_14 : Cond.methodLink R_C 44 y_K_add ∈ og_tb := List.mem_filter.mpr ⟨List.mem_append_right _ (List.mem_of_getElem? (i := 189) (by decide +kernel)), by decide +kernel⟩
theorem tb_15 : Cond.instanceMethod y_K_add ∈ og_tb := List.mem_filter.mpr ⟨List.mem_append_right _ (List.mem_of_getElem? (i := 190) (by decide +kernel)), by decide +kernel⟩
theorem tb_16 : Cond.selects R_K y_K_add y_K_add ∈ og_tb := List.mem_filter.mpr ⟨List.mem_append_right _ (List.mem_of_getElem? (i := 191) (by decide +kernel)), by decide +kernel⟩
theorem tb_17 : Cond.code y_K_add b_K_add 3 (some .int) ∈ og_tb := List.mem_filter.mpr ⟨List.mem_append_right _ (List.mem_of_getElem? (i := 192) (by decide +kernel)), by decide +kernel⟩
theorem tb_18 : Cond.fieldLink R_E 9 "CycleRows$Edges" "count" "I" ∈ og_tb := List.mem_filter.mpr ⟨List.mem_append_right _ (List.mem_of_getElem? (i := 50) (by decide +kernel)), by decide +kernel⟩
theorem tb_19 : Cond.fieldLink R_E 15 "CycleRows$Edges" "from" "[I" ∈ og_tb := List.mem_filter.mpr ⟨List.mem_append_right _ (List.mem_of_getElem? (i := 53) (by decide +kernel)), by decide +kernel⟩
theorem tb_20 : Cond.fieldLink R_E 19 "CycleRows$Edges" "to" "[I" ∈ og_tb := List.mem_filter.mpr ⟨List.mem_append_right _ (List.mem_of_getElem? (i := 56) (by decide +kernel)), by decide +kernel⟩
theorem tb_21 : Cond.fieldLink R_E 22 "CycleRows$Edges" "places" "[I" ∈ og_tb := List.mem_filter.mpr ⟨List.mem_append_right _ (List.mem_of_getElem? (i := 59) (by decide +kernel)), by decide +kernel⟩
theorem tb_22 : Cond.fieldLink R_E 25 "CycleRows$Edges" "configurations" "[I" ∈ og_tb := List.mem_filter.mpr ⟨List.mem_append_right _ (List.mem_of_getElem? (i := 60) (by decide +kernel)), by decide +kernel⟩
theorem tb_23 : Cond.methodLink R_C 48 y_K_has ∈ og_tb := List.mem_filter.mpr ⟨List.mem_append_right _ (List.mem_of_getElem? (i := 205) (by decide +kernel)), by decide +kernel⟩
theorem tb_24 : Cond.instanceMethod y_K_has ∈ og_tb := List.mem_filter.mpr ⟨List.mem_append_right _ (List.mem_of_getElem? (i := 206) (by decide +kernel)), by decide +kernel⟩
theorem tb_25 : Cond.selects R_K y_K_has y_K_has ∈ og_tb := List.mem_filter.mpr ⟨List.mem_append_right _ (List.mem_of_getElem? (i := 207) (by decide +kernel)), by decide +kernel⟩
theorem tb_26 : Cond.code y_K_has b_K_has 2 (some .boolean) ∈ og_tb := List.mem_filter.mpr ⟨List.mem_append_right _ (List.mem_of_getElem? (i := 208) (by decide +kernel)), by decide +kernel⟩
theorem tb_27 : Cond.fieldLink R_C 19 "CycleRows" "edges" "LCycleRows$Edges;" ∈ og_tb := List.mem_filter.mpr ⟨List.mem_append_right _ (List.mem_of_getElem? (i := 170) (by decide +kernel)), by decide +kernel⟩
theorem tb_28 : Cond.methodLink R_C 52 y_E_add ∈ og_tb := List.mem_filter.mpr ⟨List.mem_append_right _ (List.mem_of_getElem? (i := 209) (by decide +kernel)), by decide +kernel⟩
theorem tb_29 : Cond.instanceMethod y_E_add ∈ og_tb := List.mem_filter.mpr ⟨List.mem_append_right _ (List.mem_of_getElem? (i := 210) (by decide +kernel)), by decide +kernel⟩
theorem tb_30 : Cond.selects R_E y_E_add y_E_add ∈ og_tb := List.mem_filter.mpr ⟨List.mem_append_right _ (List.mem_of_getElem? (i := 211) (by decide +kernel)), by decide +kernel⟩
theorem tb_31 : Cond.initialized R_E ∈ og_tb := List.mem_filter.mpr ⟨List.mem_append_right _ (List.mem_of_getElem? (i := 3) (by decide +kernel)), by decide +kernel⟩
theorem tb_32 : Cond.code y_E_add b_E_add 6 (some .int) ∈ og_tb := List.mem_filter.mpr ⟨List.mem_append_right _ (List.mem_of_getElem? (i := 212) (by decide +kernel)), by decide +kernel⟩
theorem tb_33 : Cond.methodLink R_E 32 y_E_has ∈ og_tb := List.mem_filter.mpr ⟨List.mem_append_right _ (List.mem_of_getElem? (i := 229) (by decide +kernel)), by decide +kernel⟩
theorem tb_34 : Cond.instanceMethod y_E_has ∈ og_tb := List.mem_filter.mpr ⟨List.mem_append_right _ (List.mem_of_getElem? (i := 231) (by decide +kernel)), by decide +kernel⟩
theorem tb_35 : Cond.selects R_E y_E_has y_E_has ∈ og_tb := List.mem_filter.mpr ⟨List.mem_append_left _ (List.mem_of_getElem? (i := 3) (by decide +kernel)), by decide +kernel⟩
theorem tb_36 : Cond.code y_E_has b_E_has 2 (some .boolean) ∈ og_tb := List.mem_filter.mpr ⟨List.mem_append_right _ (List.mem_of_getElem? (i := 232) (by decide +kernel)), by decide +kernel⟩
theorem tb_37 : Cond.fieldLink R_E 28 "CycleRows$Edges" "gone" "[Z" ∈ og_tb := List.mem_filter.mpr ⟨List.mem_append_right _ (List.mem_of_getElem? (i := 61) (by decide +kernel)), by decide +kernel⟩
theorem tb_38 : Cond.methodLink R_E 36 y_E_joins ∈ og_tb := List.mem_filter.mpr ⟨List.mem_append_right _ (List.mem_of_getElem? (i := 221) (by decide +kernel)), by decide +kernel⟩
theorem tb_39 : Cond.instanceMethod y_E_joins ∈ og_tb := List.mem_filter.mpr ⟨List.mem_append_right _ (List.mem_of_getElem? (i := 223) (by decide +kernel)), by decide +kernel⟩
theorem tb_40 : Cond.selects R_E y_E_joins y_E_joins ∈ og_tb := List.mem_filter.mpr ⟨List.mem_append_left _ (List.mem_of_getElem? (i := 2) (by decide +kernel)), by decide +kernel⟩
theorem tb_41 : Cond.code y_E_joins b_E_joins 4 (some .boolean) ∈ og_tb := List.mem_filter.mpr ⟨List.mem_append_right _ (List.mem_of_getElem? (i := 224) (by decide +kernel)), by decide +kernel⟩
theorem tb_42 : Cond.methodLink R_E 40 y_E_drop ∈ og_tb := List.mem_filter.mpr ⟨List.mem_append_right _ (List.mem_of_getElem? (i := 225) (by decide +kernel)), by decide +kernel⟩
theorem tb_43 : Cond.instanceMethod y_E_drop ∈ og_tb := List.mem_filter.mpr ⟨List.mem_append_right _ (List.mem_of_getElem? (i := 226) (by decide +kernel)), by decide +kernel⟩
theorem tb_44 : Cond.selects R_E y_E_drop y_E_drop ∈ og_tb := List.mem_filter.mpr ⟨List.mem_append_right _ (List.mem_of_getElem? (i := 227) (by decide +kernel)), by decide +kernel⟩
theorem tb_45 : Cond.code y_E_drop b_E_drop 2 (some .boolean) ∈ og_tb := List.mem_filter.mpr ⟨List.mem_append_right _ (List.mem_of_getElem? (i := 228) (by decide +kernel)), by decide +kernel⟩
theorem tb_46 : Cond.methodLink R_C 55 y_E_dropBetween ∈ og_tb := List.mem_filter.mpr ⟨List.mem_append_right _ (List.mem_of_getElem? (i := 217) (by decide +kernel)), by decide +kernel⟩
theorem tb_47 : Cond.instanceMethod y_E_dropBetween ∈ og_tb := List.mem_filter.mpr ⟨List.mem_append_right _ (List.mem_of_getElem? (i := 218) (by decide +kernel)), by decide +kernel⟩
theorem tb_48 : Cond.selects R_E y_E_dropBetween y_E_dropBetween ∈ og_tb := List.mem_filter.mpr ⟨List.mem_append_right _ (List.mem_of_getElem? (i := 219) (by decide +kernel)), by decide +kernel⟩
theorem tb_49 : Cond.code y_E_dropBetween b_E_dropBetween 5 (some .int) ∈ og_tb := List.mem_filter.mpr ⟨List.mem_append_right _ (List.mem_of_getElem? (i := 220) (by decide +kernel)), by decide +kernel⟩
theorem tb_50 : Cond.methodLink R_C 59 y_E_drop ∈ og_tb := List.mem_filter.mpr ⟨List.mem_append_right _ (List.mem_of_getElem? (i := 237) (by decide +kernel)), by decide +kernel⟩
theorem tb_51 : Cond.constantLong R_X 314 6148914691236517205 ∈ og_tb := List.mem_filter.mpr ⟨List.mem_append_right _ (List.mem_of_getElem? (i := 264) (by decide +kernel)), by decide +kernel⟩
theorem tb_52 : Cond.constantLong R_X 316 3689348814741910323 ∈ og_tb := List.mem_filter.mpr ⟨List.mem_append_right _ (List.mem_of_getElem? (i := 265) (by decide +kernel)), by decide +kernel⟩
theorem tb_53 : Cond.constantLong R_X 318 1085102592571150095 ∈ og_tb := List.mem_filter.mpr ⟨List.mem_append_right _ (List.mem_of_getElem? (i := 266) (by decide +kernel)), by decide +kernel⟩
theorem tb_54 : Cond.methodLink R_R 69 y_X_bitCount ∈ og_tb := List.mem_filter.mpr ⟨List.mem_append_right _ (List.mem_of_getElem? (i := 261) (by decide +kernel)), by decide +kernel⟩
theorem tb_55 : Cond.static y_X_bitCount ∈ og_tb := List.mem_filter.mpr ⟨List.mem_append_right _ (List.mem_of_getElem? (i := 262) (by decide +kernel)), by decide +kernel⟩
theorem tb_56 : Cond.initialized R_X ∈ og_tb := List.mem_filter.mpr ⟨List.mem_append_right _ (List.mem_of_getElem? (i := 8) (by decide +kernel)), by decide +kernel⟩
theorem tb_57 : Cond.code y_X_bitCount b_X_bitCount 2 (some .int) ∈ og_tb := List.mem_filter.mpr ⟨List.mem_append_right _ (List.mem_of_getElem? (i := 263) (by decide +kernel)), by decide +kernel⟩
theorem tb_58 : Cond.fieldLink R_R 15 "CycleRows$Reaches" "asked" "[J" ∈ og_tb := List.mem_filter.mpr ⟨List.mem_append_right _ (List.mem_of_getElem? (i := 83) (by decide +kernel)), by decide +kernel⟩
theorem tb_59 : Cond.methodLink R_R 62 y_R_lowest ∈ og_tb := List.mem_filter.mpr ⟨List.mem_append_right _ (List.mem_of_getElem? (i := 267) (by decide +kernel)), by decide +kernel⟩
theorem tb_60 : Cond.static y_R_lowest ∈ og_tb := List.mem_filter.mpr ⟨List.mem_append_right _ (List.mem_of_getElem? (i := 268) (by decide +kernel)), by decide +kernel⟩
theorem tb_61 : Cond.initialized R_R ∈ og_tb := List.mem_filter.mpr ⟨List.mem_append_right _ (List.mem_of_getElem? (i := 4) (by decide +kernel)), by decide +kernel⟩
theorem tb_62 : Cond.code y_R_lowest b_R_lowest 2 (some .int) ∈ og_tb := List.mem_filter.mpr ⟨List.mem_append_right _ (List.mem_of_getElem? (i := 269) (by decide +kernel)), by decide +kernel⟩
theorem tb_63 : Cond.fieldLink R_R 22 "CycleRows$Reaches" "shortest" "[I" ∈ og_tb := List.mem_filter.mpr ⟨List.mem_append_right _ (List.mem_of_getElem? (i := 85) (by decide +kernel)), by decide +kernel⟩
theorem tb_64 : Cond.fieldLink R_R 19 "CycleRows$Reaches" "reached" "[J" ∈ og_tb := List.mem_filter.mpr ⟨List.mem_append_right _ (List.mem_of_getElem? (i := 84) (by decide +kernel)), by decide +kernel⟩
theorem tb_65 : Cond.fieldLink R_R 9 "CycleRows$Reaches" "count" "I" ∈ og_tb := List.mem_filter.mpr ⟨List.mem_append_right _ (List.mem_of_getElem? (i := 82) (by decide +kernel)), by decide +kernel⟩
theorem tb_66 : Cond.methodLink R_R 52 y_R_contains ∈ og_tb := List.mem_filter.mpr ⟨List.mem_append_right _ (List.mem_of_getElem? (i := 254) (by decide +kernel)), by decide +kernel⟩
theorem tb_67 : Cond.static y_R_contains ∈ og_tb := List.mem_filter.mpr ⟨List.mem_append_right _ (List.mem_of_getElem? (i := 255) (by decide +kernel)), by decide +kernel⟩
theorem tb_68 : Cond.code y_R_contains b_R_contains 3 (some .boolean) ∈ og_tb := List.mem_filter.mpr ⟨List.mem_append_right _ (List.mem_of_getElem? (i := 256) (by decide +kernel)), by decide +kernel⟩
theorem tb_69 : Cond.methodLink R_R 66 y_R_askedBy ∈ og_tb := List.mem_filter.mpr ⟨List.mem_append_right _ (List.mem_of_getElem? (i := 257) (by decide +kernel)), by decide +kernel⟩
theorem tb_70 : Cond.instanceMethod y_R_askedBy ∈ og_tb := List.mem_filter.mpr ⟨List.mem_append_right _ (List.mem_of_getElem? (i := 259) (by decide +kernel)), by decide +kernel⟩
theorem tb_71 : Cond.selects R_R y_R_askedBy y_R_askedBy ∈ og_tb := List.mem_filter.mpr ⟨List.mem_append_left _ (List.mem_of_getElem? (i := 5) (by decide +kernel)), by decide +kernel⟩
theorem tb_72 : Cond.code y_R_askedBy b_R_askedBy 8 (some .long) ∈ og_tb := List.mem_filter.mpr ⟨List.mem_append_right _ (List.mem_of_getElem? (i := 260) (by decide +kernel)), by decide +kernel⟩
theorem tb_73 : Cond.constantLong R_R 60 (-1) ∈ og_tb := List.mem_filter.mpr ⟨List.mem_append_right _ (List.mem_of_getElem? (i := 270) (by decide +kernel)), by decide +kernel⟩
theorem tb_74 : Cond.fieldLink R_R 29 "CycleRows$Keys" "count" "I" ∈ og_tb := List.mem_filter.mpr ⟨List.mem_append_right _ (List.mem_of_getElem? (i := 26) (by decide +kernel)), by decide +kernel⟩
theorem tb_75 : Cond.methodLink R_R 48 y_R_follow ∈ og_tb := List.mem_filter.mpr ⟨List.mem_append_right _ (List.mem_of_getElem? (i := 250) (by decide +kernel)), by decide +kernel⟩
theorem tb_76 : Cond.instanceMethod y_R_follow ∈ og_tb := List.mem_filter.mpr ⟨List.mem_append_right _ (List.mem_of_getElem? (i := 252) (by decide +kernel)), by decide +kernel⟩
theorem tb_77 : Cond.selects R_R y_R_follow y_R_follow ∈ og_tb := List.mem_filter.mpr ⟨List.mem_append_left _ (List.mem_of_getElem? (i := 4) (by decide +kernel)), by decide +kernel⟩
theorem tb_78 : Cond.code y_R_follow b_R_follow 7 none ∈ og_tb := List.mem_filter.mpr ⟨List.mem_append_right _ (List.mem_of_getElem? (i := 253) (by decide +kernel)), by decide +kernel⟩
theorem tb_79 : Cond.fieldLink R_R 32 "CycleRows$Edges" "count" "I" ∈ og_tb := List.mem_filter.mpr ⟨List.mem_append_right _ (List.mem_of_getElem? (i := 51) (by decide +kernel)), by decide +kernel⟩
theorem tb_80 : Cond.methodLink R_R 35 y_E_isIn ∈ og_tb := List.mem_filter.mpr ⟨List.mem_append_right _ (List.mem_of_getElem? (i := 246) (by decide +kernel)), by decide +kernel⟩
theorem tb_81 : Cond.instanceMethod y_E_isIn ∈ og_tb := List.mem_filter.mpr ⟨List.mem_append_right _ (List.mem_of_getElem? (i := 247) (by decide +kernel)), by decide +kernel⟩
theorem tb_82 : Cond.selects R_E y_E_isIn y_E_isIn ∈ og_tb := List.mem_filter.mpr ⟨List.mem_append_right _ (List.mem_of_getElem? (i := 248) (by decide +kernel)), by decide +kernel⟩
theorem tb_83 : Cond.code y_E_isIn b_E_isIn 3 (some .boolean) ∈ og_tb := List.mem_filter.mpr ⟨List.mem_append_right _ (List.mem_of_getElem? (i := 249) (by decide +kernel)), by decide +kernel⟩
theorem tb_84 : Cond.fieldLink R_R 39 "CycleRows$Keys" "rankOf" "[I" ∈ og_tb := List.mem_filter.mpr ⟨List.mem_append_right _ (List.mem_of_getElem? (i := 33) (by decide +kernel)), by decide +kernel⟩
theorem tb_85 : Cond.fieldLink R_R 42 "CycleRows$Edges" "from" "[I" ∈ og_tb := List.mem_filter.mpr ⟨List.mem_append_right _ (List.mem_of_getElem? (i := 54) (by decide +kernel)), by decide +kernel⟩
theorem tb_86 : Cond.fieldLink R_R 45 "CycleRows$Edges" "to" "[I" ∈ og_tb := List.mem_filter.mpr ⟨List.mem_append_right _ (List.mem_of_getElem? (i := 57) (by decide +kernel)), by decide +kernel⟩
theorem tb_87 : Cond.fieldLink R_T 31 "CycleRows$Told" "keyCount" "I" ∈ og_tb := List.mem_filter.mpr ⟨List.mem_append_right _ (List.mem_of_getElem? (i := 117) (by decide +kernel)), by decide +kernel⟩
theorem tb_88 : Cond.fieldLink R_T 68 "CycleRows$Keys" "byRank" "[I" ∈ og_tb := List.mem_filter.mpr ⟨List.mem_append_right _ (List.mem_of_getElem? (i := 31) (by decide +kernel)), by decide +kernel⟩
theorem tb_89 : Cond.fieldLink R_T 25 "CycleRows$Told" "leastOf" "[I" ∈ og_tb := List.mem_filter.mpr ⟨List.mem_append_right _ (List.mem_of_getElem? (i := 113) (by decide +kernel)), by decide +kernel⟩
theorem tb_90 : Cond.methodLink R_T 71 y_R_shortestRing ∈ og_tb := List.mem_filter.mpr ⟨List.mem_append_right _ (List.mem_of_getElem? (i := 279) (by decide +kernel)), by decide +kernel⟩
theorem tb_91 : Cond.instanceMethod y_R_shortestRing ∈ og_tb := List.mem_filter.mpr ⟨List.mem_append_right _ (List.mem_of_getElem? (i := 280) (by decide +kernel)), by decide +kernel⟩
theorem tb_92 : Cond.selects R_R y_R_shortestRing y_R_shortestRing ∈ og_tb := List.mem_filter.mpr ⟨List.mem_append_right _ (List.mem_of_getElem? (i := 281) (by decide +kernel)), by decide +kernel⟩
theorem tb_93 : Cond.code y_R_shortestRing b_R_shortestRing 2 (some .int) ∈ og_tb := List.mem_filter.mpr ⟨List.mem_append_right _ (List.mem_of_getElem? (i := 282) (by decide +kernel)), by decide +kernel⟩
theorem tb_94 : Cond.fieldLink R_T 22 "CycleRows$Told" "stateOf" "[I" ∈ og_tb := List.mem_filter.mpr ⟨List.mem_append_right _ (List.mem_of_getElem? (i := 111) (by decide +kernel)), by decide +kernel⟩
theorem tb_95 : Cond.methodLink R_T 77 y_R_reachesRinged ∈ og_tb := List.mem_filter.mpr ⟨List.mem_append_right _ (List.mem_of_getElem? (i := 283) (by decide +kernel)), by decide +kernel⟩
theorem tb_96 : Cond.instanceMethod y_R_reachesRinged ∈ og_tb := List.mem_filter.mpr ⟨List.mem_append_right _ (List.mem_of_getElem? (i := 284) (by decide +kernel)), by decide +kernel⟩
theorem tb_97 : Cond.selects R_R y_R_reachesRinged y_R_reachesRinged ∈ og_tb := List.mem_filter.mpr ⟨List.mem_append_right _ (List.mem_of_getElem? (i := 285) (by decide +kernel)), by decide +kernel⟩
theorem tb_98 : Cond.code y_R_reachesRinged b_R_reachesRinged 3 (some .boolean) ∈ og_tb := List.mem_filter.mpr ⟨List.mem_append_right _ (List.mem_of_getElem? (i := 286) (by decide +kernel)), by decide +kernel⟩
theorem tb_99 : Cond.methodLink R_T 92 y_R_reachEachOther ∈ og_tb := List.mem_filter.mpr ⟨List.mem_append_right _ (List.mem_of_getElem? (i := 295) (by decide +kernel)), by decide +kernel⟩
theorem tb_100 : Cond.instanceMethod y_R_reachEachOther ∈ og_tb := List.mem_filter.mpr ⟨List.mem_append_right _ (List.mem_of_getElem? (i := 296) (by decide +kernel)), by decide +kernel⟩
theorem tb_101 : Cond.selects R_R y_R_reachEachOther y_R_reachEachOther ∈ og_tb := List.mem_filter.mpr ⟨List.mem_append_right _ (List.mem_of_getElem? (i := 297) (by decide +kernel)), by decide +kernel⟩
theorem tb_102 : Cond.code y_R_reachEachOther b_R_reachEachOther 3 (some .boolean) ∈ og_tb := List.mem_filter.mpr ⟨List.mem_append_right _ (List.mem_of_getElem? (i := 298) (by decide +kernel)), by decide +kernel⟩
theorem tb_103 : Cond.methodLink R_T 81 y_T_firstOfPart ∈ og_tb := List.mem_filter.mpr ⟨List.mem_append_right _ (List.mem_of_getElem? (i := 291) (by decide +kernel)), by decide +kernel⟩
theorem tb_104 : Cond.instanceMethod y_T_firstOfPart ∈ og_tb := List.mem_filter.mpr ⟨List.mem_append_right _ (List.mem_of_getElem? (i := 293) (by decide +kernel)), by decide +kernel⟩
theorem tb_105 : Cond.selects R_T y_T_firstOfPart y_T_firstOfPart ∈ og_tb := List.mem_filter.mpr ⟨List.mem_append_left _ (List.mem_of_getElem? (i := 8) (by decide +kernel)), by decide +kernel⟩
theorem tb_106 : Cond.initialized R_T ∈ og_tb := List.mem_filter.mpr ⟨List.mem_append_right _ (List.mem_of_getElem? (i := 5) (by decide +kernel)), by decide +kernel⟩
theorem tb_107 : Cond.code y_T_firstOfPart b_T_firstOfPart 4 (some .int) ∈ og_tb := List.mem_filter.mpr ⟨List.mem_append_right _ (List.mem_of_getElem? (i := 294) (by decide +kernel)), by decide +kernel⟩
theorem tb_108 : Cond.fieldLink R_T 18 "CycleRows$Told" "partOf" "[I" ∈ og_tb := List.mem_filter.mpr ⟨List.mem_append_right _ (List.mem_of_getElem? (i := 109) (by decide +kernel)), by decide +kernel⟩
theorem tb_109 : Cond.fieldLink R_R 26 "CycleRows$Reaches" "layers" "[J" ∈ og_tb := List.mem_filter.mpr ⟨List.mem_append_right _ (List.mem_of_getElem? (i := 86) (by decide +kernel)), by decide +kernel⟩
theorem tb_110 : Cond.methodLink R_R 56 y_R_askersOf ∈ og_tb := List.mem_filter.mpr ⟨List.mem_append_right _ (List.mem_of_getElem? (i := 315) (by decide +kernel)), by decide +kernel⟩
theorem tb_111 : Cond.instanceMethod y_R_askersOf ∈ og_tb := List.mem_filter.mpr ⟨List.mem_append_right _ (List.mem_of_getElem? (i := 317) (by decide +kernel)), by decide +kernel⟩
theorem tb_112 : Cond.selects R_R y_R_askersOf y_R_askersOf ∈ og_tb := List.mem_filter.mpr ⟨List.mem_append_left _ (List.mem_of_getElem? (i := 12) (by decide +kernel)), by decide +kernel⟩
theorem tb_113 : Cond.code y_R_askersOf b_R_askersOf 6 (some .long) ∈ og_tb := List.mem_filter.mpr ⟨List.mem_append_right _ (List.mem_of_getElem? (i := 318) (by decide +kernel)), by decide +kernel⟩
theorem tb_114 : Cond.fieldLink R_T 34 "CycleRows$Told" "starts" "[I" ∈ og_tb := List.mem_filter.mpr ⟨List.mem_append_right _ (List.mem_of_getElem? (i := 118) (by decide +kernel)), by decide +kernel⟩
theorem tb_115 : Cond.fieldLink R_T 15 "CycleRows$Told" "ringCount" "I" ∈ og_tb := List.mem_filter.mpr ⟨List.mem_append_right _ (List.mem_of_getElem? (i := 107) (by decide +kernel)), by decide +kernel⟩
theorem tb_116 : Cond.methodLink R_T 96 y_R_layTowards ∈ og_tb := List.mem_filter.mpr ⟨List.mem_append_right _ (List.mem_of_getElem? (i := 311) (by decide +kernel)), by decide +kernel⟩
theorem tb_117 : Cond.instanceMethod y_R_layTowards ∈ og_tb := List.mem_filter.mpr ⟨List.mem_append_right _ (List.mem_of_getElem? (i := 312) (by decide +kernel)), by decide +kernel⟩
theorem tb_118 : Cond.selects R_R y_R_layTowards y_R_layTowards ∈ og_tb := List.mem_filter.mpr ⟨List.mem_append_right _ (List.mem_of_getElem? (i := 313) (by decide +kernel)), by decide +kernel⟩
theorem tb_119 : Cond.code y_R_layTowards b_R_layTowards 6 none ∈ og_tb := List.mem_filter.mpr ⟨List.mem_append_right _ (List.mem_of_getElem? (i := 314) (by decide +kernel)), by decide +kernel⟩
theorem tb_120 : Cond.fieldLink R_T 37 "CycleRows$Told" "ringKeys" "[I" ∈ og_tb := List.mem_filter.mpr ⟨List.mem_append_right _ (List.mem_of_getElem? (i := 119) (by decide +kernel)), by decide +kernel⟩
theorem tb_121 : Cond.methodLink R_T 100 y_R_firstAsked ∈ og_tb := List.mem_filter.mpr ⟨List.mem_append_right _ (List.mem_of_getElem? (i := 319) (by decide +kernel)), by decide +kernel⟩
theorem tb_122 : Cond.instanceMethod y_R_firstAsked ∈ og_tb := List.mem_filter.mpr ⟨List.mem_append_right _ (List.mem_of_getElem? (i := 320) (by decide +kernel)), by decide +kernel⟩
theorem tb_123 : Cond.selects R_R y_R_firstAsked y_R_firstAsked ∈ og_tb := List.mem_filter.mpr ⟨List.mem_append_right _ (List.mem_of_getElem? (i := 321) (by decide +kernel)), by decide +kernel⟩
theorem tb_124 : Cond.code y_R_firstAsked b_R_firstAsked 5 (some .int) ∈ og_tb := List.mem_filter.mpr ⟨List.mem_append_right _ (List.mem_of_getElem? (i := 322) (by decide +kernel)), by decide +kernel⟩
theorem tb_125 : Cond.methodLink R_T 85 y_T_leastRinged ∈ og_tb := List.mem_filter.mpr ⟨List.mem_append_right _ (List.mem_of_getElem? (i := 303) (by decide +kernel)), by decide +kernel⟩
theorem tb_126 : Cond.instanceMethod y_T_leastRinged ∈ og_tb := List.mem_filter.mpr ⟨List.mem_append_right _ (List.mem_of_getElem? (i := 305) (by decide +kernel)), by decide +kernel⟩
theorem tb_127 : Cond.selects R_T y_T_leastRinged y_T_leastRinged ∈ og_tb := List.mem_filter.mpr ⟨List.mem_append_left _ (List.mem_of_getElem? (i := 10) (by decide +kernel)), by decide +kernel⟩
theorem tb_128 : Cond.code y_T_leastRinged b_T_leastRinged 5 (some .int) ∈ og_tb := List.mem_filter.mpr ⟨List.mem_append_right _ (List.mem_of_getElem? (i := 306) (by decide +kernel)), by decide +kernel⟩
theorem tb_129 : Cond.methodLink R_T 88 y_T_tellRing ∈ og_tb := List.mem_filter.mpr ⟨List.mem_append_right _ (List.mem_of_getElem? (i := 307) (by decide +kernel)), by decide +kernel⟩
theorem tb_130 : Cond.instanceMethod y_T_tellRing ∈ og_tb := List.mem_filter.mpr ⟨List.mem_append_right _ (List.mem_of_getElem? (i := 309) (by decide +kernel)), by decide +kernel⟩
theorem tb_131 : Cond.selects R_T y_T_tellRing y_T_tellRing ∈ og_tb := List.mem_filter.mpr ⟨List.mem_append_left _ (List.mem_of_getElem? (i := 11) (by decide +kernel)), by decide +kernel⟩
theorem tb_132 : Cond.code y_T_tellRing b_T_tellRing 8 none ∈ og_tb := List.mem_filter.mpr ⟨List.mem_append_right _ (List.mem_of_getElem? (i := 310) (by decide +kernel)), by decide +kernel⟩
theorem tb_133 : Cond.methodLink R_E 43 y_E_isIn ∈ og_tb := List.mem_filter.mpr ⟨List.mem_append_right _ (List.mem_of_getElem? (i := 331) (by decide +kernel)), by decide +kernel⟩
theorem tb_134 : Cond.fieldLink R_T 28 "CycleRows$Told" "onlyIn" "[I" ∈ og_tb := List.mem_filter.mpr ⟨List.mem_append_right _ (List.mem_of_getElem? (i := 115) (by decide +kernel)), by decide +kernel⟩
theorem tb_135 : Cond.fieldLink R_T 9 "CycleRows$Told" "configuration" "I" ∈ og_tb := List.mem_filter.mpr ⟨List.mem_append_right _ (List.mem_of_getElem? (i := 105) (by decide +kernel)), by decide +kernel⟩
theorem tb_136 : Cond.fieldLink R_T 40 "CycleRows$Told" "ringEdges" "[I" ∈ og_tb := List.mem_filter.mpr ⟨List.mem_append_right _ (List.mem_of_getElem? (i := 120) (by decide +kernel)), by decide +kernel⟩
theorem tb_137 : Cond.methodLink R_T 103 y_E_leastPlaced ∈ og_tb := List.mem_filter.mpr ⟨List.mem_append_right _ (List.mem_of_getElem? (i := 327) (by decide +kernel)), by decide +kernel⟩
theorem tb_138 : Cond.instanceMethod y_E_leastPlaced ∈ og_tb := List.mem_filter.mpr ⟨List.mem_append_right _ (List.mem_of_getElem? (i := 328) (by decide +kernel)), by decide +kernel⟩
theorem tb_139 : Cond.selects R_E y_E_leastPlaced y_E_leastPlaced ∈ og_tb := List.mem_filter.mpr ⟨List.mem_append_right _ (List.mem_of_getElem? (i := 329) (by decide +kernel)), by decide +kernel⟩
theorem tb_140 : Cond.code y_E_leastPlaced b_E_leastPlaced 6 (some .int) ∈ og_tb := List.mem_filter.mpr ⟨List.mem_append_right _ (List.mem_of_getElem? (i := 330) (by decide +kernel)), by decide +kernel⟩
theorem tb_141 : Cond.methodLink R_T 109 y_E_configurationsBetween ∈ og_tb := List.mem_filter.mpr ⟨List.mem_append_right _ (List.mem_of_getElem? (i := 332) (by decide +kernel)), by decide +kernel⟩
theorem tb_142 : Cond.instanceMethod y_E_configurationsBetween ∈ og_tb := List.mem_filter.mpr ⟨List.mem_append_right _ (List.mem_of_getElem? (i := 333) (by decide +kernel)), by decide +kernel⟩
theorem tb_143 : Cond.selects R_E y_E_configurationsBetween y_E_configurationsBetween ∈ og_tb := List.mem_filter.mpr ⟨List.mem_append_right _ (List.mem_of_getElem? (i := 334) (by decide +kernel)), by decide +kernel⟩
theorem tb_144 : Cond.code y_E_configurationsBetween b_E_configurationsBetween 5 (some .int) ∈ og_tb := List.mem_filter.mpr ⟨List.mem_append_right _ (List.mem_of_getElem? (i := 335) (by decide +kernel)), by decide +kernel⟩
theorem tb_145 : Cond.fieldLink R_T 49 "CycleRows$Keys" "count" "I" ∈ og_tb := List.mem_filter.mpr ⟨List.mem_append_right _ (List.mem_of_getElem? (i := 27) (by decide +kernel)), by decide +kernel⟩
theorem tb_146 : Cond.methodLink R_T 54 y_T_tellKeys ∈ og_tb := List.mem_filter.mpr ⟨List.mem_append_right _ (List.mem_of_getElem? (i := 275) (by decide +kernel)), by decide +kernel⟩
theorem tb_147 : Cond.instanceMethod y_T_tellKeys ∈ og_tb := List.mem_filter.mpr ⟨List.mem_append_right _ (List.mem_of_getElem? (i := 277) (by decide +kernel)), by decide +kernel⟩
theorem tb_148 : Cond.selects R_T y_T_tellKeys y_T_tellKeys ∈ og_tb := List.mem_filter.mpr ⟨List.mem_append_left _ (List.mem_of_getElem? (i := 6) (by decide +kernel)), by decide +kernel⟩
theorem tb_149 : Cond.code y_T_tellKeys b_T_tellKeys 5 none ∈ og_tb := List.mem_filter.mpr ⟨List.mem_append_right _ (List.mem_of_getElem? (i := 278) (by decide +kernel)), by decide +kernel⟩
theorem tb_150 : Cond.methodLink R_T 58 y_T_numberParts ∈ og_tb := List.mem_filter.mpr ⟨List.mem_append_right _ (List.mem_of_getElem? (i := 287) (by decide +kernel)), by decide +kernel⟩
theorem tb_151 : Cond.instanceMethod y_T_numberParts ∈ og_tb := List.mem_filter.mpr ⟨List.mem_append_right _ (List.mem_of_getElem? (i := 289) (by decide +kernel)), by decide +kernel⟩
theorem tb_152 : Cond.selects R_T y_T_numberParts y_T_numberParts ∈ og_tb := List.mem_filter.mpr ⟨List.mem_append_left _ (List.mem_of_getElem? (i := 7) (by decide +kernel)), by decide +kernel⟩
theorem tb_153 : Cond.code y_T_numberParts b_T_numberParts 6 none ∈ og_tb := List.mem_filter.mpr ⟨List.mem_append_right _ (List.mem_of_getElem? (i := 290) (by decide +kernel)), by decide +kernel⟩
theorem tb_154 : Cond.methodLink R_T 61 y_T_tellRings ∈ og_tb := List.mem_filter.mpr ⟨List.mem_append_right _ (List.mem_of_getElem? (i := 299) (by decide +kernel)), by decide +kernel⟩
theorem tb_155 : Cond.instanceMethod y_T_tellRings ∈ og_tb := List.mem_filter.mpr ⟨List.mem_append_right _ (List.mem_of_getElem? (i := 301) (by decide +kernel)), by decide +kernel⟩
theorem tb_156 : Cond.selects R_T y_T_tellRings y_T_tellRings ∈ og_tb := List.mem_filter.mpr ⟨List.mem_append_left _ (List.mem_of_getElem? (i := 9) (by decide +kernel)), by decide +kernel⟩
theorem tb_157 : Cond.code y_T_tellRings b_T_tellRings 4 none ∈ og_tb := List.mem_filter.mpr ⟨List.mem_append_right _ (List.mem_of_getElem? (i := 302) (by decide +kernel)), by decide +kernel⟩
theorem tb_158 : Cond.methodLink R_T 64 y_T_tellEdges ∈ og_tb := List.mem_filter.mpr ⟨List.mem_append_right _ (List.mem_of_getElem? (i := 323) (by decide +kernel)), by decide +kernel⟩
theorem tb_159 : Cond.instanceMethod y_T_tellEdges ∈ og_tb := List.mem_filter.mpr ⟨List.mem_append_right _ (List.mem_of_getElem? (i := 325) (by decide +kernel)), by decide +kernel⟩
theorem tb_160 : Cond.selects R_T y_T_tellEdges y_T_tellEdges ∈ og_tb := List.mem_filter.mpr ⟨List.mem_append_left _ (List.mem_of_getElem? (i := 13) (by decide +kernel)), by decide +kernel⟩
theorem tb_161 : Cond.code y_T_tellEdges b_T_tellEdges 7 none ∈ og_tb := List.mem_filter.mpr ⟨List.mem_append_right _ (List.mem_of_getElem? (i := 326) (by decide +kernel)), by decide +kernel⟩
theorem tb_162 : Cond.fieldLink R_C 26 "CycleRows" "reaches" "LCycleRows$Reaches;" ∈ og_tb := List.mem_filter.mpr ⟨List.mem_append_right _ (List.mem_of_getElem? (i := 171) (by decide +kernel)), by decide +kernel⟩
theorem tb_163 : Cond.methodLink R_C 62 y_R_draw ∈ og_tb := List.mem_filter.mpr ⟨List.mem_append_right _ (List.mem_of_getElem? (i := 242) (by decide +kernel)), by decide +kernel⟩
theorem tb_164 : Cond.instanceMethod y_R_draw ∈ og_tb := List.mem_filter.mpr ⟨List.mem_append_right _ (List.mem_of_getElem? (i := 243) (by decide +kernel)), by decide +kernel⟩
theorem tb_165 : Cond.selects R_R y_R_draw y_R_draw ∈ og_tb := List.mem_filter.mpr ⟨List.mem_append_right _ (List.mem_of_getElem? (i := 244) (by decide +kernel)), by decide +kernel⟩
theorem tb_166 : Cond.code y_R_draw b_R_draw 5 none ∈ og_tb := List.mem_filter.mpr ⟨List.mem_append_right _ (List.mem_of_getElem? (i := 245) (by decide +kernel)), by decide +kernel⟩
theorem tb_167 : Cond.fieldLink R_C 33 "CycleRows" "told" "LCycleRows$Told;" ∈ og_tb := List.mem_filter.mpr ⟨List.mem_append_right _ (List.mem_of_getElem? (i := 172) (by decide +kernel)), by decide +kernel⟩
theorem tb_168 : Cond.methodLink R_C 66 y_T_tell ∈ og_tb := List.mem_filter.mpr ⟨List.mem_append_right _ (List.mem_of_getElem? (i := 271) (by decide +kernel)), by decide +kernel⟩
theorem tb_169 : Cond.instanceMethod y_T_tell ∈ og_tb := List.mem_filter.mpr ⟨List.mem_append_right _ (List.mem_of_getElem? (i := 272) (by decide +kernel)), by decide +kernel⟩
theorem tb_170 : Cond.selects R_T y_T_tell y_T_tell ∈ og_tb := List.mem_filter.mpr ⟨List.mem_append_right _ (List.mem_of_getElem? (i := 273) (by decide +kernel)), by decide +kernel⟩
theorem tb_171 : Cond.code y_T_tell b_T_tell 6 none ∈ og_tb := List.mem_filter.mpr ⟨List.mem_append_right _ (List.mem_of_getElem? (i := 274) (by decide +kernel)), by decide +kernel⟩
theorem tb_172 : Cond.fieldLink R_C 70 "CycleRows$Told" "ringCount" "I" ∈ og_tb := List.mem_filter.mpr ⟨List.mem_append_right _ (List.mem_of_getElem? (i := 108) (by decide +kernel)), by decide +kernel⟩
theorem tb_173 : Cond.methodLink R_C 74 y_T_hasRing ∈ og_tb := List.mem_filter.mpr ⟨List.mem_append_right _ (List.mem_of_getElem? (i := 340) (by decide +kernel)), by decide +kernel⟩
theorem tb_174 : Cond.instanceMethod y_T_hasRing ∈ og_tb := List.mem_filter.mpr ⟨List.mem_append_right _ (List.mem_of_getElem? (i := 341) (by decide +kernel)), by decide +kernel⟩
theorem tb_175 : Cond.selects R_T y_T_hasRing y_T_hasRing ∈ og_tb := List.mem_filter.mpr ⟨List.mem_append_right _ (List.mem_of_getElem? (i := 342) (by decide +kernel)), by decide +kernel⟩
theorem tb_176 : Cond.code y_T_hasRing b_T_hasRing 2 (some .boolean) ∈ og_tb := List.mem_filter.mpr ⟨List.mem_append_right _ (List.mem_of_getElem? (i := 343) (by decide +kernel)), by decide +kernel⟩
theorem tb_177 : Cond.methodLink R_C 77 y_T_length ∈ og_tb := List.mem_filter.mpr ⟨List.mem_append_right _ (List.mem_of_getElem? (i := 344) (by decide +kernel)), by decide +kernel⟩
theorem tb_178 : Cond.instanceMethod y_T_length ∈ og_tb := List.mem_filter.mpr ⟨List.mem_append_right _ (List.mem_of_getElem? (i := 345) (by decide +kernel)), by decide +kernel⟩
theorem tb_179 : Cond.selects R_T y_T_length y_T_length ∈ og_tb := List.mem_filter.mpr ⟨List.mem_append_right _ (List.mem_of_getElem? (i := 346) (by decide +kernel)), by decide +kernel⟩
theorem tb_180 : Cond.code y_T_length b_T_length 2 (some .int) ∈ og_tb := List.mem_filter.mpr ⟨List.mem_append_right _ (List.mem_of_getElem? (i := 347) (by decide +kernel)), by decide +kernel⟩
theorem tb_181 : Cond.methodLink R_C 80 y_T_keyAt ∈ og_tb := List.mem_filter.mpr ⟨List.mem_append_right _ (List.mem_of_getElem? (i := 352) (by decide +kernel)), by decide +kernel⟩
theorem tb_182 : Cond.instanceMethod y_T_keyAt ∈ og_tb := List.mem_filter.mpr ⟨List.mem_append_right _ (List.mem_of_getElem? (i := 353) (by decide +kernel)), by decide +kernel⟩
theorem tb_183 : Cond.selects R_T y_T_keyAt y_T_keyAt ∈ og_tb := List.mem_filter.mpr ⟨List.mem_append_right _ (List.mem_of_getElem? (i := 354) (by decide +kernel)), by decide +kernel⟩
theorem tb_184 : Cond.code y_T_keyAt b_T_keyAt 3 (some .int) ∈ og_tb := List.mem_filter.mpr ⟨List.mem_append_right _ (List.mem_of_getElem? (i := 355) (by decide +kernel)), by decide +kernel⟩
theorem tb_185 : Cond.methodLink R_C 83 y_T_edgeAt ∈ og_tb := List.mem_filter.mpr ⟨List.mem_append_right _ (List.mem_of_getElem? (i := 356) (by decide +kernel)), by decide +kernel⟩
theorem tb_186 : Cond.instanceMethod y_T_edgeAt ∈ og_tb := List.mem_filter.mpr ⟨List.mem_append_right _ (List.mem_of_getElem? (i := 357) (by decide +kernel)), by decide +kernel⟩
theorem tb_187 : Cond.selects R_T y_T_edgeAt y_T_edgeAt ∈ og_tb := List.mem_filter.mpr ⟨List.mem_append_right _ (List.mem_of_getElem? (i := 358) (by decide +kernel)), by decide +kernel⟩
theorem tb_188 : Cond.code y_T_edgeAt b_T_edgeAt 3 (some .int) ∈ og_tb := List.mem_filter.mpr ⟨List.mem_append_right _ (List.mem_of_getElem? (i := 359) (by decide +kernel)), by decide +kernel⟩
theorem tb_189 : Cond.methodLink R_C 86 y_E_placeOf ∈ og_tb := List.mem_filter.mpr ⟨List.mem_append_right _ (List.mem_of_getElem? (i := 360) (by decide +kernel)), by decide +kernel⟩
theorem tb_190 : Cond.instanceMethod y_E_placeOf ∈ og_tb := List.mem_filter.mpr ⟨List.mem_append_right _ (List.mem_of_getElem? (i := 361) (by decide +kernel)), by decide +kernel⟩
theorem tb_191 : Cond.selects R_E y_E_placeOf y_E_placeOf ∈ og_tb := List.mem_filter.mpr ⟨List.mem_append_right _ (List.mem_of_getElem? (i := 362) (by decide +kernel)), by decide +kernel⟩
theorem tb_192 : Cond.code y_E_placeOf b_E_placeOf 2 (some .int) ∈ og_tb := List.mem_filter.mpr ⟨List.mem_append_right _ (List.mem_of_getElem? (i := 363) (by decide +kernel)), by decide +kernel⟩
theorem tb_193 : Cond.fieldLink R_C 89 "CycleRows$Told" "onlyIn" "[I" ∈ og_tb := List.mem_filter.mpr ⟨List.mem_append_right _ (List.mem_of_getElem? (i := 116) (by decide +kernel)), by decide +kernel⟩
theorem tb_194 : Cond.methodLink R_T 43 Lib.Math.max.name ∈ og_tb := List.mem_filter.mpr ⟨List.mem_append_right _ (List.mem_of_getElem? (i := 376) (by decide +kernel)), by decide +kernel⟩
theorem tb_195 : Cond.static Lib.Math.max.name ∈ og_tb := List.mem_filter.mpr ⟨List.mem_append_right _ (List.mem_of_getElem? (i := 377) (by decide +kernel)), by decide +kernel⟩
theorem tb_196 : Cond.initialized "java/lang/Math" ∈ og_tb := List.mem_filter.mpr ⟨List.mem_append_right _ (List.mem_of_getElem? (i := 9) (by decide +kernel)), by decide +kernel⟩
theorem tb_197 : Cond.code Lib.Math.max.name Lib.Math.max.code 2 (some .int) ∈ og_tb := List.mem_filter.mpr ⟨List.mem_append_right _ (List.mem_of_getElem? (i := 378) (by decide +kernel)), by decide +kernel⟩
theorem tb_198 : Cond.methodLink R_C 93 y_T_lastEdge ∈ og_tb := List.mem_filter.mpr ⟨List.mem_append_right _ (List.mem_of_getElem? (i := 372) (by decide +kernel)), by decide +kernel⟩
theorem tb_199 : Cond.instanceMethod y_T_lastEdge ∈ og_tb := List.mem_filter.mpr ⟨List.mem_append_right _ (List.mem_of_getElem? (i := 373) (by decide +kernel)), by decide +kernel⟩
theorem tb_200 : Cond.selects R_T y_T_lastEdge y_T_lastEdge ∈ og_tb := List.mem_filter.mpr ⟨List.mem_append_right _ (List.mem_of_getElem? (i := 374) (by decide +kernel)), by decide +kernel⟩
theorem tb_201 : Cond.code y_T_lastEdge b_T_lastEdge 4 (some .int) ∈ og_tb := List.mem_filter.mpr ⟨List.mem_append_right _ (List.mem_of_getElem? (i := 375) (by decide +kernel)), by decide +kernel⟩
theorem tb_202 : Cond.methodLink R_C 96 y_T_hasKey ∈ og_tb := List.mem_filter.mpr ⟨List.mem_append_right _ (List.mem_of_getElem? (i := 383) (by decide +kernel)), by decide +kernel⟩
theorem tb_203 : Cond.instanceMethod y_T_hasKey ∈ og_tb := List.mem_filter.mpr ⟨List.mem_append_right _ (List.mem_of_getElem? (i := 384) (by decide +kernel)), by decide +kernel⟩
theorem tb_204 : Cond.selects R_T y_T_hasKey y_T_hasKey ∈ og_tb := List.mem_filter.mpr ⟨List.mem_append_right _ (List.mem_of_getElem? (i := 385) (by decide +kernel)), by decide +kernel⟩
theorem tb_205 : Cond.code y_T_hasKey b_T_hasKey 2 (some .boolean) ∈ og_tb := List.mem_filter.mpr ⟨List.mem_append_right _ (List.mem_of_getElem? (i := 386) (by decide +kernel)), by decide +kernel⟩
theorem tb_206 : Cond.fieldLink R_C 99 "CycleRows$Told" "partOf" "[I" ∈ og_tb := List.mem_filter.mpr ⟨List.mem_append_right _ (List.mem_of_getElem? (i := 110) (by decide +kernel)), by decide +kernel⟩
theorem tb_207 : Cond.fieldLink R_C 102 "CycleRows$Told" "stateOf" "[I" ∈ og_tb := List.mem_filter.mpr ⟨List.mem_append_right _ (List.mem_of_getElem? (i := 112) (by decide +kernel)), by decide +kernel⟩
theorem tb_208 : Cond.fieldLink R_C 105 "CycleRows$Told" "leastOf" "[I" ∈ og_tb := List.mem_filter.mpr ⟨List.mem_append_right _ (List.mem_of_getElem? (i := 114) (by decide +kernel)), by decide +kernel⟩
theorem tb_209 : Cond.fieldLink R_A 19 "CycleRows$Asking" "openCount" "I" ∈ og_tb := List.mem_filter.mpr ⟨List.mem_append_right _ (List.mem_of_getElem? (i := 152) (by decide +kernel)), by decide +kernel⟩
theorem tb_210 : Cond.fieldLink R_A 22 "CycleRows$Asking" "open" "[I" ∈ og_tb := List.mem_filter.mpr ⟨List.mem_append_right _ (List.mem_of_getElem? (i := 153) (by decide +kernel)), by decide +kernel⟩
theorem tb_211 : Cond.fieldLink R_A 28 "CycleRows$Asking" "wasAsked" "[Z" ∈ og_tb := List.mem_filter.mpr ⟨List.mem_append_right _ (List.mem_of_getElem? (i := 155) (by decide +kernel)), by decide +kernel⟩
theorem tb_212 : Cond.fieldLink R_A 25 "CycleRows$Asking" "nextEdge" "[I" ∈ og_tb := List.mem_filter.mpr ⟨List.mem_append_right _ (List.mem_of_getElem? (i := 154) (by decide +kernel)), by decide +kernel⟩
theorem tb_213 : Cond.fieldLink R_A 9 "CycleRows$Asking" "metCount" "I" ∈ og_tb := List.mem_filter.mpr ⟨List.mem_append_right _ (List.mem_of_getElem? (i := 148) (by decide +kernel)), by decide +kernel⟩
theorem tb_214 : Cond.methodLink R_A 32 y_A_push ∈ og_tb := List.mem_filter.mpr ⟨List.mem_append_right _ (List.mem_of_getElem? (i := 403) (by decide +kernel)), by decide +kernel⟩
theorem tb_215 : Cond.instanceMethod y_A_push ∈ og_tb := List.mem_filter.mpr ⟨List.mem_append_right _ (List.mem_of_getElem? (i := 405) (by decide +kernel)), by decide +kernel⟩
theorem tb_216 : Cond.selects R_A y_A_push y_A_push ∈ og_tb := List.mem_filter.mpr ⟨List.mem_append_left _ (List.mem_of_getElem? (i := 14) (by decide +kernel)), by decide +kernel⟩
theorem tb_217 : Cond.initialized R_A ∈ og_tb := List.mem_filter.mpr ⟨List.mem_append_right _ (List.mem_of_getElem? (i := 6) (by decide +kernel)), by decide +kernel⟩
theorem tb_218 : Cond.code y_A_push b_A_push 2 none ∈ og_tb := List.mem_filter.mpr ⟨List.mem_append_right _ (List.mem_of_getElem? (i := 406) (by decide +kernel)), by decide +kernel⟩
theorem tb_219 : Cond.fieldLink R_A 43 "CycleRows$Edges" "count" "I" ∈ og_tb := List.mem_filter.mpr ⟨List.mem_append_right _ (List.mem_of_getElem? (i := 52) (by decide +kernel)), by decide +kernel⟩
theorem tb_220 : Cond.fieldLink R_A 48 "CycleRows$Edges" "from" "[I" ∈ og_tb := List.mem_filter.mpr ⟨List.mem_append_right _ (List.mem_of_getElem? (i := 55) (by decide +kernel)), by decide +kernel⟩
theorem tb_221 : Cond.methodLink R_A 51 y_E_isIn ∈ og_tb := List.mem_filter.mpr ⟨List.mem_append_right _ (List.mem_of_getElem? (i := 415) (by decide +kernel)), by decide +kernel⟩
theorem tb_222 : Cond.fieldLink R_A 55 "CycleRows$Edges" "to" "[I" ∈ og_tb := List.mem_filter.mpr ⟨List.mem_append_right _ (List.mem_of_getElem? (i := 58) (by decide +kernel)), by decide +kernel⟩
theorem tb_223 : Cond.methodLink R_A 58 y_A_openAt ∈ og_tb := List.mem_filter.mpr ⟨List.mem_append_right _ (List.mem_of_getElem? (i := 416) (by decide +kernel)), by decide +kernel⟩
theorem tb_224 : Cond.instanceMethod y_A_openAt ∈ og_tb := List.mem_filter.mpr ⟨List.mem_append_right _ (List.mem_of_getElem? (i := 418) (by decide +kernel)), by decide +kernel⟩
theorem tb_225 : Cond.selects R_A y_A_openAt y_A_openAt ∈ og_tb := List.mem_filter.mpr ⟨List.mem_append_left _ (List.mem_of_getElem? (i := 16) (by decide +kernel)), by decide +kernel⟩
theorem tb_226 : Cond.code y_A_openAt b_A_openAt 3 (some .int) ∈ og_tb := List.mem_filter.mpr ⟨List.mem_append_right _ (List.mem_of_getElem? (i := 419) (by decide +kernel)), by decide +kernel⟩
theorem tb_227 : Cond.fieldLink R_A 15 "CycleRows$Asking" "metKeys" "[I" ∈ og_tb := List.mem_filter.mpr ⟨List.mem_append_right _ (List.mem_of_getElem? (i := 150) (by decide +kernel)), by decide +kernel⟩
theorem tb_228 : Cond.methodLink R_A 62 arraycopyName ∈ og_tb := List.mem_filter.mpr ⟨List.mem_append_right _ (List.mem_of_getElem? (i := 424) (by decide +kernel)), by decide +kernel⟩
theorem tb_229 : Cond.native arraycopyName ∈ og_tb := List.mem_filter.mpr ⟨List.mem_append_right _ (List.mem_of_getElem? (i := 426) (by decide +kernel)), by decide +kernel⟩
theorem tb_230 : Cond.static arraycopyName ∈ og_tb := List.mem_filter.mpr ⟨List.mem_append_right _ (List.mem_of_getElem? (i := 425) (by decide +kernel)), by decide +kernel⟩
theorem tb_231 : Cond.initialized "java/lang/System" ∈ og_tb := List.mem_filter.mpr ⟨List.mem_append_right _ (List.mem_of_getElem? (i := 10) (by decide +kernel)), by decide +kernel⟩
theorem tb_232 : Cond.methodLink R_A 36 y_A_nextTarget ∈ og_tb := List.mem_filter.mpr ⟨List.mem_append_right _ (List.mem_of_getElem? (i := 411) (by decide +kernel)), by decide +kernel⟩
theorem tb_233 : Cond.instanceMethod y_A_nextTarget ∈ og_tb := List.mem_filter.mpr ⟨List.mem_append_right _ (List.mem_of_getElem? (i := 413) (by decide +kernel)), by decide +kernel⟩
theorem tb_234 : Cond.selects R_A y_A_nextTarget y_A_nextTarget ∈ og_tb := List.mem_filter.mpr ⟨List.mem_append_left _ (List.mem_of_getElem? (i := 15) (by decide +kernel)), by decide +kernel⟩
theorem tb_235 : Cond.code y_A_nextTarget b_A_nextTarget 6 (some .int) ∈ og_tb := List.mem_filter.mpr ⟨List.mem_append_right _ (List.mem_of_getElem? (i := 414) (by decide +kernel)), by decide +kernel⟩
theorem tb_236 : Cond.methodLink R_A 40 y_A_meet ∈ og_tb := List.mem_filter.mpr ⟨List.mem_append_right _ (List.mem_of_getElem? (i := 420) (by decide +kernel)), by decide +kernel⟩
theorem tb_237 : Cond.instanceMethod y_A_meet ∈ og_tb := List.mem_filter.mpr ⟨List.mem_append_right _ (List.mem_of_getElem? (i := 422) (by decide +kernel)), by decide +kernel⟩
theorem tb_238 : Cond.selects R_A y_A_meet y_A_meet ∈ og_tb := List.mem_filter.mpr ⟨List.mem_append_left _ (List.mem_of_getElem? (i := 17) (by decide +kernel)), by decide +kernel⟩
theorem tb_239 : Cond.code y_A_meet b_A_meet 3 none ∈ og_tb := List.mem_filter.mpr ⟨List.mem_append_right _ (List.mem_of_getElem? (i := 423) (by decide +kernel)), by decide +kernel⟩
theorem tb_240 : Cond.fieldLink R_C 108 "CycleRows$Told" "configuration" "I" ∈ og_tb := List.mem_filter.mpr ⟨List.mem_append_right _ (List.mem_of_getElem? (i := 106) (by decide +kernel)), by decide +kernel⟩
theorem tb_241 : Cond.fieldLink R_C 40 "CycleRows" "asking" "LCycleRows$Asking;" ∈ og_tb := List.mem_filter.mpr ⟨List.mem_append_right _ (List.mem_of_getElem? (i := 173) (by decide +kernel)), by decide +kernel⟩
theorem tb_242 : Cond.fieldLink R_C 111 "CycleRows$Keys" "count" "I" ∈ og_tb := List.mem_filter.mpr ⟨List.mem_append_right _ (List.mem_of_getElem? (i := 28) (by decide +kernel)), by decide +kernel⟩
theorem tb_243 : Cond.methodLink R_C 114 y_A_begin ∈ og_tb := List.mem_filter.mpr ⟨List.mem_append_right _ (List.mem_of_getElem? (i := 399) (by decide +kernel)), by decide +kernel⟩
theorem tb_244 : Cond.instanceMethod y_A_begin ∈ og_tb := List.mem_filter.mpr ⟨List.mem_append_right _ (List.mem_of_getElem? (i := 400) (by decide +kernel)), by decide +kernel⟩
theorem tb_245 : Cond.selects R_A y_A_begin y_A_begin ∈ og_tb := List.mem_filter.mpr ⟨List.mem_append_right _ (List.mem_of_getElem? (i := 401) (by decide +kernel)), by decide +kernel⟩
theorem tb_246 : Cond.code y_A_begin b_A_begin 4 none ∈ og_tb := List.mem_filter.mpr ⟨List.mem_append_right _ (List.mem_of_getElem? (i := 402) (by decide +kernel)), by decide +kernel⟩
theorem tb_247 : Cond.methodLink R_C 118 y_A_goOn ∈ og_tb := List.mem_filter.mpr ⟨List.mem_append_right _ (List.mem_of_getElem? (i := 407) (by decide +kernel)), by decide +kernel⟩
theorem tb_248 : Cond.instanceMethod y_A_goOn ∈ og_tb := List.mem_filter.mpr ⟨List.mem_append_right _ (List.mem_of_getElem? (i := 408) (by decide +kernel)), by decide +kernel⟩
theorem tb_249 : Cond.selects R_A y_A_goOn y_A_goOn ∈ og_tb := List.mem_filter.mpr ⟨List.mem_append_right _ (List.mem_of_getElem? (i := 409) (by decide +kernel)), by decide +kernel⟩
theorem tb_250 : Cond.code y_A_goOn b_A_goOn 5 none ∈ og_tb := List.mem_filter.mpr ⟨List.mem_append_right _ (List.mem_of_getElem? (i := 410) (by decide +kernel)), by decide +kernel⟩
theorem tb_251 : Cond.fieldLink R_C 122 "CycleRows$Asking" "metCount" "I" ∈ og_tb := List.mem_filter.mpr ⟨List.mem_append_right _ (List.mem_of_getElem? (i := 149) (by decide +kernel)), by decide +kernel⟩
theorem tb_252 : Cond.fieldLink R_C 125 "CycleRows$Asking" "metKeys" "[I" ∈ og_tb := List.mem_filter.mpr ⟨List.mem_append_right _ (List.mem_of_getElem? (i := 151) (by decide +kernel)), by decide +kernel⟩
theorem tb_253 : Cond.fieldLink R_M 78 "CycleRowsModel" "keys" "I" ∈ og_tb := List.mem_filter.mpr ⟨List.mem_append_right _ (List.mem_of_getElem? (i := 438) (by decide +kernel)), by decide +kernel⟩
theorem tb_254 : Cond.fieldLink R_M 75 "CycleRowsModel" "code" "I" ∈ og_tb := List.mem_filter.mpr ⟨List.mem_append_right _ (List.mem_of_getElem? (i := 437) (by decide +kernel)), by decide +kernel⟩
theorem tb_255 : Cond.fieldLink R_M 7 "CycleRowsModel" "name" "[I" ∈ og_tb := List.mem_filter.mpr ⟨List.mem_append_right _ (List.mem_of_getElem? (i := 440) (by decide +kernel)), by decide +kernel⟩
theorem tb_256 : Cond.methodLink R_M 81 y_M_isKey ∈ og_tb := List.mem_filter.mpr ⟨List.mem_append_right _ (List.mem_of_getElem? (i := 533) (by decide +kernel)), by decide +kernel⟩
theorem tb_257 : Cond.instanceMethod y_M_isKey ∈ og_tb := List.mem_filter.mpr ⟨List.mem_append_right _ (List.mem_of_getElem? (i := 535) (by decide +kernel)), by decide +kernel⟩
theorem tb_258 : Cond.selects R_M y_M_isKey y_M_isKey ∈ og_tb := List.mem_filter.mpr ⟨List.mem_append_left _ (List.mem_of_getElem? (i := 18) (by decide +kernel)), by decide +kernel⟩
theorem tb_259 : Cond.initialized R_M ∈ og_tb := List.mem_filter.mpr ⟨List.mem_append_right _ (List.mem_of_getElem? (i := 7) (by decide +kernel)), by decide +kernel⟩
theorem tb_260 : Cond.code y_M_isKey b_M_isKey 2 (some .boolean) ∈ og_tb := List.mem_filter.mpr ⟨List.mem_append_right _ (List.mem_of_getElem? (i := 536) (by decide +kernel)), by decide +kernel⟩
theorem tb_261 : Cond.fieldLink R_M 85 "CycleRowsModel" "edges" "I" ∈ og_tb := List.mem_filter.mpr ⟨List.mem_append_right _ (List.mem_of_getElem? (i := 439) (by decide +kernel)), by decide +kernel⟩
theorem tb_262 : Cond.fieldLink R_M 13 "CycleRowsModel" "from" "[I" ∈ og_tb := List.mem_filter.mpr ⟨List.mem_append_right _ (List.mem_of_getElem? (i := 441) (by decide +kernel)), by decide +kernel⟩
theorem tb_263 : Cond.fieldLink R_M 16 "CycleRowsModel" "to" "[I" ∈ og_tb := List.mem_filter.mpr ⟨List.mem_append_right _ (List.mem_of_getElem? (i := 442) (by decide +kernel)), by decide +kernel⟩
theorem tb_264 : Cond.fieldLink R_M 19 "CycleRowsModel" "place" "[I" ∈ og_tb := List.mem_filter.mpr ⟨List.mem_append_right _ (List.mem_of_getElem? (i := 443) (by decide +kernel)), by decide +kernel⟩
theorem tb_265 : Cond.fieldLink R_M 22 "CycleRowsModel" "bits" "[I" ∈ og_tb := List.mem_filter.mpr ⟨List.mem_append_right _ (List.mem_of_getElem? (i := 444) (by decide +kernel)), by decide +kernel⟩
theorem tb_266 : Cond.fieldLink R_M 25 "CycleRowsModel" "gone" "[Z" ∈ og_tb := List.mem_filter.mpr ⟨List.mem_append_right _ (List.mem_of_getElem? (i := 445) (by decide +kernel)), by decide +kernel⟩
theorem tb_267 : Cond.fieldLink R_M 33 "CycleRowsModel" "thenGone" "[Z" ∈ og_tb := List.mem_filter.mpr ⟨List.mem_append_right _ (List.mem_of_getElem? (i := 449) (by decide +kernel)), by decide +kernel⟩
theorem tb_268 : Cond.fieldLink R_M 36 "CycleRowsModel" "order" "[I" ∈ og_tb := List.mem_filter.mpr ⟨List.mem_append_right _ (List.mem_of_getElem? (i := 450) (by decide +kernel)), by decide +kernel⟩
theorem tb_269 : Cond.fieldLink R_M 39 "CycleRowsModel" "rank" "[I" ∈ og_tb := List.mem_filter.mpr ⟨List.mem_append_right _ (List.mem_of_getElem? (i := 451) (by decide +kernel)), by decide +kernel⟩
theorem tb_270 : Cond.fieldLink R_M 51 "CycleRowsModel" "reaches" "[Z" ∈ og_tb := List.mem_filter.mpr ⟨List.mem_append_right _ (List.mem_of_getElem? (i := 455) (by decide +kernel)), by decide +kernel⟩
theorem tb_271 : Cond.fieldLink R_M 54 "CycleRowsModel" "steps" "[I" ∈ og_tb := List.mem_filter.mpr ⟨List.mem_append_right _ (List.mem_of_getElem? (i := 456) (by decide +kernel)), by decide +kernel⟩
theorem tb_272 : Cond.fieldLink R_M 99 "CycleRowsModel" "thenKeys" "I" ∈ og_tb := List.mem_filter.mpr ⟨List.mem_append_right _ (List.mem_of_getElem? (i := 446) (by decide +kernel)), by decide +kernel⟩
theorem tb_273 : Cond.methodLink R_M 95 y_M_cell ∈ og_tb := List.mem_filter.mpr ⟨List.mem_append_right _ (List.mem_of_getElem? (i := 561) (by decide +kernel)), by decide +kernel⟩
theorem tb_274 : Cond.static y_M_cell ∈ og_tb := List.mem_filter.mpr ⟨List.mem_append_right _ (List.mem_of_getElem? (i := 562) (by decide +kernel)), by decide +kernel⟩
theorem tb_275 : Cond.code y_M_cell b_M_cell 2 (some .int) ∈ og_tb := List.mem_filter.mpr ⟨List.mem_append_right _ (List.mem_of_getElem? (i := 563) (by decide +kernel)), by decide +kernel⟩
theorem tb_276 : Cond.fieldLink R_M 88 "CycleRowsModel" "thenEdges" "I" ∈ og_tb := List.mem_filter.mpr ⟨List.mem_append_right _ (List.mem_of_getElem? (i := 447) (by decide +kernel)), by decide +kernel⟩
theorem tb_277 : Cond.fieldLink R_M 29 "CycleRowsModel" "configuration" "I" ∈ og_tb := List.mem_filter.mpr ⟨List.mem_append_right _ (List.mem_of_getElem? (i := 448) (by decide +kernel)), by decide +kernel⟩
theorem tb_278 : Cond.methodLink R_M 91 y_M_isThen ∈ og_tb := List.mem_filter.mpr ⟨List.mem_append_right _ (List.mem_of_getElem? (i := 557) (by decide +kernel)), by decide +kernel⟩
theorem tb_279 : Cond.instanceMethod y_M_isThen ∈ og_tb := List.mem_filter.mpr ⟨List.mem_append_right _ (List.mem_of_getElem? (i := 559) (by decide +kernel)), by decide +kernel⟩
theorem tb_280 : Cond.selects R_M y_M_isThen y_M_isThen ∈ og_tb := List.mem_filter.mpr ⟨List.mem_append_left _ (List.mem_of_getElem? (i := 21) (by decide +kernel)), by decide +kernel⟩
theorem tb_281 : Cond.code y_M_isThen b_M_isThen 3 (some .boolean) ∈ og_tb := List.mem_filter.mpr ⟨List.mem_append_right _ (List.mem_of_getElem? (i := 560) (by decide +kernel)), by decide +kernel⟩
theorem tb_282 : Cond.fieldLink R_M 48 "CycleRowsModel" "asks" "[Z" ∈ og_tb := List.mem_filter.mpr ⟨List.mem_append_right _ (List.mem_of_getElem? (i := 454) (by decide +kernel)), by decide +kernel⟩
theorem tb_283 : Cond.fieldLink R_M 102 "CycleRowsModel" "parts" "I" ∈ og_tb := List.mem_filter.mpr ⟨List.mem_append_right _ (List.mem_of_getElem? (i := 457) (by decide +kernel)), by decide +kernel⟩
theorem tb_284 : Cond.fieldLink R_M 42 "CycleRowsModel" "part" "[I" ∈ og_tb := List.mem_filter.mpr ⟨List.mem_append_right _ (List.mem_of_getElem? (i := 452) (by decide +kernel)), by decide +kernel⟩
theorem tb_285 : Cond.fieldLink R_M 45 "CycleRowsModel" "shortest" "[I" ∈ og_tb := List.mem_filter.mpr ⟨List.mem_append_right _ (List.mem_of_getElem? (i := 453) (by decide +kernel)), by decide +kernel⟩
theorem tb_286 : Cond.methodLink R_M 105 y_M_isTogether ∈ og_tb := List.mem_filter.mpr ⟨List.mem_append_right _ (List.mem_of_getElem? (i := 568) (by decide +kernel)), by decide +kernel⟩
theorem tb_287 : Cond.instanceMethod y_M_isTogether ∈ og_tb := List.mem_filter.mpr ⟨List.mem_append_right _ (List.mem_of_getElem? (i := 570) (by decide +kernel)), by decide +kernel⟩
theorem tb_288 : Cond.selects R_M y_M_isTogether y_M_isTogether ∈ og_tb := List.mem_filter.mpr ⟨List.mem_append_left _ (List.mem_of_getElem? (i := 23) (by decide +kernel)), by decide +kernel⟩
theorem tb_289 : Cond.code y_M_isTogether b_M_isTogether 3 (some .boolean) ∈ og_tb := List.mem_filter.mpr ⟨List.mem_append_right _ (List.mem_of_getElem? (i := 571) (by decide +kernel)), by decide +kernel⟩
theorem tb_290 : Cond.fieldLink R_M 63 "CycleRowsModel" "backs" "[Z" ∈ og_tb := List.mem_filter.mpr ⟨List.mem_append_right _ (List.mem_of_getElem? (i := 461) (by decide +kernel)), by decide +kernel⟩
theorem tb_291 : Cond.methodLink R_M 108 y_M_lead ∈ og_tb := List.mem_filter.mpr ⟨List.mem_append_right _ (List.mem_of_getElem? (i := 576) (by decide +kernel)), by decide +kernel⟩
theorem tb_292 : Cond.instanceMethod y_M_lead ∈ og_tb := List.mem_filter.mpr ⟨List.mem_append_right _ (List.mem_of_getElem? (i := 578) (by decide +kernel)), by decide +kernel⟩
theorem tb_293 : Cond.selects R_M y_M_lead y_M_lead ∈ og_tb := List.mem_filter.mpr ⟨List.mem_append_left _ (List.mem_of_getElem? (i := 25) (by decide +kernel)), by decide +kernel⟩
theorem tb_294 : Cond.code y_M_lead b_M_lead 7 none ∈ og_tb := List.mem_filter.mpr ⟨List.mem_append_right _ (List.mem_of_getElem? (i := 579) (by decide +kernel)), by decide +kernel⟩
theorem tb_295 : Cond.fieldLink R_M 57 "CycleRowsModel" "ringSize" "[I" ∈ og_tb := List.mem_filter.mpr ⟨List.mem_append_right _ (List.mem_of_getElem? (i := 459) (by decide +kernel)), by decide +kernel⟩
theorem tb_296 : Cond.fieldLink R_M 112 "CycleRowsModel" "rings" "I" ∈ og_tb := List.mem_filter.mpr ⟨List.mem_append_right _ (List.mem_of_getElem? (i := 458) (by decide +kernel)), by decide +kernel⟩
theorem tb_297 : Cond.fieldLink R_M 60 "CycleRowsModel" "ring" "[I" ∈ og_tb := List.mem_filter.mpr ⟨List.mem_append_right _ (List.mem_of_getElem? (i := 460) (by decide +kernel)), by decide +kernel⟩
theorem tb_298 : Cond.methodLink R_M 115 y_M_sort ∈ og_tb := List.mem_filter.mpr ⟨List.mem_append_right _ (List.mem_of_getElem? (i := 549) (by decide +kernel)), by decide +kernel⟩
theorem tb_299 : Cond.instanceMethod y_M_sort ∈ og_tb := List.mem_filter.mpr ⟨List.mem_append_right _ (List.mem_of_getElem? (i := 551) (by decide +kernel)), by decide +kernel⟩
theorem tb_300 : Cond.selects R_M y_M_sort y_M_sort ∈ og_tb := List.mem_filter.mpr ⟨List.mem_append_left _ (List.mem_of_getElem? (i := 19) (by decide +kernel)), by decide +kernel⟩
theorem tb_301 : Cond.code y_M_sort b_M_sort 4 none ∈ og_tb := List.mem_filter.mpr ⟨List.mem_append_right _ (List.mem_of_getElem? (i := 552) (by decide +kernel)), by decide +kernel⟩
theorem tb_302 : Cond.methodLink R_M 118 y_M_close ∈ og_tb := List.mem_filter.mpr ⟨List.mem_append_right _ (List.mem_of_getElem? (i := 553) (by decide +kernel)), by decide +kernel⟩
theorem tb_303 : Cond.instanceMethod y_M_close ∈ og_tb := List.mem_filter.mpr ⟨List.mem_append_right _ (List.mem_of_getElem? (i := 555) (by decide +kernel)), by decide +kernel⟩
theorem tb_304 : Cond.selects R_M y_M_close y_M_close ∈ og_tb := List.mem_filter.mpr ⟨List.mem_append_left _ (List.mem_of_getElem? (i := 20) (by decide +kernel)), by decide +kernel⟩
theorem tb_305 : Cond.code y_M_close b_M_close 5 none ∈ og_tb := List.mem_filter.mpr ⟨List.mem_append_right _ (List.mem_of_getElem? (i := 556) (by decide +kernel)), by decide +kernel⟩
theorem tb_306 : Cond.methodLink R_M 121 y_M_cutIntoParts ∈ og_tb := List.mem_filter.mpr ⟨List.mem_append_right _ (List.mem_of_getElem? (i := 564) (by decide +kernel)), by decide +kernel⟩
theorem tb_307 : Cond.instanceMethod y_M_cutIntoParts ∈ og_tb := List.mem_filter.mpr ⟨List.mem_append_right _ (List.mem_of_getElem? (i := 566) (by decide +kernel)), by decide +kernel⟩
theorem tb_308 : Cond.selects R_M y_M_cutIntoParts y_M_cutIntoParts ∈ og_tb := List.mem_filter.mpr ⟨List.mem_append_left _ (List.mem_of_getElem? (i := 22) (by decide +kernel)), by decide +kernel⟩
theorem tb_309 : Cond.code y_M_cutIntoParts b_M_cutIntoParts 4 none ∈ og_tb := List.mem_filter.mpr ⟨List.mem_append_right _ (List.mem_of_getElem? (i := 567) (by decide +kernel)), by decide +kernel⟩
theorem tb_310 : Cond.methodLink R_M 124 y_M_tellRing ∈ og_tb := List.mem_filter.mpr ⟨List.mem_append_right _ (List.mem_of_getElem? (i := 572) (by decide +kernel)), by decide +kernel⟩
theorem tb_311 : Cond.instanceMethod y_M_tellRing ∈ og_tb := List.mem_filter.mpr ⟨List.mem_append_right _ (List.mem_of_getElem? (i := 574) (by decide +kernel)), by decide +kernel⟩
theorem tb_312 : Cond.selects R_M y_M_tellRing y_M_tellRing ∈ og_tb := List.mem_filter.mpr ⟨List.mem_append_left _ (List.mem_of_getElem? (i := 24) (by decide +kernel)), by decide +kernel⟩
theorem tb_313 : Cond.code y_M_tellRing b_M_tellRing 7 none ∈ og_tb := List.mem_filter.mpr ⟨List.mem_append_right _ (List.mem_of_getElem? (i := 575) (by decide +kernel)), by decide +kernel⟩
theorem tb_314 : Cond.methodLink R_M 128 y_M_keyOf ∈ og_tb := List.mem_filter.mpr ⟨List.mem_append_right _ (List.mem_of_getElem? (i := 588) (by decide +kernel)), by decide +kernel⟩
theorem tb_315 : Cond.instanceMethod y_M_keyOf ∈ og_tb := List.mem_filter.mpr ⟨List.mem_append_right _ (List.mem_of_getElem? (i := 590) (by decide +kernel)), by decide +kernel⟩
theorem tb_316 : Cond.selects R_M y_M_keyOf y_M_keyOf ∈ og_tb := List.mem_filter.mpr ⟨List.mem_append_left _ (List.mem_of_getElem? (i := 26) (by decide +kernel)), by decide +kernel⟩
theorem tb_317 : Cond.code y_M_keyOf b_M_keyOf 3 (some .int) ∈ og_tb := List.mem_filter.mpr ⟨List.mem_append_right _ (List.mem_of_getElem? (i := 591) (by decide +kernel)), by decide +kernel⟩
theorem tb_318 : Cond.methodLink R_M 131 y_M_edgeOf ∈ og_tb := List.mem_filter.mpr ⟨List.mem_append_right _ (List.mem_of_getElem? (i := 592) (by decide +kernel)), by decide +kernel⟩
theorem tb_319 : Cond.instanceMethod y_M_edgeOf ∈ og_tb := List.mem_filter.mpr ⟨List.mem_append_right _ (List.mem_of_getElem? (i := 594) (by decide +kernel)), by decide +kernel⟩
theorem tb_320 : Cond.selects R_M y_M_edgeOf y_M_edgeOf ∈ og_tb := List.mem_filter.mpr ⟨List.mem_append_left _ (List.mem_of_getElem? (i := 27) (by decide +kernel)), by decide +kernel⟩
theorem tb_321 : Cond.code y_M_edgeOf b_M_edgeOf 5 (some .int) ∈ og_tb := List.mem_filter.mpr ⟨List.mem_append_right _ (List.mem_of_getElem? (i := 595) (by decide +kernel)), by decide +kernel⟩
theorem tb_322 : Cond.methodLink R_M 134 y_M_isRing ∈ og_tb := List.mem_filter.mpr ⟨List.mem_append_right _ (List.mem_of_getElem? (i := 600) (by decide +kernel)), by decide +kernel⟩
theorem tb_323 : Cond.instanceMethod y_M_isRing ∈ og_tb := List.mem_filter.mpr ⟨List.mem_append_right _ (List.mem_of_getElem? (i := 602) (by decide +kernel)), by decide +kernel⟩
theorem tb_324 : Cond.selects R_M y_M_isRing y_M_isRing ∈ og_tb := List.mem_filter.mpr ⟨List.mem_append_left _ (List.mem_of_getElem? (i := 28) (by decide +kernel)), by decide +kernel⟩
theorem tb_325 : Cond.code y_M_isRing b_M_isRing 7 (some .boolean) ∈ og_tb := List.mem_filter.mpr ⟨List.mem_append_right _ (List.mem_of_getElem? (i := 603) (by decide +kernel)), by decide +kernel⟩
theorem tb_326 : Cond.methodLink R_M 137 y_M_isThere ∈ og_tb := List.mem_filter.mpr ⟨List.mem_append_right _ (List.mem_of_getElem? (i := 612) (by decide +kernel)), by decide +kernel⟩
theorem tb_327 : Cond.instanceMethod y_M_isThere ∈ og_tb := List.mem_filter.mpr ⟨List.mem_append_right _ (List.mem_of_getElem? (i := 614) (by decide +kernel)), by decide +kernel⟩
theorem tb_328 : Cond.selects R_M y_M_isThere y_M_isThere ∈ og_tb := List.mem_filter.mpr ⟨List.mem_append_left _ (List.mem_of_getElem? (i := 29) (by decide +kernel)), by decide +kernel⟩
theorem tb_329 : Cond.code y_M_isThere b_M_isThere 2 (some .boolean) ∈ og_tb := List.mem_filter.mpr ⟨List.mem_append_right _ (List.mem_of_getElem? (i := 615) (by decide +kernel)), by decide +kernel⟩
theorem tb_330 : Cond.methodLink R_M 140 y_M_isRinged ∈ og_tb := List.mem_filter.mpr ⟨List.mem_append_right _ (List.mem_of_getElem? (i := 620) (by decide +kernel)), by decide +kernel⟩
theorem tb_331 : Cond.instanceMethod y_M_isRinged ∈ og_tb := List.mem_filter.mpr ⟨List.mem_append_right _ (List.mem_of_getElem? (i := 622) (by decide +kernel)), by decide +kernel⟩
theorem tb_332 : Cond.selects R_M y_M_isRinged y_M_isRinged ∈ og_tb := List.mem_filter.mpr ⟨List.mem_append_left _ (List.mem_of_getElem? (i := 30) (by decide +kernel)), by decide +kernel⟩
theorem tb_333 : Cond.code y_M_isRinged b_M_isRinged 2 (some .boolean) ∈ og_tb := List.mem_filter.mpr ⟨List.mem_append_right _ (List.mem_of_getElem? (i := 623) (by decide +kernel)), by decide +kernel⟩
theorem tb_334 : Cond.fieldLink R_M 143 "CycleRowsModel" "metSize" "I" ∈ og_tb := List.mem_filter.mpr ⟨List.mem_append_right _ (List.mem_of_getElem? (i := 462) (by decide +kernel)), by decide +kernel⟩
theorem tb_335 : Cond.fieldLink R_M 66 "CycleRowsModel" "way" "[I" ∈ og_tb := List.mem_filter.mpr ⟨List.mem_append_right _ (List.mem_of_getElem? (i := 463) (by decide +kernel)), by decide +kernel⟩
theorem tb_336 : Cond.fieldLink R_M 69 "CycleRowsModel" "asked" "[I" ∈ og_tb := List.mem_filter.mpr ⟨List.mem_append_right _ (List.mem_of_getElem? (i := 464) (by decide +kernel)), by decide +kernel⟩
theorem tb_337 : Cond.fieldLink R_M 72 "CycleRowsModel" "at" "[I" ∈ og_tb := List.mem_filter.mpr ⟨List.mem_append_right _ (List.mem_of_getElem? (i := 465) (by decide +kernel)), by decide +kernel⟩
theorem tb_338 : Cond.methodLink R_M 146 y_M_ringOf ∈ og_tb := List.mem_filter.mpr ⟨List.mem_append_right _ (List.mem_of_getElem? (i := 632) (by decide +kernel)), by decide +kernel⟩
theorem tb_339 : Cond.instanceMethod y_M_ringOf ∈ og_tb := List.mem_filter.mpr ⟨List.mem_append_right _ (List.mem_of_getElem? (i := 634) (by decide +kernel)), by decide +kernel⟩
theorem tb_340 : Cond.selects R_M y_M_ringOf y_M_ringOf ∈ og_tb := List.mem_filter.mpr ⟨List.mem_append_left _ (List.mem_of_getElem? (i := 31) (by decide +kernel)), by decide +kernel⟩
theorem tb_341 : Cond.code y_M_ringOf b_M_ringOf 5 (some .int) ∈ og_tb := List.mem_filter.mpr ⟨List.mem_append_right _ (List.mem_of_getElem? (i := 635) (by decide +kernel)), by decide +kernel⟩
theorem tb_342 : Cond.methodLink R_K 3 Lib.objectInit ∈ og_tb := List.mem_filter.mpr ⟨List.mem_append_right _ (List.mem_of_getElem? (i := 24) (by decide +kernel)), by decide +kernel⟩
theorem tb_343 : Cond.instanceMethod Lib.objectInit ∈ og_tb := List.mem_filter.mpr ⟨List.mem_append_right _ (List.mem_of_getElem? (i := 17) (by decide +kernel)), by decide +kernel⟩
theorem tb_344 : Cond.code Lib.objectInit ⟨#[0xb1]⟩ 1 none ∈ og_tb := List.mem_filter.mpr ⟨List.mem_append_right _ (List.mem_of_getElem? (i := 18) (by decide +kernel)), by decide +kernel⟩
theorem tb_345 : Cond.arrayClass .int ∈ og_tb := List.mem_filter.mpr ⟨List.mem_append_right _ (List.mem_of_getElem? (i := 43) (by decide +kernel)), by decide +kernel⟩
theorem tb_346 : Cond.methodLink R_E 3 Lib.objectInit ∈ og_tb := List.mem_filter.mpr ⟨List.mem_append_right _ (List.mem_of_getElem? (i := 49) (by decide +kernel)), by decide +kernel⟩
theorem tb_347 : Cond.arrayClass .boolean ∈ og_tb := List.mem_filter.mpr ⟨List.mem_append_right _ (List.mem_of_getElem? (i := 75) (by decide +kernel)), by decide +kernel⟩
theorem tb_348 : Cond.methodLink R_R 3 Lib.objectInit ∈ og_tb := List.mem_filter.mpr ⟨List.mem_append_right _ (List.mem_of_getElem? (i := 81) (by decide +kernel)), by decide +kernel⟩
theorem tb_349 : Cond.arrayClass .long ∈ og_tb := List.mem_filter.mpr ⟨List.mem_append_right _ (List.mem_of_getElem? (i := 98) (by decide +kernel)), by decide +kernel⟩
theorem tb_350 : Cond.methodLink R_T 3 Lib.objectInit ∈ og_tb := List.mem_filter.mpr ⟨List.mem_append_right _ (List.mem_of_getElem? (i := 104) (by decide +kernel)), by decide +kernel⟩
theorem tb_351 : Cond.methodLink R_A 3 Lib.objectInit ∈ og_tb := List.mem_filter.mpr ⟨List.mem_append_right _ (List.mem_of_getElem? (i := 147) (by decide +kernel)), by decide +kernel⟩
theorem tb_352 : Cond.methodLink R_M 1 Lib.objectInit ∈ og_tb := List.mem_filter.mpr ⟨List.mem_append_right _ (List.mem_of_getElem? (i := 436) (by decide +kernel)), by decide +kernel⟩
end
section
theorem d_C_init_0 : decode b_C_init 0 = .ok (.aload_n 0, 1) := by decide +kernel
theorem d_C_init_1 : decode b_C_init 1 = .ok (.invokespecial 1, 3) := by decide +kernel
theorem d_C_init_4 : decode b_C_init 4 = .ok (.aload_n 0, 1) := by decide +kernel
theorem d_C_init_5 : decode b_C_init 5 = .ok (.new 7, 3) := by decide +kernel
theorem d_C_init_8 : decode b_C_init 8 = .ok (.dup, 1) := by decide +kernel
theorem d_C_init_9 : decode b_C_init 9 = .ok (.invokespecial 9, 3) := by decide +kernel
theorem d_C_init_12 : decode b_C_init 12 = .ok (.putfield 10, 3) := by decide +kernel
theorem d_C_init_15 : decode b_C_init 15 = .ok (.aload_n 0, 1) := by decide +kernel
theorem d_C_init_16 : decode b_C_init 16 = .ok (.new 16, 3) := by decide +kernel
theorem d_C_init_19 : decode b_C_init 19 = .ok (.dup, 1) := by decide +kernel
theorem d_C_init_20 : decode b_C_init 20 = .ok (.invokespecial 18, 3) := by decide +kernel
theorem d_C_init_23 : decode b_C_init 23 = .ok (.putfield 19, 3) := by decide +kernel
theorem d_C_init_26 : decode b_C_init 26 = .ok (.aload_n 0, 1) := by decide +kernel
theorem d_C_init_27 : decode b_C_init 27 = .ok (.new 23, 3) := by decide +kernel
theorem d_C_init_30 : decode b_C_init 30 = .ok (.dup, 1) := by decide +kernel
theorem d_C_init_31 : decode b_C_init 31 = .ok (.invokespecial 25, 3) := by decide +kernel
theorem d_C_init_34 : decode b_C_init 34 = .ok (.putfield 26, 3) := by decide +kernel
theorem d_C_init_37 : decode b_C_init 37 = .ok (.aload_n 0, 1) := by decide +kernel
theorem d_C_init_38 : decode b_C_init 38 = .ok (.new 30, 3) := by decide +kernel
theorem d_C_init_41 : decode b_C_init 41 = .ok (.dup, 1) := by decide +kernel
theorem d_C_init_42 : decode b_C_init 42 = .ok (.invokespecial 32, 3) := by decide +kernel
theorem d_C_init_45 : decode b_C_init 45 = .ok (.putfield 33, 3) := by decide +kernel
theorem d_C_init_48 : decode b_C_init 48 = .ok (.aload_n 0, 1) := by decide +kernel
theorem d_C_init_49 : decode b_C_init 49 = .ok (.new 37, 3) := by decide +kernel
theorem d_C_init_52 : decode b_C_init 52 = .ok (.dup, 1) := by decide +kernel
theorem d_C_init_53 : decode b_C_init 53 = .ok (.invokespecial 39, 3) := by decide +kernel
theorem d_C_init_56 : decode b_C_init 56 = .ok (.putfield 40, 3) := by decide +kernel
theorem d_C_init_59 : decode b_C_init 59 = .ok (.return_, 1) := by decide +kernel
theorem d_C_key_0 : decode b_C_key 0 = .ok (.aload_n 0, 1) := by decide +kernel
theorem d_C_key_1 : decode b_C_key 1 = .ok (.getfield 10, 3) := by decide +kernel
theorem d_C_key_4 : decode b_C_key 4 = .ok (.iload_n 1, 1) := by decide +kernel
theorem d_C_key_5 : decode b_C_key 5 = .ok (.invokevirtual 44, 3) := by decide +kernel
theorem d_C_key_8 : decode b_C_key 8 = .ok (.ireturn, 1) := by decide +kernel
theorem d_C_edge_0 : decode b_C_edge 0 = .ok (.aload_n 0, 1) := by decide +kernel
theorem d_C_edge_1 : decode b_C_edge 1 = .ok (.getfield 10, 3) := by decide +kernel
theorem d_C_edge_4 : decode b_C_edge 4 = .ok (.iload_n 1, 1) := by decide +kernel
theorem d_C_edge_5 : decode b_C_edge 5 = .ok (.invokevirtual 48, 3) := by decide +kernel
theorem d_C_edge_8 : decode b_C_edge 8 = .ok (.ifCond .eq 14, 3) := by decide +kernel
theorem d_C_edge_11 : decode b_C_edge 11 = .ok (.aload_n 0, 1) := by decide +kernel
theorem d_C_edge_12 : decode b_C_edge 12 = .ok (.getfield 10, 3) := by decide +kernel
theorem d_C_edge_15 : decode b_C_edge 15 = .ok (.iload_n 2, 1) := by decide +kernel
theorem d_C_edge_16 : decode b_C_edge 16 = .ok (.invokevirtual 48, 3) := by decide +kernel
theorem d_C_edge_19 : decode b_C_edge 19 = .ok (.ifCond .ne 5, 3) := by decide +kernel
theorem d_C_edge_22 : decode b_C_edge 22 = .ok (.iconst (-1), 1) := by decide +kernel
theorem d_C_edge_23 : decode b_C_edge 23 = .ok (.ireturn, 1) := by decide +kernel
theorem d_C_edge_24 : decode b_C_edge 24 = .ok (.aload_n 0, 1) := by decide +kernel
theorem d_C_edge_25 : decode b_C_edge 25 = .ok (.getfield 19, 3) := by decide +kernel
theorem d_C_edge_28 : decode b_C_edge 28 = .ok (.iload_n 1, 1) := by decide +kernel
theorem d_C_edge_29 : decode b_C_edge 29 = .ok (.iload_n 2, 1) := by decide +kernel
theorem d_C_edge_30 : decode b_C_edge 30 = .ok (.iload_n 3, 1) := by decide +kernel
theorem d_C_edge_31 : decode b_C_edge 31 = .ok (.iload 4, 2) := by decide +kernel
theorem d_C_edge_33 : decode b_C_edge 33 = .ok (.invokevirtual 52, 3) := by decide +kernel
theorem d_C_edge_36 : decode b_C_edge 36 = .ok (.ireturn, 1) := by decide +kernel
theorem d_C_remove_0 : decode b_C_remove 0 = .ok (.aload_n 0, 1) := by decide +kernel
theorem d_C_remove_1 : decode b_C_remove 1 = .ok (.getfield 19, 3) := by decide +kernel
theorem d_C_remove_4 : decode b_C_remove 4 = .ok (.iload_n 1, 1) := by decide +kernel
theorem d_C_remove_5 : decode b_C_remove 5 = .ok (.iload_n 2, 1) := by decide +kernel
theorem d_C_remove_6 : decode b_C_remove 6 = .ok (.invokevirtual 55, 3) := by decide +kernel
theorem d_C_remove_9 : decode b_C_remove 9 = .ok (.ireturn, 1) := by decide +kernel
theorem d_C_cut_0 : decode b_C_cut 0 = .ok (.aload_n 0, 1) := by decide +kernel
theorem d_C_cut_1 : decode b_C_cut 1 = .ok (.getfield 19, 3) := by decide +kernel
theorem d_C_cut_4 : decode b_C_cut 4 = .ok (.iload_n 1, 1) := by decide +kernel
theorem d_C_cut_5 : decode b_C_cut 5 = .ok (.invokevirtual 59, 3) := by decide +kernel
theorem d_C_cut_8 : decode b_C_cut 8 = .ok (.ireturn, 1) := by decide +kernel
theorem d_C_run_0 : decode b_C_run 0 = .ok (.iload_n 1, 1) := by decide +kernel
theorem d_C_run_1 : decode b_C_run 1 = .ok (.ifCond .lt 9, 3) := by decide +kernel
theorem d_C_run_4 : decode b_C_run 4 = .ok (.iload_n 1, 1) := by decide +kernel
theorem d_C_run_5 : decode b_C_run 5 = .ok (.bipush 8, 2) := by decide +kernel
theorem d_C_run_7 : decode b_C_run 7 = .ok (.if_icmp .lt 5, 3) := by decide +kernel
theorem d_C_run_10 : decode b_C_run 10 = .ok (.iconst (-1), 1) := by decide +kernel
theorem d_C_run_11 : decode b_C_run 11 = .ok (.ireturn, 1) := by decide +kernel
theorem d_C_run_12 : decode b_C_run 12 = .ok (.aload_n 0, 1) := by decide +kernel
theorem d_C_run_13 : decode b_C_run 13 = .ok (.getfield 26, 3) := by decide +kernel
theorem d_C_run_16 : decode b_C_run 16 = .ok (.aload_n 0, 1) := by decide +kernel
theorem d_C_run_17 : decode b_C_run 17 = .ok (.getfield 10, 3) := by decide +kernel
theorem d_C_run_20 : decode b_C_run 20 = .ok (.aload_n 0, 1) := by decide +kernel
theorem d_C_run_21 : decode b_C_run 21 = .ok (.getfield 19, 3) := by decide +kernel
theorem d_C_run_24 : decode b_C_run 24 = .ok (.iload_n 1, 1) := by decide +kernel
theorem d_C_run_25 : decode b_C_run 25 = .ok (.invokevirtual 62, 3) := by decide +kernel
theorem d_C_run_28 : decode b_C_run 28 = .ok (.aload_n 0, 1) := by decide +kernel
theorem d_C_run_29 : decode b_C_run 29 = .ok (.getfield 33, 3) := by decide +kernel
theorem d_C_run_32 : decode b_C_run 32 = .ok (.aload_n 0, 1) := by decide +kernel
theorem d_C_run_33 : decode b_C_run 33 = .ok (.getfield 10, 3) := by decide +kernel
theorem d_C_run_36 : decode b_C_run 36 = .ok (.aload_n 0, 1) := by decide +kernel
theorem d_C_run_37 : decode b_C_run 37 = .ok (.getfield 19, 3) := by decide +kernel
theorem d_C_run_40 : decode b_C_run 40 = .ok (.aload_n 0, 1) := by decide +kernel
theorem d_C_run_41 : decode b_C_run 41 = .ok (.getfield 26, 3) := by decide +kernel
theorem d_C_run_44 : decode b_C_run 44 = .ok (.iload_n 1, 1) := by decide +kernel
theorem d_C_run_45 : decode b_C_run 45 = .ok (.invokevirtual 66, 3) := by decide +kernel
theorem d_C_run_48 : decode b_C_run 48 = .ok (.aload_n 0, 1) := by decide +kernel
theorem d_C_run_49 : decode b_C_run 49 = .ok (.getfield 33, 3) := by decide +kernel
theorem d_C_run_52 : decode b_C_run 52 = .ok (.getfield 70, 3) := by decide +kernel
theorem d_C_run_55 : decode b_C_run 55 = .ok (.ireturn, 1) := by decide +kernel
theorem d_C_size_0 : decode b_C_size 0 = .ok (.aload_n 0, 1) := by decide +kernel
theorem d_C_size_1 : decode b_C_size 1 = .ok (.getfield 33, 3) := by decide +kernel
theorem d_C_size_4 : decode b_C_size 4 = .ok (.iload_n 1, 1) := by decide +kernel
theorem d_C_size_5 : decode b_C_size 5 = .ok (.invokevirtual 74, 3) := by decide +kernel
theorem d_C_size_8 : decode b_C_size 8 = .ok (.ifCond .eq 14, 3) := by decide +kernel
theorem d_C_size_11 : decode b_C_size 11 = .ok (.aload_n 0, 1) := by decide +kernel
theorem d_C_size_12 : decode b_C_size 12 = .ok (.getfield 33, 3) := by decide +kernel
theorem d_C_size_15 : decode b_C_size 15 = .ok (.iload_n 1, 1) := by decide +kernel
theorem d_C_size_16 : decode b_C_size 16 = .ok (.invokevirtual 77, 3) := by decide +kernel
theorem d_C_size_19 : decode b_C_size 19 = .ok (.goto 4, 3) := by decide +kernel
theorem d_C_size_22 : decode b_C_size 22 = .ok (.iconst 0, 1) := by decide +kernel
theorem d_C_size_23 : decode b_C_size 23 = .ok (.ireturn, 1) := by decide +kernel
theorem d_C_ring_0 : decode b_C_ring 0 = .ok (.aload_n 0, 1) := by decide +kernel
theorem d_C_ring_1 : decode b_C_ring 1 = .ok (.getfield 33, 3) := by decide +kernel
theorem d_C_ring_4 : decode b_C_ring 4 = .ok (.iload_n 1, 1) := by decide +kernel
theorem d_C_ring_5 : decode b_C_ring 5 = .ok (.invokevirtual 74, 3) := by decide +kernel
theorem d_C_ring_8 : decode b_C_ring 8 = .ok (.ifCond .eq 19, 3) := by decide +kernel
theorem d_C_ring_11 : decode b_C_ring 11 = .ok (.iload_n 2, 1) := by decide +kernel
theorem d_C_ring_12 : decode b_C_ring 12 = .ok (.ifCond .lt 15, 3) := by decide +kernel
theorem d_C_ring_15 : decode b_C_ring 15 = .ok (.iload_n 2, 1) := by decide +kernel
theorem d_C_ring_16 : decode b_C_ring 16 = .ok (.aload_n 0, 1) := by decide +kernel
theorem d_C_ring_17 : decode b_C_ring 17 = .ok (.getfield 33, 3) := by decide +kernel
theorem d_C_ring_20 : decode b_C_ring 20 = .ok (.iload_n 1, 1) := by decide +kernel
theorem d_C_ring_21 : decode b_C_ring 21 = .ok (.invokevirtual 77, 3) := by decide +kernel
theorem d_C_ring_24 : decode b_C_ring 24 = .ok (.if_icmp .lt 5, 3) := by decide +kernel
theorem d_C_ring_27 : decode b_C_ring 27 = .ok (.iconst (-1), 1) := by decide +kernel
theorem d_C_ring_28 : decode b_C_ring 28 = .ok (.ireturn, 1) := by decide +kernel
theorem d_C_ring_29 : decode b_C_ring 29 = .ok (.iload_n 3, 1) := by decide +kernel
theorem d_C_ring_30 : decode b_C_ring 30 = .ok (.tableswitch 63 0 2 #[26, 36, 53], 26) := by decide +kernel
theorem d_C_ring_56 : decode b_C_ring 56 = .ok (.aload_n 0, 1) := by decide +kernel
theorem d_C_ring_57 : decode b_C_ring 57 = .ok (.getfield 33, 3) := by decide +kernel
theorem d_C_ring_60 : decode b_C_ring 60 = .ok (.iload_n 1, 1) := by decide +kernel
theorem d_C_ring_61 : decode b_C_ring 61 = .ok (.iload_n 2, 1) := by decide +kernel
theorem d_C_ring_62 : decode b_C_ring 62 = .ok (.invokevirtual 80, 3) := by decide +kernel
theorem d_C_ring_65 : decode b_C_ring 65 = .ok (.ireturn, 1) := by decide +kernel
theorem d_C_ring_66 : decode b_C_ring 66 = .ok (.aload_n 0, 1) := by decide +kernel
theorem d_C_ring_67 : decode b_C_ring 67 = .ok (.getfield 19, 3) := by decide +kernel
theorem d_C_ring_70 : decode b_C_ring 70 = .ok (.aload_n 0, 1) := by decide +kernel
theorem d_C_ring_71 : decode b_C_ring 71 = .ok (.getfield 33, 3) := by decide +kernel
theorem d_C_ring_74 : decode b_C_ring 74 = .ok (.iload_n 1, 1) := by decide +kernel
theorem d_C_ring_75 : decode b_C_ring 75 = .ok (.iload_n 2, 1) := by decide +kernel
theorem d_C_ring_76 : decode b_C_ring 76 = .ok (.invokevirtual 83, 3) := by decide +kernel
theorem d_C_ring_79 : decode b_C_ring 79 = .ok (.invokevirtual 86, 3) := by decide +kernel
theorem d_C_ring_82 : decode b_C_ring 82 = .ok (.ireturn, 1) := by decide +kernel
theorem d_C_ring_83 : decode b_C_ring 83 = .ok (.aload_n 0, 1) := by decide +kernel
theorem d_C_ring_84 : decode b_C_ring 84 = .ok (.getfield 33, 3) := by decide +kernel
theorem d_C_ring_87 : decode b_C_ring 87 = .ok (.iload_n 1, 1) := by decide +kernel
theorem d_C_ring_88 : decode b_C_ring 88 = .ok (.iload_n 2, 1) := by decide +kernel
theorem d_C_ring_89 : decode b_C_ring 89 = .ok (.invokevirtual 83, 3) := by decide +kernel
theorem d_C_ring_92 : decode b_C_ring 92 = .ok (.ireturn, 1) := by decide +kernel
theorem d_C_ring_93 : decode b_C_ring 93 = .ok (.iconst (-1), 1) := by decide +kernel
theorem d_C_ring_94 : decode b_C_ring 94 = .ok (.ireturn, 1) := by decide +kernel
theorem d_C_only_0 : decode b_C_only 0 = .ok (.aload_n 0, 1) := by decide +kernel
theorem d_C_only_1 : decode b_C_only 1 = .ok (.getfield 33, 3) := by decide +kernel
theorem d_C_only_4 : decode b_C_only 4 = .ok (.iload_n 1, 1) := by decide +kernel
theorem d_C_only_5 : decode b_C_only 5 = .ok (.invokevirtual 74, 3) := by decide +kernel
theorem d_C_only_8 : decode b_C_only 8 = .ok (.ifCond .eq 15, 3) := by decide +kernel
theorem d_C_only_11 : decode b_C_only 11 = .ok (.aload_n 0, 1) := by decide +kernel
theorem d_C_only_12 : decode b_C_only 12 = .ok (.getfield 33, 3) := by decide +kernel
theorem d_C_only_15 : decode b_C_only 15 = .ok (.getfield 89, 3) := by decide +kernel
theorem d_C_only_18 : decode b_C_only 18 = .ok (.iload_n 1, 1) := by decide +kernel
theorem d_C_only_19 : decode b_C_only 19 = .ok (.iaload, 1) := by decide +kernel
theorem d_C_only_20 : decode b_C_only 20 = .ok (.goto 4, 3) := by decide +kernel
theorem d_C_only_23 : decode b_C_only 23 = .ok (.iconst (-1), 1) := by decide +kernel
theorem d_C_only_24 : decode b_C_only 24 = .ok (.ireturn, 1) := by decide +kernel
theorem d_C_newest_0 : decode b_C_newest 0 = .ok (.aload_n 0, 1) := by decide +kernel
theorem d_C_newest_1 : decode b_C_newest 1 = .ok (.getfield 33, 3) := by decide +kernel
theorem d_C_newest_4 : decode b_C_newest 4 = .ok (.iload_n 1, 1) := by decide +kernel
theorem d_C_newest_5 : decode b_C_newest 5 = .ok (.invokevirtual 74, 3) := by decide +kernel
theorem d_C_newest_8 : decode b_C_newest 8 = .ok (.ifCond .eq 14, 3) := by decide +kernel
theorem d_C_newest_11 : decode b_C_newest 11 = .ok (.aload_n 0, 1) := by decide +kernel
theorem d_C_newest_12 : decode b_C_newest 12 = .ok (.getfield 33, 3) := by decide +kernel
theorem d_C_newest_15 : decode b_C_newest 15 = .ok (.iload_n 1, 1) := by decide +kernel
theorem d_C_newest_16 : decode b_C_newest 16 = .ok (.invokevirtual 93, 3) := by decide +kernel
theorem d_C_newest_19 : decode b_C_newest 19 = .ok (.goto 4, 3) := by decide +kernel
theorem d_C_newest_22 : decode b_C_newest 22 = .ok (.iconst (-1), 1) := by decide +kernel
theorem d_C_newest_23 : decode b_C_newest 23 = .ok (.ireturn, 1) := by decide +kernel
theorem d_C_strong_0 : decode b_C_strong 0 = .ok (.aload_n 0, 1) := by decide +kernel
theorem d_C_strong_1 : decode b_C_strong 1 = .ok (.getfield 33, 3) := by decide +kernel
theorem d_C_strong_4 : decode b_C_strong 4 = .ok (.iload_n 1, 1) := by decide +kernel
theorem d_C_strong_5 : decode b_C_strong 5 = .ok (.invokevirtual 96, 3) := by decide +kernel
theorem d_C_strong_8 : decode b_C_strong 8 = .ok (.ifCond .eq 15, 3) := by decide +kernel
theorem d_C_strong_11 : decode b_C_strong 11 = .ok (.aload_n 0, 1) := by decide +kernel
theorem d_C_strong_12 : decode b_C_strong 12 = .ok (.getfield 33, 3) := by decide +kernel
theorem d_C_strong_15 : decode b_C_strong 15 = .ok (.getfield 99, 3) := by decide +kernel
theorem d_C_strong_18 : decode b_C_strong 18 = .ok (.iload_n 1, 1) := by decide +kernel
theorem d_C_strong_19 : decode b_C_strong 19 = .ok (.iaload, 1) := by decide +kernel
theorem d_C_strong_20 : decode b_C_strong 20 = .ok (.goto 4, 3) := by decide +kernel
theorem d_C_strong_23 : decode b_C_strong 23 = .ok (.iconst (-1), 1) := by decide +kernel
theorem d_C_strong_24 : decode b_C_strong 24 = .ok (.ireturn, 1) := by decide +kernel
theorem d_C_state_0 : decode b_C_state 0 = .ok (.aload_n 0, 1) := by decide +kernel
theorem d_C_state_1 : decode b_C_state 1 = .ok (.getfield 33, 3) := by decide +kernel
theorem d_C_state_4 : decode b_C_state 4 = .ok (.iload_n 1, 1) := by decide +kernel
theorem d_C_state_5 : decode b_C_state 5 = .ok (.invokevirtual 96, 3) := by decide +kernel
theorem d_C_state_8 : decode b_C_state 8 = .ok (.ifCond .eq 15, 3) := by decide +kernel
theorem d_C_state_11 : decode b_C_state 11 = .ok (.aload_n 0, 1) := by decide +kernel
theorem d_C_state_12 : decode b_C_state 12 = .ok (.getfield 33, 3) := by decide +kernel
theorem d_C_state_15 : decode b_C_state 15 = .ok (.getfield 102, 3) := by decide +kernel
theorem d_C_state_18 : decode b_C_state 18 = .ok (.iload_n 1, 1) := by decide +kernel
theorem d_C_state_19 : decode b_C_state 19 = .ok (.iaload, 1) := by decide +kernel
theorem d_C_state_20 : decode b_C_state 20 = .ok (.goto 4, 3) := by decide +kernel
theorem d_C_state_23 : decode b_C_state 23 = .ok (.iconst (-1), 1) := by decide +kernel
theorem d_C_state_24 : decode b_C_state 24 = .ok (.ireturn, 1) := by decide +kernel
theorem d_C_least_0 : decode b_C_least 0 = .ok (.aload_n 0, 1) := by decide +kernel
theorem d_C_least_1 : decode b_C_least 1 = .ok (.getfield 33, 3) := by decide +kernel
theorem d_C_least_4 : decode b_C_least 4 = .ok (.iload_n 1, 1) := by decide +kernel
theorem d_C_least_5 : decode b_C_least 5 = .ok (.invokevirtual 96, 3) := by decide +kernel
theorem d_C_least_8 : decode b_C_least 8 = .ok (.ifCond .eq 15, 3) := by decide +kernel
theorem d_C_least_11 : decode b_C_least 11 = .ok (.aload_n 0, 1) := by decide +kernel
theorem d_C_least_12 : decode b_C_least 12 = .ok (.getfield 33, 3) := by decide +kernel
theorem d_C_least_15 : decode b_C_least 15 = .ok (.getfield 105, 3) := by decide +kernel
theorem d_C_least_18 : decode b_C_least 18 = .ok (.iload_n 1, 1) := by decide +kernel
theorem d_C_least_19 : decode b_C_least 19 = .ok (.iaload, 1) := by decide +kernel
theorem d_C_least_20 : decode b_C_least 20 = .ok (.goto 4, 3) := by decide +kernel
theorem d_C_least_23 : decode b_C_least 23 = .ok (.iconst (-1), 1) := by decide +kernel
theorem d_C_least_24 : decode b_C_least 24 = .ok (.ireturn, 1) := by decide +kernel
theorem d_C_ask_0 : decode b_C_ask 0 = .ok (.aload_n 0, 1) := by decide +kernel
theorem d_C_ask_1 : decode b_C_ask 1 = .ok (.getfield 10, 3) := by decide +kernel
theorem d_C_ask_4 : decode b_C_ask 4 = .ok (.iload_n 1, 1) := by decide +kernel
theorem d_C_ask_5 : decode b_C_ask 5 = .ok (.invokevirtual 48, 3) := by decide +kernel
theorem d_C_ask_8 : decode b_C_ask 8 = .ok (.ifCond .eq 14, 3) := by decide +kernel
theorem d_C_ask_11 : decode b_C_ask 11 = .ok (.aload_n 0, 1) := by decide +kernel
theorem d_C_ask_12 : decode b_C_ask 12 = .ok (.getfield 33, 3) := by decide +kernel
theorem d_C_ask_15 : decode b_C_ask 15 = .ok (.getfield 108, 3) := by decide +kernel
theorem d_C_ask_18 : decode b_C_ask 18 = .ok (.iconst (-1), 1) := by decide +kernel
theorem d_C_ask_19 : decode b_C_ask 19 = .ok (.if_icmp .ne 5, 3) := by decide +kernel
theorem d_C_ask_22 : decode b_C_ask 22 = .ok (.iconst (-1), 1) := by decide +kernel
theorem d_C_ask_23 : decode b_C_ask 23 = .ok (.ireturn, 1) := by decide +kernel
theorem d_C_ask_24 : decode b_C_ask 24 = .ok (.aload_n 0, 1) := by decide +kernel
theorem d_C_ask_25 : decode b_C_ask 25 = .ok (.getfield 40, 3) := by decide +kernel
theorem d_C_ask_28 : decode b_C_ask 28 = .ok (.iload_n 1, 1) := by decide +kernel
theorem d_C_ask_29 : decode b_C_ask 29 = .ok (.aload_n 0, 1) := by decide +kernel
theorem d_C_ask_30 : decode b_C_ask 30 = .ok (.getfield 10, 3) := by decide +kernel
theorem d_C_ask_33 : decode b_C_ask 33 = .ok (.getfield 111, 3) := by decide +kernel
theorem d_C_ask_36 : decode b_C_ask 36 = .ok (.invokevirtual 114, 3) := by decide +kernel
theorem d_C_ask_39 : decode b_C_ask 39 = .ok (.aload_n 0, 1) := by decide +kernel
theorem d_C_ask_40 : decode b_C_ask 40 = .ok (.getfield 40, 3) := by decide +kernel
theorem d_C_ask_43 : decode b_C_ask 43 = .ok (.aload_n 0, 1) := by decide +kernel
theorem d_C_ask_44 : decode b_C_ask 44 = .ok (.getfield 19, 3) := by decide +kernel
theorem d_C_ask_47 : decode b_C_ask 47 = .ok (.aload_n 0, 1) := by decide +kernel
theorem d_C_ask_48 : decode b_C_ask 48 = .ok (.getfield 33, 3) := by decide +kernel
theorem d_C_ask_51 : decode b_C_ask 51 = .ok (.getfield 108, 3) := by decide +kernel
theorem d_C_ask_54 : decode b_C_ask 54 = .ok (.invokevirtual 118, 3) := by decide +kernel
theorem d_C_ask_57 : decode b_C_ask 57 = .ok (.aload_n 0, 1) := by decide +kernel
theorem d_C_ask_58 : decode b_C_ask 58 = .ok (.getfield 40, 3) := by decide +kernel
theorem d_C_ask_61 : decode b_C_ask 61 = .ok (.getfield 122, 3) := by decide +kernel
theorem d_C_ask_64 : decode b_C_ask 64 = .ok (.ireturn, 1) := by decide +kernel
theorem d_C_met_0 : decode b_C_met 0 = .ok (.iload_n 1, 1) := by decide +kernel
theorem d_C_met_1 : decode b_C_met 1 = .ok (.ifCond .lt 26, 3) := by decide +kernel
theorem d_C_met_4 : decode b_C_met 4 = .ok (.iload_n 1, 1) := by decide +kernel
theorem d_C_met_5 : decode b_C_met 5 = .ok (.aload_n 0, 1) := by decide +kernel
theorem d_C_met_6 : decode b_C_met 6 = .ok (.getfield 40, 3) := by decide +kernel
theorem d_C_met_9 : decode b_C_met 9 = .ok (.getfield 122, 3) := by decide +kernel
theorem d_C_met_12 : decode b_C_met 12 = .ok (.if_icmp .ge 15, 3) := by decide +kernel
theorem d_C_met_15 : decode b_C_met 15 = .ok (.aload_n 0, 1) := by decide +kernel
theorem d_C_met_16 : decode b_C_met 16 = .ok (.getfield 40, 3) := by decide +kernel
theorem d_C_met_19 : decode b_C_met 19 = .ok (.getfield 125, 3) := by decide +kernel
theorem d_C_met_22 : decode b_C_met 22 = .ok (.iload_n 1, 1) := by decide +kernel
theorem d_C_met_23 : decode b_C_met 23 = .ok (.iaload, 1) := by decide +kernel
theorem d_C_met_24 : decode b_C_met 24 = .ok (.goto 4, 3) := by decide +kernel
theorem d_C_met_27 : decode b_C_met 27 = .ok (.iconst (-1), 1) := by decide +kernel
theorem d_C_met_28 : decode b_C_met 28 = .ok (.ireturn, 1) := by decide +kernel
theorem d_A_init_0 : decode b_A_init 0 = .ok (.aload_n 0, 1) := by decide +kernel
theorem d_A_init_1 : decode b_A_init 1 = .ok (.invokespecial 3, 3) := by decide +kernel
theorem d_A_init_4 : decode b_A_init 4 = .ok (.aload_n 0, 1) := by decide +kernel
theorem d_A_init_5 : decode b_A_init 5 = .ok (.iconst 0, 1) := by decide +kernel
theorem d_A_init_6 : decode b_A_init 6 = .ok (.putfield 9, 3) := by decide +kernel
theorem d_A_init_9 : decode b_A_init 9 = .ok (.aload_n 0, 1) := by decide +kernel
theorem d_A_init_10 : decode b_A_init 10 = .ok (.bipush 40, 2) := by decide +kernel
theorem d_A_init_12 : decode b_A_init 12 = .ok (.newarray .int, 2) := by decide +kernel
theorem d_A_init_14 : decode b_A_init 14 = .ok (.putfield 15, 3) := by decide +kernel
theorem d_A_init_17 : decode b_A_init 17 = .ok (.aload_n 0, 1) := by decide +kernel
theorem d_A_init_18 : decode b_A_init 18 = .ok (.iconst 0, 1) := by decide +kernel
theorem d_A_init_19 : decode b_A_init 19 = .ok (.putfield 19, 3) := by decide +kernel
theorem d_A_init_22 : decode b_A_init 22 = .ok (.aload_n 0, 1) := by decide +kernel
theorem d_A_init_23 : decode b_A_init 23 = .ok (.bipush 40, 2) := by decide +kernel
theorem d_A_init_25 : decode b_A_init 25 = .ok (.newarray .int, 2) := by decide +kernel
theorem d_A_init_27 : decode b_A_init 27 = .ok (.putfield 22, 3) := by decide +kernel
theorem d_A_init_30 : decode b_A_init 30 = .ok (.aload_n 0, 1) := by decide +kernel
theorem d_A_init_31 : decode b_A_init 31 = .ok (.bipush 40, 2) := by decide +kernel
theorem d_A_init_33 : decode b_A_init 33 = .ok (.newarray .int, 2) := by decide +kernel
theorem d_A_init_35 : decode b_A_init 35 = .ok (.putfield 25, 3) := by decide +kernel
theorem d_A_init_38 : decode b_A_init 38 = .ok (.aload_n 0, 1) := by decide +kernel
theorem d_A_init_39 : decode b_A_init 39 = .ok (.bipush 40, 2) := by decide +kernel
theorem d_A_init_41 : decode b_A_init 41 = .ok (.newarray .boolean, 2) := by decide +kernel
theorem d_A_init_43 : decode b_A_init 43 = .ok (.putfield 28, 3) := by decide +kernel
theorem d_A_init_46 : decode b_A_init 46 = .ok (.return_, 1) := by decide +kernel
theorem d_A_begin_0 : decode b_A_begin 0 = .ok (.iconst 0, 1) := by decide +kernel
theorem d_A_begin_1 : decode b_A_begin 1 = .ok (.istore_n 3, 1) := by decide +kernel
theorem d_A_begin_2 : decode b_A_begin 2 = .ok (.iload_n 3, 1) := by decide +kernel
theorem d_A_begin_3 : decode b_A_begin 3 = .ok (.iload_n 2, 1) := by decide +kernel
theorem d_A_begin_4 : decode b_A_begin 4 = .ok (.if_icmp .ge 16, 3) := by decide +kernel
theorem d_A_begin_7 : decode b_A_begin 7 = .ok (.aload_n 0, 1) := by decide +kernel
theorem d_A_begin_8 : decode b_A_begin 8 = .ok (.getfield 28, 3) := by decide +kernel
theorem d_A_begin_11 : decode b_A_begin 11 = .ok (.iload_n 3, 1) := by decide +kernel
theorem d_A_begin_12 : decode b_A_begin 12 = .ok (.iconst 0, 1) := by decide +kernel
theorem d_A_begin_13 : decode b_A_begin 13 = .ok (.bastore, 1) := by decide +kernel
theorem d_A_begin_14 : decode b_A_begin 14 = .ok (.iinc 3 1, 3) := by decide +kernel
theorem d_A_begin_17 : decode b_A_begin 17 = .ok (.goto (-15), 3) := by decide +kernel
theorem d_A_begin_20 : decode b_A_begin 20 = .ok (.aload_n 0, 1) := by decide +kernel
theorem d_A_begin_21 : decode b_A_begin 21 = .ok (.iconst 0, 1) := by decide +kernel
theorem d_A_begin_22 : decode b_A_begin 22 = .ok (.putfield 9, 3) := by decide +kernel
theorem d_A_begin_25 : decode b_A_begin 25 = .ok (.aload_n 0, 1) := by decide +kernel
theorem d_A_begin_26 : decode b_A_begin 26 = .ok (.iconst 0, 1) := by decide +kernel
theorem d_A_begin_27 : decode b_A_begin 27 = .ok (.putfield 19, 3) := by decide +kernel
theorem d_A_begin_30 : decode b_A_begin 30 = .ok (.aload_n 0, 1) := by decide +kernel
theorem d_A_begin_31 : decode b_A_begin 31 = .ok (.iload_n 1, 1) := by decide +kernel
theorem d_A_begin_32 : decode b_A_begin 32 = .ok (.invokevirtual 32, 3) := by decide +kernel
theorem d_A_begin_35 : decode b_A_begin 35 = .ok (.return_, 1) := by decide +kernel
theorem d_A_goOn_0 : decode b_A_goOn 0 = .ok (.iconst 0, 1) := by decide +kernel
theorem d_A_goOn_1 : decode b_A_goOn 1 = .ok (.istore_n 3, 1) := by decide +kernel
theorem d_A_goOn_2 : decode b_A_goOn 2 = .ok (.iload_n 3, 1) := by decide +kernel
theorem d_A_goOn_3 : decode b_A_goOn 3 = .ok (.bipush 80, 2) := by decide +kernel
theorem d_A_goOn_5 : decode b_A_goOn 5 = .ok (.if_icmp .ge 77, 3) := by decide +kernel
theorem d_A_goOn_8 : decode b_A_goOn 8 = .ok (.aload_n 0, 1) := by decide +kernel
theorem d_A_goOn_9 : decode b_A_goOn 9 = .ok (.getfield 19, 3) := by decide +kernel
theorem d_A_goOn_12 : decode b_A_goOn 12 = .ok (.ifCond .le 70, 3) := by decide +kernel
theorem d_A_goOn_15 : decode b_A_goOn 15 = .ok (.aload_n 0, 1) := by decide +kernel
theorem d_A_goOn_16 : decode b_A_goOn 16 = .ok (.aload_n 0, 1) := by decide +kernel
theorem d_A_goOn_17 : decode b_A_goOn 17 = .ok (.getfield 22, 3) := by decide +kernel
theorem d_A_goOn_20 : decode b_A_goOn 20 = .ok (.aload_n 0, 1) := by decide +kernel
theorem d_A_goOn_21 : decode b_A_goOn 21 = .ok (.getfield 19, 3) := by decide +kernel
theorem d_A_goOn_24 : decode b_A_goOn 24 = .ok (.iconst 1, 1) := by decide +kernel
theorem d_A_goOn_25 : decode b_A_goOn 25 = .ok (.isub, 1) := by decide +kernel
theorem d_A_goOn_26 : decode b_A_goOn 26 = .ok (.iaload, 1) := by decide +kernel
theorem d_A_goOn_27 : decode b_A_goOn 27 = .ok (.aload_n 1, 1) := by decide +kernel
theorem d_A_goOn_28 : decode b_A_goOn 28 = .ok (.iload_n 2, 1) := by decide +kernel
theorem d_A_goOn_29 : decode b_A_goOn 29 = .ok (.invokevirtual 36, 3) := by decide +kernel
theorem d_A_goOn_32 : decode b_A_goOn 32 = .ok (.istore 4, 2) := by decide +kernel
theorem d_A_goOn_34 : decode b_A_goOn 34 = .ok (.iload 4, 2) := by decide +kernel
theorem d_A_goOn_36 : decode b_A_goOn 36 = .ok (.iconst (-1), 1) := by decide +kernel
theorem d_A_goOn_37 : decode b_A_goOn 37 = .ok (.if_icmp .ne 16, 3) := by decide +kernel
theorem d_A_goOn_40 : decode b_A_goOn 40 = .ok (.aload_n 0, 1) := by decide +kernel
theorem d_A_goOn_41 : decode b_A_goOn 41 = .ok (.dup, 1) := by decide +kernel
theorem d_A_goOn_42 : decode b_A_goOn 42 = .ok (.getfield 19, 3) := by decide +kernel
theorem d_A_goOn_45 : decode b_A_goOn 45 = .ok (.iconst 1, 1) := by decide +kernel
theorem d_A_goOn_46 : decode b_A_goOn 46 = .ok (.isub, 1) := by decide +kernel
theorem d_A_goOn_47 : decode b_A_goOn 47 = .ok (.putfield 19, 3) := by decide +kernel
theorem d_A_goOn_50 : decode b_A_goOn 50 = .ok (.goto 26, 3) := by decide +kernel
theorem d_A_goOn_53 : decode b_A_goOn 53 = .ok (.aload_n 0, 1) := by decide +kernel
theorem d_A_goOn_54 : decode b_A_goOn 54 = .ok (.getfield 28, 3) := by decide +kernel
theorem d_A_goOn_57 : decode b_A_goOn 57 = .ok (.iload 4, 2) := by decide +kernel
theorem d_A_goOn_59 : decode b_A_goOn 59 = .ok (.baload, 1) := by decide +kernel
theorem d_A_goOn_60 : decode b_A_goOn 60 = .ok (.ifCond .eq 10, 3) := by decide +kernel
theorem d_A_goOn_63 : decode b_A_goOn 63 = .ok (.aload_n 0, 1) := by decide +kernel
theorem d_A_goOn_64 : decode b_A_goOn 64 = .ok (.iload 4, 2) := by decide +kernel
theorem d_A_goOn_66 : decode b_A_goOn 66 = .ok (.invokevirtual 40, 3) := by decide +kernel
theorem d_A_goOn_69 : decode b_A_goOn 69 = .ok (.return_, 1) := by decide +kernel
theorem d_A_goOn_70 : decode b_A_goOn 70 = .ok (.aload_n 0, 1) := by decide +kernel
theorem d_A_goOn_71 : decode b_A_goOn 71 = .ok (.iload 4, 2) := by decide +kernel
theorem d_A_goOn_73 : decode b_A_goOn 73 = .ok (.invokevirtual 32, 3) := by decide +kernel
theorem d_A_goOn_76 : decode b_A_goOn 76 = .ok (.iinc 3 1, 3) := by decide +kernel
theorem d_A_goOn_79 : decode b_A_goOn 79 = .ok (.goto (-77), 3) := by decide +kernel
theorem d_A_goOn_82 : decode b_A_goOn 82 = .ok (.return_, 1) := by decide +kernel
theorem d_A_push_0 : decode b_A_push 0 = .ok (.aload_n 0, 1) := by decide +kernel
theorem d_A_push_1 : decode b_A_push 1 = .ok (.getfield 19, 3) := by decide +kernel
theorem d_A_push_4 : decode b_A_push 4 = .ok (.bipush 40, 2) := by decide +kernel
theorem d_A_push_6 : decode b_A_push 6 = .ok (.if_icmp .ge 37, 3) := by decide +kernel
theorem d_A_push_9 : decode b_A_push 9 = .ok (.aload_n 0, 1) := by decide +kernel
theorem d_A_push_10 : decode b_A_push 10 = .ok (.getfield 22, 3) := by decide +kernel
theorem d_A_push_13 : decode b_A_push 13 = .ok (.aload_n 0, 1) := by decide +kernel
theorem d_A_push_14 : decode b_A_push 14 = .ok (.getfield 19, 3) := by decide +kernel
theorem d_A_push_17 : decode b_A_push 17 = .ok (.iload_n 1, 1) := by decide +kernel
theorem d_A_push_18 : decode b_A_push 18 = .ok (.iastore, 1) := by decide +kernel
theorem d_A_push_19 : decode b_A_push 19 = .ok (.aload_n 0, 1) := by decide +kernel
theorem d_A_push_20 : decode b_A_push 20 = .ok (.dup, 1) := by decide +kernel
theorem d_A_push_21 : decode b_A_push 21 = .ok (.getfield 19, 3) := by decide +kernel
theorem d_A_push_24 : decode b_A_push 24 = .ok (.iconst 1, 1) := by decide +kernel
theorem d_A_push_25 : decode b_A_push 25 = .ok (.iadd, 1) := by decide +kernel
theorem d_A_push_26 : decode b_A_push 26 = .ok (.putfield 19, 3) := by decide +kernel
theorem d_A_push_29 : decode b_A_push 29 = .ok (.aload_n 0, 1) := by decide +kernel
theorem d_A_push_30 : decode b_A_push 30 = .ok (.getfield 28, 3) := by decide +kernel
theorem d_A_push_33 : decode b_A_push 33 = .ok (.iload_n 1, 1) := by decide +kernel
theorem d_A_push_34 : decode b_A_push 34 = .ok (.iconst 1, 1) := by decide +kernel
theorem d_A_push_35 : decode b_A_push 35 = .ok (.bastore, 1) := by decide +kernel
theorem d_A_push_36 : decode b_A_push 36 = .ok (.aload_n 0, 1) := by decide +kernel
theorem d_A_push_37 : decode b_A_push 37 = .ok (.getfield 25, 3) := by decide +kernel
theorem d_A_push_40 : decode b_A_push 40 = .ok (.iload_n 1, 1) := by decide +kernel
theorem d_A_push_41 : decode b_A_push 41 = .ok (.iconst 0, 1) := by decide +kernel
theorem d_A_push_42 : decode b_A_push 42 = .ok (.iastore, 1) := by decide +kernel
theorem d_A_push_43 : decode b_A_push 43 = .ok (.return_, 1) := by decide +kernel
theorem d_A_nextTarget_0 : decode b_A_nextTarget 0 = .ok (.aload_n 0, 1) := by decide +kernel
theorem d_A_nextTarget_1 : decode b_A_nextTarget 1 = .ok (.getfield 25, 3) := by decide +kernel
theorem d_A_nextTarget_4 : decode b_A_nextTarget 4 = .ok (.iload_n 1, 1) := by decide +kernel
theorem d_A_nextTarget_5 : decode b_A_nextTarget 5 = .ok (.iaload, 1) := by decide +kernel
theorem d_A_nextTarget_6 : decode b_A_nextTarget 6 = .ok (.istore 4, 2) := by decide +kernel
theorem d_A_nextTarget_8 : decode b_A_nextTarget 8 = .ok (.iload 4, 2) := by decide +kernel
theorem d_A_nextTarget_10 : decode b_A_nextTarget 10 = .ok (.aload_n 2, 1) := by decide +kernel
theorem d_A_nextTarget_11 : decode b_A_nextTarget 11 = .ok (.getfield 43, 3) := by decide +kernel
theorem d_A_nextTarget_14 : decode b_A_nextTarget 14 = .ok (.if_icmp .ge 72, 3) := by decide +kernel
theorem d_A_nextTarget_17 : decode b_A_nextTarget 17 = .ok (.aload_n 2, 1) := by decide +kernel
theorem d_A_nextTarget_18 : decode b_A_nextTarget 18 = .ok (.getfield 48, 3) := by decide +kernel
theorem d_A_nextTarget_21 : decode b_A_nextTarget 21 = .ok (.iload 4, 2) := by decide +kernel
theorem d_A_nextTarget_23 : decode b_A_nextTarget 23 = .ok (.iaload, 1) := by decide +kernel
theorem d_A_nextTarget_24 : decode b_A_nextTarget 24 = .ok (.iload_n 1, 1) := by decide +kernel
theorem d_A_nextTarget_25 : decode b_A_nextTarget 25 = .ok (.if_icmp .ne 55, 3) := by decide +kernel
theorem d_A_nextTarget_28 : decode b_A_nextTarget 28 = .ok (.aload_n 2, 1) := by decide +kernel
theorem d_A_nextTarget_29 : decode b_A_nextTarget 29 = .ok (.iload 4, 2) := by decide +kernel
theorem d_A_nextTarget_31 : decode b_A_nextTarget 31 = .ok (.iload_n 3, 1) := by decide +kernel
theorem d_A_nextTarget_32 : decode b_A_nextTarget 32 = .ok (.invokevirtual 51, 3) := by decide +kernel
theorem d_A_nextTarget_35 : decode b_A_nextTarget 35 = .ok (.ifCond .eq 45, 3) := by decide +kernel
theorem d_A_nextTarget_38 : decode b_A_nextTarget 38 = .ok (.aload_n 2, 1) := by decide +kernel
theorem d_A_nextTarget_39 : decode b_A_nextTarget 39 = .ok (.getfield 55, 3) := by decide +kernel
theorem d_A_nextTarget_42 : decode b_A_nextTarget 42 = .ok (.iload 4, 2) := by decide +kernel
theorem d_A_nextTarget_44 : decode b_A_nextTarget 44 = .ok (.iaload, 1) := by decide +kernel
theorem d_A_nextTarget_45 : decode b_A_nextTarget 45 = .ok (.istore 5, 2) := by decide +kernel
theorem d_A_nextTarget_47 : decode b_A_nextTarget 47 = .ok (.aload_n 0, 1) := by decide +kernel
theorem d_A_nextTarget_48 : decode b_A_nextTarget 48 = .ok (.getfield 28, 3) := by decide +kernel
theorem d_A_nextTarget_51 : decode b_A_nextTarget 51 = .ok (.iload 5, 2) := by decide +kernel
theorem d_A_nextTarget_53 : decode b_A_nextTarget 53 = .ok (.baload, 1) := by decide +kernel
theorem d_A_nextTarget_54 : decode b_A_nextTarget 54 = .ok (.ifCond .eq 13, 3) := by decide +kernel
theorem d_A_nextTarget_57 : decode b_A_nextTarget 57 = .ok (.aload_n 0, 1) := by decide +kernel
theorem d_A_nextTarget_58 : decode b_A_nextTarget 58 = .ok (.iload 5, 2) := by decide +kernel
theorem d_A_nextTarget_60 : decode b_A_nextTarget 60 = .ok (.invokevirtual 58, 3) := by decide +kernel
theorem d_A_nextTarget_63 : decode b_A_nextTarget 63 = .ok (.iconst (-1), 1) := by decide +kernel
theorem d_A_nextTarget_64 : decode b_A_nextTarget 64 = .ok (.if_icmp .eq 16, 3) := by decide +kernel
theorem d_A_nextTarget_67 : decode b_A_nextTarget 67 = .ok (.aload_n 0, 1) := by decide +kernel
theorem d_A_nextTarget_68 : decode b_A_nextTarget 68 = .ok (.getfield 25, 3) := by decide +kernel
theorem d_A_nextTarget_71 : decode b_A_nextTarget 71 = .ok (.iload_n 1, 1) := by decide +kernel
theorem d_A_nextTarget_72 : decode b_A_nextTarget 72 = .ok (.iload 4, 2) := by decide +kernel
theorem d_A_nextTarget_74 : decode b_A_nextTarget 74 = .ok (.iconst 1, 1) := by decide +kernel
theorem d_A_nextTarget_75 : decode b_A_nextTarget 75 = .ok (.iadd, 1) := by decide +kernel
theorem d_A_nextTarget_76 : decode b_A_nextTarget 76 = .ok (.iastore, 1) := by decide +kernel
theorem d_A_nextTarget_77 : decode b_A_nextTarget 77 = .ok (.iload 5, 2) := by decide +kernel
theorem d_A_nextTarget_79 : decode b_A_nextTarget 79 = .ok (.ireturn, 1) := by decide +kernel
theorem d_A_nextTarget_80 : decode b_A_nextTarget 80 = .ok (.iinc 4 1, 3) := by decide +kernel
theorem d_A_nextTarget_83 : decode b_A_nextTarget 83 = .ok (.goto (-75), 3) := by decide +kernel
theorem d_A_nextTarget_86 : decode b_A_nextTarget 86 = .ok (.iconst (-1), 1) := by decide +kernel
theorem d_A_nextTarget_87 : decode b_A_nextTarget 87 = .ok (.ireturn, 1) := by decide +kernel
theorem d_A_openAt_0 : decode b_A_openAt 0 = .ok (.iconst 0, 1) := by decide +kernel
theorem d_A_openAt_1 : decode b_A_openAt 1 = .ok (.istore_n 2, 1) := by decide +kernel
theorem d_A_openAt_2 : decode b_A_openAt 2 = .ok (.iload_n 2, 1) := by decide +kernel
theorem d_A_openAt_3 : decode b_A_openAt 3 = .ok (.aload_n 0, 1) := by decide +kernel
theorem d_A_openAt_4 : decode b_A_openAt 4 = .ok (.getfield 19, 3) := by decide +kernel
theorem d_A_openAt_7 : decode b_A_openAt 7 = .ok (.if_icmp .ge 21, 3) := by decide +kernel
theorem d_A_openAt_10 : decode b_A_openAt 10 = .ok (.aload_n 0, 1) := by decide +kernel
theorem d_A_openAt_11 : decode b_A_openAt 11 = .ok (.getfield 22, 3) := by decide +kernel
theorem d_A_openAt_14 : decode b_A_openAt 14 = .ok (.iload_n 2, 1) := by decide +kernel
theorem d_A_openAt_15 : decode b_A_openAt 15 = .ok (.iaload, 1) := by decide +kernel
theorem d_A_openAt_16 : decode b_A_openAt 16 = .ok (.iload_n 1, 1) := by decide +kernel
theorem d_A_openAt_17 : decode b_A_openAt 17 = .ok (.if_icmp .ne 5, 3) := by decide +kernel
theorem d_A_openAt_20 : decode b_A_openAt 20 = .ok (.iload_n 2, 1) := by decide +kernel
theorem d_A_openAt_21 : decode b_A_openAt 21 = .ok (.ireturn, 1) := by decide +kernel
theorem d_A_openAt_22 : decode b_A_openAt 22 = .ok (.iinc 2 1, 3) := by decide +kernel
theorem d_A_openAt_25 : decode b_A_openAt 25 = .ok (.goto (-23), 3) := by decide +kernel
theorem d_A_openAt_28 : decode b_A_openAt 28 = .ok (.iconst (-1), 1) := by decide +kernel
theorem d_A_openAt_29 : decode b_A_openAt 29 = .ok (.ireturn, 1) := by decide +kernel
theorem d_A_meet_0 : decode b_A_meet 0 = .ok (.aload_n 0, 1) := by decide +kernel
theorem d_A_meet_1 : decode b_A_meet 1 = .ok (.iload_n 1, 1) := by decide +kernel
theorem d_A_meet_2 : decode b_A_meet 2 = .ok (.invokevirtual 58, 3) := by decide +kernel
theorem d_A_meet_5 : decode b_A_meet 5 = .ok (.istore_n 2, 1) := by decide +kernel
theorem d_A_meet_6 : decode b_A_meet 6 = .ok (.iload_n 2, 1) := by decide +kernel
theorem d_A_meet_7 : decode b_A_meet 7 = .ok (.iconst (-1), 1) := by decide +kernel
theorem d_A_meet_8 : decode b_A_meet 8 = .ok (.if_icmp .ne 4, 3) := by decide +kernel
theorem d_A_meet_11 : decode b_A_meet 11 = .ok (.return_, 1) := by decide +kernel
theorem d_A_meet_12 : decode b_A_meet 12 = .ok (.aload_n 0, 1) := by decide +kernel
theorem d_A_meet_13 : decode b_A_meet 13 = .ok (.aload_n 0, 1) := by decide +kernel
theorem d_A_meet_14 : decode b_A_meet 14 = .ok (.getfield 19, 3) := by decide +kernel
theorem d_A_meet_17 : decode b_A_meet 17 = .ok (.iload_n 2, 1) := by decide +kernel
theorem d_A_meet_18 : decode b_A_meet 18 = .ok (.isub, 1) := by decide +kernel
theorem d_A_meet_19 : decode b_A_meet 19 = .ok (.putfield 9, 3) := by decide +kernel
theorem d_A_meet_22 : decode b_A_meet 22 = .ok (.aload_n 0, 1) := by decide +kernel
theorem d_A_meet_23 : decode b_A_meet 23 = .ok (.getfield 22, 3) := by decide +kernel
theorem d_A_meet_26 : decode b_A_meet 26 = .ok (.iload_n 2, 1) := by decide +kernel
theorem d_A_meet_27 : decode b_A_meet 27 = .ok (.aload_n 0, 1) := by decide +kernel
theorem d_A_meet_28 : decode b_A_meet 28 = .ok (.getfield 15, 3) := by decide +kernel
theorem d_A_meet_31 : decode b_A_meet 31 = .ok (.iconst 0, 1) := by decide +kernel
theorem d_A_meet_32 : decode b_A_meet 32 = .ok (.aload_n 0, 1) := by decide +kernel
theorem d_A_meet_33 : decode b_A_meet 33 = .ok (.getfield 9, 3) := by decide +kernel
theorem d_A_meet_36 : decode b_A_meet 36 = .ok (.invokestatic 62, 3) := by decide +kernel
theorem d_A_meet_39 : decode b_A_meet 39 = .ok (.return_, 1) := by decide +kernel
theorem d_E_init_0 : decode b_E_init 0 = .ok (.aload_n 0, 1) := by decide +kernel
theorem d_E_init_1 : decode b_E_init 1 = .ok (.invokespecial 3, 3) := by decide +kernel
theorem d_E_init_4 : decode b_E_init 4 = .ok (.aload_n 0, 1) := by decide +kernel
theorem d_E_init_5 : decode b_E_init 5 = .ok (.iconst 0, 1) := by decide +kernel
theorem d_E_init_6 : decode b_E_init 6 = .ok (.putfield 9, 3) := by decide +kernel
theorem d_E_init_9 : decode b_E_init 9 = .ok (.aload_n 0, 1) := by decide +kernel
theorem d_E_init_10 : decode b_E_init 10 = .ok (.sipush 160, 3) := by decide +kernel
theorem d_E_init_13 : decode b_E_init 13 = .ok (.newarray .int, 2) := by decide +kernel
theorem d_E_init_15 : decode b_E_init 15 = .ok (.putfield 15, 3) := by decide +kernel
theorem d_E_init_18 : decode b_E_init 18 = .ok (.aload_n 0, 1) := by decide +kernel
theorem d_E_init_19 : decode b_E_init 19 = .ok (.sipush 160, 3) := by decide +kernel
theorem d_E_init_22 : decode b_E_init 22 = .ok (.newarray .int, 2) := by decide +kernel
theorem d_E_init_24 : decode b_E_init 24 = .ok (.putfield 19, 3) := by decide +kernel
theorem d_E_init_27 : decode b_E_init 27 = .ok (.aload_n 0, 1) := by decide +kernel
theorem d_E_init_28 : decode b_E_init 28 = .ok (.sipush 160, 3) := by decide +kernel
theorem d_E_init_31 : decode b_E_init 31 = .ok (.newarray .int, 2) := by decide +kernel
theorem d_E_init_33 : decode b_E_init 33 = .ok (.putfield 22, 3) := by decide +kernel
theorem d_E_init_36 : decode b_E_init 36 = .ok (.aload_n 0, 1) := by decide +kernel
theorem d_E_init_37 : decode b_E_init 37 = .ok (.sipush 160, 3) := by decide +kernel
theorem d_E_init_40 : decode b_E_init 40 = .ok (.newarray .int, 2) := by decide +kernel
theorem d_E_init_42 : decode b_E_init 42 = .ok (.putfield 25, 3) := by decide +kernel
theorem d_E_init_45 : decode b_E_init 45 = .ok (.aload_n 0, 1) := by decide +kernel
theorem d_E_init_46 : decode b_E_init 46 = .ok (.sipush 160, 3) := by decide +kernel
theorem d_E_init_49 : decode b_E_init 49 = .ok (.newarray .boolean, 2) := by decide +kernel
theorem d_E_init_51 : decode b_E_init 51 = .ok (.putfield 28, 3) := by decide +kernel
theorem d_E_init_54 : decode b_E_init 54 = .ok (.return_, 1) := by decide +kernel
theorem d_E_add_0 : decode b_E_add 0 = .ok (.aload_n 0, 1) := by decide +kernel
theorem d_E_add_1 : decode b_E_add 1 = .ok (.getfield 9, 3) := by decide +kernel
theorem d_E_add_4 : decode b_E_add 4 = .ok (.sipush 160, 3) := by decide +kernel
theorem d_E_add_7 : decode b_E_add 7 = .ok (.if_icmp .lt 5, 3) := by decide +kernel
theorem d_E_add_10 : decode b_E_add 10 = .ok (.iconst (-1), 1) := by decide +kernel
theorem d_E_add_11 : decode b_E_add 11 = .ok (.ireturn, 1) := by decide +kernel
theorem d_E_add_12 : decode b_E_add 12 = .ok (.aload_n 0, 1) := by decide +kernel
theorem d_E_add_13 : decode b_E_add 13 = .ok (.getfield 9, 3) := by decide +kernel
theorem d_E_add_16 : decode b_E_add 16 = .ok (.istore 5, 2) := by decide +kernel
theorem d_E_add_18 : decode b_E_add 18 = .ok (.aload_n 0, 1) := by decide +kernel
theorem d_E_add_19 : decode b_E_add 19 = .ok (.getfield 15, 3) := by decide +kernel
theorem d_E_add_22 : decode b_E_add 22 = .ok (.iload 5, 2) := by decide +kernel
theorem d_E_add_24 : decode b_E_add 24 = .ok (.iload_n 1, 1) := by decide +kernel
theorem d_E_add_25 : decode b_E_add 25 = .ok (.iastore, 1) := by decide +kernel
theorem d_E_add_26 : decode b_E_add 26 = .ok (.aload_n 0, 1) := by decide +kernel
theorem d_E_add_27 : decode b_E_add 27 = .ok (.getfield 19, 3) := by decide +kernel
theorem d_E_add_30 : decode b_E_add 30 = .ok (.iload 5, 2) := by decide +kernel
theorem d_E_add_32 : decode b_E_add 32 = .ok (.iload_n 2, 1) := by decide +kernel
theorem d_E_add_33 : decode b_E_add 33 = .ok (.iastore, 1) := by decide +kernel
theorem d_E_add_34 : decode b_E_add 34 = .ok (.aload_n 0, 1) := by decide +kernel
theorem d_E_add_35 : decode b_E_add 35 = .ok (.getfield 22, 3) := by decide +kernel
theorem d_E_add_38 : decode b_E_add 38 = .ok (.iload 5, 2) := by decide +kernel
theorem d_E_add_40 : decode b_E_add 40 = .ok (.iload_n 3, 1) := by decide +kernel
theorem d_E_add_41 : decode b_E_add 41 = .ok (.iastore, 1) := by decide +kernel
theorem d_E_add_42 : decode b_E_add 42 = .ok (.aload_n 0, 1) := by decide +kernel
theorem d_E_add_43 : decode b_E_add 43 = .ok (.getfield 25, 3) := by decide +kernel
theorem d_E_add_46 : decode b_E_add 46 = .ok (.iload 5, 2) := by decide +kernel
theorem d_E_add_48 : decode b_E_add 48 = .ok (.iload 4, 2) := by decide +kernel
theorem d_E_add_50 : decode b_E_add 50 = .ok (.sipush 255, 3) := by decide +kernel
theorem d_E_add_53 : decode b_E_add 53 = .ok (.iand, 1) := by decide +kernel
theorem d_E_add_54 : decode b_E_add 54 = .ok (.iastore, 1) := by decide +kernel
theorem d_E_add_55 : decode b_E_add 55 = .ok (.aload_n 0, 1) := by decide +kernel
theorem d_E_add_56 : decode b_E_add 56 = .ok (.dup, 1) := by decide +kernel
theorem d_E_add_57 : decode b_E_add 57 = .ok (.getfield 9, 3) := by decide +kernel
theorem d_E_add_60 : decode b_E_add 60 = .ok (.iconst 1, 1) := by decide +kernel
theorem d_E_add_61 : decode b_E_add 61 = .ok (.iadd, 1) := by decide +kernel
theorem d_E_add_62 : decode b_E_add 62 = .ok (.putfield 9, 3) := by decide +kernel
theorem d_E_add_65 : decode b_E_add 65 = .ok (.iload 5, 2) := by decide +kernel
theorem d_E_add_67 : decode b_E_add 67 = .ok (.ireturn, 1) := by decide +kernel
theorem d_E_drop_0 : decode b_E_drop 0 = .ok (.aload_n 0, 1) := by decide +kernel
theorem d_E_drop_1 : decode b_E_drop 1 = .ok (.iload_n 1, 1) := by decide +kernel
theorem d_E_drop_2 : decode b_E_drop 2 = .ok (.invokevirtual 32, 3) := by decide +kernel
theorem d_E_drop_5 : decode b_E_drop 5 = .ok (.ifCond .eq 12, 3) := by decide +kernel
theorem d_E_drop_8 : decode b_E_drop 8 = .ok (.aload_n 0, 1) := by decide +kernel
theorem d_E_drop_9 : decode b_E_drop 9 = .ok (.getfield 28, 3) := by decide +kernel
theorem d_E_drop_12 : decode b_E_drop 12 = .ok (.iload_n 1, 1) := by decide +kernel
theorem d_E_drop_13 : decode b_E_drop 13 = .ok (.baload, 1) := by decide +kernel
theorem d_E_drop_14 : decode b_E_drop 14 = .ok (.ifCond .eq 5, 3) := by decide +kernel
theorem d_E_drop_17 : decode b_E_drop 17 = .ok (.iconst 0, 1) := by decide +kernel
theorem d_E_drop_18 : decode b_E_drop 18 = .ok (.ireturn, 1) := by decide +kernel
theorem d_E_drop_19 : decode b_E_drop 19 = .ok (.aload_n 0, 1) := by decide +kernel
theorem d_E_drop_20 : decode b_E_drop 20 = .ok (.getfield 28, 3) := by decide +kernel
theorem d_E_drop_23 : decode b_E_drop 23 = .ok (.iload_n 1, 1) := by decide +kernel
theorem d_E_drop_24 : decode b_E_drop 24 = .ok (.iconst 1, 1) := by decide +kernel
theorem d_E_drop_25 : decode b_E_drop 25 = .ok (.bastore, 1) := by decide +kernel
theorem d_E_drop_26 : decode b_E_drop 26 = .ok (.iconst 1, 1) := by decide +kernel
theorem d_E_drop_27 : decode b_E_drop 27 = .ok (.ireturn, 1) := by decide +kernel
theorem d_E_dropBetween_0 : decode b_E_dropBetween 0 = .ok (.iconst 0, 1) := by decide +kernel
theorem d_E_dropBetween_1 : decode b_E_dropBetween 1 = .ok (.istore_n 3, 1) := by decide +kernel
theorem d_E_dropBetween_2 : decode b_E_dropBetween 2 = .ok (.iconst 0, 1) := by decide +kernel
theorem d_E_dropBetween_3 : decode b_E_dropBetween 3 = .ok (.istore 4, 2) := by decide +kernel
theorem d_E_dropBetween_5 : decode b_E_dropBetween 5 = .ok (.iload 4, 2) := by decide +kernel
theorem d_E_dropBetween_7 : decode b_E_dropBetween 7 = .ok (.aload_n 0, 1) := by decide +kernel
theorem d_E_dropBetween_8 : decode b_E_dropBetween 8 = .ok (.getfield 9, 3) := by decide +kernel
theorem d_E_dropBetween_11 : decode b_E_dropBetween 11 = .ok (.if_icmp .ge 32, 3) := by decide +kernel
theorem d_E_dropBetween_14 : decode b_E_dropBetween 14 = .ok (.aload_n 0, 1) := by decide +kernel
theorem d_E_dropBetween_15 : decode b_E_dropBetween 15 = .ok (.iload 4, 2) := by decide +kernel
theorem d_E_dropBetween_17 : decode b_E_dropBetween 17 = .ok (.iload_n 1, 1) := by decide +kernel
theorem d_E_dropBetween_18 : decode b_E_dropBetween 18 = .ok (.iload_n 2, 1) := by decide +kernel
theorem d_E_dropBetween_19 : decode b_E_dropBetween 19 = .ok (.invokevirtual 36, 3) := by decide +kernel
theorem d_E_dropBetween_22 : decode b_E_dropBetween 22 = .ok (.ifCond .eq 15, 3) := by decide +kernel
theorem d_E_dropBetween_25 : decode b_E_dropBetween 25 = .ok (.aload_n 0, 1) := by decide +kernel
theorem d_E_dropBetween_26 : decode b_E_dropBetween 26 = .ok (.iload 4, 2) := by decide +kernel
theorem d_E_dropBetween_28 : decode b_E_dropBetween 28 = .ok (.invokevirtual 40, 3) := by decide +kernel
theorem d_E_dropBetween_31 : decode b_E_dropBetween 31 = .ok (.ifCond .eq 6, 3) := by decide +kernel
theorem d_E_dropBetween_34 : decode b_E_dropBetween 34 = .ok (.iinc 3 1, 3) := by decide +kernel
theorem d_E_dropBetween_37 : decode b_E_dropBetween 37 = .ok (.iinc 4 1, 3) := by decide +kernel
theorem d_E_dropBetween_40 : decode b_E_dropBetween 40 = .ok (.goto (-35), 3) := by decide +kernel
theorem d_E_dropBetween_43 : decode b_E_dropBetween 43 = .ok (.iload_n 3, 1) := by decide +kernel
theorem d_E_dropBetween_44 : decode b_E_dropBetween 44 = .ok (.ireturn, 1) := by decide +kernel
theorem d_E_placeOf_0 : decode b_E_placeOf 0 = .ok (.aload_n 0, 1) := by decide +kernel
theorem d_E_placeOf_1 : decode b_E_placeOf 1 = .ok (.iload_n 1, 1) := by decide +kernel
theorem d_E_placeOf_2 : decode b_E_placeOf 2 = .ok (.invokevirtual 32, 3) := by decide +kernel
theorem d_E_placeOf_5 : decode b_E_placeOf 5 = .ok (.ifCond .eq 12, 3) := by decide +kernel
theorem d_E_placeOf_8 : decode b_E_placeOf 8 = .ok (.aload_n 0, 1) := by decide +kernel
theorem d_E_placeOf_9 : decode b_E_placeOf 9 = .ok (.getfield 22, 3) := by decide +kernel
theorem d_E_placeOf_12 : decode b_E_placeOf 12 = .ok (.iload_n 1, 1) := by decide +kernel
theorem d_E_placeOf_13 : decode b_E_placeOf 13 = .ok (.iaload, 1) := by decide +kernel
theorem d_E_placeOf_14 : decode b_E_placeOf 14 = .ok (.goto 4, 3) := by decide +kernel
theorem d_E_placeOf_17 : decode b_E_placeOf 17 = .ok (.iconst (-1), 1) := by decide +kernel
theorem d_E_placeOf_18 : decode b_E_placeOf 18 = .ok (.ireturn, 1) := by decide +kernel
theorem d_E_isIn_0 : decode b_E_isIn 0 = .ok (.aload_n 0, 1) := by decide +kernel
theorem d_E_isIn_1 : decode b_E_isIn 1 = .ok (.iload_n 1, 1) := by decide +kernel
theorem d_E_isIn_2 : decode b_E_isIn 2 = .ok (.invokevirtual 32, 3) := by decide +kernel
theorem d_E_isIn_5 : decode b_E_isIn 5 = .ok (.ifCond .eq 29, 3) := by decide +kernel
theorem d_E_isIn_8 : decode b_E_isIn 8 = .ok (.aload_n 0, 1) := by decide +kernel
theorem d_E_isIn_9 : decode b_E_isIn 9 = .ok (.getfield 28, 3) := by decide +kernel
theorem d_E_isIn_12 : decode b_E_isIn 12 = .ok (.iload_n 1, 1) := by decide +kernel
theorem d_E_isIn_13 : decode b_E_isIn 13 = .ok (.baload, 1) := by decide +kernel
theorem d_E_isIn_14 : decode b_E_isIn 14 = .ok (.ifCond .ne 20, 3) := by decide +kernel
theorem d_E_isIn_17 : decode b_E_isIn 17 = .ok (.aload_n 0, 1) := by decide +kernel
theorem d_E_isIn_18 : decode b_E_isIn 18 = .ok (.getfield 25, 3) := by decide +kernel
theorem d_E_isIn_21 : decode b_E_isIn 21 = .ok (.iload_n 1, 1) := by decide +kernel
theorem d_E_isIn_22 : decode b_E_isIn 22 = .ok (.iaload, 1) := by decide +kernel
theorem d_E_isIn_23 : decode b_E_isIn 23 = .ok (.iload_n 2, 1) := by decide +kernel
theorem d_E_isIn_24 : decode b_E_isIn 24 = .ok (.ishr, 1) := by decide +kernel
theorem d_E_isIn_25 : decode b_E_isIn 25 = .ok (.iconst 1, 1) := by decide +kernel
theorem d_E_isIn_26 : decode b_E_isIn 26 = .ok (.iand, 1) := by decide +kernel
theorem d_E_isIn_27 : decode b_E_isIn 27 = .ok (.ifCond .eq 7, 3) := by decide +kernel
theorem d_E_isIn_30 : decode b_E_isIn 30 = .ok (.iconst 1, 1) := by decide +kernel
theorem d_E_isIn_31 : decode b_E_isIn 31 = .ok (.goto 4, 3) := by decide +kernel
theorem d_E_isIn_34 : decode b_E_isIn 34 = .ok (.iconst 0, 1) := by decide +kernel
theorem d_E_isIn_35 : decode b_E_isIn 35 = .ok (.ireturn, 1) := by decide +kernel
theorem d_E_leastPlaced_0 : decode b_E_leastPlaced 0 = .ok (.iconst (-1), 1) := by decide +kernel
theorem d_E_leastPlaced_1 : decode b_E_leastPlaced 1 = .ok (.istore 4, 2) := by decide +kernel
theorem d_E_leastPlaced_3 : decode b_E_leastPlaced 3 = .ok (.iconst 0, 1) := by decide +kernel
theorem d_E_leastPlaced_4 : decode b_E_leastPlaced 4 = .ok (.istore 5, 2) := by decide +kernel
theorem d_E_leastPlaced_6 : decode b_E_leastPlaced 6 = .ok (.iload 5, 2) := by decide +kernel
theorem d_E_leastPlaced_8 : decode b_E_leastPlaced 8 = .ok (.aload_n 0, 1) := by decide +kernel
theorem d_E_leastPlaced_9 : decode b_E_leastPlaced 9 = .ok (.getfield 9, 3) := by decide +kernel
theorem d_E_leastPlaced_12 : decode b_E_leastPlaced 12 = .ok (.if_icmp .ge 57, 3) := by decide +kernel
theorem d_E_leastPlaced_15 : decode b_E_leastPlaced 15 = .ok (.aload_n 0, 1) := by decide +kernel
theorem d_E_leastPlaced_16 : decode b_E_leastPlaced 16 = .ok (.iload 5, 2) := by decide +kernel
theorem d_E_leastPlaced_18 : decode b_E_leastPlaced 18 = .ok (.iload_n 1, 1) := by decide +kernel
theorem d_E_leastPlaced_19 : decode b_E_leastPlaced 19 = .ok (.iload_n 2, 1) := by decide +kernel
theorem d_E_leastPlaced_20 : decode b_E_leastPlaced 20 = .ok (.invokevirtual 36, 3) := by decide +kernel
theorem d_E_leastPlaced_23 : decode b_E_leastPlaced 23 = .ok (.ifCond .eq 40, 3) := by decide +kernel
theorem d_E_leastPlaced_26 : decode b_E_leastPlaced 26 = .ok (.aload_n 0, 1) := by decide +kernel
theorem d_E_leastPlaced_27 : decode b_E_leastPlaced 27 = .ok (.iload 5, 2) := by decide +kernel
theorem d_E_leastPlaced_29 : decode b_E_leastPlaced 29 = .ok (.iload_n 3, 1) := by decide +kernel
theorem d_E_leastPlaced_30 : decode b_E_leastPlaced 30 = .ok (.invokevirtual 43, 3) := by decide +kernel
theorem d_E_leastPlaced_33 : decode b_E_leastPlaced 33 = .ok (.ifCond .eq 30, 3) := by decide +kernel
theorem d_E_leastPlaced_36 : decode b_E_leastPlaced 36 = .ok (.iload 4, 2) := by decide +kernel
theorem d_E_leastPlaced_38 : decode b_E_leastPlaced 38 = .ok (.iconst (-1), 1) := by decide +kernel
theorem d_E_leastPlaced_39 : decode b_E_leastPlaced 39 = .ok (.if_icmp .eq 20, 3) := by decide +kernel
theorem d_E_leastPlaced_42 : decode b_E_leastPlaced 42 = .ok (.aload_n 0, 1) := by decide +kernel
theorem d_E_leastPlaced_43 : decode b_E_leastPlaced 43 = .ok (.getfield 22, 3) := by decide +kernel
theorem d_E_leastPlaced_46 : decode b_E_leastPlaced 46 = .ok (.iload 5, 2) := by decide +kernel
theorem d_E_leastPlaced_48 : decode b_E_leastPlaced 48 = .ok (.iaload, 1) := by decide +kernel
theorem d_E_leastPlaced_49 : decode b_E_leastPlaced 49 = .ok (.aload_n 0, 1) := by decide +kernel
theorem d_E_leastPlaced_50 : decode b_E_leastPlaced 50 = .ok (.getfield 22, 3) := by decide +kernel
theorem d_E_leastPlaced_53 : decode b_E_leastPlaced 53 = .ok (.iload 4, 2) := by decide +kernel
theorem d_E_leastPlaced_55 : decode b_E_leastPlaced 55 = .ok (.iaload, 1) := by decide +kernel
theorem d_E_leastPlaced_56 : decode b_E_leastPlaced 56 = .ok (.if_icmp .ge 7, 3) := by decide +kernel
theorem d_E_leastPlaced_59 : decode b_E_leastPlaced 59 = .ok (.iload 5, 2) := by decide +kernel
theorem d_E_leastPlaced_61 : decode b_E_leastPlaced 61 = .ok (.istore 4, 2) := by decide +kernel
theorem d_E_leastPlaced_63 : decode b_E_leastPlaced 63 = .ok (.iinc 5 1, 3) := by decide +kernel
theorem d_E_leastPlaced_66 : decode b_E_leastPlaced 66 = .ok (.goto (-60), 3) := by decide +kernel
theorem d_E_leastPlaced_69 : decode b_E_leastPlaced 69 = .ok (.iload 4, 2) := by decide +kernel
theorem d_E_leastPlaced_71 : decode b_E_leastPlaced 71 = .ok (.ireturn, 1) := by decide +kernel
theorem d_E_configurationsBetween_0 : decode b_E_configurationsBetween 0 = .ok (.iconst 0, 1) := by decide +kernel
theorem d_E_configurationsBetween_1 : decode b_E_configurationsBetween 1 = .ok (.istore_n 3, 1) := by decide +kernel
theorem d_E_configurationsBetween_2 : decode b_E_configurationsBetween 2 = .ok (.iconst 0, 1) := by decide +kernel
theorem d_E_configurationsBetween_3 : decode b_E_configurationsBetween 3 = .ok (.istore 4, 2) := by decide +kernel
theorem d_E_configurationsBetween_5 : decode b_E_configurationsBetween 5 = .ok (.iload 4, 2) := by decide +kernel
theorem d_E_configurationsBetween_7 : decode b_E_configurationsBetween 7 = .ok (.aload_n 0, 1) := by decide +kernel
theorem d_E_configurationsBetween_8 : decode b_E_configurationsBetween 8 = .ok (.getfield 9, 3) := by decide +kernel
theorem d_E_configurationsBetween_11 : decode b_E_configurationsBetween 11 = .ok (.if_icmp .ge 40, 3) := by decide +kernel
theorem d_E_configurationsBetween_14 : decode b_E_configurationsBetween 14 = .ok (.aload_n 0, 1) := by decide +kernel
theorem d_E_configurationsBetween_15 : decode b_E_configurationsBetween 15 = .ok (.iload 4, 2) := by decide +kernel
theorem d_E_configurationsBetween_17 : decode b_E_configurationsBetween 17 = .ok (.iload_n 1, 1) := by decide +kernel
theorem d_E_configurationsBetween_18 : decode b_E_configurationsBetween 18 = .ok (.iload_n 2, 1) := by decide +kernel
theorem d_E_configurationsBetween_19 : decode b_E_configurationsBetween 19 = .ok (.invokevirtual 36, 3) := by decide +kernel
theorem d_E_configurationsBetween_22 : decode b_E_configurationsBetween 22 = .ok (.ifCond .eq 23, 3) := by decide +kernel
theorem d_E_configurationsBetween_25 : decode b_E_configurationsBetween 25 = .ok (.aload_n 0, 1) := by decide +kernel
theorem d_E_configurationsBetween_26 : decode b_E_configurationsBetween 26 = .ok (.getfield 28, 3) := by decide +kernel
theorem d_E_configurationsBetween_29 : decode b_E_configurationsBetween 29 = .ok (.iload 4, 2) := by decide +kernel
theorem d_E_configurationsBetween_31 : decode b_E_configurationsBetween 31 = .ok (.baload, 1) := by decide +kernel
theorem d_E_configurationsBetween_32 : decode b_E_configurationsBetween 32 = .ok (.ifCond .ne 13, 3) := by decide +kernel
theorem d_E_configurationsBetween_35 : decode b_E_configurationsBetween 35 = .ok (.iload_n 3, 1) := by decide +kernel
theorem d_E_configurationsBetween_36 : decode b_E_configurationsBetween 36 = .ok (.aload_n 0, 1) := by decide +kernel
theorem d_E_configurationsBetween_37 : decode b_E_configurationsBetween 37 = .ok (.getfield 25, 3) := by decide +kernel
theorem d_E_configurationsBetween_40 : decode b_E_configurationsBetween 40 = .ok (.iload 4, 2) := by decide +kernel
theorem d_E_configurationsBetween_42 : decode b_E_configurationsBetween 42 = .ok (.iaload, 1) := by decide +kernel
theorem d_E_configurationsBetween_43 : decode b_E_configurationsBetween 43 = .ok (.ior, 1) := by decide +kernel
theorem d_E_configurationsBetween_44 : decode b_E_configurationsBetween 44 = .ok (.istore_n 3, 1) := by decide +kernel
theorem d_E_configurationsBetween_45 : decode b_E_configurationsBetween 45 = .ok (.iinc 4 1, 3) := by decide +kernel
theorem d_E_configurationsBetween_48 : decode b_E_configurationsBetween 48 = .ok (.goto (-43), 3) := by decide +kernel
theorem d_E_configurationsBetween_51 : decode b_E_configurationsBetween 51 = .ok (.iload_n 3, 1) := by decide +kernel
theorem d_E_configurationsBetween_52 : decode b_E_configurationsBetween 52 = .ok (.ireturn, 1) := by decide +kernel
theorem d_E_has_0 : decode b_E_has 0 = .ok (.iload_n 1, 1) := by decide +kernel
theorem d_E_has_1 : decode b_E_has 1 = .ok (.ifCond .lt 15, 3) := by decide +kernel
theorem d_E_has_4 : decode b_E_has 4 = .ok (.iload_n 1, 1) := by decide +kernel
theorem d_E_has_5 : decode b_E_has 5 = .ok (.aload_n 0, 1) := by decide +kernel
theorem d_E_has_6 : decode b_E_has 6 = .ok (.getfield 9, 3) := by decide +kernel
theorem d_E_has_9 : decode b_E_has 9 = .ok (.if_icmp .ge 7, 3) := by decide +kernel
theorem d_E_has_12 : decode b_E_has 12 = .ok (.iconst 1, 1) := by decide +kernel
theorem d_E_has_13 : decode b_E_has 13 = .ok (.goto 4, 3) := by decide +kernel
theorem d_E_has_16 : decode b_E_has 16 = .ok (.iconst 0, 1) := by decide +kernel
theorem d_E_has_17 : decode b_E_has 17 = .ok (.ireturn, 1) := by decide +kernel
theorem d_E_joins_0 : decode b_E_joins 0 = .ok (.aload_n 0, 1) := by decide +kernel
theorem d_E_joins_1 : decode b_E_joins 1 = .ok (.getfield 15, 3) := by decide +kernel
theorem d_E_joins_4 : decode b_E_joins 4 = .ok (.iload_n 1, 1) := by decide +kernel
theorem d_E_joins_5 : decode b_E_joins 5 = .ok (.iaload, 1) := by decide +kernel
theorem d_E_joins_6 : decode b_E_joins 6 = .ok (.iload_n 2, 1) := by decide +kernel
theorem d_E_joins_7 : decode b_E_joins 7 = .ok (.if_icmp .ne 17, 3) := by decide +kernel
theorem d_E_joins_10 : decode b_E_joins 10 = .ok (.aload_n 0, 1) := by decide +kernel
theorem d_E_joins_11 : decode b_E_joins 11 = .ok (.getfield 19, 3) := by decide +kernel
theorem d_E_joins_14 : decode b_E_joins 14 = .ok (.iload_n 1, 1) := by decide +kernel
theorem d_E_joins_15 : decode b_E_joins 15 = .ok (.iaload, 1) := by decide +kernel
theorem d_E_joins_16 : decode b_E_joins 16 = .ok (.iload_n 3, 1) := by decide +kernel
theorem d_E_joins_17 : decode b_E_joins 17 = .ok (.if_icmp .ne 7, 3) := by decide +kernel
theorem d_E_joins_20 : decode b_E_joins 20 = .ok (.iconst 1, 1) := by decide +kernel
theorem d_E_joins_21 : decode b_E_joins 21 = .ok (.goto 4, 3) := by decide +kernel
theorem d_E_joins_24 : decode b_E_joins 24 = .ok (.iconst 0, 1) := by decide +kernel
theorem d_E_joins_25 : decode b_E_joins 25 = .ok (.ireturn, 1) := by decide +kernel
theorem d_K_init_0 : decode b_K_init 0 = .ok (.aload_n 0, 1) := by decide +kernel
theorem d_K_init_1 : decode b_K_init 1 = .ok (.invokespecial 3, 3) := by decide +kernel
theorem d_K_init_4 : decode b_K_init 4 = .ok (.aload_n 0, 1) := by decide +kernel
theorem d_K_init_5 : decode b_K_init 5 = .ok (.iconst 0, 1) := by decide +kernel
theorem d_K_init_6 : decode b_K_init 6 = .ok (.putfield 9, 3) := by decide +kernel
theorem d_K_init_9 : decode b_K_init 9 = .ok (.aload_n 0, 1) := by decide +kernel
theorem d_K_init_10 : decode b_K_init 10 = .ok (.bipush 40, 2) := by decide +kernel
theorem d_K_init_12 : decode b_K_init 12 = .ok (.newarray .int, 2) := by decide +kernel
theorem d_K_init_14 : decode b_K_init 14 = .ok (.putfield 15, 3) := by decide +kernel
theorem d_K_init_17 : decode b_K_init 17 = .ok (.aload_n 0, 1) := by decide +kernel
theorem d_K_init_18 : decode b_K_init 18 = .ok (.bipush 40, 2) := by decide +kernel
theorem d_K_init_20 : decode b_K_init 20 = .ok (.newarray .int, 2) := by decide +kernel
theorem d_K_init_22 : decode b_K_init 22 = .ok (.putfield 19, 3) := by decide +kernel
theorem d_K_init_25 : decode b_K_init 25 = .ok (.aload_n 0, 1) := by decide +kernel
theorem d_K_init_26 : decode b_K_init 26 = .ok (.bipush 40, 2) := by decide +kernel
theorem d_K_init_28 : decode b_K_init 28 = .ok (.newarray .int, 2) := by decide +kernel
theorem d_K_init_30 : decode b_K_init 30 = .ok (.putfield 22, 3) := by decide +kernel
theorem d_K_init_33 : decode b_K_init 33 = .ok (.return_, 1) := by decide +kernel
theorem d_K_has_0 : decode b_K_has 0 = .ok (.iload_n 1, 1) := by decide +kernel
theorem d_K_has_1 : decode b_K_has 1 = .ok (.ifCond .lt 15, 3) := by decide +kernel
theorem d_K_has_4 : decode b_K_has 4 = .ok (.iload_n 1, 1) := by decide +kernel
theorem d_K_has_5 : decode b_K_has 5 = .ok (.aload_n 0, 1) := by decide +kernel
theorem d_K_has_6 : decode b_K_has 6 = .ok (.getfield 9, 3) := by decide +kernel
theorem d_K_has_9 : decode b_K_has 9 = .ok (.if_icmp .ge 7, 3) := by decide +kernel
theorem d_K_has_12 : decode b_K_has 12 = .ok (.iconst 1, 1) := by decide +kernel
theorem d_K_has_13 : decode b_K_has 13 = .ok (.goto 4, 3) := by decide +kernel
theorem d_K_has_16 : decode b_K_has 16 = .ok (.iconst 0, 1) := by decide +kernel
theorem d_K_has_17 : decode b_K_has 17 = .ok (.ireturn, 1) := by decide +kernel
theorem d_K_add_0 : decode b_K_add 0 = .ok (.aload_n 0, 1) := by decide +kernel
theorem d_K_add_1 : decode b_K_add 1 = .ok (.getfield 9, 3) := by decide +kernel
theorem d_K_add_4 : decode b_K_add 4 = .ok (.bipush 40, 2) := by decide +kernel
theorem d_K_add_6 : decode b_K_add 6 = .ok (.if_icmp .ge 11, 3) := by decide +kernel
theorem d_K_add_9 : decode b_K_add 9 = .ok (.aload_n 0, 1) := by decide +kernel
theorem d_K_add_10 : decode b_K_add 10 = .ok (.iload_n 1, 1) := by decide +kernel
theorem d_K_add_11 : decode b_K_add 11 = .ok (.invokevirtual 25, 3) := by decide +kernel
theorem d_K_add_14 : decode b_K_add 14 = .ok (.ifCond .eq 5, 3) := by decide +kernel
theorem d_K_add_17 : decode b_K_add 17 = .ok (.iconst (-1), 1) := by decide +kernel
theorem d_K_add_18 : decode b_K_add 18 = .ok (.ireturn, 1) := by decide +kernel
theorem d_K_add_19 : decode b_K_add 19 = .ok (.aload_n 0, 1) := by decide +kernel
theorem d_K_add_20 : decode b_K_add 20 = .ok (.getfield 9, 3) := by decide +kernel
theorem d_K_add_23 : decode b_K_add 23 = .ok (.istore_n 2, 1) := by decide +kernel
theorem d_K_add_24 : decode b_K_add 24 = .ok (.aload_n 0, 1) := by decide +kernel
theorem d_K_add_25 : decode b_K_add 25 = .ok (.getfield 15, 3) := by decide +kernel
theorem d_K_add_28 : decode b_K_add 28 = .ok (.iload_n 2, 1) := by decide +kernel
theorem d_K_add_29 : decode b_K_add 29 = .ok (.iload_n 1, 1) := by decide +kernel
theorem d_K_add_30 : decode b_K_add 30 = .ok (.iastore, 1) := by decide +kernel
theorem d_K_add_31 : decode b_K_add 31 = .ok (.aload_n 0, 1) := by decide +kernel
theorem d_K_add_32 : decode b_K_add 32 = .ok (.iload_n 2, 1) := by decide +kernel
theorem d_K_add_33 : decode b_K_add 33 = .ok (.invokevirtual 29, 3) := by decide +kernel
theorem d_K_add_36 : decode b_K_add 36 = .ok (.aload_n 0, 1) := by decide +kernel
theorem d_K_add_37 : decode b_K_add 37 = .ok (.dup, 1) := by decide +kernel
theorem d_K_add_38 : decode b_K_add 38 = .ok (.getfield 9, 3) := by decide +kernel
theorem d_K_add_41 : decode b_K_add 41 = .ok (.iconst 1, 1) := by decide +kernel
theorem d_K_add_42 : decode b_K_add 42 = .ok (.iadd, 1) := by decide +kernel
theorem d_K_add_43 : decode b_K_add 43 = .ok (.putfield 9, 3) := by decide +kernel
theorem d_K_add_46 : decode b_K_add 46 = .ok (.iload_n 2, 1) := by decide +kernel
theorem d_K_add_47 : decode b_K_add 47 = .ok (.ireturn, 1) := by decide +kernel
theorem d_K_isNamed_0 : decode b_K_isNamed 0 = .ok (.iconst 0, 1) := by decide +kernel
theorem d_K_isNamed_1 : decode b_K_isNamed 1 = .ok (.istore_n 2, 1) := by decide +kernel
theorem d_K_isNamed_2 : decode b_K_isNamed 2 = .ok (.iload_n 2, 1) := by decide +kernel
theorem d_K_isNamed_3 : decode b_K_isNamed 3 = .ok (.aload_n 0, 1) := by decide +kernel
theorem d_K_isNamed_4 : decode b_K_isNamed 4 = .ok (.getfield 9, 3) := by decide +kernel
theorem d_K_isNamed_7 : decode b_K_isNamed 7 = .ok (.if_icmp .ge 21, 3) := by decide +kernel
theorem d_K_isNamed_10 : decode b_K_isNamed 10 = .ok (.aload_n 0, 1) := by decide +kernel
theorem d_K_isNamed_11 : decode b_K_isNamed 11 = .ok (.getfield 15, 3) := by decide +kernel
theorem d_K_isNamed_14 : decode b_K_isNamed 14 = .ok (.iload_n 2, 1) := by decide +kernel
theorem d_K_isNamed_15 : decode b_K_isNamed 15 = .ok (.iaload, 1) := by decide +kernel
theorem d_K_isNamed_16 : decode b_K_isNamed 16 = .ok (.iload_n 1, 1) := by decide +kernel
theorem d_K_isNamed_17 : decode b_K_isNamed 17 = .ok (.if_icmp .ne 5, 3) := by decide +kernel
theorem d_K_isNamed_20 : decode b_K_isNamed 20 = .ok (.iconst 1, 1) := by decide +kernel
theorem d_K_isNamed_21 : decode b_K_isNamed 21 = .ok (.ireturn, 1) := by decide +kernel
theorem d_K_isNamed_22 : decode b_K_isNamed 22 = .ok (.iinc 2 1, 3) := by decide +kernel
theorem d_K_isNamed_25 : decode b_K_isNamed 25 = .ok (.goto (-23), 3) := by decide +kernel
theorem d_K_isNamed_28 : decode b_K_isNamed 28 = .ok (.iconst 0, 1) := by decide +kernel
theorem d_K_isNamed_29 : decode b_K_isNamed 29 = .ok (.ireturn, 1) := by decide +kernel
theorem d_K_insert_0 : decode b_K_insert 0 = .ok (.iconst 0, 1) := by decide +kernel
theorem d_K_insert_1 : decode b_K_insert 1 = .ok (.istore_n 2, 1) := by decide +kernel
theorem d_K_insert_2 : decode b_K_insert 2 = .ok (.iconst 0, 1) := by decide +kernel
theorem d_K_insert_3 : decode b_K_insert 3 = .ok (.istore_n 3, 1) := by decide +kernel
theorem d_K_insert_4 : decode b_K_insert 4 = .ok (.iload_n 3, 1) := by decide +kernel
theorem d_K_insert_5 : decode b_K_insert 5 = .ok (.iload_n 1, 1) := by decide +kernel
theorem d_K_insert_6 : decode b_K_insert 6 = .ok (.if_icmp .ge 40, 3) := by decide +kernel
theorem d_K_insert_9 : decode b_K_insert 9 = .ok (.aload_n 0, 1) := by decide +kernel
theorem d_K_insert_10 : decode b_K_insert 10 = .ok (.getfield 15, 3) := by decide +kernel
theorem d_K_insert_13 : decode b_K_insert 13 = .ok (.iload_n 3, 1) := by decide +kernel
theorem d_K_insert_14 : decode b_K_insert 14 = .ok (.iaload, 1) := by decide +kernel
theorem d_K_insert_15 : decode b_K_insert 15 = .ok (.aload_n 0, 1) := by decide +kernel
theorem d_K_insert_16 : decode b_K_insert 16 = .ok (.getfield 15, 3) := by decide +kernel
theorem d_K_insert_19 : decode b_K_insert 19 = .ok (.iload_n 1, 1) := by decide +kernel
theorem d_K_insert_20 : decode b_K_insert 20 = .ok (.iaload, 1) := by decide +kernel
theorem d_K_insert_21 : decode b_K_insert 21 = .ok (.if_icmp .ge 9, 3) := by decide +kernel
theorem d_K_insert_24 : decode b_K_insert 24 = .ok (.iinc 2 1, 3) := by decide +kernel
theorem d_K_insert_27 : decode b_K_insert 27 = .ok (.goto 13, 3) := by decide +kernel
theorem d_K_insert_30 : decode b_K_insert 30 = .ok (.aload_n 0, 1) := by decide +kernel
theorem d_K_insert_31 : decode b_K_insert 31 = .ok (.getfield 22, 3) := by decide +kernel
theorem d_K_insert_34 : decode b_K_insert 34 = .ok (.iload_n 3, 1) := by decide +kernel
theorem d_K_insert_35 : decode b_K_insert 35 = .ok (.dup2, 1) := by decide +kernel
theorem d_K_insert_36 : decode b_K_insert 36 = .ok (.iaload, 1) := by decide +kernel
theorem d_K_insert_37 : decode b_K_insert 37 = .ok (.iconst 1, 1) := by decide +kernel
theorem d_K_insert_38 : decode b_K_insert 38 = .ok (.iadd, 1) := by decide +kernel
theorem d_K_insert_39 : decode b_K_insert 39 = .ok (.iastore, 1) := by decide +kernel
theorem d_K_insert_40 : decode b_K_insert 40 = .ok (.iinc 3 1, 3) := by decide +kernel
theorem d_K_insert_43 : decode b_K_insert 43 = .ok (.goto (-39), 3) := by decide +kernel
theorem d_K_insert_46 : decode b_K_insert 46 = .ok (.aload_n 0, 1) := by decide +kernel
theorem d_K_insert_47 : decode b_K_insert 47 = .ok (.getfield 22, 3) := by decide +kernel
theorem d_K_insert_50 : decode b_K_insert 50 = .ok (.iload_n 1, 1) := by decide +kernel
theorem d_K_insert_51 : decode b_K_insert 51 = .ok (.iload_n 2, 1) := by decide +kernel
theorem d_K_insert_52 : decode b_K_insert 52 = .ok (.iastore, 1) := by decide +kernel
theorem d_K_insert_53 : decode b_K_insert 53 = .ok (.iconst 0, 1) := by decide +kernel
theorem d_K_insert_54 : decode b_K_insert 54 = .ok (.istore_n 3, 1) := by decide +kernel
theorem d_K_insert_55 : decode b_K_insert 55 = .ok (.iload_n 3, 1) := by decide +kernel
theorem d_K_insert_56 : decode b_K_insert 56 = .ok (.iload_n 1, 1) := by decide +kernel
theorem d_K_insert_57 : decode b_K_insert 57 = .ok (.if_icmp .gt 21, 3) := by decide +kernel
theorem d_K_insert_60 : decode b_K_insert 60 = .ok (.aload_n 0, 1) := by decide +kernel
theorem d_K_insert_61 : decode b_K_insert 61 = .ok (.getfield 19, 3) := by decide +kernel
theorem d_K_insert_64 : decode b_K_insert 64 = .ok (.aload_n 0, 1) := by decide +kernel
theorem d_K_insert_65 : decode b_K_insert 65 = .ok (.getfield 22, 3) := by decide +kernel
theorem d_K_insert_68 : decode b_K_insert 68 = .ok (.iload_n 3, 1) := by decide +kernel
theorem d_K_insert_69 : decode b_K_insert 69 = .ok (.iaload, 1) := by decide +kernel
theorem d_K_insert_70 : decode b_K_insert 70 = .ok (.iload_n 3, 1) := by decide +kernel
theorem d_K_insert_71 : decode b_K_insert 71 = .ok (.iastore, 1) := by decide +kernel
theorem d_K_insert_72 : decode b_K_insert 72 = .ok (.iinc 3 1, 3) := by decide +kernel
theorem d_K_insert_75 : decode b_K_insert 75 = .ok (.goto (-20), 3) := by decide +kernel
theorem d_K_insert_78 : decode b_K_insert 78 = .ok (.return_, 1) := by decide +kernel
theorem d_R_init_0 : decode b_R_init 0 = .ok (.aload_n 0, 1) := by decide +kernel
theorem d_R_init_1 : decode b_R_init 1 = .ok (.invokespecial 3, 3) := by decide +kernel
theorem d_R_init_4 : decode b_R_init 4 = .ok (.aload_n 0, 1) := by decide +kernel
theorem d_R_init_5 : decode b_R_init 5 = .ok (.iconst 0, 1) := by decide +kernel
theorem d_R_init_6 : decode b_R_init 6 = .ok (.putfield 9, 3) := by decide +kernel
theorem d_R_init_9 : decode b_R_init 9 = .ok (.aload_n 0, 1) := by decide +kernel
theorem d_R_init_10 : decode b_R_init 10 = .ok (.bipush 40, 2) := by decide +kernel
theorem d_R_init_12 : decode b_R_init 12 = .ok (.newarray .long, 2) := by decide +kernel
theorem d_R_init_14 : decode b_R_init 14 = .ok (.putfield 15, 3) := by decide +kernel
theorem d_R_init_17 : decode b_R_init 17 = .ok (.aload_n 0, 1) := by decide +kernel
theorem d_R_init_18 : decode b_R_init 18 = .ok (.bipush 40, 2) := by decide +kernel
theorem d_R_init_20 : decode b_R_init 20 = .ok (.newarray .long, 2) := by decide +kernel
theorem d_R_init_22 : decode b_R_init 22 = .ok (.putfield 19, 3) := by decide +kernel
theorem d_R_init_25 : decode b_R_init 25 = .ok (.aload_n 0, 1) := by decide +kernel
theorem d_R_init_26 : decode b_R_init 26 = .ok (.bipush 40, 2) := by decide +kernel
theorem d_R_init_28 : decode b_R_init 28 = .ok (.newarray .int, 2) := by decide +kernel
theorem d_R_init_30 : decode b_R_init 30 = .ok (.putfield 22, 3) := by decide +kernel
theorem d_R_init_33 : decode b_R_init 33 = .ok (.aload_n 0, 1) := by decide +kernel
theorem d_R_init_34 : decode b_R_init 34 = .ok (.bipush 40, 2) := by decide +kernel
theorem d_R_init_36 : decode b_R_init 36 = .ok (.newarray .long, 2) := by decide +kernel
theorem d_R_init_38 : decode b_R_init 38 = .ok (.putfield 26, 3) := by decide +kernel
theorem d_R_init_41 : decode b_R_init 41 = .ok (.return_, 1) := by decide +kernel
theorem d_R_draw_0 : decode b_R_draw 0 = .ok (.aload_n 0, 1) := by decide +kernel
theorem d_R_draw_1 : decode b_R_draw 1 = .ok (.aload_n 1, 1) := by decide +kernel
theorem d_R_draw_2 : decode b_R_draw 2 = .ok (.getfield 29, 3) := by decide +kernel
theorem d_R_draw_5 : decode b_R_draw 5 = .ok (.putfield 9, 3) := by decide +kernel
theorem d_R_draw_8 : decode b_R_draw 8 = .ok (.iconst 0, 1) := by decide +kernel
theorem d_R_draw_9 : decode b_R_draw 9 = .ok (.istore 4, 2) := by decide +kernel
theorem d_R_draw_11 : decode b_R_draw 11 = .ok (.iload 4, 2) := by decide +kernel
theorem d_R_draw_13 : decode b_R_draw 13 = .ok (.aload_n 0, 1) := by decide +kernel
theorem d_R_draw_14 : decode b_R_draw 14 = .ok (.getfield 9, 3) := by decide +kernel
theorem d_R_draw_17 : decode b_R_draw 17 = .ok (.if_icmp .ge 17, 3) := by decide +kernel
theorem d_R_draw_20 : decode b_R_draw 20 = .ok (.aload_n 0, 1) := by decide +kernel
theorem d_R_draw_21 : decode b_R_draw 21 = .ok (.getfield 15, 3) := by decide +kernel
theorem d_R_draw_24 : decode b_R_draw 24 = .ok (.iload 4, 2) := by decide +kernel
theorem d_R_draw_26 : decode b_R_draw 26 = .ok (.lconst 0, 1) := by decide +kernel
theorem d_R_draw_27 : decode b_R_draw 27 = .ok (.lastore, 1) := by decide +kernel
theorem d_R_draw_28 : decode b_R_draw 28 = .ok (.iinc 4 1, 3) := by decide +kernel
theorem d_R_draw_31 : decode b_R_draw 31 = .ok (.goto (-20), 3) := by decide +kernel
theorem d_R_draw_34 : decode b_R_draw 34 = .ok (.iconst 0, 1) := by decide +kernel
theorem d_R_draw_35 : decode b_R_draw 35 = .ok (.istore 4, 2) := by decide +kernel
theorem d_R_draw_37 : decode b_R_draw 37 = .ok (.iload 4, 2) := by decide +kernel
theorem d_R_draw_39 : decode b_R_draw 39 = .ok (.aload_n 2, 1) := by decide +kernel
theorem d_R_draw_40 : decode b_R_draw 40 = .ok (.getfield 32, 3) := by decide +kernel
theorem d_R_draw_43 : decode b_R_draw 43 = .ok (.if_icmp .ge 53, 3) := by decide +kernel
theorem d_R_draw_46 : decode b_R_draw 46 = .ok (.aload_n 2, 1) := by decide +kernel
theorem d_R_draw_47 : decode b_R_draw 47 = .ok (.iload 4, 2) := by decide +kernel
theorem d_R_draw_49 : decode b_R_draw 49 = .ok (.iload_n 3, 1) := by decide +kernel
theorem d_R_draw_50 : decode b_R_draw 50 = .ok (.invokevirtual 35, 3) := by decide +kernel
theorem d_R_draw_53 : decode b_R_draw 53 = .ok (.ifCond .eq 37, 3) := by decide +kernel
theorem d_R_draw_56 : decode b_R_draw 56 = .ok (.aload_n 0, 1) := by decide +kernel
theorem d_R_draw_57 : decode b_R_draw 57 = .ok (.getfield 15, 3) := by decide +kernel
theorem d_R_draw_60 : decode b_R_draw 60 = .ok (.aload_n 1, 1) := by decide +kernel
theorem d_R_draw_61 : decode b_R_draw 61 = .ok (.getfield 39, 3) := by decide +kernel
theorem d_R_draw_64 : decode b_R_draw 64 = .ok (.aload_n 2, 1) := by decide +kernel
theorem d_R_draw_65 : decode b_R_draw 65 = .ok (.getfield 42, 3) := by decide +kernel
theorem d_R_draw_68 : decode b_R_draw 68 = .ok (.iload 4, 2) := by decide +kernel
theorem d_R_draw_70 : decode b_R_draw 70 = .ok (.iaload, 1) := by decide +kernel
theorem d_R_draw_71 : decode b_R_draw 71 = .ok (.iaload, 1) := by decide +kernel
theorem d_R_draw_72 : decode b_R_draw 72 = .ok (.dup2, 1) := by decide +kernel
theorem d_R_draw_73 : decode b_R_draw 73 = .ok (.laload, 1) := by decide +kernel
theorem d_R_draw_74 : decode b_R_draw 74 = .ok (.lconst 1, 1) := by decide +kernel
theorem d_R_draw_75 : decode b_R_draw 75 = .ok (.aload_n 1, 1) := by decide +kernel
theorem d_R_draw_76 : decode b_R_draw 76 = .ok (.getfield 39, 3) := by decide +kernel
theorem d_R_draw_79 : decode b_R_draw 79 = .ok (.aload_n 2, 1) := by decide +kernel
theorem d_R_draw_80 : decode b_R_draw 80 = .ok (.getfield 45, 3) := by decide +kernel
theorem d_R_draw_83 : decode b_R_draw 83 = .ok (.iload 4, 2) := by decide +kernel
theorem d_R_draw_85 : decode b_R_draw 85 = .ok (.iaload, 1) := by decide +kernel
theorem d_R_draw_86 : decode b_R_draw 86 = .ok (.iaload, 1) := by decide +kernel
theorem d_R_draw_87 : decode b_R_draw 87 = .ok (.lshl, 1) := by decide +kernel
theorem d_R_draw_88 : decode b_R_draw 88 = .ok (.lor, 1) := by decide +kernel
theorem d_R_draw_89 : decode b_R_draw 89 = .ok (.lastore, 1) := by decide +kernel
theorem d_R_draw_90 : decode b_R_draw 90 = .ok (.iinc 4 1, 3) := by decide +kernel
theorem d_R_draw_93 : decode b_R_draw 93 = .ok (.goto (-56), 3) := by decide +kernel
theorem d_R_draw_96 : decode b_R_draw 96 = .ok (.iconst 0, 1) := by decide +kernel
theorem d_R_draw_97 : decode b_R_draw 97 = .ok (.istore 4, 2) := by decide +kernel
theorem d_R_draw_99 : decode b_R_draw 99 = .ok (.iload 4, 2) := by decide +kernel
theorem d_R_draw_101 : decode b_R_draw 101 = .ok (.aload_n 0, 1) := by decide +kernel
theorem d_R_draw_102 : decode b_R_draw 102 = .ok (.getfield 9, 3) := by decide +kernel
theorem d_R_draw_105 : decode b_R_draw 105 = .ok (.if_icmp .ge 15, 3) := by decide +kernel
theorem d_R_draw_108 : decode b_R_draw 108 = .ok (.aload_n 0, 1) := by decide +kernel
theorem d_R_draw_109 : decode b_R_draw 109 = .ok (.iload 4, 2) := by decide +kernel
theorem d_R_draw_111 : decode b_R_draw 111 = .ok (.invokevirtual 48, 3) := by decide +kernel
theorem d_R_draw_114 : decode b_R_draw 114 = .ok (.iinc 4 1, 3) := by decide +kernel
theorem d_R_draw_117 : decode b_R_draw 117 = .ok (.goto (-18), 3) := by decide +kernel
theorem d_R_draw_120 : decode b_R_draw 120 = .ok (.return_, 1) := by decide +kernel
theorem d_R_shortestRing_0 : decode b_R_shortestRing 0 = .ok (.aload_n 0, 1) := by decide +kernel
theorem d_R_shortestRing_1 : decode b_R_shortestRing 1 = .ok (.getfield 22, 3) := by decide +kernel
theorem d_R_shortestRing_4 : decode b_R_shortestRing 4 = .ok (.iload_n 1, 1) := by decide +kernel
theorem d_R_shortestRing_5 : decode b_R_shortestRing 5 = .ok (.iaload, 1) := by decide +kernel
theorem d_R_shortestRing_6 : decode b_R_shortestRing 6 = .ok (.ireturn, 1) := by decide +kernel
theorem d_R_reachesRinged_0 : decode b_R_reachesRinged 0 = .ok (.iconst 0, 1) := by decide +kernel
theorem d_R_reachesRinged_1 : decode b_R_reachesRinged 1 = .ok (.istore_n 2, 1) := by decide +kernel
theorem d_R_reachesRinged_2 : decode b_R_reachesRinged 2 = .ok (.iload_n 2, 1) := by decide +kernel
theorem d_R_reachesRinged_3 : decode b_R_reachesRinged 3 = .ok (.aload_n 0, 1) := by decide +kernel
theorem d_R_reachesRinged_4 : decode b_R_reachesRinged 4 = .ok (.getfield 9, 3) := by decide +kernel
theorem d_R_reachesRinged_7 : decode b_R_reachesRinged 7 = .ok (.if_icmp .ge 33, 3) := by decide +kernel
theorem d_R_reachesRinged_10 : decode b_R_reachesRinged 10 = .ok (.aload_n 0, 1) := by decide +kernel
theorem d_R_reachesRinged_11 : decode b_R_reachesRinged 11 = .ok (.getfield 22, 3) := by decide +kernel
theorem d_R_reachesRinged_14 : decode b_R_reachesRinged 14 = .ok (.iload_n 2, 1) := by decide +kernel
theorem d_R_reachesRinged_15 : decode b_R_reachesRinged 15 = .ok (.iaload, 1) := by decide +kernel
theorem d_R_reachesRinged_16 : decode b_R_reachesRinged 16 = .ok (.ifCond .le 18, 3) := by decide +kernel
theorem d_R_reachesRinged_19 : decode b_R_reachesRinged 19 = .ok (.aload_n 0, 1) := by decide +kernel
theorem d_R_reachesRinged_20 : decode b_R_reachesRinged 20 = .ok (.getfield 19, 3) := by decide +kernel
theorem d_R_reachesRinged_23 : decode b_R_reachesRinged 23 = .ok (.iload_n 1, 1) := by decide +kernel
theorem d_R_reachesRinged_24 : decode b_R_reachesRinged 24 = .ok (.laload, 1) := by decide +kernel
theorem d_R_reachesRinged_25 : decode b_R_reachesRinged 25 = .ok (.iload_n 2, 1) := by decide +kernel
theorem d_R_reachesRinged_26 : decode b_R_reachesRinged 26 = .ok (.invokestatic 52, 3) := by decide +kernel
theorem d_R_reachesRinged_29 : decode b_R_reachesRinged 29 = .ok (.ifCond .eq 5, 3) := by decide +kernel
theorem d_R_reachesRinged_32 : decode b_R_reachesRinged 32 = .ok (.iconst 1, 1) := by decide +kernel
theorem d_R_reachesRinged_33 : decode b_R_reachesRinged 33 = .ok (.ireturn, 1) := by decide +kernel
theorem d_R_reachesRinged_34 : decode b_R_reachesRinged 34 = .ok (.iinc 2 1, 3) := by decide +kernel
theorem d_R_reachesRinged_37 : decode b_R_reachesRinged 37 = .ok (.goto (-35), 3) := by decide +kernel
theorem d_R_reachesRinged_40 : decode b_R_reachesRinged 40 = .ok (.iconst 0, 1) := by decide +kernel
theorem d_R_reachesRinged_41 : decode b_R_reachesRinged 41 = .ok (.ireturn, 1) := by decide +kernel
theorem d_R_reachEachOther_0 : decode b_R_reachEachOther 0 = .ok (.aload_n 0, 1) := by decide +kernel
theorem d_R_reachEachOther_1 : decode b_R_reachEachOther 1 = .ok (.getfield 19, 3) := by decide +kernel
theorem d_R_reachEachOther_4 : decode b_R_reachEachOther 4 = .ok (.iload_n 1, 1) := by decide +kernel
theorem d_R_reachEachOther_5 : decode b_R_reachEachOther 5 = .ok (.laload, 1) := by decide +kernel
theorem d_R_reachEachOther_6 : decode b_R_reachEachOther 6 = .ok (.iload_n 2, 1) := by decide +kernel
theorem d_R_reachEachOther_7 : decode b_R_reachEachOther 7 = .ok (.invokestatic 52, 3) := by decide +kernel
theorem d_R_reachEachOther_10 : decode b_R_reachEachOther 10 = .ok (.ifCond .eq 20, 3) := by decide +kernel
theorem d_R_reachEachOther_13 : decode b_R_reachEachOther 13 = .ok (.aload_n 0, 1) := by decide +kernel
theorem d_R_reachEachOther_14 : decode b_R_reachEachOther 14 = .ok (.getfield 19, 3) := by decide +kernel
theorem d_R_reachEachOther_17 : decode b_R_reachEachOther 17 = .ok (.iload_n 2, 1) := by decide +kernel
theorem d_R_reachEachOther_18 : decode b_R_reachEachOther 18 = .ok (.laload, 1) := by decide +kernel
theorem d_R_reachEachOther_19 : decode b_R_reachEachOther 19 = .ok (.iload_n 1, 1) := by decide +kernel
theorem d_R_reachEachOther_20 : decode b_R_reachEachOther 20 = .ok (.invokestatic 52, 3) := by decide +kernel
theorem d_R_reachEachOther_23 : decode b_R_reachEachOther 23 = .ok (.ifCond .eq 7, 3) := by decide +kernel
theorem d_R_reachEachOther_26 : decode b_R_reachEachOther 26 = .ok (.iconst 1, 1) := by decide +kernel
theorem d_R_reachEachOther_27 : decode b_R_reachEachOther 27 = .ok (.goto 4, 3) := by decide +kernel
theorem d_R_reachEachOther_30 : decode b_R_reachEachOther 30 = .ok (.iconst 0, 1) := by decide +kernel
theorem d_R_reachEachOther_31 : decode b_R_reachEachOther 31 = .ok (.ireturn, 1) := by decide +kernel
theorem d_R_layTowards_0 : decode b_R_layTowards 0 = .ok (.lconst 1, 1) := by decide +kernel
theorem d_R_layTowards_1 : decode b_R_layTowards 1 = .ok (.iload_n 1, 1) := by decide +kernel
theorem d_R_layTowards_2 : decode b_R_layTowards 2 = .ok (.lshl, 1) := by decide +kernel
theorem d_R_layTowards_3 : decode b_R_layTowards 3 = .ok (.lstore_n 3, 1) := by decide +kernel
theorem d_R_layTowards_4 : decode b_R_layTowards 4 = .ok (.aload_n 0, 1) := by decide +kernel
theorem d_R_layTowards_5 : decode b_R_layTowards 5 = .ok (.getfield 26, 3) := by decide +kernel
theorem d_R_layTowards_8 : decode b_R_layTowards 8 = .ok (.iconst 0, 1) := by decide +kernel
theorem d_R_layTowards_9 : decode b_R_layTowards 9 = .ok (.lload_n 3, 1) := by decide +kernel
theorem d_R_layTowards_10 : decode b_R_layTowards 10 = .ok (.lastore, 1) := by decide +kernel
theorem d_R_layTowards_11 : decode b_R_layTowards 11 = .ok (.iconst 1, 1) := by decide +kernel
theorem d_R_layTowards_12 : decode b_R_layTowards 12 = .ok (.istore 5, 2) := by decide +kernel
theorem d_R_layTowards_14 : decode b_R_layTowards 14 = .ok (.iload 5, 2) := by decide +kernel
theorem d_R_layTowards_16 : decode b_R_layTowards 16 = .ok (.iload_n 2, 1) := by decide +kernel
theorem d_R_layTowards_17 : decode b_R_layTowards 17 = .ok (.if_icmp .ge 52, 3) := by decide +kernel
theorem d_R_layTowards_20 : decode b_R_layTowards 20 = .ok (.iload 5, 2) := by decide +kernel
theorem d_R_layTowards_22 : decode b_R_layTowards 22 = .ok (.bipush 40, 2) := by decide +kernel
theorem d_R_layTowards_24 : decode b_R_layTowards 24 = .ok (.if_icmp .ge 45, 3) := by decide +kernel
theorem d_R_layTowards_27 : decode b_R_layTowards 27 = .ok (.aload_n 0, 1) := by decide +kernel
theorem d_R_layTowards_28 : decode b_R_layTowards 28 = .ok (.getfield 26, 3) := by decide +kernel
theorem d_R_layTowards_31 : decode b_R_layTowards 31 = .ok (.iload 5, 2) := by decide +kernel
theorem d_R_layTowards_33 : decode b_R_layTowards 33 = .ok (.aload_n 0, 1) := by decide +kernel
theorem d_R_layTowards_34 : decode b_R_layTowards 34 = .ok (.aload_n 0, 1) := by decide +kernel
theorem d_R_layTowards_35 : decode b_R_layTowards 35 = .ok (.getfield 26, 3) := by decide +kernel
theorem d_R_layTowards_38 : decode b_R_layTowards 38 = .ok (.iload 5, 2) := by decide +kernel
theorem d_R_layTowards_40 : decode b_R_layTowards 40 = .ok (.iconst 1, 1) := by decide +kernel
theorem d_R_layTowards_41 : decode b_R_layTowards 41 = .ok (.isub, 1) := by decide +kernel
theorem d_R_layTowards_42 : decode b_R_layTowards 42 = .ok (.laload, 1) := by decide +kernel
theorem d_R_layTowards_43 : decode b_R_layTowards 43 = .ok (.invokevirtual 56, 3) := by decide +kernel
theorem d_R_layTowards_46 : decode b_R_layTowards 46 = .ok (.lload_n 3, 1) := by decide +kernel
theorem d_R_layTowards_47 : decode b_R_layTowards 47 = .ok (.ldc2_w 60, 3) := by decide +kernel
theorem d_R_layTowards_50 : decode b_R_layTowards 50 = .ok (.lxor, 1) := by decide +kernel
theorem d_R_layTowards_51 : decode b_R_layTowards 51 = .ok (.land, 1) := by decide +kernel
theorem d_R_layTowards_52 : decode b_R_layTowards 52 = .ok (.lastore, 1) := by decide +kernel
theorem d_R_layTowards_53 : decode b_R_layTowards 53 = .ok (.lload_n 3, 1) := by decide +kernel
theorem d_R_layTowards_54 : decode b_R_layTowards 54 = .ok (.aload_n 0, 1) := by decide +kernel
theorem d_R_layTowards_55 : decode b_R_layTowards 55 = .ok (.getfield 26, 3) := by decide +kernel
theorem d_R_layTowards_58 : decode b_R_layTowards 58 = .ok (.iload 5, 2) := by decide +kernel
theorem d_R_layTowards_60 : decode b_R_layTowards 60 = .ok (.laload, 1) := by decide +kernel
theorem d_R_layTowards_61 : decode b_R_layTowards 61 = .ok (.lor, 1) := by decide +kernel
theorem d_R_layTowards_62 : decode b_R_layTowards 62 = .ok (.lstore_n 3, 1) := by decide +kernel
theorem d_R_layTowards_63 : decode b_R_layTowards 63 = .ok (.iinc 5 1, 3) := by decide +kernel
theorem d_R_layTowards_66 : decode b_R_layTowards 66 = .ok (.goto (-52), 3) := by decide +kernel
theorem d_R_layTowards_69 : decode b_R_layTowards 69 = .ok (.return_, 1) := by decide +kernel
theorem d_R_firstAsked_0 : decode b_R_firstAsked 0 = .ok (.aload_n 0, 1) := by decide +kernel
theorem d_R_firstAsked_1 : decode b_R_firstAsked 1 = .ok (.getfield 15, 3) := by decide +kernel
theorem d_R_firstAsked_4 : decode b_R_firstAsked 4 = .ok (.iload_n 1, 1) := by decide +kernel
theorem d_R_firstAsked_5 : decode b_R_firstAsked 5 = .ok (.laload, 1) := by decide +kernel
theorem d_R_firstAsked_6 : decode b_R_firstAsked 6 = .ok (.aload_n 0, 1) := by decide +kernel
theorem d_R_firstAsked_7 : decode b_R_firstAsked 7 = .ok (.getfield 26, 3) := by decide +kernel
theorem d_R_firstAsked_10 : decode b_R_firstAsked 10 = .ok (.iload_n 2, 1) := by decide +kernel
theorem d_R_firstAsked_11 : decode b_R_firstAsked 11 = .ok (.laload, 1) := by decide +kernel
theorem d_R_firstAsked_12 : decode b_R_firstAsked 12 = .ok (.land, 1) := by decide +kernel
theorem d_R_firstAsked_13 : decode b_R_firstAsked 13 = .ok (.lstore_n 3, 1) := by decide +kernel
theorem d_R_firstAsked_14 : decode b_R_firstAsked 14 = .ok (.lload_n 3, 1) := by decide +kernel
theorem d_R_firstAsked_15 : decode b_R_firstAsked 15 = .ok (.lconst 0, 1) := by decide +kernel
theorem d_R_firstAsked_16 : decode b_R_firstAsked 16 = .ok (.lcmp, 1) := by decide +kernel
theorem d_R_firstAsked_17 : decode b_R_firstAsked 17 = .ok (.ifCond .ne 7, 3) := by decide +kernel
theorem d_R_firstAsked_20 : decode b_R_firstAsked 20 = .ok (.iconst (-1), 1) := by decide +kernel
theorem d_R_firstAsked_21 : decode b_R_firstAsked 21 = .ok (.goto 7, 3) := by decide +kernel
theorem d_R_firstAsked_24 : decode b_R_firstAsked 24 = .ok (.lload_n 3, 1) := by decide +kernel
theorem d_R_firstAsked_25 : decode b_R_firstAsked 25 = .ok (.invokestatic 62, 3) := by decide +kernel
theorem d_R_firstAsked_28 : decode b_R_firstAsked 28 = .ok (.ireturn, 1) := by decide +kernel
theorem d_R_follow_0 : decode b_R_follow 0 = .ok (.lconst 0, 1) := by decide +kernel
theorem d_R_follow_1 : decode b_R_follow 1 = .ok (.lstore_n 2, 1) := by decide +kernel
theorem d_R_follow_2 : decode b_R_follow 2 = .ok (.aload_n 0, 1) := by decide +kernel
theorem d_R_follow_3 : decode b_R_follow 3 = .ok (.getfield 15, 3) := by decide +kernel
theorem d_R_follow_6 : decode b_R_follow 6 = .ok (.iload_n 1, 1) := by decide +kernel
theorem d_R_follow_7 : decode b_R_follow 7 = .ok (.laload, 1) := by decide +kernel
theorem d_R_follow_8 : decode b_R_follow 8 = .ok (.lstore 4, 2) := by decide +kernel
theorem d_R_follow_10 : decode b_R_follow 10 = .ok (.aload_n 0, 1) := by decide +kernel
theorem d_R_follow_11 : decode b_R_follow 11 = .ok (.getfield 22, 3) := by decide +kernel
theorem d_R_follow_14 : decode b_R_follow 14 = .ok (.iload_n 1, 1) := by decide +kernel
theorem d_R_follow_15 : decode b_R_follow 15 = .ok (.iconst 0, 1) := by decide +kernel
theorem d_R_follow_16 : decode b_R_follow 16 = .ok (.iastore, 1) := by decide +kernel
theorem d_R_follow_17 : decode b_R_follow 17 = .ok (.iconst 1, 1) := by decide +kernel
theorem d_R_follow_18 : decode b_R_follow 18 = .ok (.istore 6, 2) := by decide +kernel
theorem d_R_follow_20 : decode b_R_follow 20 = .ok (.iload 6, 2) := by decide +kernel
theorem d_R_follow_22 : decode b_R_follow 22 = .ok (.aload_n 0, 1) := by decide +kernel
theorem d_R_follow_23 : decode b_R_follow 23 = .ok (.getfield 9, 3) := by decide +kernel
theorem d_R_follow_26 : decode b_R_follow 26 = .ok (.if_icmp .gt 52, 3) := by decide +kernel
theorem d_R_follow_29 : decode b_R_follow 29 = .ok (.lload 4, 2) := by decide +kernel
theorem d_R_follow_31 : decode b_R_follow 31 = .ok (.lconst 0, 1) := by decide +kernel
theorem d_R_follow_32 : decode b_R_follow 32 = .ok (.lcmp, 1) := by decide +kernel
theorem d_R_follow_33 : decode b_R_follow 33 = .ok (.ifCond .eq 45, 3) := by decide +kernel
theorem d_R_follow_36 : decode b_R_follow 36 = .ok (.lload 4, 2) := by decide +kernel
theorem d_R_follow_38 : decode b_R_follow 38 = .ok (.iload_n 1, 1) := by decide +kernel
theorem d_R_follow_39 : decode b_R_follow 39 = .ok (.invokestatic 52, 3) := by decide +kernel
theorem d_R_follow_42 : decode b_R_follow 42 = .ok (.ifCond .eq 11, 3) := by decide +kernel
theorem d_R_follow_45 : decode b_R_follow 45 = .ok (.aload_n 0, 1) := by decide +kernel
theorem d_R_follow_46 : decode b_R_follow 46 = .ok (.getfield 22, 3) := by decide +kernel
theorem d_R_follow_49 : decode b_R_follow 49 = .ok (.iload_n 1, 1) := by decide +kernel
theorem d_R_follow_50 : decode b_R_follow 50 = .ok (.iload 6, 2) := by decide +kernel
theorem d_R_follow_52 : decode b_R_follow 52 = .ok (.iastore, 1) := by decide +kernel
theorem d_R_follow_53 : decode b_R_follow 53 = .ok (.lload_n 2, 1) := by decide +kernel
theorem d_R_follow_54 : decode b_R_follow 54 = .ok (.lload 4, 2) := by decide +kernel
theorem d_R_follow_56 : decode b_R_follow 56 = .ok (.lor, 1) := by decide +kernel
theorem d_R_follow_57 : decode b_R_follow 57 = .ok (.lstore_n 2, 1) := by decide +kernel
theorem d_R_follow_58 : decode b_R_follow 58 = .ok (.aload_n 0, 1) := by decide +kernel
theorem d_R_follow_59 : decode b_R_follow 59 = .ok (.lload 4, 2) := by decide +kernel
theorem d_R_follow_61 : decode b_R_follow 61 = .ok (.invokevirtual 66, 3) := by decide +kernel
theorem d_R_follow_64 : decode b_R_follow 64 = .ok (.lload_n 2, 1) := by decide +kernel
theorem d_R_follow_65 : decode b_R_follow 65 = .ok (.ldc2_w 60, 3) := by decide +kernel
theorem d_R_follow_68 : decode b_R_follow 68 = .ok (.lxor, 1) := by decide +kernel
theorem d_R_follow_69 : decode b_R_follow 69 = .ok (.land, 1) := by decide +kernel
theorem d_R_follow_70 : decode b_R_follow 70 = .ok (.lstore 4, 2) := by decide +kernel
theorem d_R_follow_72 : decode b_R_follow 72 = .ok (.iinc 6 1, 3) := by decide +kernel
theorem d_R_follow_75 : decode b_R_follow 75 = .ok (.goto (-55), 3) := by decide +kernel
theorem d_R_follow_78 : decode b_R_follow 78 = .ok (.aload_n 0, 1) := by decide +kernel
theorem d_R_follow_79 : decode b_R_follow 79 = .ok (.getfield 19, 3) := by decide +kernel
theorem d_R_follow_82 : decode b_R_follow 82 = .ok (.iload_n 1, 1) := by decide +kernel
theorem d_R_follow_83 : decode b_R_follow 83 = .ok (.lload_n 2, 1) := by decide +kernel
theorem d_R_follow_84 : decode b_R_follow 84 = .ok (.lastore, 1) := by decide +kernel
theorem d_R_follow_85 : decode b_R_follow 85 = .ok (.return_, 1) := by decide +kernel
theorem d_R_askedBy_0 : decode b_R_askedBy 0 = .ok (.lconst 0, 1) := by decide +kernel
theorem d_R_askedBy_1 : decode b_R_askedBy 1 = .ok (.lstore_n 3, 1) := by decide +kernel
theorem d_R_askedBy_2 : decode b_R_askedBy 2 = .ok (.lload_n 1, 1) := by decide +kernel
theorem d_R_askedBy_3 : decode b_R_askedBy 3 = .ok (.lstore 5, 2) := by decide +kernel
theorem d_R_askedBy_5 : decode b_R_askedBy 5 = .ok (.lload_n 1, 1) := by decide +kernel
theorem d_R_askedBy_6 : decode b_R_askedBy 6 = .ok (.invokestatic 69, 3) := by decide +kernel
theorem d_R_askedBy_9 : decode b_R_askedBy 9 = .ok (.istore 7, 2) := by decide +kernel
theorem d_R_askedBy_11 : decode b_R_askedBy 11 = .ok (.iload 7, 2) := by decide +kernel
theorem d_R_askedBy_13 : decode b_R_askedBy 13 = .ok (.ifCond .le 31, 3) := by decide +kernel
theorem d_R_askedBy_16 : decode b_R_askedBy 16 = .ok (.lload_n 3, 1) := by decide +kernel
theorem d_R_askedBy_17 : decode b_R_askedBy 17 = .ok (.aload_n 0, 1) := by decide +kernel
theorem d_R_askedBy_18 : decode b_R_askedBy 18 = .ok (.getfield 15, 3) := by decide +kernel
theorem d_R_askedBy_21 : decode b_R_askedBy 21 = .ok (.lload 5, 2) := by decide +kernel
theorem d_R_askedBy_23 : decode b_R_askedBy 23 = .ok (.invokestatic 62, 3) := by decide +kernel
theorem d_R_askedBy_26 : decode b_R_askedBy 26 = .ok (.laload, 1) := by decide +kernel
theorem d_R_askedBy_27 : decode b_R_askedBy 27 = .ok (.lor, 1) := by decide +kernel
theorem d_R_askedBy_28 : decode b_R_askedBy 28 = .ok (.lstore_n 3, 1) := by decide +kernel
theorem d_R_askedBy_29 : decode b_R_askedBy 29 = .ok (.lload 5, 2) := by decide +kernel
theorem d_R_askedBy_31 : decode b_R_askedBy 31 = .ok (.lload 5, 2) := by decide +kernel
theorem d_R_askedBy_33 : decode b_R_askedBy 33 = .ok (.lconst 1, 1) := by decide +kernel
theorem d_R_askedBy_34 : decode b_R_askedBy 34 = .ok (.lsub, 1) := by decide +kernel
theorem d_R_askedBy_35 : decode b_R_askedBy 35 = .ok (.land, 1) := by decide +kernel
theorem d_R_askedBy_36 : decode b_R_askedBy 36 = .ok (.lstore 5, 2) := by decide +kernel
theorem d_R_askedBy_38 : decode b_R_askedBy 38 = .ok (.iinc 7 (-1), 3) := by decide +kernel
theorem d_R_askedBy_41 : decode b_R_askedBy 41 = .ok (.goto (-30), 3) := by decide +kernel
theorem d_R_askedBy_44 : decode b_R_askedBy 44 = .ok (.lload_n 3, 1) := by decide +kernel
theorem d_R_askedBy_45 : decode b_R_askedBy 45 = .ok (.lreturn, 1) := by decide +kernel
theorem d_R_askersOf_0 : decode b_R_askersOf 0 = .ok (.lconst 0, 1) := by decide +kernel
theorem d_R_askersOf_1 : decode b_R_askersOf 1 = .ok (.lstore_n 3, 1) := by decide +kernel
theorem d_R_askersOf_2 : decode b_R_askersOf 2 = .ok (.iconst 0, 1) := by decide +kernel
theorem d_R_askersOf_3 : decode b_R_askersOf 3 = .ok (.istore 5, 2) := by decide +kernel
theorem d_R_askersOf_5 : decode b_R_askersOf 5 = .ok (.iload 5, 2) := by decide +kernel
theorem d_R_askersOf_7 : decode b_R_askersOf 7 = .ok (.aload_n 0, 1) := by decide +kernel
theorem d_R_askersOf_8 : decode b_R_askersOf 8 = .ok (.getfield 9, 3) := by decide +kernel
theorem d_R_askersOf_11 : decode b_R_askersOf 11 = .ok (.if_icmp .ge 30, 3) := by decide +kernel
theorem d_R_askersOf_14 : decode b_R_askersOf 14 = .ok (.aload_n 0, 1) := by decide +kernel
theorem d_R_askersOf_15 : decode b_R_askersOf 15 = .ok (.getfield 15, 3) := by decide +kernel
theorem d_R_askersOf_18 : decode b_R_askersOf 18 = .ok (.iload 5, 2) := by decide +kernel
theorem d_R_askersOf_20 : decode b_R_askersOf 20 = .ok (.laload, 1) := by decide +kernel
theorem d_R_askersOf_21 : decode b_R_askersOf 21 = .ok (.lload_n 1, 1) := by decide +kernel
theorem d_R_askersOf_22 : decode b_R_askersOf 22 = .ok (.land, 1) := by decide +kernel
theorem d_R_askersOf_23 : decode b_R_askersOf 23 = .ok (.lconst 0, 1) := by decide +kernel
theorem d_R_askersOf_24 : decode b_R_askersOf 24 = .ok (.lcmp, 1) := by decide +kernel
theorem d_R_askersOf_25 : decode b_R_askersOf 25 = .ok (.ifCond .eq 10, 3) := by decide +kernel
theorem d_R_askersOf_28 : decode b_R_askersOf 28 = .ok (.lload_n 3, 1) := by decide +kernel
theorem d_R_askersOf_29 : decode b_R_askersOf 29 = .ok (.lconst 1, 1) := by decide +kernel
theorem d_R_askersOf_30 : decode b_R_askersOf 30 = .ok (.iload 5, 2) := by decide +kernel
theorem d_R_askersOf_32 : decode b_R_askersOf 32 = .ok (.lshl, 1) := by decide +kernel
theorem d_R_askersOf_33 : decode b_R_askersOf 33 = .ok (.lor, 1) := by decide +kernel
theorem d_R_askersOf_34 : decode b_R_askersOf 34 = .ok (.lstore_n 3, 1) := by decide +kernel
theorem d_R_askersOf_35 : decode b_R_askersOf 35 = .ok (.iinc 5 1, 3) := by decide +kernel
theorem d_R_askersOf_38 : decode b_R_askersOf 38 = .ok (.goto (-33), 3) := by decide +kernel
theorem d_R_askersOf_41 : decode b_R_askersOf 41 = .ok (.lload_n 3, 1) := by decide +kernel
theorem d_R_askersOf_42 : decode b_R_askersOf 42 = .ok (.lreturn, 1) := by decide +kernel
theorem d_R_contains_0 : decode b_R_contains 0 = .ok (.lload_n 0, 1) := by decide +kernel
theorem d_R_contains_1 : decode b_R_contains 1 = .ok (.iload_n 2, 1) := by decide +kernel
theorem d_R_contains_2 : decode b_R_contains 2 = .ok (.lushr, 1) := by decide +kernel
theorem d_R_contains_3 : decode b_R_contains 3 = .ok (.lconst 1, 1) := by decide +kernel
theorem d_R_contains_4 : decode b_R_contains 4 = .ok (.land, 1) := by decide +kernel
theorem d_R_contains_5 : decode b_R_contains 5 = .ok (.lconst 0, 1) := by decide +kernel
theorem d_R_contains_6 : decode b_R_contains 6 = .ok (.lcmp, 1) := by decide +kernel
theorem d_R_contains_7 : decode b_R_contains 7 = .ok (.ifCond .eq 7, 3) := by decide +kernel
theorem d_R_contains_10 : decode b_R_contains 10 = .ok (.iconst 1, 1) := by decide +kernel
theorem d_R_contains_11 : decode b_R_contains 11 = .ok (.goto 4, 3) := by decide +kernel
theorem d_R_contains_14 : decode b_R_contains 14 = .ok (.iconst 0, 1) := by decide +kernel
theorem d_R_contains_15 : decode b_R_contains 15 = .ok (.ireturn, 1) := by decide +kernel
theorem d_R_lowest_0 : decode b_R_lowest 0 = .ok (.lload_n 0, 1) := by decide +kernel
theorem d_R_lowest_1 : decode b_R_lowest 1 = .ok (.lload_n 0, 1) := by decide +kernel
theorem d_R_lowest_2 : decode b_R_lowest 2 = .ok (.lneg, 1) := by decide +kernel
theorem d_R_lowest_3 : decode b_R_lowest 3 = .ok (.land, 1) := by decide +kernel
theorem d_R_lowest_4 : decode b_R_lowest 4 = .ok (.lconst 1, 1) := by decide +kernel
theorem d_R_lowest_5 : decode b_R_lowest 5 = .ok (.lsub, 1) := by decide +kernel
theorem d_R_lowest_6 : decode b_R_lowest 6 = .ok (.invokestatic 69, 3) := by decide +kernel
theorem d_R_lowest_9 : decode b_R_lowest 9 = .ok (.ireturn, 1) := by decide +kernel
theorem d_T_init_0 : decode b_T_init 0 = .ok (.aload_n 0, 1) := by decide +kernel
theorem d_T_init_1 : decode b_T_init 1 = .ok (.invokespecial 3, 3) := by decide +kernel
theorem d_T_init_4 : decode b_T_init 4 = .ok (.aload_n 0, 1) := by decide +kernel
theorem d_T_init_5 : decode b_T_init 5 = .ok (.iconst (-1), 1) := by decide +kernel
theorem d_T_init_6 : decode b_T_init 6 = .ok (.putfield 9, 3) := by decide +kernel
theorem d_T_init_9 : decode b_T_init 9 = .ok (.aload_n 0, 1) := by decide +kernel
theorem d_T_init_10 : decode b_T_init 10 = .ok (.iconst 0, 1) := by decide +kernel
theorem d_T_init_11 : decode b_T_init 11 = .ok (.putfield 15, 3) := by decide +kernel
theorem d_T_init_14 : decode b_T_init 14 = .ok (.aload_n 0, 1) := by decide +kernel
theorem d_T_init_15 : decode b_T_init 15 = .ok (.bipush 40, 2) := by decide +kernel
theorem d_T_init_17 : decode b_T_init 17 = .ok (.newarray .int, 2) := by decide +kernel
theorem d_T_init_19 : decode b_T_init 19 = .ok (.putfield 18, 3) := by decide +kernel
theorem d_T_init_22 : decode b_T_init 22 = .ok (.aload_n 0, 1) := by decide +kernel
theorem d_T_init_23 : decode b_T_init 23 = .ok (.bipush 40, 2) := by decide +kernel
theorem d_T_init_25 : decode b_T_init 25 = .ok (.newarray .int, 2) := by decide +kernel
theorem d_T_init_27 : decode b_T_init 27 = .ok (.putfield 22, 3) := by decide +kernel
theorem d_T_init_30 : decode b_T_init 30 = .ok (.aload_n 0, 1) := by decide +kernel
theorem d_T_init_31 : decode b_T_init 31 = .ok (.bipush 40, 2) := by decide +kernel
theorem d_T_init_33 : decode b_T_init 33 = .ok (.newarray .int, 2) := by decide +kernel
theorem d_T_init_35 : decode b_T_init 35 = .ok (.putfield 25, 3) := by decide +kernel
theorem d_T_init_38 : decode b_T_init 38 = .ok (.aload_n 0, 1) := by decide +kernel
theorem d_T_init_39 : decode b_T_init 39 = .ok (.bipush 40, 2) := by decide +kernel
theorem d_T_init_41 : decode b_T_init 41 = .ok (.newarray .int, 2) := by decide +kernel
theorem d_T_init_43 : decode b_T_init 43 = .ok (.putfield 28, 3) := by decide +kernel
theorem d_T_init_46 : decode b_T_init 46 = .ok (.aload_n 0, 1) := by decide +kernel
theorem d_T_init_47 : decode b_T_init 47 = .ok (.iconst 0, 1) := by decide +kernel
theorem d_T_init_48 : decode b_T_init 48 = .ok (.putfield 31, 3) := by decide +kernel
theorem d_T_init_51 : decode b_T_init 51 = .ok (.aload_n 0, 1) := by decide +kernel
theorem d_T_init_52 : decode b_T_init 52 = .ok (.bipush 41, 2) := by decide +kernel
theorem d_T_init_54 : decode b_T_init 54 = .ok (.newarray .int, 2) := by decide +kernel
theorem d_T_init_56 : decode b_T_init 56 = .ok (.putfield 34, 3) := by decide +kernel
theorem d_T_init_59 : decode b_T_init 59 = .ok (.aload_n 0, 1) := by decide +kernel
theorem d_T_init_60 : decode b_T_init 60 = .ok (.bipush 40, 2) := by decide +kernel
theorem d_T_init_62 : decode b_T_init 62 = .ok (.newarray .int, 2) := by decide +kernel
theorem d_T_init_64 : decode b_T_init 64 = .ok (.putfield 37, 3) := by decide +kernel
theorem d_T_init_67 : decode b_T_init 67 = .ok (.aload_n 0, 1) := by decide +kernel
theorem d_T_init_68 : decode b_T_init 68 = .ok (.bipush 40, 2) := by decide +kernel
theorem d_T_init_70 : decode b_T_init 70 = .ok (.newarray .int, 2) := by decide +kernel
theorem d_T_init_72 : decode b_T_init 72 = .ok (.putfield 40, 3) := by decide +kernel
theorem d_T_init_75 : decode b_T_init 75 = .ok (.return_, 1) := by decide +kernel
theorem d_T_hasKey_0 : decode b_T_hasKey 0 = .ok (.iload_n 1, 1) := by decide +kernel
theorem d_T_hasKey_1 : decode b_T_hasKey 1 = .ok (.ifCond .lt 15, 3) := by decide +kernel
theorem d_T_hasKey_4 : decode b_T_hasKey 4 = .ok (.iload_n 1, 1) := by decide +kernel
theorem d_T_hasKey_5 : decode b_T_hasKey 5 = .ok (.aload_n 0, 1) := by decide +kernel
theorem d_T_hasKey_6 : decode b_T_hasKey 6 = .ok (.getfield 31, 3) := by decide +kernel
theorem d_T_hasKey_9 : decode b_T_hasKey 9 = .ok (.if_icmp .ge 7, 3) := by decide +kernel
theorem d_T_hasKey_12 : decode b_T_hasKey 12 = .ok (.iconst 1, 1) := by decide +kernel
theorem d_T_hasKey_13 : decode b_T_hasKey 13 = .ok (.goto 4, 3) := by decide +kernel
theorem d_T_hasKey_16 : decode b_T_hasKey 16 = .ok (.iconst 0, 1) := by decide +kernel
theorem d_T_hasKey_17 : decode b_T_hasKey 17 = .ok (.ireturn, 1) := by decide +kernel
theorem d_T_hasRing_0 : decode b_T_hasRing 0 = .ok (.iload_n 1, 1) := by decide +kernel
theorem d_T_hasRing_1 : decode b_T_hasRing 1 = .ok (.ifCond .lt 15, 3) := by decide +kernel
theorem d_T_hasRing_4 : decode b_T_hasRing 4 = .ok (.iload_n 1, 1) := by decide +kernel
theorem d_T_hasRing_5 : decode b_T_hasRing 5 = .ok (.aload_n 0, 1) := by decide +kernel
theorem d_T_hasRing_6 : decode b_T_hasRing 6 = .ok (.getfield 15, 3) := by decide +kernel
theorem d_T_hasRing_9 : decode b_T_hasRing 9 = .ok (.if_icmp .ge 7, 3) := by decide +kernel
theorem d_T_hasRing_12 : decode b_T_hasRing 12 = .ok (.iconst 1, 1) := by decide +kernel
theorem d_T_hasRing_13 : decode b_T_hasRing 13 = .ok (.goto 4, 3) := by decide +kernel
theorem d_T_hasRing_16 : decode b_T_hasRing 16 = .ok (.iconst 0, 1) := by decide +kernel
theorem d_T_hasRing_17 : decode b_T_hasRing 17 = .ok (.ireturn, 1) := by decide +kernel
theorem d_T_length_0 : decode b_T_length 0 = .ok (.aload_n 0, 1) := by decide +kernel
theorem d_T_length_1 : decode b_T_length 1 = .ok (.getfield 34, 3) := by decide +kernel
theorem d_T_length_4 : decode b_T_length 4 = .ok (.iload_n 1, 1) := by decide +kernel
theorem d_T_length_5 : decode b_T_length 5 = .ok (.iconst 1, 1) := by decide +kernel
theorem d_T_length_6 : decode b_T_length 6 = .ok (.iadd, 1) := by decide +kernel
theorem d_T_length_7 : decode b_T_length 7 = .ok (.iaload, 1) := by decide +kernel
theorem d_T_length_8 : decode b_T_length 8 = .ok (.aload_n 0, 1) := by decide +kernel
theorem d_T_length_9 : decode b_T_length 9 = .ok (.getfield 34, 3) := by decide +kernel
theorem d_T_length_12 : decode b_T_length 12 = .ok (.iload_n 1, 1) := by decide +kernel
theorem d_T_length_13 : decode b_T_length 13 = .ok (.iaload, 1) := by decide +kernel
theorem d_T_length_14 : decode b_T_length 14 = .ok (.isub, 1) := by decide +kernel
theorem d_T_length_15 : decode b_T_length 15 = .ok (.ireturn, 1) := by decide +kernel
theorem d_T_keyAt_0 : decode b_T_keyAt 0 = .ok (.aload_n 0, 1) := by decide +kernel
theorem d_T_keyAt_1 : decode b_T_keyAt 1 = .ok (.getfield 37, 3) := by decide +kernel
theorem d_T_keyAt_4 : decode b_T_keyAt 4 = .ok (.aload_n 0, 1) := by decide +kernel
theorem d_T_keyAt_5 : decode b_T_keyAt 5 = .ok (.getfield 34, 3) := by decide +kernel
theorem d_T_keyAt_8 : decode b_T_keyAt 8 = .ok (.iload_n 1, 1) := by decide +kernel
theorem d_T_keyAt_9 : decode b_T_keyAt 9 = .ok (.iaload, 1) := by decide +kernel
theorem d_T_keyAt_10 : decode b_T_keyAt 10 = .ok (.iload_n 2, 1) := by decide +kernel
theorem d_T_keyAt_11 : decode b_T_keyAt 11 = .ok (.iadd, 1) := by decide +kernel
theorem d_T_keyAt_12 : decode b_T_keyAt 12 = .ok (.iaload, 1) := by decide +kernel
theorem d_T_keyAt_13 : decode b_T_keyAt 13 = .ok (.ireturn, 1) := by decide +kernel
theorem d_T_edgeAt_0 : decode b_T_edgeAt 0 = .ok (.aload_n 0, 1) := by decide +kernel
theorem d_T_edgeAt_1 : decode b_T_edgeAt 1 = .ok (.getfield 40, 3) := by decide +kernel
theorem d_T_edgeAt_4 : decode b_T_edgeAt 4 = .ok (.aload_n 0, 1) := by decide +kernel
theorem d_T_edgeAt_5 : decode b_T_edgeAt 5 = .ok (.getfield 34, 3) := by decide +kernel
theorem d_T_edgeAt_8 : decode b_T_edgeAt 8 = .ok (.iload_n 1, 1) := by decide +kernel
theorem d_T_edgeAt_9 : decode b_T_edgeAt 9 = .ok (.iaload, 1) := by decide +kernel
theorem d_T_edgeAt_10 : decode b_T_edgeAt 10 = .ok (.iload_n 2, 1) := by decide +kernel
theorem d_T_edgeAt_11 : decode b_T_edgeAt 11 = .ok (.iadd, 1) := by decide +kernel
theorem d_T_edgeAt_12 : decode b_T_edgeAt 12 = .ok (.iaload, 1) := by decide +kernel
theorem d_T_edgeAt_13 : decode b_T_edgeAt 13 = .ok (.ireturn, 1) := by decide +kernel
theorem d_T_lastEdge_0 : decode b_T_lastEdge 0 = .ok (.iconst (-1), 1) := by decide +kernel
theorem d_T_lastEdge_1 : decode b_T_lastEdge 1 = .ok (.istore_n 2, 1) := by decide +kernel
theorem d_T_lastEdge_2 : decode b_T_lastEdge 2 = .ok (.aload_n 0, 1) := by decide +kernel
theorem d_T_lastEdge_3 : decode b_T_lastEdge 3 = .ok (.getfield 34, 3) := by decide +kernel
theorem d_T_lastEdge_6 : decode b_T_lastEdge 6 = .ok (.iload_n 1, 1) := by decide +kernel
theorem d_T_lastEdge_7 : decode b_T_lastEdge 7 = .ok (.iaload, 1) := by decide +kernel
theorem d_T_lastEdge_8 : decode b_T_lastEdge 8 = .ok (.istore_n 3, 1) := by decide +kernel
theorem d_T_lastEdge_9 : decode b_T_lastEdge 9 = .ok (.iload_n 3, 1) := by decide +kernel
theorem d_T_lastEdge_10 : decode b_T_lastEdge 10 = .ok (.aload_n 0, 1) := by decide +kernel
theorem d_T_lastEdge_11 : decode b_T_lastEdge 11 = .ok (.getfield 34, 3) := by decide +kernel
theorem d_T_lastEdge_14 : decode b_T_lastEdge 14 = .ok (.iload_n 1, 1) := by decide +kernel
theorem d_T_lastEdge_15 : decode b_T_lastEdge 15 = .ok (.iconst 1, 1) := by decide +kernel
theorem d_T_lastEdge_16 : decode b_T_lastEdge 16 = .ok (.iadd, 1) := by decide +kernel
theorem d_T_lastEdge_17 : decode b_T_lastEdge 17 = .ok (.iaload, 1) := by decide +kernel
theorem d_T_lastEdge_18 : decode b_T_lastEdge 18 = .ok (.if_icmp .ge 20, 3) := by decide +kernel
theorem d_T_lastEdge_21 : decode b_T_lastEdge 21 = .ok (.iload_n 2, 1) := by decide +kernel
theorem d_T_lastEdge_22 : decode b_T_lastEdge 22 = .ok (.aload_n 0, 1) := by decide +kernel
theorem d_T_lastEdge_23 : decode b_T_lastEdge 23 = .ok (.getfield 40, 3) := by decide +kernel
theorem d_T_lastEdge_26 : decode b_T_lastEdge 26 = .ok (.iload_n 3, 1) := by decide +kernel
theorem d_T_lastEdge_27 : decode b_T_lastEdge 27 = .ok (.iaload, 1) := by decide +kernel
theorem d_T_lastEdge_28 : decode b_T_lastEdge 28 = .ok (.invokestatic 43, 3) := by decide +kernel
theorem d_T_lastEdge_31 : decode b_T_lastEdge 31 = .ok (.istore_n 2, 1) := by decide +kernel
theorem d_T_lastEdge_32 : decode b_T_lastEdge 32 = .ok (.iinc 3 1, 3) := by decide +kernel
theorem d_T_lastEdge_35 : decode b_T_lastEdge 35 = .ok (.goto (-26), 3) := by decide +kernel
theorem d_T_lastEdge_38 : decode b_T_lastEdge 38 = .ok (.iload_n 2, 1) := by decide +kernel
theorem d_T_lastEdge_39 : decode b_T_lastEdge 39 = .ok (.ireturn, 1) := by decide +kernel
theorem d_T_tell_0 : decode b_T_tell 0 = .ok (.aload_n 0, 1) := by decide +kernel
theorem d_T_tell_1 : decode b_T_tell 1 = .ok (.iload 4, 2) := by decide +kernel
theorem d_T_tell_3 : decode b_T_tell 3 = .ok (.putfield 9, 3) := by decide +kernel
theorem d_T_tell_6 : decode b_T_tell 6 = .ok (.aload_n 0, 1) := by decide +kernel
theorem d_T_tell_7 : decode b_T_tell 7 = .ok (.aload_n 1, 1) := by decide +kernel
theorem d_T_tell_8 : decode b_T_tell 8 = .ok (.getfield 49, 3) := by decide +kernel
theorem d_T_tell_11 : decode b_T_tell 11 = .ok (.putfield 31, 3) := by decide +kernel
theorem d_T_tell_14 : decode b_T_tell 14 = .ok (.aload_n 0, 1) := by decide +kernel
theorem d_T_tell_15 : decode b_T_tell 15 = .ok (.aload_n 1, 1) := by decide +kernel
theorem d_T_tell_16 : decode b_T_tell 16 = .ok (.aload_n 3, 1) := by decide +kernel
theorem d_T_tell_17 : decode b_T_tell 17 = .ok (.invokevirtual 54, 3) := by decide +kernel
theorem d_T_tell_20 : decode b_T_tell 20 = .ok (.aload_n 0, 1) := by decide +kernel
theorem d_T_tell_21 : decode b_T_tell 21 = .ok (.aload_n 1, 1) := by decide +kernel
theorem d_T_tell_22 : decode b_T_tell 22 = .ok (.aload_n 3, 1) := by decide +kernel
theorem d_T_tell_23 : decode b_T_tell 23 = .ok (.invokevirtual 58, 3) := by decide +kernel
theorem d_T_tell_26 : decode b_T_tell 26 = .ok (.aload_n 0, 1) := by decide +kernel
theorem d_T_tell_27 : decode b_T_tell 27 = .ok (.aload_n 1, 1) := by decide +kernel
theorem d_T_tell_28 : decode b_T_tell 28 = .ok (.aload_n 3, 1) := by decide +kernel
theorem d_T_tell_29 : decode b_T_tell 29 = .ok (.invokevirtual 61, 3) := by decide +kernel
theorem d_T_tell_32 : decode b_T_tell 32 = .ok (.iconst 0, 1) := by decide +kernel
theorem d_T_tell_33 : decode b_T_tell 33 = .ok (.istore 5, 2) := by decide +kernel
theorem d_T_tell_35 : decode b_T_tell 35 = .ok (.iload 5, 2) := by decide +kernel
theorem d_T_tell_37 : decode b_T_tell 37 = .ok (.aload_n 0, 1) := by decide +kernel
theorem d_T_tell_38 : decode b_T_tell 38 = .ok (.getfield 15, 3) := by decide +kernel
theorem d_T_tell_41 : decode b_T_tell 41 = .ok (.if_icmp .ge 16, 3) := by decide +kernel
theorem d_T_tell_44 : decode b_T_tell 44 = .ok (.aload_n 0, 1) := by decide +kernel
theorem d_T_tell_45 : decode b_T_tell 45 = .ok (.iload 5, 2) := by decide +kernel
theorem d_T_tell_47 : decode b_T_tell 47 = .ok (.aload_n 2, 1) := by decide +kernel
theorem d_T_tell_48 : decode b_T_tell 48 = .ok (.invokevirtual 64, 3) := by decide +kernel
theorem d_T_tell_51 : decode b_T_tell 51 = .ok (.iinc 5 1, 3) := by decide +kernel
theorem d_T_tell_54 : decode b_T_tell 54 = .ok (.goto (-19), 3) := by decide +kernel
theorem d_T_tell_57 : decode b_T_tell 57 = .ok (.return_, 1) := by decide +kernel
theorem d_T_tellKeys_0 : decode b_T_tellKeys 0 = .ok (.iconst 0, 1) := by decide +kernel
theorem d_T_tellKeys_1 : decode b_T_tellKeys 1 = .ok (.istore_n 3, 1) := by decide +kernel
theorem d_T_tellKeys_2 : decode b_T_tellKeys 2 = .ok (.iload_n 3, 1) := by decide +kernel
theorem d_T_tellKeys_3 : decode b_T_tellKeys 3 = .ok (.aload_n 0, 1) := by decide +kernel
theorem d_T_tellKeys_4 : decode b_T_tellKeys 4 = .ok (.getfield 31, 3) := by decide +kernel
theorem d_T_tellKeys_7 : decode b_T_tellKeys 7 = .ok (.if_icmp .ge 70, 3) := by decide +kernel
theorem d_T_tellKeys_10 : decode b_T_tellKeys 10 = .ok (.aload_n 1, 1) := by decide +kernel
theorem d_T_tellKeys_11 : decode b_T_tellKeys 11 = .ok (.getfield 68, 3) := by decide +kernel
theorem d_T_tellKeys_14 : decode b_T_tellKeys 14 = .ok (.iload_n 3, 1) := by decide +kernel
theorem d_T_tellKeys_15 : decode b_T_tellKeys 15 = .ok (.iaload, 1) := by decide +kernel
theorem d_T_tellKeys_16 : decode b_T_tellKeys 16 = .ok (.istore 4, 2) := by decide +kernel
theorem d_T_tellKeys_18 : decode b_T_tellKeys 18 = .ok (.aload_n 0, 1) := by decide +kernel
theorem d_T_tellKeys_19 : decode b_T_tellKeys 19 = .ok (.getfield 25, 3) := by decide +kernel
theorem d_T_tellKeys_22 : decode b_T_tellKeys 22 = .ok (.iload 4, 2) := by decide +kernel
theorem d_T_tellKeys_24 : decode b_T_tellKeys 24 = .ok (.aload_n 2, 1) := by decide +kernel
theorem d_T_tellKeys_25 : decode b_T_tellKeys 25 = .ok (.iload_n 3, 1) := by decide +kernel
theorem d_T_tellKeys_26 : decode b_T_tellKeys 26 = .ok (.invokevirtual 71, 3) := by decide +kernel
theorem d_T_tellKeys_29 : decode b_T_tellKeys 29 = .ok (.iastore, 1) := by decide +kernel
theorem d_T_tellKeys_30 : decode b_T_tellKeys 30 = .ok (.aload_n 0, 1) := by decide +kernel
theorem d_T_tellKeys_31 : decode b_T_tellKeys 31 = .ok (.getfield 25, 3) := by decide +kernel
theorem d_T_tellKeys_34 : decode b_T_tellKeys 34 = .ok (.iload 4, 2) := by decide +kernel
theorem d_T_tellKeys_36 : decode b_T_tellKeys 36 = .ok (.iaload, 1) := by decide +kernel
theorem d_T_tellKeys_37 : decode b_T_tellKeys 37 = .ok (.ifCond .le 14, 3) := by decide +kernel
theorem d_T_tellKeys_40 : decode b_T_tellKeys 40 = .ok (.aload_n 0, 1) := by decide +kernel
theorem d_T_tellKeys_41 : decode b_T_tellKeys 41 = .ok (.getfield 22, 3) := by decide +kernel
theorem d_T_tellKeys_44 : decode b_T_tellKeys 44 = .ok (.iload 4, 2) := by decide +kernel
theorem d_T_tellKeys_46 : decode b_T_tellKeys 46 = .ok (.iconst 2, 1) := by decide +kernel
theorem d_T_tellKeys_47 : decode b_T_tellKeys 47 = .ok (.iastore, 1) := by decide +kernel
theorem d_T_tellKeys_48 : decode b_T_tellKeys 48 = .ok (.goto 23, 3) := by decide +kernel
theorem d_T_tellKeys_51 : decode b_T_tellKeys 51 = .ok (.aload_n 0, 1) := by decide +kernel
theorem d_T_tellKeys_52 : decode b_T_tellKeys 52 = .ok (.getfield 22, 3) := by decide +kernel
theorem d_T_tellKeys_55 : decode b_T_tellKeys 55 = .ok (.iload 4, 2) := by decide +kernel
theorem d_T_tellKeys_57 : decode b_T_tellKeys 57 = .ok (.aload_n 2, 1) := by decide +kernel
theorem d_T_tellKeys_58 : decode b_T_tellKeys 58 = .ok (.iload_n 3, 1) := by decide +kernel
theorem d_T_tellKeys_59 : decode b_T_tellKeys 59 = .ok (.invokevirtual 77, 3) := by decide +kernel
theorem d_T_tellKeys_62 : decode b_T_tellKeys 62 = .ok (.ifCond .eq 7, 3) := by decide +kernel
theorem d_T_tellKeys_65 : decode b_T_tellKeys 65 = .ok (.iconst 1, 1) := by decide +kernel
theorem d_T_tellKeys_66 : decode b_T_tellKeys 66 = .ok (.goto 4, 3) := by decide +kernel
theorem d_T_tellKeys_69 : decode b_T_tellKeys 69 = .ok (.iconst 0, 1) := by decide +kernel
theorem d_T_tellKeys_70 : decode b_T_tellKeys 70 = .ok (.iastore, 1) := by decide +kernel
theorem d_T_tellKeys_71 : decode b_T_tellKeys 71 = .ok (.iinc 3 1, 3) := by decide +kernel
theorem d_T_tellKeys_74 : decode b_T_tellKeys 74 = .ok (.goto (-72), 3) := by decide +kernel
theorem d_T_tellKeys_77 : decode b_T_tellKeys 77 = .ok (.return_, 1) := by decide +kernel
theorem d_T_numberParts_0 : decode b_T_numberParts 0 = .ok (.iconst 0, 1) := by decide +kernel
theorem d_T_numberParts_1 : decode b_T_numberParts 1 = .ok (.istore_n 3, 1) := by decide +kernel
theorem d_T_numberParts_2 : decode b_T_numberParts 2 = .ok (.iconst 0, 1) := by decide +kernel
theorem d_T_numberParts_3 : decode b_T_numberParts 3 = .ok (.istore 4, 2) := by decide +kernel
theorem d_T_numberParts_5 : decode b_T_numberParts 5 = .ok (.iload 4, 2) := by decide +kernel
theorem d_T_numberParts_7 : decode b_T_numberParts 7 = .ok (.aload_n 0, 1) := by decide +kernel
theorem d_T_numberParts_8 : decode b_T_numberParts 8 = .ok (.getfield 31, 3) := by decide +kernel
theorem d_T_numberParts_11 : decode b_T_numberParts 11 = .ok (.if_icmp .ge 68, 3) := by decide +kernel
theorem d_T_numberParts_14 : decode b_T_numberParts 14 = .ok (.aload_n 0, 1) := by decide +kernel
theorem d_T_numberParts_15 : decode b_T_numberParts 15 = .ok (.iload 4, 2) := by decide +kernel
theorem d_T_numberParts_17 : decode b_T_numberParts 17 = .ok (.aload_n 2, 1) := by decide +kernel
theorem d_T_numberParts_18 : decode b_T_numberParts 18 = .ok (.invokevirtual 81, 3) := by decide +kernel
theorem d_T_numberParts_21 : decode b_T_numberParts 21 = .ok (.istore 5, 2) := by decide +kernel
theorem d_T_numberParts_23 : decode b_T_numberParts 23 = .ok (.iload 5, 2) := by decide +kernel
theorem d_T_numberParts_25 : decode b_T_numberParts 25 = .ok (.iload 4, 2) := by decide +kernel
theorem d_T_numberParts_27 : decode b_T_numberParts 27 = .ok (.if_icmp .ne 22, 3) := by decide +kernel
theorem d_T_numberParts_30 : decode b_T_numberParts 30 = .ok (.aload_n 0, 1) := by decide +kernel
theorem d_T_numberParts_31 : decode b_T_numberParts 31 = .ok (.getfield 18, 3) := by decide +kernel
theorem d_T_numberParts_34 : decode b_T_numberParts 34 = .ok (.aload_n 1, 1) := by decide +kernel
theorem d_T_numberParts_35 : decode b_T_numberParts 35 = .ok (.getfield 68, 3) := by decide +kernel
theorem d_T_numberParts_38 : decode b_T_numberParts 38 = .ok (.iload 4, 2) := by decide +kernel
theorem d_T_numberParts_40 : decode b_T_numberParts 40 = .ok (.iaload, 1) := by decide +kernel
theorem d_T_numberParts_41 : decode b_T_numberParts 41 = .ok (.iload_n 3, 1) := by decide +kernel
theorem d_T_numberParts_42 : decode b_T_numberParts 42 = .ok (.iastore, 1) := by decide +kernel
theorem d_T_numberParts_43 : decode b_T_numberParts 43 = .ok (.iinc 3 1, 3) := by decide +kernel
theorem d_T_numberParts_46 : decode b_T_numberParts 46 = .ok (.goto 27, 3) := by decide +kernel
theorem d_T_numberParts_49 : decode b_T_numberParts 49 = .ok (.aload_n 0, 1) := by decide +kernel
theorem d_T_numberParts_50 : decode b_T_numberParts 50 = .ok (.getfield 18, 3) := by decide +kernel
theorem d_T_numberParts_53 : decode b_T_numberParts 53 = .ok (.aload_n 1, 1) := by decide +kernel
theorem d_T_numberParts_54 : decode b_T_numberParts 54 = .ok (.getfield 68, 3) := by decide +kernel
theorem d_T_numberParts_57 : decode b_T_numberParts 57 = .ok (.iload 4, 2) := by decide +kernel
theorem d_T_numberParts_59 : decode b_T_numberParts 59 = .ok (.iaload, 1) := by decide +kernel
theorem d_T_numberParts_60 : decode b_T_numberParts 60 = .ok (.aload_n 0, 1) := by decide +kernel
theorem d_T_numberParts_61 : decode b_T_numberParts 61 = .ok (.getfield 18, 3) := by decide +kernel
theorem d_T_numberParts_64 : decode b_T_numberParts 64 = .ok (.aload_n 1, 1) := by decide +kernel
theorem d_T_numberParts_65 : decode b_T_numberParts 65 = .ok (.getfield 68, 3) := by decide +kernel
theorem d_T_numberParts_68 : decode b_T_numberParts 68 = .ok (.iload 5, 2) := by decide +kernel
theorem d_T_numberParts_70 : decode b_T_numberParts 70 = .ok (.iaload, 1) := by decide +kernel
theorem d_T_numberParts_71 : decode b_T_numberParts 71 = .ok (.iaload, 1) := by decide +kernel
theorem d_T_numberParts_72 : decode b_T_numberParts 72 = .ok (.iastore, 1) := by decide +kernel
theorem d_T_numberParts_73 : decode b_T_numberParts 73 = .ok (.iinc 4 1, 3) := by decide +kernel
theorem d_T_numberParts_76 : decode b_T_numberParts 76 = .ok (.goto (-71), 3) := by decide +kernel
theorem d_T_numberParts_79 : decode b_T_numberParts 79 = .ok (.return_, 1) := by decide +kernel
theorem d_T_tellRings_0 : decode b_T_tellRings 0 = .ok (.aload_n 0, 1) := by decide +kernel
theorem d_T_tellRings_1 : decode b_T_tellRings 1 = .ok (.iconst 0, 1) := by decide +kernel
theorem d_T_tellRings_2 : decode b_T_tellRings 2 = .ok (.putfield 15, 3) := by decide +kernel
theorem d_T_tellRings_5 : decode b_T_tellRings 5 = .ok (.iconst 0, 1) := by decide +kernel
theorem d_T_tellRings_6 : decode b_T_tellRings 6 = .ok (.istore_n 3, 1) := by decide +kernel
theorem d_T_tellRings_7 : decode b_T_tellRings 7 = .ok (.iload_n 3, 1) := by decide +kernel
theorem d_T_tellRings_8 : decode b_T_tellRings 8 = .ok (.aload_n 0, 1) := by decide +kernel
theorem d_T_tellRings_9 : decode b_T_tellRings 9 = .ok (.getfield 31, 3) := by decide +kernel
theorem d_T_tellRings_12 : decode b_T_tellRings 12 = .ok (.if_icmp .ge 39, 3) := by decide +kernel
theorem d_T_tellRings_15 : decode b_T_tellRings 15 = .ok (.aload_n 2, 1) := by decide +kernel
theorem d_T_tellRings_16 : decode b_T_tellRings 16 = .ok (.iload_n 3, 1) := by decide +kernel
theorem d_T_tellRings_17 : decode b_T_tellRings 17 = .ok (.invokevirtual 71, 3) := by decide +kernel
theorem d_T_tellRings_20 : decode b_T_tellRings 20 = .ok (.ifCond .le 25, 3) := by decide +kernel
theorem d_T_tellRings_23 : decode b_T_tellRings 23 = .ok (.aload_n 0, 1) := by decide +kernel
theorem d_T_tellRings_24 : decode b_T_tellRings 24 = .ok (.iload_n 3, 1) := by decide +kernel
theorem d_T_tellRings_25 : decode b_T_tellRings 25 = .ok (.aload_n 2, 1) := by decide +kernel
theorem d_T_tellRings_26 : decode b_T_tellRings 26 = .ok (.invokevirtual 81, 3) := by decide +kernel
theorem d_T_tellRings_29 : decode b_T_tellRings 29 = .ok (.iload_n 3, 1) := by decide +kernel
theorem d_T_tellRings_30 : decode b_T_tellRings 30 = .ok (.if_icmp .ne 15, 3) := by decide +kernel
theorem d_T_tellRings_33 : decode b_T_tellRings 33 = .ok (.aload_n 0, 1) := by decide +kernel
theorem d_T_tellRings_34 : decode b_T_tellRings 34 = .ok (.aload_n 0, 1) := by decide +kernel
theorem d_T_tellRings_35 : decode b_T_tellRings 35 = .ok (.iload_n 3, 1) := by decide +kernel
theorem d_T_tellRings_36 : decode b_T_tellRings 36 = .ok (.aload_n 2, 1) := by decide +kernel
theorem d_T_tellRings_37 : decode b_T_tellRings 37 = .ok (.invokevirtual 85, 3) := by decide +kernel
theorem d_T_tellRings_40 : decode b_T_tellRings 40 = .ok (.aload_n 1, 1) := by decide +kernel
theorem d_T_tellRings_41 : decode b_T_tellRings 41 = .ok (.aload_n 2, 1) := by decide +kernel
theorem d_T_tellRings_42 : decode b_T_tellRings 42 = .ok (.invokevirtual 88, 3) := by decide +kernel
theorem d_T_tellRings_45 : decode b_T_tellRings 45 = .ok (.iinc 3 1, 3) := by decide +kernel
theorem d_T_tellRings_48 : decode b_T_tellRings 48 = .ok (.goto (-41), 3) := by decide +kernel
theorem d_T_tellRings_51 : decode b_T_tellRings 51 = .ok (.return_, 1) := by decide +kernel
theorem d_T_firstOfPart_0 : decode b_T_firstOfPart 0 = .ok (.iconst 0, 1) := by decide +kernel
theorem d_T_firstOfPart_1 : decode b_T_firstOfPart 1 = .ok (.istore_n 3, 1) := by decide +kernel
theorem d_T_firstOfPart_2 : decode b_T_firstOfPart 2 = .ok (.iload_n 3, 1) := by decide +kernel
theorem d_T_firstOfPart_3 : decode b_T_firstOfPart 3 = .ok (.iload_n 1, 1) := by decide +kernel
theorem d_T_firstOfPart_4 : decode b_T_firstOfPart 4 = .ok (.if_icmp .ge 20, 3) := by decide +kernel
theorem d_T_firstOfPart_7 : decode b_T_firstOfPart 7 = .ok (.aload_n 2, 1) := by decide +kernel
theorem d_T_firstOfPart_8 : decode b_T_firstOfPart 8 = .ok (.iload_n 3, 1) := by decide +kernel
theorem d_T_firstOfPart_9 : decode b_T_firstOfPart 9 = .ok (.iload_n 1, 1) := by decide +kernel
theorem d_T_firstOfPart_10 : decode b_T_firstOfPart 10 = .ok (.invokevirtual 92, 3) := by decide +kernel
theorem d_T_firstOfPart_13 : decode b_T_firstOfPart 13 = .ok (.ifCond .eq 5, 3) := by decide +kernel
theorem d_T_firstOfPart_16 : decode b_T_firstOfPart 16 = .ok (.iload_n 3, 1) := by decide +kernel
theorem d_T_firstOfPart_17 : decode b_T_firstOfPart 17 = .ok (.ireturn, 1) := by decide +kernel
theorem d_T_firstOfPart_18 : decode b_T_firstOfPart 18 = .ok (.iinc 3 1, 3) := by decide +kernel
theorem d_T_firstOfPart_21 : decode b_T_firstOfPart 21 = .ok (.goto (-19), 3) := by decide +kernel
theorem d_T_firstOfPart_24 : decode b_T_firstOfPart 24 = .ok (.iload_n 1, 1) := by decide +kernel
theorem d_T_firstOfPart_25 : decode b_T_firstOfPart 25 = .ok (.ireturn, 1) := by decide +kernel
theorem d_T_leastRinged_0 : decode b_T_leastRinged 0 = .ok (.iload_n 1, 1) := by decide +kernel
theorem d_T_leastRinged_1 : decode b_T_leastRinged 1 = .ok (.istore_n 3, 1) := by decide +kernel
theorem d_T_leastRinged_2 : decode b_T_leastRinged 2 = .ok (.iload_n 1, 1) := by decide +kernel
theorem d_T_leastRinged_3 : decode b_T_leastRinged 3 = .ok (.iconst 1, 1) := by decide +kernel
theorem d_T_leastRinged_4 : decode b_T_leastRinged 4 = .ok (.iadd, 1) := by decide +kernel
theorem d_T_leastRinged_5 : decode b_T_leastRinged 5 = .ok (.istore 4, 2) := by decide +kernel
theorem d_T_leastRinged_7 : decode b_T_leastRinged 7 = .ok (.iload 4, 2) := by decide +kernel
theorem d_T_leastRinged_9 : decode b_T_leastRinged 9 = .ok (.aload_n 0, 1) := by decide +kernel
theorem d_T_leastRinged_10 : decode b_T_leastRinged 10 = .ok (.getfield 31, 3) := by decide +kernel
theorem d_T_leastRinged_13 : decode b_T_leastRinged 13 = .ok (.if_icmp .ge 36, 3) := by decide +kernel
theorem d_T_leastRinged_16 : decode b_T_leastRinged 16 = .ok (.aload_n 2, 1) := by decide +kernel
theorem d_T_leastRinged_17 : decode b_T_leastRinged 17 = .ok (.iload_n 1, 1) := by decide +kernel
theorem d_T_leastRinged_18 : decode b_T_leastRinged 18 = .ok (.iload 4, 2) := by decide +kernel
theorem d_T_leastRinged_20 : decode b_T_leastRinged 20 = .ok (.invokevirtual 92, 3) := by decide +kernel
theorem d_T_leastRinged_23 : decode b_T_leastRinged 23 = .ok (.ifCond .eq 20, 3) := by decide +kernel
theorem d_T_leastRinged_26 : decode b_T_leastRinged 26 = .ok (.aload_n 2, 1) := by decide +kernel
theorem d_T_leastRinged_27 : decode b_T_leastRinged 27 = .ok (.iload 4, 2) := by decide +kernel
theorem d_T_leastRinged_29 : decode b_T_leastRinged 29 = .ok (.invokevirtual 71, 3) := by decide +kernel
theorem d_T_leastRinged_32 : decode b_T_leastRinged 32 = .ok (.aload_n 2, 1) := by decide +kernel
theorem d_T_leastRinged_33 : decode b_T_leastRinged 33 = .ok (.iload_n 3, 1) := by decide +kernel
theorem d_T_leastRinged_34 : decode b_T_leastRinged 34 = .ok (.invokevirtual 71, 3) := by decide +kernel
theorem d_T_leastRinged_37 : decode b_T_leastRinged 37 = .ok (.if_icmp .ge 6, 3) := by decide +kernel
theorem d_T_leastRinged_40 : decode b_T_leastRinged 40 = .ok (.iload 4, 2) := by decide +kernel
theorem d_T_leastRinged_42 : decode b_T_leastRinged 42 = .ok (.istore_n 3, 1) := by decide +kernel
theorem d_T_leastRinged_43 : decode b_T_leastRinged 43 = .ok (.iinc 4 1, 3) := by decide +kernel
theorem d_T_leastRinged_46 : decode b_T_leastRinged 46 = .ok (.goto (-39), 3) := by decide +kernel
theorem d_T_leastRinged_49 : decode b_T_leastRinged 49 = .ok (.iload_n 3, 1) := by decide +kernel
theorem d_T_leastRinged_50 : decode b_T_leastRinged 50 = .ok (.ireturn, 1) := by decide +kernel
theorem d_T_tellRing_0 : decode b_T_tellRing 0 = .ok (.aload_n 3, 1) := by decide +kernel
theorem d_T_tellRing_1 : decode b_T_tellRing 1 = .ok (.iload_n 1, 1) := by decide +kernel
theorem d_T_tellRing_2 : decode b_T_tellRing 2 = .ok (.invokevirtual 71, 3) := by decide +kernel
theorem d_T_tellRing_5 : decode b_T_tellRing 5 = .ok (.istore 4, 2) := by decide +kernel
theorem d_T_tellRing_7 : decode b_T_tellRing 7 = .ok (.aload_n 0, 1) := by decide +kernel
theorem d_T_tellRing_8 : decode b_T_tellRing 8 = .ok (.getfield 34, 3) := by decide +kernel
theorem d_T_tellRing_11 : decode b_T_tellRing 11 = .ok (.aload_n 0, 1) := by decide +kernel
theorem d_T_tellRing_12 : decode b_T_tellRing 12 = .ok (.getfield 15, 3) := by decide +kernel
theorem d_T_tellRing_15 : decode b_T_tellRing 15 = .ok (.iaload, 1) := by decide +kernel
theorem d_T_tellRing_16 : decode b_T_tellRing 16 = .ok (.istore 5, 2) := by decide +kernel
theorem d_T_tellRing_18 : decode b_T_tellRing 18 = .ok (.aload_n 3, 1) := by decide +kernel
theorem d_T_tellRing_19 : decode b_T_tellRing 19 = .ok (.iload_n 1, 1) := by decide +kernel
theorem d_T_tellRing_20 : decode b_T_tellRing 20 = .ok (.iload 4, 2) := by decide +kernel
theorem d_T_tellRing_22 : decode b_T_tellRing 22 = .ok (.invokevirtual 96, 3) := by decide +kernel
theorem d_T_tellRing_25 : decode b_T_tellRing 25 = .ok (.iload_n 1, 1) := by decide +kernel
theorem d_T_tellRing_26 : decode b_T_tellRing 26 = .ok (.istore 6, 2) := by decide +kernel
theorem d_T_tellRing_28 : decode b_T_tellRing 28 = .ok (.iload 4, 2) := by decide +kernel
theorem d_T_tellRing_30 : decode b_T_tellRing 30 = .ok (.iconst 1, 1) := by decide +kernel
theorem d_T_tellRing_31 : decode b_T_tellRing 31 = .ok (.isub, 1) := by decide +kernel
theorem d_T_tellRing_32 : decode b_T_tellRing 32 = .ok (.istore 7, 2) := by decide +kernel
theorem d_T_tellRing_34 : decode b_T_tellRing 34 = .ok (.iload 7, 2) := by decide +kernel
theorem d_T_tellRing_36 : decode b_T_tellRing 36 = .ok (.ifCond .lt 49, 3) := by decide +kernel
theorem d_T_tellRing_39 : decode b_T_tellRing 39 = .ok (.iload 6, 2) := by decide +kernel
theorem d_T_tellRing_41 : decode b_T_tellRing 41 = .ok (.iconst (-1), 1) := by decide +kernel
theorem d_T_tellRing_42 : decode b_T_tellRing 42 = .ok (.if_icmp .eq 43, 3) := by decide +kernel
theorem d_T_tellRing_45 : decode b_T_tellRing 45 = .ok (.iload 5, 2) := by decide +kernel
theorem d_T_tellRing_47 : decode b_T_tellRing 47 = .ok (.bipush 40, 2) := by decide +kernel
theorem d_T_tellRing_49 : decode b_T_tellRing 49 = .ok (.if_icmp .ge 36, 3) := by decide +kernel
theorem d_T_tellRing_52 : decode b_T_tellRing 52 = .ok (.aload_n 0, 1) := by decide +kernel
theorem d_T_tellRing_53 : decode b_T_tellRing 53 = .ok (.getfield 37, 3) := by decide +kernel
theorem d_T_tellRing_56 : decode b_T_tellRing 56 = .ok (.iload 5, 2) := by decide +kernel
theorem d_T_tellRing_58 : decode b_T_tellRing 58 = .ok (.aload_n 2, 1) := by decide +kernel
theorem d_T_tellRing_59 : decode b_T_tellRing 59 = .ok (.getfield 68, 3) := by decide +kernel
theorem d_T_tellRing_62 : decode b_T_tellRing 62 = .ok (.iload 6, 2) := by decide +kernel
theorem d_T_tellRing_64 : decode b_T_tellRing 64 = .ok (.iaload, 1) := by decide +kernel
theorem d_T_tellRing_65 : decode b_T_tellRing 65 = .ok (.iastore, 1) := by decide +kernel
theorem d_T_tellRing_66 : decode b_T_tellRing 66 = .ok (.iinc 5 1, 3) := by decide +kernel
theorem d_T_tellRing_69 : decode b_T_tellRing 69 = .ok (.aload_n 3, 1) := by decide +kernel
theorem d_T_tellRing_70 : decode b_T_tellRing 70 = .ok (.iload 6, 2) := by decide +kernel
theorem d_T_tellRing_72 : decode b_T_tellRing 72 = .ok (.iload 7, 2) := by decide +kernel
theorem d_T_tellRing_74 : decode b_T_tellRing 74 = .ok (.invokevirtual 100, 3) := by decide +kernel
theorem d_T_tellRing_77 : decode b_T_tellRing 77 = .ok (.istore 6, 2) := by decide +kernel
theorem d_T_tellRing_79 : decode b_T_tellRing 79 = .ok (.iinc 7 (-1), 3) := by decide +kernel
theorem d_T_tellRing_82 : decode b_T_tellRing 82 = .ok (.goto (-48), 3) := by decide +kernel
theorem d_T_tellRing_85 : decode b_T_tellRing 85 = .ok (.aload_n 0, 1) := by decide +kernel
theorem d_T_tellRing_86 : decode b_T_tellRing 86 = .ok (.dup, 1) := by decide +kernel
theorem d_T_tellRing_87 : decode b_T_tellRing 87 = .ok (.getfield 15, 3) := by decide +kernel
theorem d_T_tellRing_90 : decode b_T_tellRing 90 = .ok (.iconst 1, 1) := by decide +kernel
theorem d_T_tellRing_91 : decode b_T_tellRing 91 = .ok (.iadd, 1) := by decide +kernel
theorem d_T_tellRing_92 : decode b_T_tellRing 92 = .ok (.putfield 15, 3) := by decide +kernel
theorem d_T_tellRing_95 : decode b_T_tellRing 95 = .ok (.aload_n 0, 1) := by decide +kernel
theorem d_T_tellRing_96 : decode b_T_tellRing 96 = .ok (.getfield 34, 3) := by decide +kernel
theorem d_T_tellRing_99 : decode b_T_tellRing 99 = .ok (.aload_n 0, 1) := by decide +kernel
theorem d_T_tellRing_100 : decode b_T_tellRing 100 = .ok (.getfield 15, 3) := by decide +kernel
theorem d_T_tellRing_103 : decode b_T_tellRing 103 = .ok (.iload 5, 2) := by decide +kernel
theorem d_T_tellRing_105 : decode b_T_tellRing 105 = .ok (.iastore, 1) := by decide +kernel
theorem d_T_tellRing_106 : decode b_T_tellRing 106 = .ok (.return_, 1) := by decide +kernel
theorem d_T_tellEdges_0 : decode b_T_tellEdges 0 = .ok (.sipush 255, 3) := by decide +kernel
theorem d_T_tellEdges_3 : decode b_T_tellEdges 3 = .ok (.istore_n 3, 1) := by decide +kernel
theorem d_T_tellEdges_4 : decode b_T_tellEdges 4 = .ok (.aload_n 0, 1) := by decide +kernel
theorem d_T_tellEdges_5 : decode b_T_tellEdges 5 = .ok (.getfield 34, 3) := by decide +kernel
theorem d_T_tellEdges_8 : decode b_T_tellEdges 8 = .ok (.iload_n 1, 1) := by decide +kernel
theorem d_T_tellEdges_9 : decode b_T_tellEdges 9 = .ok (.iaload, 1) := by decide +kernel
theorem d_T_tellEdges_10 : decode b_T_tellEdges 10 = .ok (.istore 4, 2) := by decide +kernel
theorem d_T_tellEdges_12 : decode b_T_tellEdges 12 = .ok (.iload 4, 2) := by decide +kernel
theorem d_T_tellEdges_14 : decode b_T_tellEdges 14 = .ok (.aload_n 0, 1) := by decide +kernel
theorem d_T_tellEdges_15 : decode b_T_tellEdges 15 = .ok (.getfield 34, 3) := by decide +kernel
theorem d_T_tellEdges_18 : decode b_T_tellEdges 18 = .ok (.iload_n 1, 1) := by decide +kernel
theorem d_T_tellEdges_19 : decode b_T_tellEdges 19 = .ok (.iconst 1, 1) := by decide +kernel
theorem d_T_tellEdges_20 : decode b_T_tellEdges 20 = .ok (.iadd, 1) := by decide +kernel
theorem d_T_tellEdges_21 : decode b_T_tellEdges 21 = .ok (.iaload, 1) := by decide +kernel
theorem d_T_tellEdges_22 : decode b_T_tellEdges 22 = .ok (.if_icmp .ge 83, 3) := by decide +kernel
theorem d_T_tellEdges_25 : decode b_T_tellEdges 25 = .ok (.aload_n 0, 1) := by decide +kernel
theorem d_T_tellEdges_26 : decode b_T_tellEdges 26 = .ok (.getfield 37, 3) := by decide +kernel
theorem d_T_tellEdges_29 : decode b_T_tellEdges 29 = .ok (.iload 4, 2) := by decide +kernel
theorem d_T_tellEdges_31 : decode b_T_tellEdges 31 = .ok (.iaload, 1) := by decide +kernel
theorem d_T_tellEdges_32 : decode b_T_tellEdges 32 = .ok (.istore 5, 2) := by decide +kernel
theorem d_T_tellEdges_34 : decode b_T_tellEdges 34 = .ok (.aload_n 0, 1) := by decide +kernel
theorem d_T_tellEdges_35 : decode b_T_tellEdges 35 = .ok (.getfield 37, 3) := by decide +kernel
theorem d_T_tellEdges_38 : decode b_T_tellEdges 38 = .ok (.iload 4, 2) := by decide +kernel
theorem d_T_tellEdges_40 : decode b_T_tellEdges 40 = .ok (.iconst 1, 1) := by decide +kernel
theorem d_T_tellEdges_41 : decode b_T_tellEdges 41 = .ok (.iadd, 1) := by decide +kernel
theorem d_T_tellEdges_42 : decode b_T_tellEdges 42 = .ok (.aload_n 0, 1) := by decide +kernel
theorem d_T_tellEdges_43 : decode b_T_tellEdges 43 = .ok (.getfield 34, 3) := by decide +kernel
theorem d_T_tellEdges_46 : decode b_T_tellEdges 46 = .ok (.iload_n 1, 1) := by decide +kernel
theorem d_T_tellEdges_47 : decode b_T_tellEdges 47 = .ok (.iconst 1, 1) := by decide +kernel
theorem d_T_tellEdges_48 : decode b_T_tellEdges 48 = .ok (.iadd, 1) := by decide +kernel
theorem d_T_tellEdges_49 : decode b_T_tellEdges 49 = .ok (.iaload, 1) := by decide +kernel
theorem d_T_tellEdges_50 : decode b_T_tellEdges 50 = .ok (.if_icmp .ge 10, 3) := by decide +kernel
theorem d_T_tellEdges_53 : decode b_T_tellEdges 53 = .ok (.iload 4, 2) := by decide +kernel
theorem d_T_tellEdges_55 : decode b_T_tellEdges 55 = .ok (.iconst 1, 1) := by decide +kernel
theorem d_T_tellEdges_56 : decode b_T_tellEdges 56 = .ok (.iadd, 1) := by decide +kernel
theorem d_T_tellEdges_57 : decode b_T_tellEdges 57 = .ok (.goto 9, 3) := by decide +kernel
theorem d_T_tellEdges_60 : decode b_T_tellEdges 60 = .ok (.aload_n 0, 1) := by decide +kernel
theorem d_T_tellEdges_61 : decode b_T_tellEdges 61 = .ok (.getfield 34, 3) := by decide +kernel
theorem d_T_tellEdges_64 : decode b_T_tellEdges 64 = .ok (.iload_n 1, 1) := by decide +kernel
theorem d_T_tellEdges_65 : decode b_T_tellEdges 65 = .ok (.iaload, 1) := by decide +kernel
theorem d_T_tellEdges_66 : decode b_T_tellEdges 66 = .ok (.iaload, 1) := by decide +kernel
theorem d_T_tellEdges_67 : decode b_T_tellEdges 67 = .ok (.istore 6, 2) := by decide +kernel
theorem d_T_tellEdges_69 : decode b_T_tellEdges 69 = .ok (.aload_n 0, 1) := by decide +kernel
theorem d_T_tellEdges_70 : decode b_T_tellEdges 70 = .ok (.getfield 40, 3) := by decide +kernel
theorem d_T_tellEdges_73 : decode b_T_tellEdges 73 = .ok (.iload 4, 2) := by decide +kernel
theorem d_T_tellEdges_75 : decode b_T_tellEdges 75 = .ok (.aload_n 2, 1) := by decide +kernel
theorem d_T_tellEdges_76 : decode b_T_tellEdges 76 = .ok (.iload 5, 2) := by decide +kernel
theorem d_T_tellEdges_78 : decode b_T_tellEdges 78 = .ok (.iload 6, 2) := by decide +kernel
theorem d_T_tellEdges_80 : decode b_T_tellEdges 80 = .ok (.aload_n 0, 1) := by decide +kernel
theorem d_T_tellEdges_81 : decode b_T_tellEdges 81 = .ok (.getfield 9, 3) := by decide +kernel
theorem d_T_tellEdges_84 : decode b_T_tellEdges 84 = .ok (.invokevirtual 103, 3) := by decide +kernel
theorem d_T_tellEdges_87 : decode b_T_tellEdges 87 = .ok (.iastore, 1) := by decide +kernel
theorem d_T_tellEdges_88 : decode b_T_tellEdges 88 = .ok (.iload_n 3, 1) := by decide +kernel
theorem d_T_tellEdges_89 : decode b_T_tellEdges 89 = .ok (.aload_n 2, 1) := by decide +kernel
theorem d_T_tellEdges_90 : decode b_T_tellEdges 90 = .ok (.iload 5, 2) := by decide +kernel
theorem d_T_tellEdges_92 : decode b_T_tellEdges 92 = .ok (.iload 6, 2) := by decide +kernel
theorem d_T_tellEdges_94 : decode b_T_tellEdges 94 = .ok (.invokevirtual 109, 3) := by decide +kernel
theorem d_T_tellEdges_97 : decode b_T_tellEdges 97 = .ok (.iand, 1) := by decide +kernel
theorem d_T_tellEdges_98 : decode b_T_tellEdges 98 = .ok (.istore_n 3, 1) := by decide +kernel
theorem d_T_tellEdges_99 : decode b_T_tellEdges 99 = .ok (.iinc 4 1, 3) := by decide +kernel
theorem d_T_tellEdges_102 : decode b_T_tellEdges 102 = .ok (.goto (-90), 3) := by decide +kernel
theorem d_T_tellEdges_105 : decode b_T_tellEdges 105 = .ok (.aload_n 0, 1) := by decide +kernel
theorem d_T_tellEdges_106 : decode b_T_tellEdges 106 = .ok (.getfield 28, 3) := by decide +kernel
theorem d_T_tellEdges_109 : decode b_T_tellEdges 109 = .ok (.iload_n 1, 1) := by decide +kernel
theorem d_T_tellEdges_110 : decode b_T_tellEdges 110 = .ok (.iload_n 3, 1) := by decide +kernel
theorem d_T_tellEdges_111 : decode b_T_tellEdges 111 = .ok (.iconst 1, 1) := by decide +kernel
theorem d_T_tellEdges_112 : decode b_T_tellEdges 112 = .ok (.aload_n 0, 1) := by decide +kernel
theorem d_T_tellEdges_113 : decode b_T_tellEdges 113 = .ok (.getfield 9, 3) := by decide +kernel
theorem d_T_tellEdges_116 : decode b_T_tellEdges 116 = .ok (.ishl, 1) := by decide +kernel
theorem d_T_tellEdges_117 : decode b_T_tellEdges 117 = .ok (.if_icmp .ne 10, 3) := by decide +kernel
theorem d_T_tellEdges_120 : decode b_T_tellEdges 120 = .ok (.aload_n 0, 1) := by decide +kernel
theorem d_T_tellEdges_121 : decode b_T_tellEdges 121 = .ok (.getfield 9, 3) := by decide +kernel
theorem d_T_tellEdges_124 : decode b_T_tellEdges 124 = .ok (.goto 4, 3) := by decide +kernel
theorem d_T_tellEdges_127 : decode b_T_tellEdges 127 = .ok (.iconst (-1), 1) := by decide +kernel
theorem d_T_tellEdges_128 : decode b_T_tellEdges 128 = .ok (.iastore, 1) := by decide +kernel
theorem d_T_tellEdges_129 : decode b_T_tellEdges 129 = .ok (.return_, 1) := by decide +kernel
theorem d_X_bitCount_0 : decode b_X_bitCount 0 = .ok (.lload_n 0, 1) := by decide +kernel
theorem d_X_bitCount_1 : decode b_X_bitCount 1 = .ok (.lload_n 0, 1) := by decide +kernel
theorem d_X_bitCount_2 : decode b_X_bitCount 2 = .ok (.iconst 1, 1) := by decide +kernel
theorem d_X_bitCount_3 : decode b_X_bitCount 3 = .ok (.lushr, 1) := by decide +kernel
theorem d_X_bitCount_4 : decode b_X_bitCount 4 = .ok (.ldc2_w 314, 3) := by decide +kernel
theorem d_X_bitCount_7 : decode b_X_bitCount 7 = .ok (.land, 1) := by decide +kernel
theorem d_X_bitCount_8 : decode b_X_bitCount 8 = .ok (.lsub, 1) := by decide +kernel
theorem d_X_bitCount_9 : decode b_X_bitCount 9 = .ok (.lstore_n 0, 1) := by decide +kernel
theorem d_X_bitCount_10 : decode b_X_bitCount 10 = .ok (.lload_n 0, 1) := by decide +kernel
theorem d_X_bitCount_11 : decode b_X_bitCount 11 = .ok (.ldc2_w 316, 3) := by decide +kernel
theorem d_X_bitCount_14 : decode b_X_bitCount 14 = .ok (.land, 1) := by decide +kernel
theorem d_X_bitCount_15 : decode b_X_bitCount 15 = .ok (.lload_n 0, 1) := by decide +kernel
theorem d_X_bitCount_16 : decode b_X_bitCount 16 = .ok (.iconst 2, 1) := by decide +kernel
theorem d_X_bitCount_17 : decode b_X_bitCount 17 = .ok (.lushr, 1) := by decide +kernel
theorem d_X_bitCount_18 : decode b_X_bitCount 18 = .ok (.ldc2_w 316, 3) := by decide +kernel
theorem d_X_bitCount_21 : decode b_X_bitCount 21 = .ok (.land, 1) := by decide +kernel
theorem d_X_bitCount_22 : decode b_X_bitCount 22 = .ok (.ladd, 1) := by decide +kernel
theorem d_X_bitCount_23 : decode b_X_bitCount 23 = .ok (.lstore_n 0, 1) := by decide +kernel
theorem d_X_bitCount_24 : decode b_X_bitCount 24 = .ok (.lload_n 0, 1) := by decide +kernel
theorem d_X_bitCount_25 : decode b_X_bitCount 25 = .ok (.lload_n 0, 1) := by decide +kernel
theorem d_X_bitCount_26 : decode b_X_bitCount 26 = .ok (.iconst 4, 1) := by decide +kernel
theorem d_X_bitCount_27 : decode b_X_bitCount 27 = .ok (.lushr, 1) := by decide +kernel
theorem d_X_bitCount_28 : decode b_X_bitCount 28 = .ok (.ladd, 1) := by decide +kernel
theorem d_X_bitCount_29 : decode b_X_bitCount 29 = .ok (.ldc2_w 318, 3) := by decide +kernel
theorem d_X_bitCount_32 : decode b_X_bitCount 32 = .ok (.land, 1) := by decide +kernel
theorem d_X_bitCount_33 : decode b_X_bitCount 33 = .ok (.lstore_n 0, 1) := by decide +kernel
theorem d_X_bitCount_34 : decode b_X_bitCount 34 = .ok (.lload_n 0, 1) := by decide +kernel
theorem d_X_bitCount_35 : decode b_X_bitCount 35 = .ok (.lload_n 0, 1) := by decide +kernel
theorem d_X_bitCount_36 : decode b_X_bitCount 36 = .ok (.bipush 8, 2) := by decide +kernel
theorem d_X_bitCount_38 : decode b_X_bitCount 38 = .ok (.lushr, 1) := by decide +kernel
theorem d_X_bitCount_39 : decode b_X_bitCount 39 = .ok (.ladd, 1) := by decide +kernel
theorem d_X_bitCount_40 : decode b_X_bitCount 40 = .ok (.lstore_n 0, 1) := by decide +kernel
theorem d_X_bitCount_41 : decode b_X_bitCount 41 = .ok (.lload_n 0, 1) := by decide +kernel
theorem d_X_bitCount_42 : decode b_X_bitCount 42 = .ok (.lload_n 0, 1) := by decide +kernel
theorem d_X_bitCount_43 : decode b_X_bitCount 43 = .ok (.bipush 16, 2) := by decide +kernel
theorem d_X_bitCount_45 : decode b_X_bitCount 45 = .ok (.lushr, 1) := by decide +kernel
theorem d_X_bitCount_46 : decode b_X_bitCount 46 = .ok (.ladd, 1) := by decide +kernel
theorem d_X_bitCount_47 : decode b_X_bitCount 47 = .ok (.lstore_n 0, 1) := by decide +kernel
theorem d_X_bitCount_48 : decode b_X_bitCount 48 = .ok (.lload_n 0, 1) := by decide +kernel
theorem d_X_bitCount_49 : decode b_X_bitCount 49 = .ok (.lload_n 0, 1) := by decide +kernel
theorem d_X_bitCount_50 : decode b_X_bitCount 50 = .ok (.bipush 32, 2) := by decide +kernel
theorem d_X_bitCount_52 : decode b_X_bitCount 52 = .ok (.lushr, 1) := by decide +kernel
theorem d_X_bitCount_53 : decode b_X_bitCount 53 = .ok (.ladd, 1) := by decide +kernel
theorem d_X_bitCount_54 : decode b_X_bitCount 54 = .ok (.lstore_n 0, 1) := by decide +kernel
theorem d_X_bitCount_55 : decode b_X_bitCount 55 = .ok (.lload_n 0, 1) := by decide +kernel
theorem d_X_bitCount_56 : decode b_X_bitCount 56 = .ok (.l2i, 1) := by decide +kernel
theorem d_X_bitCount_57 : decode b_X_bitCount 57 = .ok (.bipush 127, 2) := by decide +kernel
theorem d_X_bitCount_59 : decode b_X_bitCount 59 = .ok (.iand, 1) := by decide +kernel
theorem d_X_bitCount_60 : decode b_X_bitCount 60 = .ok (.ireturn, 1) := by decide +kernel
end
section
theorem d_M_init_0 : decode b_M_init 0 = .ok (.aload_n 0, 1) := by decide +kernel
theorem d_M_init_1 : decode b_M_init 1 = .ok (.invokespecial 1, 3) := by decide +kernel
theorem d_M_init_4 : decode b_M_init 4 = .ok (.aload_n 0, 1) := by decide +kernel
theorem d_M_init_5 : decode b_M_init 5 = .ok (.bipush 40, 2) := by decide +kernel
theorem d_M_init_7 : decode b_M_init 7 = .ok (.newarray .int, 2) := by decide +kernel
theorem d_M_init_9 : decode b_M_init 9 = .ok (.putfield 7, 3) := by decide +kernel
theorem d_M_init_12 : decode b_M_init 12 = .ok (.aload_n 0, 1) := by decide +kernel
theorem d_M_init_13 : decode b_M_init 13 = .ok (.sipush 160, 3) := by decide +kernel
theorem d_M_init_16 : decode b_M_init 16 = .ok (.newarray .int, 2) := by decide +kernel
theorem d_M_init_18 : decode b_M_init 18 = .ok (.putfield 13, 3) := by decide +kernel
theorem d_M_init_21 : decode b_M_init 21 = .ok (.aload_n 0, 1) := by decide +kernel
theorem d_M_init_22 : decode b_M_init 22 = .ok (.sipush 160, 3) := by decide +kernel
theorem d_M_init_25 : decode b_M_init 25 = .ok (.newarray .int, 2) := by decide +kernel
theorem d_M_init_27 : decode b_M_init 27 = .ok (.putfield 16, 3) := by decide +kernel
theorem d_M_init_30 : decode b_M_init 30 = .ok (.aload_n 0, 1) := by decide +kernel
theorem d_M_init_31 : decode b_M_init 31 = .ok (.sipush 160, 3) := by decide +kernel
theorem d_M_init_34 : decode b_M_init 34 = .ok (.newarray .int, 2) := by decide +kernel
theorem d_M_init_36 : decode b_M_init 36 = .ok (.putfield 19, 3) := by decide +kernel
theorem d_M_init_39 : decode b_M_init 39 = .ok (.aload_n 0, 1) := by decide +kernel
theorem d_M_init_40 : decode b_M_init 40 = .ok (.sipush 160, 3) := by decide +kernel
theorem d_M_init_43 : decode b_M_init 43 = .ok (.newarray .int, 2) := by decide +kernel
theorem d_M_init_45 : decode b_M_init 45 = .ok (.putfield 22, 3) := by decide +kernel
theorem d_M_init_48 : decode b_M_init 48 = .ok (.aload_n 0, 1) := by decide +kernel
theorem d_M_init_49 : decode b_M_init 49 = .ok (.sipush 160, 3) := by decide +kernel
theorem d_M_init_52 : decode b_M_init 52 = .ok (.newarray .boolean, 2) := by decide +kernel
theorem d_M_init_54 : decode b_M_init 54 = .ok (.putfield 25, 3) := by decide +kernel
theorem d_M_init_57 : decode b_M_init 57 = .ok (.aload_n 0, 1) := by decide +kernel
theorem d_M_init_58 : decode b_M_init 58 = .ok (.iconst (-1), 1) := by decide +kernel
theorem d_M_init_59 : decode b_M_init 59 = .ok (.putfield 29, 3) := by decide +kernel
theorem d_M_init_62 : decode b_M_init 62 = .ok (.aload_n 0, 1) := by decide +kernel
theorem d_M_init_63 : decode b_M_init 63 = .ok (.sipush 160, 3) := by decide +kernel
theorem d_M_init_66 : decode b_M_init 66 = .ok (.newarray .boolean, 2) := by decide +kernel
theorem d_M_init_68 : decode b_M_init 68 = .ok (.putfield 33, 3) := by decide +kernel
theorem d_M_init_71 : decode b_M_init 71 = .ok (.aload_n 0, 1) := by decide +kernel
theorem d_M_init_72 : decode b_M_init 72 = .ok (.bipush 40, 2) := by decide +kernel
theorem d_M_init_74 : decode b_M_init 74 = .ok (.newarray .int, 2) := by decide +kernel
theorem d_M_init_76 : decode b_M_init 76 = .ok (.putfield 36, 3) := by decide +kernel
theorem d_M_init_79 : decode b_M_init 79 = .ok (.aload_n 0, 1) := by decide +kernel
theorem d_M_init_80 : decode b_M_init 80 = .ok (.bipush 40, 2) := by decide +kernel
theorem d_M_init_82 : decode b_M_init 82 = .ok (.newarray .int, 2) := by decide +kernel
theorem d_M_init_84 : decode b_M_init 84 = .ok (.putfield 39, 3) := by decide +kernel
theorem d_M_init_87 : decode b_M_init 87 = .ok (.aload_n 0, 1) := by decide +kernel
theorem d_M_init_88 : decode b_M_init 88 = .ok (.bipush 40, 2) := by decide +kernel
theorem d_M_init_90 : decode b_M_init 90 = .ok (.newarray .int, 2) := by decide +kernel
theorem d_M_init_92 : decode b_M_init 92 = .ok (.putfield 42, 3) := by decide +kernel
theorem d_M_init_95 : decode b_M_init 95 = .ok (.aload_n 0, 1) := by decide +kernel
theorem d_M_init_96 : decode b_M_init 96 = .ok (.bipush 40, 2) := by decide +kernel
theorem d_M_init_98 : decode b_M_init 98 = .ok (.newarray .int, 2) := by decide +kernel
theorem d_M_init_100 : decode b_M_init 100 = .ok (.putfield 45, 3) := by decide +kernel
theorem d_M_init_103 : decode b_M_init 103 = .ok (.aload_n 0, 1) := by decide +kernel
theorem d_M_init_104 : decode b_M_init 104 = .ok (.sipush 1600, 3) := by decide +kernel
theorem d_M_init_107 : decode b_M_init 107 = .ok (.newarray .boolean, 2) := by decide +kernel
theorem d_M_init_109 : decode b_M_init 109 = .ok (.putfield 48, 3) := by decide +kernel
theorem d_M_init_112 : decode b_M_init 112 = .ok (.aload_n 0, 1) := by decide +kernel
theorem d_M_init_113 : decode b_M_init 113 = .ok (.sipush 1600, 3) := by decide +kernel
theorem d_M_init_116 : decode b_M_init 116 = .ok (.newarray .boolean, 2) := by decide +kernel
theorem d_M_init_118 : decode b_M_init 118 = .ok (.putfield 51, 3) := by decide +kernel
theorem d_M_init_121 : decode b_M_init 121 = .ok (.aload_n 0, 1) := by decide +kernel
theorem d_M_init_122 : decode b_M_init 122 = .ok (.sipush 1600, 3) := by decide +kernel
theorem d_M_init_125 : decode b_M_init 125 = .ok (.newarray .int, 2) := by decide +kernel
theorem d_M_init_127 : decode b_M_init 127 = .ok (.putfield 54, 3) := by decide +kernel
theorem d_M_init_130 : decode b_M_init 130 = .ok (.aload_n 0, 1) := by decide +kernel
theorem d_M_init_131 : decode b_M_init 131 = .ok (.bipush 40, 2) := by decide +kernel
theorem d_M_init_133 : decode b_M_init 133 = .ok (.newarray .int, 2) := by decide +kernel
theorem d_M_init_135 : decode b_M_init 135 = .ok (.putfield 57, 3) := by decide +kernel
theorem d_M_init_138 : decode b_M_init 138 = .ok (.aload_n 0, 1) := by decide +kernel
theorem d_M_init_139 : decode b_M_init 139 = .ok (.sipush 1600, 3) := by decide +kernel
theorem d_M_init_142 : decode b_M_init 142 = .ok (.newarray .int, 2) := by decide +kernel
theorem d_M_init_144 : decode b_M_init 144 = .ok (.putfield 60, 3) := by decide +kernel
theorem d_M_init_147 : decode b_M_init 147 = .ok (.aload_n 0, 1) := by decide +kernel
theorem d_M_init_148 : decode b_M_init 148 = .ok (.sipush 1640, 3) := by decide +kernel
theorem d_M_init_151 : decode b_M_init 151 = .ok (.newarray .boolean, 2) := by decide +kernel
theorem d_M_init_153 : decode b_M_init 153 = .ok (.putfield 63, 3) := by decide +kernel
theorem d_M_init_156 : decode b_M_init 156 = .ok (.aload_n 0, 1) := by decide +kernel
theorem d_M_init_157 : decode b_M_init 157 = .ok (.bipush 40, 2) := by decide +kernel
theorem d_M_init_159 : decode b_M_init 159 = .ok (.newarray .int, 2) := by decide +kernel
theorem d_M_init_161 : decode b_M_init 161 = .ok (.putfield 66, 3) := by decide +kernel
theorem d_M_init_164 : decode b_M_init 164 = .ok (.aload_n 0, 1) := by decide +kernel
theorem d_M_init_165 : decode b_M_init 165 = .ok (.bipush 40, 2) := by decide +kernel
theorem d_M_init_167 : decode b_M_init 167 = .ok (.newarray .int, 2) := by decide +kernel
theorem d_M_init_169 : decode b_M_init 169 = .ok (.putfield 69, 3) := by decide +kernel
theorem d_M_init_172 : decode b_M_init 172 = .ok (.aload_n 0, 1) := by decide +kernel
theorem d_M_init_173 : decode b_M_init 173 = .ok (.bipush 40, 2) := by decide +kernel
theorem d_M_init_175 : decode b_M_init 175 = .ok (.newarray .int, 2) := by decide +kernel
theorem d_M_init_177 : decode b_M_init 177 = .ok (.putfield 72, 3) := by decide +kernel
theorem d_M_init_180 : decode b_M_init 180 = .ok (.return_, 1) := by decide +kernel
theorem d_M_isKey_0 : decode b_M_isKey 0 = .ok (.iload_n 1, 1) := by decide +kernel
theorem d_M_isKey_1 : decode b_M_isKey 1 = .ok (.ifCond .lt 15, 3) := by decide +kernel
theorem d_M_isKey_4 : decode b_M_isKey 4 = .ok (.iload_n 1, 1) := by decide +kernel
theorem d_M_isKey_5 : decode b_M_isKey 5 = .ok (.aload_n 0, 1) := by decide +kernel
theorem d_M_isKey_6 : decode b_M_isKey 6 = .ok (.getfield 78, 3) := by decide +kernel
theorem d_M_isKey_9 : decode b_M_isKey 9 = .ok (.if_icmp .ge 7, 3) := by decide +kernel
theorem d_M_isKey_12 : decode b_M_isKey 12 = .ok (.iconst 1, 1) := by decide +kernel
theorem d_M_isKey_13 : decode b_M_isKey 13 = .ok (.goto 4, 3) := by decide +kernel
theorem d_M_isKey_16 : decode b_M_isKey 16 = .ok (.iconst 0, 1) := by decide +kernel
theorem d_M_isKey_17 : decode b_M_isKey 17 = .ok (.ireturn, 1) := by decide +kernel
theorem d_M_key_0 : decode b_M_key 0 = .ok (.aload_n 0, 1) := by decide +kernel
theorem d_M_key_1 : decode b_M_key 1 = .ok (.iconst 0, 1) := by decide +kernel
theorem d_M_key_2 : decode b_M_key 2 = .ok (.putfield 75, 3) := by decide +kernel
theorem d_M_key_5 : decode b_M_key 5 = .ok (.aload_n 0, 1) := by decide +kernel
theorem d_M_key_6 : decode b_M_key 6 = .ok (.getfield 78, 3) := by decide +kernel
theorem d_M_key_9 : decode b_M_key 9 = .ok (.bipush 40, 2) := by decide +kernel
theorem d_M_key_11 : decode b_M_key 11 = .ok (.if_icmp .ne 7, 3) := by decide +kernel
theorem d_M_key_14 : decode b_M_key 14 = .ok (.iconst 1, 1) := by decide +kernel
theorem d_M_key_15 : decode b_M_key 15 = .ok (.goto 4, 3) := by decide +kernel
theorem d_M_key_18 : decode b_M_key 18 = .ok (.iconst 0, 1) := by decide +kernel
theorem d_M_key_19 : decode b_M_key 19 = .ok (.istore_n 2, 1) := by decide +kernel
theorem d_M_key_20 : decode b_M_key 20 = .ok (.iconst 0, 1) := by decide +kernel
theorem d_M_key_21 : decode b_M_key 21 = .ok (.istore_n 3, 1) := by decide +kernel
theorem d_M_key_22 : decode b_M_key 22 = .ok (.iload_n 3, 1) := by decide +kernel
theorem d_M_key_23 : decode b_M_key 23 = .ok (.aload_n 0, 1) := by decide +kernel
theorem d_M_key_24 : decode b_M_key 24 = .ok (.getfield 78, 3) := by decide +kernel
theorem d_M_key_27 : decode b_M_key 27 = .ok (.if_icmp .ge 29, 3) := by decide +kernel
theorem d_M_key_30 : decode b_M_key 30 = .ok (.iload_n 2, 1) := by decide +kernel
theorem d_M_key_31 : decode b_M_key 31 = .ok (.ifCond .ne 13, 3) := by decide +kernel
theorem d_M_key_34 : decode b_M_key 34 = .ok (.aload_n 0, 1) := by decide +kernel
theorem d_M_key_35 : decode b_M_key 35 = .ok (.getfield 7, 3) := by decide +kernel
theorem d_M_key_38 : decode b_M_key 38 = .ok (.iload_n 3, 1) := by decide +kernel
theorem d_M_key_39 : decode b_M_key 39 = .ok (.iaload, 1) := by decide +kernel
theorem d_M_key_40 : decode b_M_key 40 = .ok (.iload_n 1, 1) := by decide +kernel
theorem d_M_key_41 : decode b_M_key 41 = .ok (.if_icmp .ne 7, 3) := by decide +kernel
theorem d_M_key_44 : decode b_M_key 44 = .ok (.iconst 1, 1) := by decide +kernel
theorem d_M_key_45 : decode b_M_key 45 = .ok (.goto 4, 3) := by decide +kernel
theorem d_M_key_48 : decode b_M_key 48 = .ok (.iconst 0, 1) := by decide +kernel
theorem d_M_key_49 : decode b_M_key 49 = .ok (.istore_n 2, 1) := by decide +kernel
theorem d_M_key_50 : decode b_M_key 50 = .ok (.iinc 3 1, 3) := by decide +kernel
theorem d_M_key_53 : decode b_M_key 53 = .ok (.goto (-31), 3) := by decide +kernel
theorem d_M_key_56 : decode b_M_key 56 = .ok (.iload_n 2, 1) := by decide +kernel
theorem d_M_key_57 : decode b_M_key 57 = .ok (.ifCond .eq 5, 3) := by decide +kernel
theorem d_M_key_60 : decode b_M_key 60 = .ok (.iconst (-1), 1) := by decide +kernel
theorem d_M_key_61 : decode b_M_key 61 = .ok (.ireturn, 1) := by decide +kernel
theorem d_M_key_62 : decode b_M_key 62 = .ok (.aload_n 0, 1) := by decide +kernel
theorem d_M_key_63 : decode b_M_key 63 = .ok (.getfield 7, 3) := by decide +kernel
theorem d_M_key_66 : decode b_M_key 66 = .ok (.aload_n 0, 1) := by decide +kernel
theorem d_M_key_67 : decode b_M_key 67 = .ok (.getfield 78, 3) := by decide +kernel
theorem d_M_key_70 : decode b_M_key 70 = .ok (.iload_n 1, 1) := by decide +kernel
theorem d_M_key_71 : decode b_M_key 71 = .ok (.iastore, 1) := by decide +kernel
theorem d_M_key_72 : decode b_M_key 72 = .ok (.aload_n 0, 1) := by decide +kernel
theorem d_M_key_73 : decode b_M_key 73 = .ok (.dup, 1) := by decide +kernel
theorem d_M_key_74 : decode b_M_key 74 = .ok (.getfield 78, 3) := by decide +kernel
theorem d_M_key_77 : decode b_M_key 77 = .ok (.iconst 1, 1) := by decide +kernel
theorem d_M_key_78 : decode b_M_key 78 = .ok (.iadd, 1) := by decide +kernel
theorem d_M_key_79 : decode b_M_key 79 = .ok (.putfield 78, 3) := by decide +kernel
theorem d_M_key_82 : decode b_M_key 82 = .ok (.aload_n 0, 1) := by decide +kernel
theorem d_M_key_83 : decode b_M_key 83 = .ok (.getfield 78, 3) := by decide +kernel
theorem d_M_key_86 : decode b_M_key 86 = .ok (.iconst 1, 1) := by decide +kernel
theorem d_M_key_87 : decode b_M_key 87 = .ok (.isub, 1) := by decide +kernel
theorem d_M_key_88 : decode b_M_key 88 = .ok (.ireturn, 1) := by decide +kernel
theorem d_M_edge_0 : decode b_M_edge 0 = .ok (.aload_n 0, 1) := by decide +kernel
theorem d_M_edge_1 : decode b_M_edge 1 = .ok (.iconst 0, 1) := by decide +kernel
theorem d_M_edge_2 : decode b_M_edge 2 = .ok (.putfield 75, 3) := by decide +kernel
theorem d_M_edge_5 : decode b_M_edge 5 = .ok (.aload_n 0, 1) := by decide +kernel
theorem d_M_edge_6 : decode b_M_edge 6 = .ok (.iload_n 1, 1) := by decide +kernel
theorem d_M_edge_7 : decode b_M_edge 7 = .ok (.invokevirtual 81, 3) := by decide +kernel
theorem d_M_edge_10 : decode b_M_edge 10 = .ok (.ifCond .eq 21, 3) := by decide +kernel
theorem d_M_edge_13 : decode b_M_edge 13 = .ok (.aload_n 0, 1) := by decide +kernel
theorem d_M_edge_14 : decode b_M_edge 14 = .ok (.iload_n 2, 1) := by decide +kernel
theorem d_M_edge_15 : decode b_M_edge 15 = .ok (.invokevirtual 81, 3) := by decide +kernel
theorem d_M_edge_18 : decode b_M_edge 18 = .ok (.ifCond .eq 13, 3) := by decide +kernel
theorem d_M_edge_21 : decode b_M_edge 21 = .ok (.aload_n 0, 1) := by decide +kernel
theorem d_M_edge_22 : decode b_M_edge 22 = .ok (.getfield 85, 3) := by decide +kernel
theorem d_M_edge_25 : decode b_M_edge 25 = .ok (.sipush 160, 3) := by decide +kernel
theorem d_M_edge_28 : decode b_M_edge 28 = .ok (.if_icmp .ne 5, 3) := by decide +kernel
theorem d_M_edge_31 : decode b_M_edge 31 = .ok (.iconst (-1), 1) := by decide +kernel
theorem d_M_edge_32 : decode b_M_edge 32 = .ok (.ireturn, 1) := by decide +kernel
theorem d_M_edge_33 : decode b_M_edge 33 = .ok (.aload_n 0, 1) := by decide +kernel
theorem d_M_edge_34 : decode b_M_edge 34 = .ok (.getfield 13, 3) := by decide +kernel
theorem d_M_edge_37 : decode b_M_edge 37 = .ok (.aload_n 0, 1) := by decide +kernel
theorem d_M_edge_38 : decode b_M_edge 38 = .ok (.getfield 85, 3) := by decide +kernel
theorem d_M_edge_41 : decode b_M_edge 41 = .ok (.iload_n 1, 1) := by decide +kernel
theorem d_M_edge_42 : decode b_M_edge 42 = .ok (.iastore, 1) := by decide +kernel
theorem d_M_edge_43 : decode b_M_edge 43 = .ok (.aload_n 0, 1) := by decide +kernel
theorem d_M_edge_44 : decode b_M_edge 44 = .ok (.getfield 16, 3) := by decide +kernel
theorem d_M_edge_47 : decode b_M_edge 47 = .ok (.aload_n 0, 1) := by decide +kernel
theorem d_M_edge_48 : decode b_M_edge 48 = .ok (.getfield 85, 3) := by decide +kernel
theorem d_M_edge_51 : decode b_M_edge 51 = .ok (.iload_n 2, 1) := by decide +kernel
theorem d_M_edge_52 : decode b_M_edge 52 = .ok (.iastore, 1) := by decide +kernel
theorem d_M_edge_53 : decode b_M_edge 53 = .ok (.aload_n 0, 1) := by decide +kernel
theorem d_M_edge_54 : decode b_M_edge 54 = .ok (.getfield 19, 3) := by decide +kernel
theorem d_M_edge_57 : decode b_M_edge 57 = .ok (.aload_n 0, 1) := by decide +kernel
theorem d_M_edge_58 : decode b_M_edge 58 = .ok (.getfield 85, 3) := by decide +kernel
theorem d_M_edge_61 : decode b_M_edge 61 = .ok (.iload_n 3, 1) := by decide +kernel
theorem d_M_edge_62 : decode b_M_edge 62 = .ok (.iastore, 1) := by decide +kernel
theorem d_M_edge_63 : decode b_M_edge 63 = .ok (.aload_n 0, 1) := by decide +kernel
theorem d_M_edge_64 : decode b_M_edge 64 = .ok (.getfield 22, 3) := by decide +kernel
theorem d_M_edge_67 : decode b_M_edge 67 = .ok (.aload_n 0, 1) := by decide +kernel
theorem d_M_edge_68 : decode b_M_edge 68 = .ok (.getfield 85, 3) := by decide +kernel
theorem d_M_edge_71 : decode b_M_edge 71 = .ok (.iload 4, 2) := by decide +kernel
theorem d_M_edge_73 : decode b_M_edge 73 = .ok (.iastore, 1) := by decide +kernel
theorem d_M_edge_74 : decode b_M_edge 74 = .ok (.aload_n 0, 1) := by decide +kernel
theorem d_M_edge_75 : decode b_M_edge 75 = .ok (.dup, 1) := by decide +kernel
theorem d_M_edge_76 : decode b_M_edge 76 = .ok (.getfield 85, 3) := by decide +kernel
theorem d_M_edge_79 : decode b_M_edge 79 = .ok (.iconst 1, 1) := by decide +kernel
theorem d_M_edge_80 : decode b_M_edge 80 = .ok (.iadd, 1) := by decide +kernel
theorem d_M_edge_81 : decode b_M_edge 81 = .ok (.putfield 85, 3) := by decide +kernel
theorem d_M_edge_84 : decode b_M_edge 84 = .ok (.aload_n 0, 1) := by decide +kernel
theorem d_M_edge_85 : decode b_M_edge 85 = .ok (.getfield 85, 3) := by decide +kernel
theorem d_M_edge_88 : decode b_M_edge 88 = .ok (.iconst 1, 1) := by decide +kernel
theorem d_M_edge_89 : decode b_M_edge 89 = .ok (.isub, 1) := by decide +kernel
theorem d_M_edge_90 : decode b_M_edge 90 = .ok (.ireturn, 1) := by decide +kernel
theorem d_M_remove_0 : decode b_M_remove 0 = .ok (.aload_n 0, 1) := by decide +kernel
theorem d_M_remove_1 : decode b_M_remove 1 = .ok (.iconst 0, 1) := by decide +kernel
theorem d_M_remove_2 : decode b_M_remove 2 = .ok (.putfield 75, 3) := by decide +kernel
theorem d_M_remove_5 : decode b_M_remove 5 = .ok (.iconst 0, 1) := by decide +kernel
theorem d_M_remove_6 : decode b_M_remove 6 = .ok (.istore_n 3, 1) := by decide +kernel
theorem d_M_remove_7 : decode b_M_remove 7 = .ok (.iconst 0, 1) := by decide +kernel
theorem d_M_remove_8 : decode b_M_remove 8 = .ok (.istore 4, 2) := by decide +kernel
theorem d_M_remove_10 : decode b_M_remove 10 = .ok (.iload 4, 2) := by decide +kernel
theorem d_M_remove_12 : decode b_M_remove 12 = .ok (.aload_n 0, 1) := by decide +kernel
theorem d_M_remove_13 : decode b_M_remove 13 = .ok (.getfield 85, 3) := by decide +kernel
theorem d_M_remove_16 : decode b_M_remove 16 = .ok (.if_icmp .ge 55, 3) := by decide +kernel
theorem d_M_remove_19 : decode b_M_remove 19 = .ok (.aload_n 0, 1) := by decide +kernel
theorem d_M_remove_20 : decode b_M_remove 20 = .ok (.getfield 25, 3) := by decide +kernel
theorem d_M_remove_23 : decode b_M_remove 23 = .ok (.iload 4, 2) := by decide +kernel
theorem d_M_remove_25 : decode b_M_remove 25 = .ok (.baload, 1) := by decide +kernel
theorem d_M_remove_26 : decode b_M_remove 26 = .ok (.ifCond .ne 39, 3) := by decide +kernel
theorem d_M_remove_29 : decode b_M_remove 29 = .ok (.aload_n 0, 1) := by decide +kernel
theorem d_M_remove_30 : decode b_M_remove 30 = .ok (.getfield 13, 3) := by decide +kernel
theorem d_M_remove_33 : decode b_M_remove 33 = .ok (.iload 4, 2) := by decide +kernel
theorem d_M_remove_35 : decode b_M_remove 35 = .ok (.iaload, 1) := by decide +kernel
theorem d_M_remove_36 : decode b_M_remove 36 = .ok (.iload_n 1, 1) := by decide +kernel
theorem d_M_remove_37 : decode b_M_remove 37 = .ok (.if_icmp .ne 28, 3) := by decide +kernel
theorem d_M_remove_40 : decode b_M_remove 40 = .ok (.aload_n 0, 1) := by decide +kernel
theorem d_M_remove_41 : decode b_M_remove 41 = .ok (.getfield 16, 3) := by decide +kernel
theorem d_M_remove_44 : decode b_M_remove 44 = .ok (.iload 4, 2) := by decide +kernel
theorem d_M_remove_46 : decode b_M_remove 46 = .ok (.iaload, 1) := by decide +kernel
theorem d_M_remove_47 : decode b_M_remove 47 = .ok (.iload_n 2, 1) := by decide +kernel
theorem d_M_remove_48 : decode b_M_remove 48 = .ok (.if_icmp .eq 6, 3) := by decide +kernel
theorem d_M_remove_51 : decode b_M_remove 51 = .ok (.goto 14, 3) := by decide +kernel
theorem d_M_remove_54 : decode b_M_remove 54 = .ok (.aload_n 0, 1) := by decide +kernel
theorem d_M_remove_55 : decode b_M_remove 55 = .ok (.getfield 25, 3) := by decide +kernel
theorem d_M_remove_58 : decode b_M_remove 58 = .ok (.iload 4, 2) := by decide +kernel
theorem d_M_remove_60 : decode b_M_remove 60 = .ok (.iconst 1, 1) := by decide +kernel
theorem d_M_remove_61 : decode b_M_remove 61 = .ok (.bastore, 1) := by decide +kernel
theorem d_M_remove_62 : decode b_M_remove 62 = .ok (.iinc 3 1, 3) := by decide +kernel
theorem d_M_remove_65 : decode b_M_remove 65 = .ok (.iinc 4 1, 3) := by decide +kernel
theorem d_M_remove_68 : decode b_M_remove 68 = .ok (.goto (-58), 3) := by decide +kernel
theorem d_M_remove_71 : decode b_M_remove 71 = .ok (.iload_n 3, 1) := by decide +kernel
theorem d_M_remove_72 : decode b_M_remove 72 = .ok (.ireturn, 1) := by decide +kernel
theorem d_M_cut_0 : decode b_M_cut 0 = .ok (.aload_n 0, 1) := by decide +kernel
theorem d_M_cut_1 : decode b_M_cut 1 = .ok (.iconst 0, 1) := by decide +kernel
theorem d_M_cut_2 : decode b_M_cut 2 = .ok (.putfield 75, 3) := by decide +kernel
theorem d_M_cut_5 : decode b_M_cut 5 = .ok (.iload_n 1, 1) := by decide +kernel
theorem d_M_cut_6 : decode b_M_cut 6 = .ok (.ifCond .lt 20, 3) := by decide +kernel
theorem d_M_cut_9 : decode b_M_cut 9 = .ok (.iload_n 1, 1) := by decide +kernel
theorem d_M_cut_10 : decode b_M_cut 10 = .ok (.aload_n 0, 1) := by decide +kernel
theorem d_M_cut_11 : decode b_M_cut 11 = .ok (.getfield 85, 3) := by decide +kernel
theorem d_M_cut_14 : decode b_M_cut 14 = .ok (.if_icmp .ge 12, 3) := by decide +kernel
theorem d_M_cut_17 : decode b_M_cut 17 = .ok (.aload_n 0, 1) := by decide +kernel
theorem d_M_cut_18 : decode b_M_cut 18 = .ok (.getfield 25, 3) := by decide +kernel
theorem d_M_cut_21 : decode b_M_cut 21 = .ok (.iload_n 1, 1) := by decide +kernel
theorem d_M_cut_22 : decode b_M_cut 22 = .ok (.baload, 1) := by decide +kernel
theorem d_M_cut_23 : decode b_M_cut 23 = .ok (.ifCond .eq 5, 3) := by decide +kernel
theorem d_M_cut_26 : decode b_M_cut 26 = .ok (.iconst 0, 1) := by decide +kernel
theorem d_M_cut_27 : decode b_M_cut 27 = .ok (.ireturn, 1) := by decide +kernel
theorem d_M_cut_28 : decode b_M_cut 28 = .ok (.aload_n 0, 1) := by decide +kernel
theorem d_M_cut_29 : decode b_M_cut 29 = .ok (.getfield 25, 3) := by decide +kernel
theorem d_M_cut_32 : decode b_M_cut 32 = .ok (.iload_n 1, 1) := by decide +kernel
theorem d_M_cut_33 : decode b_M_cut 33 = .ok (.iconst 1, 1) := by decide +kernel
theorem d_M_cut_34 : decode b_M_cut 34 = .ok (.bastore, 1) := by decide +kernel
theorem d_M_cut_35 : decode b_M_cut 35 = .ok (.iconst 1, 1) := by decide +kernel
theorem d_M_cut_36 : decode b_M_cut 36 = .ok (.ireturn, 1) := by decide +kernel
theorem d_M_isThen_0 : decode b_M_isThen 0 = .ok (.aload_n 0, 1) := by decide +kernel
theorem d_M_isThen_1 : decode b_M_isThen 1 = .ok (.getfield 33, 3) := by decide +kernel
theorem d_M_isThen_4 : decode b_M_isThen 4 = .ok (.iload_n 1, 1) := by decide +kernel
theorem d_M_isThen_5 : decode b_M_isThen 5 = .ok (.baload, 1) := by decide +kernel
theorem d_M_isThen_6 : decode b_M_isThen 6 = .ok (.ifCond .ne 21, 3) := by decide +kernel
theorem d_M_isThen_9 : decode b_M_isThen 9 = .ok (.aload_n 0, 1) := by decide +kernel
theorem d_M_isThen_10 : decode b_M_isThen 10 = .ok (.getfield 22, 3) := by decide +kernel
theorem d_M_isThen_13 : decode b_M_isThen 13 = .ok (.iload_n 1, 1) := by decide +kernel
theorem d_M_isThen_14 : decode b_M_isThen 14 = .ok (.iaload, 1) := by decide +kernel
theorem d_M_isThen_15 : decode b_M_isThen 15 = .ok (.iload_n 2, 1) := by decide +kernel
theorem d_M_isThen_16 : decode b_M_isThen 16 = .ok (.ishr, 1) := by decide +kernel
theorem d_M_isThen_17 : decode b_M_isThen 17 = .ok (.iconst 1, 1) := by decide +kernel
theorem d_M_isThen_18 : decode b_M_isThen 18 = .ok (.iand, 1) := by decide +kernel
theorem d_M_isThen_19 : decode b_M_isThen 19 = .ok (.iconst 1, 1) := by decide +kernel
theorem d_M_isThen_20 : decode b_M_isThen 20 = .ok (.if_icmp .ne 7, 3) := by decide +kernel
theorem d_M_isThen_23 : decode b_M_isThen 23 = .ok (.iconst 1, 1) := by decide +kernel
theorem d_M_isThen_24 : decode b_M_isThen 24 = .ok (.goto 4, 3) := by decide +kernel
theorem d_M_isThen_27 : decode b_M_isThen 27 = .ok (.iconst 0, 1) := by decide +kernel
theorem d_M_isThen_28 : decode b_M_isThen 28 = .ok (.ireturn, 1) := by decide +kernel
theorem d_M_sort_0 : decode b_M_sort 0 = .ok (.iconst 0, 1) := by decide +kernel
theorem d_M_sort_1 : decode b_M_sort 1 = .ok (.istore_n 1, 1) := by decide +kernel
theorem d_M_sort_2 : decode b_M_sort 2 = .ok (.iload_n 1, 1) := by decide +kernel
theorem d_M_sort_3 : decode b_M_sort 3 = .ok (.aload_n 0, 1) := by decide +kernel
theorem d_M_sort_4 : decode b_M_sort 4 = .ok (.getfield 78, 3) := by decide +kernel
theorem d_M_sort_7 : decode b_M_sort 7 = .ok (.if_icmp .ge 64, 3) := by decide +kernel
theorem d_M_sort_10 : decode b_M_sort 10 = .ok (.iconst 0, 1) := by decide +kernel
theorem d_M_sort_11 : decode b_M_sort 11 = .ok (.istore_n 2, 1) := by decide +kernel
theorem d_M_sort_12 : decode b_M_sort 12 = .ok (.iconst 0, 1) := by decide +kernel
theorem d_M_sort_13 : decode b_M_sort 13 = .ok (.istore_n 3, 1) := by decide +kernel
theorem d_M_sort_14 : decode b_M_sort 14 = .ok (.iload_n 3, 1) := by decide +kernel
theorem d_M_sort_15 : decode b_M_sort 15 = .ok (.aload_n 0, 1) := by decide +kernel
theorem d_M_sort_16 : decode b_M_sort 16 = .ok (.getfield 78, 3) := by decide +kernel
theorem d_M_sort_19 : decode b_M_sort 19 = .ok (.if_icmp .ge 32, 3) := by decide +kernel
theorem d_M_sort_22 : decode b_M_sort 22 = .ok (.iload_n 2, 1) := by decide +kernel
theorem d_M_sort_23 : decode b_M_sort 23 = .ok (.aload_n 0, 1) := by decide +kernel
theorem d_M_sort_24 : decode b_M_sort 24 = .ok (.getfield 7, 3) := by decide +kernel
theorem d_M_sort_27 : decode b_M_sort 27 = .ok (.iload_n 3, 1) := by decide +kernel
theorem d_M_sort_28 : decode b_M_sort 28 = .ok (.iaload, 1) := by decide +kernel
theorem d_M_sort_29 : decode b_M_sort 29 = .ok (.aload_n 0, 1) := by decide +kernel
theorem d_M_sort_30 : decode b_M_sort 30 = .ok (.getfield 7, 3) := by decide +kernel
theorem d_M_sort_33 : decode b_M_sort 33 = .ok (.iload_n 1, 1) := by decide +kernel
theorem d_M_sort_34 : decode b_M_sort 34 = .ok (.iaload, 1) := by decide +kernel
theorem d_M_sort_35 : decode b_M_sort 35 = .ok (.if_icmp .ge 7, 3) := by decide +kernel
theorem d_M_sort_38 : decode b_M_sort 38 = .ok (.iconst 1, 1) := by decide +kernel
theorem d_M_sort_39 : decode b_M_sort 39 = .ok (.goto 4, 3) := by decide +kernel
theorem d_M_sort_42 : decode b_M_sort 42 = .ok (.iconst 0, 1) := by decide +kernel
theorem d_M_sort_43 : decode b_M_sort 43 = .ok (.iadd, 1) := by decide +kernel
theorem d_M_sort_44 : decode b_M_sort 44 = .ok (.istore_n 2, 1) := by decide +kernel
theorem d_M_sort_45 : decode b_M_sort 45 = .ok (.iinc 3 1, 3) := by decide +kernel
theorem d_M_sort_48 : decode b_M_sort 48 = .ok (.goto (-34), 3) := by decide +kernel
theorem d_M_sort_51 : decode b_M_sort 51 = .ok (.aload_n 0, 1) := by decide +kernel
theorem d_M_sort_52 : decode b_M_sort 52 = .ok (.getfield 36, 3) := by decide +kernel
theorem d_M_sort_55 : decode b_M_sort 55 = .ok (.iload_n 2, 1) := by decide +kernel
theorem d_M_sort_56 : decode b_M_sort 56 = .ok (.iload_n 1, 1) := by decide +kernel
theorem d_M_sort_57 : decode b_M_sort 57 = .ok (.iastore, 1) := by decide +kernel
theorem d_M_sort_58 : decode b_M_sort 58 = .ok (.aload_n 0, 1) := by decide +kernel
theorem d_M_sort_59 : decode b_M_sort 59 = .ok (.getfield 39, 3) := by decide +kernel
theorem d_M_sort_62 : decode b_M_sort 62 = .ok (.iload_n 1, 1) := by decide +kernel
theorem d_M_sort_63 : decode b_M_sort 63 = .ok (.iload_n 2, 1) := by decide +kernel
theorem d_M_sort_64 : decode b_M_sort 64 = .ok (.iastore, 1) := by decide +kernel
theorem d_M_sort_65 : decode b_M_sort 65 = .ok (.iinc 1 1, 3) := by decide +kernel
theorem d_M_sort_68 : decode b_M_sort 68 = .ok (.goto (-66), 3) := by decide +kernel
theorem d_M_sort_71 : decode b_M_sort 71 = .ok (.return_, 1) := by decide +kernel
theorem d_M_cell_0 : decode b_M_cell 0 = .ok (.bipush 40, 2) := by decide +kernel
theorem d_M_cell_2 : decode b_M_cell 2 = .ok (.iload_n 0, 1) := by decide +kernel
theorem d_M_cell_3 : decode b_M_cell 3 = .ok (.imul, 1) := by decide +kernel
theorem d_M_cell_4 : decode b_M_cell 4 = .ok (.iload_n 1, 1) := by decide +kernel
theorem d_M_cell_5 : decode b_M_cell 5 = .ok (.iadd, 1) := by decide +kernel
theorem d_M_cell_6 : decode b_M_cell 6 = .ok (.ireturn, 1) := by decide +kernel
theorem d_M_close_0 : decode b_M_close 0 = .ok (.iconst 0, 1) := by decide +kernel
theorem d_M_close_1 : decode b_M_close 1 = .ok (.istore_n 1, 1) := by decide +kernel
theorem d_M_close_2 : decode b_M_close 2 = .ok (.iload_n 1, 1) := by decide +kernel
theorem d_M_close_3 : decode b_M_close 3 = .ok (.sipush 1600, 3) := by decide +kernel
theorem d_M_close_6 : decode b_M_close 6 = .ok (.if_icmp .ge 25, 3) := by decide +kernel
theorem d_M_close_9 : decode b_M_close 9 = .ok (.aload_n 0, 1) := by decide +kernel
theorem d_M_close_10 : decode b_M_close 10 = .ok (.getfield 48, 3) := by decide +kernel
theorem d_M_close_13 : decode b_M_close 13 = .ok (.iload_n 1, 1) := by decide +kernel
theorem d_M_close_14 : decode b_M_close 14 = .ok (.iconst 0, 1) := by decide +kernel
theorem d_M_close_15 : decode b_M_close 15 = .ok (.bastore, 1) := by decide +kernel
theorem d_M_close_16 : decode b_M_close 16 = .ok (.aload_n 0, 1) := by decide +kernel
theorem d_M_close_17 : decode b_M_close 17 = .ok (.getfield 54, 3) := by decide +kernel
theorem d_M_close_20 : decode b_M_close 20 = .ok (.iload_n 1, 1) := by decide +kernel
theorem d_M_close_21 : decode b_M_close 21 = .ok (.sipush 1000, 3) := by decide +kernel
theorem d_M_close_24 : decode b_M_close 24 = .ok (.iastore, 1) := by decide +kernel
theorem d_M_close_25 : decode b_M_close 25 = .ok (.iinc 1 1, 3) := by decide +kernel
theorem d_M_close_28 : decode b_M_close 28 = .ok (.goto (-26), 3) := by decide +kernel
theorem d_M_close_31 : decode b_M_close 31 = .ok (.iconst 0, 1) := by decide +kernel
theorem d_M_close_32 : decode b_M_close 32 = .ok (.istore_n 1, 1) := by decide +kernel
theorem d_M_close_33 : decode b_M_close 33 = .ok (.iload_n 1, 1) := by decide +kernel
theorem d_M_close_34 : decode b_M_close 34 = .ok (.aload_n 0, 1) := by decide +kernel
theorem d_M_close_35 : decode b_M_close 35 = .ok (.getfield 88, 3) := by decide +kernel
theorem d_M_close_38 : decode b_M_close 38 = .ok (.if_icmp .ge 86, 3) := by decide +kernel
theorem d_M_close_41 : decode b_M_close 41 = .ok (.aload_n 0, 1) := by decide +kernel
theorem d_M_close_42 : decode b_M_close 42 = .ok (.iload_n 1, 1) := by decide +kernel
theorem d_M_close_43 : decode b_M_close 43 = .ok (.aload_n 0, 1) := by decide +kernel
theorem d_M_close_44 : decode b_M_close 44 = .ok (.getfield 29, 3) := by decide +kernel
theorem d_M_close_47 : decode b_M_close 47 = .ok (.invokevirtual 91, 3) := by decide +kernel
theorem d_M_close_50 : decode b_M_close 50 = .ok (.ifCond .ne 6, 3) := by decide +kernel
theorem d_M_close_53 : decode b_M_close 53 = .ok (.goto 65, 3) := by decide +kernel
theorem d_M_close_56 : decode b_M_close 56 = .ok (.aload_n 0, 1) := by decide +kernel
theorem d_M_close_57 : decode b_M_close 57 = .ok (.getfield 48, 3) := by decide +kernel
theorem d_M_close_60 : decode b_M_close 60 = .ok (.aload_n 0, 1) := by decide +kernel
theorem d_M_close_61 : decode b_M_close 61 = .ok (.getfield 39, 3) := by decide +kernel
theorem d_M_close_64 : decode b_M_close 64 = .ok (.aload_n 0, 1) := by decide +kernel
theorem d_M_close_65 : decode b_M_close 65 = .ok (.getfield 13, 3) := by decide +kernel
theorem d_M_close_68 : decode b_M_close 68 = .ok (.iload_n 1, 1) := by decide +kernel
theorem d_M_close_69 : decode b_M_close 69 = .ok (.iaload, 1) := by decide +kernel
theorem d_M_close_70 : decode b_M_close 70 = .ok (.iaload, 1) := by decide +kernel
theorem d_M_close_71 : decode b_M_close 71 = .ok (.aload_n 0, 1) := by decide +kernel
theorem d_M_close_72 : decode b_M_close 72 = .ok (.getfield 39, 3) := by decide +kernel
theorem d_M_close_75 : decode b_M_close 75 = .ok (.aload_n 0, 1) := by decide +kernel
theorem d_M_close_76 : decode b_M_close 76 = .ok (.getfield 16, 3) := by decide +kernel
theorem d_M_close_79 : decode b_M_close 79 = .ok (.iload_n 1, 1) := by decide +kernel
theorem d_M_close_80 : decode b_M_close 80 = .ok (.iaload, 1) := by decide +kernel
theorem d_M_close_81 : decode b_M_close 81 = .ok (.iaload, 1) := by decide +kernel
theorem d_M_close_82 : decode b_M_close 82 = .ok (.invokestatic 95, 3) := by decide +kernel
theorem d_M_close_85 : decode b_M_close 85 = .ok (.iconst 1, 1) := by decide +kernel
theorem d_M_close_86 : decode b_M_close 86 = .ok (.bastore, 1) := by decide +kernel
theorem d_M_close_87 : decode b_M_close 87 = .ok (.aload_n 0, 1) := by decide +kernel
theorem d_M_close_88 : decode b_M_close 88 = .ok (.getfield 54, 3) := by decide +kernel
theorem d_M_close_91 : decode b_M_close 91 = .ok (.aload_n 0, 1) := by decide +kernel
theorem d_M_close_92 : decode b_M_close 92 = .ok (.getfield 39, 3) := by decide +kernel
theorem d_M_close_95 : decode b_M_close 95 = .ok (.aload_n 0, 1) := by decide +kernel
theorem d_M_close_96 : decode b_M_close 96 = .ok (.getfield 13, 3) := by decide +kernel
theorem d_M_close_99 : decode b_M_close 99 = .ok (.iload_n 1, 1) := by decide +kernel
theorem d_M_close_100 : decode b_M_close 100 = .ok (.iaload, 1) := by decide +kernel
theorem d_M_close_101 : decode b_M_close 101 = .ok (.iaload, 1) := by decide +kernel
theorem d_M_close_102 : decode b_M_close 102 = .ok (.aload_n 0, 1) := by decide +kernel
theorem d_M_close_103 : decode b_M_close 103 = .ok (.getfield 39, 3) := by decide +kernel
theorem d_M_close_106 : decode b_M_close 106 = .ok (.aload_n 0, 1) := by decide +kernel
theorem d_M_close_107 : decode b_M_close 107 = .ok (.getfield 16, 3) := by decide +kernel
theorem d_M_close_110 : decode b_M_close 110 = .ok (.iload_n 1, 1) := by decide +kernel
theorem d_M_close_111 : decode b_M_close 111 = .ok (.iaload, 1) := by decide +kernel
theorem d_M_close_112 : decode b_M_close 112 = .ok (.iaload, 1) := by decide +kernel
theorem d_M_close_113 : decode b_M_close 113 = .ok (.invokestatic 95, 3) := by decide +kernel
theorem d_M_close_116 : decode b_M_close 116 = .ok (.iconst 1, 1) := by decide +kernel
theorem d_M_close_117 : decode b_M_close 117 = .ok (.iastore, 1) := by decide +kernel
theorem d_M_close_118 : decode b_M_close 118 = .ok (.iinc 1 1, 3) := by decide +kernel
theorem d_M_close_121 : decode b_M_close 121 = .ok (.goto (-88), 3) := by decide +kernel
theorem d_M_close_124 : decode b_M_close 124 = .ok (.iconst 0, 1) := by decide +kernel
theorem d_M_close_125 : decode b_M_close 125 = .ok (.istore_n 1, 1) := by decide +kernel
theorem d_M_close_126 : decode b_M_close 126 = .ok (.iload_n 1, 1) := by decide +kernel
theorem d_M_close_127 : decode b_M_close 127 = .ok (.aload_n 0, 1) := by decide +kernel
theorem d_M_close_128 : decode b_M_close 128 = .ok (.getfield 99, 3) := by decide +kernel
theorem d_M_close_131 : decode b_M_close 131 = .ok (.if_icmp .ge 91, 3) := by decide +kernel
theorem d_M_close_134 : decode b_M_close 134 = .ok (.iconst 0, 1) := by decide +kernel
theorem d_M_close_135 : decode b_M_close 135 = .ok (.istore_n 2, 1) := by decide +kernel
theorem d_M_close_136 : decode b_M_close 136 = .ok (.iload_n 2, 1) := by decide +kernel
theorem d_M_close_137 : decode b_M_close 137 = .ok (.aload_n 0, 1) := by decide +kernel
theorem d_M_close_138 : decode b_M_close 138 = .ok (.getfield 99, 3) := by decide +kernel
theorem d_M_close_141 : decode b_M_close 141 = .ok (.if_icmp .ge 75, 3) := by decide +kernel
theorem d_M_close_144 : decode b_M_close 144 = .ok (.iconst 0, 1) := by decide +kernel
theorem d_M_close_145 : decode b_M_close 145 = .ok (.istore_n 3, 1) := by decide +kernel
theorem d_M_close_146 : decode b_M_close 146 = .ok (.iload_n 3, 1) := by decide +kernel
theorem d_M_close_147 : decode b_M_close 147 = .ok (.aload_n 0, 1) := by decide +kernel
theorem d_M_close_148 : decode b_M_close 148 = .ok (.getfield 99, 3) := by decide +kernel
theorem d_M_close_151 : decode b_M_close 151 = .ok (.if_icmp .ge 59, 3) := by decide +kernel
theorem d_M_close_154 : decode b_M_close 154 = .ok (.aload_n 0, 1) := by decide +kernel
theorem d_M_close_155 : decode b_M_close 155 = .ok (.getfield 54, 3) := by decide +kernel
theorem d_M_close_158 : decode b_M_close 158 = .ok (.iload_n 2, 1) := by decide +kernel
theorem d_M_close_159 : decode b_M_close 159 = .ok (.iload_n 1, 1) := by decide +kernel
theorem d_M_close_160 : decode b_M_close 160 = .ok (.invokestatic 95, 3) := by decide +kernel
theorem d_M_close_163 : decode b_M_close 163 = .ok (.iaload, 1) := by decide +kernel
theorem d_M_close_164 : decode b_M_close 164 = .ok (.aload_n 0, 1) := by decide +kernel
theorem d_M_close_165 : decode b_M_close 165 = .ok (.getfield 54, 3) := by decide +kernel
theorem d_M_close_168 : decode b_M_close 168 = .ok (.iload_n 1, 1) := by decide +kernel
theorem d_M_close_169 : decode b_M_close 169 = .ok (.iload_n 3, 1) := by decide +kernel
theorem d_M_close_170 : decode b_M_close 170 = .ok (.invokestatic 95, 3) := by decide +kernel
theorem d_M_close_173 : decode b_M_close 173 = .ok (.iaload, 1) := by decide +kernel
theorem d_M_close_174 : decode b_M_close 174 = .ok (.iadd, 1) := by decide +kernel
theorem d_M_close_175 : decode b_M_close 175 = .ok (.istore 4, 2) := by decide +kernel
theorem d_M_close_177 : decode b_M_close 177 = .ok (.iload 4, 2) := by decide +kernel
theorem d_M_close_179 : decode b_M_close 179 = .ok (.aload_n 0, 1) := by decide +kernel
theorem d_M_close_180 : decode b_M_close 180 = .ok (.getfield 54, 3) := by decide +kernel
theorem d_M_close_183 : decode b_M_close 183 = .ok (.iload_n 2, 1) := by decide +kernel
theorem d_M_close_184 : decode b_M_close 184 = .ok (.iload_n 3, 1) := by decide +kernel
theorem d_M_close_185 : decode b_M_close 185 = .ok (.invokestatic 95, 3) := by decide +kernel
theorem d_M_close_188 : decode b_M_close 188 = .ok (.iaload, 1) := by decide +kernel
theorem d_M_close_189 : decode b_M_close 189 = .ok (.if_icmp .ge 15, 3) := by decide +kernel
theorem d_M_close_192 : decode b_M_close 192 = .ok (.aload_n 0, 1) := by decide +kernel
theorem d_M_close_193 : decode b_M_close 193 = .ok (.getfield 54, 3) := by decide +kernel
theorem d_M_close_196 : decode b_M_close 196 = .ok (.iload_n 2, 1) := by decide +kernel
theorem d_M_close_197 : decode b_M_close 197 = .ok (.iload_n 3, 1) := by decide +kernel
theorem d_M_close_198 : decode b_M_close 198 = .ok (.invokestatic 95, 3) := by decide +kernel
theorem d_M_close_201 : decode b_M_close 201 = .ok (.iload 4, 2) := by decide +kernel
theorem d_M_close_203 : decode b_M_close 203 = .ok (.iastore, 1) := by decide +kernel
theorem d_M_close_204 : decode b_M_close 204 = .ok (.iinc 3 1, 3) := by decide +kernel
theorem d_M_close_207 : decode b_M_close 207 = .ok (.goto (-61), 3) := by decide +kernel
theorem d_M_close_210 : decode b_M_close 210 = .ok (.iinc 2 1, 3) := by decide +kernel
theorem d_M_close_213 : decode b_M_close 213 = .ok (.goto (-77), 3) := by decide +kernel
theorem d_M_close_216 : decode b_M_close 216 = .ok (.iinc 1 1, 3) := by decide +kernel
theorem d_M_close_219 : decode b_M_close 219 = .ok (.goto (-93), 3) := by decide +kernel
theorem d_M_close_222 : decode b_M_close 222 = .ok (.iconst 0, 1) := by decide +kernel
theorem d_M_close_223 : decode b_M_close 223 = .ok (.istore_n 1, 1) := by decide +kernel
theorem d_M_close_224 : decode b_M_close 224 = .ok (.iload_n 1, 1) := by decide +kernel
theorem d_M_close_225 : decode b_M_close 225 = .ok (.sipush 1600, 3) := by decide +kernel
theorem d_M_close_228 : decode b_M_close 228 = .ok (.if_icmp .ge 32, 3) := by decide +kernel
theorem d_M_close_231 : decode b_M_close 231 = .ok (.aload_n 0, 1) := by decide +kernel
theorem d_M_close_232 : decode b_M_close 232 = .ok (.getfield 51, 3) := by decide +kernel
theorem d_M_close_235 : decode b_M_close 235 = .ok (.iload_n 1, 1) := by decide +kernel
theorem d_M_close_236 : decode b_M_close 236 = .ok (.aload_n 0, 1) := by decide +kernel
theorem d_M_close_237 : decode b_M_close 237 = .ok (.getfield 54, 3) := by decide +kernel
theorem d_M_close_240 : decode b_M_close 240 = .ok (.iload_n 1, 1) := by decide +kernel
theorem d_M_close_241 : decode b_M_close 241 = .ok (.iaload, 1) := by decide +kernel
theorem d_M_close_242 : decode b_M_close 242 = .ok (.sipush 1000, 3) := by decide +kernel
theorem d_M_close_245 : decode b_M_close 245 = .ok (.if_icmp .ge 7, 3) := by decide +kernel
theorem d_M_close_248 : decode b_M_close 248 = .ok (.iconst 1, 1) := by decide +kernel
theorem d_M_close_249 : decode b_M_close 249 = .ok (.goto 4, 3) := by decide +kernel
theorem d_M_close_252 : decode b_M_close 252 = .ok (.iconst 0, 1) := by decide +kernel
theorem d_M_close_253 : decode b_M_close 253 = .ok (.bastore, 1) := by decide +kernel
theorem d_M_close_254 : decode b_M_close 254 = .ok (.iinc 1 1, 3) := by decide +kernel
theorem d_M_close_257 : decode b_M_close 257 = .ok (.goto (-33), 3) := by decide +kernel
theorem d_M_close_260 : decode b_M_close 260 = .ok (.return_, 1) := by decide +kernel
theorem d_M_isTogether_0 : decode b_M_isTogether 0 = .ok (.iload_n 1, 1) := by decide +kernel
theorem d_M_isTogether_1 : decode b_M_isTogether 1 = .ok (.iload_n 2, 1) := by decide +kernel
theorem d_M_isTogether_2 : decode b_M_isTogether 2 = .ok (.if_icmp .eq 29, 3) := by decide +kernel
theorem d_M_isTogether_5 : decode b_M_isTogether 5 = .ok (.aload_n 0, 1) := by decide +kernel
theorem d_M_isTogether_6 : decode b_M_isTogether 6 = .ok (.getfield 51, 3) := by decide +kernel
theorem d_M_isTogether_9 : decode b_M_isTogether 9 = .ok (.iload_n 1, 1) := by decide +kernel
theorem d_M_isTogether_10 : decode b_M_isTogether 10 = .ok (.iload_n 2, 1) := by decide +kernel
theorem d_M_isTogether_11 : decode b_M_isTogether 11 = .ok (.invokestatic 95, 3) := by decide +kernel
theorem d_M_isTogether_14 : decode b_M_isTogether 14 = .ok (.baload, 1) := by decide +kernel
theorem d_M_isTogether_15 : decode b_M_isTogether 15 = .ok (.ifCond .eq 20, 3) := by decide +kernel
theorem d_M_isTogether_18 : decode b_M_isTogether 18 = .ok (.aload_n 0, 1) := by decide +kernel
theorem d_M_isTogether_19 : decode b_M_isTogether 19 = .ok (.getfield 51, 3) := by decide +kernel
theorem d_M_isTogether_22 : decode b_M_isTogether 22 = .ok (.iload_n 2, 1) := by decide +kernel
theorem d_M_isTogether_23 : decode b_M_isTogether 23 = .ok (.iload_n 1, 1) := by decide +kernel
theorem d_M_isTogether_24 : decode b_M_isTogether 24 = .ok (.invokestatic 95, 3) := by decide +kernel
theorem d_M_isTogether_27 : decode b_M_isTogether 27 = .ok (.baload, 1) := by decide +kernel
theorem d_M_isTogether_28 : decode b_M_isTogether 28 = .ok (.ifCond .eq 7, 3) := by decide +kernel
theorem d_M_isTogether_31 : decode b_M_isTogether 31 = .ok (.iconst 1, 1) := by decide +kernel
theorem d_M_isTogether_32 : decode b_M_isTogether 32 = .ok (.goto 4, 3) := by decide +kernel
theorem d_M_isTogether_35 : decode b_M_isTogether 35 = .ok (.iconst 0, 1) := by decide +kernel
theorem d_M_isTogether_36 : decode b_M_isTogether 36 = .ok (.ireturn, 1) := by decide +kernel
theorem d_M_cutIntoParts_0 : decode b_M_cutIntoParts 0 = .ok (.aload_n 0, 1) := by decide +kernel
theorem d_M_cutIntoParts_1 : decode b_M_cutIntoParts 1 = .ok (.iconst 0, 1) := by decide +kernel
theorem d_M_cutIntoParts_2 : decode b_M_cutIntoParts 2 = .ok (.putfield 102, 3) := by decide +kernel
theorem d_M_cutIntoParts_5 : decode b_M_cutIntoParts 5 = .ok (.iconst 0, 1) := by decide +kernel
theorem d_M_cutIntoParts_6 : decode b_M_cutIntoParts 6 = .ok (.istore_n 1, 1) := by decide +kernel
theorem d_M_cutIntoParts_7 : decode b_M_cutIntoParts 7 = .ok (.iload_n 1, 1) := by decide +kernel
theorem d_M_cutIntoParts_8 : decode b_M_cutIntoParts 8 = .ok (.aload_n 0, 1) := by decide +kernel
theorem d_M_cutIntoParts_9 : decode b_M_cutIntoParts 9 = .ok (.getfield 99, 3) := by decide +kernel
theorem d_M_cutIntoParts_12 : decode b_M_cutIntoParts 12 = .ok (.if_icmp .ge 120, 3) := by decide +kernel
theorem d_M_cutIntoParts_15 : decode b_M_cutIntoParts 15 = .ok (.iconst (-1), 1) := by decide +kernel
theorem d_M_cutIntoParts_16 : decode b_M_cutIntoParts 16 = .ok (.istore_n 2, 1) := by decide +kernel
theorem d_M_cutIntoParts_17 : decode b_M_cutIntoParts 17 = .ok (.iconst 0, 1) := by decide +kernel
theorem d_M_cutIntoParts_18 : decode b_M_cutIntoParts 18 = .ok (.istore_n 3, 1) := by decide +kernel
theorem d_M_cutIntoParts_19 : decode b_M_cutIntoParts 19 = .ok (.iload_n 3, 1) := by decide +kernel
theorem d_M_cutIntoParts_20 : decode b_M_cutIntoParts 20 = .ok (.iload_n 1, 1) := by decide +kernel
theorem d_M_cutIntoParts_21 : decode b_M_cutIntoParts 21 = .ok (.if_icmp .ge 34, 3) := by decide +kernel
theorem d_M_cutIntoParts_24 : decode b_M_cutIntoParts 24 = .ok (.iload_n 2, 1) := by decide +kernel
theorem d_M_cutIntoParts_25 : decode b_M_cutIntoParts 25 = .ok (.iconst (-1), 1) := by decide +kernel
theorem d_M_cutIntoParts_26 : decode b_M_cutIntoParts 26 = .ok (.if_icmp .ne 29, 3) := by decide +kernel
theorem d_M_cutIntoParts_29 : decode b_M_cutIntoParts 29 = .ok (.aload_n 0, 1) := by decide +kernel
theorem d_M_cutIntoParts_30 : decode b_M_cutIntoParts 30 = .ok (.iload_n 1, 1) := by decide +kernel
theorem d_M_cutIntoParts_31 : decode b_M_cutIntoParts 31 = .ok (.iload_n 3, 1) := by decide +kernel
theorem d_M_cutIntoParts_32 : decode b_M_cutIntoParts 32 = .ok (.invokevirtual 105, 3) := by decide +kernel
theorem d_M_cutIntoParts_35 : decode b_M_cutIntoParts 35 = .ok (.ifCond .eq 12, 3) := by decide +kernel
theorem d_M_cutIntoParts_38 : decode b_M_cutIntoParts 38 = .ok (.aload_n 0, 1) := by decide +kernel
theorem d_M_cutIntoParts_39 : decode b_M_cutIntoParts 39 = .ok (.getfield 42, 3) := by decide +kernel
theorem d_M_cutIntoParts_42 : decode b_M_cutIntoParts 42 = .ok (.iload_n 3, 1) := by decide +kernel
theorem d_M_cutIntoParts_43 : decode b_M_cutIntoParts 43 = .ok (.iaload, 1) := by decide +kernel
theorem d_M_cutIntoParts_44 : decode b_M_cutIntoParts 44 = .ok (.goto 4, 3) := by decide +kernel
theorem d_M_cutIntoParts_47 : decode b_M_cutIntoParts 47 = .ok (.iconst (-1), 1) := by decide +kernel
theorem d_M_cutIntoParts_48 : decode b_M_cutIntoParts 48 = .ok (.istore_n 2, 1) := by decide +kernel
theorem d_M_cutIntoParts_49 : decode b_M_cutIntoParts 49 = .ok (.iinc 3 1, 3) := by decide +kernel
theorem d_M_cutIntoParts_52 : decode b_M_cutIntoParts 52 = .ok (.goto (-33), 3) := by decide +kernel
theorem d_M_cutIntoParts_55 : decode b_M_cutIntoParts 55 = .ok (.aload_n 0, 1) := by decide +kernel
theorem d_M_cutIntoParts_56 : decode b_M_cutIntoParts 56 = .ok (.getfield 42, 3) := by decide +kernel
theorem d_M_cutIntoParts_59 : decode b_M_cutIntoParts 59 = .ok (.iload_n 1, 1) := by decide +kernel
theorem d_M_cutIntoParts_60 : decode b_M_cutIntoParts 60 = .ok (.iload_n 2, 1) := by decide +kernel
theorem d_M_cutIntoParts_61 : decode b_M_cutIntoParts 61 = .ok (.iconst (-1), 1) := by decide +kernel
theorem d_M_cutIntoParts_62 : decode b_M_cutIntoParts 62 = .ok (.if_icmp .ne 10, 3) := by decide +kernel
theorem d_M_cutIntoParts_65 : decode b_M_cutIntoParts 65 = .ok (.aload_n 0, 1) := by decide +kernel
theorem d_M_cutIntoParts_66 : decode b_M_cutIntoParts 66 = .ok (.getfield 102, 3) := by decide +kernel
theorem d_M_cutIntoParts_69 : decode b_M_cutIntoParts 69 = .ok (.goto 4, 3) := by decide +kernel
theorem d_M_cutIntoParts_72 : decode b_M_cutIntoParts 72 = .ok (.iload_n 2, 1) := by decide +kernel
theorem d_M_cutIntoParts_73 : decode b_M_cutIntoParts 73 = .ok (.iastore, 1) := by decide +kernel
theorem d_M_cutIntoParts_74 : decode b_M_cutIntoParts 74 = .ok (.aload_n 0, 1) := by decide +kernel
theorem d_M_cutIntoParts_75 : decode b_M_cutIntoParts 75 = .ok (.dup, 1) := by decide +kernel
theorem d_M_cutIntoParts_76 : decode b_M_cutIntoParts 76 = .ok (.getfield 102, 3) := by decide +kernel
theorem d_M_cutIntoParts_79 : decode b_M_cutIntoParts 79 = .ok (.iload_n 2, 1) := by decide +kernel
theorem d_M_cutIntoParts_80 : decode b_M_cutIntoParts 80 = .ok (.iconst (-1), 1) := by decide +kernel
theorem d_M_cutIntoParts_81 : decode b_M_cutIntoParts 81 = .ok (.if_icmp .ne 7, 3) := by decide +kernel
theorem d_M_cutIntoParts_84 : decode b_M_cutIntoParts 84 = .ok (.iconst 1, 1) := by decide +kernel
theorem d_M_cutIntoParts_85 : decode b_M_cutIntoParts 85 = .ok (.goto 4, 3) := by decide +kernel
theorem d_M_cutIntoParts_88 : decode b_M_cutIntoParts 88 = .ok (.iconst 0, 1) := by decide +kernel
theorem d_M_cutIntoParts_89 : decode b_M_cutIntoParts 89 = .ok (.iadd, 1) := by decide +kernel
theorem d_M_cutIntoParts_90 : decode b_M_cutIntoParts 90 = .ok (.putfield 102, 3) := by decide +kernel
theorem d_M_cutIntoParts_93 : decode b_M_cutIntoParts 93 = .ok (.aload_n 0, 1) := by decide +kernel
theorem d_M_cutIntoParts_94 : decode b_M_cutIntoParts 94 = .ok (.getfield 45, 3) := by decide +kernel
theorem d_M_cutIntoParts_97 : decode b_M_cutIntoParts 97 = .ok (.iload_n 1, 1) := by decide +kernel
theorem d_M_cutIntoParts_98 : decode b_M_cutIntoParts 98 = .ok (.aload_n 0, 1) := by decide +kernel
theorem d_M_cutIntoParts_99 : decode b_M_cutIntoParts 99 = .ok (.getfield 51, 3) := by decide +kernel
theorem d_M_cutIntoParts_102 : decode b_M_cutIntoParts 102 = .ok (.iload_n 1, 1) := by decide +kernel
theorem d_M_cutIntoParts_103 : decode b_M_cutIntoParts 103 = .ok (.iload_n 1, 1) := by decide +kernel
theorem d_M_cutIntoParts_104 : decode b_M_cutIntoParts 104 = .ok (.invokestatic 95, 3) := by decide +kernel
theorem d_M_cutIntoParts_107 : decode b_M_cutIntoParts 107 = .ok (.baload, 1) := by decide +kernel
theorem d_M_cutIntoParts_108 : decode b_M_cutIntoParts 108 = .ok (.ifCond .eq 16, 3) := by decide +kernel
theorem d_M_cutIntoParts_111 : decode b_M_cutIntoParts 111 = .ok (.aload_n 0, 1) := by decide +kernel
theorem d_M_cutIntoParts_112 : decode b_M_cutIntoParts 112 = .ok (.getfield 54, 3) := by decide +kernel
theorem d_M_cutIntoParts_115 : decode b_M_cutIntoParts 115 = .ok (.iload_n 1, 1) := by decide +kernel
theorem d_M_cutIntoParts_116 : decode b_M_cutIntoParts 116 = .ok (.iload_n 1, 1) := by decide +kernel
theorem d_M_cutIntoParts_117 : decode b_M_cutIntoParts 117 = .ok (.invokestatic 95, 3) := by decide +kernel
theorem d_M_cutIntoParts_120 : decode b_M_cutIntoParts 120 = .ok (.iaload, 1) := by decide +kernel
theorem d_M_cutIntoParts_121 : decode b_M_cutIntoParts 121 = .ok (.goto 4, 3) := by decide +kernel
theorem d_M_cutIntoParts_124 : decode b_M_cutIntoParts 124 = .ok (.iconst 0, 1) := by decide +kernel
theorem d_M_cutIntoParts_125 : decode b_M_cutIntoParts 125 = .ok (.iastore, 1) := by decide +kernel
theorem d_M_cutIntoParts_126 : decode b_M_cutIntoParts 126 = .ok (.iinc 1 1, 3) := by decide +kernel
theorem d_M_cutIntoParts_129 : decode b_M_cutIntoParts 129 = .ok (.goto (-122), 3) := by decide +kernel
theorem d_M_cutIntoParts_132 : decode b_M_cutIntoParts 132 = .ok (.return_, 1) := by decide +kernel
theorem d_M_lead_0 : decode b_M_lead 0 = .ok (.iconst 0, 1) := by decide +kernel
theorem d_M_lead_1 : decode b_M_lead 1 = .ok (.istore_n 3, 1) := by decide +kernel
theorem d_M_lead_2 : decode b_M_lead 2 = .ok (.iload_n 3, 1) := by decide +kernel
theorem d_M_lead_3 : decode b_M_lead 3 = .ok (.bipush 40, 2) := by decide +kernel
theorem d_M_lead_5 : decode b_M_lead 5 = .ok (.if_icmp .ge 25, 3) := by decide +kernel
theorem d_M_lead_8 : decode b_M_lead 8 = .ok (.aload_n 0, 1) := by decide +kernel
theorem d_M_lead_9 : decode b_M_lead 9 = .ok (.getfield 63, 3) := by decide +kernel
theorem d_M_lead_12 : decode b_M_lead 12 = .ok (.iload_n 3, 1) := by decide +kernel
theorem d_M_lead_13 : decode b_M_lead 13 = .ok (.iload_n 3, 1) := by decide +kernel
theorem d_M_lead_14 : decode b_M_lead 14 = .ok (.iload_n 1, 1) := by decide +kernel
theorem d_M_lead_15 : decode b_M_lead 15 = .ok (.if_icmp .ne 7, 3) := by decide +kernel
theorem d_M_lead_18 : decode b_M_lead 18 = .ok (.iconst 1, 1) := by decide +kernel
theorem d_M_lead_19 : decode b_M_lead 19 = .ok (.goto 4, 3) := by decide +kernel
theorem d_M_lead_22 : decode b_M_lead 22 = .ok (.iconst 0, 1) := by decide +kernel
theorem d_M_lead_23 : decode b_M_lead 23 = .ok (.bastore, 1) := by decide +kernel
theorem d_M_lead_24 : decode b_M_lead 24 = .ok (.iinc 3 1, 3) := by decide +kernel
theorem d_M_lead_27 : decode b_M_lead 27 = .ok (.goto (-25), 3) := by decide +kernel
theorem d_M_lead_30 : decode b_M_lead 30 = .ok (.iconst 1, 1) := by decide +kernel
theorem d_M_lead_31 : decode b_M_lead 31 = .ok (.istore_n 3, 1) := by decide +kernel
theorem d_M_lead_32 : decode b_M_lead 32 = .ok (.iload_n 3, 1) := by decide +kernel
theorem d_M_lead_33 : decode b_M_lead 33 = .ok (.iload_n 2, 1) := by decide +kernel
theorem d_M_lead_34 : decode b_M_lead 34 = .ok (.if_icmp .gt 117, 3) := by decide +kernel
theorem d_M_lead_37 : decode b_M_lead 37 = .ok (.iload_n 1, 1) := by decide +kernel
theorem d_M_lead_38 : decode b_M_lead 38 = .ok (.istore 4, 2) := by decide +kernel
theorem d_M_lead_40 : decode b_M_lead 40 = .ok (.iload 4, 2) := by decide +kernel
theorem d_M_lead_42 : decode b_M_lead 42 = .ok (.aload_n 0, 1) := by decide +kernel
theorem d_M_lead_43 : decode b_M_lead 43 = .ok (.getfield 99, 3) := by decide +kernel
theorem d_M_lead_46 : decode b_M_lead 46 = .ok (.if_icmp .ge 99, 3) := by decide +kernel
theorem d_M_lead_49 : decode b_M_lead 49 = .ok (.iconst 0, 1) := by decide +kernel
theorem d_M_lead_50 : decode b_M_lead 50 = .ok (.istore 5, 2) := by decide +kernel
theorem d_M_lead_52 : decode b_M_lead 52 = .ok (.iload_n 1, 1) := by decide +kernel
theorem d_M_lead_53 : decode b_M_lead 53 = .ok (.istore 6, 2) := by decide +kernel
theorem d_M_lead_55 : decode b_M_lead 55 = .ok (.iload 6, 2) := by decide +kernel
theorem d_M_lead_57 : decode b_M_lead 57 = .ok (.aload_n 0, 1) := by decide +kernel
theorem d_M_lead_58 : decode b_M_lead 58 = .ok (.getfield 99, 3) := by decide +kernel
theorem d_M_lead_61 : decode b_M_lead 61 = .ok (.if_icmp .ge 64, 3) := by decide +kernel
theorem d_M_lead_64 : decode b_M_lead 64 = .ok (.iload 5, 2) := by decide +kernel
theorem d_M_lead_66 : decode b_M_lead 66 = .ok (.ifCond .ne 46, 3) := by decide +kernel
theorem d_M_lead_69 : decode b_M_lead 69 = .ok (.aload_n 0, 1) := by decide +kernel
theorem d_M_lead_70 : decode b_M_lead 70 = .ok (.getfield 48, 3) := by decide +kernel
theorem d_M_lead_73 : decode b_M_lead 73 = .ok (.iload 4, 2) := by decide +kernel
theorem d_M_lead_75 : decode b_M_lead 75 = .ok (.iload 6, 2) := by decide +kernel
theorem d_M_lead_77 : decode b_M_lead 77 = .ok (.invokestatic 95, 3) := by decide +kernel
theorem d_M_lead_80 : decode b_M_lead 80 = .ok (.baload, 1) := by decide +kernel
theorem d_M_lead_81 : decode b_M_lead 81 = .ok (.ifCond .eq 35, 3) := by decide +kernel
theorem d_M_lead_84 : decode b_M_lead 84 = .ok (.aload_n 0, 1) := by decide +kernel
theorem d_M_lead_85 : decode b_M_lead 85 = .ok (.getfield 63, 3) := by decide +kernel
theorem d_M_lead_88 : decode b_M_lead 88 = .ok (.bipush 40, 2) := by decide +kernel
theorem d_M_lead_90 : decode b_M_lead 90 = .ok (.iload_n 3, 1) := by decide +kernel
theorem d_M_lead_91 : decode b_M_lead 91 = .ok (.iconst 1, 1) := by decide +kernel
theorem d_M_lead_92 : decode b_M_lead 92 = .ok (.isub, 1) := by decide +kernel
theorem d_M_lead_93 : decode b_M_lead 93 = .ok (.imul, 1) := by decide +kernel
theorem d_M_lead_94 : decode b_M_lead 94 = .ok (.iload 6, 2) := by decide +kernel
theorem d_M_lead_96 : decode b_M_lead 96 = .ok (.iadd, 1) := by decide +kernel
theorem d_M_lead_97 : decode b_M_lead 97 = .ok (.baload, 1) := by decide +kernel
theorem d_M_lead_98 : decode b_M_lead 98 = .ok (.ifCond .eq 18, 3) := by decide +kernel
theorem d_M_lead_101 : decode b_M_lead 101 = .ok (.iload 6, 2) := by decide +kernel
theorem d_M_lead_103 : decode b_M_lead 103 = .ok (.iload_n 1, 1) := by decide +kernel
theorem d_M_lead_104 : decode b_M_lead 104 = .ok (.if_icmp .gt 8, 3) := by decide +kernel
theorem d_M_lead_107 : decode b_M_lead 107 = .ok (.iload_n 3, 1) := by decide +kernel
theorem d_M_lead_108 : decode b_M_lead 108 = .ok (.iconst 1, 1) := by decide +kernel
theorem d_M_lead_109 : decode b_M_lead 109 = .ok (.if_icmp .ne 7, 3) := by decide +kernel
theorem d_M_lead_112 : decode b_M_lead 112 = .ok (.iconst 1, 1) := by decide +kernel
theorem d_M_lead_113 : decode b_M_lead 113 = .ok (.goto 4, 3) := by decide +kernel
theorem d_M_lead_116 : decode b_M_lead 116 = .ok (.iconst 0, 1) := by decide +kernel
theorem d_M_lead_117 : decode b_M_lead 117 = .ok (.istore 5, 2) := by decide +kernel
theorem d_M_lead_119 : decode b_M_lead 119 = .ok (.iinc 6 1, 3) := by decide +kernel
theorem d_M_lead_122 : decode b_M_lead 122 = .ok (.goto (-67), 3) := by decide +kernel
theorem d_M_lead_125 : decode b_M_lead 125 = .ok (.aload_n 0, 1) := by decide +kernel
theorem d_M_lead_126 : decode b_M_lead 126 = .ok (.getfield 63, 3) := by decide +kernel
theorem d_M_lead_129 : decode b_M_lead 129 = .ok (.bipush 40, 2) := by decide +kernel
theorem d_M_lead_131 : decode b_M_lead 131 = .ok (.iload_n 3, 1) := by decide +kernel
theorem d_M_lead_132 : decode b_M_lead 132 = .ok (.imul, 1) := by decide +kernel
theorem d_M_lead_133 : decode b_M_lead 133 = .ok (.iload 4, 2) := by decide +kernel
theorem d_M_lead_135 : decode b_M_lead 135 = .ok (.iadd, 1) := by decide +kernel
theorem d_M_lead_136 : decode b_M_lead 136 = .ok (.iload 5, 2) := by decide +kernel
theorem d_M_lead_138 : decode b_M_lead 138 = .ok (.bastore, 1) := by decide +kernel
theorem d_M_lead_139 : decode b_M_lead 139 = .ok (.iinc 4 1, 3) := by decide +kernel
theorem d_M_lead_142 : decode b_M_lead 142 = .ok (.goto (-102), 3) := by decide +kernel
theorem d_M_lead_145 : decode b_M_lead 145 = .ok (.iinc 3 1, 3) := by decide +kernel
theorem d_M_lead_148 : decode b_M_lead 148 = .ok (.goto (-116), 3) := by decide +kernel
theorem d_M_lead_151 : decode b_M_lead 151 = .ok (.return_, 1) := by decide +kernel
theorem d_M_tellRing_0 : decode b_M_tellRing 0 = .ok (.sipush 1000, 3) := by decide +kernel
theorem d_M_tellRing_3 : decode b_M_tellRing 3 = .ok (.istore_n 2, 1) := by decide +kernel
theorem d_M_tellRing_4 : decode b_M_tellRing 4 = .ok (.iconst 0, 1) := by decide +kernel
theorem d_M_tellRing_5 : decode b_M_tellRing 5 = .ok (.istore_n 3, 1) := by decide +kernel
theorem d_M_tellRing_6 : decode b_M_tellRing 6 = .ok (.iload_n 3, 1) := by decide +kernel
theorem d_M_tellRing_7 : decode b_M_tellRing 7 = .ok (.aload_n 0, 1) := by decide +kernel
theorem d_M_tellRing_8 : decode b_M_tellRing 8 = .ok (.getfield 99, 3) := by decide +kernel
theorem d_M_tellRing_11 : decode b_M_tellRing 11 = .ok (.if_icmp .ge 45, 3) := by decide +kernel
theorem d_M_tellRing_14 : decode b_M_tellRing 14 = .ok (.aload_n 0, 1) := by decide +kernel
theorem d_M_tellRing_15 : decode b_M_tellRing 15 = .ok (.getfield 42, 3) := by decide +kernel
theorem d_M_tellRing_18 : decode b_M_tellRing 18 = .ok (.iload_n 3, 1) := by decide +kernel
theorem d_M_tellRing_19 : decode b_M_tellRing 19 = .ok (.iaload, 1) := by decide +kernel
theorem d_M_tellRing_20 : decode b_M_tellRing 20 = .ok (.iload_n 1, 1) := by decide +kernel
theorem d_M_tellRing_21 : decode b_M_tellRing 21 = .ok (.if_icmp .ne 29, 3) := by decide +kernel
theorem d_M_tellRing_24 : decode b_M_tellRing 24 = .ok (.aload_n 0, 1) := by decide +kernel
theorem d_M_tellRing_25 : decode b_M_tellRing 25 = .ok (.getfield 45, 3) := by decide +kernel
theorem d_M_tellRing_28 : decode b_M_tellRing 28 = .ok (.iload_n 3, 1) := by decide +kernel
theorem d_M_tellRing_29 : decode b_M_tellRing 29 = .ok (.iaload, 1) := by decide +kernel
theorem d_M_tellRing_30 : decode b_M_tellRing 30 = .ok (.ifCond .le 20, 3) := by decide +kernel
theorem d_M_tellRing_33 : decode b_M_tellRing 33 = .ok (.aload_n 0, 1) := by decide +kernel
theorem d_M_tellRing_34 : decode b_M_tellRing 34 = .ok (.getfield 45, 3) := by decide +kernel
theorem d_M_tellRing_37 : decode b_M_tellRing 37 = .ok (.iload_n 3, 1) := by decide +kernel
theorem d_M_tellRing_38 : decode b_M_tellRing 38 = .ok (.iaload, 1) := by decide +kernel
theorem d_M_tellRing_39 : decode b_M_tellRing 39 = .ok (.iload_n 2, 1) := by decide +kernel
theorem d_M_tellRing_40 : decode b_M_tellRing 40 = .ok (.if_icmp .ge 10, 3) := by decide +kernel
theorem d_M_tellRing_43 : decode b_M_tellRing 43 = .ok (.aload_n 0, 1) := by decide +kernel
theorem d_M_tellRing_44 : decode b_M_tellRing 44 = .ok (.getfield 45, 3) := by decide +kernel
theorem d_M_tellRing_47 : decode b_M_tellRing 47 = .ok (.iload_n 3, 1) := by decide +kernel
theorem d_M_tellRing_48 : decode b_M_tellRing 48 = .ok (.iaload, 1) := by decide +kernel
theorem d_M_tellRing_49 : decode b_M_tellRing 49 = .ok (.istore_n 2, 1) := by decide +kernel
theorem d_M_tellRing_50 : decode b_M_tellRing 50 = .ok (.iinc 3 1, 3) := by decide +kernel
theorem d_M_tellRing_53 : decode b_M_tellRing 53 = .ok (.goto (-47), 3) := by decide +kernel
theorem d_M_tellRing_56 : decode b_M_tellRing 56 = .ok (.iload_n 2, 1) := by decide +kernel
theorem d_M_tellRing_57 : decode b_M_tellRing 57 = .ok (.sipush 1000, 3) := by decide +kernel
theorem d_M_tellRing_60 : decode b_M_tellRing 60 = .ok (.if_icmp .ne 4, 3) := by decide +kernel
theorem d_M_tellRing_63 : decode b_M_tellRing 63 = .ok (.return_, 1) := by decide +kernel
theorem d_M_tellRing_64 : decode b_M_tellRing 64 = .ok (.iconst 0, 1) := by decide +kernel
theorem d_M_tellRing_65 : decode b_M_tellRing 65 = .ok (.istore_n 3, 1) := by decide +kernel
theorem d_M_tellRing_66 : decode b_M_tellRing 66 = .ok (.aload_n 0, 1) := by decide +kernel
theorem d_M_tellRing_67 : decode b_M_tellRing 67 = .ok (.iload_n 3, 1) := by decide +kernel
theorem d_M_tellRing_68 : decode b_M_tellRing 68 = .ok (.iload_n 2, 1) := by decide +kernel
theorem d_M_tellRing_69 : decode b_M_tellRing 69 = .ok (.invokevirtual 108, 3) := by decide +kernel
theorem d_M_tellRing_72 : decode b_M_tellRing 72 = .ok (.aload_n 0, 1) := by decide +kernel
theorem d_M_tellRing_73 : decode b_M_tellRing 73 = .ok (.getfield 42, 3) := by decide +kernel
theorem d_M_tellRing_76 : decode b_M_tellRing 76 = .ok (.iload_n 3, 1) := by decide +kernel
theorem d_M_tellRing_77 : decode b_M_tellRing 77 = .ok (.iaload, 1) := by decide +kernel
theorem d_M_tellRing_78 : decode b_M_tellRing 78 = .ok (.iload_n 1, 1) := by decide +kernel
theorem d_M_tellRing_79 : decode b_M_tellRing 79 = .ok (.if_icmp .ne 17, 3) := by decide +kernel
theorem d_M_tellRing_82 : decode b_M_tellRing 82 = .ok (.aload_n 0, 1) := by decide +kernel
theorem d_M_tellRing_83 : decode b_M_tellRing 83 = .ok (.getfield 63, 3) := by decide +kernel
theorem d_M_tellRing_86 : decode b_M_tellRing 86 = .ok (.bipush 40, 2) := by decide +kernel
theorem d_M_tellRing_88 : decode b_M_tellRing 88 = .ok (.iload_n 2, 1) := by decide +kernel
theorem d_M_tellRing_89 : decode b_M_tellRing 89 = .ok (.imul, 1) := by decide +kernel
theorem d_M_tellRing_90 : decode b_M_tellRing 90 = .ok (.iload_n 3, 1) := by decide +kernel
theorem d_M_tellRing_91 : decode b_M_tellRing 91 = .ok (.iadd, 1) := by decide +kernel
theorem d_M_tellRing_92 : decode b_M_tellRing 92 = .ok (.baload, 1) := by decide +kernel
theorem d_M_tellRing_93 : decode b_M_tellRing 93 = .ok (.ifCond .ne 15, 3) := by decide +kernel
theorem d_M_tellRing_96 : decode b_M_tellRing 96 = .ok (.iinc 3 1, 3) := by decide +kernel
theorem d_M_tellRing_99 : decode b_M_tellRing 99 = .ok (.aload_n 0, 1) := by decide +kernel
theorem d_M_tellRing_100 : decode b_M_tellRing 100 = .ok (.iload_n 3, 1) := by decide +kernel
theorem d_M_tellRing_101 : decode b_M_tellRing 101 = .ok (.iload_n 2, 1) := by decide +kernel
theorem d_M_tellRing_102 : decode b_M_tellRing 102 = .ok (.invokevirtual 108, 3) := by decide +kernel
theorem d_M_tellRing_105 : decode b_M_tellRing 105 = .ok (.goto (-33), 3) := by decide +kernel
theorem d_M_tellRing_108 : decode b_M_tellRing 108 = .ok (.iload_n 3, 1) := by decide +kernel
theorem d_M_tellRing_109 : decode b_M_tellRing 109 = .ok (.istore 4, 2) := by decide +kernel
theorem d_M_tellRing_111 : decode b_M_tellRing 111 = .ok (.iload_n 2, 1) := by decide +kernel
theorem d_M_tellRing_112 : decode b_M_tellRing 112 = .ok (.istore 5, 2) := by decide +kernel
theorem d_M_tellRing_114 : decode b_M_tellRing 114 = .ok (.iload 5, 2) := by decide +kernel
theorem d_M_tellRing_116 : decode b_M_tellRing 116 = .ok (.ifCond .le 85, 3) := by decide +kernel
theorem d_M_tellRing_119 : decode b_M_tellRing 119 = .ok (.aload_n 0, 1) := by decide +kernel
theorem d_M_tellRing_120 : decode b_M_tellRing 120 = .ok (.getfield 60, 3) := by decide +kernel
theorem d_M_tellRing_123 : decode b_M_tellRing 123 = .ok (.aload_n 0, 1) := by decide +kernel
theorem d_M_tellRing_124 : decode b_M_tellRing 124 = .ok (.getfield 112, 3) := by decide +kernel
theorem d_M_tellRing_127 : decode b_M_tellRing 127 = .ok (.iload_n 2, 1) := by decide +kernel
theorem d_M_tellRing_128 : decode b_M_tellRing 128 = .ok (.iload 5, 2) := by decide +kernel
theorem d_M_tellRing_130 : decode b_M_tellRing 130 = .ok (.isub, 1) := by decide +kernel
theorem d_M_tellRing_131 : decode b_M_tellRing 131 = .ok (.invokestatic 95, 3) := by decide +kernel
theorem d_M_tellRing_134 : decode b_M_tellRing 134 = .ok (.iload 4, 2) := by decide +kernel
theorem d_M_tellRing_136 : decode b_M_tellRing 136 = .ok (.iastore, 1) := by decide +kernel
theorem d_M_tellRing_137 : decode b_M_tellRing 137 = .ok (.iload_n 3, 1) := by decide +kernel
theorem d_M_tellRing_138 : decode b_M_tellRing 138 = .ok (.istore 6, 2) := by decide +kernel
theorem d_M_tellRing_140 : decode b_M_tellRing 140 = .ok (.aload_n 0, 1) := by decide +kernel
theorem d_M_tellRing_141 : decode b_M_tellRing 141 = .ok (.getfield 48, 3) := by decide +kernel
theorem d_M_tellRing_144 : decode b_M_tellRing 144 = .ok (.iload 4, 2) := by decide +kernel
theorem d_M_tellRing_146 : decode b_M_tellRing 146 = .ok (.iload 6, 2) := by decide +kernel
theorem d_M_tellRing_148 : decode b_M_tellRing 148 = .ok (.invokestatic 95, 3) := by decide +kernel
theorem d_M_tellRing_151 : decode b_M_tellRing 151 = .ok (.baload, 1) := by decide +kernel
theorem d_M_tellRing_152 : decode b_M_tellRing 152 = .ok (.ifCond .eq 33, 3) := by decide +kernel
theorem d_M_tellRing_155 : decode b_M_tellRing 155 = .ok (.aload_n 0, 1) := by decide +kernel
theorem d_M_tellRing_156 : decode b_M_tellRing 156 = .ok (.getfield 63, 3) := by decide +kernel
theorem d_M_tellRing_159 : decode b_M_tellRing 159 = .ok (.bipush 40, 2) := by decide +kernel
theorem d_M_tellRing_161 : decode b_M_tellRing 161 = .ok (.iload 5, 2) := by decide +kernel
theorem d_M_tellRing_163 : decode b_M_tellRing 163 = .ok (.iconst 1, 1) := by decide +kernel
theorem d_M_tellRing_164 : decode b_M_tellRing 164 = .ok (.isub, 1) := by decide +kernel
theorem d_M_tellRing_165 : decode b_M_tellRing 165 = .ok (.imul, 1) := by decide +kernel
theorem d_M_tellRing_166 : decode b_M_tellRing 166 = .ok (.iload 6, 2) := by decide +kernel
theorem d_M_tellRing_168 : decode b_M_tellRing 168 = .ok (.iadd, 1) := by decide +kernel
theorem d_M_tellRing_169 : decode b_M_tellRing 169 = .ok (.baload, 1) := by decide +kernel
theorem d_M_tellRing_170 : decode b_M_tellRing 170 = .ok (.ifCond .eq 15, 3) := by decide +kernel
theorem d_M_tellRing_173 : decode b_M_tellRing 173 = .ok (.iload 6, 2) := by decide +kernel
theorem d_M_tellRing_175 : decode b_M_tellRing 175 = .ok (.iload_n 3, 1) := by decide +kernel
theorem d_M_tellRing_176 : decode b_M_tellRing 176 = .ok (.if_icmp .ne 15, 3) := by decide +kernel
theorem d_M_tellRing_179 : decode b_M_tellRing 179 = .ok (.iload 5, 2) := by decide +kernel
theorem d_M_tellRing_181 : decode b_M_tellRing 181 = .ok (.iconst 1, 1) := by decide +kernel
theorem d_M_tellRing_182 : decode b_M_tellRing 182 = .ok (.if_icmp .le 9, 3) := by decide +kernel
theorem d_M_tellRing_185 : decode b_M_tellRing 185 = .ok (.iinc 6 1, 3) := by decide +kernel
theorem d_M_tellRing_188 : decode b_M_tellRing 188 = .ok (.goto (-48), 3) := by decide +kernel
theorem d_M_tellRing_191 : decode b_M_tellRing 191 = .ok (.iload 6, 2) := by decide +kernel
theorem d_M_tellRing_193 : decode b_M_tellRing 193 = .ok (.istore 4, 2) := by decide +kernel
theorem d_M_tellRing_195 : decode b_M_tellRing 195 = .ok (.iinc 5 (-1), 3) := by decide +kernel
theorem d_M_tellRing_198 : decode b_M_tellRing 198 = .ok (.goto (-84), 3) := by decide +kernel
theorem d_M_tellRing_201 : decode b_M_tellRing 201 = .ok (.aload_n 0, 1) := by decide +kernel
theorem d_M_tellRing_202 : decode b_M_tellRing 202 = .ok (.getfield 57, 3) := by decide +kernel
theorem d_M_tellRing_205 : decode b_M_tellRing 205 = .ok (.aload_n 0, 1) := by decide +kernel
theorem d_M_tellRing_206 : decode b_M_tellRing 206 = .ok (.getfield 112, 3) := by decide +kernel
theorem d_M_tellRing_209 : decode b_M_tellRing 209 = .ok (.iload_n 2, 1) := by decide +kernel
theorem d_M_tellRing_210 : decode b_M_tellRing 210 = .ok (.iastore, 1) := by decide +kernel
theorem d_M_tellRing_211 : decode b_M_tellRing 211 = .ok (.aload_n 0, 1) := by decide +kernel
theorem d_M_tellRing_212 : decode b_M_tellRing 212 = .ok (.dup, 1) := by decide +kernel
theorem d_M_tellRing_213 : decode b_M_tellRing 213 = .ok (.getfield 112, 3) := by decide +kernel
theorem d_M_tellRing_216 : decode b_M_tellRing 216 = .ok (.iconst 1, 1) := by decide +kernel
theorem d_M_tellRing_217 : decode b_M_tellRing 217 = .ok (.iadd, 1) := by decide +kernel
theorem d_M_tellRing_218 : decode b_M_tellRing 218 = .ok (.putfield 112, 3) := by decide +kernel
theorem d_M_tellRing_221 : decode b_M_tellRing 221 = .ok (.return_, 1) := by decide +kernel
theorem d_M_run_0 : decode b_M_run 0 = .ok (.aload_n 0, 1) := by decide +kernel
theorem d_M_run_1 : decode b_M_run 1 = .ok (.iconst 0, 1) := by decide +kernel
theorem d_M_run_2 : decode b_M_run 2 = .ok (.putfield 75, 3) := by decide +kernel
theorem d_M_run_5 : decode b_M_run 5 = .ok (.iload_n 1, 1) := by decide +kernel
theorem d_M_run_6 : decode b_M_run 6 = .ok (.ifCond .lt 9, 3) := by decide +kernel
theorem d_M_run_9 : decode b_M_run 9 = .ok (.iload_n 1, 1) := by decide +kernel
theorem d_M_run_10 : decode b_M_run 10 = .ok (.bipush 8, 2) := by decide +kernel
theorem d_M_run_12 : decode b_M_run 12 = .ok (.if_icmp .lt 5, 3) := by decide +kernel
theorem d_M_run_15 : decode b_M_run 15 = .ok (.iconst (-1), 1) := by decide +kernel
theorem d_M_run_16 : decode b_M_run 16 = .ok (.ireturn, 1) := by decide +kernel
theorem d_M_run_17 : decode b_M_run 17 = .ok (.aload_n 0, 1) := by decide +kernel
theorem d_M_run_18 : decode b_M_run 18 = .ok (.iload_n 1, 1) := by decide +kernel
theorem d_M_run_19 : decode b_M_run 19 = .ok (.putfield 29, 3) := by decide +kernel
theorem d_M_run_22 : decode b_M_run 22 = .ok (.aload_n 0, 1) := by decide +kernel
theorem d_M_run_23 : decode b_M_run 23 = .ok (.aload_n 0, 1) := by decide +kernel
theorem d_M_run_24 : decode b_M_run 24 = .ok (.getfield 78, 3) := by decide +kernel
theorem d_M_run_27 : decode b_M_run 27 = .ok (.putfield 99, 3) := by decide +kernel
theorem d_M_run_30 : decode b_M_run 30 = .ok (.aload_n 0, 1) := by decide +kernel
theorem d_M_run_31 : decode b_M_run 31 = .ok (.aload_n 0, 1) := by decide +kernel
theorem d_M_run_32 : decode b_M_run 32 = .ok (.getfield 85, 3) := by decide +kernel
theorem d_M_run_35 : decode b_M_run 35 = .ok (.putfield 88, 3) := by decide +kernel
theorem d_M_run_38 : decode b_M_run 38 = .ok (.iconst 0, 1) := by decide +kernel
theorem d_M_run_39 : decode b_M_run 39 = .ok (.istore_n 2, 1) := by decide +kernel
theorem d_M_run_40 : decode b_M_run 40 = .ok (.iload_n 2, 1) := by decide +kernel
theorem d_M_run_41 : decode b_M_run 41 = .ok (.sipush 160, 3) := by decide +kernel
theorem d_M_run_44 : decode b_M_run 44 = .ok (.if_icmp .ge 21, 3) := by decide +kernel
theorem d_M_run_47 : decode b_M_run 47 = .ok (.aload_n 0, 1) := by decide +kernel
theorem d_M_run_48 : decode b_M_run 48 = .ok (.getfield 33, 3) := by decide +kernel
theorem d_M_run_51 : decode b_M_run 51 = .ok (.iload_n 2, 1) := by decide +kernel
theorem d_M_run_52 : decode b_M_run 52 = .ok (.aload_n 0, 1) := by decide +kernel
theorem d_M_run_53 : decode b_M_run 53 = .ok (.getfield 25, 3) := by decide +kernel
theorem d_M_run_56 : decode b_M_run 56 = .ok (.iload_n 2, 1) := by decide +kernel
theorem d_M_run_57 : decode b_M_run 57 = .ok (.baload, 1) := by decide +kernel
theorem d_M_run_58 : decode b_M_run 58 = .ok (.bastore, 1) := by decide +kernel
theorem d_M_run_59 : decode b_M_run 59 = .ok (.iinc 2 1, 3) := by decide +kernel
theorem d_M_run_62 : decode b_M_run 62 = .ok (.goto (-22), 3) := by decide +kernel
theorem d_M_run_65 : decode b_M_run 65 = .ok (.aload_n 0, 1) := by decide +kernel
theorem d_M_run_66 : decode b_M_run 66 = .ok (.invokevirtual 115, 3) := by decide +kernel
theorem d_M_run_69 : decode b_M_run 69 = .ok (.aload_n 0, 1) := by decide +kernel
theorem d_M_run_70 : decode b_M_run 70 = .ok (.invokevirtual 118, 3) := by decide +kernel
theorem d_M_run_73 : decode b_M_run 73 = .ok (.aload_n 0, 1) := by decide +kernel
theorem d_M_run_74 : decode b_M_run 74 = .ok (.invokevirtual 121, 3) := by decide +kernel
theorem d_M_run_77 : decode b_M_run 77 = .ok (.aload_n 0, 1) := by decide +kernel
theorem d_M_run_78 : decode b_M_run 78 = .ok (.iconst 0, 1) := by decide +kernel
theorem d_M_run_79 : decode b_M_run 79 = .ok (.putfield 112, 3) := by decide +kernel
theorem d_M_run_82 : decode b_M_run 82 = .ok (.iconst 0, 1) := by decide +kernel
theorem d_M_run_83 : decode b_M_run 83 = .ok (.istore_n 2, 1) := by decide +kernel
theorem d_M_run_84 : decode b_M_run 84 = .ok (.iload_n 2, 1) := by decide +kernel
theorem d_M_run_85 : decode b_M_run 85 = .ok (.aload_n 0, 1) := by decide +kernel
theorem d_M_run_86 : decode b_M_run 86 = .ok (.getfield 102, 3) := by decide +kernel
theorem d_M_run_89 : decode b_M_run 89 = .ok (.if_icmp .ge 14, 3) := by decide +kernel
theorem d_M_run_92 : decode b_M_run 92 = .ok (.aload_n 0, 1) := by decide +kernel
theorem d_M_run_93 : decode b_M_run 93 = .ok (.iload_n 2, 1) := by decide +kernel
theorem d_M_run_94 : decode b_M_run 94 = .ok (.invokevirtual 124, 3) := by decide +kernel
theorem d_M_run_97 : decode b_M_run 97 = .ok (.iinc 2 1, 3) := by decide +kernel
theorem d_M_run_100 : decode b_M_run 100 = .ok (.goto (-16), 3) := by decide +kernel
theorem d_M_run_103 : decode b_M_run 103 = .ok (.aload_n 0, 1) := by decide +kernel
theorem d_M_run_104 : decode b_M_run 104 = .ok (.getfield 112, 3) := by decide +kernel
theorem d_M_run_107 : decode b_M_run 107 = .ok (.ireturn, 1) := by decide +kernel
theorem d_M_size_0 : decode b_M_size 0 = .ok (.aload_n 0, 1) := by decide +kernel
theorem d_M_size_1 : decode b_M_size 1 = .ok (.iconst 0, 1) := by decide +kernel
theorem d_M_size_2 : decode b_M_size 2 = .ok (.putfield 75, 3) := by decide +kernel
theorem d_M_size_5 : decode b_M_size 5 = .ok (.iload_n 1, 1) := by decide +kernel
theorem d_M_size_6 : decode b_M_size 6 = .ok (.ifCond .lt 11, 3) := by decide +kernel
theorem d_M_size_9 : decode b_M_size 9 = .ok (.iload_n 1, 1) := by decide +kernel
theorem d_M_size_10 : decode b_M_size 10 = .ok (.aload_n 0, 1) := by decide +kernel
theorem d_M_size_11 : decode b_M_size 11 = .ok (.getfield 112, 3) := by decide +kernel
theorem d_M_size_14 : decode b_M_size 14 = .ok (.if_icmp .lt 7, 3) := by decide +kernel
theorem d_M_size_17 : decode b_M_size 17 = .ok (.iconst 0, 1) := by decide +kernel
theorem d_M_size_18 : decode b_M_size 18 = .ok (.goto 9, 3) := by decide +kernel
theorem d_M_size_21 : decode b_M_size 21 = .ok (.aload_n 0, 1) := by decide +kernel
theorem d_M_size_22 : decode b_M_size 22 = .ok (.getfield 57, 3) := by decide +kernel
theorem d_M_size_25 : decode b_M_size 25 = .ok (.iload_n 1, 1) := by decide +kernel
theorem d_M_size_26 : decode b_M_size 26 = .ok (.iaload, 1) := by decide +kernel
theorem d_M_size_27 : decode b_M_size 27 = .ok (.ireturn, 1) := by decide +kernel
theorem d_M_keyOf_0 : decode b_M_keyOf 0 = .ok (.aload_n 0, 1) := by decide +kernel
theorem d_M_keyOf_1 : decode b_M_keyOf 1 = .ok (.getfield 36, 3) := by decide +kernel
theorem d_M_keyOf_4 : decode b_M_keyOf 4 = .ok (.aload_n 0, 1) := by decide +kernel
theorem d_M_keyOf_5 : decode b_M_keyOf 5 = .ok (.getfield 60, 3) := by decide +kernel
theorem d_M_keyOf_8 : decode b_M_keyOf 8 = .ok (.iload_n 1, 1) := by decide +kernel
theorem d_M_keyOf_9 : decode b_M_keyOf 9 = .ok (.iload_n 2, 1) := by decide +kernel
theorem d_M_keyOf_10 : decode b_M_keyOf 10 = .ok (.aload_n 0, 1) := by decide +kernel
theorem d_M_keyOf_11 : decode b_M_keyOf 11 = .ok (.getfield 57, 3) := by decide +kernel
theorem d_M_keyOf_14 : decode b_M_keyOf 14 = .ok (.iload_n 1, 1) := by decide +kernel
theorem d_M_keyOf_15 : decode b_M_keyOf 15 = .ok (.iaload, 1) := by decide +kernel
theorem d_M_keyOf_16 : decode b_M_keyOf 16 = .ok (.irem, 1) := by decide +kernel
theorem d_M_keyOf_17 : decode b_M_keyOf 17 = .ok (.invokestatic 95, 3) := by decide +kernel
theorem d_M_keyOf_20 : decode b_M_keyOf 20 = .ok (.iaload, 1) := by decide +kernel
theorem d_M_keyOf_21 : decode b_M_keyOf 21 = .ok (.iaload, 1) := by decide +kernel
theorem d_M_keyOf_22 : decode b_M_keyOf 22 = .ok (.ireturn, 1) := by decide +kernel
theorem d_M_edgeOf_0 : decode b_M_edgeOf 0 = .ok (.iconst (-1), 1) := by decide +kernel
theorem d_M_edgeOf_1 : decode b_M_edgeOf 1 = .ok (.istore_n 3, 1) := by decide +kernel
theorem d_M_edgeOf_2 : decode b_M_edgeOf 2 = .ok (.iconst 0, 1) := by decide +kernel
theorem d_M_edgeOf_3 : decode b_M_edgeOf 3 = .ok (.istore 4, 2) := by decide +kernel
theorem d_M_edgeOf_5 : decode b_M_edgeOf 5 = .ok (.iload 4, 2) := by decide +kernel
theorem d_M_edgeOf_7 : decode b_M_edgeOf 7 = .ok (.aload_n 0, 1) := by decide +kernel
theorem d_M_edgeOf_8 : decode b_M_edgeOf 8 = .ok (.getfield 88, 3) := by decide +kernel
theorem d_M_edgeOf_11 : decode b_M_edgeOf 11 = .ok (.if_icmp .ge 87, 3) := by decide +kernel
theorem d_M_edgeOf_14 : decode b_M_edgeOf 14 = .ok (.aload_n 0, 1) := by decide +kernel
theorem d_M_edgeOf_15 : decode b_M_edgeOf 15 = .ok (.iload 4, 2) := by decide +kernel
theorem d_M_edgeOf_17 : decode b_M_edgeOf 17 = .ok (.aload_n 0, 1) := by decide +kernel
theorem d_M_edgeOf_18 : decode b_M_edgeOf 18 = .ok (.getfield 29, 3) := by decide +kernel
theorem d_M_edgeOf_21 : decode b_M_edgeOf 21 = .ok (.invokevirtual 91, 3) := by decide +kernel
theorem d_M_edgeOf_24 : decode b_M_edgeOf 24 = .ok (.ifCond .eq 68, 3) := by decide +kernel
theorem d_M_edgeOf_27 : decode b_M_edgeOf 27 = .ok (.aload_n 0, 1) := by decide +kernel
theorem d_M_edgeOf_28 : decode b_M_edgeOf 28 = .ok (.getfield 13, 3) := by decide +kernel
theorem d_M_edgeOf_31 : decode b_M_edgeOf 31 = .ok (.iload 4, 2) := by decide +kernel
theorem d_M_edgeOf_33 : decode b_M_edgeOf 33 = .ok (.iaload, 1) := by decide +kernel
theorem d_M_edgeOf_34 : decode b_M_edgeOf 34 = .ok (.aload_n 0, 1) := by decide +kernel
theorem d_M_edgeOf_35 : decode b_M_edgeOf 35 = .ok (.iload_n 1, 1) := by decide +kernel
theorem d_M_edgeOf_36 : decode b_M_edgeOf 36 = .ok (.iload_n 2, 1) := by decide +kernel
theorem d_M_edgeOf_37 : decode b_M_edgeOf 37 = .ok (.invokevirtual 128, 3) := by decide +kernel
theorem d_M_edgeOf_40 : decode b_M_edgeOf 40 = .ok (.if_icmp .ne 52, 3) := by decide +kernel
theorem d_M_edgeOf_43 : decode b_M_edgeOf 43 = .ok (.aload_n 0, 1) := by decide +kernel
theorem d_M_edgeOf_44 : decode b_M_edgeOf 44 = .ok (.getfield 16, 3) := by decide +kernel
theorem d_M_edgeOf_47 : decode b_M_edgeOf 47 = .ok (.iload 4, 2) := by decide +kernel
theorem d_M_edgeOf_49 : decode b_M_edgeOf 49 = .ok (.iaload, 1) := by decide +kernel
theorem d_M_edgeOf_50 : decode b_M_edgeOf 50 = .ok (.aload_n 0, 1) := by decide +kernel
theorem d_M_edgeOf_51 : decode b_M_edgeOf 51 = .ok (.iload_n 1, 1) := by decide +kernel
theorem d_M_edgeOf_52 : decode b_M_edgeOf 52 = .ok (.iload_n 2, 1) := by decide +kernel
theorem d_M_edgeOf_53 : decode b_M_edgeOf 53 = .ok (.iconst 1, 1) := by decide +kernel
theorem d_M_edgeOf_54 : decode b_M_edgeOf 54 = .ok (.iadd, 1) := by decide +kernel
theorem d_M_edgeOf_55 : decode b_M_edgeOf 55 = .ok (.invokevirtual 128, 3) := by decide +kernel
theorem d_M_edgeOf_58 : decode b_M_edgeOf 58 = .ok (.if_icmp .eq 6, 3) := by decide +kernel
theorem d_M_edgeOf_61 : decode b_M_edgeOf 61 = .ok (.goto 31, 3) := by decide +kernel
theorem d_M_edgeOf_64 : decode b_M_edgeOf 64 = .ok (.iload_n 3, 1) := by decide +kernel
theorem d_M_edgeOf_65 : decode b_M_edgeOf 65 = .ok (.iconst (-1), 1) := by decide +kernel
theorem d_M_edgeOf_66 : decode b_M_edgeOf 66 = .ok (.if_icmp .eq 19, 3) := by decide +kernel
theorem d_M_edgeOf_69 : decode b_M_edgeOf 69 = .ok (.aload_n 0, 1) := by decide +kernel
theorem d_M_edgeOf_70 : decode b_M_edgeOf 70 = .ok (.getfield 19, 3) := by decide +kernel
theorem d_M_edgeOf_73 : decode b_M_edgeOf 73 = .ok (.iload 4, 2) := by decide +kernel
theorem d_M_edgeOf_75 : decode b_M_edgeOf 75 = .ok (.iaload, 1) := by decide +kernel
theorem d_M_edgeOf_76 : decode b_M_edgeOf 76 = .ok (.aload_n 0, 1) := by decide +kernel
theorem d_M_edgeOf_77 : decode b_M_edgeOf 77 = .ok (.getfield 19, 3) := by decide +kernel
theorem d_M_edgeOf_80 : decode b_M_edgeOf 80 = .ok (.iload_n 3, 1) := by decide +kernel
theorem d_M_edgeOf_81 : decode b_M_edgeOf 81 = .ok (.iaload, 1) := by decide +kernel
theorem d_M_edgeOf_82 : decode b_M_edgeOf 82 = .ok (.if_icmp .ge 8, 3) := by decide +kernel
theorem d_M_edgeOf_85 : decode b_M_edgeOf 85 = .ok (.iload 4, 2) := by decide +kernel
theorem d_M_edgeOf_87 : decode b_M_edgeOf 87 = .ok (.goto 4, 3) := by decide +kernel
theorem d_M_edgeOf_90 : decode b_M_edgeOf 90 = .ok (.iload_n 3, 1) := by decide +kernel
theorem d_M_edgeOf_91 : decode b_M_edgeOf 91 = .ok (.istore_n 3, 1) := by decide +kernel
theorem d_M_edgeOf_92 : decode b_M_edgeOf 92 = .ok (.iinc 4 1, 3) := by decide +kernel
theorem d_M_edgeOf_95 : decode b_M_edgeOf 95 = .ok (.goto (-90), 3) := by decide +kernel
theorem d_M_edgeOf_98 : decode b_M_edgeOf 98 = .ok (.iload_n 3, 1) := by decide +kernel
theorem d_M_edgeOf_99 : decode b_M_edgeOf 99 = .ok (.ireturn, 1) := by decide +kernel
theorem d_M_ring_0 : decode b_M_ring 0 = .ok (.aload_n 0, 1) := by decide +kernel
theorem d_M_ring_1 : decode b_M_ring 1 = .ok (.iconst 0, 1) := by decide +kernel
theorem d_M_ring_2 : decode b_M_ring 2 = .ok (.putfield 75, 3) := by decide +kernel
theorem d_M_ring_5 : decode b_M_ring 5 = .ok (.iload_n 1, 1) := by decide +kernel
theorem d_M_ring_6 : decode b_M_ring 6 = .ok (.ifCond .lt 25, 3) := by decide +kernel
theorem d_M_ring_9 : decode b_M_ring 9 = .ok (.iload_n 1, 1) := by decide +kernel
theorem d_M_ring_10 : decode b_M_ring 10 = .ok (.aload_n 0, 1) := by decide +kernel
theorem d_M_ring_11 : decode b_M_ring 11 = .ok (.getfield 112, 3) := by decide +kernel
theorem d_M_ring_14 : decode b_M_ring 14 = .ok (.if_icmp .ge 17, 3) := by decide +kernel
theorem d_M_ring_17 : decode b_M_ring 17 = .ok (.iload_n 2, 1) := by decide +kernel
theorem d_M_ring_18 : decode b_M_ring 18 = .ok (.ifCond .lt 13, 3) := by decide +kernel
theorem d_M_ring_21 : decode b_M_ring 21 = .ok (.iload_n 2, 1) := by decide +kernel
theorem d_M_ring_22 : decode b_M_ring 22 = .ok (.aload_n 0, 1) := by decide +kernel
theorem d_M_ring_23 : decode b_M_ring 23 = .ok (.getfield 57, 3) := by decide +kernel
theorem d_M_ring_26 : decode b_M_ring 26 = .ok (.iload_n 1, 1) := by decide +kernel
theorem d_M_ring_27 : decode b_M_ring 27 = .ok (.iaload, 1) := by decide +kernel
theorem d_M_ring_28 : decode b_M_ring 28 = .ok (.if_icmp .lt 5, 3) := by decide +kernel
theorem d_M_ring_31 : decode b_M_ring 31 = .ok (.iconst (-1), 1) := by decide +kernel
theorem d_M_ring_32 : decode b_M_ring 32 = .ok (.ireturn, 1) := by decide +kernel
theorem d_M_ring_33 : decode b_M_ring 33 = .ok (.iload_n 3, 1) := by decide +kernel
theorem d_M_ring_34 : decode b_M_ring 34 = .ok (.ifCond .ne 10, 3) := by decide +kernel
theorem d_M_ring_37 : decode b_M_ring 37 = .ok (.aload_n 0, 1) := by decide +kernel
theorem d_M_ring_38 : decode b_M_ring 38 = .ok (.iload_n 1, 1) := by decide +kernel
theorem d_M_ring_39 : decode b_M_ring 39 = .ok (.iload_n 2, 1) := by decide +kernel
theorem d_M_ring_40 : decode b_M_ring 40 = .ok (.invokevirtual 128, 3) := by decide +kernel
theorem d_M_ring_43 : decode b_M_ring 43 = .ok (.ireturn, 1) := by decide +kernel
theorem d_M_ring_44 : decode b_M_ring 44 = .ok (.aload_n 0, 1) := by decide +kernel
theorem d_M_ring_45 : decode b_M_ring 45 = .ok (.iload_n 1, 1) := by decide +kernel
theorem d_M_ring_46 : decode b_M_ring 46 = .ok (.iload_n 2, 1) := by decide +kernel
theorem d_M_ring_47 : decode b_M_ring 47 = .ok (.invokevirtual 131, 3) := by decide +kernel
theorem d_M_ring_50 : decode b_M_ring 50 = .ok (.istore 4, 2) := by decide +kernel
theorem d_M_ring_52 : decode b_M_ring 52 = .ok (.iload_n 3, 1) := by decide +kernel
theorem d_M_ring_53 : decode b_M_ring 53 = .ok (.iconst 1, 1) := by decide +kernel
theorem d_M_ring_54 : decode b_M_ring 54 = .ok (.if_icmp .ne 13, 3) := by decide +kernel
theorem d_M_ring_57 : decode b_M_ring 57 = .ok (.aload_n 0, 1) := by decide +kernel
theorem d_M_ring_58 : decode b_M_ring 58 = .ok (.getfield 19, 3) := by decide +kernel
theorem d_M_ring_61 : decode b_M_ring 61 = .ok (.iload 4, 2) := by decide +kernel
theorem d_M_ring_63 : decode b_M_ring 63 = .ok (.iaload, 1) := by decide +kernel
theorem d_M_ring_64 : decode b_M_ring 64 = .ok (.goto 14, 3) := by decide +kernel
theorem d_M_ring_67 : decode b_M_ring 67 = .ok (.iload_n 3, 1) := by decide +kernel
theorem d_M_ring_68 : decode b_M_ring 68 = .ok (.iconst 2, 1) := by decide +kernel
theorem d_M_ring_69 : decode b_M_ring 69 = .ok (.if_icmp .ne 8, 3) := by decide +kernel
theorem d_M_ring_72 : decode b_M_ring 72 = .ok (.iload 4, 2) := by decide +kernel
theorem d_M_ring_74 : decode b_M_ring 74 = .ok (.goto 4, 3) := by decide +kernel
theorem d_M_ring_77 : decode b_M_ring 77 = .ok (.iconst (-1), 1) := by decide +kernel
theorem d_M_ring_78 : decode b_M_ring 78 = .ok (.ireturn, 1) := by decide +kernel
theorem d_M_isRing_0 : decode b_M_isRing 0 = .ok (.iconst 1, 1) := by decide +kernel
theorem d_M_isRing_1 : decode b_M_isRing 1 = .ok (.istore_n 3, 1) := by decide +kernel
theorem d_M_isRing_2 : decode b_M_isRing 2 = .ok (.iconst 0, 1) := by decide +kernel
theorem d_M_isRing_3 : decode b_M_isRing 3 = .ok (.istore 4, 2) := by decide +kernel
theorem d_M_isRing_5 : decode b_M_isRing 5 = .ok (.iload 4, 2) := by decide +kernel
theorem d_M_isRing_7 : decode b_M_isRing 7 = .ok (.aload_n 0, 1) := by decide +kernel
theorem d_M_isRing_8 : decode b_M_isRing 8 = .ok (.getfield 57, 3) := by decide +kernel
theorem d_M_isRing_11 : decode b_M_isRing 11 = .ok (.iload_n 1, 1) := by decide +kernel
theorem d_M_isRing_12 : decode b_M_isRing 12 = .ok (.iaload, 1) := by decide +kernel
theorem d_M_isRing_13 : decode b_M_isRing 13 = .ok (.if_icmp .ge 103, 3) := by decide +kernel
theorem d_M_isRing_16 : decode b_M_isRing 16 = .ok (.iconst 0, 1) := by decide +kernel
theorem d_M_isRing_17 : decode b_M_isRing 17 = .ok (.istore 5, 2) := by decide +kernel
theorem d_M_isRing_19 : decode b_M_isRing 19 = .ok (.iconst 0, 1) := by decide +kernel
theorem d_M_isRing_20 : decode b_M_isRing 20 = .ok (.istore 6, 2) := by decide +kernel
theorem d_M_isRing_22 : decode b_M_isRing 22 = .ok (.iload 6, 2) := by decide +kernel
theorem d_M_isRing_24 : decode b_M_isRing 24 = .ok (.aload_n 0, 1) := by decide +kernel
theorem d_M_isRing_25 : decode b_M_isRing 25 = .ok (.getfield 88, 3) := by decide +kernel
theorem d_M_isRing_28 : decode b_M_isRing 28 = .ok (.if_icmp .ge 67, 3) := by decide +kernel
theorem d_M_isRing_31 : decode b_M_isRing 31 = .ok (.iload 5, 2) := by decide +kernel
theorem d_M_isRing_33 : decode b_M_isRing 33 = .ok (.ifCond .ne 49, 3) := by decide +kernel
theorem d_M_isRing_36 : decode b_M_isRing 36 = .ok (.aload_n 0, 1) := by decide +kernel
theorem d_M_isRing_37 : decode b_M_isRing 37 = .ok (.iload 6, 2) := by decide +kernel
theorem d_M_isRing_39 : decode b_M_isRing 39 = .ok (.iload_n 2, 1) := by decide +kernel
theorem d_M_isRing_40 : decode b_M_isRing 40 = .ok (.invokevirtual 91, 3) := by decide +kernel
theorem d_M_isRing_43 : decode b_M_isRing 43 = .ok (.ifCond .eq 43, 3) := by decide +kernel
theorem d_M_isRing_46 : decode b_M_isRing 46 = .ok (.aload_n 0, 1) := by decide +kernel
theorem d_M_isRing_47 : decode b_M_isRing 47 = .ok (.getfield 13, 3) := by decide +kernel
theorem d_M_isRing_50 : decode b_M_isRing 50 = .ok (.iload 6, 2) := by decide +kernel
theorem d_M_isRing_52 : decode b_M_isRing 52 = .ok (.iaload, 1) := by decide +kernel
theorem d_M_isRing_53 : decode b_M_isRing 53 = .ok (.aload_n 0, 1) := by decide +kernel
theorem d_M_isRing_54 : decode b_M_isRing 54 = .ok (.iload_n 1, 1) := by decide +kernel
theorem d_M_isRing_55 : decode b_M_isRing 55 = .ok (.iload 4, 2) := by decide +kernel
theorem d_M_isRing_57 : decode b_M_isRing 57 = .ok (.invokevirtual 128, 3) := by decide +kernel
theorem d_M_isRing_60 : decode b_M_isRing 60 = .ok (.if_icmp .ne 26, 3) := by decide +kernel
theorem d_M_isRing_63 : decode b_M_isRing 63 = .ok (.aload_n 0, 1) := by decide +kernel
theorem d_M_isRing_64 : decode b_M_isRing 64 = .ok (.getfield 16, 3) := by decide +kernel
theorem d_M_isRing_67 : decode b_M_isRing 67 = .ok (.iload 6, 2) := by decide +kernel
theorem d_M_isRing_69 : decode b_M_isRing 69 = .ok (.iaload, 1) := by decide +kernel
theorem d_M_isRing_70 : decode b_M_isRing 70 = .ok (.aload_n 0, 1) := by decide +kernel
theorem d_M_isRing_71 : decode b_M_isRing 71 = .ok (.iload_n 1, 1) := by decide +kernel
theorem d_M_isRing_72 : decode b_M_isRing 72 = .ok (.iload 4, 2) := by decide +kernel
theorem d_M_isRing_74 : decode b_M_isRing 74 = .ok (.iconst 1, 1) := by decide +kernel
theorem d_M_isRing_75 : decode b_M_isRing 75 = .ok (.iadd, 1) := by decide +kernel
theorem d_M_isRing_76 : decode b_M_isRing 76 = .ok (.invokevirtual 128, 3) := by decide +kernel
theorem d_M_isRing_79 : decode b_M_isRing 79 = .ok (.if_icmp .ne 7, 3) := by decide +kernel
theorem d_M_isRing_82 : decode b_M_isRing 82 = .ok (.iconst 1, 1) := by decide +kernel
theorem d_M_isRing_83 : decode b_M_isRing 83 = .ok (.goto 4, 3) := by decide +kernel
theorem d_M_isRing_86 : decode b_M_isRing 86 = .ok (.iconst 0, 1) := by decide +kernel
theorem d_M_isRing_87 : decode b_M_isRing 87 = .ok (.istore 5, 2) := by decide +kernel
theorem d_M_isRing_89 : decode b_M_isRing 89 = .ok (.iinc 6 1, 3) := by decide +kernel
theorem d_M_isRing_92 : decode b_M_isRing 92 = .ok (.goto (-70), 3) := by decide +kernel
theorem d_M_isRing_95 : decode b_M_isRing 95 = .ok (.iload_n 3, 1) := by decide +kernel
theorem d_M_isRing_96 : decode b_M_isRing 96 = .ok (.ifCond .eq 12, 3) := by decide +kernel
theorem d_M_isRing_99 : decode b_M_isRing 99 = .ok (.iload 5, 2) := by decide +kernel
theorem d_M_isRing_101 : decode b_M_isRing 101 = .ok (.ifCond .eq 7, 3) := by decide +kernel
theorem d_M_isRing_104 : decode b_M_isRing 104 = .ok (.iconst 1, 1) := by decide +kernel
theorem d_M_isRing_105 : decode b_M_isRing 105 = .ok (.goto 4, 3) := by decide +kernel
theorem d_M_isRing_108 : decode b_M_isRing 108 = .ok (.iconst 0, 1) := by decide +kernel
theorem d_M_isRing_109 : decode b_M_isRing 109 = .ok (.istore_n 3, 1) := by decide +kernel
theorem d_M_isRing_110 : decode b_M_isRing 110 = .ok (.iinc 4 1, 3) := by decide +kernel
theorem d_M_isRing_113 : decode b_M_isRing 113 = .ok (.goto (-108), 3) := by decide +kernel
theorem d_M_isRing_116 : decode b_M_isRing 116 = .ok (.iload_n 3, 1) := by decide +kernel
theorem d_M_isRing_117 : decode b_M_isRing 117 = .ok (.ireturn, 1) := by decide +kernel
theorem d_M_only_0 : decode b_M_only 0 = .ok (.aload_n 0, 1) := by decide +kernel
theorem d_M_only_1 : decode b_M_only 1 = .ok (.iconst 0, 1) := by decide +kernel
theorem d_M_only_2 : decode b_M_only 2 = .ok (.putfield 75, 3) := by decide +kernel
theorem d_M_only_5 : decode b_M_only 5 = .ok (.iload_n 1, 1) := by decide +kernel
theorem d_M_only_6 : decode b_M_only 6 = .ok (.ifCond .lt 11, 3) := by decide +kernel
theorem d_M_only_9 : decode b_M_only 9 = .ok (.iload_n 1, 1) := by decide +kernel
theorem d_M_only_10 : decode b_M_only 10 = .ok (.aload_n 0, 1) := by decide +kernel
theorem d_M_only_11 : decode b_M_only 11 = .ok (.getfield 112, 3) := by decide +kernel
theorem d_M_only_14 : decode b_M_only 14 = .ok (.if_icmp .lt 5, 3) := by decide +kernel
theorem d_M_only_17 : decode b_M_only 17 = .ok (.iconst (-1), 1) := by decide +kernel
theorem d_M_only_18 : decode b_M_only 18 = .ok (.ireturn, 1) := by decide +kernel
theorem d_M_only_19 : decode b_M_only 19 = .ok (.iconst 0, 1) := by decide +kernel
theorem d_M_only_20 : decode b_M_only 20 = .ok (.istore_n 2, 1) := by decide +kernel
theorem d_M_only_21 : decode b_M_only 21 = .ok (.iload_n 2, 1) := by decide +kernel
theorem d_M_only_22 : decode b_M_only 22 = .ok (.bipush 8, 2) := by decide +kernel
theorem d_M_only_24 : decode b_M_only 24 = .ok (.if_icmp .ge 28, 3) := by decide +kernel
theorem d_M_only_27 : decode b_M_only 27 = .ok (.iload_n 2, 1) := by decide +kernel
theorem d_M_only_28 : decode b_M_only 28 = .ok (.aload_n 0, 1) := by decide +kernel
theorem d_M_only_29 : decode b_M_only 29 = .ok (.getfield 29, 3) := by decide +kernel
theorem d_M_only_32 : decode b_M_only 32 = .ok (.if_icmp .eq 14, 3) := by decide +kernel
theorem d_M_only_35 : decode b_M_only 35 = .ok (.aload_n 0, 1) := by decide +kernel
theorem d_M_only_36 : decode b_M_only 36 = .ok (.iload_n 1, 1) := by decide +kernel
theorem d_M_only_37 : decode b_M_only 37 = .ok (.iload_n 2, 1) := by decide +kernel
theorem d_M_only_38 : decode b_M_only 38 = .ok (.invokevirtual 134, 3) := by decide +kernel
theorem d_M_only_41 : decode b_M_only 41 = .ok (.ifCond .eq 5, 3) := by decide +kernel
theorem d_M_only_44 : decode b_M_only 44 = .ok (.iconst (-1), 1) := by decide +kernel
theorem d_M_only_45 : decode b_M_only 45 = .ok (.ireturn, 1) := by decide +kernel
theorem d_M_only_46 : decode b_M_only 46 = .ok (.iinc 2 1, 3) := by decide +kernel
theorem d_M_only_49 : decode b_M_only 49 = .ok (.goto (-28), 3) := by decide +kernel
theorem d_M_only_52 : decode b_M_only 52 = .ok (.aload_n 0, 1) := by decide +kernel
theorem d_M_only_53 : decode b_M_only 53 = .ok (.getfield 29, 3) := by decide +kernel
theorem d_M_only_56 : decode b_M_only 56 = .ok (.ireturn, 1) := by decide +kernel
theorem d_M_newest_0 : decode b_M_newest 0 = .ok (.aload_n 0, 1) := by decide +kernel
theorem d_M_newest_1 : decode b_M_newest 1 = .ok (.iconst 0, 1) := by decide +kernel
theorem d_M_newest_2 : decode b_M_newest 2 = .ok (.putfield 75, 3) := by decide +kernel
theorem d_M_newest_5 : decode b_M_newest 5 = .ok (.iload_n 1, 1) := by decide +kernel
theorem d_M_newest_6 : decode b_M_newest 6 = .ok (.ifCond .lt 11, 3) := by decide +kernel
theorem d_M_newest_9 : decode b_M_newest 9 = .ok (.iload_n 1, 1) := by decide +kernel
theorem d_M_newest_10 : decode b_M_newest 10 = .ok (.aload_n 0, 1) := by decide +kernel
theorem d_M_newest_11 : decode b_M_newest 11 = .ok (.getfield 112, 3) := by decide +kernel
theorem d_M_newest_14 : decode b_M_newest 14 = .ok (.if_icmp .lt 5, 3) := by decide +kernel
theorem d_M_newest_17 : decode b_M_newest 17 = .ok (.iconst (-1), 1) := by decide +kernel
theorem d_M_newest_18 : decode b_M_newest 18 = .ok (.ireturn, 1) := by decide +kernel
theorem d_M_newest_19 : decode b_M_newest 19 = .ok (.iconst (-1), 1) := by decide +kernel
theorem d_M_newest_20 : decode b_M_newest 20 = .ok (.istore_n 2, 1) := by decide +kernel
theorem d_M_newest_21 : decode b_M_newest 21 = .ok (.iconst 0, 1) := by decide +kernel
theorem d_M_newest_22 : decode b_M_newest 22 = .ok (.istore_n 3, 1) := by decide +kernel
theorem d_M_newest_23 : decode b_M_newest 23 = .ok (.iload_n 3, 1) := by decide +kernel
theorem d_M_newest_24 : decode b_M_newest 24 = .ok (.aload_n 0, 1) := by decide +kernel
theorem d_M_newest_25 : decode b_M_newest 25 = .ok (.getfield 57, 3) := by decide +kernel
theorem d_M_newest_28 : decode b_M_newest 28 = .ok (.iload_n 1, 1) := by decide +kernel
theorem d_M_newest_29 : decode b_M_newest 29 = .ok (.iaload, 1) := by decide +kernel
theorem d_M_newest_30 : decode b_M_newest 30 = .ok (.if_icmp .ge 30, 3) := by decide +kernel
theorem d_M_newest_33 : decode b_M_newest 33 = .ok (.aload_n 0, 1) := by decide +kernel
theorem d_M_newest_34 : decode b_M_newest 34 = .ok (.iload_n 1, 1) := by decide +kernel
theorem d_M_newest_35 : decode b_M_newest 35 = .ok (.iload_n 3, 1) := by decide +kernel
theorem d_M_newest_36 : decode b_M_newest 36 = .ok (.invokevirtual 131, 3) := by decide +kernel
theorem d_M_newest_39 : decode b_M_newest 39 = .ok (.iload_n 2, 1) := by decide +kernel
theorem d_M_newest_40 : decode b_M_newest 40 = .ok (.if_icmp .le 12, 3) := by decide +kernel
theorem d_M_newest_43 : decode b_M_newest 43 = .ok (.aload_n 0, 1) := by decide +kernel
theorem d_M_newest_44 : decode b_M_newest 44 = .ok (.iload_n 1, 1) := by decide +kernel
theorem d_M_newest_45 : decode b_M_newest 45 = .ok (.iload_n 3, 1) := by decide +kernel
theorem d_M_newest_46 : decode b_M_newest 46 = .ok (.invokevirtual 131, 3) := by decide +kernel
theorem d_M_newest_49 : decode b_M_newest 49 = .ok (.goto 4, 3) := by decide +kernel
theorem d_M_newest_52 : decode b_M_newest 52 = .ok (.iload_n 2, 1) := by decide +kernel
theorem d_M_newest_53 : decode b_M_newest 53 = .ok (.istore_n 2, 1) := by decide +kernel
theorem d_M_newest_54 : decode b_M_newest 54 = .ok (.iinc 3 1, 3) := by decide +kernel
theorem d_M_newest_57 : decode b_M_newest 57 = .ok (.goto (-34), 3) := by decide +kernel
theorem d_M_newest_60 : decode b_M_newest 60 = .ok (.iload_n 2, 1) := by decide +kernel
theorem d_M_newest_61 : decode b_M_newest 61 = .ok (.ireturn, 1) := by decide +kernel
theorem d_M_isThere_0 : decode b_M_isThere 0 = .ok (.aload_n 0, 1) := by decide +kernel
theorem d_M_isThere_1 : decode b_M_isThere 1 = .ok (.getfield 29, 3) := by decide +kernel
theorem d_M_isThere_4 : decode b_M_isThere 4 = .ok (.iconst (-1), 1) := by decide +kernel
theorem d_M_isThere_5 : decode b_M_isThere 5 = .ok (.if_icmp .eq 19, 3) := by decide +kernel
theorem d_M_isThere_8 : decode b_M_isThere 8 = .ok (.iload_n 1, 1) := by decide +kernel
theorem d_M_isThere_9 : decode b_M_isThere 9 = .ok (.ifCond .lt 15, 3) := by decide +kernel
theorem d_M_isThere_12 : decode b_M_isThere 12 = .ok (.iload_n 1, 1) := by decide +kernel
theorem d_M_isThere_13 : decode b_M_isThere 13 = .ok (.aload_n 0, 1) := by decide +kernel
theorem d_M_isThere_14 : decode b_M_isThere 14 = .ok (.getfield 99, 3) := by decide +kernel
theorem d_M_isThere_17 : decode b_M_isThere 17 = .ok (.if_icmp .ge 7, 3) := by decide +kernel
theorem d_M_isThere_20 : decode b_M_isThere 20 = .ok (.iconst 1, 1) := by decide +kernel
theorem d_M_isThere_21 : decode b_M_isThere 21 = .ok (.goto 4, 3) := by decide +kernel
theorem d_M_isThere_24 : decode b_M_isThere 24 = .ok (.iconst 0, 1) := by decide +kernel
theorem d_M_isThere_25 : decode b_M_isThere 25 = .ok (.ireturn, 1) := by decide +kernel
theorem d_M_strong_0 : decode b_M_strong 0 = .ok (.aload_n 0, 1) := by decide +kernel
theorem d_M_strong_1 : decode b_M_strong 1 = .ok (.iconst 0, 1) := by decide +kernel
theorem d_M_strong_2 : decode b_M_strong 2 = .ok (.putfield 75, 3) := by decide +kernel
theorem d_M_strong_5 : decode b_M_strong 5 = .ok (.aload_n 0, 1) := by decide +kernel
theorem d_M_strong_6 : decode b_M_strong 6 = .ok (.iload_n 1, 1) := by decide +kernel
theorem d_M_strong_7 : decode b_M_strong 7 = .ok (.invokevirtual 137, 3) := by decide +kernel
theorem d_M_strong_10 : decode b_M_strong 10 = .ok (.ifCond .eq 17, 3) := by decide +kernel
theorem d_M_strong_13 : decode b_M_strong 13 = .ok (.aload_n 0, 1) := by decide +kernel
theorem d_M_strong_14 : decode b_M_strong 14 = .ok (.getfield 42, 3) := by decide +kernel
theorem d_M_strong_17 : decode b_M_strong 17 = .ok (.aload_n 0, 1) := by decide +kernel
theorem d_M_strong_18 : decode b_M_strong 18 = .ok (.getfield 39, 3) := by decide +kernel
theorem d_M_strong_21 : decode b_M_strong 21 = .ok (.iload_n 1, 1) := by decide +kernel
theorem d_M_strong_22 : decode b_M_strong 22 = .ok (.iaload, 1) := by decide +kernel
theorem d_M_strong_23 : decode b_M_strong 23 = .ok (.iaload, 1) := by decide +kernel
theorem d_M_strong_24 : decode b_M_strong 24 = .ok (.goto 4, 3) := by decide +kernel
theorem d_M_strong_27 : decode b_M_strong 27 = .ok (.iconst (-1), 1) := by decide +kernel
theorem d_M_strong_28 : decode b_M_strong 28 = .ok (.ireturn, 1) := by decide +kernel
theorem d_M_isRinged_0 : decode b_M_isRinged 0 = .ok (.aload_n 0, 1) := by decide +kernel
theorem d_M_isRinged_1 : decode b_M_isRinged 1 = .ok (.getfield 51, 3) := by decide +kernel
theorem d_M_isRinged_4 : decode b_M_isRinged 4 = .ok (.iload_n 1, 1) := by decide +kernel
theorem d_M_isRinged_5 : decode b_M_isRinged 5 = .ok (.iload_n 1, 1) := by decide +kernel
theorem d_M_isRinged_6 : decode b_M_isRinged 6 = .ok (.invokestatic 95, 3) := by decide +kernel
theorem d_M_isRinged_9 : decode b_M_isRinged 9 = .ok (.baload, 1) := by decide +kernel
theorem d_M_isRinged_10 : decode b_M_isRinged 10 = .ok (.ireturn, 1) := by decide +kernel
theorem d_M_state_0 : decode b_M_state 0 = .ok (.aload_n 0, 1) := by decide +kernel
theorem d_M_state_1 : decode b_M_state 1 = .ok (.iconst 0, 1) := by decide +kernel
theorem d_M_state_2 : decode b_M_state 2 = .ok (.putfield 75, 3) := by decide +kernel
theorem d_M_state_5 : decode b_M_state 5 = .ok (.aload_n 0, 1) := by decide +kernel
theorem d_M_state_6 : decode b_M_state 6 = .ok (.iload_n 1, 1) := by decide +kernel
theorem d_M_state_7 : decode b_M_state 7 = .ok (.invokevirtual 137, 3) := by decide +kernel
theorem d_M_state_10 : decode b_M_state 10 = .ok (.ifCond .ne 5, 3) := by decide +kernel
theorem d_M_state_13 : decode b_M_state 13 = .ok (.iconst (-1), 1) := by decide +kernel
theorem d_M_state_14 : decode b_M_state 14 = .ok (.ireturn, 1) := by decide +kernel
theorem d_M_state_15 : decode b_M_state 15 = .ok (.aload_n 0, 1) := by decide +kernel
theorem d_M_state_16 : decode b_M_state 16 = .ok (.aload_n 0, 1) := by decide +kernel
theorem d_M_state_17 : decode b_M_state 17 = .ok (.getfield 39, 3) := by decide +kernel
theorem d_M_state_20 : decode b_M_state 20 = .ok (.iload_n 1, 1) := by decide +kernel
theorem d_M_state_21 : decode b_M_state 21 = .ok (.iaload, 1) := by decide +kernel
theorem d_M_state_22 : decode b_M_state 22 = .ok (.invokevirtual 140, 3) := by decide +kernel
theorem d_M_state_25 : decode b_M_state 25 = .ok (.ifCond .eq 5, 3) := by decide +kernel
theorem d_M_state_28 : decode b_M_state 28 = .ok (.iconst 2, 1) := by decide +kernel
theorem d_M_state_29 : decode b_M_state 29 = .ok (.ireturn, 1) := by decide +kernel
theorem d_M_state_30 : decode b_M_state 30 = .ok (.iconst 0, 1) := by decide +kernel
theorem d_M_state_31 : decode b_M_state 31 = .ok (.istore_n 2, 1) := by decide +kernel
theorem d_M_state_32 : decode b_M_state 32 = .ok (.iconst 0, 1) := by decide +kernel
theorem d_M_state_33 : decode b_M_state 33 = .ok (.istore_n 3, 1) := by decide +kernel
theorem d_M_state_34 : decode b_M_state 34 = .ok (.iload_n 3, 1) := by decide +kernel
theorem d_M_state_35 : decode b_M_state 35 = .ok (.aload_n 0, 1) := by decide +kernel
theorem d_M_state_36 : decode b_M_state 36 = .ok (.getfield 99, 3) := by decide +kernel
theorem d_M_state_39 : decode b_M_state 39 = .ok (.if_icmp .ge 45, 3) := by decide +kernel
theorem d_M_state_42 : decode b_M_state 42 = .ok (.iload_n 2, 1) := by decide +kernel
theorem d_M_state_43 : decode b_M_state 43 = .ok (.ifCond .ne 29, 3) := by decide +kernel
theorem d_M_state_46 : decode b_M_state 46 = .ok (.aload_n 0, 1) := by decide +kernel
theorem d_M_state_47 : decode b_M_state 47 = .ok (.getfield 51, 3) := by decide +kernel
theorem d_M_state_50 : decode b_M_state 50 = .ok (.aload_n 0, 1) := by decide +kernel
theorem d_M_state_51 : decode b_M_state 51 = .ok (.getfield 39, 3) := by decide +kernel
theorem d_M_state_54 : decode b_M_state 54 = .ok (.iload_n 1, 1) := by decide +kernel
theorem d_M_state_55 : decode b_M_state 55 = .ok (.iaload, 1) := by decide +kernel
theorem d_M_state_56 : decode b_M_state 56 = .ok (.iload_n 3, 1) := by decide +kernel
theorem d_M_state_57 : decode b_M_state 57 = .ok (.invokestatic 95, 3) := by decide +kernel
theorem d_M_state_60 : decode b_M_state 60 = .ok (.baload, 1) := by decide +kernel
theorem d_M_state_61 : decode b_M_state 61 = .ok (.ifCond .eq 15, 3) := by decide +kernel
theorem d_M_state_64 : decode b_M_state 64 = .ok (.aload_n 0, 1) := by decide +kernel
theorem d_M_state_65 : decode b_M_state 65 = .ok (.iload_n 3, 1) := by decide +kernel
theorem d_M_state_66 : decode b_M_state 66 = .ok (.invokevirtual 140, 3) := by decide +kernel
theorem d_M_state_69 : decode b_M_state 69 = .ok (.ifCond .eq 7, 3) := by decide +kernel
theorem d_M_state_72 : decode b_M_state 72 = .ok (.iconst 1, 1) := by decide +kernel
theorem d_M_state_73 : decode b_M_state 73 = .ok (.goto 4, 3) := by decide +kernel
theorem d_M_state_76 : decode b_M_state 76 = .ok (.iconst 0, 1) := by decide +kernel
theorem d_M_state_77 : decode b_M_state 77 = .ok (.istore_n 2, 1) := by decide +kernel
theorem d_M_state_78 : decode b_M_state 78 = .ok (.iinc 3 1, 3) := by decide +kernel
theorem d_M_state_81 : decode b_M_state 81 = .ok (.goto (-47), 3) := by decide +kernel
theorem d_M_state_84 : decode b_M_state 84 = .ok (.iload_n 2, 1) := by decide +kernel
theorem d_M_state_85 : decode b_M_state 85 = .ok (.ifCond .eq 7, 3) := by decide +kernel
theorem d_M_state_88 : decode b_M_state 88 = .ok (.iconst 1, 1) := by decide +kernel
theorem d_M_state_89 : decode b_M_state 89 = .ok (.goto 4, 3) := by decide +kernel
theorem d_M_state_92 : decode b_M_state 92 = .ok (.iconst 0, 1) := by decide +kernel
theorem d_M_state_93 : decode b_M_state 93 = .ok (.ireturn, 1) := by decide +kernel
theorem d_M_least_0 : decode b_M_least 0 = .ok (.aload_n 0, 1) := by decide +kernel
theorem d_M_least_1 : decode b_M_least 1 = .ok (.iconst 0, 1) := by decide +kernel
theorem d_M_least_2 : decode b_M_least 2 = .ok (.putfield 75, 3) := by decide +kernel
theorem d_M_least_5 : decode b_M_least 5 = .ok (.aload_n 0, 1) := by decide +kernel
theorem d_M_least_6 : decode b_M_least 6 = .ok (.iload_n 1, 1) := by decide +kernel
theorem d_M_least_7 : decode b_M_least 7 = .ok (.invokevirtual 137, 3) := by decide +kernel
theorem d_M_least_10 : decode b_M_least 10 = .ok (.ifCond .eq 17, 3) := by decide +kernel
theorem d_M_least_13 : decode b_M_least 13 = .ok (.aload_n 0, 1) := by decide +kernel
theorem d_M_least_14 : decode b_M_least 14 = .ok (.getfield 45, 3) := by decide +kernel
theorem d_M_least_17 : decode b_M_least 17 = .ok (.aload_n 0, 1) := by decide +kernel
theorem d_M_least_18 : decode b_M_least 18 = .ok (.getfield 39, 3) := by decide +kernel
theorem d_M_least_21 : decode b_M_least 21 = .ok (.iload_n 1, 1) := by decide +kernel
theorem d_M_least_22 : decode b_M_least 22 = .ok (.iaload, 1) := by decide +kernel
theorem d_M_least_23 : decode b_M_least 23 = .ok (.iaload, 1) := by decide +kernel
theorem d_M_least_24 : decode b_M_least 24 = .ok (.goto 4, 3) := by decide +kernel
theorem d_M_least_27 : decode b_M_least 27 = .ok (.iconst (-1), 1) := by decide +kernel
theorem d_M_least_28 : decode b_M_least 28 = .ok (.ireturn, 1) := by decide +kernel
theorem d_M_ask_0 : decode b_M_ask 0 = .ok (.aload_n 0, 1) := by decide +kernel
theorem d_M_ask_1 : decode b_M_ask 1 = .ok (.iconst 0, 1) := by decide +kernel
theorem d_M_ask_2 : decode b_M_ask 2 = .ok (.putfield 75, 3) := by decide +kernel
theorem d_M_ask_5 : decode b_M_ask 5 = .ok (.aload_n 0, 1) := by decide +kernel
theorem d_M_ask_6 : decode b_M_ask 6 = .ok (.getfield 29, 3) := by decide +kernel
theorem d_M_ask_9 : decode b_M_ask 9 = .ok (.iconst (-1), 1) := by decide +kernel
theorem d_M_ask_10 : decode b_M_ask 10 = .ok (.if_icmp .eq 11, 3) := by decide +kernel
theorem d_M_ask_13 : decode b_M_ask 13 = .ok (.aload_n 0, 1) := by decide +kernel
theorem d_M_ask_14 : decode b_M_ask 14 = .ok (.iload_n 1, 1) := by decide +kernel
theorem d_M_ask_15 : decode b_M_ask 15 = .ok (.invokevirtual 81, 3) := by decide +kernel
theorem d_M_ask_18 : decode b_M_ask 18 = .ok (.ifCond .ne 5, 3) := by decide +kernel
theorem d_M_ask_21 : decode b_M_ask 21 = .ok (.iconst (-1), 1) := by decide +kernel
theorem d_M_ask_22 : decode b_M_ask 22 = .ok (.ireturn, 1) := by decide +kernel
theorem d_M_ask_23 : decode b_M_ask 23 = .ok (.iconst 0, 1) := by decide +kernel
theorem d_M_ask_24 : decode b_M_ask 24 = .ok (.istore_n 2, 1) := by decide +kernel
theorem d_M_ask_25 : decode b_M_ask 25 = .ok (.iload_n 2, 1) := by decide +kernel
theorem d_M_ask_26 : decode b_M_ask 26 = .ok (.aload_n 0, 1) := by decide +kernel
theorem d_M_ask_27 : decode b_M_ask 27 = .ok (.getfield 78, 3) := by decide +kernel
theorem d_M_ask_30 : decode b_M_ask 30 = .ok (.if_icmp .ge 23, 3) := by decide +kernel
theorem d_M_ask_33 : decode b_M_ask 33 = .ok (.aload_n 0, 1) := by decide +kernel
theorem d_M_ask_34 : decode b_M_ask 34 = .ok (.getfield 69, 3) := by decide +kernel
theorem d_M_ask_37 : decode b_M_ask 37 = .ok (.iload_n 2, 1) := by decide +kernel
theorem d_M_ask_38 : decode b_M_ask 38 = .ok (.iconst 0, 1) := by decide +kernel
theorem d_M_ask_39 : decode b_M_ask 39 = .ok (.iastore, 1) := by decide +kernel
theorem d_M_ask_40 : decode b_M_ask 40 = .ok (.aload_n 0, 1) := by decide +kernel
theorem d_M_ask_41 : decode b_M_ask 41 = .ok (.getfield 72, 3) := by decide +kernel
theorem d_M_ask_44 : decode b_M_ask 44 = .ok (.iload_n 2, 1) := by decide +kernel
theorem d_M_ask_45 : decode b_M_ask 45 = .ok (.iconst 0, 1) := by decide +kernel
theorem d_M_ask_46 : decode b_M_ask 46 = .ok (.iastore, 1) := by decide +kernel
theorem d_M_ask_47 : decode b_M_ask 47 = .ok (.iinc 2 1, 3) := by decide +kernel
theorem d_M_ask_50 : decode b_M_ask 50 = .ok (.goto (-25), 3) := by decide +kernel
theorem d_M_ask_53 : decode b_M_ask 53 = .ok (.aload_n 0, 1) := by decide +kernel
theorem d_M_ask_54 : decode b_M_ask 54 = .ok (.iconst 0, 1) := by decide +kernel
theorem d_M_ask_55 : decode b_M_ask 55 = .ok (.putfield 143, 3) := by decide +kernel
theorem d_M_ask_58 : decode b_M_ask 58 = .ok (.aload_n 0, 1) := by decide +kernel
theorem d_M_ask_59 : decode b_M_ask 59 = .ok (.getfield 69, 3) := by decide +kernel
theorem d_M_ask_62 : decode b_M_ask 62 = .ok (.iload_n 1, 1) := by decide +kernel
theorem d_M_ask_63 : decode b_M_ask 63 = .ok (.iconst 1, 1) := by decide +kernel
theorem d_M_ask_64 : decode b_M_ask 64 = .ok (.iastore, 1) := by decide +kernel
theorem d_M_ask_65 : decode b_M_ask 65 = .ok (.aload_n 0, 1) := by decide +kernel
theorem d_M_ask_66 : decode b_M_ask 66 = .ok (.getfield 66, 3) := by decide +kernel
theorem d_M_ask_69 : decode b_M_ask 69 = .ok (.iconst 0, 1) := by decide +kernel
theorem d_M_ask_70 : decode b_M_ask 70 = .ok (.iload_n 1, 1) := by decide +kernel
theorem d_M_ask_71 : decode b_M_ask 71 = .ok (.iastore, 1) := by decide +kernel
theorem d_M_ask_72 : decode b_M_ask 72 = .ok (.iconst 1, 1) := by decide +kernel
theorem d_M_ask_73 : decode b_M_ask 73 = .ok (.istore_n 2, 1) := by decide +kernel
theorem d_M_ask_74 : decode b_M_ask 74 = .ok (.iload_n 2, 1) := by decide +kernel
theorem d_M_ask_75 : decode b_M_ask 75 = .ok (.ifCond .le 170, 3) := by decide +kernel
theorem d_M_ask_78 : decode b_M_ask 78 = .ok (.aload_n 0, 1) := by decide +kernel
theorem d_M_ask_79 : decode b_M_ask 79 = .ok (.getfield 66, 3) := by decide +kernel
theorem d_M_ask_82 : decode b_M_ask 82 = .ok (.iload_n 2, 1) := by decide +kernel
theorem d_M_ask_83 : decode b_M_ask 83 = .ok (.iconst 1, 1) := by decide +kernel
theorem d_M_ask_84 : decode b_M_ask 84 = .ok (.isub, 1) := by decide +kernel
theorem d_M_ask_85 : decode b_M_ask 85 = .ok (.iaload, 1) := by decide +kernel
theorem d_M_ask_86 : decode b_M_ask 86 = .ok (.istore_n 3, 1) := by decide +kernel
theorem d_M_ask_87 : decode b_M_ask 87 = .ok (.aload_n 0, 1) := by decide +kernel
theorem d_M_ask_88 : decode b_M_ask 88 = .ok (.getfield 72, 3) := by decide +kernel
theorem d_M_ask_91 : decode b_M_ask 91 = .ok (.iload_n 3, 1) := by decide +kernel
theorem d_M_ask_92 : decode b_M_ask 92 = .ok (.iaload, 1) := by decide +kernel
theorem d_M_ask_93 : decode b_M_ask 93 = .ok (.istore 4, 2) := by decide +kernel
theorem d_M_ask_95 : decode b_M_ask 95 = .ok (.aload_n 0, 1) := by decide +kernel
theorem d_M_ask_96 : decode b_M_ask 96 = .ok (.getfield 72, 3) := by decide +kernel
theorem d_M_ask_99 : decode b_M_ask 99 = .ok (.iload_n 3, 1) := by decide +kernel
theorem d_M_ask_100 : decode b_M_ask 100 = .ok (.dup2, 1) := by decide +kernel
theorem d_M_ask_101 : decode b_M_ask 101 = .ok (.iaload, 1) := by decide +kernel
theorem d_M_ask_102 : decode b_M_ask 102 = .ok (.iconst 1, 1) := by decide +kernel
theorem d_M_ask_103 : decode b_M_ask 103 = .ok (.iadd, 1) := by decide +kernel
theorem d_M_ask_104 : decode b_M_ask 104 = .ok (.iastore, 1) := by decide +kernel
theorem d_M_ask_105 : decode b_M_ask 105 = .ok (.iload 4, 2) := by decide +kernel
theorem d_M_ask_107 : decode b_M_ask 107 = .ok (.aload_n 0, 1) := by decide +kernel
theorem d_M_ask_108 : decode b_M_ask 108 = .ok (.getfield 85, 3) := by decide +kernel
theorem d_M_ask_111 : decode b_M_ask 111 = .ok (.if_icmp .ne 16, 3) := by decide +kernel
theorem d_M_ask_114 : decode b_M_ask 114 = .ok (.aload_n 0, 1) := by decide +kernel
theorem d_M_ask_115 : decode b_M_ask 115 = .ok (.getfield 69, 3) := by decide +kernel
theorem d_M_ask_118 : decode b_M_ask 118 = .ok (.iload_n 3, 1) := by decide +kernel
theorem d_M_ask_119 : decode b_M_ask 119 = .ok (.iconst 2, 1) := by decide +kernel
theorem d_M_ask_120 : decode b_M_ask 120 = .ok (.iastore, 1) := by decide +kernel
theorem d_M_ask_121 : decode b_M_ask 121 = .ok (.iinc 2 (-1), 3) := by decide +kernel
theorem d_M_ask_124 : decode b_M_ask 124 = .ok (.goto (-50), 3) := by decide +kernel
theorem d_M_ask_127 : decode b_M_ask 127 = .ok (.aload_n 0, 1) := by decide +kernel
theorem d_M_ask_128 : decode b_M_ask 128 = .ok (.getfield 25, 3) := by decide +kernel
theorem d_M_ask_131 : decode b_M_ask 131 = .ok (.iload 4, 2) := by decide +kernel
theorem d_M_ask_133 : decode b_M_ask 133 = .ok (.baload, 1) := by decide +kernel
theorem d_M_ask_134 : decode b_M_ask 134 = .ok (.ifCond .ne (-60), 3) := by decide +kernel
theorem d_M_ask_137 : decode b_M_ask 137 = .ok (.aload_n 0, 1) := by decide +kernel
theorem d_M_ask_138 : decode b_M_ask 138 = .ok (.getfield 22, 3) := by decide +kernel
theorem d_M_ask_141 : decode b_M_ask 141 = .ok (.iload 4, 2) := by decide +kernel
theorem d_M_ask_143 : decode b_M_ask 143 = .ok (.iaload, 1) := by decide +kernel
theorem d_M_ask_144 : decode b_M_ask 144 = .ok (.aload_n 0, 1) := by decide +kernel
theorem d_M_ask_145 : decode b_M_ask 145 = .ok (.getfield 29, 3) := by decide +kernel
theorem d_M_ask_148 : decode b_M_ask 148 = .ok (.ishr, 1) := by decide +kernel
theorem d_M_ask_149 : decode b_M_ask 149 = .ok (.iconst 1, 1) := by decide +kernel
theorem d_M_ask_150 : decode b_M_ask 150 = .ok (.iand, 1) := by decide +kernel
theorem d_M_ask_151 : decode b_M_ask 151 = .ok (.ifCond .eq (-77), 3) := by decide +kernel
theorem d_M_ask_154 : decode b_M_ask 154 = .ok (.aload_n 0, 1) := by decide +kernel
theorem d_M_ask_155 : decode b_M_ask 155 = .ok (.getfield 13, 3) := by decide +kernel
theorem d_M_ask_158 : decode b_M_ask 158 = .ok (.iload 4, 2) := by decide +kernel
theorem d_M_ask_160 : decode b_M_ask 160 = .ok (.iaload, 1) := by decide +kernel
theorem d_M_ask_161 : decode b_M_ask 161 = .ok (.iload_n 3, 1) := by decide +kernel
theorem d_M_ask_162 : decode b_M_ask 162 = .ok (.if_icmp .ne (-88), 3) := by decide +kernel
theorem d_M_ask_165 : decode b_M_ask 165 = .ok (.aload_n 0, 1) := by decide +kernel
theorem d_M_ask_166 : decode b_M_ask 166 = .ok (.getfield 69, 3) := by decide +kernel
theorem d_M_ask_169 : decode b_M_ask 169 = .ok (.aload_n 0, 1) := by decide +kernel
theorem d_M_ask_170 : decode b_M_ask 170 = .ok (.getfield 16, 3) := by decide +kernel
theorem d_M_ask_173 : decode b_M_ask 173 = .ok (.iload 4, 2) := by decide +kernel
theorem d_M_ask_175 : decode b_M_ask 175 = .ok (.iaload, 1) := by decide +kernel
theorem d_M_ask_176 : decode b_M_ask 176 = .ok (.iaload, 1) := by decide +kernel
theorem d_M_ask_177 : decode b_M_ask 177 = .ok (.iconst 2, 1) := by decide +kernel
theorem d_M_ask_178 : decode b_M_ask 178 = .ok (.if_icmp .ne 6, 3) := by decide +kernel
theorem d_M_ask_181 : decode b_M_ask 181 = .ok (.goto (-107), 3) := by decide +kernel
theorem d_M_ask_184 : decode b_M_ask 184 = .ok (.aload_n 0, 1) := by decide +kernel
theorem d_M_ask_185 : decode b_M_ask 185 = .ok (.getfield 69, 3) := by decide +kernel
theorem d_M_ask_188 : decode b_M_ask 188 = .ok (.aload_n 0, 1) := by decide +kernel
theorem d_M_ask_189 : decode b_M_ask 189 = .ok (.getfield 16, 3) := by decide +kernel
theorem d_M_ask_192 : decode b_M_ask 192 = .ok (.iload 4, 2) := by decide +kernel
theorem d_M_ask_194 : decode b_M_ask 194 = .ok (.iaload, 1) := by decide +kernel
theorem d_M_ask_195 : decode b_M_ask 195 = .ok (.iaload, 1) := by decide +kernel
theorem d_M_ask_196 : decode b_M_ask 196 = .ok (.iconst 1, 1) := by decide +kernel
theorem d_M_ask_197 : decode b_M_ask 197 = .ok (.if_icmp .ne 16, 3) := by decide +kernel
theorem d_M_ask_200 : decode b_M_ask 200 = .ok (.aload_n 0, 1) := by decide +kernel
theorem d_M_ask_201 : decode b_M_ask 201 = .ok (.iload_n 2, 1) := by decide +kernel
theorem d_M_ask_202 : decode b_M_ask 202 = .ok (.aload_n 0, 1) := by decide +kernel
theorem d_M_ask_203 : decode b_M_ask 203 = .ok (.getfield 16, 3) := by decide +kernel
theorem d_M_ask_206 : decode b_M_ask 206 = .ok (.iload 4, 2) := by decide +kernel
theorem d_M_ask_208 : decode b_M_ask 208 = .ok (.iaload, 1) := by decide +kernel
theorem d_M_ask_209 : decode b_M_ask 209 = .ok (.invokevirtual 146, 3) := by decide +kernel
theorem d_M_ask_212 : decode b_M_ask 212 = .ok (.ireturn, 1) := by decide +kernel
theorem d_M_ask_213 : decode b_M_ask 213 = .ok (.aload_n 0, 1) := by decide +kernel
theorem d_M_ask_214 : decode b_M_ask 214 = .ok (.getfield 69, 3) := by decide +kernel
theorem d_M_ask_217 : decode b_M_ask 217 = .ok (.aload_n 0, 1) := by decide +kernel
theorem d_M_ask_218 : decode b_M_ask 218 = .ok (.getfield 16, 3) := by decide +kernel
theorem d_M_ask_221 : decode b_M_ask 221 = .ok (.iload 4, 2) := by decide +kernel
theorem d_M_ask_223 : decode b_M_ask 223 = .ok (.iaload, 1) := by decide +kernel
theorem d_M_ask_224 : decode b_M_ask 224 = .ok (.iconst 1, 1) := by decide +kernel
theorem d_M_ask_225 : decode b_M_ask 225 = .ok (.iastore, 1) := by decide +kernel
theorem d_M_ask_226 : decode b_M_ask 226 = .ok (.aload_n 0, 1) := by decide +kernel
theorem d_M_ask_227 : decode b_M_ask 227 = .ok (.getfield 66, 3) := by decide +kernel
theorem d_M_ask_230 : decode b_M_ask 230 = .ok (.iload_n 2, 1) := by decide +kernel
theorem d_M_ask_231 : decode b_M_ask 231 = .ok (.aload_n 0, 1) := by decide +kernel
theorem d_M_ask_232 : decode b_M_ask 232 = .ok (.getfield 16, 3) := by decide +kernel
theorem d_M_ask_235 : decode b_M_ask 235 = .ok (.iload 4, 2) := by decide +kernel
theorem d_M_ask_237 : decode b_M_ask 237 = .ok (.iaload, 1) := by decide +kernel
theorem d_M_ask_238 : decode b_M_ask 238 = .ok (.iastore, 1) := by decide +kernel
theorem d_M_ask_239 : decode b_M_ask 239 = .ok (.iinc 2 1, 3) := by decide +kernel
theorem d_M_ask_242 : decode b_M_ask 242 = .ok (.goto (-168), 3) := by decide +kernel
theorem d_M_ask_245 : decode b_M_ask 245 = .ok (.iconst 0, 1) := by decide +kernel
theorem d_M_ask_246 : decode b_M_ask 246 = .ok (.ireturn, 1) := by decide +kernel
theorem d_M_ringOf_0 : decode b_M_ringOf 0 = .ok (.iconst 0, 1) := by decide +kernel
theorem d_M_ringOf_1 : decode b_M_ringOf 1 = .ok (.istore_n 3, 1) := by decide +kernel
theorem d_M_ringOf_2 : decode b_M_ringOf 2 = .ok (.aload_n 0, 1) := by decide +kernel
theorem d_M_ringOf_3 : decode b_M_ringOf 3 = .ok (.getfield 66, 3) := by decide +kernel
theorem d_M_ringOf_6 : decode b_M_ringOf 6 = .ok (.iload_n 3, 1) := by decide +kernel
theorem d_M_ringOf_7 : decode b_M_ringOf 7 = .ok (.iaload, 1) := by decide +kernel
theorem d_M_ringOf_8 : decode b_M_ringOf 8 = .ok (.iload_n 2, 1) := by decide +kernel
theorem d_M_ringOf_9 : decode b_M_ringOf 9 = .ok (.if_icmp .eq 9, 3) := by decide +kernel
theorem d_M_ringOf_12 : decode b_M_ringOf 12 = .ok (.iinc 3 1, 3) := by decide +kernel
theorem d_M_ringOf_15 : decode b_M_ringOf 15 = .ok (.goto (-13), 3) := by decide +kernel
theorem d_M_ringOf_18 : decode b_M_ringOf 18 = .ok (.aload_n 0, 1) := by decide +kernel
theorem d_M_ringOf_19 : decode b_M_ringOf 19 = .ok (.iload_n 1, 1) := by decide +kernel
theorem d_M_ringOf_20 : decode b_M_ringOf 20 = .ok (.iload_n 3, 1) := by decide +kernel
theorem d_M_ringOf_21 : decode b_M_ringOf 21 = .ok (.isub, 1) := by decide +kernel
theorem d_M_ringOf_22 : decode b_M_ringOf 22 = .ok (.putfield 143, 3) := by decide +kernel
theorem d_M_ringOf_25 : decode b_M_ringOf 25 = .ok (.iconst 0, 1) := by decide +kernel
theorem d_M_ringOf_26 : decode b_M_ringOf 26 = .ok (.istore 4, 2) := by decide +kernel
theorem d_M_ringOf_28 : decode b_M_ringOf 28 = .ok (.iload 4, 2) := by decide +kernel
theorem d_M_ringOf_30 : decode b_M_ringOf 30 = .ok (.aload_n 0, 1) := by decide +kernel
theorem d_M_ringOf_31 : decode b_M_ringOf 31 = .ok (.getfield 143, 3) := by decide +kernel
theorem d_M_ringOf_34 : decode b_M_ringOf 34 = .ok (.if_icmp .ge 25, 3) := by decide +kernel
theorem d_M_ringOf_37 : decode b_M_ringOf 37 = .ok (.aload_n 0, 1) := by decide +kernel
theorem d_M_ringOf_38 : decode b_M_ringOf 38 = .ok (.getfield 66, 3) := by decide +kernel
theorem d_M_ringOf_41 : decode b_M_ringOf 41 = .ok (.iload 4, 2) := by decide +kernel
theorem d_M_ringOf_43 : decode b_M_ringOf 43 = .ok (.aload_n 0, 1) := by decide +kernel
theorem d_M_ringOf_44 : decode b_M_ringOf 44 = .ok (.getfield 66, 3) := by decide +kernel
theorem d_M_ringOf_47 : decode b_M_ringOf 47 = .ok (.iload_n 3, 1) := by decide +kernel
theorem d_M_ringOf_48 : decode b_M_ringOf 48 = .ok (.iload 4, 2) := by decide +kernel
theorem d_M_ringOf_50 : decode b_M_ringOf 50 = .ok (.iadd, 1) := by decide +kernel
theorem d_M_ringOf_51 : decode b_M_ringOf 51 = .ok (.iaload, 1) := by decide +kernel
theorem d_M_ringOf_52 : decode b_M_ringOf 52 = .ok (.iastore, 1) := by decide +kernel
theorem d_M_ringOf_53 : decode b_M_ringOf 53 = .ok (.iinc 4 1, 3) := by decide +kernel
theorem d_M_ringOf_56 : decode b_M_ringOf 56 = .ok (.goto (-28), 3) := by decide +kernel
theorem d_M_ringOf_59 : decode b_M_ringOf 59 = .ok (.aload_n 0, 1) := by decide +kernel
theorem d_M_ringOf_60 : decode b_M_ringOf 60 = .ok (.getfield 143, 3) := by decide +kernel
theorem d_M_ringOf_63 : decode b_M_ringOf 63 = .ok (.ireturn, 1) := by decide +kernel
theorem d_M_met_0 : decode b_M_met 0 = .ok (.aload_n 0, 1) := by decide +kernel
theorem d_M_met_1 : decode b_M_met 1 = .ok (.iconst 0, 1) := by decide +kernel
theorem d_M_met_2 : decode b_M_met 2 = .ok (.putfield 75, 3) := by decide +kernel
theorem d_M_met_5 : decode b_M_met 5 = .ok (.iload_n 1, 1) := by decide +kernel
theorem d_M_met_6 : decode b_M_met 6 = .ok (.ifCond .lt 11, 3) := by decide +kernel
theorem d_M_met_9 : decode b_M_met 9 = .ok (.iload_n 1, 1) := by decide +kernel
theorem d_M_met_10 : decode b_M_met 10 = .ok (.aload_n 0, 1) := by decide +kernel
theorem d_M_met_11 : decode b_M_met 11 = .ok (.getfield 143, 3) := by decide +kernel
theorem d_M_met_14 : decode b_M_met 14 = .ok (.if_icmp .lt 7, 3) := by decide +kernel
theorem d_M_met_17 : decode b_M_met 17 = .ok (.iconst (-1), 1) := by decide +kernel
theorem d_M_met_18 : decode b_M_met 18 = .ok (.goto 9, 3) := by decide +kernel
theorem d_M_met_21 : decode b_M_met 21 = .ok (.aload_n 0, 1) := by decide +kernel
theorem d_M_met_22 : decode b_M_met 22 = .ok (.getfield 66, 3) := by decide +kernel
theorem d_M_met_25 : decode b_M_met 25 = .ok (.iload_n 1, 1) := by decide +kernel
theorem d_M_met_26 : decode b_M_met 26 = .ok (.iaload, 1) := by decide +kernel
theorem d_M_met_27 : decode b_M_met 27 = .ok (.ireturn, 1) := by decide +kernel
end
section
-- values that may fail to come: what the class's code computes, as a function (none: it would leave its rows, or its rounds)
theorem FU_ex : ∃ n : Nat, n = 100000 := ⟨_, rfl⟩
noncomputable def FU : Nat := Classical.choose FU_ex
theorem FU_eq : FU = 100000 := Classical.choose_spec FU_ex
def og_ck {α : Type} (i : Int32) (n : Nat) (k : Option α) : Option α := if i < 0 ∨ n ≤ i.toNatClampNeg then none else k
def og_nz {α : Type} (y : Int32) (k : Option α) : Option α := if y = 0 then none else k
def og_bl {α : Type} (v : Int32) (k : Option α) : Option α := if v = 0 ∨ v = 1 then k else none
def og_cp {α : Type} (sp dp n : Int32) (n0 n1 : Nat) (k : Option α) : Option α := if sp < 0 ∨ dp < 0 ∨ n < 0 ∨ n0 < sp.toNatClampNeg + n.toNatClampNeg ∨ n1 < dp.toNatClampNeg + n.toNatClampNeg then none else k
def og_le {α β : Type} (v : α) (k : α → Option β) : Option β := k v
theorem og_le_s {α β : Type} {v : α} {k : α → Option β} {y : β} (h : og_le v k = some y) {x : α} (hx : x = v) : k x = some y := by subst hx; exact h
theorem og_ck_s {α : Type} {i : Int32} {n : Nat} {k : Option α} {y : α} (h : og_ck i n k = some y) : vp_in i n ∧ k = some y := by
  unfold og_ck at h
  by_cases hc : i < 0 ∨ n ≤ i.toNatClampNeg
  · rw [if_pos hc] at h; cases h
  · rw [if_neg hc] at h; exact ⟨hc, h⟩
theorem og_ck_in {α : Type} {i : Int32} {n : Nat} {k : Option α} (h : vp_in i n) : og_ck i n k = k := if_neg h
theorem og_nz_s {α : Type} {v : Int32} {k : Option α} {y : α} (h : og_nz v k = some y) : ¬ v = 0 ∧ k = some y := by
  unfold og_nz at h
  by_cases hc : v = 0
  · rw [if_pos hc] at h; cases h
  · rw [if_neg hc] at h; exact ⟨hc, h⟩
theorem og_bl_s {α : Type} {v : Int32} {k : Option α} {y : α} (h : og_bl v k = some y) : narrow .boolean (.int v) = .int v ∧ k = some y := by
  unfold og_bl at h
  by_cases hc : v = 0 ∨ v = 1
  · rw [if_pos hc] at h
    refine ⟨?_, h⟩
    rcases hc with rfl | rfl <;> rfl
  · rw [if_neg hc] at h; cases h
theorem og_cp_s {α : Type} {sp dp n : Int32} {n0 n1 : Nat} {k : Option α} {y : α} (h : og_cp sp dp n n0 n1 k = some y) : (¬ sp < 0 ∧ ¬ dp < 0 ∧ ¬ n < 0 ∧ sp.toNatClampNeg + n.toNatClampNeg ≤ n0 ∧ dp.toNatClampNeg + n.toNatClampNeg ≤ n1) ∧ k = some y := by
  unfold og_cp at h
  by_cases hc : sp < 0 ∨ dp < 0 ∨ n < 0 ∨ n0 < sp.toNatClampNeg + n.toNatClampNeg ∨ n1 < dp.toNatClampNeg + n.toNatClampNeg
  · rw [if_pos hc] at h; cases h
  · rw [if_neg hc] at h
    exact ⟨⟨fun q => hc (Or.inl q), fun q => hc (Or.inr (Or.inl q)), fun q => hc (Or.inr (Or.inr (Or.inl q))), Nat.not_lt.mp fun q => hc (Or.inr (Or.inr (Or.inr (Or.inl q)))), Nat.not_lt.mp fun q => hc (Or.inr (Or.inr (Or.inr (Or.inr q))))⟩, h⟩
theorem og_t {α : Type} {c : Prop} [Decidable c] {a b : Option α} {y : α} (h : (if c then a else b) = some y) (hc : c) : a = some y := by rw [if_pos hc] at h; exact h
theorem og_f {α : Type} {c : Prop} [Decidable c] {a b : Option α} {y : α} (h : (if c then a else b) = some y) (hc : ¬ c) : b = some y := by rw [if_neg hc] at h; exact h
theorem og_b {α β : Type} {x : Option α} {k : α → Option β} {y : β} (h : x.bind k = some y) : ∃ r, x = some r ∧ k r = some y := by
  cases x with
  | none => cases h
  | some r => exact ⟨r, rfl, h⟩
-- a contract's start and end: a method that only looks, and one that changes its cells
def og_Pr (av : List Value) (D : va_G) (ws : va_W) (tys : List (ClassId × FieldType)) : Array Value → State → Prop := va_Pc av (fun U => va_P D vwCl ws U.heap ∧ va_K D vwCl tys U)
def og_Pw (av : List Value) (D : va_G) (ws : va_W) (tys : List (ClassId × FieldType)) (sz : Nat) : Array Value → State → Prop := va_Pc av (fun U => U.heap.size = sz ∧ va_P D vwCl ws U.heap ∧ va_K D vwCl tys U ∧ va_D (fun _ => True) ws)
def og_B (D : va_G) (ws : va_W) (tys : List (ClassId × FieldType)) (A : Nat → Prop) : Unit → State → Prop := fun _ t => va_P D vwCl ws t.heap ∧ va_K D vwCl tys t ∧ va_D A ws
def og_Qi (D : va_G) (ws : va_W) (tys : List (ClassId × FieldType)) (y : Int32) (A : Nat → Prop) : Array Value → State → Outcome → State → Prop := va_Qi (fun (r : Int32) (_ : Unit) => r = y) (og_B D ws tys A) A
def og_Qv (D : va_G) (ws : va_W) (tys : List (ClassId × FieldType)) (A : Nat → Prop) : Array Value → State → Outcome → State → Prop := va_Qv (fun (_ : Unit) => True) (og_B D ws tys A) A
theorem og_Pr_bl (av : List Value) (D : va_G) (ws : va_W) (tys : List (ClassId × FieldType)) : FrameBlind (og_Pr av D ws tys) := fun a U g mk q => ⟨q.1, q.2.1, va_K.moved (u := U) (U := U.calling g mk a) (Vm.Alike.refl U.vm) q.2.2⟩
theorem og_Pw_bl (av : List Value) (D : va_G) (ws : va_W) (tys : List (ClassId × FieldType)) (sz : Nat) : FrameBlind (og_Pw av D ws tys sz) := fun a U g mk q => ⟨q.1, q.2.1, q.2.2.1, va_K.moved (u := U) (U := U.calling g mk a) (Vm.Alike.refl U.vm) q.2.2.2.1, q.2.2.2.2⟩
theorem og_subP {D : va_G} {cl : List vw_C} {ws wc : va_W} {H : Heap} (h : va_P D cl ws H) (is : List Nat) (hs : is.map (fun i => ws[i]?) = wc.map some) : va_P D cl wc H := by
  intro k q hk
  have h1 : (is.map (fun i => ws[i]?))[k]? = some (some q) := by rw [hs, List.getElem?_map, hk]; rfl
  rw [List.getElem?_map] at h1
  cases hi : is[k]? with
  | none => rw [hi] at h1; cases h1
  | some i => rw [hi] at h1; exact h i q (Option.some.inj h1)
theorem og_subD {A : Nat → Prop} {w w2 : va_W} (h : va_D A w) (ha : w2.map (fun q => q.1) = w.map (fun q => q.1)) : va_D A w2 := by
  have key : ∀ (k : Nat) (q : Nat × va_E), w2[k]? = some q → ∃ q0, w[k]? = some q0 ∧ q0.1 = q.1 := by
    intro k q hk
    have h1 : (w2.map (fun q => q.1))[k]? = some q.1 := by rw [List.getElem?_map, hk]; rfl
    rw [ha, List.getElem?_map] at h1
    cases hi : w[k]? with
    | none => rw [hi] at h1; cases h1
    | some q0 => rw [hi] at h1; exact ⟨q0, rfl, Option.some.inj h1⟩
  refine ⟨fun i j x y hi hj hxy => ?_, fun k q hk => ?_⟩
  · obtain ⟨x0, h1, h2⟩ := key i x hi
    obtain ⟨y0, h3, h4⟩ := key j y hj
    exact h.1 i j x0 y0 h1 h3 (h2.trans (hxy.trans h4.symm))
  · obtain ⟨q0, h1, h2⟩ := key k q hk
    rw [← h2]
    exact h.2 k q0 h1
/-- the world behind a call: the callee's cells are new, the others stand -/
theorem og_newP {D : va_G} {cl : List vw_C} {A : Nat → Prop} {w w2 wc w1 : va_W} {H H1 : Heap} (hP : va_P D cl w H) (hD : va_D A w) (is isR : List Nat) (hC : is.map (fun i => w[i]?) = wc.map some) (hn1 : is.map (fun i => w2[i]?) = w1.map some) (hn2 : isR.map (fun i => w2[i]?) = isR.map (fun i => w[i]?)) (hall : ∀ i, i < w2.length → i ∈ is ∨ i ∈ isR) (hdis : ∀ i ∈ isR, i ∉ is)
    (hk : ∀ q : Nat, q < H.size → ¬ va_A wc H.size q → H1[q]? = H[q]?) (hP1 : va_P D cl w1 H1) : va_P D cl w2 H1 := by
  intro k q hq
  have hlt : k < w2.length := (List.getElem?_eq_some_iff.mp hq).1
  rcases hall k hlt with h | h
  · obtain ⟨j, hj⟩ := List.getElem?_of_mem h
    have h1 : (is.map (fun i => w2[i]?))[j]? = some (some q) := by rw [List.getElem?_map, hj]; show some w2[k]? = _; rw [hq]
    rw [hn1, List.getElem?_map] at h1
    cases hi : w1[j]? with
    | none => rw [hi] at h1; cases h1
    | some q1 => rw [hi] at h1; have e := Option.some.inj (Option.some.inj h1); subst e; exact hP1 j _ hi
  · obtain ⟨j, hj⟩ := List.getElem?_of_mem h
    have h1 : (isR.map (fun i => w2[i]?))[j]? = some (some q) := by rw [List.getElem?_map, hj]; show some w2[k]? = _; rw [hq]
    rw [hn2, List.getElem?_map, hj] at h1
    have hw : w[k]? = some q := Option.some.inj h1
    have hl := (hP k q hw).lt
    refine (hP k q hw).kept (hk q.1 hl fun z => ?_)
    rcases z with ⟨k2, e, z⟩ | z
    · have h3 : (is.map (fun i => w[i]?))[k2]? = some (some (q.1, e)) := by rw [hC, List.getElem?_map, z]; rfl
      rw [List.getElem?_map] at h3
      cases hi : is[k2]? with
      | none => rw [hi] at h3; cases h3
      | some i =>
        rw [hi] at h3
        have hij := hD.1 k i q (q.1, e) hw (Option.some.inj h3) rfl
        subst hij
        exact hdis k h (List.mem_of_getElem? hi)
    · omega
section OGC
variable {p : Program} {l : Launch} {e : Env} {R : Room} {s : State} {m : MethodId} {args : Array Value} {below : List Frame} {meth : Method} {c : Code} {H : Heap} {locs : List Loc} {cells slots : Nat} {Q : State → Prop}
variable {y : MethodName} {bytes cc : ByteArray} {maxL nL n index : Nat} {ret : Option FieldType} {ws : List Cond} {rm : Room} {Ts : List Cond} {own C : String} {b : Addr} {As rest st : List Value} {pc : Nat} {ls : Array Slot} {D : va_G} {tys tc : List (ClassId × FieldType)} {w wc w1 w2 : va_W} {A : Nat → Prop} {H0 : Heap} {q : vw_C} {q0 ci : Nat} {fs : List Value}
/-- a call that only looks: int (or boolean) answer -/
theorem og_rV {r : Int32} (S : CallFix p m c cc nL s args Ts own) (hM : Met l y ws rm (og_Pr (.ref b :: As) D wc tc) (vp_Si (fun x => x = r)) 0 0 (fun _ => False)) (cw : CallW R s args own C index y bytes maxL ret ws rm 0 0 n) (hK : va_K D vwCl tys s) (hP : va_P D vwCl w H) (is ts : List Nat) (hi : is.map (fun i => w[i]?) = wc.map some) (ht : ts.filterMap (fun i => tys[i]?) = tc) (hc : vwCl[ci]? = some q) (hq : q.1 = C) (he : wc[q0]? = some (b, .inr (ci, fs)))
    (hn : As.length = n) (hsize : ls.size = nL) (hst : st = As.reverse ++ .ref b :: rest) (hW : (rest.map fun v => v.category).sum ≤ 8) (hdg : decode cc pc = .ok (.invokevirtual index, 3)) (hf : cells ≤ R.cells ∧ slots ≤ R.slots)
    (kk : W p l e R s m args below meth c H locs cells slots Q (F0 m (pc + 3) ls (.int r :: rest))) : W p l e R s m args below meth c H locs cells slots Q (F0 m pc ls st) := by
  have hPc := og_subP hP is hi
  have hKc := hK.sub ts ht
  subst hq
  refine vp_callSi (rest := rest) (va_Run.run (va_runV S hM cw ⟨og_Pr_bl _ _ _ _, va_recv hKc hPc hc he, fun U hU hW2 => ⟨rfl, by rw [hU]; exact hPc, va_K.moved hW2.alike hKc⟩⟩ rfl hn hsize hst (lv_room hW) hdg hf)) (fun r' hr' => ?_)
  subst hr'
  exact kk
theorem og_rVl {r : Int64} (S : CallFix p m c cc nL s args Ts own) (hM : Met l y ws rm (og_Pr (.ref b :: As) D wc tc) (vp_Sl (fun x => x = r)) 0 0 (fun _ => False)) (cw : CallW R s args own C index y bytes maxL ret ws rm 0 0 n) (hK : va_K D vwCl tys s) (hP : va_P D vwCl w H) (is ts : List Nat) (hi : is.map (fun i => w[i]?) = wc.map some) (ht : ts.filterMap (fun i => tys[i]?) = tc) (hc : vwCl[ci]? = some q) (hq : q.1 = C) (he : wc[q0]? = some (b, .inr (ci, fs)))
    (hn : As.length = n) (hsize : ls.size = nL) (hst : st = As.reverse ++ .ref b :: rest) (hW : (rest.map fun v => v.category).sum ≤ 8) (hdg : decode cc pc = .ok (.invokevirtual index, 3)) (hf : cells ≤ R.cells ∧ slots ≤ R.slots)
    (kk : W p l e R s m args below meth c H locs cells slots Q (F0 m (pc + 3) ls (.long r :: rest))) : W p l e R s m args below meth c H locs cells slots Q (F0 m pc ls st) := by
  have hPc := og_subP hP is hi
  have hKc := hK.sub ts ht
  subst hq
  refine vp_callSl (rest := rest) (va_Run.run (va_runV S hM cw ⟨og_Pr_bl _ _ _ _, va_recv hKc hPc hc he, fun U hU hW2 => ⟨rfl, by rw [hU]; exact hPc, va_K.moved hW2.alike hKc⟩⟩ rfl hn hsize hst (lv_room hW) hdg hf)) (fun r' hr' => ?_)
  subst hr'
  exact kk
/-- a static call that only looks -/
theorem og_rS {r : Int32} (S : CallFix p m c cc nL s args Ts own) (hM : Met l y ws rm (og_Pr As D wc tc) (vp_Si (fun x => x = r)) 0 0 (fun _ => False)) (cw : CallB R s args own index y bytes maxL ret ws rm 0 0 n ∧ (Cond.static y).before args s = true) (hK : va_K D vwCl tys s) (hP : va_P D vwCl w H) (is ts : List Nat) (hi : is.map (fun i => w[i]?) = wc.map some) (ht : ts.filterMap (fun i => tys[i]?) = tc)
    (hn : As.length = n) (hsize : ls.size = nL) (hst : st = As.reverse ++ rest) (hW : (rest.map fun v => v.category).sum ≤ 8) (hdg : decode cc pc = .ok (.invokestatic index, 3)) (hf : cells ≤ R.cells ∧ slots ≤ R.slots)
    (kk : W p l e R s m args below meth c H locs cells slots Q (F0 m (pc + 3) ls (.int r :: rest))) : W p l e R s m args below meth c H locs cells slots Q (F0 m pc ls st) := by
  have hPc := og_subP hP is hi
  have hKc := hK.sub ts ht
  refine vp_callSi (rest := rest) (va_Run.run (va_runS S hM cw ⟨og_Pr_bl _ _ _ _, fun U hU hW2 => ⟨rfl, by rw [hU]; exact hPc, va_K.moved hW2.alike hKc⟩⟩ rfl hn hsize hst (lv_room hW) hdg hf)) (fun r' hr' => ?_)
  subst hr'
  exact kk
/-- a call that changes its cells: int (or boolean) answer -/
theorem og_wV {r : Int32} (S : CallFix p m c cc nL s args Ts own) (hM : Met l y ws rm (og_Pw (.ref b :: As) D wc tc H.size) (og_Qi D w1 tc r (va_A wc H.size)) 0 0 (va_A wc H.size)) (cw : CallW R s args own C index y bytes maxL ret ws rm 0 0 n) (hK : va_K D vwCl tys s) (hP : va_P D vwCl w H) (hD : va_D A w) (hS : va_S A H0 H locs) (hA : ∀ q, H0.size ≤ q → A q) (is isR ts : List Nat) (hi : is.map (fun i => w[i]?) = wc.map some) (ht : ts.filterMap (fun i => tys[i]?) = tc)
    (hn1 : is.map (fun i => w2[i]?) = w1.map some) (hn2 : isR.map (fun i => w2[i]?) = isR.map (fun i => w[i]?)) (ha : w2.map (fun q => q.1) = w.map (fun q => q.1)) (nw : Nat) (hnw : w2.length = nw) (hall : ∀ i, i < nw → i ∈ is ∨ i ∈ isR) (hdis : ∀ i ∈ isR, i ∉ is) (hnd : va_nd is = true) (hc : vwCl[ci]? = some q) (hq : q.1 = C) (he : wc[q0]? = some (b, .inr (ci, fs)))
    (hn : As.length = n) (hsize : ls.size = nL) (hst : st = As.reverse ++ .ref b :: rest) (hW : (rest.map fun v => v.category).sum ≤ 8) (hdg : decode cc pc = .ok (.invokevirtual index, 3)) (hf : cells ≤ R.cells ∧ slots ≤ R.slots)
    (kk : ∀ (H1 : Heap) (locs1 : List Loc), va_P D vwCl w2 H1 → va_D A w2 → va_S A H0 H1 locs1 → W p l e R s m args below meth c H1 locs1 cells slots Q (F0 m (pc + 3) ls (.int r :: rest))) : W p l e R s m args below meth c H locs cells slots Q (F0 m pc ls st) := by
  have hPc := og_subP hP is hi
  have hKc := hK.sub ts ht
  have hDc := hD.sub is hnd hi
  have hFc := va_free hD hS hA is hi
  subst hq
  refine va_calli (rest := rest) (va_runV S hM cw ⟨og_Pw_bl _ _ _ _ _, va_recv hKc hPc hc he, fun U hU hW2 => ⟨rfl, by rw [hU], by rw [hU]; exact hPc, va_K.moved hW2.alike hKc, hDc.weaken (fun _ _ _ _ => trivial)⟩⟩ rfl hn hsize hst (lv_room hW) hdg hf) hS (fun q _ h => hFc q h) hFc (fun r' u t H1 locs1 ht2 hvm hw hB hz1 hk1 hS1 => ?_)
  subst hw
  obtain ⟨hP1, hK1, hD1⟩ := hB
  rw [ht2] at hP1
  exact kk H1 locs1 (og_newP hP hD is isR hi hn1 hn2 (fun i h => hall i (by rw [← hnw]; exact h)) hdis hk1 hP1) (og_subD hD ha) hS1
/-- the same, without an answer -/
theorem og_wVv (S : CallFix p m c cc nL s args Ts own) (hM : Met l y ws rm (og_Pw (.ref b :: As) D wc tc H.size) (og_Qv D w1 tc (va_A wc H.size)) 0 0 (va_A wc H.size)) (cw : CallW R s args own C index y bytes maxL ret ws rm 0 0 n) (hK : va_K D vwCl tys s) (hP : va_P D vwCl w H) (hD : va_D A w) (hS : va_S A H0 H locs) (hA : ∀ q, H0.size ≤ q → A q) (is isR ts : List Nat) (hi : is.map (fun i => w[i]?) = wc.map some) (ht : ts.filterMap (fun i => tys[i]?) = tc)
    (hn1 : is.map (fun i => w2[i]?) = w1.map some) (hn2 : isR.map (fun i => w2[i]?) = isR.map (fun i => w[i]?)) (ha : w2.map (fun q => q.1) = w.map (fun q => q.1)) (nw : Nat) (hnw : w2.length = nw) (hall : ∀ i, i < nw → i ∈ is ∨ i ∈ isR) (hdis : ∀ i ∈ isR, i ∉ is) (hnd : va_nd is = true) (hc : vwCl[ci]? = some q) (hq : q.1 = C) (he : wc[q0]? = some (b, .inr (ci, fs)))
    (hn : As.length = n) (hsize : ls.size = nL) (hst : st = As.reverse ++ .ref b :: rest) (hW : (rest.map fun v => v.category).sum ≤ 8) (hdg : decode cc pc = .ok (.invokevirtual index, 3)) (hf : cells ≤ R.cells ∧ slots ≤ R.slots)
    (kk : ∀ (H1 : Heap) (locs1 : List Loc), va_P D vwCl w2 H1 → va_D A w2 → va_S A H0 H1 locs1 → W p l e R s m args below meth c H1 locs1 cells slots Q (F0 m (pc + 3) ls rest)) : W p l e R s m args below meth c H locs cells slots Q (F0 m pc ls st) := by
  have hPc := og_subP hP is hi
  have hKc := hK.sub ts ht
  have hDc := hD.sub is hnd hi
  have hFc := va_free hD hS hA is hi
  subst hq
  refine va_callv (rest := rest) (va_runV S hM cw ⟨og_Pw_bl _ _ _ _ _, va_recv hKc hPc hc he, fun U hU hW2 => ⟨rfl, by rw [hU], by rw [hU]; exact hPc, va_K.moved hW2.alike hKc, hDc.weaken (fun _ _ _ _ => trivial)⟩⟩ rfl hn hsize hst (lv_room hW) hdg hf) hS (fun q _ h => hFc q h) hFc (fun u t H1 locs1 ht2 hvm hw hB hz1 hk1 hS1 => ?_)
  obtain ⟨hP1, hK1, hD1⟩ := hB
  rw [ht2] at hP1
  exact kk H1 locs1 (og_newP hP hD is isR hi hn1 hn2 (fun i h => hall i (by rw [← hnw]; exact h)) hdis hk1 hP1) (og_subD hD ha) hS1
end OGC
end
section
noncomputable def fX_bitCount (p0 : Int64) : Option (Int32) :=
  og_le ((p0 - ((p0.toUInt64 >>> ((1 : Int32).toInt64.toUInt64 &&& Int64.toUInt64 63)).toInt64 &&& 6148914691236517205)) : Int64) fun x9 =>
  og_le (((x9 &&& 3689348814741910323) + ((x9.toUInt64 >>> ((2 : Int32).toInt64.toUInt64 &&& Int64.toUInt64 63)).toInt64 &&& 3689348814741910323)) : Int64) fun x23 =>
  og_le (((x23 + (x23.toUInt64 >>> ((4 : Int32).toInt64.toUInt64 &&& Int64.toUInt64 63)).toInt64) &&& 1085102592571150095) : Int64) fun x33 =>
  og_le ((x33 + (x33.toUInt64 >>> ((8 : Int32).toInt64.toUInt64 &&& Int64.toUInt64 63)).toInt64) : Int64) fun x40 =>
  og_le ((x40 + (x40.toUInt64 >>> ((16 : Int32).toInt64.toUInt64 &&& Int64.toUInt64 63)).toInt64) : Int64) fun x47 =>
  og_le ((x47 + (x47.toUInt64 >>> ((32 : Int32).toInt64.toUInt64 &&& Int64.toUInt64 63)).toInt64) : Int64) fun x54 =>
  some (x54.toInt32 &&& 127)
noncomputable def fK_isNamed_K2_28 : Option (Int32) :=
  some 0
noncomputable def fK_isNamed_L2 (k2_28 : Option (Int32)) (K_count : Int32) (K_names : (Nat → Int32)) (p1 : Int32) : Nat → Int32 → Option (Int32)
  | 0, _ => none
  | n + 1, v2 =>
    if K_count ≤ v2 then
      k2_28
    else
      og_ck v2 40 <|
      if (K_names v2.toNatClampNeg) = p1 then
        some 1
      else
        fK_isNamed_L2 k2_28 K_count K_names p1 n (v2 + 1)
noncomputable def fK_isNamed (K_count : Int32) (K_names : (Nat → Int32)) (p1 : Int32) : Option (Int32) :=
  fK_isNamed_L2 fK_isNamed_K2_28 K_count K_names p1 FU 0
noncomputable def fK_insert_K55_78 (K_rankOf : (Nat → Int32)) (K_byRank : (Nat → Int32)) : Option ((Nat → Int32) × (Nat → Int32)) :=
  some (K_byRank, K_rankOf)
noncomputable def fK_insert_L55 (k55_78 : (Nat → Int32) → Option ((Nat → Int32) × (Nat → Int32))) (K_rankOf : (Nat → Int32)) (p1 : Int32) : Nat → Int32 → (Nat → Int32) → Option ((Nat → Int32) × (Nat → Int32))
  | 0, _, _ => none
  | n + 1, v3, K_byRank =>
    if p1 < v3 then
      k55_78 K_byRank
    else
      og_ck v3 40 <|
      og_ck (K_rankOf v3.toNatClampNeg) 40 <|
      fK_insert_L55 k55_78 K_rankOf p1 n (v3 + 1) (upd K_byRank (K_rankOf v3.toNatClampNeg).toNatClampNeg v3)
noncomputable def fK_insert_K4_46 (K_byRank : (Nat → Int32)) (p1 : Int32) (v2 : Int32) (K_rankOf : (Nat → Int32)) : Option ((Nat → Int32) × (Nat → Int32)) :=
  og_ck p1 40 <|
  fK_insert_L55 (fK_insert_K55_78 (upd K_rankOf p1.toNatClampNeg v2)) (upd K_rankOf p1.toNatClampNeg v2) p1 FU 0 K_byRank
noncomputable def fK_insert_L4 (k4_46 : Int32 → (Nat → Int32) → Option ((Nat → Int32) × (Nat → Int32))) (K_names : (Nat → Int32)) (p1 : Int32) : Nat → Int32 → Int32 → (Nat → Int32) → Option ((Nat → Int32) × (Nat → Int32))
  | 0, _, _, _ => none
  | n + 1, v2, v3, K_rankOf =>
    if p1 ≤ v3 then
      k4_46 v2 K_rankOf
    else
      og_ck v3 40 <|
      og_ck p1 40 <|
      if (K_names p1.toNatClampNeg) ≤ (K_names v3.toNatClampNeg) then
        og_ck v3 40 <|
        og_ck v3 40 <|
        fK_insert_L4 k4_46 K_names p1 n v2 (v3 + 1) (upd K_rankOf v3.toNatClampNeg ((K_rankOf v3.toNatClampNeg) + 1))
      else
        fK_insert_L4 k4_46 K_names p1 n (v2 + 1) (v3 + 1) K_rankOf
noncomputable def fK_insert (K_names : (Nat → Int32)) (K_byRank : (Nat → Int32)) (K_rankOf : (Nat → Int32)) (p1 : Int32) : Option ((Nat → Int32) × (Nat → Int32)) :=
  fK_insert_L4 (fK_insert_K4_46 K_byRank p1) K_names p1 FU 0 0 K_rankOf
noncomputable def fK_add (K_count : Int32) (K_names : (Nat → Int32)) (K_byRank : (Nat → Int32)) (K_rankOf : (Nat → Int32)) (p1 : Int32) : Option (Int32 × Int32 × (Nat → Int32) × (Nat → Int32) × (Nat → Int32)) :=
  if 40 ≤ K_count then
    some ((-1), K_count, K_names, K_byRank, K_rankOf)
  else
    (fK_isNamed K_count K_names p1).bind fun r11 =>
    if r11 = 0 then
      og_ck K_count 40 <|
      (fK_insert (upd K_names K_count.toNatClampNeg p1) K_byRank K_rankOf K_count).bind fun r33 =>
      some (K_count, (K_count + 1), (upd K_names K_count.toNatClampNeg p1), r33.1, r33.2)
    else
      some ((-1), K_count, K_names, K_byRank, K_rankOf)
noncomputable def fK_has (K_count : Int32) (p1 : Int32) : Option (Int32) :=
  if p1 < 0 then
    some 0
  else
    if K_count ≤ p1 then
      some 0
    else
      some 1
noncomputable def fE_add (E_count : Int32) (E_from : (Nat → Int32)) (E_to : (Nat → Int32)) (E_places : (Nat → Int32)) (E_configurations : (Nat → Int32)) (p1 : Int32) (p2 : Int32) (p3 : Int32) (p4 : Int32) : Option (Int32 × Int32 × (Nat → Int32) × (Nat → Int32) × (Nat → Int32) × (Nat → Int32)) :=
  if E_count < 160 then
    og_ck E_count 160 <|
    og_ck E_count 160 <|
    og_ck E_count 160 <|
    og_ck E_count 160 <|
    some (E_count, (E_count + 1), (upd E_from E_count.toNatClampNeg p1), (upd E_to E_count.toNatClampNeg p2), (upd E_places E_count.toNatClampNeg p3), (upd E_configurations E_count.toNatClampNeg (p4 &&& 255)))
  else
    some ((-1), E_count, E_from, E_to, E_places, E_configurations)
noncomputable def fE_joins (E_from : (Nat → Int32)) (E_to : (Nat → Int32)) (p1 : Int32) (p2 : Int32) (p3 : Int32) : Option (Int32) :=
  og_ck p1 160 <|
  if (E_from p1.toNatClampNeg) = p2 then
    og_ck p1 160 <|
    if (E_to p1.toNatClampNeg) = p3 then
      some 1
    else
      some 0
  else
    some 0
noncomputable def fE_has (E_count : Int32) (p1 : Int32) : Option (Int32) :=
  if p1 < 0 then
    some 0
  else
    if E_count ≤ p1 then
      some 0
    else
      some 1
noncomputable def fE_drop (E_count : Int32) (E_gone : (Nat → Int32)) (p1 : Int32) : Option (Int32 × (Nat → Int32)) :=
  (fE_has E_count p1).bind fun r2 =>
  if r2 = 0 then
    some (0, E_gone)
  else
    og_ck p1 160 <|
    if (E_gone p1.toNatClampNeg) = 0 then
      og_ck p1 160 <|
      some (1, (upd E_gone p1.toNatClampNeg (vp_nar .boolean 1)))
    else
      some (0, E_gone)
noncomputable def fE_dropBetween_K5_43 (v3 : Int32) (E_gone : (Nat → Int32)) : Option (Int32 × (Nat → Int32)) :=
  some (v3, E_gone)
noncomputable def fE_dropBetween_L5 (k5_43 : Int32 → (Nat → Int32) → Option (Int32 × (Nat → Int32))) (E_count : Int32) (E_from : (Nat → Int32)) (E_to : (Nat → Int32)) (p1 : Int32) (p2 : Int32) : Nat → Int32 → Int32 → (Nat → Int32) → Option (Int32 × (Nat → Int32))
  | 0, _, _, _ => none
  | n + 1, v3, v4, E_gone =>
    if E_count ≤ v4 then
      k5_43 v3 E_gone
    else
      (fE_joins E_from E_to v4 p1 p2).bind fun r19 =>
      if r19 = 0 then
        fE_dropBetween_L5 k5_43 E_count E_from E_to p1 p2 n v3 (v4 + 1) E_gone
      else
        (fE_drop E_count E_gone v4).bind fun r28 =>
        if r28.1 = 0 then
          fE_dropBetween_L5 k5_43 E_count E_from E_to p1 p2 n v3 (v4 + 1) r28.2
        else
          fE_dropBetween_L5 k5_43 E_count E_from E_to p1 p2 n (v3 + 1) (v4 + 1) r28.2
noncomputable def fE_dropBetween (E_count : Int32) (E_from : (Nat → Int32)) (E_to : (Nat → Int32)) (E_gone : (Nat → Int32)) (p1 : Int32) (p2 : Int32) : Option (Int32 × (Nat → Int32)) :=
  fE_dropBetween_L5 fE_dropBetween_K5_43 E_count E_from E_to p1 p2 FU 0 0 E_gone
noncomputable def fE_isIn (E_count : Int32) (E_configurations : (Nat → Int32)) (E_gone : (Nat → Int32)) (p1 : Int32) (p2 : Int32) : Option (Int32) :=
  (fE_has E_count p1).bind fun r2 =>
  if r2 = 0 then
    some 0
  else
    og_ck p1 160 <|
    if (E_gone p1.toNatClampNeg) = 0 then
      og_ck p1 160 <|
      if (((E_configurations p1.toNatClampNeg) >>> (p2 &&& 31)) &&& 1) = 0 then
        some 0
      else
        some 1
    else
      some 0
noncomputable def fE_leastPlaced_K6_69 (v4 : Int32) : Option (Int32) :=
  some v4
noncomputable def fE_leastPlaced_L6 (k6_69 : Int32 → Option (Int32)) (E_count : Int32) (E_from : (Nat → Int32)) (E_to : (Nat → Int32)) (E_places : (Nat → Int32)) (E_configurations : (Nat → Int32)) (E_gone : (Nat → Int32)) (p1 : Int32) (p2 : Int32) (p3 : Int32) : Nat → Int32 → Int32 → Option (Int32)
  | 0, _, _ => none
  | n + 1, v4, v5 =>
    if E_count ≤ v5 then
      k6_69 v4
    else
      (fE_joins E_from E_to v5 p1 p2).bind fun r20 =>
      if r20 = 0 then
        fE_leastPlaced_L6 k6_69 E_count E_from E_to E_places E_configurations E_gone p1 p2 p3 n v4 (v5 + 1)
      else
        (fE_isIn E_count E_configurations E_gone v5 p3).bind fun r30 =>
        if r30 = 0 then
          fE_leastPlaced_L6 k6_69 E_count E_from E_to E_places E_configurations E_gone p1 p2 p3 n v4 (v5 + 1)
        else
          if v4 = (-1) then
            fE_leastPlaced_L6 k6_69 E_count E_from E_to E_places E_configurations E_gone p1 p2 p3 n v5 (v5 + 1)
          else
            og_ck v5 160 <|
            og_ck v4 160 <|
            if (E_places v4.toNatClampNeg) ≤ (E_places v5.toNatClampNeg) then
              fE_leastPlaced_L6 k6_69 E_count E_from E_to E_places E_configurations E_gone p1 p2 p3 n v4 (v5 + 1)
            else
              fE_leastPlaced_L6 k6_69 E_count E_from E_to E_places E_configurations E_gone p1 p2 p3 n v5 (v5 + 1)
noncomputable def fE_leastPlaced (E_count : Int32) (E_from : (Nat → Int32)) (E_to : (Nat → Int32)) (E_places : (Nat → Int32)) (E_configurations : (Nat → Int32)) (E_gone : (Nat → Int32)) (p1 : Int32) (p2 : Int32) (p3 : Int32) : Option (Int32) :=
  fE_leastPlaced_L6 fE_leastPlaced_K6_69 E_count E_from E_to E_places E_configurations E_gone p1 p2 p3 FU (-1) 0
noncomputable def fE_configurationsBetween_K5_51 (v3 : Int32) : Option (Int32) :=
  some v3
noncomputable def fE_configurationsBetween_L5 (k5_51 : Int32 → Option (Int32)) (E_count : Int32) (E_from : (Nat → Int32)) (E_to : (Nat → Int32)) (E_configurations : (Nat → Int32)) (E_gone : (Nat → Int32)) (p1 : Int32) (p2 : Int32) : Nat → Int32 → Int32 → Option (Int32)
  | 0, _, _ => none
  | n + 1, v3, v4 =>
    if E_count ≤ v4 then
      k5_51 v3
    else
      (fE_joins E_from E_to v4 p1 p2).bind fun r19 =>
      if r19 = 0 then
        fE_configurationsBetween_L5 k5_51 E_count E_from E_to E_configurations E_gone p1 p2 n v3 (v4 + 1)
      else
        og_ck v4 160 <|
        if (E_gone v4.toNatClampNeg) = 0 then
          og_ck v4 160 <|
          fE_configurationsBetween_L5 k5_51 E_count E_from E_to E_configurations E_gone p1 p2 n (v3 ||| (E_configurations v4.toNatClampNeg)) (v4 + 1)
        else
          fE_configurationsBetween_L5 k5_51 E_count E_from E_to E_configurations E_gone p1 p2 n v3 (v4 + 1)
noncomputable def fE_configurationsBetween (E_count : Int32) (E_from : (Nat → Int32)) (E_to : (Nat → Int32)) (E_configurations : (Nat → Int32)) (E_gone : (Nat → Int32)) (p1 : Int32) (p2 : Int32) : Option (Int32) :=
  fE_configurationsBetween_L5 fE_configurationsBetween_K5_51 E_count E_from E_to E_configurations E_gone p1 p2 FU 0 0
noncomputable def fE_placeOf (E_count : Int32) (E_places : (Nat → Int32)) (p1 : Int32) : Option (Int32) :=
  (fE_has E_count p1).bind fun r2 =>
  if r2 = 0 then
    some (-1)
  else
    og_ck p1 160 <|
    some (E_places p1.toNatClampNeg)
noncomputable def fR_contains (p0 : Int64) (p2 : Int32) : Option (Int32) :=
  if (lg_cmp ((p0.toUInt64 >>> (p2.toInt64.toUInt64 &&& Int64.toUInt64 63)).toInt64 &&& 1) 0) = 0 then
    some 0
  else
    some 1
noncomputable def fR_lowest (p0 : Int64) : Option (Int32) :=
  (fX_bitCount ((p0 &&& (-p0)) - 1)).bind fun r6 =>
  some r6
noncomputable def fR_askedBy_K11_44 (v3 : Int64) : Option (Int64) :=
  some v3
noncomputable def fR_askedBy_L11 (k11_44 : Int64 → Option (Int64)) (R_asked : (Nat → Int64)) : Nat → Int64 → Int64 → Int32 → Option (Int64)
  | 0, _, _, _ => none
  | n + 1, v3, v5, v7 =>
    if v7 ≤ 0 then
      k11_44 v3
    else
      (fR_lowest v5).bind fun r23 =>
      og_ck r23 40 <|
      fR_askedBy_L11 k11_44 R_asked n (v3 ||| (R_asked r23.toNatClampNeg)) (v5 &&& (v5 - 1)) (v7 + (-1))
noncomputable def fR_askedBy (R_asked : (Nat → Int64)) (p1 : Int64) : Option (Int64) :=
  (fX_bitCount p1).bind fun r6 =>
  fR_askedBy_L11 fR_askedBy_K11_44 R_asked FU 0 p1 r6
noncomputable def fR_follow_K20_78 (R_reached : (Nat → Int64)) (p1 : Int32) (v2 : Int64) (R_shortest : (Nat → Int32)) : Option ((Nat → Int64) × (Nat → Int32)) :=
  og_ck p1 40 <|
  some ((vp_updL R_reached p1.toNatClampNeg v2), R_shortest)
noncomputable def fR_follow_J53 (c20 : Int64 → Int64 → Int32 → (Nat → Int32) → Option ((Nat → Int64) × (Nat → Int32))) (R_asked : (Nat → Int64)) (v2 : Int64) (v4 : Int64) (v6 : Int32) (R_shortest : (Nat → Int32)) : Option ((Nat → Int64) × (Nat → Int32)) :=
  (fR_askedBy R_asked v4).bind fun r61 =>
  c20 (v2 ||| v4) (r61 &&& ((v2 ||| v4) ^^^ (-1))) (v6 + 1) R_shortest
noncomputable def fR_follow_L20 (k20_78 : Int64 → (Nat → Int32) → Option ((Nat → Int64) × (Nat → Int32))) (R_count : Int32) (R_asked : (Nat → Int64)) (p1 : Int32) : Nat → Int64 → Int64 → Int32 → (Nat → Int32) → Option ((Nat → Int64) × (Nat → Int32))
  | 0, _, _, _, _ => none
  | n + 1, v2, v4, v6, R_shortest =>
    if R_count < v6 then
      k20_78 v2 R_shortest
    else
      if (lg_cmp v4 0) = 0 then
        k20_78 v2 R_shortest
      else
        (fR_contains v4 p1).bind fun r39 =>
        if r39 = 0 then
          fR_follow_J53 (fun a0 a1 a2 a3 => fR_follow_L20 k20_78 R_count R_asked p1 n a0 a1 a2 a3) R_asked v2 v4 v6 R_shortest
        else
          og_ck p1 40 <|
          fR_follow_J53 (fun a0 a1 a2 a3 => fR_follow_L20 k20_78 R_count R_asked p1 n a0 a1 a2 a3) R_asked v2 v4 v6 (upd R_shortest p1.toNatClampNeg v6)
noncomputable def fR_follow (R_count : Int32) (R_asked : (Nat → Int64)) (R_reached : (Nat → Int64)) (R_shortest : (Nat → Int32)) (p1 : Int32) : Option ((Nat → Int64) × (Nat → Int32)) :=
  og_ck p1 40 <|
  og_ck p1 40 <|
  fR_follow_L20 (fR_follow_K20_78 R_reached p1) R_count R_asked p1 FU 0 (R_asked p1.toNatClampNeg) 1 (upd R_shortest p1.toNatClampNeg 0)
noncomputable def fR_draw_K99_120 (R_count : Int32) (R_asked : (Nat → Int64)) (R_reached : (Nat → Int64)) (R_shortest : (Nat → Int32)) : Option (Int32 × (Nat → Int64) × (Nat → Int64) × (Nat → Int32)) :=
  some (R_count, R_asked, R_reached, R_shortest)
noncomputable def fR_draw_L99 (k99_120 : (Nat → Int64) → (Nat → Int32) → Option (Int32 × (Nat → Int64) × (Nat → Int64) × (Nat → Int32))) (R_count : Int32) (R_asked : (Nat → Int64)) : Nat → Int32 → (Nat → Int64) → (Nat → Int32) → Option (Int32 × (Nat → Int64) × (Nat → Int64) × (Nat → Int32))
  | 0, _, _, _ => none
  | n + 1, v4, R_reached, R_shortest =>
    if R_count ≤ v4 then
      k99_120 R_reached R_shortest
    else
      (fR_follow R_count R_asked R_reached R_shortest v4).bind fun r111 =>
      fR_draw_L99 k99_120 R_count R_asked n (v4 + 1) r111.1 r111.2
noncomputable def fR_draw_K37_96 (R_count : Int32) (R_reached : (Nat → Int64)) (R_shortest : (Nat → Int32)) (R_asked : (Nat → Int64)) : Option (Int32 × (Nat → Int64) × (Nat → Int64) × (Nat → Int32)) :=
  fR_draw_L99 (fR_draw_K99_120 R_count R_asked) R_count R_asked FU 0 R_reached R_shortest
noncomputable def fR_draw_L37 (k37_96 : (Nat → Int64) → Option (Int32 × (Nat → Int64) × (Nat → Int64) × (Nat → Int32))) (K_rankOf : (Nat → Int32)) (E_count : Int32) (E_from : (Nat → Int32)) (E_to : (Nat → Int32)) (E_configurations : (Nat → Int32)) (E_gone : (Nat → Int32)) (p3 : Int32) : Nat → Int32 → (Nat → Int64) → Option (Int32 × (Nat → Int64) × (Nat → Int64) × (Nat → Int32))
  | 0, _, _ => none
  | n + 1, v4, R_asked =>
    if E_count ≤ v4 then
      k37_96 R_asked
    else
      (fE_isIn E_count E_configurations E_gone v4 p3).bind fun r50 =>
      if r50 = 0 then
        fR_draw_L37 k37_96 K_rankOf E_count E_from E_to E_configurations E_gone p3 n (v4 + 1) R_asked
      else
        og_ck v4 160 <|
        og_ck (E_from v4.toNatClampNeg) 40 <|
        og_ck (K_rankOf (E_from v4.toNatClampNeg).toNatClampNeg) 40 <|
        og_ck v4 160 <|
        og_ck (E_to v4.toNatClampNeg) 40 <|
        og_ck (K_rankOf (E_from v4.toNatClampNeg).toNatClampNeg) 40 <|
        fR_draw_L37 k37_96 K_rankOf E_count E_from E_to E_configurations E_gone p3 n (v4 + 1) (vp_updL R_asked (K_rankOf (E_from v4.toNatClampNeg).toNatClampNeg).toNatClampNeg ((R_asked (K_rankOf (E_from v4.toNatClampNeg).toNatClampNeg).toNatClampNeg) ||| ((1 : Int64) <<< ((K_rankOf (E_to v4.toNatClampNeg).toNatClampNeg).toInt64 &&& 63))))
noncomputable def fR_draw_K11_34 (K_rankOf : (Nat → Int32)) (E_count : Int32) (E_from : (Nat → Int32)) (E_to : (Nat → Int32)) (E_configurations : (Nat → Int32)) (E_gone : (Nat → Int32)) (R_count : Int32) (R_reached : (Nat → Int64)) (R_shortest : (Nat → Int32)) (p3 : Int32) (R_asked : (Nat → Int64)) : Option (Int32 × (Nat → Int64) × (Nat → Int64) × (Nat → Int32)) :=
  fR_draw_L37 (fR_draw_K37_96 R_count R_reached R_shortest) K_rankOf E_count E_from E_to E_configurations E_gone p3 FU 0 R_asked
noncomputable def fR_draw_L11 (k11_34 : (Nat → Int64) → Option (Int32 × (Nat → Int64) × (Nat → Int64) × (Nat → Int32))) (R_count : Int32) : Nat → Int32 → (Nat → Int64) → Option (Int32 × (Nat → Int64) × (Nat → Int64) × (Nat → Int32))
  | 0, _, _ => none
  | n + 1, v4, R_asked =>
    if R_count ≤ v4 then
      k11_34 R_asked
    else
      og_ck v4 40 <|
      fR_draw_L11 k11_34 R_count n (v4 + 1) (vp_updL R_asked v4.toNatClampNeg 0)
noncomputable def fR_draw (K_count : Int32) (K_rankOf : (Nat → Int32)) (E_count : Int32) (E_from : (Nat → Int32)) (E_to : (Nat → Int32)) (E_configurations : (Nat → Int32)) (E_gone : (Nat → Int32)) (R_count : Int32) (R_asked : (Nat → Int64)) (R_reached : (Nat → Int64)) (R_shortest : (Nat → Int32)) (p3 : Int32) : Option (Int32 × (Nat → Int64) × (Nat → Int64) × (Nat → Int32)) :=
  fR_draw_L11 (fR_draw_K11_34 K_rankOf E_count E_from E_to E_configurations E_gone K_count R_reached R_shortest p3) K_count FU 0 R_asked
noncomputable def fR_shortestRing (R_shortest : (Nat → Int32)) (p1 : Int32) : Option (Int32) :=
  og_ck p1 40 <|
  some (R_shortest p1.toNatClampNeg)
noncomputable def fR_reachesRinged_K2_40 : Option (Int32) :=
  some 0
noncomputable def fR_reachesRinged_L2 (k2_40 : Option (Int32)) (R_count : Int32) (R_reached : (Nat → Int64)) (R_shortest : (Nat → Int32)) (p1 : Int32) : Nat → Int32 → Option (Int32)
  | 0, _ => none
  | n + 1, v2 =>
    if R_count ≤ v2 then
      k2_40
    else
      og_ck v2 40 <|
      if (R_shortest v2.toNatClampNeg) ≤ 0 then
        fR_reachesRinged_L2 k2_40 R_count R_reached R_shortest p1 n (v2 + 1)
      else
        og_ck p1 40 <|
        (fR_contains (R_reached p1.toNatClampNeg) v2).bind fun r26 =>
        if r26 = 0 then
          fR_reachesRinged_L2 k2_40 R_count R_reached R_shortest p1 n (v2 + 1)
        else
          some 1
noncomputable def fR_reachesRinged (R_count : Int32) (R_reached : (Nat → Int64)) (R_shortest : (Nat → Int32)) (p1 : Int32) : Option (Int32) :=
  fR_reachesRinged_L2 fR_reachesRinged_K2_40 R_count R_reached R_shortest p1 FU 0
noncomputable def fR_reachEachOther (R_reached : (Nat → Int64)) (p1 : Int32) (p2 : Int32) : Option (Int32) :=
  og_ck p1 40 <|
  (fR_contains (R_reached p1.toNatClampNeg) p2).bind fun r7 =>
  if r7 = 0 then
    some 0
  else
    og_ck p2 40 <|
    (fR_contains (R_reached p2.toNatClampNeg) p1).bind fun r20 =>
    if r20 = 0 then
      some 0
    else
      some 1
noncomputable def fR_askersOf_K5_41 (v3 : Int64) : Option (Int64) :=
  some v3
noncomputable def fR_askersOf_L5 (k5_41 : Int64 → Option (Int64)) (R_count : Int32) (R_asked : (Nat → Int64)) (p1 : Int64) : Nat → Int64 → Int32 → Option (Int64)
  | 0, _, _ => none
  | n + 1, v3, v5 =>
    if R_count ≤ v5 then
      k5_41 v3
    else
      og_ck v5 40 <|
      if (lg_cmp ((R_asked v5.toNatClampNeg) &&& p1) 0) = 0 then
        fR_askersOf_L5 k5_41 R_count R_asked p1 n v3 (v5 + 1)
      else
        fR_askersOf_L5 k5_41 R_count R_asked p1 n (v3 ||| ((1 : Int64) <<< (v5.toInt64 &&& 63))) (v5 + 1)
noncomputable def fR_askersOf (R_count : Int32) (R_asked : (Nat → Int64)) (p1 : Int64) : Option (Int64) :=
  fR_askersOf_L5 fR_askersOf_K5_41 R_count R_asked p1 FU 0 0
noncomputable def fR_layTowards_K14_69 (R_layers : (Nat → Int64)) : Option ((Nat → Int64)) :=
  some R_layers
noncomputable def fR_layTowards_L14 (k14_69 : (Nat → Int64) → Option ((Nat → Int64))) (R_count : Int32) (R_asked : (Nat → Int64)) (p2 : Int32) : Nat → Int64 → Int32 → (Nat → Int64) → Option ((Nat → Int64))
  | 0, _, _, _ => none
  | n + 1, v3, v5, R_layers =>
    if p2 ≤ v5 then
      k14_69 R_layers
    else
      if 40 ≤ v5 then
        k14_69 R_layers
      else
        og_ck (v5 - 1) 40 <|
        (fR_askersOf R_count R_asked (R_layers (v5 - 1).toNatClampNeg)).bind fun r43 =>
        og_ck v5 40 <|
        og_ck v5 40 <|
        fR_layTowards_L14 k14_69 R_count R_asked p2 n (v3 ||| ((vp_updL R_layers v5.toNatClampNeg (r43 &&& (v3 ^^^ (-1)))) v5.toNatClampNeg)) (v5 + 1) (vp_updL R_layers v5.toNatClampNeg (r43 &&& (v3 ^^^ (-1))))
noncomputable def fR_layTowards (R_count : Int32) (R_asked : (Nat → Int64)) (R_layers : (Nat → Int64)) (p1 : Int32) (p2 : Int32) : Option ((Nat → Int64)) :=
  og_ck 0 40 <|
  fR_layTowards_L14 fR_layTowards_K14_69 R_count R_asked p2 FU ((1 : Int64) <<< (p1.toInt64 &&& 63)) 1 (vp_updL R_layers (0 : Int32).toNatClampNeg ((1 : Int64) <<< (p1.toInt64 &&& 63)))
noncomputable def fR_firstAsked (R_asked : (Nat → Int64)) (R_layers : (Nat → Int64)) (p1 : Int32) (p2 : Int32) : Option (Int32) :=
  og_ck p1 40 <|
  og_ck p2 40 <|
  if (lg_cmp ((R_asked p1.toNatClampNeg) &&& (R_layers p2.toNatClampNeg)) 0) = 0 then
    some (-1)
  else
    (fR_lowest ((R_asked p1.toNatClampNeg) &&& (R_layers p2.toNatClampNeg))).bind fun r25 =>
    some r25
noncomputable def fT_tellKeys_K2_77 (T_stateOf : (Nat → Int32)) (T_leastOf : (Nat → Int32)) : Option ((Nat → Int32) × (Nat → Int32)) :=
  some (T_stateOf, T_leastOf)
noncomputable def fT_tellKeys_L2 (k2_77 : (Nat → Int32) → (Nat → Int32) → Option ((Nat → Int32) × (Nat → Int32))) (K_byRank : (Nat → Int32)) (R_count : Int32) (R_reached : (Nat → Int64)) (R_shortest : (Nat → Int32)) (T_keyCount : Int32) : Nat → Int32 → (Nat → Int32) → (Nat → Int32) → Option ((Nat → Int32) × (Nat → Int32))
  | 0, _, _, _ => none
  | n + 1, v3, T_stateOf, T_leastOf =>
    if T_keyCount ≤ v3 then
      k2_77 T_stateOf T_leastOf
    else
      og_ck v3 40 <|
      (fR_shortestRing R_shortest v3).bind fun r26 =>
      og_ck (K_byRank v3.toNatClampNeg) 40 <|
      og_ck (K_byRank v3.toNatClampNeg) 40 <|
      if ((upd T_leastOf (K_byRank v3.toNatClampNeg).toNatClampNeg r26) (K_byRank v3.toNatClampNeg).toNatClampNeg) ≤ 0 then
        (fR_reachesRinged R_count R_reached R_shortest v3).bind fun r59 =>
        if r59 = 0 then
          og_ck (K_byRank v3.toNatClampNeg) 40 <|
          fT_tellKeys_L2 k2_77 K_byRank R_count R_reached R_shortest T_keyCount n (v3 + 1) (upd T_stateOf (K_byRank v3.toNatClampNeg).toNatClampNeg 0) (upd T_leastOf (K_byRank v3.toNatClampNeg).toNatClampNeg r26)
        else
          og_ck (K_byRank v3.toNatClampNeg) 40 <|
          fT_tellKeys_L2 k2_77 K_byRank R_count R_reached R_shortest T_keyCount n (v3 + 1) (upd T_stateOf (K_byRank v3.toNatClampNeg).toNatClampNeg 1) (upd T_leastOf (K_byRank v3.toNatClampNeg).toNatClampNeg r26)
      else
        og_ck (K_byRank v3.toNatClampNeg) 40 <|
        fT_tellKeys_L2 k2_77 K_byRank R_count R_reached R_shortest T_keyCount n (v3 + 1) (upd T_stateOf (K_byRank v3.toNatClampNeg).toNatClampNeg 2) (upd T_leastOf (K_byRank v3.toNatClampNeg).toNatClampNeg r26)
noncomputable def fT_tellKeys (K_byRank : (Nat → Int32)) (R_count : Int32) (R_reached : (Nat → Int64)) (R_shortest : (Nat → Int32)) (T_stateOf : (Nat → Int32)) (T_leastOf : (Nat → Int32)) (T_keyCount : Int32) : Option ((Nat → Int32) × (Nat → Int32)) :=
  fT_tellKeys_L2 fT_tellKeys_K2_77 K_byRank R_count R_reached R_shortest T_keyCount FU 0 T_stateOf T_leastOf
noncomputable def fT_firstOfPart_K2_24 (p1 : Int32) : Option (Int32) :=
  some p1
noncomputable def fT_firstOfPart_L2 (k2_24 : Option (Int32)) (R_reached : (Nat → Int64)) (p1 : Int32) : Nat → Int32 → Option (Int32)
  | 0, _ => none
  | n + 1, v3 =>
    if p1 ≤ v3 then
      k2_24
    else
      (fR_reachEachOther R_reached v3 p1).bind fun r10 =>
      if r10 = 0 then
        fT_firstOfPart_L2 k2_24 R_reached p1 n (v3 + 1)
      else
        some v3
noncomputable def fT_firstOfPart (R_reached : (Nat → Int64)) (p1 : Int32) : Option (Int32) :=
  fT_firstOfPart_L2 (fT_firstOfPart_K2_24 p1) R_reached p1 FU 0
noncomputable def fT_numberParts_K5_79 (T_partOf : (Nat → Int32)) : Option ((Nat → Int32)) :=
  some T_partOf
noncomputable def fT_numberParts_L5 (k5_79 : (Nat → Int32) → Option ((Nat → Int32))) (K_byRank : (Nat → Int32)) (R_reached : (Nat → Int64)) (T_keyCount : Int32) : Nat → Int32 → Int32 → (Nat → Int32) → Option ((Nat → Int32))
  | 0, _, _, _ => none
  | n + 1, v3, v4, T_partOf =>
    if T_keyCount ≤ v4 then
      k5_79 T_partOf
    else
      (fT_firstOfPart R_reached v4).bind fun r18 =>
      if r18 = v4 then
        og_ck v4 40 <|
        og_ck (K_byRank v4.toNatClampNeg) 40 <|
        fT_numberParts_L5 k5_79 K_byRank R_reached T_keyCount n (v3 + 1) (v4 + 1) (upd T_partOf (K_byRank v4.toNatClampNeg).toNatClampNeg v3)
      else
        og_ck v4 40 <|
        og_ck r18 40 <|
        og_ck (K_byRank r18.toNatClampNeg) 40 <|
        og_ck (K_byRank v4.toNatClampNeg) 40 <|
        fT_numberParts_L5 k5_79 K_byRank R_reached T_keyCount n v3 (v4 + 1) (upd T_partOf (K_byRank v4.toNatClampNeg).toNatClampNeg (T_partOf (K_byRank r18.toNatClampNeg).toNatClampNeg))
noncomputable def fT_numberParts (K_byRank : (Nat → Int32)) (R_reached : (Nat → Int64)) (T_partOf : (Nat → Int32)) (T_keyCount : Int32) : Option ((Nat → Int32)) :=
  fT_numberParts_L5 fT_numberParts_K5_79 K_byRank R_reached T_keyCount FU 0 0 T_partOf
noncomputable def fT_leastRinged_K7_49 (v3 : Int32) : Option (Int32) :=
  some v3
noncomputable def fT_leastRinged_L7 (k7_49 : Int32 → Option (Int32)) (R_reached : (Nat → Int64)) (R_shortest : (Nat → Int32)) (T_keyCount : Int32) (p1 : Int32) : Nat → Int32 → Int32 → Option (Int32)
  | 0, _, _ => none
  | n + 1, v3, v4 =>
    if T_keyCount ≤ v4 then
      k7_49 v3
    else
      (fR_reachEachOther R_reached p1 v4).bind fun r20 =>
      if r20 = 0 then
        fT_leastRinged_L7 k7_49 R_reached R_shortest T_keyCount p1 n v3 (v4 + 1)
      else
        (fR_shortestRing R_shortest v4).bind fun r29 =>
        (fR_shortestRing R_shortest v3).bind fun r34 =>
        if r34 ≤ r29 then
          fT_leastRinged_L7 k7_49 R_reached R_shortest T_keyCount p1 n v3 (v4 + 1)
        else
          fT_leastRinged_L7 k7_49 R_reached R_shortest T_keyCount p1 n v4 (v4 + 1)
noncomputable def fT_leastRinged (R_reached : (Nat → Int64)) (R_shortest : (Nat → Int32)) (T_keyCount : Int32) (p1 : Int32) : Option (Int32) :=
  fT_leastRinged_L7 fT_leastRinged_K7_49 R_reached R_shortest T_keyCount p1 FU p1 (p1 + 1)
noncomputable def fT_tellRing_K34_85 (R_layers : (Nat → Int64)) (T_ringCount : Int32) (T_starts : (Nat → Int32)) (v5 : Int32) (T_ringKeys : (Nat → Int32)) : Option ((Nat → Int64) × Int32 × (Nat → Int32) × (Nat → Int32)) :=
  og_ck (T_ringCount + 1) 41 <|
  some (R_layers, (T_ringCount + 1), (upd T_starts (T_ringCount + 1).toNatClampNeg v5), T_ringKeys)
noncomputable def fT_tellRing_L34 (k34_85 : Int32 → (Nat → Int32) → Option ((Nat → Int64) × Int32 × (Nat → Int32) × (Nat → Int32))) (K_byRank : (Nat → Int32)) (R_asked : (Nat → Int64)) (R_layers : (Nat → Int64)) : Nat → Int32 → Int32 → Int32 → (Nat → Int32) → Option ((Nat → Int64) × Int32 × (Nat → Int32) × (Nat → Int32))
  | 0, _, _, _, _ => none
  | n + 1, v5, v6, v7, T_ringKeys =>
    if v7 < 0 then
      k34_85 v5 T_ringKeys
    else
      if v6 = (-1) then
        k34_85 v5 T_ringKeys
      else
        if 40 ≤ v5 then
          k34_85 v5 T_ringKeys
        else
          og_ck v6 40 <|
          og_ck v5 40 <|
          (fR_firstAsked R_asked R_layers v6 v7).bind fun r74 =>
          fT_tellRing_L34 k34_85 K_byRank R_asked R_layers n (v5 + 1) r74 (v7 + (-1)) (upd T_ringKeys v5.toNatClampNeg (K_byRank v6.toNatClampNeg))
noncomputable def fT_tellRing (K_byRank : (Nat → Int32)) (R_count : Int32) (R_asked : (Nat → Int64)) (R_shortest : (Nat → Int32)) (R_layers : (Nat → Int64)) (T_ringCount : Int32) (T_starts : (Nat → Int32)) (T_ringKeys : (Nat → Int32)) (p1 : Int32) : Option ((Nat → Int64) × Int32 × (Nat → Int32) × (Nat → Int32)) :=
  (fR_shortestRing R_shortest p1).bind fun r2 =>
  og_ck T_ringCount 41 <|
  (fR_layTowards R_count R_asked R_layers p1 r2).bind fun r22 =>
  fT_tellRing_L34 (fT_tellRing_K34_85 r22 T_ringCount T_starts) K_byRank R_asked r22 FU (T_starts T_ringCount.toNatClampNeg) p1 (r2 - 1) T_ringKeys
noncomputable def fT_tellRings_K7_51 (R_layers : (Nat → Int64)) (T_ringCount : Int32) (T_starts : (Nat → Int32)) (T_ringKeys : (Nat → Int32)) : Option ((Nat → Int64) × Int32 × (Nat → Int32) × (Nat → Int32)) :=
  some (R_layers, T_ringCount, T_starts, T_ringKeys)
noncomputable def fT_tellRings_L7 (k7_51 : (Nat → Int64) → Int32 → (Nat → Int32) → (Nat → Int32) → Option ((Nat → Int64) × Int32 × (Nat → Int32) × (Nat → Int32))) (K_byRank : (Nat → Int32)) (R_count : Int32) (R_asked : (Nat → Int64)) (R_reached : (Nat → Int64)) (R_shortest : (Nat → Int32)) (T_keyCount : Int32) : Nat → Int32 → (Nat → Int64) → Int32 → (Nat → Int32) → (Nat → Int32) → Option ((Nat → Int64) × Int32 × (Nat → Int32) × (Nat → Int32))
  | 0, _, _, _, _, _ => none
  | n + 1, v3, R_layers, T_ringCount, T_starts, T_ringKeys =>
    if T_keyCount ≤ v3 then
      k7_51 R_layers T_ringCount T_starts T_ringKeys
    else
      (fR_shortestRing R_shortest v3).bind fun r17 =>
      if r17 ≤ 0 then
        fT_tellRings_L7 k7_51 K_byRank R_count R_asked R_reached R_shortest T_keyCount n (v3 + 1) R_layers T_ringCount T_starts T_ringKeys
      else
        (fT_firstOfPart R_reached v3).bind fun r26 =>
        if r26 = v3 then
          (fT_leastRinged R_reached R_shortest T_keyCount v3).bind fun r37 =>
          (fT_tellRing K_byRank R_count R_asked R_shortest R_layers T_ringCount T_starts T_ringKeys r37).bind fun r42 =>
          fT_tellRings_L7 k7_51 K_byRank R_count R_asked R_reached R_shortest T_keyCount n (v3 + 1) r42.1 r42.2.1 r42.2.2.1 r42.2.2.2
        else
          fT_tellRings_L7 k7_51 K_byRank R_count R_asked R_reached R_shortest T_keyCount n (v3 + 1) R_layers T_ringCount T_starts T_ringKeys
noncomputable def fT_tellRings (K_byRank : (Nat → Int32)) (R_count : Int32) (R_asked : (Nat → Int64)) (R_reached : (Nat → Int64)) (R_shortest : (Nat → Int32)) (R_layers : (Nat → Int64)) (T_ringCount : Int32) (T_keyCount : Int32) (T_starts : (Nat → Int32)) (T_ringKeys : (Nat → Int32)) : Option ((Nat → Int64) × Int32 × (Nat → Int32) × (Nat → Int32)) :=
  fT_tellRings_L7 fT_tellRings_K7_51 K_byRank R_count R_asked R_reached R_shortest T_keyCount FU 0 R_layers 0 T_starts T_ringKeys
noncomputable def fT_tellEdges_K12_105 (T_configuration : Int32) (T_onlyIn : (Nat → Int32)) (p1 : Int32) (v3 : Int32) (T_ringEdges : (Nat → Int32)) : Option ((Nat → Int32) × (Nat → Int32)) :=
  if v3 = ((1 : Int32) <<< (T_configuration &&& 31)) then
    og_ck p1 40 <|
    some ((upd T_onlyIn p1.toNatClampNeg T_configuration), T_ringEdges)
  else
    og_ck p1 40 <|
    some ((upd T_onlyIn p1.toNatClampNeg (-1)), T_ringEdges)
noncomputable def fT_tellEdges_J66 (c12 : Int32 → Int32 → (Nat → Int32) → Option ((Nat → Int32) × (Nat → Int32))) (E_count : Int32) (E_from : (Nat → Int32)) (E_to : (Nat → Int32)) (E_places : (Nat → Int32)) (E_configurations : (Nat → Int32)) (E_gone : (Nat → Int32)) (T_configuration : Int32) (T_ringKeys : (Nat → Int32)) (T_ringEdges : (Nat → Int32)) (v3 : Int32) (v4 : Int32) (v5 : Int32) (s1 : Int32) : Option ((Nat → Int32) × (Nat → Int32)) :=
  og_ck s1 40 <|
  (fE_leastPlaced E_count E_from E_to E_places E_configurations E_gone v5 (T_ringKeys s1.toNatClampNeg) T_configuration).bind fun r84 =>
  og_ck v4 40 <|
  (fE_configurationsBetween E_count E_from E_to E_configurations E_gone v5 (T_ringKeys s1.toNatClampNeg)).bind fun r94 =>
  c12 (v3 &&& r94) (v4 + 1) (upd T_ringEdges v4.toNatClampNeg r84)
noncomputable def fT_tellEdges_L12 (k12_105 : Int32 → (Nat → Int32) → Option ((Nat → Int32) × (Nat → Int32))) (E_count : Int32) (E_from : (Nat → Int32)) (E_to : (Nat → Int32)) (E_places : (Nat → Int32)) (E_configurations : (Nat → Int32)) (E_gone : (Nat → Int32)) (T_configuration : Int32) (T_starts : (Nat → Int32)) (T_ringKeys : (Nat → Int32)) (p1 : Int32) : Nat → Int32 → Int32 → (Nat → Int32) → Option ((Nat → Int32) × (Nat → Int32))
  | 0, _, _, _ => none
  | n + 1, v3, v4, T_ringEdges =>
    og_ck (p1 + 1) 41 <|
    if (T_starts (p1 + 1).toNatClampNeg) ≤ v4 then
      k12_105 v3 T_ringEdges
    else
      og_ck v4 40 <|
      og_ck (p1 + 1) 41 <|
      if (T_starts (p1 + 1).toNatClampNeg) ≤ (v4 + 1) then
        og_ck p1 41 <|
        fT_tellEdges_J66 (fun a0 a1 a2 => fT_tellEdges_L12 k12_105 E_count E_from E_to E_places E_configurations E_gone T_configuration T_starts T_ringKeys p1 n a0 a1 a2) E_count E_from E_to E_places E_configurations E_gone T_configuration T_ringKeys T_ringEdges v3 v4 (T_ringKeys v4.toNatClampNeg) (T_starts p1.toNatClampNeg)
      else
        fT_tellEdges_J66 (fun a0 a1 a2 => fT_tellEdges_L12 k12_105 E_count E_from E_to E_places E_configurations E_gone T_configuration T_starts T_ringKeys p1 n a0 a1 a2) E_count E_from E_to E_places E_configurations E_gone T_configuration T_ringKeys T_ringEdges v3 v4 (T_ringKeys v4.toNatClampNeg) (v4 + 1)
noncomputable def fT_tellEdges (E_count : Int32) (E_from : (Nat → Int32)) (E_to : (Nat → Int32)) (E_places : (Nat → Int32)) (E_configurations : (Nat → Int32)) (E_gone : (Nat → Int32)) (T_configuration : Int32) (T_onlyIn : (Nat → Int32)) (T_starts : (Nat → Int32)) (T_ringKeys : (Nat → Int32)) (T_ringEdges : (Nat → Int32)) (p1 : Int32) : Option ((Nat → Int32) × (Nat → Int32)) :=
  og_ck p1 41 <|
  fT_tellEdges_L12 (fT_tellEdges_K12_105 T_configuration T_onlyIn p1) E_count E_from E_to E_places E_configurations E_gone T_configuration T_starts T_ringKeys p1 FU 255 (T_starts p1.toNatClampNeg) T_ringEdges
noncomputable def fT_tell_K35_57 (R_layers : (Nat → Int64)) (T_configuration : Int32) (T_ringCount : Int32) (T_partOf : (Nat → Int32)) (T_stateOf : (Nat → Int32)) (T_leastOf : (Nat → Int32)) (T_keyCount : Int32) (T_starts : (Nat → Int32)) (T_ringKeys : (Nat → Int32)) (T_onlyIn : (Nat → Int32)) (T_ringEdges : (Nat → Int32)) : Option ((Nat → Int64) × Int32 × Int32 × (Nat → Int32) × (Nat → Int32) × (Nat → Int32) × (Nat → Int32) × Int32 × (Nat → Int32) × (Nat → Int32) × (Nat → Int32)) :=
  some (R_layers, T_configuration, T_ringCount, T_partOf, T_stateOf, T_leastOf, T_onlyIn, T_keyCount, T_starts, T_ringKeys, T_ringEdges)
noncomputable def fT_tell_L35 (k35_57 : (Nat → Int32) → (Nat → Int32) → Option ((Nat → Int64) × Int32 × Int32 × (Nat → Int32) × (Nat → Int32) × (Nat → Int32) × (Nat → Int32) × Int32 × (Nat → Int32) × (Nat → Int32) × (Nat → Int32))) (E_count : Int32) (E_from : (Nat → Int32)) (E_to : (Nat → Int32)) (E_places : (Nat → Int32)) (E_configurations : (Nat → Int32)) (E_gone : (Nat → Int32)) (T_configuration : Int32) (T_ringCount : Int32) (T_starts : (Nat → Int32)) (T_ringKeys : (Nat → Int32)) : Nat → Int32 → (Nat → Int32) → (Nat → Int32) → Option ((Nat → Int64) × Int32 × Int32 × (Nat → Int32) × (Nat → Int32) × (Nat → Int32) × (Nat → Int32) × Int32 × (Nat → Int32) × (Nat → Int32) × (Nat → Int32))
  | 0, _, _, _ => none
  | n + 1, v5, T_onlyIn, T_ringEdges =>
    if T_ringCount ≤ v5 then
      k35_57 T_onlyIn T_ringEdges
    else
      (fT_tellEdges E_count E_from E_to E_places E_configurations E_gone T_configuration T_onlyIn T_starts T_ringKeys T_ringEdges v5).bind fun r48 =>
      fT_tell_L35 k35_57 E_count E_from E_to E_places E_configurations E_gone T_configuration T_ringCount T_starts T_ringKeys n (v5 + 1) r48.1 r48.2
noncomputable def fT_tell (K_count : Int32) (K_byRank : (Nat → Int32)) (E_count : Int32) (E_from : (Nat → Int32)) (E_to : (Nat → Int32)) (E_places : (Nat → Int32)) (E_configurations : (Nat → Int32)) (E_gone : (Nat → Int32)) (R_count : Int32) (R_asked : (Nat → Int64)) (R_reached : (Nat → Int64)) (R_shortest : (Nat → Int32)) (R_layers : (Nat → Int64)) (T_configuration : Int32) (T_ringCount : Int32) (T_partOf : (Nat → Int32)) (T_stateOf : (Nat → Int32)) (T_leastOf : (Nat → Int32)) (T_onlyIn : (Nat → Int32)) (T_keyCount : Int32) (T_starts : (Nat → Int32)) (T_ringKeys : (Nat → Int32)) (T_ringEdges : (Nat → Int32)) (p4 : Int32) : Option ((Nat → Int64) × Int32 × Int32 × (Nat → Int32) × (Nat → Int32) × (Nat → Int32) × (Nat → Int32) × Int32 × (Nat → Int32) × (Nat → Int32) × (Nat → Int32)) :=
  (fT_tellKeys K_byRank R_count R_reached R_shortest T_stateOf T_leastOf K_count).bind fun r17 =>
  (fT_numberParts K_byRank R_reached T_partOf K_count).bind fun r23 =>
  (fT_tellRings K_byRank R_count R_asked R_reached R_shortest R_layers T_ringCount K_count T_starts T_ringKeys).bind fun r29 =>
  fT_tell_L35 (fT_tell_K35_57 r29.1 p4 r29.2.1 r23 r17.1 r17.2 K_count r29.2.2.1 r29.2.2.2) E_count E_from E_to E_places E_configurations E_gone p4 r29.2.1 r29.2.2.1 r29.2.2.2 FU 0 T_onlyIn T_ringEdges
noncomputable def fT_hasRing (T_ringCount : Int32) (p1 : Int32) : Option (Int32) :=
  if p1 < 0 then
    some 0
  else
    if T_ringCount ≤ p1 then
      some 0
    else
      some 1
noncomputable def fT_length (T_starts : (Nat → Int32)) (p1 : Int32) : Option (Int32) :=
  og_ck (p1 + 1) 41 <|
  og_ck p1 41 <|
  some ((T_starts (p1 + 1).toNatClampNeg) - (T_starts p1.toNatClampNeg))
noncomputable def fT_keyAt (T_starts : (Nat → Int32)) (T_ringKeys : (Nat → Int32)) (p1 : Int32) (p2 : Int32) : Option (Int32) :=
  og_ck p1 41 <|
  og_ck ((T_starts p1.toNatClampNeg) + p2) 40 <|
  some (T_ringKeys ((T_starts p1.toNatClampNeg) + p2).toNatClampNeg)
noncomputable def fT_edgeAt (T_starts : (Nat → Int32)) (T_ringEdges : (Nat → Int32)) (p1 : Int32) (p2 : Int32) : Option (Int32) :=
  og_ck p1 41 <|
  og_ck ((T_starts p1.toNatClampNeg) + p2) 40 <|
  some (T_ringEdges ((T_starts p1.toNatClampNeg) + p2).toNatClampNeg)
noncomputable def fT_lastEdge_K9_38 (v2 : Int32) : Option (Int32) :=
  some v2
noncomputable def fT_lastEdge_L9 (k9_38 : Int32 → Option (Int32)) (T_starts : (Nat → Int32)) (T_ringEdges : (Nat → Int32)) (p1 : Int32) : Nat → Int32 → Int32 → Option (Int32)
  | 0, _, _ => none
  | n + 1, v2, v3 =>
    og_ck (p1 + 1) 41 <|
    if (T_starts (p1 + 1).toNatClampNeg) ≤ v3 then
      k9_38 v2
    else
      og_ck v3 40 <|
      fT_lastEdge_L9 k9_38 T_starts T_ringEdges p1 n (if v2 < (T_ringEdges v3.toNatClampNeg) then (T_ringEdges v3.toNatClampNeg) else v2) (v3 + 1)
noncomputable def fT_lastEdge (T_starts : (Nat → Int32)) (T_ringEdges : (Nat → Int32)) (p1 : Int32) : Option (Int32) :=
  og_ck p1 41 <|
  fT_lastEdge_L9 fT_lastEdge_K9_38 T_starts T_ringEdges p1 FU (-1) (T_starts p1.toNatClampNeg)
noncomputable def fT_hasKey (T_keyCount : Int32) (p1 : Int32) : Option (Int32) :=
  if p1 < 0 then
    some 0
  else
    if T_keyCount ≤ p1 then
      some 0
    else
      some 1
noncomputable def fA_push (A_openCount : Int32) (A_open : (Nat → Int32)) (A_nextEdge : (Nat → Int32)) (A_wasAsked : (Nat → Int32)) (p1 : Int32) : Option (Int32 × (Nat → Int32) × (Nat → Int32) × (Nat → Int32)) :=
  if 40 ≤ A_openCount then
    some (A_openCount, A_open, A_nextEdge, A_wasAsked)
  else
    og_ck A_openCount 40 <|
    og_ck p1 40 <|
    og_ck p1 40 <|
    some ((A_openCount + 1), (upd A_open A_openCount.toNatClampNeg p1), (upd A_nextEdge p1.toNatClampNeg 0), (upd A_wasAsked p1.toNatClampNeg (vp_nar .boolean 1)))
noncomputable def fA_begin_K2_20 (A_open : (Nat → Int32)) (A_nextEdge : (Nat → Int32)) (p1 : Int32) (A_wasAsked : (Nat → Int32)) : Option (Int32 × Int32 × (Nat → Int32) × (Nat → Int32) × (Nat → Int32)) :=
  (fA_push 0 A_open A_nextEdge A_wasAsked p1).bind fun r32 =>
  some (0, r32.1, r32.2.1, r32.2.2.1, r32.2.2.2)
noncomputable def fA_begin_L2 (k2_20 : (Nat → Int32) → Option (Int32 × Int32 × (Nat → Int32) × (Nat → Int32) × (Nat → Int32))) (p2 : Int32) : Nat → Int32 → (Nat → Int32) → Option (Int32 × Int32 × (Nat → Int32) × (Nat → Int32) × (Nat → Int32))
  | 0, _, _ => none
  | n + 1, v3, A_wasAsked =>
    if p2 ≤ v3 then
      k2_20 A_wasAsked
    else
      og_ck v3 40 <|
      fA_begin_L2 k2_20 p2 n (v3 + 1) (upd A_wasAsked v3.toNatClampNeg (vp_nar .boolean 0))
noncomputable def fA_begin (A_metCount : Int32) (A_openCount : Int32) (A_open : (Nat → Int32)) (A_nextEdge : (Nat → Int32)) (A_wasAsked : (Nat → Int32)) (p1 : Int32) (p2 : Int32) : Option (Int32 × Int32 × (Nat → Int32) × (Nat → Int32) × (Nat → Int32)) :=
  fA_begin_L2 (fA_begin_K2_20 A_open A_nextEdge p1) p2 FU 0 A_wasAsked
noncomputable def fA_openAt_K2_28 : Option (Int32) :=
  some (-1)
noncomputable def fA_openAt_L2 (k2_28 : Option (Int32)) (A_openCount : Int32) (A_open : (Nat → Int32)) (p1 : Int32) : Nat → Int32 → Option (Int32)
  | 0, _ => none
  | n + 1, v2 =>
    if A_openCount ≤ v2 then
      k2_28
    else
      og_ck v2 40 <|
      if (A_open v2.toNatClampNeg) = p1 then
        some v2
      else
        fA_openAt_L2 k2_28 A_openCount A_open p1 n (v2 + 1)
noncomputable def fA_openAt (A_openCount : Int32) (A_open : (Nat → Int32)) (p1 : Int32) : Option (Int32) :=
  fA_openAt_L2 fA_openAt_K2_28 A_openCount A_open p1 FU 0
noncomputable def fA_nextTarget_K8_86 (A_nextEdge : (Nat → Int32)) : Option (Int32 × (Nat → Int32)) :=
  some ((-1), A_nextEdge)
noncomputable def fA_nextTarget_L8 (k8_86 : (Nat → Int32) → Option (Int32 × (Nat → Int32))) (E_count : Int32) (E_from : (Nat → Int32)) (E_to : (Nat → Int32)) (E_configurations : (Nat → Int32)) (E_gone : (Nat → Int32)) (A_openCount : Int32) (A_open : (Nat → Int32)) (A_wasAsked : (Nat → Int32)) (p1 : Int32) (p3 : Int32) : Nat → Int32 → (Nat → Int32) → Option (Int32 × (Nat → Int32))
  | 0, _, _ => none
  | n + 1, v4, A_nextEdge =>
    if E_count ≤ v4 then
      k8_86 A_nextEdge
    else
      og_ck v4 160 <|
      if (E_from v4.toNatClampNeg) = p1 then
        (fE_isIn E_count E_configurations E_gone v4 p3).bind fun r32 =>
        if r32 = 0 then
          fA_nextTarget_L8 k8_86 E_count E_from E_to E_configurations E_gone A_openCount A_open A_wasAsked p1 p3 n (v4 + 1) A_nextEdge
        else
          og_ck v4 160 <|
          og_ck (E_to v4.toNatClampNeg) 40 <|
          if (A_wasAsked (E_to v4.toNatClampNeg).toNatClampNeg) = 0 then
            og_ck p1 40 <|
            some ((E_to v4.toNatClampNeg), (upd A_nextEdge p1.toNatClampNeg (v4 + 1)))
          else
            (fA_openAt A_openCount A_open (E_to v4.toNatClampNeg)).bind fun r60 =>
            if r60 = (-1) then
              fA_nextTarget_L8 k8_86 E_count E_from E_to E_configurations E_gone A_openCount A_open A_wasAsked p1 p3 n (v4 + 1) A_nextEdge
            else
              og_ck p1 40 <|
              some ((E_to v4.toNatClampNeg), (upd A_nextEdge p1.toNatClampNeg (v4 + 1)))
      else
        fA_nextTarget_L8 k8_86 E_count E_from E_to E_configurations E_gone A_openCount A_open A_wasAsked p1 p3 n (v4 + 1) A_nextEdge
noncomputable def fA_nextTarget (E_count : Int32) (E_from : (Nat → Int32)) (E_to : (Nat → Int32)) (E_configurations : (Nat → Int32)) (E_gone : (Nat → Int32)) (A_openCount : Int32) (A_open : (Nat → Int32)) (A_nextEdge : (Nat → Int32)) (A_wasAsked : (Nat → Int32)) (p1 : Int32) (p3 : Int32) : Option (Int32 × (Nat → Int32)) :=
  og_ck p1 40 <|
  fA_nextTarget_L8 fA_nextTarget_K8_86 E_count E_from E_to E_configurations E_gone A_openCount A_open A_wasAsked p1 p3 FU (A_nextEdge p1.toNatClampNeg) A_nextEdge
noncomputable def fA_meet (A_metCount : Int32) (A_metKeys : (Nat → Int32)) (A_openCount : Int32) (A_open : (Nat → Int32)) (p1 : Int32) : Option (Int32 × (Nat → Int32)) :=
  (fA_openAt A_openCount A_open p1).bind fun r2 =>
  if r2 = (-1) then
    some (A_metCount, A_metKeys)
  else
    og_cp r2 0 (A_openCount - r2) 40 40 <|
    some ((A_openCount - r2), (va_cpy A_open A_metKeys r2.toNatClampNeg (0 : Int32).toNatClampNeg (A_openCount - r2).toNatClampNeg))
noncomputable def fA_goOn_K2_82 (A_metCount : Int32) (A_metKeys : (Nat → Int32)) (A_openCount : Int32) (A_open : (Nat → Int32)) (A_nextEdge : (Nat → Int32)) (A_wasAsked : (Nat → Int32)) : Option (Int32 × (Nat → Int32) × Int32 × (Nat → Int32) × (Nat → Int32) × (Nat → Int32)) :=
  some (A_metCount, A_metKeys, A_openCount, A_open, A_nextEdge, A_wasAsked)
noncomputable def fA_goOn_L2 (k2_82 : Int32 → (Nat → Int32) → Int32 → (Nat → Int32) → (Nat → Int32) → (Nat → Int32) → Option (Int32 × (Nat → Int32) × Int32 × (Nat → Int32) × (Nat → Int32) × (Nat → Int32))) (E_count : Int32) (E_from : (Nat → Int32)) (E_to : (Nat → Int32)) (E_configurations : (Nat → Int32)) (E_gone : (Nat → Int32)) (p2 : Int32) : Nat → Int32 → Int32 → (Nat → Int32) → Int32 → (Nat → Int32) → (Nat → Int32) → (Nat → Int32) → Option (Int32 × (Nat → Int32) × Int32 × (Nat → Int32) × (Nat → Int32) × (Nat → Int32))
  | 0, _, _, _, _, _, _, _ => none
  | n + 1, v3, A_metCount, A_metKeys, A_openCount, A_open, A_nextEdge, A_wasAsked =>
    if 80 ≤ v3 then
      k2_82 A_metCount A_metKeys A_openCount A_open A_nextEdge A_wasAsked
    else
      if A_openCount ≤ 0 then
        k2_82 A_metCount A_metKeys A_openCount A_open A_nextEdge A_wasAsked
      else
        og_ck (A_openCount - 1) 40 <|
        (fA_nextTarget E_count E_from E_to E_configurations E_gone A_openCount A_open A_nextEdge A_wasAsked (A_open (A_openCount - 1).toNatClampNeg) p2).bind fun r29 =>
        if r29.1 = (-1) then
          fA_goOn_L2 k2_82 E_count E_from E_to E_configurations E_gone p2 n (v3 + 1) A_metCount A_metKeys (A_openCount - 1) A_open r29.2 A_wasAsked
        else
          og_ck r29.1 40 <|
          if (A_wasAsked r29.1.toNatClampNeg) = 0 then
            (fA_push A_openCount A_open r29.2 A_wasAsked r29.1).bind fun r73 =>
            fA_goOn_L2 k2_82 E_count E_from E_to E_configurations E_gone p2 n (v3 + 1) A_metCount A_metKeys r73.1 r73.2.1 r73.2.2.1 r73.2.2.2
          else
            (fA_meet A_metCount A_metKeys A_openCount A_open r29.1).bind fun r66 =>
            some (r66.1, r66.2, A_openCount, A_open, r29.2, A_wasAsked)
noncomputable def fA_goOn (E_count : Int32) (E_from : (Nat → Int32)) (E_to : (Nat → Int32)) (E_configurations : (Nat → Int32)) (E_gone : (Nat → Int32)) (A_metCount : Int32) (A_metKeys : (Nat → Int32)) (A_openCount : Int32) (A_open : (Nat → Int32)) (A_nextEdge : (Nat → Int32)) (A_wasAsked : (Nat → Int32)) (p2 : Int32) : Option (Int32 × (Nat → Int32) × Int32 × (Nat → Int32) × (Nat → Int32) × (Nat → Int32)) :=
  fA_goOn_L2 fA_goOn_K2_82 E_count E_from E_to E_configurations E_gone p2 FU 0 A_metCount A_metKeys A_openCount A_open A_nextEdge A_wasAsked
noncomputable def fC_key (K_count : Int32) (K_names : (Nat → Int32)) (K_byRank : (Nat → Int32)) (K_rankOf : (Nat → Int32)) (p1 : Int32) : Option (Int32 × Int32 × (Nat → Int32) × (Nat → Int32) × (Nat → Int32)) :=
  (fK_add K_count K_names K_byRank K_rankOf p1).bind fun r5 =>
  some (r5.1, r5.2.1, r5.2.2.1, r5.2.2.2.1, r5.2.2.2.2)
noncomputable def fC_edge (K_count : Int32) (E_count : Int32) (E_from : (Nat → Int32)) (E_to : (Nat → Int32)) (E_places : (Nat → Int32)) (E_configurations : (Nat → Int32)) (p1 : Int32) (p2 : Int32) (p3 : Int32) (p4 : Int32) : Option (Int32 × Int32 × (Nat → Int32) × (Nat → Int32) × (Nat → Int32) × (Nat → Int32)) :=
  (fK_has K_count p1).bind fun r5 =>
  if r5 = 0 then
    some ((-1), E_count, E_from, E_to, E_places, E_configurations)
  else
    (fK_has K_count p2).bind fun r16 =>
    if r16 = 0 then
      some ((-1), E_count, E_from, E_to, E_places, E_configurations)
    else
      (fE_add E_count E_from E_to E_places E_configurations p1 p2 p3 p4).bind fun r33 =>
      some (r33.1, r33.2.1, r33.2.2.1, r33.2.2.2.1, r33.2.2.2.2.1, r33.2.2.2.2.2)
noncomputable def fC_remove (E_count : Int32) (E_from : (Nat → Int32)) (E_to : (Nat → Int32)) (E_gone : (Nat → Int32)) (p1 : Int32) (p2 : Int32) : Option (Int32 × (Nat → Int32)) :=
  (fE_dropBetween E_count E_from E_to E_gone p1 p2).bind fun r6 =>
  some (r6.1, r6.2)
noncomputable def fC_cut (E_count : Int32) (E_gone : (Nat → Int32)) (p1 : Int32) : Option (Int32 × (Nat → Int32)) :=
  (fE_drop E_count E_gone p1).bind fun r5 =>
  og_bl r5.1 (some (r5.1, r5.2))
noncomputable def fC_run (K_count : Int32) (K_byRank : (Nat → Int32)) (K_rankOf : (Nat → Int32)) (E_count : Int32) (E_from : (Nat → Int32)) (E_to : (Nat → Int32)) (E_places : (Nat → Int32)) (E_configurations : (Nat → Int32)) (E_gone : (Nat → Int32)) (R_count : Int32) (R_asked : (Nat → Int64)) (R_reached : (Nat → Int64)) (R_shortest : (Nat → Int32)) (R_layers : (Nat → Int64)) (T_configuration : Int32) (T_ringCount : Int32) (T_partOf : (Nat → Int32)) (T_stateOf : (Nat → Int32)) (T_leastOf : (Nat → Int32)) (T_onlyIn : (Nat → Int32)) (T_keyCount : Int32) (T_starts : (Nat → Int32)) (T_ringKeys : (Nat → Int32)) (T_ringEdges : (Nat → Int32)) (p1 : Int32) : Option (Int32 × Int32 × (Nat → Int64) × (Nat → Int64) × (Nat → Int32) × (Nat → Int64) × Int32 × Int32 × (Nat → Int32) × (Nat → Int32) × (Nat → Int32) × (Nat → Int32) × Int32 × (Nat → Int32) × (Nat → Int32) × (Nat → Int32)) :=
  if p1 < 0 then
    some ((-1), R_count, R_asked, R_reached, R_shortest, R_layers, T_configuration, T_ringCount, T_partOf, T_stateOf, T_leastOf, T_onlyIn, T_keyCount, T_starts, T_ringKeys, T_ringEdges)
  else
    if p1 < 8 then
      (fR_draw K_count K_rankOf E_count E_from E_to E_configurations E_gone R_count R_asked R_reached R_shortest p1).bind fun r25 =>
      (fT_tell K_count K_byRank E_count E_from E_to E_places E_configurations E_gone r25.1 r25.2.1 r25.2.2.1 r25.2.2.2 R_layers T_configuration T_ringCount T_partOf T_stateOf T_leastOf T_onlyIn T_keyCount T_starts T_ringKeys T_ringEdges p1).bind fun r45 =>
      some (r45.2.2.1, r25.1, r25.2.1, r25.2.2.1, r25.2.2.2, r45.1, r45.2.1, r45.2.2.1, r45.2.2.2.1, r45.2.2.2.2.1, r45.2.2.2.2.2.1, r45.2.2.2.2.2.2.1, r45.2.2.2.2.2.2.2.1, r45.2.2.2.2.2.2.2.2.1, r45.2.2.2.2.2.2.2.2.2.1, r45.2.2.2.2.2.2.2.2.2.2)
    else
      some ((-1), R_count, R_asked, R_reached, R_shortest, R_layers, T_configuration, T_ringCount, T_partOf, T_stateOf, T_leastOf, T_onlyIn, T_keyCount, T_starts, T_ringKeys, T_ringEdges)
noncomputable def fC_size (T_ringCount : Int32) (T_starts : (Nat → Int32)) (p1 : Int32) : Option (Int32) :=
  (fT_hasRing T_ringCount p1).bind fun r5 =>
  if r5 = 0 then
    some 0
  else
    (fT_length T_starts p1).bind fun r16 =>
    some r16
noncomputable def fC_ring (E_count : Int32) (E_places : (Nat → Int32)) (T_ringCount : Int32) (T_starts : (Nat → Int32)) (T_ringKeys : (Nat → Int32)) (T_ringEdges : (Nat → Int32)) (p1 : Int32) (p2 : Int32) (p3 : Int32) : Option (Int32) :=
  (fT_hasRing T_ringCount p1).bind fun r5 =>
  if r5 = 0 then
    some (-1)
  else
    if p2 < 0 then
      some (-1)
    else
      (fT_length T_starts p1).bind fun r21 =>
      if p2 < r21 then
        if p3 = 0 then
          (fT_keyAt T_starts T_ringKeys p1 p2).bind fun r62 =>
          some r62
        else
          if p3 = 1 then
            (fT_edgeAt T_starts T_ringEdges p1 p2).bind fun r76 =>
            (fE_placeOf E_count E_places r76).bind fun r79 =>
            some r79
          else
            if p3 = 2 then
              (fT_edgeAt T_starts T_ringEdges p1 p2).bind fun r89 =>
              some r89
            else
              some (-1)
      else
        some (-1)
noncomputable def fC_only (T_ringCount : Int32) (T_onlyIn : (Nat → Int32)) (p1 : Int32) : Option (Int32) :=
  (fT_hasRing T_ringCount p1).bind fun r5 =>
  if r5 = 0 then
    some (-1)
  else
    og_ck p1 40 <|
    some (T_onlyIn p1.toNatClampNeg)
noncomputable def fC_newest (T_ringCount : Int32) (T_starts : (Nat → Int32)) (T_ringEdges : (Nat → Int32)) (p1 : Int32) : Option (Int32) :=
  (fT_hasRing T_ringCount p1).bind fun r5 =>
  if r5 = 0 then
    some (-1)
  else
    (fT_lastEdge T_starts T_ringEdges p1).bind fun r16 =>
    some r16
noncomputable def fC_strong (T_partOf : (Nat → Int32)) (T_keyCount : Int32) (p1 : Int32) : Option (Int32) :=
  (fT_hasKey T_keyCount p1).bind fun r5 =>
  if r5 = 0 then
    some (-1)
  else
    og_ck p1 40 <|
    some (T_partOf p1.toNatClampNeg)
noncomputable def fC_state (T_stateOf : (Nat → Int32)) (T_keyCount : Int32) (p1 : Int32) : Option (Int32) :=
  (fT_hasKey T_keyCount p1).bind fun r5 =>
  if r5 = 0 then
    some (-1)
  else
    og_ck p1 40 <|
    some (T_stateOf p1.toNatClampNeg)
noncomputable def fC_least (T_leastOf : (Nat → Int32)) (T_keyCount : Int32) (p1 : Int32) : Option (Int32) :=
  (fT_hasKey T_keyCount p1).bind fun r5 =>
  if r5 = 0 then
    some (-1)
  else
    og_ck p1 40 <|
    some (T_leastOf p1.toNatClampNeg)
noncomputable def fC_ask (K_count : Int32) (E_count : Int32) (E_from : (Nat → Int32)) (E_to : (Nat → Int32)) (E_configurations : (Nat → Int32)) (E_gone : (Nat → Int32)) (T_configuration : Int32) (A_metCount : Int32) (A_metKeys : (Nat → Int32)) (A_openCount : Int32) (A_open : (Nat → Int32)) (A_nextEdge : (Nat → Int32)) (A_wasAsked : (Nat → Int32)) (p1 : Int32) : Option (Int32 × Int32 × (Nat → Int32) × Int32 × (Nat → Int32) × (Nat → Int32) × (Nat → Int32)) :=
  (fK_has K_count p1).bind fun r5 =>
  if r5 = 0 then
    some ((-1), A_metCount, A_metKeys, A_openCount, A_open, A_nextEdge, A_wasAsked)
  else
    if T_configuration = (-1) then
      some ((-1), A_metCount, A_metKeys, A_openCount, A_open, A_nextEdge, A_wasAsked)
    else
      (fA_begin A_metCount A_openCount A_open A_nextEdge A_wasAsked p1 K_count).bind fun r36 =>
      (fA_goOn E_count E_from E_to E_configurations E_gone r36.1 A_metKeys r36.2.1 r36.2.2.1 r36.2.2.2.1 r36.2.2.2.2 T_configuration).bind fun r54 =>
      some (r54.1, r54.1, r54.2.1, r54.2.2.1, r54.2.2.2.1, r54.2.2.2.2.1, r54.2.2.2.2.2)
noncomputable def fC_met (A_metCount : Int32) (A_metKeys : (Nat → Int32)) (p1 : Int32) : Option (Int32) :=
  if p1 < 0 then
    some (-1)
  else
    if A_metCount ≤ p1 then
      some (-1)
    else
      og_ck p1 40 <|
      some (A_metKeys p1.toNatClampNeg)
end
section
noncomputable def fM_isKey (M_keys : Int32) (p1 : Int32) : Option (Int32) :=
  if p1 < 0 then
    some 0
  else
    if M_keys ≤ p1 then
      some 0
    else
      some 1
noncomputable def fM_key_K22_56 (M_code : Int32) (M_keys : Int32) (M_name : (Nat → Int32)) (p1 : Int32) (v2 : Int32) : Option (Int32 × Int32 × Int32 × (Nat → Int32)) :=
  if v2 = 0 then
    og_ck M_keys 40 <|
    some (((M_keys + 1) - 1), M_code, (M_keys + 1), (upd M_name M_keys.toNatClampNeg p1))
  else
    some ((-1), M_code, M_keys, M_name)
noncomputable def fM_key_L22 (k22_56 : Int32 → Option (Int32 × Int32 × Int32 × (Nat → Int32))) (M_keys : Int32) (M_name : (Nat → Int32)) (p1 : Int32) : Nat → Int32 → Int32 → Option (Int32 × Int32 × Int32 × (Nat → Int32))
  | 0, _, _ => none
  | n + 1, v2, v3 =>
    if M_keys ≤ v3 then
      k22_56 v2
    else
      if v2 = 0 then
        og_ck v3 40 <|
        if (M_name v3.toNatClampNeg) = p1 then
          fM_key_L22 k22_56 M_keys M_name p1 n 1 (v3 + 1)
        else
          fM_key_L22 k22_56 M_keys M_name p1 n 0 (v3 + 1)
      else
        fM_key_L22 k22_56 M_keys M_name p1 n 1 (v3 + 1)
noncomputable def fM_key_J19 (M_code : Int32) (M_keys : Int32) (M_name : (Nat → Int32)) (p1 : Int32) (s0 : Int32) : Option (Int32 × Int32 × Int32 × (Nat → Int32)) :=
  fM_key_L22 (fM_key_K22_56 M_code M_keys M_name p1) M_keys M_name p1 FU s0 0
noncomputable def fM_key (M_code : Int32) (M_keys : Int32) (M_name : (Nat → Int32)) (p1 : Int32) : Option (Int32 × Int32 × Int32 × (Nat → Int32)) :=
  if M_keys = 40 then
    fM_key_J19 0 M_keys M_name p1 1
  else
    fM_key_J19 0 M_keys M_name p1 0
noncomputable def fM_edge (M_code : Int32) (M_keys : Int32) (M_edges : Int32) (M_from : (Nat → Int32)) (M_to : (Nat → Int32)) (M_place : (Nat → Int32)) (M_bits : (Nat → Int32)) (p1 : Int32) (p2 : Int32) (p3 : Int32) (p4 : Int32) : Option (Int32 × Int32 × Int32 × (Nat → Int32) × (Nat → Int32) × (Nat → Int32) × (Nat → Int32)) :=
  (fM_isKey M_keys p1).bind fun r7 =>
  if r7 = 0 then
    some ((-1), 0, M_edges, M_from, M_to, M_place, M_bits)
  else
    (fM_isKey M_keys p2).bind fun r15 =>
    if r15 = 0 then
      some ((-1), 0, M_edges, M_from, M_to, M_place, M_bits)
    else
      if M_edges = 160 then
        some ((-1), 0, M_edges, M_from, M_to, M_place, M_bits)
      else
        og_ck M_edges 160 <|
        og_ck M_edges 160 <|
        og_ck M_edges 160 <|
        og_ck M_edges 160 <|
        some (((M_edges + 1) - 1), 0, (M_edges + 1), (upd M_from M_edges.toNatClampNeg p1), (upd M_to M_edges.toNatClampNeg p2), (upd M_place M_edges.toNatClampNeg p3), (upd M_bits M_edges.toNatClampNeg p4))
noncomputable def fM_remove_K10_71 (M_code : Int32) (v3 : Int32) (M_gone : (Nat → Int32)) : Option (Int32 × Int32 × (Nat → Int32)) :=
  some (v3, M_code, M_gone)
noncomputable def fM_remove_L10 (k10_71 : Int32 → (Nat → Int32) → Option (Int32 × Int32 × (Nat → Int32))) (M_edges : Int32) (M_from : (Nat → Int32)) (M_to : (Nat → Int32)) (p1 : Int32) (p2 : Int32) : Nat → Int32 → Int32 → (Nat → Int32) → Option (Int32 × Int32 × (Nat → Int32))
  | 0, _, _, _ => none
  | n + 1, v3, v4, M_gone =>
    if M_edges ≤ v4 then
      k10_71 v3 M_gone
    else
      og_ck v4 160 <|
      if (M_gone v4.toNatClampNeg) = 0 then
        og_ck v4 160 <|
        if (M_from v4.toNatClampNeg) = p1 then
          og_ck v4 160 <|
          if (M_to v4.toNatClampNeg) = p2 then
            og_ck v4 160 <|
            fM_remove_L10 k10_71 M_edges M_from M_to p1 p2 n (v3 + 1) (v4 + 1) (upd M_gone v4.toNatClampNeg (vp_nar .boolean 1))
          else
            fM_remove_L10 k10_71 M_edges M_from M_to p1 p2 n v3 (v4 + 1) M_gone
        else
          fM_remove_L10 k10_71 M_edges M_from M_to p1 p2 n v3 (v4 + 1) M_gone
      else
        fM_remove_L10 k10_71 M_edges M_from M_to p1 p2 n v3 (v4 + 1) M_gone
noncomputable def fM_remove (M_code : Int32) (M_edges : Int32) (M_from : (Nat → Int32)) (M_to : (Nat → Int32)) (M_gone : (Nat → Int32)) (p1 : Int32) (p2 : Int32) : Option (Int32 × Int32 × (Nat → Int32)) :=
  fM_remove_L10 (fM_remove_K10_71 0) M_edges M_from M_to p1 p2 FU 0 0 M_gone
noncomputable def fM_cut (M_code : Int32) (M_edges : Int32) (M_gone : (Nat → Int32)) (p1 : Int32) : Option (Int32 × Int32 × (Nat → Int32)) :=
  if p1 < 0 then
    some (0, 0, M_gone)
  else
    if M_edges ≤ p1 then
      some (0, 0, M_gone)
    else
      og_ck p1 160 <|
      if (M_gone p1.toNatClampNeg) = 0 then
        og_ck p1 160 <|
        some (1, 0, (upd M_gone p1.toNatClampNeg (vp_nar .boolean 1)))
      else
        some (0, 0, M_gone)
noncomputable def fM_isThen (M_bits : (Nat → Int32)) (M_thenGone : (Nat → Int32)) (p1 : Int32) (p2 : Int32) : Option (Int32) :=
  og_ck p1 160 <|
  if (M_thenGone p1.toNatClampNeg) = 0 then
    og_ck p1 160 <|
    if (((M_bits p1.toNatClampNeg) >>> (p2 &&& 31)) &&& 1) = 1 then
      some 1
    else
      some 0
  else
    some 0
noncomputable def fM_sort_K2_71 (M_order : (Nat → Int32)) (M_rank : (Nat → Int32)) : Option ((Nat → Int32) × (Nat → Int32)) :=
  some (M_order, M_rank)
noncomputable def fM_sort_K14_51 (c2 : Int32 → (Nat → Int32) → (Nat → Int32) → Option ((Nat → Int32) × (Nat → Int32))) (M_order : (Nat → Int32)) (M_rank : (Nat → Int32)) (v1 : Int32) (v2 : Int32) : Option ((Nat → Int32) × (Nat → Int32)) :=
  og_ck v2 40 <|
  og_ck v1 40 <|
  c2 (v1 + 1) (upd M_order v2.toNatClampNeg v1) (upd M_rank v1.toNatClampNeg v2)
noncomputable def fM_sort_L14 (k14_51 : Int32 → Option ((Nat → Int32) × (Nat → Int32))) (M_keys : Int32) (M_name : (Nat → Int32)) (v1 : Int32) : Nat → Int32 → Int32 → Option ((Nat → Int32) × (Nat → Int32))
  | 0, _, _ => none
  | n + 1, v2, v3 =>
    if M_keys ≤ v3 then
      k14_51 v2
    else
      og_ck v3 40 <|
      og_ck v1 40 <|
      if (M_name v1.toNatClampNeg) ≤ (M_name v3.toNatClampNeg) then
        fM_sort_L14 k14_51 M_keys M_name v1 n (v2 + 0) (v3 + 1)
      else
        fM_sort_L14 k14_51 M_keys M_name v1 n (v2 + 1) (v3 + 1)
noncomputable def fM_sort_L2 (k2_71 : (Nat → Int32) → (Nat → Int32) → Option ((Nat → Int32) × (Nat → Int32))) (M_keys : Int32) (M_name : (Nat → Int32)) : Nat → Int32 → (Nat → Int32) → (Nat → Int32) → Option ((Nat → Int32) × (Nat → Int32))
  | 0, _, _, _ => none
  | n + 1, v1, M_order, M_rank =>
    if M_keys ≤ v1 then
      k2_71 M_order M_rank
    else
      fM_sort_L14 (fM_sort_K14_51 (fun a0 a1 a2 => fM_sort_L2 k2_71 M_keys M_name n a0 a1 a2) M_order M_rank v1) M_keys M_name v1 FU 0 0
noncomputable def fM_sort (M_keys : Int32) (M_name : (Nat → Int32)) (M_order : (Nat → Int32)) (M_rank : (Nat → Int32)) : Option ((Nat → Int32) × (Nat → Int32)) :=
  fM_sort_L2 fM_sort_K2_71 M_keys M_name FU 0 M_order M_rank
noncomputable def fM_cell (p0 : Int32) (p1 : Int32) : Option (Int32) :=
  some ((40 * p0) + p1)
noncomputable def fM_close_K224_260 (M_asks : (Nat → Int32)) (M_steps : (Nat → Int32)) (M_reaches : (Nat → Int32)) : Option ((Nat → Int32) × (Nat → Int32) × (Nat → Int32)) :=
  some (M_asks, M_reaches, M_steps)
noncomputable def fM_close_L224 (k224_260 : (Nat → Int32) → Option ((Nat → Int32) × (Nat → Int32) × (Nat → Int32))) (M_steps : (Nat → Int32)) : Nat → Int32 → (Nat → Int32) → Option ((Nat → Int32) × (Nat → Int32) × (Nat → Int32))
  | 0, _, _ => none
  | n + 1, v1, M_reaches =>
    if 1600 ≤ v1 then
      k224_260 M_reaches
    else
      og_ck v1 1600 <|
      if 1000 ≤ (M_steps v1.toNatClampNeg) then
        og_ck v1 1600 <|
        fM_close_L224 k224_260 M_steps n (v1 + 1) (upd M_reaches v1.toNatClampNeg (vp_nar .boolean 0))
      else
        og_ck v1 1600 <|
        fM_close_L224 k224_260 M_steps n (v1 + 1) (upd M_reaches v1.toNatClampNeg (vp_nar .boolean 1))
noncomputable def fM_close_K126_222 (M_asks : (Nat → Int32)) (M_reaches : (Nat → Int32)) (M_steps : (Nat → Int32)) : Option ((Nat → Int32) × (Nat → Int32) × (Nat → Int32)) :=
  fM_close_L224 (fM_close_K224_260 M_asks M_steps) M_steps FU 0 M_reaches
noncomputable def fM_close_K136_216 (c126 : Int32 → (Nat → Int32) → Option ((Nat → Int32) × (Nat → Int32) × (Nat → Int32))) (v1 : Int32) (M_steps : (Nat → Int32)) : Option ((Nat → Int32) × (Nat → Int32) × (Nat → Int32)) :=
  c126 (v1 + 1) M_steps
noncomputable def fM_close_K146_210 (c136 : Int32 → (Nat → Int32) → Option ((Nat → Int32) × (Nat → Int32) × (Nat → Int32))) (v2 : Int32) (M_steps : (Nat → Int32)) : Option ((Nat → Int32) × (Nat → Int32) × (Nat → Int32)) :=
  c136 (v2 + 1) M_steps
noncomputable def fM_close_L146 (k146_210 : (Nat → Int32) → Option ((Nat → Int32) × (Nat → Int32) × (Nat → Int32))) (M_thenKeys : Int32) (v1 : Int32) (v2 : Int32) : Nat → Int32 → (Nat → Int32) → Option ((Nat → Int32) × (Nat → Int32) × (Nat → Int32))
  | 0, _, _ => none
  | n + 1, v3, M_steps =>
    if M_thenKeys ≤ v3 then
      k146_210 M_steps
    else
      (fM_cell v2 v1).bind fun r160 =>
      og_ck r160 1600 <|
      (fM_cell v1 v3).bind fun r170 =>
      og_ck r170 1600 <|
      (fM_cell v2 v3).bind fun r185 =>
      og_ck r185 1600 <|
      if (M_steps r185.toNatClampNeg) ≤ ((M_steps r160.toNatClampNeg) + (M_steps r170.toNatClampNeg)) then
        fM_close_L146 k146_210 M_thenKeys v1 v2 n (v3 + 1) M_steps
      else
        (fM_cell v2 v3).bind fun r198 =>
        og_ck r198 1600 <|
        fM_close_L146 k146_210 M_thenKeys v1 v2 n (v3 + 1) (upd M_steps r198.toNatClampNeg ((M_steps r160.toNatClampNeg) + (M_steps r170.toNatClampNeg)))
noncomputable def fM_close_L136 (k136_216 : (Nat → Int32) → Option ((Nat → Int32) × (Nat → Int32) × (Nat → Int32))) (M_thenKeys : Int32) (v1 : Int32) : Nat → Int32 → (Nat → Int32) → Option ((Nat → Int32) × (Nat → Int32) × (Nat → Int32))
  | 0, _, _ => none
  | n + 1, v2, M_steps =>
    if M_thenKeys ≤ v2 then
      k136_216 M_steps
    else
      fM_close_L146 (fM_close_K146_210 (fun a0 a1 => fM_close_L136 k136_216 M_thenKeys v1 n a0 a1) v2) M_thenKeys v1 v2 FU 0 M_steps
noncomputable def fM_close_L126 (k126_222 : (Nat → Int32) → Option ((Nat → Int32) × (Nat → Int32) × (Nat → Int32))) (M_thenKeys : Int32) : Nat → Int32 → (Nat → Int32) → Option ((Nat → Int32) × (Nat → Int32) × (Nat → Int32))
  | 0, _, _ => none
  | n + 1, v1, M_steps =>
    if M_thenKeys ≤ v1 then
      k126_222 M_steps
    else
      fM_close_L136 (fM_close_K136_216 (fun a0 a1 => fM_close_L126 k126_222 M_thenKeys n a0 a1) v1) M_thenKeys v1 FU 0 M_steps
noncomputable def fM_close_K33_124 (M_thenKeys : Int32) (M_reaches : (Nat → Int32)) (M_asks : (Nat → Int32)) (M_steps : (Nat → Int32)) : Option ((Nat → Int32) × (Nat → Int32) × (Nat → Int32)) :=
  fM_close_L126 (fM_close_K126_222 M_asks M_reaches) M_thenKeys FU 0 M_steps
noncomputable def fM_close_L33 (k33_124 : (Nat → Int32) → (Nat → Int32) → Option ((Nat → Int32) × (Nat → Int32) × (Nat → Int32))) (M_from : (Nat → Int32)) (M_to : (Nat → Int32)) (M_bits : (Nat → Int32)) (M_thenEdges : Int32) (M_configuration : Int32) (M_thenGone : (Nat → Int32)) (M_rank : (Nat → Int32)) : Nat → Int32 → (Nat → Int32) → (Nat → Int32) → Option ((Nat → Int32) × (Nat → Int32) × (Nat → Int32))
  | 0, _, _, _ => none
  | n + 1, v1, M_asks, M_steps =>
    if M_thenEdges ≤ v1 then
      k33_124 M_asks M_steps
    else
      (fM_isThen M_bits M_thenGone v1 M_configuration).bind fun r47 =>
      if r47 = 0 then
        fM_close_L33 k33_124 M_from M_to M_bits M_thenEdges M_configuration M_thenGone M_rank n (v1 + 1) M_asks M_steps
      else
        og_ck v1 160 <|
        og_ck (M_from v1.toNatClampNeg) 40 <|
        og_ck v1 160 <|
        og_ck (M_to v1.toNatClampNeg) 40 <|
        (fM_cell (M_rank (M_from v1.toNatClampNeg).toNatClampNeg) (M_rank (M_to v1.toNatClampNeg).toNatClampNeg)).bind fun r82 =>
        og_ck r82 1600 <|
        og_ck v1 160 <|
        og_ck (M_from v1.toNatClampNeg) 40 <|
        og_ck v1 160 <|
        og_ck (M_to v1.toNatClampNeg) 40 <|
        (fM_cell (M_rank (M_from v1.toNatClampNeg).toNatClampNeg) (M_rank (M_to v1.toNatClampNeg).toNatClampNeg)).bind fun r113 =>
        og_ck r113 1600 <|
        fM_close_L33 k33_124 M_from M_to M_bits M_thenEdges M_configuration M_thenGone M_rank n (v1 + 1) (upd M_asks r82.toNatClampNeg (vp_nar .boolean 1)) (upd M_steps r113.toNatClampNeg 1)
noncomputable def fM_close_K2_31 (M_from : (Nat → Int32)) (M_to : (Nat → Int32)) (M_bits : (Nat → Int32)) (M_thenKeys : Int32) (M_thenEdges : Int32) (M_configuration : Int32) (M_thenGone : (Nat → Int32)) (M_rank : (Nat → Int32)) (M_reaches : (Nat → Int32)) (M_asks : (Nat → Int32)) (M_steps : (Nat → Int32)) : Option ((Nat → Int32) × (Nat → Int32) × (Nat → Int32)) :=
  fM_close_L33 (fM_close_K33_124 M_thenKeys M_reaches) M_from M_to M_bits M_thenEdges M_configuration M_thenGone M_rank FU 0 M_asks M_steps
noncomputable def fM_close_L2 (k2_31 : (Nat → Int32) → (Nat → Int32) → Option ((Nat → Int32) × (Nat → Int32) × (Nat → Int32))) : Nat → Int32 → (Nat → Int32) → (Nat → Int32) → Option ((Nat → Int32) × (Nat → Int32) × (Nat → Int32))
  | 0, _, _, _ => none
  | n + 1, v1, M_asks, M_steps =>
    if 1600 ≤ v1 then
      k2_31 M_asks M_steps
    else
      og_ck v1 1600 <|
      og_ck v1 1600 <|
      fM_close_L2 k2_31 n (v1 + 1) (upd M_asks v1.toNatClampNeg (vp_nar .boolean 0)) (upd M_steps v1.toNatClampNeg 1000)
noncomputable def fM_close (M_from : (Nat → Int32)) (M_to : (Nat → Int32)) (M_bits : (Nat → Int32)) (M_thenKeys : Int32) (M_thenEdges : Int32) (M_configuration : Int32) (M_thenGone : (Nat → Int32)) (M_rank : (Nat → Int32)) (M_asks : (Nat → Int32)) (M_reaches : (Nat → Int32)) (M_steps : (Nat → Int32)) : Option ((Nat → Int32) × (Nat → Int32) × (Nat → Int32)) :=
  fM_close_L2 (fM_close_K2_31 M_from M_to M_bits M_thenKeys M_thenEdges M_configuration M_thenGone M_rank M_reaches) FU 0 M_asks M_steps
noncomputable def fM_isTogether (M_reaches : (Nat → Int32)) (p1 : Int32) (p2 : Int32) : Option (Int32) :=
  if p1 = p2 then
    some 1
  else
    (fM_cell p1 p2).bind fun r11 =>
    og_ck r11 1600 <|
    if (M_reaches r11.toNatClampNeg) = 0 then
      some 0
    else
      (fM_cell p2 p1).bind fun r24 =>
      og_ck r24 1600 <|
      if (M_reaches r24.toNatClampNeg) = 0 then
        some 0
      else
        some 1
noncomputable def fM_cutIntoParts_K7_132 (M_part : (Nat → Int32)) (M_shortest : (Nat → Int32)) (M_parts : Int32) : Option ((Nat → Int32) × (Nat → Int32) × Int32) :=
  some (M_part, M_shortest, M_parts)
noncomputable def fM_cutIntoParts_J89 (c7 : Int32 → (Nat → Int32) → (Nat → Int32) → Int32 → Option ((Nat → Int32) × (Nat → Int32) × Int32)) (M_part : (Nat → Int32)) (M_shortest : (Nat → Int32)) (M_reaches : (Nat → Int32)) (M_steps : (Nat → Int32)) (v1 : Int32) (s1 : Int32) (s2 : Int32) : Option ((Nat → Int32) × (Nat → Int32) × Int32) :=
  (fM_cell v1 v1).bind fun r104 =>
  og_ck r104 1600 <|
  if (M_reaches r104.toNatClampNeg) = 0 then
    og_ck v1 40 <|
    c7 (v1 + 1) M_part (upd M_shortest v1.toNatClampNeg 0) (s1 + s2)
  else
    (fM_cell v1 v1).bind fun r117 =>
    og_ck r117 1600 <|
    og_ck v1 40 <|
    c7 (v1 + 1) M_part (upd M_shortest v1.toNatClampNeg (M_steps r117.toNatClampNeg)) (s1 + s2)
noncomputable def fM_cutIntoParts_J73 (c7 : Int32 → (Nat → Int32) → (Nat → Int32) → Int32 → Option ((Nat → Int32) × (Nat → Int32) × Int32)) (M_part : (Nat → Int32)) (M_shortest : (Nat → Int32)) (M_reaches : (Nat → Int32)) (M_steps : (Nat → Int32)) (M_parts : Int32) (v1 : Int32) (v2 : Int32) (s1 : Int32) (s2 : Int32) : Option ((Nat → Int32) × (Nat → Int32) × Int32) :=
  og_ck s1 40 <|
  if v2 = (-1) then
    fM_cutIntoParts_J89 c7 (upd M_part s1.toNatClampNeg s2) M_shortest M_reaches M_steps v1 M_parts 1
  else
    fM_cutIntoParts_J89 c7 (upd M_part s1.toNatClampNeg s2) M_shortest M_reaches M_steps v1 M_parts 0
noncomputable def fM_cutIntoParts_K19_55 (c7 : Int32 → (Nat → Int32) → (Nat → Int32) → Int32 → Option ((Nat → Int32) × (Nat → Int32) × Int32)) (M_part : (Nat → Int32)) (M_shortest : (Nat → Int32)) (M_reaches : (Nat → Int32)) (M_steps : (Nat → Int32)) (M_parts : Int32) (v1 : Int32) (v2 : Int32) : Option ((Nat → Int32) × (Nat → Int32) × Int32) :=
  if v2 = (-1) then
    fM_cutIntoParts_J73 c7 M_part M_shortest M_reaches M_steps M_parts v1 v2 v1 M_parts
  else
    fM_cutIntoParts_J73 c7 M_part M_shortest M_reaches M_steps M_parts v1 v2 v1 v2
noncomputable def fM_cutIntoParts_L19 (k19_55 : Int32 → Option ((Nat → Int32) × (Nat → Int32) × Int32)) (M_part : (Nat → Int32)) (M_reaches : (Nat → Int32)) (v1 : Int32) : Nat → Int32 → Int32 → Option ((Nat → Int32) × (Nat → Int32) × Int32)
  | 0, _, _ => none
  | n + 1, v2, v3 =>
    if v1 ≤ v3 then
      k19_55 v2
    else
      if v2 = (-1) then
        (fM_isTogether M_reaches v1 v3).bind fun r32 =>
        if r32 = 0 then
          fM_cutIntoParts_L19 k19_55 M_part M_reaches v1 n (-1) (v3 + 1)
        else
          og_ck v3 40 <|
          fM_cutIntoParts_L19 k19_55 M_part M_reaches v1 n (M_part v3.toNatClampNeg) (v3 + 1)
      else
        k19_55 v2
noncomputable def fM_cutIntoParts_L7 (k7_132 : (Nat → Int32) → (Nat → Int32) → Int32 → Option ((Nat → Int32) × (Nat → Int32) × Int32)) (M_thenKeys : Int32) (M_reaches : (Nat → Int32)) (M_steps : (Nat → Int32)) : Nat → Int32 → (Nat → Int32) → (Nat → Int32) → Int32 → Option ((Nat → Int32) × (Nat → Int32) × Int32)
  | 0, _, _, _, _ => none
  | n + 1, v1, M_part, M_shortest, M_parts =>
    if M_thenKeys ≤ v1 then
      k7_132 M_part M_shortest M_parts
    else
      fM_cutIntoParts_L19 (fM_cutIntoParts_K19_55 (fun a0 a1 a2 a3 => fM_cutIntoParts_L7 k7_132 M_thenKeys M_reaches M_steps n a0 a1 a2 a3) M_part M_shortest M_reaches M_steps M_parts v1) M_part M_reaches v1 FU (-1) 0
noncomputable def fM_cutIntoParts (M_thenKeys : Int32) (M_part : (Nat → Int32)) (M_shortest : (Nat → Int32)) (M_reaches : (Nat → Int32)) (M_steps : (Nat → Int32)) (M_parts : Int32) : Option ((Nat → Int32) × (Nat → Int32) × Int32) :=
  fM_cutIntoParts_L7 fM_cutIntoParts_K7_132 M_thenKeys M_reaches M_steps FU 0 M_part M_shortest 0
noncomputable def fM_lead_K32_151 (M_backs : (Nat → Int32)) : Option ((Nat → Int32)) :=
  some M_backs
noncomputable def fM_lead_K40_145 (c32 : Int32 → (Nat → Int32) → Option ((Nat → Int32))) (v3 : Int32) (M_backs : (Nat → Int32)) : Option ((Nat → Int32)) :=
  c32 (v3 + 1) M_backs
noncomputable def fM_lead_K55_125 (c40 : Int32 → (Nat → Int32) → Option ((Nat → Int32))) (M_backs : (Nat → Int32)) (v3 : Int32) (v4 : Int32) (v5 : Int32) : Option ((Nat → Int32)) :=
  og_ck ((40 * v3) + v4) 1640 <|
  c40 (v4 + 1) (upd M_backs ((40 * v3) + v4).toNatClampNeg (vp_nar .boolean v5))
noncomputable def fM_lead_L55 (k55_125 : Int32 → Option ((Nat → Int32))) (M_thenKeys : Int32) (M_asks : (Nat → Int32)) (M_backs : (Nat → Int32)) (p1 : Int32) (v3 : Int32) (v4 : Int32) : Nat → Int32 → Int32 → Option ((Nat → Int32))
  | 0, _, _ => none
  | n + 1, v5, v6 =>
    if M_thenKeys ≤ v6 then
      k55_125 v5
    else
      if v5 = 0 then
        (fM_cell v4 v6).bind fun r77 =>
        og_ck r77 1600 <|
        if (M_asks r77.toNatClampNeg) = 0 then
          fM_lead_L55 k55_125 M_thenKeys M_asks M_backs p1 v3 v4 n 0 (v6 + 1)
        else
          og_ck ((40 * (v3 - 1)) + v6) 1640 <|
          if (M_backs ((40 * (v3 - 1)) + v6).toNatClampNeg) = 0 then
            fM_lead_L55 k55_125 M_thenKeys M_asks M_backs p1 v3 v4 n 0 (v6 + 1)
          else
            if p1 < v6 then
              fM_lead_L55 k55_125 M_thenKeys M_asks M_backs p1 v3 v4 n 1 (v6 + 1)
            else
              if v3 = 1 then
                fM_lead_L55 k55_125 M_thenKeys M_asks M_backs p1 v3 v4 n 1 (v6 + 1)
              else
                fM_lead_L55 k55_125 M_thenKeys M_asks M_backs p1 v3 v4 n 0 (v6 + 1)
      else
        fM_lead_L55 k55_125 M_thenKeys M_asks M_backs p1 v3 v4 n 1 (v6 + 1)
noncomputable def fM_lead_L40 (k40_145 : (Nat → Int32) → Option ((Nat → Int32))) (M_thenKeys : Int32) (M_asks : (Nat → Int32)) (p1 : Int32) (v3 : Int32) : Nat → Int32 → (Nat → Int32) → Option ((Nat → Int32))
  | 0, _, _ => none
  | n + 1, v4, M_backs =>
    if M_thenKeys ≤ v4 then
      k40_145 M_backs
    else
      fM_lead_L55 (fM_lead_K55_125 (fun a0 a1 => fM_lead_L40 k40_145 M_thenKeys M_asks p1 v3 n a0 a1) M_backs v3 v4) M_thenKeys M_asks M_backs p1 v3 v4 FU 0 p1
noncomputable def fM_lead_L32 (k32_151 : (Nat → Int32) → Option ((Nat → Int32))) (M_thenKeys : Int32) (M_asks : (Nat → Int32)) (p1 : Int32) (p2 : Int32) : Nat → Int32 → (Nat → Int32) → Option ((Nat → Int32))
  | 0, _, _ => none
  | n + 1, v3, M_backs =>
    if p2 < v3 then
      k32_151 M_backs
    else
      fM_lead_L40 (fM_lead_K40_145 (fun a0 a1 => fM_lead_L32 k32_151 M_thenKeys M_asks p1 p2 n a0 a1) v3) M_thenKeys M_asks p1 v3 FU p1 M_backs
noncomputable def fM_lead_K2_30 (M_thenKeys : Int32) (M_asks : (Nat → Int32)) (p1 : Int32) (p2 : Int32) (M_backs : (Nat → Int32)) : Option ((Nat → Int32)) :=
  fM_lead_L32 fM_lead_K32_151 M_thenKeys M_asks p1 p2 FU 1 M_backs
noncomputable def fM_lead_L2 (k2_30 : (Nat → Int32) → Option ((Nat → Int32))) (p1 : Int32) : Nat → Int32 → (Nat → Int32) → Option ((Nat → Int32))
  | 0, _, _ => none
  | n + 1, v3, M_backs =>
    if 40 ≤ v3 then
      k2_30 M_backs
    else
      if v3 = p1 then
        og_ck v3 1640 <|
        fM_lead_L2 k2_30 p1 n (v3 + 1) (upd M_backs v3.toNatClampNeg (vp_nar .boolean 1))
      else
        og_ck v3 1640 <|
        fM_lead_L2 k2_30 p1 n (v3 + 1) (upd M_backs v3.toNatClampNeg (vp_nar .boolean 0))
noncomputable def fM_lead (M_thenKeys : Int32) (M_asks : (Nat → Int32)) (M_backs : (Nat → Int32)) (p1 : Int32) (p2 : Int32) : Option ((Nat → Int32)) :=
  fM_lead_L2 (fM_lead_K2_30 M_thenKeys M_asks p1 p2) p1 FU 0 M_backs
noncomputable def fM_tellRing_K114_201 (M_rings : Int32) (M_ringSize : (Nat → Int32)) (M_backs : (Nat → Int32)) (v2 : Int32) (M_ring : (Nat → Int32)) : Option (Int32 × (Nat → Int32) × (Nat → Int32) × (Nat → Int32)) :=
  og_ck M_rings 40 <|
  some ((M_rings + 1), (upd M_ringSize M_rings.toNatClampNeg v2), M_ring, M_backs)
noncomputable def fM_tellRing_K140_191 (c114 : Int32 → Int32 → (Nat → Int32) → Option (Int32 × (Nat → Int32) × (Nat → Int32) × (Nat → Int32))) (M_ring : (Nat → Int32)) (v5 : Int32) (v6 : Int32) : Option (Int32 × (Nat → Int32) × (Nat → Int32) × (Nat → Int32)) :=
  c114 v6 (v5 + (-1)) M_ring
noncomputable def fM_tellRing_L140 (k140_191 : Int32 → Option (Int32 × (Nat → Int32) × (Nat → Int32) × (Nat → Int32))) (M_asks : (Nat → Int32)) (M_backs : (Nat → Int32)) (v3 : Int32) (v4 : Int32) (v5 : Int32) : Nat → Int32 → Option (Int32 × (Nat → Int32) × (Nat → Int32) × (Nat → Int32))
  | 0, _ => none
  | n + 1, v6 =>
    (fM_cell v4 v6).bind fun r148 =>
    og_ck r148 1600 <|
    if (M_asks r148.toNatClampNeg) = 0 then
      fM_tellRing_L140 k140_191 M_asks M_backs v3 v4 v5 n (v6 + 1)
    else
      og_ck ((40 * (v5 - 1)) + v6) 1640 <|
      if (M_backs ((40 * (v5 - 1)) + v6).toNatClampNeg) = 0 then
        fM_tellRing_L140 k140_191 M_asks M_backs v3 v4 v5 n (v6 + 1)
      else
        if v6 = v3 then
          if v5 ≤ 1 then
            k140_191 v6
          else
            fM_tellRing_L140 k140_191 M_asks M_backs v3 v4 v5 n (v6 + 1)
        else
          k140_191 v6
noncomputable def fM_tellRing_L114 (k114_201 : (Nat → Int32) → Option (Int32 × (Nat → Int32) × (Nat → Int32) × (Nat → Int32))) (M_asks : (Nat → Int32)) (M_rings : Int32) (M_backs : (Nat → Int32)) (v2 : Int32) (v3 : Int32) : Nat → Int32 → Int32 → (Nat → Int32) → Option (Int32 × (Nat → Int32) × (Nat → Int32) × (Nat → Int32))
  | 0, _, _, _ => none
  | n + 1, v4, v5, M_ring =>
    if v5 ≤ 0 then
      k114_201 M_ring
    else
      (fM_cell M_rings (v2 - v5)).bind fun r131 =>
      og_ck r131 1600 <|
      fM_tellRing_L140 (fM_tellRing_K140_191 (fun a0 a1 a2 => fM_tellRing_L114 k114_201 M_asks M_rings M_backs v2 v3 n a0 a1 a2) (upd M_ring r131.toNatClampNeg v4) v5) M_asks M_backs v3 v4 v5 FU v3
noncomputable def fM_tellRing_K72_108 (M_asks : (Nat → Int32)) (M_rings : Int32) (M_ringSize : (Nat → Int32)) (M_ring : (Nat → Int32)) (v2 : Int32) (v3 : Int32) (M_backs : (Nat → Int32)) : Option (Int32 × (Nat → Int32) × (Nat → Int32) × (Nat → Int32)) :=
  fM_tellRing_L114 (fM_tellRing_K114_201 M_rings M_ringSize M_backs v2) M_asks M_rings M_backs v2 v3 FU v3 v2 M_ring
noncomputable def fM_tellRing_L72 (k72_108 : Int32 → (Nat → Int32) → Option (Int32 × (Nat → Int32) × (Nat → Int32) × (Nat → Int32))) (M_thenKeys : Int32) (M_part : (Nat → Int32)) (M_asks : (Nat → Int32)) (p1 : Int32) (v2 : Int32) : Nat → Int32 → (Nat → Int32) → Option (Int32 × (Nat → Int32) × (Nat → Int32) × (Nat → Int32))
  | 0, _, _ => none
  | n + 1, v3, M_backs =>
    og_ck v3 40 <|
    if (M_part v3.toNatClampNeg) = p1 then
      og_ck ((40 * v2) + v3) 1640 <|
      if (M_backs ((40 * v2) + v3).toNatClampNeg) = 0 then
        (fM_lead M_thenKeys M_asks M_backs (v3 + 1) v2).bind fun r102 =>
        fM_tellRing_L72 k72_108 M_thenKeys M_part M_asks p1 v2 n (v3 + 1) r102
      else
        k72_108 v3 M_backs
    else
      (fM_lead M_thenKeys M_asks M_backs (v3 + 1) v2).bind fun r102 =>
      fM_tellRing_L72 k72_108 M_thenKeys M_part M_asks p1 v2 n (v3 + 1) r102
noncomputable def fM_tellRing_K6_56 (M_thenKeys : Int32) (M_part : (Nat → Int32)) (M_asks : (Nat → Int32)) (M_rings : Int32) (M_ringSize : (Nat → Int32)) (M_ring : (Nat → Int32)) (M_backs : (Nat → Int32)) (p1 : Int32) (v2 : Int32) : Option (Int32 × (Nat → Int32) × (Nat → Int32) × (Nat → Int32)) :=
  if v2 = 1000 then
    some (M_rings, M_ringSize, M_ring, M_backs)
  else
    (fM_lead M_thenKeys M_asks M_backs 0 v2).bind fun r69 =>
    fM_tellRing_L72 (fM_tellRing_K72_108 M_asks M_rings M_ringSize M_ring v2) M_thenKeys M_part M_asks p1 v2 FU 0 r69
noncomputable def fM_tellRing_L6 (k6_56 : Int32 → Option (Int32 × (Nat → Int32) × (Nat → Int32) × (Nat → Int32))) (M_thenKeys : Int32) (M_part : (Nat → Int32)) (M_shortest : (Nat → Int32)) (p1 : Int32) : Nat → Int32 → Int32 → Option (Int32 × (Nat → Int32) × (Nat → Int32) × (Nat → Int32))
  | 0, _, _ => none
  | n + 1, v2, v3 =>
    if M_thenKeys ≤ v3 then
      k6_56 v2
    else
      og_ck v3 40 <|
      if (M_part v3.toNatClampNeg) = p1 then
        og_ck v3 40 <|
        if (M_shortest v3.toNatClampNeg) ≤ 0 then
          fM_tellRing_L6 k6_56 M_thenKeys M_part M_shortest p1 n v2 (v3 + 1)
        else
          og_ck v3 40 <|
          if v2 ≤ (M_shortest v3.toNatClampNeg) then
            fM_tellRing_L6 k6_56 M_thenKeys M_part M_shortest p1 n v2 (v3 + 1)
          else
            og_ck v3 40 <|
            fM_tellRing_L6 k6_56 M_thenKeys M_part M_shortest p1 n (M_shortest v3.toNatClampNeg) (v3 + 1)
      else
        fM_tellRing_L6 k6_56 M_thenKeys M_part M_shortest p1 n v2 (v3 + 1)
noncomputable def fM_tellRing (M_thenKeys : Int32) (M_part : (Nat → Int32)) (M_shortest : (Nat → Int32)) (M_asks : (Nat → Int32)) (M_rings : Int32) (M_ringSize : (Nat → Int32)) (M_ring : (Nat → Int32)) (M_backs : (Nat → Int32)) (p1 : Int32) : Option (Int32 × (Nat → Int32) × (Nat → Int32) × (Nat → Int32)) :=
  fM_tellRing_L6 (fM_tellRing_K6_56 M_thenKeys M_part M_asks M_rings M_ringSize M_ring M_backs p1) M_thenKeys M_part M_shortest p1 FU 1000 0
noncomputable def fM_run_K84_103 (M_code : Int32) (M_thenKeys : Int32) (M_thenEdges : Int32) (M_configuration : Int32) (M_thenGone : (Nat → Int32)) (M_order : (Nat → Int32)) (M_rank : (Nat → Int32)) (M_part : (Nat → Int32)) (M_shortest : (Nat → Int32)) (M_asks : (Nat → Int32)) (M_reaches : (Nat → Int32)) (M_steps : (Nat → Int32)) (M_parts : Int32) (M_rings : Int32) (M_ringSize : (Nat → Int32)) (M_ring : (Nat → Int32)) (M_backs : (Nat → Int32)) : Option (Int32 × Int32 × Int32 × Int32 × Int32 × (Nat → Int32) × (Nat → Int32) × (Nat → Int32) × (Nat → Int32) × (Nat → Int32) × (Nat → Int32) × (Nat → Int32) × (Nat → Int32) × Int32 × Int32 × (Nat → Int32) × (Nat → Int32) × (Nat → Int32)) :=
  some (M_rings, M_code, M_thenKeys, M_thenEdges, M_configuration, M_thenGone, M_order, M_rank, M_part, M_shortest, M_asks, M_reaches, M_steps, M_parts, M_rings, M_ringSize, M_ring, M_backs)
noncomputable def fM_run_L84 (k84_103 : Int32 → (Nat → Int32) → (Nat → Int32) → (Nat → Int32) → Option (Int32 × Int32 × Int32 × Int32 × Int32 × (Nat → Int32) × (Nat → Int32) × (Nat → Int32) × (Nat → Int32) × (Nat → Int32) × (Nat → Int32) × (Nat → Int32) × (Nat → Int32) × Int32 × Int32 × (Nat → Int32) × (Nat → Int32) × (Nat → Int32))) (M_thenKeys : Int32) (M_part : (Nat → Int32)) (M_shortest : (Nat → Int32)) (M_asks : (Nat → Int32)) (M_parts : Int32) : Nat → Int32 → Int32 → (Nat → Int32) → (Nat → Int32) → (Nat → Int32) → Option (Int32 × Int32 × Int32 × Int32 × Int32 × (Nat → Int32) × (Nat → Int32) × (Nat → Int32) × (Nat → Int32) × (Nat → Int32) × (Nat → Int32) × (Nat → Int32) × (Nat → Int32) × Int32 × Int32 × (Nat → Int32) × (Nat → Int32) × (Nat → Int32))
  | 0, _, _, _, _, _ => none
  | n + 1, v2, M_rings, M_ringSize, M_ring, M_backs =>
    if M_parts ≤ v2 then
      k84_103 M_rings M_ringSize M_ring M_backs
    else
      (fM_tellRing M_thenKeys M_part M_shortest M_asks M_rings M_ringSize M_ring M_backs v2).bind fun r94 =>
      fM_run_L84 k84_103 M_thenKeys M_part M_shortest M_asks M_parts n (v2 + 1) r94.1 r94.2.1 r94.2.2.1 r94.2.2.2
noncomputable def fM_run_K40_65 (M_code : Int32) (M_keys : Int32) (M_name : (Nat → Int32)) (M_from : (Nat → Int32)) (M_to : (Nat → Int32)) (M_bits : (Nat → Int32)) (M_thenKeys : Int32) (M_thenEdges : Int32) (M_configuration : Int32) (M_order : (Nat → Int32)) (M_rank : (Nat → Int32)) (M_part : (Nat → Int32)) (M_shortest : (Nat → Int32)) (M_asks : (Nat → Int32)) (M_reaches : (Nat → Int32)) (M_steps : (Nat → Int32)) (M_parts : Int32) (M_ringSize : (Nat → Int32)) (M_ring : (Nat → Int32)) (M_backs : (Nat → Int32)) (M_thenGone : (Nat → Int32)) : Option (Int32 × Int32 × Int32 × Int32 × Int32 × (Nat → Int32) × (Nat → Int32) × (Nat → Int32) × (Nat → Int32) × (Nat → Int32) × (Nat → Int32) × (Nat → Int32) × (Nat → Int32) × Int32 × Int32 × (Nat → Int32) × (Nat → Int32) × (Nat → Int32)) :=
  (fM_sort M_keys M_name M_order M_rank).bind fun r66 =>
  (fM_close M_from M_to M_bits M_thenKeys M_thenEdges M_configuration M_thenGone r66.2 M_asks M_reaches M_steps).bind fun r70 =>
  (fM_cutIntoParts M_thenKeys M_part M_shortest r70.2.1 r70.2.2 M_parts).bind fun r74 =>
  fM_run_L84 (fM_run_K84_103 M_code M_thenKeys M_thenEdges M_configuration M_thenGone r66.1 r66.2 r74.1 r74.2.1 r70.1 r70.2.1 r70.2.2 r74.2.2) M_thenKeys r74.1 r74.2.1 r70.1 r74.2.2 FU 0 0 M_ringSize M_ring M_backs
noncomputable def fM_run_L40 (k40_65 : (Nat → Int32) → Option (Int32 × Int32 × Int32 × Int32 × Int32 × (Nat → Int32) × (Nat → Int32) × (Nat → Int32) × (Nat → Int32) × (Nat → Int32) × (Nat → Int32) × (Nat → Int32) × (Nat → Int32) × Int32 × Int32 × (Nat → Int32) × (Nat → Int32) × (Nat → Int32))) (M_gone : (Nat → Int32)) : Nat → Int32 → (Nat → Int32) → Option (Int32 × Int32 × Int32 × Int32 × Int32 × (Nat → Int32) × (Nat → Int32) × (Nat → Int32) × (Nat → Int32) × (Nat → Int32) × (Nat → Int32) × (Nat → Int32) × (Nat → Int32) × Int32 × Int32 × (Nat → Int32) × (Nat → Int32) × (Nat → Int32))
  | 0, _, _ => none
  | n + 1, v2, M_thenGone =>
    if 160 ≤ v2 then
      k40_65 M_thenGone
    else
      og_ck v2 160 <|
      og_ck v2 160 <|
      fM_run_L40 k40_65 M_gone n (v2 + 1) (upd M_thenGone v2.toNatClampNeg (vp_nar .boolean (M_gone v2.toNatClampNeg)))
noncomputable def fM_run (M_code : Int32) (M_keys : Int32) (M_edges : Int32) (M_name : (Nat → Int32)) (M_from : (Nat → Int32)) (M_to : (Nat → Int32)) (M_bits : (Nat → Int32)) (M_gone : (Nat → Int32)) (M_thenKeys : Int32) (M_thenEdges : Int32) (M_configuration : Int32) (M_thenGone : (Nat → Int32)) (M_order : (Nat → Int32)) (M_rank : (Nat → Int32)) (M_part : (Nat → Int32)) (M_shortest : (Nat → Int32)) (M_asks : (Nat → Int32)) (M_reaches : (Nat → Int32)) (M_steps : (Nat → Int32)) (M_parts : Int32) (M_rings : Int32) (M_ringSize : (Nat → Int32)) (M_ring : (Nat → Int32)) (M_backs : (Nat → Int32)) (p1 : Int32) : Option (Int32 × Int32 × Int32 × Int32 × Int32 × (Nat → Int32) × (Nat → Int32) × (Nat → Int32) × (Nat → Int32) × (Nat → Int32) × (Nat → Int32) × (Nat → Int32) × (Nat → Int32) × Int32 × Int32 × (Nat → Int32) × (Nat → Int32) × (Nat → Int32)) :=
  if p1 < 0 then
    some ((-1), 0, M_thenKeys, M_thenEdges, M_configuration, M_thenGone, M_order, M_rank, M_part, M_shortest, M_asks, M_reaches, M_steps, M_parts, M_rings, M_ringSize, M_ring, M_backs)
  else
    if p1 < 8 then
      fM_run_L40 (fM_run_K40_65 0 M_keys M_name M_from M_to M_bits M_keys M_edges p1 M_order M_rank M_part M_shortest M_asks M_reaches M_steps M_parts M_ringSize M_ring M_backs) M_gone FU 0 M_thenGone
    else
      some ((-1), 0, M_thenKeys, M_thenEdges, M_configuration, M_thenGone, M_order, M_rank, M_part, M_shortest, M_asks, M_reaches, M_steps, M_parts, M_rings, M_ringSize, M_ring, M_backs)
noncomputable def fM_size (M_code : Int32) (M_rings : Int32) (M_ringSize : (Nat → Int32)) (p1 : Int32) : Option (Int32 × Int32) :=
  if p1 < 0 then
    some (0, 0)
  else
    if p1 < M_rings then
      og_ck p1 40 <|
      some ((M_ringSize p1.toNatClampNeg), 0)
    else
      some (0, 0)
noncomputable def fM_keyOf (M_order : (Nat → Int32)) (M_ringSize : (Nat → Int32)) (M_ring : (Nat → Int32)) (p1 : Int32) (p2 : Int32) : Option (Int32) :=
  og_ck p1 40 <|
  og_nz (M_ringSize p1.toNatClampNeg) <|
  (fM_cell p1 (p2 - p2 / (M_ringSize p1.toNatClampNeg) * (M_ringSize p1.toNatClampNeg))).bind fun r17 =>
  og_ck r17 1600 <|
  og_ck (M_ring r17.toNatClampNeg) 40 <|
  some (M_order (M_ring r17.toNatClampNeg).toNatClampNeg)
noncomputable def fM_edgeOf_K5_98 (v3 : Int32) : Option (Int32) :=
  some v3
noncomputable def fM_edgeOf_L5 (k5_98 : Int32 → Option (Int32)) (M_from : (Nat → Int32)) (M_to : (Nat → Int32)) (M_place : (Nat → Int32)) (M_bits : (Nat → Int32)) (M_thenEdges : Int32) (M_configuration : Int32) (M_thenGone : (Nat → Int32)) (M_order : (Nat → Int32)) (M_ringSize : (Nat → Int32)) (M_ring : (Nat → Int32)) (p1 : Int32) (p2 : Int32) : Nat → Int32 → Int32 → Option (Int32)
  | 0, _, _ => none
  | n + 1, v3, v4 =>
    if M_thenEdges ≤ v4 then
      k5_98 v3
    else
      (fM_isThen M_bits M_thenGone v4 M_configuration).bind fun r21 =>
      if r21 = 0 then
        fM_edgeOf_L5 k5_98 M_from M_to M_place M_bits M_thenEdges M_configuration M_thenGone M_order M_ringSize M_ring p1 p2 n v3 (v4 + 1)
      else
        og_ck v4 160 <|
        (fM_keyOf M_order M_ringSize M_ring p1 p2).bind fun r37 =>
        if (M_from v4.toNatClampNeg) = r37 then
          og_ck v4 160 <|
          (fM_keyOf M_order M_ringSize M_ring p1 (p2 + 1)).bind fun r55 =>
          if (M_to v4.toNatClampNeg) = r55 then
            if v3 = (-1) then
              fM_edgeOf_L5 k5_98 M_from M_to M_place M_bits M_thenEdges M_configuration M_thenGone M_order M_ringSize M_ring p1 p2 n v4 (v4 + 1)
            else
              og_ck v4 160 <|
              og_ck v3 160 <|
              if (M_place v3.toNatClampNeg) ≤ (M_place v4.toNatClampNeg) then
                fM_edgeOf_L5 k5_98 M_from M_to M_place M_bits M_thenEdges M_configuration M_thenGone M_order M_ringSize M_ring p1 p2 n v3 (v4 + 1)
              else
                fM_edgeOf_L5 k5_98 M_from M_to M_place M_bits M_thenEdges M_configuration M_thenGone M_order M_ringSize M_ring p1 p2 n v4 (v4 + 1)
          else
            fM_edgeOf_L5 k5_98 M_from M_to M_place M_bits M_thenEdges M_configuration M_thenGone M_order M_ringSize M_ring p1 p2 n v3 (v4 + 1)
        else
          fM_edgeOf_L5 k5_98 M_from M_to M_place M_bits M_thenEdges M_configuration M_thenGone M_order M_ringSize M_ring p1 p2 n v3 (v4 + 1)
noncomputable def fM_edgeOf (M_from : (Nat → Int32)) (M_to : (Nat → Int32)) (M_place : (Nat → Int32)) (M_bits : (Nat → Int32)) (M_thenEdges : Int32) (M_configuration : Int32) (M_thenGone : (Nat → Int32)) (M_order : (Nat → Int32)) (M_ringSize : (Nat → Int32)) (M_ring : (Nat → Int32)) (p1 : Int32) (p2 : Int32) : Option (Int32) :=
  fM_edgeOf_L5 fM_edgeOf_K5_98 M_from M_to M_place M_bits M_thenEdges M_configuration M_thenGone M_order M_ringSize M_ring p1 p2 FU (-1) 0
noncomputable def fM_ring (M_code : Int32) (M_from : (Nat → Int32)) (M_to : (Nat → Int32)) (M_place : (Nat → Int32)) (M_bits : (Nat → Int32)) (M_thenEdges : Int32) (M_configuration : Int32) (M_thenGone : (Nat → Int32)) (M_order : (Nat → Int32)) (M_rings : Int32) (M_ringSize : (Nat → Int32)) (M_ring : (Nat → Int32)) (p1 : Int32) (p2 : Int32) (p3 : Int32) : Option (Int32 × Int32) :=
  if p1 < 0 then
    some ((-1), 0)
  else
    if M_rings ≤ p1 then
      some ((-1), 0)
    else
      if p2 < 0 then
        some ((-1), 0)
      else
        og_ck p1 40 <|
        if p2 < (M_ringSize p1.toNatClampNeg) then
          if p3 = 0 then
            (fM_keyOf M_order M_ringSize M_ring p1 p2).bind fun r40 =>
            some (r40, 0)
          else
            (fM_edgeOf M_from M_to M_place M_bits M_thenEdges M_configuration M_thenGone M_order M_ringSize M_ring p1 p2).bind fun r47 =>
            if p3 = 1 then
              og_ck r47 160 <|
              some ((M_place r47.toNatClampNeg), 0)
            else
              if p3 = 2 then
                some (r47, 0)
              else
                some ((-1), 0)
        else
          some ((-1), 0)
noncomputable def fM_isRing_K5_116 (v3 : Int32) : Option (Int32) :=
  og_bl v3 (some v3)
noncomputable def fM_isRing_K22_95 (c5 : Int32 → Int32 → Option (Int32)) (v3 : Int32) (v4 : Int32) (v5 : Int32) : Option (Int32) :=
  if v3 = 0 then
    c5 0 (v4 + 1)
  else
    if v5 = 0 then
      c5 0 (v4 + 1)
    else
      c5 1 (v4 + 1)
noncomputable def fM_isRing_L22 (k22_95 : Int32 → Option (Int32)) (M_from : (Nat → Int32)) (M_to : (Nat → Int32)) (M_bits : (Nat → Int32)) (M_thenEdges : Int32) (M_thenGone : (Nat → Int32)) (M_order : (Nat → Int32)) (M_ringSize : (Nat → Int32)) (M_ring : (Nat → Int32)) (p1 : Int32) (p2 : Int32) (v4 : Int32) : Nat → Int32 → Int32 → Option (Int32)
  | 0, _, _ => none
  | n + 1, v5, v6 =>
    if M_thenEdges ≤ v6 then
      k22_95 v5
    else
      if v5 = 0 then
        (fM_isThen M_bits M_thenGone v6 p2).bind fun r40 =>
        if r40 = 0 then
          fM_isRing_L22 k22_95 M_from M_to M_bits M_thenEdges M_thenGone M_order M_ringSize M_ring p1 p2 v4 n 0 (v6 + 1)
        else
          og_ck v6 160 <|
          (fM_keyOf M_order M_ringSize M_ring p1 v4).bind fun r57 =>
          if (M_from v6.toNatClampNeg) = r57 then
            og_ck v6 160 <|
            (fM_keyOf M_order M_ringSize M_ring p1 (v4 + 1)).bind fun r76 =>
            if (M_to v6.toNatClampNeg) = r76 then
              fM_isRing_L22 k22_95 M_from M_to M_bits M_thenEdges M_thenGone M_order M_ringSize M_ring p1 p2 v4 n 1 (v6 + 1)
            else
              fM_isRing_L22 k22_95 M_from M_to M_bits M_thenEdges M_thenGone M_order M_ringSize M_ring p1 p2 v4 n 0 (v6 + 1)
          else
            fM_isRing_L22 k22_95 M_from M_to M_bits M_thenEdges M_thenGone M_order M_ringSize M_ring p1 p2 v4 n 0 (v6 + 1)
      else
        fM_isRing_L22 k22_95 M_from M_to M_bits M_thenEdges M_thenGone M_order M_ringSize M_ring p1 p2 v4 n 1 (v6 + 1)
noncomputable def fM_isRing_L5 (k5_116 : Int32 → Option (Int32)) (M_from : (Nat → Int32)) (M_to : (Nat → Int32)) (M_bits : (Nat → Int32)) (M_thenEdges : Int32) (M_thenGone : (Nat → Int32)) (M_order : (Nat → Int32)) (M_ringSize : (Nat → Int32)) (M_ring : (Nat → Int32)) (p1 : Int32) (p2 : Int32) : Nat → Int32 → Int32 → Option (Int32)
  | 0, _, _ => none
  | n + 1, v3, v4 =>
    og_ck p1 40 <|
    if (M_ringSize p1.toNatClampNeg) ≤ v4 then
      k5_116 v3
    else
      fM_isRing_L22 (fM_isRing_K22_95 (fun a0 a1 => fM_isRing_L5 k5_116 M_from M_to M_bits M_thenEdges M_thenGone M_order M_ringSize M_ring p1 p2 n a0 a1) v3 v4) M_from M_to M_bits M_thenEdges M_thenGone M_order M_ringSize M_ring p1 p2 v4 FU 0 0
noncomputable def fM_isRing (M_from : (Nat → Int32)) (M_to : (Nat → Int32)) (M_bits : (Nat → Int32)) (M_thenEdges : Int32) (M_thenGone : (Nat → Int32)) (M_order : (Nat → Int32)) (M_ringSize : (Nat → Int32)) (M_ring : (Nat → Int32)) (p1 : Int32) (p2 : Int32) : Option (Int32) :=
  fM_isRing_L5 fM_isRing_K5_116 M_from M_to M_bits M_thenEdges M_thenGone M_order M_ringSize M_ring p1 p2 FU 1 0
noncomputable def fM_only_K21_52 (M_code : Int32) (M_configuration : Int32) : Option (Int32 × Int32) :=
  some (M_configuration, M_code)
noncomputable def fM_only_L21 (k21_52 : Option (Int32 × Int32)) (M_code : Int32) (M_from : (Nat → Int32)) (M_to : (Nat → Int32)) (M_bits : (Nat → Int32)) (M_thenEdges : Int32) (M_configuration : Int32) (M_thenGone : (Nat → Int32)) (M_order : (Nat → Int32)) (M_ringSize : (Nat → Int32)) (M_ring : (Nat → Int32)) (p1 : Int32) : Nat → Int32 → Option (Int32 × Int32)
  | 0, _ => none
  | n + 1, v2 =>
    if 8 ≤ v2 then
      k21_52
    else
      if v2 = M_configuration then
        fM_only_L21 k21_52 M_code M_from M_to M_bits M_thenEdges M_configuration M_thenGone M_order M_ringSize M_ring p1 n (v2 + 1)
      else
        (fM_isRing M_from M_to M_bits M_thenEdges M_thenGone M_order M_ringSize M_ring p1 v2).bind fun r38 =>
        if r38 = 0 then
          fM_only_L21 k21_52 M_code M_from M_to M_bits M_thenEdges M_configuration M_thenGone M_order M_ringSize M_ring p1 n (v2 + 1)
        else
          some ((-1), M_code)
noncomputable def fM_only (M_code : Int32) (M_from : (Nat → Int32)) (M_to : (Nat → Int32)) (M_bits : (Nat → Int32)) (M_thenEdges : Int32) (M_configuration : Int32) (M_thenGone : (Nat → Int32)) (M_order : (Nat → Int32)) (M_rings : Int32) (M_ringSize : (Nat → Int32)) (M_ring : (Nat → Int32)) (p1 : Int32) : Option (Int32 × Int32) :=
  if p1 < 0 then
    some ((-1), 0)
  else
    if p1 < M_rings then
      fM_only_L21 (fM_only_K21_52 0 M_configuration) 0 M_from M_to M_bits M_thenEdges M_configuration M_thenGone M_order M_ringSize M_ring p1 FU 0
    else
      some ((-1), 0)
noncomputable def fM_newest_K23_60 (M_code : Int32) (v2 : Int32) : Option (Int32 × Int32) :=
  some (v2, M_code)
noncomputable def fM_newest_L23 (k23_60 : Int32 → Option (Int32 × Int32)) (M_from : (Nat → Int32)) (M_to : (Nat → Int32)) (M_place : (Nat → Int32)) (M_bits : (Nat → Int32)) (M_thenEdges : Int32) (M_configuration : Int32) (M_thenGone : (Nat → Int32)) (M_order : (Nat → Int32)) (M_ringSize : (Nat → Int32)) (M_ring : (Nat → Int32)) (p1 : Int32) : Nat → Int32 → Int32 → Option (Int32 × Int32)
  | 0, _, _ => none
  | n + 1, v2, v3 =>
    og_ck p1 40 <|
    if (M_ringSize p1.toNatClampNeg) ≤ v3 then
      k23_60 v2
    else
      (fM_edgeOf M_from M_to M_place M_bits M_thenEdges M_configuration M_thenGone M_order M_ringSize M_ring p1 v3).bind fun r36 =>
      if r36 ≤ v2 then
        fM_newest_L23 k23_60 M_from M_to M_place M_bits M_thenEdges M_configuration M_thenGone M_order M_ringSize M_ring p1 n v2 (v3 + 1)
      else
        (fM_edgeOf M_from M_to M_place M_bits M_thenEdges M_configuration M_thenGone M_order M_ringSize M_ring p1 v3).bind fun r46 =>
        fM_newest_L23 k23_60 M_from M_to M_place M_bits M_thenEdges M_configuration M_thenGone M_order M_ringSize M_ring p1 n r46 (v3 + 1)
noncomputable def fM_newest (M_code : Int32) (M_from : (Nat → Int32)) (M_to : (Nat → Int32)) (M_place : (Nat → Int32)) (M_bits : (Nat → Int32)) (M_thenEdges : Int32) (M_configuration : Int32) (M_thenGone : (Nat → Int32)) (M_order : (Nat → Int32)) (M_rings : Int32) (M_ringSize : (Nat → Int32)) (M_ring : (Nat → Int32)) (p1 : Int32) : Option (Int32 × Int32) :=
  if p1 < 0 then
    some ((-1), 0)
  else
    if p1 < M_rings then
      fM_newest_L23 (fM_newest_K23_60 0) M_from M_to M_place M_bits M_thenEdges M_configuration M_thenGone M_order M_ringSize M_ring p1 FU (-1) 0
    else
      some ((-1), 0)
noncomputable def fM_isThere (M_thenKeys : Int32) (M_configuration : Int32) (p1 : Int32) : Option (Int32) :=
  if M_configuration = (-1) then
    some 0
  else
    if p1 < 0 then
      some 0
    else
      if M_thenKeys ≤ p1 then
        some 0
      else
        some 1
noncomputable def fM_strong (M_code : Int32) (M_thenKeys : Int32) (M_configuration : Int32) (M_rank : (Nat → Int32)) (M_part : (Nat → Int32)) (p1 : Int32) : Option (Int32 × Int32) :=
  (fM_isThere M_thenKeys M_configuration p1).bind fun r7 =>
  if r7 = 0 then
    some ((-1), 0)
  else
    og_ck p1 40 <|
    og_ck (M_rank p1.toNatClampNeg) 40 <|
    some ((M_part (M_rank p1.toNatClampNeg).toNatClampNeg), 0)
noncomputable def fM_isRinged (M_reaches : (Nat → Int32)) (p1 : Int32) : Option (Int32) :=
  (fM_cell p1 p1).bind fun r6 =>
  og_ck r6 1600 <|
  og_bl (M_reaches r6.toNatClampNeg) (some (M_reaches r6.toNatClampNeg))
noncomputable def fM_state_K34_84 (M_code : Int32) (v2 : Int32) : Option (Int32 × Int32) :=
  if v2 = 0 then
    some (0, M_code)
  else
    some (1, M_code)
noncomputable def fM_state_L34 (k34_84 : Int32 → Option (Int32 × Int32)) (M_thenKeys : Int32) (M_rank : (Nat → Int32)) (M_reaches : (Nat → Int32)) (p1 : Int32) : Nat → Int32 → Int32 → Option (Int32 × Int32)
  | 0, _, _ => none
  | n + 1, v2, v3 =>
    if M_thenKeys ≤ v3 then
      k34_84 v2
    else
      if v2 = 0 then
        og_ck p1 40 <|
        (fM_cell (M_rank p1.toNatClampNeg) v3).bind fun r57 =>
        og_ck r57 1600 <|
        if (M_reaches r57.toNatClampNeg) = 0 then
          fM_state_L34 k34_84 M_thenKeys M_rank M_reaches p1 n 0 (v3 + 1)
        else
          (fM_isRinged M_reaches v3).bind fun r66 =>
          if r66 = 0 then
            fM_state_L34 k34_84 M_thenKeys M_rank M_reaches p1 n 0 (v3 + 1)
          else
            fM_state_L34 k34_84 M_thenKeys M_rank M_reaches p1 n 1 (v3 + 1)
      else
        fM_state_L34 k34_84 M_thenKeys M_rank M_reaches p1 n 1 (v3 + 1)
noncomputable def fM_state (M_code : Int32) (M_thenKeys : Int32) (M_configuration : Int32) (M_rank : (Nat → Int32)) (M_reaches : (Nat → Int32)) (p1 : Int32) : Option (Int32 × Int32) :=
  (fM_isThere M_thenKeys M_configuration p1).bind fun r7 =>
  if r7 = 0 then
    some ((-1), 0)
  else
    og_ck p1 40 <|
    (fM_isRinged M_reaches (M_rank p1.toNatClampNeg)).bind fun r22 =>
    if r22 = 0 then
      fM_state_L34 (fM_state_K34_84 0) M_thenKeys M_rank M_reaches p1 FU 0 0
    else
      some (2, 0)
noncomputable def fM_least (M_code : Int32) (M_thenKeys : Int32) (M_configuration : Int32) (M_rank : (Nat → Int32)) (M_shortest : (Nat → Int32)) (p1 : Int32) : Option (Int32 × Int32) :=
  (fM_isThere M_thenKeys M_configuration p1).bind fun r7 =>
  if r7 = 0 then
    some ((-1), 0)
  else
    og_ck p1 40 <|
    og_ck (M_rank p1.toNatClampNeg) 40 <|
    some ((M_shortest (M_rank p1.toNatClampNeg).toNatClampNeg), 0)
noncomputable def fM_ringOf_K28_59 (M_metSize : Int32) (M_way : (Nat → Int32)) : Option (Int32 × Int32 × (Nat → Int32)) :=
  some (M_metSize, M_metSize, M_way)
noncomputable def fM_ringOf_L28 (k28_59 : (Nat → Int32) → Option (Int32 × Int32 × (Nat → Int32))) (M_metSize : Int32) (v3 : Int32) : Nat → Int32 → (Nat → Int32) → Option (Int32 × Int32 × (Nat → Int32))
  | 0, _, _ => none
  | n + 1, v4, M_way =>
    if M_metSize ≤ v4 then
      k28_59 M_way
    else
      og_ck (v3 + v4) 40 <|
      og_ck v4 40 <|
      fM_ringOf_L28 k28_59 M_metSize v3 n (v4 + 1) (upd M_way v4.toNatClampNeg (M_way (v3 + v4).toNatClampNeg))
noncomputable def fM_ringOf_K2_18 (M_way : (Nat → Int32)) (p1 : Int32) (v3 : Int32) : Option (Int32 × Int32 × (Nat → Int32)) :=
  fM_ringOf_L28 (fM_ringOf_K28_59 (p1 - v3)) (p1 - v3) v3 FU 0 M_way
noncomputable def fM_ringOf_L2 (k2_18 : Int32 → Option (Int32 × Int32 × (Nat → Int32))) (M_way : (Nat → Int32)) (p2 : Int32) : Nat → Int32 → Option (Int32 × Int32 × (Nat → Int32))
  | 0, _ => none
  | n + 1, v3 =>
    og_ck v3 40 <|
    if (M_way v3.toNatClampNeg) = p2 then
      k2_18 v3
    else
      fM_ringOf_L2 k2_18 M_way p2 n (v3 + 1)
noncomputable def fM_ringOf (M_metSize : Int32) (M_way : (Nat → Int32)) (p1 : Int32) (p2 : Int32) : Option (Int32 × Int32 × (Nat → Int32)) :=
  fM_ringOf_L2 (fM_ringOf_K2_18 M_way p1) M_way p2 FU 0
noncomputable def fM_ask_K74_245 (M_code : Int32) (M_metSize : Int32) (M_way : (Nat → Int32)) (M_asked : (Nat → Int32)) (M_at : (Nat → Int32)) : Option (Int32 × Int32 × Int32 × (Nat → Int32) × (Nat → Int32) × (Nat → Int32)) :=
  some (0, M_code, M_metSize, M_way, M_asked, M_at)
noncomputable def fM_ask_L74 (k74_245 : Int32 → (Nat → Int32) → (Nat → Int32) → (Nat → Int32) → Option (Int32 × Int32 × Int32 × (Nat → Int32) × (Nat → Int32) × (Nat → Int32))) (M_code : Int32) (M_edges : Int32) (M_from : (Nat → Int32)) (M_to : (Nat → Int32)) (M_bits : (Nat → Int32)) (M_gone : (Nat → Int32)) (M_configuration : Int32) : Nat → Int32 → Int32 → (Nat → Int32) → (Nat → Int32) → (Nat → Int32) → Option (Int32 × Int32 × Int32 × (Nat → Int32) × (Nat → Int32) × (Nat → Int32))
  | 0, _, _, _, _, _ => none
  | n + 1, v2, M_metSize, M_way, M_asked, M_at =>
    if v2 ≤ 0 then
      k74_245 M_metSize M_way M_asked M_at
    else
      og_ck (v2 - 1) 40 <|
      og_ck (M_way (v2 - 1).toNatClampNeg) 40 <|
      og_ck (M_way (v2 - 1).toNatClampNeg) 40 <|
      og_ck (M_way (v2 - 1).toNatClampNeg) 40 <|
      if (M_at (M_way (v2 - 1).toNatClampNeg).toNatClampNeg) = M_edges then
        og_ck (M_way (v2 - 1).toNatClampNeg) 40 <|
        fM_ask_L74 k74_245 M_code M_edges M_from M_to M_bits M_gone M_configuration n (v2 + (-1)) M_metSize M_way (upd M_asked (M_way (v2 - 1).toNatClampNeg).toNatClampNeg 2) (upd M_at (M_way (v2 - 1).toNatClampNeg).toNatClampNeg ((M_at (M_way (v2 - 1).toNatClampNeg).toNatClampNeg) + 1))
      else
        og_ck (M_at (M_way (v2 - 1).toNatClampNeg).toNatClampNeg) 160 <|
        if (M_gone (M_at (M_way (v2 - 1).toNatClampNeg).toNatClampNeg).toNatClampNeg) = 0 then
          og_ck (M_at (M_way (v2 - 1).toNatClampNeg).toNatClampNeg) 160 <|
          if (((M_bits (M_at (M_way (v2 - 1).toNatClampNeg).toNatClampNeg).toNatClampNeg) >>> (M_configuration &&& 31)) &&& 1) = 0 then
            fM_ask_L74 k74_245 M_code M_edges M_from M_to M_bits M_gone M_configuration n v2 M_metSize M_way M_asked (upd M_at (M_way (v2 - 1).toNatClampNeg).toNatClampNeg ((M_at (M_way (v2 - 1).toNatClampNeg).toNatClampNeg) + 1))
          else
            og_ck (M_at (M_way (v2 - 1).toNatClampNeg).toNatClampNeg) 160 <|
            if (M_from (M_at (M_way (v2 - 1).toNatClampNeg).toNatClampNeg).toNatClampNeg) = (M_way (v2 - 1).toNatClampNeg) then
              og_ck (M_at (M_way (v2 - 1).toNatClampNeg).toNatClampNeg) 160 <|
              og_ck (M_to (M_at (M_way (v2 - 1).toNatClampNeg).toNatClampNeg).toNatClampNeg) 40 <|
              if (M_asked (M_to (M_at (M_way (v2 - 1).toNatClampNeg).toNatClampNeg).toNatClampNeg).toNatClampNeg) = 2 then
                fM_ask_L74 k74_245 M_code M_edges M_from M_to M_bits M_gone M_configuration n v2 M_metSize M_way M_asked (upd M_at (M_way (v2 - 1).toNatClampNeg).toNatClampNeg ((M_at (M_way (v2 - 1).toNatClampNeg).toNatClampNeg) + 1))
              else
                og_ck (M_at (M_way (v2 - 1).toNatClampNeg).toNatClampNeg) 160 <|
                og_ck (M_to (M_at (M_way (v2 - 1).toNatClampNeg).toNatClampNeg).toNatClampNeg) 40 <|
                if (M_asked (M_to (M_at (M_way (v2 - 1).toNatClampNeg).toNatClampNeg).toNatClampNeg).toNatClampNeg) = 1 then
                  og_ck (M_at (M_way (v2 - 1).toNatClampNeg).toNatClampNeg) 160 <|
                  (fM_ringOf M_metSize M_way v2 (M_to (M_at (M_way (v2 - 1).toNatClampNeg).toNatClampNeg).toNatClampNeg)).bind fun r209 =>
                  some (r209.1, M_code, r209.2.1, r209.2.2, M_asked, (upd M_at (M_way (v2 - 1).toNatClampNeg).toNatClampNeg ((M_at (M_way (v2 - 1).toNatClampNeg).toNatClampNeg) + 1)))
                else
                  og_ck (M_at (M_way (v2 - 1).toNatClampNeg).toNatClampNeg) 160 <|
                  og_ck (M_to (M_at (M_way (v2 - 1).toNatClampNeg).toNatClampNeg).toNatClampNeg) 40 <|
                  og_ck (M_at (M_way (v2 - 1).toNatClampNeg).toNatClampNeg) 160 <|
                  og_ck v2 40 <|
                  fM_ask_L74 k74_245 M_code M_edges M_from M_to M_bits M_gone M_configuration n (v2 + 1) M_metSize (upd M_way v2.toNatClampNeg (M_to (M_at (M_way (v2 - 1).toNatClampNeg).toNatClampNeg).toNatClampNeg)) (upd M_asked (M_to (M_at (M_way (v2 - 1).toNatClampNeg).toNatClampNeg).toNatClampNeg).toNatClampNeg 1) (upd M_at (M_way (v2 - 1).toNatClampNeg).toNatClampNeg ((M_at (M_way (v2 - 1).toNatClampNeg).toNatClampNeg) + 1))
            else
              fM_ask_L74 k74_245 M_code M_edges M_from M_to M_bits M_gone M_configuration n v2 M_metSize M_way M_asked (upd M_at (M_way (v2 - 1).toNatClampNeg).toNatClampNeg ((M_at (M_way (v2 - 1).toNatClampNeg).toNatClampNeg) + 1))
        else
          fM_ask_L74 k74_245 M_code M_edges M_from M_to M_bits M_gone M_configuration n v2 M_metSize M_way M_asked (upd M_at (M_way (v2 - 1).toNatClampNeg).toNatClampNeg ((M_at (M_way (v2 - 1).toNatClampNeg).toNatClampNeg) + 1))
noncomputable def fM_ask_K25_53 (M_code : Int32) (M_edges : Int32) (M_from : (Nat → Int32)) (M_to : (Nat → Int32)) (M_bits : (Nat → Int32)) (M_gone : (Nat → Int32)) (M_configuration : Int32) (M_way : (Nat → Int32)) (p1 : Int32) (M_asked : (Nat → Int32)) (M_at : (Nat → Int32)) : Option (Int32 × Int32 × Int32 × (Nat → Int32) × (Nat → Int32) × (Nat → Int32)) :=
  og_ck p1 40 <|
  og_ck 0 40 <|
  fM_ask_L74 (fM_ask_K74_245 M_code) M_code M_edges M_from M_to M_bits M_gone M_configuration FU 1 0 (upd M_way (0 : Int32).toNatClampNeg p1) (upd M_asked p1.toNatClampNeg 1) M_at
noncomputable def fM_ask_L25 (k25_53 : (Nat → Int32) → (Nat → Int32) → Option (Int32 × Int32 × Int32 × (Nat → Int32) × (Nat → Int32) × (Nat → Int32))) (M_keys : Int32) : Nat → Int32 → (Nat → Int32) → (Nat → Int32) → Option (Int32 × Int32 × Int32 × (Nat → Int32) × (Nat → Int32) × (Nat → Int32))
  | 0, _, _, _ => none
  | n + 1, v2, M_asked, M_at =>
    if M_keys ≤ v2 then
      k25_53 M_asked M_at
    else
      og_ck v2 40 <|
      og_ck v2 40 <|
      fM_ask_L25 k25_53 M_keys n (v2 + 1) (upd M_asked v2.toNatClampNeg 0) (upd M_at v2.toNatClampNeg 0)
noncomputable def fM_ask (M_code : Int32) (M_keys : Int32) (M_edges : Int32) (M_from : (Nat → Int32)) (M_to : (Nat → Int32)) (M_bits : (Nat → Int32)) (M_gone : (Nat → Int32)) (M_configuration : Int32) (M_metSize : Int32) (M_way : (Nat → Int32)) (M_asked : (Nat → Int32)) (M_at : (Nat → Int32)) (p1 : Int32) : Option (Int32 × Int32 × Int32 × (Nat → Int32) × (Nat → Int32) × (Nat → Int32)) :=
  if M_configuration = (-1) then
    some ((-1), 0, M_metSize, M_way, M_asked, M_at)
  else
    (fM_isKey M_keys p1).bind fun r15 =>
    if r15 = 0 then
      some ((-1), 0, M_metSize, M_way, M_asked, M_at)
    else
      fM_ask_L25 (fM_ask_K25_53 0 M_edges M_from M_to M_bits M_gone M_configuration M_way p1) M_keys FU 0 M_asked M_at
noncomputable def fM_met (M_code : Int32) (M_metSize : Int32) (M_way : (Nat → Int32)) (p1 : Int32) : Option (Int32 × Int32) :=
  if p1 < 0 then
    some ((-1), 0)
  else
    if p1 < M_metSize then
      og_ck p1 40 <|
      some ((M_way p1.toNatClampNeg), 0)
    else
      some ((-1), 0)
end
section
section FLD
variable {p : Program} {l : Launch} {e : Env} {R : Room} {s : State} {m : MethodId} {args : Array Value} {below : List Frame} {meth : Method} {c : Code} {H : Heap} {locs : List Loc} {cells slots : Nat} {Q : State → Prop} {cc : ByteArray} {pc : Nat} {ls : Array Slot} {rest : List Value} {D : va_G} {A : Nat → Prop} {a : Nat} {tys : List (ClassId × FieldType)} {ws : va_W} {H0 : Heap}
theorem vg_C_keys (hexec : p.tables.exec = Jvm.exec) (hb : c.code = cc) {own : String} {index : Nat} (hts : ∀ w ∈ og_tb, w.before args s = true) (hown : s.vm.findClass own = some m.cls) (hK : va_K D vwCl tys s) (hP : va_P D vwCl ws H) (q0 : Nat) {fs : List Value} (he : ws[q0]? = some (a, .inr (0, fs))) (hlink : (Cond.fieldLink own index "CycleRows" "keys" "LCycleRows$Keys;").before args s = true) {v : Value} (hv : fs[0]? = some v) (hdg : decode cc pc = .ok (.getfield index, 3)) (kk : W p l e R s m args below meth c H locs cells slots Q (F0 m (pc + 3) ls (v :: rest))) : W p l e R s m args below meth c H locs cells slots Q (F0 m pc ls (.ref a :: rest)) := va_get (T := T_C) (N := 5) hexec hb hts lay_C hown hK hP q0 he rfl 0 (by decide) hlink (fun _ h => h) hv hdg kk
theorem vg_C_edges (hexec : p.tables.exec = Jvm.exec) (hb : c.code = cc) {own : String} {index : Nat} (hts : ∀ w ∈ og_tb, w.before args s = true) (hown : s.vm.findClass own = some m.cls) (hK : va_K D vwCl tys s) (hP : va_P D vwCl ws H) (q0 : Nat) {fs : List Value} (he : ws[q0]? = some (a, .inr (0, fs))) (hlink : (Cond.fieldLink own index "CycleRows" "edges" "LCycleRows$Edges;").before args s = true) {v : Value} (hv : fs[1]? = some v) (hdg : decode cc pc = .ok (.getfield index, 3)) (kk : W p l e R s m args below meth c H locs cells slots Q (F0 m (pc + 3) ls (v :: rest))) : W p l e R s m args below meth c H locs cells slots Q (F0 m pc ls (.ref a :: rest)) := va_get (T := T_C) (N := 5) hexec hb hts lay_C hown hK hP q0 he rfl 1 (by decide) hlink (fun _ h => h) hv hdg kk
theorem vg_C_reaches (hexec : p.tables.exec = Jvm.exec) (hb : c.code = cc) {own : String} {index : Nat} (hts : ∀ w ∈ og_tb, w.before args s = true) (hown : s.vm.findClass own = some m.cls) (hK : va_K D vwCl tys s) (hP : va_P D vwCl ws H) (q0 : Nat) {fs : List Value} (he : ws[q0]? = some (a, .inr (0, fs))) (hlink : (Cond.fieldLink own index "CycleRows" "reaches" "LCycleRows$Reaches;").before args s = true) {v : Value} (hv : fs[2]? = some v) (hdg : decode cc pc = .ok (.getfield index, 3)) (kk : W p l e R s m args below meth c H locs cells slots Q (F0 m (pc + 3) ls (v :: rest))) : W p l e R s m args below meth c H locs cells slots Q (F0 m pc ls (.ref a :: rest)) := va_get (T := T_C) (N := 5) hexec hb hts lay_C hown hK hP q0 he rfl 2 (by decide) hlink (fun _ h => h) hv hdg kk
theorem vg_C_told (hexec : p.tables.exec = Jvm.exec) (hb : c.code = cc) {own : String} {index : Nat} (hts : ∀ w ∈ og_tb, w.before args s = true) (hown : s.vm.findClass own = some m.cls) (hK : va_K D vwCl tys s) (hP : va_P D vwCl ws H) (q0 : Nat) {fs : List Value} (he : ws[q0]? = some (a, .inr (0, fs))) (hlink : (Cond.fieldLink own index "CycleRows" "told" "LCycleRows$Told;").before args s = true) {v : Value} (hv : fs[3]? = some v) (hdg : decode cc pc = .ok (.getfield index, 3)) (kk : W p l e R s m args below meth c H locs cells slots Q (F0 m (pc + 3) ls (v :: rest))) : W p l e R s m args below meth c H locs cells slots Q (F0 m pc ls (.ref a :: rest)) := va_get (T := T_C) (N := 5) hexec hb hts lay_C hown hK hP q0 he rfl 3 (by decide) hlink (fun _ h => h) hv hdg kk
theorem vg_C_asking (hexec : p.tables.exec = Jvm.exec) (hb : c.code = cc) {own : String} {index : Nat} (hts : ∀ w ∈ og_tb, w.before args s = true) (hown : s.vm.findClass own = some m.cls) (hK : va_K D vwCl tys s) (hP : va_P D vwCl ws H) (q0 : Nat) {fs : List Value} (he : ws[q0]? = some (a, .inr (0, fs))) (hlink : (Cond.fieldLink own index "CycleRows" "asking" "LCycleRows$Asking;").before args s = true) {v : Value} (hv : fs[4]? = some v) (hdg : decode cc pc = .ok (.getfield index, 3)) (kk : W p l e R s m args below meth c H locs cells slots Q (F0 m (pc + 3) ls (v :: rest))) : W p l e R s m args below meth c H locs cells slots Q (F0 m pc ls (.ref a :: rest)) := va_get (T := T_C) (N := 5) hexec hb hts lay_C hown hK hP q0 he rfl 4 (by decide) hlink (fun _ h => h) hv hdg kk
theorem vg_K_count (hexec : p.tables.exec = Jvm.exec) (hb : c.code = cc) {own : String} {index : Nat} (hts : ∀ w ∈ og_tb, w.before args s = true) (hown : s.vm.findClass own = some m.cls) (hK : va_K D vwCl tys s) (hP : va_P D vwCl ws H) (q0 : Nat) {fs : List Value} (he : ws[q0]? = some (a, .inr (1, fs))) (hlink : (Cond.fieldLink own index "CycleRows$Keys" "count" "I").before args s = true) {v : Value} (hv : fs[0]? = some v) (hdg : decode cc pc = .ok (.getfield index, 3)) (kk : W p l e R s m args below meth c H locs cells slots Q (F0 m (pc + 3) ls (v :: rest))) : W p l e R s m args below meth c H locs cells slots Q (F0 m pc ls (.ref a :: rest)) := va_get (T := T_K) (N := 4) hexec hb hts lay_K hown hK hP q0 he rfl 0 (by decide) hlink (fun _ h => h) hv hdg kk
theorem vs_K_count (hexec : p.tables.exec = Jvm.exec) (hb : c.code = cc) {own : String} {index : Nat} (hts : ∀ w ∈ og_tb, w.before args s = true) (hown : s.vm.findClass own = some m.cls) (hK : va_K D vwCl tys s) (hP : va_P D vwCl ws H) (hD : va_D A ws) (hS : va_S A H0 H locs) (q0 : Nat) {fs : List Value} (he : ws[q0]? = some (a, .inr (1, fs))) (hlink : (Cond.fieldLink own index "CycleRows$Keys" "count" "I").before args s = true) {v : Int32} (hl : 0 < fs.length) (hdg : decode cc pc = .ok (.putfield index, 3)) (kk : ∀ (H1 : Heap) (locs1 : List Loc), va_P D vwCl (ws.set q0 (a, .inr (1, fs.set 0 (.int v)))) H1 → va_D A (ws.set q0 (a, .inr (1, fs.set 0 (.int v)))) → va_S A H0 H1 locs1 → W p l e R s m args below meth c H1 locs1 cells slots Q (F0 m (pc + 3) ls rest)) : W p l e R s m args below meth c H locs cells slots Q (F0 m pc ls (.int v :: .ref a :: rest)) := va_put (T := T_K) (N := 4) (ty := .int) hexec hb hts lay_K ty_K tyok_K nm_K hown hK hP hD hS q0 he rfl 0 (by decide) hlink (fun _ h => h) rfl (by decide +kernel) rfl rfl hl hdg kk
theorem vg_K_names (hexec : p.tables.exec = Jvm.exec) (hb : c.code = cc) {own : String} {index : Nat} (hts : ∀ w ∈ og_tb, w.before args s = true) (hown : s.vm.findClass own = some m.cls) (hK : va_K D vwCl tys s) (hP : va_P D vwCl ws H) (q0 : Nat) {fs : List Value} (he : ws[q0]? = some (a, .inr (1, fs))) (hlink : (Cond.fieldLink own index "CycleRows$Keys" "names" "[I").before args s = true) {v : Value} (hv : fs[1]? = some v) (hdg : decode cc pc = .ok (.getfield index, 3)) (kk : W p l e R s m args below meth c H locs cells slots Q (F0 m (pc + 3) ls (v :: rest))) : W p l e R s m args below meth c H locs cells slots Q (F0 m pc ls (.ref a :: rest)) := va_get (T := T_K) (N := 4) hexec hb hts lay_K hown hK hP q0 he rfl 1 (by decide) hlink (fun _ h => h) hv hdg kk
theorem vg_K_byRank (hexec : p.tables.exec = Jvm.exec) (hb : c.code = cc) {own : String} {index : Nat} (hts : ∀ w ∈ og_tb, w.before args s = true) (hown : s.vm.findClass own = some m.cls) (hK : va_K D vwCl tys s) (hP : va_P D vwCl ws H) (q0 : Nat) {fs : List Value} (he : ws[q0]? = some (a, .inr (1, fs))) (hlink : (Cond.fieldLink own index "CycleRows$Keys" "byRank" "[I").before args s = true) {v : Value} (hv : fs[2]? = some v) (hdg : decode cc pc = .ok (.getfield index, 3)) (kk : W p l e R s m args below meth c H locs cells slots Q (F0 m (pc + 3) ls (v :: rest))) : W p l e R s m args below meth c H locs cells slots Q (F0 m pc ls (.ref a :: rest)) := va_get (T := T_K) (N := 4) hexec hb hts lay_K hown hK hP q0 he rfl 2 (by decide) hlink (fun _ h => h) hv hdg kk
theorem vg_K_rankOf (hexec : p.tables.exec = Jvm.exec) (hb : c.code = cc) {own : String} {index : Nat} (hts : ∀ w ∈ og_tb, w.before args s = true) (hown : s.vm.findClass own = some m.cls) (hK : va_K D vwCl tys s) (hP : va_P D vwCl ws H) (q0 : Nat) {fs : List Value} (he : ws[q0]? = some (a, .inr (1, fs))) (hlink : (Cond.fieldLink own index "CycleRows$Keys" "rankOf" "[I").before args s = true) {v : Value} (hv : fs[3]? = some v) (hdg : decode cc pc = .ok (.getfield index, 3)) (kk : W p l e R s m args below meth c H locs cells slots Q (F0 m (pc + 3) ls (v :: rest))) : W p l e R s m args below meth c H locs cells slots Q (F0 m pc ls (.ref a :: rest)) := va_get (T := T_K) (N := 4) hexec hb hts lay_K hown hK hP q0 he rfl 3 (by decide) hlink (fun _ h => h) hv hdg kk
theorem vg_E_count (hexec : p.tables.exec = Jvm.exec) (hb : c.code = cc) {own : String} {index : Nat} (hts : ∀ w ∈ og_tb, w.before args s = true) (hown : s.vm.findClass own = some m.cls) (hK : va_K D vwCl tys s) (hP : va_P D vwCl ws H) (q0 : Nat) {fs : List Value} (he : ws[q0]? = some (a, .inr (2, fs))) (hlink : (Cond.fieldLink own index "CycleRows$Edges" "count" "I").before args s = true) {v : Value} (hv : fs[0]? = some v) (hdg : decode cc pc = .ok (.getfield index, 3)) (kk : W p l e R s m args below meth c H locs cells slots Q (F0 m (pc + 3) ls (v :: rest))) : W p l e R s m args below meth c H locs cells slots Q (F0 m pc ls (.ref a :: rest)) := va_get (T := T_E) (N := 6) hexec hb hts lay_E hown hK hP q0 he rfl 0 (by decide) hlink (fun _ h => h) hv hdg kk
theorem vs_E_count (hexec : p.tables.exec = Jvm.exec) (hb : c.code = cc) {own : String} {index : Nat} (hts : ∀ w ∈ og_tb, w.before args s = true) (hown : s.vm.findClass own = some m.cls) (hK : va_K D vwCl tys s) (hP : va_P D vwCl ws H) (hD : va_D A ws) (hS : va_S A H0 H locs) (q0 : Nat) {fs : List Value} (he : ws[q0]? = some (a, .inr (2, fs))) (hlink : (Cond.fieldLink own index "CycleRows$Edges" "count" "I").before args s = true) {v : Int32} (hl : 0 < fs.length) (hdg : decode cc pc = .ok (.putfield index, 3)) (kk : ∀ (H1 : Heap) (locs1 : List Loc), va_P D vwCl (ws.set q0 (a, .inr (2, fs.set 0 (.int v)))) H1 → va_D A (ws.set q0 (a, .inr (2, fs.set 0 (.int v)))) → va_S A H0 H1 locs1 → W p l e R s m args below meth c H1 locs1 cells slots Q (F0 m (pc + 3) ls rest)) : W p l e R s m args below meth c H locs cells slots Q (F0 m pc ls (.int v :: .ref a :: rest)) := va_put (T := T_E) (N := 6) (ty := .int) hexec hb hts lay_E ty_E tyok_E nm_E hown hK hP hD hS q0 he rfl 0 (by decide) hlink (fun _ h => h) rfl (by decide +kernel) rfl rfl hl hdg kk
theorem vg_E_from (hexec : p.tables.exec = Jvm.exec) (hb : c.code = cc) {own : String} {index : Nat} (hts : ∀ w ∈ og_tb, w.before args s = true) (hown : s.vm.findClass own = some m.cls) (hK : va_K D vwCl tys s) (hP : va_P D vwCl ws H) (q0 : Nat) {fs : List Value} (he : ws[q0]? = some (a, .inr (2, fs))) (hlink : (Cond.fieldLink own index "CycleRows$Edges" "from" "[I").before args s = true) {v : Value} (hv : fs[1]? = some v) (hdg : decode cc pc = .ok (.getfield index, 3)) (kk : W p l e R s m args below meth c H locs cells slots Q (F0 m (pc + 3) ls (v :: rest))) : W p l e R s m args below meth c H locs cells slots Q (F0 m pc ls (.ref a :: rest)) := va_get (T := T_E) (N := 6) hexec hb hts lay_E hown hK hP q0 he rfl 1 (by decide) hlink (fun _ h => h) hv hdg kk
theorem vg_E_to (hexec : p.tables.exec = Jvm.exec) (hb : c.code = cc) {own : String} {index : Nat} (hts : ∀ w ∈ og_tb, w.before args s = true) (hown : s.vm.findClass own = some m.cls) (hK : va_K D vwCl tys s) (hP : va_P D vwCl ws H) (q0 : Nat) {fs : List Value} (he : ws[q0]? = some (a, .inr (2, fs))) (hlink : (Cond.fieldLink own index "CycleRows$Edges" "to" "[I").before args s = true) {v : Value} (hv : fs[2]? = some v) (hdg : decode cc pc = .ok (.getfield index, 3)) (kk : W p l e R s m args below meth c H locs cells slots Q (F0 m (pc + 3) ls (v :: rest))) : W p l e R s m args below meth c H locs cells slots Q (F0 m pc ls (.ref a :: rest)) := va_get (T := T_E) (N := 6) hexec hb hts lay_E hown hK hP q0 he rfl 2 (by decide) hlink (fun _ h => h) hv hdg kk
theorem vg_E_places (hexec : p.tables.exec = Jvm.exec) (hb : c.code = cc) {own : String} {index : Nat} (hts : ∀ w ∈ og_tb, w.before args s = true) (hown : s.vm.findClass own = some m.cls) (hK : va_K D vwCl tys s) (hP : va_P D vwCl ws H) (q0 : Nat) {fs : List Value} (he : ws[q0]? = some (a, .inr (2, fs))) (hlink : (Cond.fieldLink own index "CycleRows$Edges" "places" "[I").before args s = true) {v : Value} (hv : fs[3]? = some v) (hdg : decode cc pc = .ok (.getfield index, 3)) (kk : W p l e R s m args below meth c H locs cells slots Q (F0 m (pc + 3) ls (v :: rest))) : W p l e R s m args below meth c H locs cells slots Q (F0 m pc ls (.ref a :: rest)) := va_get (T := T_E) (N := 6) hexec hb hts lay_E hown hK hP q0 he rfl 3 (by decide) hlink (fun _ h => h) hv hdg kk
theorem vg_E_configurations (hexec : p.tables.exec = Jvm.exec) (hb : c.code = cc) {own : String} {index : Nat} (hts : ∀ w ∈ og_tb, w.before args s = true) (hown : s.vm.findClass own = some m.cls) (hK : va_K D vwCl tys s) (hP : va_P D vwCl ws H) (q0 : Nat) {fs : List Value} (he : ws[q0]? = some (a, .inr (2, fs))) (hlink : (Cond.fieldLink own index "CycleRows$Edges" "configurations" "[I").before args s = true) {v : Value} (hv : fs[4]? = some v) (hdg : decode cc pc = .ok (.getfield index, 3)) (kk : W p l e R s m args below meth c H locs cells slots Q (F0 m (pc + 3) ls (v :: rest))) : W p l e R s m args below meth c H locs cells slots Q (F0 m pc ls (.ref a :: rest)) := va_get (T := T_E) (N := 6) hexec hb hts lay_E hown hK hP q0 he rfl 4 (by decide) hlink (fun _ h => h) hv hdg kk
theorem vg_E_gone (hexec : p.tables.exec = Jvm.exec) (hb : c.code = cc) {own : String} {index : Nat} (hts : ∀ w ∈ og_tb, w.before args s = true) (hown : s.vm.findClass own = some m.cls) (hK : va_K D vwCl tys s) (hP : va_P D vwCl ws H) (q0 : Nat) {fs : List Value} (he : ws[q0]? = some (a, .inr (2, fs))) (hlink : (Cond.fieldLink own index "CycleRows$Edges" "gone" "[Z").before args s = true) {v : Value} (hv : fs[5]? = some v) (hdg : decode cc pc = .ok (.getfield index, 3)) (kk : W p l e R s m args below meth c H locs cells slots Q (F0 m (pc + 3) ls (v :: rest))) : W p l e R s m args below meth c H locs cells slots Q (F0 m pc ls (.ref a :: rest)) := va_get (T := T_E) (N := 6) hexec hb hts lay_E hown hK hP q0 he rfl 5 (by decide) hlink (fun _ h => h) hv hdg kk
theorem vg_R_count (hexec : p.tables.exec = Jvm.exec) (hb : c.code = cc) {own : String} {index : Nat} (hts : ∀ w ∈ og_tb, w.before args s = true) (hown : s.vm.findClass own = some m.cls) (hK : va_K D vwCl tys s) (hP : va_P D vwCl ws H) (q0 : Nat) {fs : List Value} (he : ws[q0]? = some (a, .inr (3, fs))) (hlink : (Cond.fieldLink own index "CycleRows$Reaches" "count" "I").before args s = true) {v : Value} (hv : fs[0]? = some v) (hdg : decode cc pc = .ok (.getfield index, 3)) (kk : W p l e R s m args below meth c H locs cells slots Q (F0 m (pc + 3) ls (v :: rest))) : W p l e R s m args below meth c H locs cells slots Q (F0 m pc ls (.ref a :: rest)) := va_get (T := T_R) (N := 5) hexec hb hts lay_R hown hK hP q0 he rfl 0 (by decide) hlink (fun _ h => h) hv hdg kk
theorem vs_R_count (hexec : p.tables.exec = Jvm.exec) (hb : c.code = cc) {own : String} {index : Nat} (hts : ∀ w ∈ og_tb, w.before args s = true) (hown : s.vm.findClass own = some m.cls) (hK : va_K D vwCl tys s) (hP : va_P D vwCl ws H) (hD : va_D A ws) (hS : va_S A H0 H locs) (q0 : Nat) {fs : List Value} (he : ws[q0]? = some (a, .inr (3, fs))) (hlink : (Cond.fieldLink own index "CycleRows$Reaches" "count" "I").before args s = true) {v : Int32} (hl : 0 < fs.length) (hdg : decode cc pc = .ok (.putfield index, 3)) (kk : ∀ (H1 : Heap) (locs1 : List Loc), va_P D vwCl (ws.set q0 (a, .inr (3, fs.set 0 (.int v)))) H1 → va_D A (ws.set q0 (a, .inr (3, fs.set 0 (.int v)))) → va_S A H0 H1 locs1 → W p l e R s m args below meth c H1 locs1 cells slots Q (F0 m (pc + 3) ls rest)) : W p l e R s m args below meth c H locs cells slots Q (F0 m pc ls (.int v :: .ref a :: rest)) := va_put (T := T_R) (N := 5) (ty := .int) hexec hb hts lay_R ty_R tyok_R nm_R hown hK hP hD hS q0 he rfl 0 (by decide) hlink (fun _ h => h) rfl (by decide +kernel) rfl rfl hl hdg kk
theorem vg_R_asked (hexec : p.tables.exec = Jvm.exec) (hb : c.code = cc) {own : String} {index : Nat} (hts : ∀ w ∈ og_tb, w.before args s = true) (hown : s.vm.findClass own = some m.cls) (hK : va_K D vwCl tys s) (hP : va_P D vwCl ws H) (q0 : Nat) {fs : List Value} (he : ws[q0]? = some (a, .inr (3, fs))) (hlink : (Cond.fieldLink own index "CycleRows$Reaches" "asked" "[J").before args s = true) {v : Value} (hv : fs[1]? = some v) (hdg : decode cc pc = .ok (.getfield index, 3)) (kk : W p l e R s m args below meth c H locs cells slots Q (F0 m (pc + 3) ls (v :: rest))) : W p l e R s m args below meth c H locs cells slots Q (F0 m pc ls (.ref a :: rest)) := va_get (T := T_R) (N := 5) hexec hb hts lay_R hown hK hP q0 he rfl 1 (by decide) hlink (fun _ h => h) hv hdg kk
theorem vg_R_reached (hexec : p.tables.exec = Jvm.exec) (hb : c.code = cc) {own : String} {index : Nat} (hts : ∀ w ∈ og_tb, w.before args s = true) (hown : s.vm.findClass own = some m.cls) (hK : va_K D vwCl tys s) (hP : va_P D vwCl ws H) (q0 : Nat) {fs : List Value} (he : ws[q0]? = some (a, .inr (3, fs))) (hlink : (Cond.fieldLink own index "CycleRows$Reaches" "reached" "[J").before args s = true) {v : Value} (hv : fs[2]? = some v) (hdg : decode cc pc = .ok (.getfield index, 3)) (kk : W p l e R s m args below meth c H locs cells slots Q (F0 m (pc + 3) ls (v :: rest))) : W p l e R s m args below meth c H locs cells slots Q (F0 m pc ls (.ref a :: rest)) := va_get (T := T_R) (N := 5) hexec hb hts lay_R hown hK hP q0 he rfl 2 (by decide) hlink (fun _ h => h) hv hdg kk
theorem vg_R_shortest (hexec : p.tables.exec = Jvm.exec) (hb : c.code = cc) {own : String} {index : Nat} (hts : ∀ w ∈ og_tb, w.before args s = true) (hown : s.vm.findClass own = some m.cls) (hK : va_K D vwCl tys s) (hP : va_P D vwCl ws H) (q0 : Nat) {fs : List Value} (he : ws[q0]? = some (a, .inr (3, fs))) (hlink : (Cond.fieldLink own index "CycleRows$Reaches" "shortest" "[I").before args s = true) {v : Value} (hv : fs[3]? = some v) (hdg : decode cc pc = .ok (.getfield index, 3)) (kk : W p l e R s m args below meth c H locs cells slots Q (F0 m (pc + 3) ls (v :: rest))) : W p l e R s m args below meth c H locs cells slots Q (F0 m pc ls (.ref a :: rest)) := va_get (T := T_R) (N := 5) hexec hb hts lay_R hown hK hP q0 he rfl 3 (by decide) hlink (fun _ h => h) hv hdg kk
theorem vg_R_layers (hexec : p.tables.exec = Jvm.exec) (hb : c.code = cc) {own : String} {index : Nat} (hts : ∀ w ∈ og_tb, w.before args s = true) (hown : s.vm.findClass own = some m.cls) (hK : va_K D vwCl tys s) (hP : va_P D vwCl ws H) (q0 : Nat) {fs : List Value} (he : ws[q0]? = some (a, .inr (3, fs))) (hlink : (Cond.fieldLink own index "CycleRows$Reaches" "layers" "[J").before args s = true) {v : Value} (hv : fs[4]? = some v) (hdg : decode cc pc = .ok (.getfield index, 3)) (kk : W p l e R s m args below meth c H locs cells slots Q (F0 m (pc + 3) ls (v :: rest))) : W p l e R s m args below meth c H locs cells slots Q (F0 m pc ls (.ref a :: rest)) := va_get (T := T_R) (N := 5) hexec hb hts lay_R hown hK hP q0 he rfl 4 (by decide) hlink (fun _ h => h) hv hdg kk
theorem vg_T_configuration (hexec : p.tables.exec = Jvm.exec) (hb : c.code = cc) {own : String} {index : Nat} (hts : ∀ w ∈ og_tb, w.before args s = true) (hown : s.vm.findClass own = some m.cls) (hK : va_K D vwCl tys s) (hP : va_P D vwCl ws H) (q0 : Nat) {fs : List Value} (he : ws[q0]? = some (a, .inr (4, fs))) (hlink : (Cond.fieldLink own index "CycleRows$Told" "configuration" "I").before args s = true) {v : Value} (hv : fs[0]? = some v) (hdg : decode cc pc = .ok (.getfield index, 3)) (kk : W p l e R s m args below meth c H locs cells slots Q (F0 m (pc + 3) ls (v :: rest))) : W p l e R s m args below meth c H locs cells slots Q (F0 m pc ls (.ref a :: rest)) := va_get (T := T_T) (N := 10) hexec hb hts lay_T hown hK hP q0 he rfl 0 (by decide) hlink (fun _ h => h) hv hdg kk
theorem vs_T_configuration (hexec : p.tables.exec = Jvm.exec) (hb : c.code = cc) {own : String} {index : Nat} (hts : ∀ w ∈ og_tb, w.before args s = true) (hown : s.vm.findClass own = some m.cls) (hK : va_K D vwCl tys s) (hP : va_P D vwCl ws H) (hD : va_D A ws) (hS : va_S A H0 H locs) (q0 : Nat) {fs : List Value} (he : ws[q0]? = some (a, .inr (4, fs))) (hlink : (Cond.fieldLink own index "CycleRows$Told" "configuration" "I").before args s = true) {v : Int32} (hl : 0 < fs.length) (hdg : decode cc pc = .ok (.putfield index, 3)) (kk : ∀ (H1 : Heap) (locs1 : List Loc), va_P D vwCl (ws.set q0 (a, .inr (4, fs.set 0 (.int v)))) H1 → va_D A (ws.set q0 (a, .inr (4, fs.set 0 (.int v)))) → va_S A H0 H1 locs1 → W p l e R s m args below meth c H1 locs1 cells slots Q (F0 m (pc + 3) ls rest)) : W p l e R s m args below meth c H locs cells slots Q (F0 m pc ls (.int v :: .ref a :: rest)) := va_put (T := T_T) (N := 10) (ty := .int) hexec hb hts lay_T ty_T tyok_T nm_T hown hK hP hD hS q0 he rfl 0 (by decide) hlink (fun _ h => h) rfl (by decide +kernel) rfl rfl hl hdg kk
theorem vg_T_ringCount (hexec : p.tables.exec = Jvm.exec) (hb : c.code = cc) {own : String} {index : Nat} (hts : ∀ w ∈ og_tb, w.before args s = true) (hown : s.vm.findClass own = some m.cls) (hK : va_K D vwCl tys s) (hP : va_P D vwCl ws H) (q0 : Nat) {fs : List Value} (he : ws[q0]? = some (a, .inr (4, fs))) (hlink : (Cond.fieldLink own index "CycleRows$Told" "ringCount" "I").before args s = true) {v : Value} (hv : fs[1]? = some v) (hdg : decode cc pc = .ok (.getfield index, 3)) (kk : W p l e R s m args below meth c H locs cells slots Q (F0 m (pc + 3) ls (v :: rest))) : W p l e R s m args below meth c H locs cells slots Q (F0 m pc ls (.ref a :: rest)) := va_get (T := T_T) (N := 10) hexec hb hts lay_T hown hK hP q0 he rfl 1 (by decide) hlink (fun _ h => h) hv hdg kk
theorem vs_T_ringCount (hexec : p.tables.exec = Jvm.exec) (hb : c.code = cc) {own : String} {index : Nat} (hts : ∀ w ∈ og_tb, w.before args s = true) (hown : s.vm.findClass own = some m.cls) (hK : va_K D vwCl tys s) (hP : va_P D vwCl ws H) (hD : va_D A ws) (hS : va_S A H0 H locs) (q0 : Nat) {fs : List Value} (he : ws[q0]? = some (a, .inr (4, fs))) (hlink : (Cond.fieldLink own index "CycleRows$Told" "ringCount" "I").before args s = true) {v : Int32} (hl : 1 < fs.length) (hdg : decode cc pc = .ok (.putfield index, 3)) (kk : ∀ (H1 : Heap) (locs1 : List Loc), va_P D vwCl (ws.set q0 (a, .inr (4, fs.set 1 (.int v)))) H1 → va_D A (ws.set q0 (a, .inr (4, fs.set 1 (.int v)))) → va_S A H0 H1 locs1 → W p l e R s m args below meth c H1 locs1 cells slots Q (F0 m (pc + 3) ls rest)) : W p l e R s m args below meth c H locs cells slots Q (F0 m pc ls (.int v :: .ref a :: rest)) := va_put (T := T_T) (N := 10) (ty := .int) hexec hb hts lay_T ty_T tyok_T nm_T hown hK hP hD hS q0 he rfl 1 (by decide) hlink (fun _ h => h) rfl (by decide +kernel) rfl rfl hl hdg kk
theorem vg_T_partOf (hexec : p.tables.exec = Jvm.exec) (hb : c.code = cc) {own : String} {index : Nat} (hts : ∀ w ∈ og_tb, w.before args s = true) (hown : s.vm.findClass own = some m.cls) (hK : va_K D vwCl tys s) (hP : va_P D vwCl ws H) (q0 : Nat) {fs : List Value} (he : ws[q0]? = some (a, .inr (4, fs))) (hlink : (Cond.fieldLink own index "CycleRows$Told" "partOf" "[I").before args s = true) {v : Value} (hv : fs[2]? = some v) (hdg : decode cc pc = .ok (.getfield index, 3)) (kk : W p l e R s m args below meth c H locs cells slots Q (F0 m (pc + 3) ls (v :: rest))) : W p l e R s m args below meth c H locs cells slots Q (F0 m pc ls (.ref a :: rest)) := va_get (T := T_T) (N := 10) hexec hb hts lay_T hown hK hP q0 he rfl 2 (by decide) hlink (fun _ h => h) hv hdg kk
theorem vg_T_stateOf (hexec : p.tables.exec = Jvm.exec) (hb : c.code = cc) {own : String} {index : Nat} (hts : ∀ w ∈ og_tb, w.before args s = true) (hown : s.vm.findClass own = some m.cls) (hK : va_K D vwCl tys s) (hP : va_P D vwCl ws H) (q0 : Nat) {fs : List Value} (he : ws[q0]? = some (a, .inr (4, fs))) (hlink : (Cond.fieldLink own index "CycleRows$Told" "stateOf" "[I").before args s = true) {v : Value} (hv : fs[3]? = some v) (hdg : decode cc pc = .ok (.getfield index, 3)) (kk : W p l e R s m args below meth c H locs cells slots Q (F0 m (pc + 3) ls (v :: rest))) : W p l e R s m args below meth c H locs cells slots Q (F0 m pc ls (.ref a :: rest)) := va_get (T := T_T) (N := 10) hexec hb hts lay_T hown hK hP q0 he rfl 3 (by decide) hlink (fun _ h => h) hv hdg kk
theorem vg_T_leastOf (hexec : p.tables.exec = Jvm.exec) (hb : c.code = cc) {own : String} {index : Nat} (hts : ∀ w ∈ og_tb, w.before args s = true) (hown : s.vm.findClass own = some m.cls) (hK : va_K D vwCl tys s) (hP : va_P D vwCl ws H) (q0 : Nat) {fs : List Value} (he : ws[q0]? = some (a, .inr (4, fs))) (hlink : (Cond.fieldLink own index "CycleRows$Told" "leastOf" "[I").before args s = true) {v : Value} (hv : fs[4]? = some v) (hdg : decode cc pc = .ok (.getfield index, 3)) (kk : W p l e R s m args below meth c H locs cells slots Q (F0 m (pc + 3) ls (v :: rest))) : W p l e R s m args below meth c H locs cells slots Q (F0 m pc ls (.ref a :: rest)) := va_get (T := T_T) (N := 10) hexec hb hts lay_T hown hK hP q0 he rfl 4 (by decide) hlink (fun _ h => h) hv hdg kk
theorem vg_T_onlyIn (hexec : p.tables.exec = Jvm.exec) (hb : c.code = cc) {own : String} {index : Nat} (hts : ∀ w ∈ og_tb, w.before args s = true) (hown : s.vm.findClass own = some m.cls) (hK : va_K D vwCl tys s) (hP : va_P D vwCl ws H) (q0 : Nat) {fs : List Value} (he : ws[q0]? = some (a, .inr (4, fs))) (hlink : (Cond.fieldLink own index "CycleRows$Told" "onlyIn" "[I").before args s = true) {v : Value} (hv : fs[5]? = some v) (hdg : decode cc pc = .ok (.getfield index, 3)) (kk : W p l e R s m args below meth c H locs cells slots Q (F0 m (pc + 3) ls (v :: rest))) : W p l e R s m args below meth c H locs cells slots Q (F0 m pc ls (.ref a :: rest)) := va_get (T := T_T) (N := 10) hexec hb hts lay_T hown hK hP q0 he rfl 5 (by decide) hlink (fun _ h => h) hv hdg kk
theorem vg_T_keyCount (hexec : p.tables.exec = Jvm.exec) (hb : c.code = cc) {own : String} {index : Nat} (hts : ∀ w ∈ og_tb, w.before args s = true) (hown : s.vm.findClass own = some m.cls) (hK : va_K D vwCl tys s) (hP : va_P D vwCl ws H) (q0 : Nat) {fs : List Value} (he : ws[q0]? = some (a, .inr (4, fs))) (hlink : (Cond.fieldLink own index "CycleRows$Told" "keyCount" "I").before args s = true) {v : Value} (hv : fs[6]? = some v) (hdg : decode cc pc = .ok (.getfield index, 3)) (kk : W p l e R s m args below meth c H locs cells slots Q (F0 m (pc + 3) ls (v :: rest))) : W p l e R s m args below meth c H locs cells slots Q (F0 m pc ls (.ref a :: rest)) := va_get (T := T_T) (N := 10) hexec hb hts lay_T hown hK hP q0 he rfl 6 (by decide) hlink (fun _ h => h) hv hdg kk
theorem vs_T_keyCount (hexec : p.tables.exec = Jvm.exec) (hb : c.code = cc) {own : String} {index : Nat} (hts : ∀ w ∈ og_tb, w.before args s = true) (hown : s.vm.findClass own = some m.cls) (hK : va_K D vwCl tys s) (hP : va_P D vwCl ws H) (hD : va_D A ws) (hS : va_S A H0 H locs) (q0 : Nat) {fs : List Value} (he : ws[q0]? = some (a, .inr (4, fs))) (hlink : (Cond.fieldLink own index "CycleRows$Told" "keyCount" "I").before args s = true) {v : Int32} (hl : 6 < fs.length) (hdg : decode cc pc = .ok (.putfield index, 3)) (kk : ∀ (H1 : Heap) (locs1 : List Loc), va_P D vwCl (ws.set q0 (a, .inr (4, fs.set 6 (.int v)))) H1 → va_D A (ws.set q0 (a, .inr (4, fs.set 6 (.int v)))) → va_S A H0 H1 locs1 → W p l e R s m args below meth c H1 locs1 cells slots Q (F0 m (pc + 3) ls rest)) : W p l e R s m args below meth c H locs cells slots Q (F0 m pc ls (.int v :: .ref a :: rest)) := va_put (T := T_T) (N := 10) (ty := .int) hexec hb hts lay_T ty_T tyok_T nm_T hown hK hP hD hS q0 he rfl 6 (by decide) hlink (fun _ h => h) rfl (by decide +kernel) rfl rfl hl hdg kk
theorem vg_T_starts (hexec : p.tables.exec = Jvm.exec) (hb : c.code = cc) {own : String} {index : Nat} (hts : ∀ w ∈ og_tb, w.before args s = true) (hown : s.vm.findClass own = some m.cls) (hK : va_K D vwCl tys s) (hP : va_P D vwCl ws H) (q0 : Nat) {fs : List Value} (he : ws[q0]? = some (a, .inr (4, fs))) (hlink : (Cond.fieldLink own index "CycleRows$Told" "starts" "[I").before args s = true) {v : Value} (hv : fs[7]? = some v) (hdg : decode cc pc = .ok (.getfield index, 3)) (kk : W p l e R s m args below meth c H locs cells slots Q (F0 m (pc + 3) ls (v :: rest))) : W p l e R s m args below meth c H locs cells slots Q (F0 m pc ls (.ref a :: rest)) := va_get (T := T_T) (N := 10) hexec hb hts lay_T hown hK hP q0 he rfl 7 (by decide) hlink (fun _ h => h) hv hdg kk
theorem vg_T_ringKeys (hexec : p.tables.exec = Jvm.exec) (hb : c.code = cc) {own : String} {index : Nat} (hts : ∀ w ∈ og_tb, w.before args s = true) (hown : s.vm.findClass own = some m.cls) (hK : va_K D vwCl tys s) (hP : va_P D vwCl ws H) (q0 : Nat) {fs : List Value} (he : ws[q0]? = some (a, .inr (4, fs))) (hlink : (Cond.fieldLink own index "CycleRows$Told" "ringKeys" "[I").before args s = true) {v : Value} (hv : fs[8]? = some v) (hdg : decode cc pc = .ok (.getfield index, 3)) (kk : W p l e R s m args below meth c H locs cells slots Q (F0 m (pc + 3) ls (v :: rest))) : W p l e R s m args below meth c H locs cells slots Q (F0 m pc ls (.ref a :: rest)) := va_get (T := T_T) (N := 10) hexec hb hts lay_T hown hK hP q0 he rfl 8 (by decide) hlink (fun _ h => h) hv hdg kk
theorem vg_T_ringEdges (hexec : p.tables.exec = Jvm.exec) (hb : c.code = cc) {own : String} {index : Nat} (hts : ∀ w ∈ og_tb, w.before args s = true) (hown : s.vm.findClass own = some m.cls) (hK : va_K D vwCl tys s) (hP : va_P D vwCl ws H) (q0 : Nat) {fs : List Value} (he : ws[q0]? = some (a, .inr (4, fs))) (hlink : (Cond.fieldLink own index "CycleRows$Told" "ringEdges" "[I").before args s = true) {v : Value} (hv : fs[9]? = some v) (hdg : decode cc pc = .ok (.getfield index, 3)) (kk : W p l e R s m args below meth c H locs cells slots Q (F0 m (pc + 3) ls (v :: rest))) : W p l e R s m args below meth c H locs cells slots Q (F0 m pc ls (.ref a :: rest)) := va_get (T := T_T) (N := 10) hexec hb hts lay_T hown hK hP q0 he rfl 9 (by decide) hlink (fun _ h => h) hv hdg kk
theorem vg_A_metCount (hexec : p.tables.exec = Jvm.exec) (hb : c.code = cc) {own : String} {index : Nat} (hts : ∀ w ∈ og_tb, w.before args s = true) (hown : s.vm.findClass own = some m.cls) (hK : va_K D vwCl tys s) (hP : va_P D vwCl ws H) (q0 : Nat) {fs : List Value} (he : ws[q0]? = some (a, .inr (5, fs))) (hlink : (Cond.fieldLink own index "CycleRows$Asking" "metCount" "I").before args s = true) {v : Value} (hv : fs[0]? = some v) (hdg : decode cc pc = .ok (.getfield index, 3)) (kk : W p l e R s m args below meth c H locs cells slots Q (F0 m (pc + 3) ls (v :: rest))) : W p l e R s m args below meth c H locs cells slots Q (F0 m pc ls (.ref a :: rest)) := va_get (T := T_A) (N := 6) hexec hb hts lay_A hown hK hP q0 he rfl 0 (by decide) hlink (fun _ h => h) hv hdg kk
theorem vs_A_metCount (hexec : p.tables.exec = Jvm.exec) (hb : c.code = cc) {own : String} {index : Nat} (hts : ∀ w ∈ og_tb, w.before args s = true) (hown : s.vm.findClass own = some m.cls) (hK : va_K D vwCl tys s) (hP : va_P D vwCl ws H) (hD : va_D A ws) (hS : va_S A H0 H locs) (q0 : Nat) {fs : List Value} (he : ws[q0]? = some (a, .inr (5, fs))) (hlink : (Cond.fieldLink own index "CycleRows$Asking" "metCount" "I").before args s = true) {v : Int32} (hl : 0 < fs.length) (hdg : decode cc pc = .ok (.putfield index, 3)) (kk : ∀ (H1 : Heap) (locs1 : List Loc), va_P D vwCl (ws.set q0 (a, .inr (5, fs.set 0 (.int v)))) H1 → va_D A (ws.set q0 (a, .inr (5, fs.set 0 (.int v)))) → va_S A H0 H1 locs1 → W p l e R s m args below meth c H1 locs1 cells slots Q (F0 m (pc + 3) ls rest)) : W p l e R s m args below meth c H locs cells slots Q (F0 m pc ls (.int v :: .ref a :: rest)) := va_put (T := T_A) (N := 6) (ty := .int) hexec hb hts lay_A ty_A tyok_A nm_A hown hK hP hD hS q0 he rfl 0 (by decide) hlink (fun _ h => h) rfl (by decide +kernel) rfl rfl hl hdg kk
theorem vg_A_metKeys (hexec : p.tables.exec = Jvm.exec) (hb : c.code = cc) {own : String} {index : Nat} (hts : ∀ w ∈ og_tb, w.before args s = true) (hown : s.vm.findClass own = some m.cls) (hK : va_K D vwCl tys s) (hP : va_P D vwCl ws H) (q0 : Nat) {fs : List Value} (he : ws[q0]? = some (a, .inr (5, fs))) (hlink : (Cond.fieldLink own index "CycleRows$Asking" "metKeys" "[I").before args s = true) {v : Value} (hv : fs[1]? = some v) (hdg : decode cc pc = .ok (.getfield index, 3)) (kk : W p l e R s m args below meth c H locs cells slots Q (F0 m (pc + 3) ls (v :: rest))) : W p l e R s m args below meth c H locs cells slots Q (F0 m pc ls (.ref a :: rest)) := va_get (T := T_A) (N := 6) hexec hb hts lay_A hown hK hP q0 he rfl 1 (by decide) hlink (fun _ h => h) hv hdg kk
theorem vg_A_openCount (hexec : p.tables.exec = Jvm.exec) (hb : c.code = cc) {own : String} {index : Nat} (hts : ∀ w ∈ og_tb, w.before args s = true) (hown : s.vm.findClass own = some m.cls) (hK : va_K D vwCl tys s) (hP : va_P D vwCl ws H) (q0 : Nat) {fs : List Value} (he : ws[q0]? = some (a, .inr (5, fs))) (hlink : (Cond.fieldLink own index "CycleRows$Asking" "openCount" "I").before args s = true) {v : Value} (hv : fs[2]? = some v) (hdg : decode cc pc = .ok (.getfield index, 3)) (kk : W p l e R s m args below meth c H locs cells slots Q (F0 m (pc + 3) ls (v :: rest))) : W p l e R s m args below meth c H locs cells slots Q (F0 m pc ls (.ref a :: rest)) := va_get (T := T_A) (N := 6) hexec hb hts lay_A hown hK hP q0 he rfl 2 (by decide) hlink (fun _ h => h) hv hdg kk
theorem vs_A_openCount (hexec : p.tables.exec = Jvm.exec) (hb : c.code = cc) {own : String} {index : Nat} (hts : ∀ w ∈ og_tb, w.before args s = true) (hown : s.vm.findClass own = some m.cls) (hK : va_K D vwCl tys s) (hP : va_P D vwCl ws H) (hD : va_D A ws) (hS : va_S A H0 H locs) (q0 : Nat) {fs : List Value} (he : ws[q0]? = some (a, .inr (5, fs))) (hlink : (Cond.fieldLink own index "CycleRows$Asking" "openCount" "I").before args s = true) {v : Int32} (hl : 2 < fs.length) (hdg : decode cc pc = .ok (.putfield index, 3)) (kk : ∀ (H1 : Heap) (locs1 : List Loc), va_P D vwCl (ws.set q0 (a, .inr (5, fs.set 2 (.int v)))) H1 → va_D A (ws.set q0 (a, .inr (5, fs.set 2 (.int v)))) → va_S A H0 H1 locs1 → W p l e R s m args below meth c H1 locs1 cells slots Q (F0 m (pc + 3) ls rest)) : W p l e R s m args below meth c H locs cells slots Q (F0 m pc ls (.int v :: .ref a :: rest)) := va_put (T := T_A) (N := 6) (ty := .int) hexec hb hts lay_A ty_A tyok_A nm_A hown hK hP hD hS q0 he rfl 2 (by decide) hlink (fun _ h => h) rfl (by decide +kernel) rfl rfl hl hdg kk
theorem vg_A_open (hexec : p.tables.exec = Jvm.exec) (hb : c.code = cc) {own : String} {index : Nat} (hts : ∀ w ∈ og_tb, w.before args s = true) (hown : s.vm.findClass own = some m.cls) (hK : va_K D vwCl tys s) (hP : va_P D vwCl ws H) (q0 : Nat) {fs : List Value} (he : ws[q0]? = some (a, .inr (5, fs))) (hlink : (Cond.fieldLink own index "CycleRows$Asking" "open" "[I").before args s = true) {v : Value} (hv : fs[3]? = some v) (hdg : decode cc pc = .ok (.getfield index, 3)) (kk : W p l e R s m args below meth c H locs cells slots Q (F0 m (pc + 3) ls (v :: rest))) : W p l e R s m args below meth c H locs cells slots Q (F0 m pc ls (.ref a :: rest)) := va_get (T := T_A) (N := 6) hexec hb hts lay_A hown hK hP q0 he rfl 3 (by decide) hlink (fun _ h => h) hv hdg kk
theorem vg_A_nextEdge (hexec : p.tables.exec = Jvm.exec) (hb : c.code = cc) {own : String} {index : Nat} (hts : ∀ w ∈ og_tb, w.before args s = true) (hown : s.vm.findClass own = some m.cls) (hK : va_K D vwCl tys s) (hP : va_P D vwCl ws H) (q0 : Nat) {fs : List Value} (he : ws[q0]? = some (a, .inr (5, fs))) (hlink : (Cond.fieldLink own index "CycleRows$Asking" "nextEdge" "[I").before args s = true) {v : Value} (hv : fs[4]? = some v) (hdg : decode cc pc = .ok (.getfield index, 3)) (kk : W p l e R s m args below meth c H locs cells slots Q (F0 m (pc + 3) ls (v :: rest))) : W p l e R s m args below meth c H locs cells slots Q (F0 m pc ls (.ref a :: rest)) := va_get (T := T_A) (N := 6) hexec hb hts lay_A hown hK hP q0 he rfl 4 (by decide) hlink (fun _ h => h) hv hdg kk
theorem vg_A_wasAsked (hexec : p.tables.exec = Jvm.exec) (hb : c.code = cc) {own : String} {index : Nat} (hts : ∀ w ∈ og_tb, w.before args s = true) (hown : s.vm.findClass own = some m.cls) (hK : va_K D vwCl tys s) (hP : va_P D vwCl ws H) (q0 : Nat) {fs : List Value} (he : ws[q0]? = some (a, .inr (5, fs))) (hlink : (Cond.fieldLink own index "CycleRows$Asking" "wasAsked" "[Z").before args s = true) {v : Value} (hv : fs[5]? = some v) (hdg : decode cc pc = .ok (.getfield index, 3)) (kk : W p l e R s m args below meth c H locs cells slots Q (F0 m (pc + 3) ls (v :: rest))) : W p l e R s m args below meth c H locs cells slots Q (F0 m pc ls (.ref a :: rest)) := va_get (T := T_A) (N := 6) hexec hb hts lay_A hown hK hP q0 he rfl 5 (by decide) hlink (fun _ h => h) hv hdg kk
theorem vg_M_code (hexec : p.tables.exec = Jvm.exec) (hb : c.code = cc) {own : String} {index : Nat} (hts : ∀ w ∈ og_tb, w.before args s = true) (hown : s.vm.findClass own = some m.cls) (hK : va_K D vwCl tys s) (hP : va_P D vwCl ws H) (q0 : Nat) {fs : List Value} (he : ws[q0]? = some (a, .inr (6, fs))) (hlink : (Cond.fieldLink own index "CycleRowsModel" "code" "I").before args s = true) {v : Value} (hv : fs[0]? = some v) (hdg : decode cc pc = .ok (.getfield index, 3)) (kk : W p l e R s m args below meth c H locs cells slots Q (F0 m (pc + 3) ls (v :: rest))) : W p l e R s m args below meth c H locs cells slots Q (F0 m pc ls (.ref a :: rest)) := va_get (T := T_M) (N := 29) hexec hb hts lay_M hown hK hP q0 he rfl 0 (by decide) hlink (fun _ h => h) hv hdg kk
theorem vs_M_code (hexec : p.tables.exec = Jvm.exec) (hb : c.code = cc) {own : String} {index : Nat} (hts : ∀ w ∈ og_tb, w.before args s = true) (hown : s.vm.findClass own = some m.cls) (hK : va_K D vwCl tys s) (hP : va_P D vwCl ws H) (hD : va_D A ws) (hS : va_S A H0 H locs) (q0 : Nat) {fs : List Value} (he : ws[q0]? = some (a, .inr (6, fs))) (hlink : (Cond.fieldLink own index "CycleRowsModel" "code" "I").before args s = true) {v : Int32} (hl : 0 < fs.length) (hdg : decode cc pc = .ok (.putfield index, 3)) (kk : ∀ (H1 : Heap) (locs1 : List Loc), va_P D vwCl (ws.set q0 (a, .inr (6, fs.set 0 (.int v)))) H1 → va_D A (ws.set q0 (a, .inr (6, fs.set 0 (.int v)))) → va_S A H0 H1 locs1 → W p l e R s m args below meth c H1 locs1 cells slots Q (F0 m (pc + 3) ls rest)) : W p l e R s m args below meth c H locs cells slots Q (F0 m pc ls (.int v :: .ref a :: rest)) := va_put (T := T_M) (N := 29) (ty := .int) hexec hb hts lay_M ty_M tyok_M nm_M hown hK hP hD hS q0 he rfl 0 (by decide) hlink (fun _ h => h) rfl (by decide +kernel) rfl rfl hl hdg kk
theorem vg_M_keys (hexec : p.tables.exec = Jvm.exec) (hb : c.code = cc) {own : String} {index : Nat} (hts : ∀ w ∈ og_tb, w.before args s = true) (hown : s.vm.findClass own = some m.cls) (hK : va_K D vwCl tys s) (hP : va_P D vwCl ws H) (q0 : Nat) {fs : List Value} (he : ws[q0]? = some (a, .inr (6, fs))) (hlink : (Cond.fieldLink own index "CycleRowsModel" "keys" "I").before args s = true) {v : Value} (hv : fs[1]? = some v) (hdg : decode cc pc = .ok (.getfield index, 3)) (kk : W p l e R s m args below meth c H locs cells slots Q (F0 m (pc + 3) ls (v :: rest))) : W p l e R s m args below meth c H locs cells slots Q (F0 m pc ls (.ref a :: rest)) := va_get (T := T_M) (N := 29) hexec hb hts lay_M hown hK hP q0 he rfl 1 (by decide) hlink (fun _ h => h) hv hdg kk
theorem vs_M_keys (hexec : p.tables.exec = Jvm.exec) (hb : c.code = cc) {own : String} {index : Nat} (hts : ∀ w ∈ og_tb, w.before args s = true) (hown : s.vm.findClass own = some m.cls) (hK : va_K D vwCl tys s) (hP : va_P D vwCl ws H) (hD : va_D A ws) (hS : va_S A H0 H locs) (q0 : Nat) {fs : List Value} (he : ws[q0]? = some (a, .inr (6, fs))) (hlink : (Cond.fieldLink own index "CycleRowsModel" "keys" "I").before args s = true) {v : Int32} (hl : 1 < fs.length) (hdg : decode cc pc = .ok (.putfield index, 3)) (kk : ∀ (H1 : Heap) (locs1 : List Loc), va_P D vwCl (ws.set q0 (a, .inr (6, fs.set 1 (.int v)))) H1 → va_D A (ws.set q0 (a, .inr (6, fs.set 1 (.int v)))) → va_S A H0 H1 locs1 → W p l e R s m args below meth c H1 locs1 cells slots Q (F0 m (pc + 3) ls rest)) : W p l e R s m args below meth c H locs cells slots Q (F0 m pc ls (.int v :: .ref a :: rest)) := va_put (T := T_M) (N := 29) (ty := .int) hexec hb hts lay_M ty_M tyok_M nm_M hown hK hP hD hS q0 he rfl 1 (by decide) hlink (fun _ h => h) rfl (by decide +kernel) rfl rfl hl hdg kk
theorem vg_M_edges (hexec : p.tables.exec = Jvm.exec) (hb : c.code = cc) {own : String} {index : Nat} (hts : ∀ w ∈ og_tb, w.before args s = true) (hown : s.vm.findClass own = some m.cls) (hK : va_K D vwCl tys s) (hP : va_P D vwCl ws H) (q0 : Nat) {fs : List Value} (he : ws[q0]? = some (a, .inr (6, fs))) (hlink : (Cond.fieldLink own index "CycleRowsModel" "edges" "I").before args s = true) {v : Value} (hv : fs[2]? = some v) (hdg : decode cc pc = .ok (.getfield index, 3)) (kk : W p l e R s m args below meth c H locs cells slots Q (F0 m (pc + 3) ls (v :: rest))) : W p l e R s m args below meth c H locs cells slots Q (F0 m pc ls (.ref a :: rest)) := va_get (T := T_M) (N := 29) hexec hb hts lay_M hown hK hP q0 he rfl 2 (by decide) hlink (fun _ h => h) hv hdg kk
theorem vs_M_edges (hexec : p.tables.exec = Jvm.exec) (hb : c.code = cc) {own : String} {index : Nat} (hts : ∀ w ∈ og_tb, w.before args s = true) (hown : s.vm.findClass own = some m.cls) (hK : va_K D vwCl tys s) (hP : va_P D vwCl ws H) (hD : va_D A ws) (hS : va_S A H0 H locs) (q0 : Nat) {fs : List Value} (he : ws[q0]? = some (a, .inr (6, fs))) (hlink : (Cond.fieldLink own index "CycleRowsModel" "edges" "I").before args s = true) {v : Int32} (hl : 2 < fs.length) (hdg : decode cc pc = .ok (.putfield index, 3)) (kk : ∀ (H1 : Heap) (locs1 : List Loc), va_P D vwCl (ws.set q0 (a, .inr (6, fs.set 2 (.int v)))) H1 → va_D A (ws.set q0 (a, .inr (6, fs.set 2 (.int v)))) → va_S A H0 H1 locs1 → W p l e R s m args below meth c H1 locs1 cells slots Q (F0 m (pc + 3) ls rest)) : W p l e R s m args below meth c H locs cells slots Q (F0 m pc ls (.int v :: .ref a :: rest)) := va_put (T := T_M) (N := 29) (ty := .int) hexec hb hts lay_M ty_M tyok_M nm_M hown hK hP hD hS q0 he rfl 2 (by decide) hlink (fun _ h => h) rfl (by decide +kernel) rfl rfl hl hdg kk
theorem vg_M_name (hexec : p.tables.exec = Jvm.exec) (hb : c.code = cc) {own : String} {index : Nat} (hts : ∀ w ∈ og_tb, w.before args s = true) (hown : s.vm.findClass own = some m.cls) (hK : va_K D vwCl tys s) (hP : va_P D vwCl ws H) (q0 : Nat) {fs : List Value} (he : ws[q0]? = some (a, .inr (6, fs))) (hlink : (Cond.fieldLink own index "CycleRowsModel" "name" "[I").before args s = true) {v : Value} (hv : fs[3]? = some v) (hdg : decode cc pc = .ok (.getfield index, 3)) (kk : W p l e R s m args below meth c H locs cells slots Q (F0 m (pc + 3) ls (v :: rest))) : W p l e R s m args below meth c H locs cells slots Q (F0 m pc ls (.ref a :: rest)) := va_get (T := T_M) (N := 29) hexec hb hts lay_M hown hK hP q0 he rfl 3 (by decide) hlink (fun _ h => h) hv hdg kk
theorem vg_M_from (hexec : p.tables.exec = Jvm.exec) (hb : c.code = cc) {own : String} {index : Nat} (hts : ∀ w ∈ og_tb, w.before args s = true) (hown : s.vm.findClass own = some m.cls) (hK : va_K D vwCl tys s) (hP : va_P D vwCl ws H) (q0 : Nat) {fs : List Value} (he : ws[q0]? = some (a, .inr (6, fs))) (hlink : (Cond.fieldLink own index "CycleRowsModel" "from" "[I").before args s = true) {v : Value} (hv : fs[4]? = some v) (hdg : decode cc pc = .ok (.getfield index, 3)) (kk : W p l e R s m args below meth c H locs cells slots Q (F0 m (pc + 3) ls (v :: rest))) : W p l e R s m args below meth c H locs cells slots Q (F0 m pc ls (.ref a :: rest)) := va_get (T := T_M) (N := 29) hexec hb hts lay_M hown hK hP q0 he rfl 4 (by decide) hlink (fun _ h => h) hv hdg kk
theorem vg_M_to (hexec : p.tables.exec = Jvm.exec) (hb : c.code = cc) {own : String} {index : Nat} (hts : ∀ w ∈ og_tb, w.before args s = true) (hown : s.vm.findClass own = some m.cls) (hK : va_K D vwCl tys s) (hP : va_P D vwCl ws H) (q0 : Nat) {fs : List Value} (he : ws[q0]? = some (a, .inr (6, fs))) (hlink : (Cond.fieldLink own index "CycleRowsModel" "to" "[I").before args s = true) {v : Value} (hv : fs[5]? = some v) (hdg : decode cc pc = .ok (.getfield index, 3)) (kk : W p l e R s m args below meth c H locs cells slots Q (F0 m (pc + 3) ls (v :: rest))) : W p l e R s m args below meth c H locs cells slots Q (F0 m pc ls (.ref a :: rest)) := va_get (T := T_M) (N := 29) hexec hb hts lay_M hown hK hP q0 he rfl 5 (by decide) hlink (fun _ h => h) hv hdg kk
theorem vg_M_place (hexec : p.tables.exec = Jvm.exec) (hb : c.code = cc) {own : String} {index : Nat} (hts : ∀ w ∈ og_tb, w.before args s = true) (hown : s.vm.findClass own = some m.cls) (hK : va_K D vwCl tys s) (hP : va_P D vwCl ws H) (q0 : Nat) {fs : List Value} (he : ws[q0]? = some (a, .inr (6, fs))) (hlink : (Cond.fieldLink own index "CycleRowsModel" "place" "[I").before args s = true) {v : Value} (hv : fs[6]? = some v) (hdg : decode cc pc = .ok (.getfield index, 3)) (kk : W p l e R s m args below meth c H locs cells slots Q (F0 m (pc + 3) ls (v :: rest))) : W p l e R s m args below meth c H locs cells slots Q (F0 m pc ls (.ref a :: rest)) := va_get (T := T_M) (N := 29) hexec hb hts lay_M hown hK hP q0 he rfl 6 (by decide) hlink (fun _ h => h) hv hdg kk
theorem vg_M_bits (hexec : p.tables.exec = Jvm.exec) (hb : c.code = cc) {own : String} {index : Nat} (hts : ∀ w ∈ og_tb, w.before args s = true) (hown : s.vm.findClass own = some m.cls) (hK : va_K D vwCl tys s) (hP : va_P D vwCl ws H) (q0 : Nat) {fs : List Value} (he : ws[q0]? = some (a, .inr (6, fs))) (hlink : (Cond.fieldLink own index "CycleRowsModel" "bits" "[I").before args s = true) {v : Value} (hv : fs[7]? = some v) (hdg : decode cc pc = .ok (.getfield index, 3)) (kk : W p l e R s m args below meth c H locs cells slots Q (F0 m (pc + 3) ls (v :: rest))) : W p l e R s m args below meth c H locs cells slots Q (F0 m pc ls (.ref a :: rest)) := va_get (T := T_M) (N := 29) hexec hb hts lay_M hown hK hP q0 he rfl 7 (by decide) hlink (fun _ h => h) hv hdg kk
theorem vg_M_gone (hexec : p.tables.exec = Jvm.exec) (hb : c.code = cc) {own : String} {index : Nat} (hts : ∀ w ∈ og_tb, w.before args s = true) (hown : s.vm.findClass own = some m.cls) (hK : va_K D vwCl tys s) (hP : va_P D vwCl ws H) (q0 : Nat) {fs : List Value} (he : ws[q0]? = some (a, .inr (6, fs))) (hlink : (Cond.fieldLink own index "CycleRowsModel" "gone" "[Z").before args s = true) {v : Value} (hv : fs[8]? = some v) (hdg : decode cc pc = .ok (.getfield index, 3)) (kk : W p l e R s m args below meth c H locs cells slots Q (F0 m (pc + 3) ls (v :: rest))) : W p l e R s m args below meth c H locs cells slots Q (F0 m pc ls (.ref a :: rest)) := va_get (T := T_M) (N := 29) hexec hb hts lay_M hown hK hP q0 he rfl 8 (by decide) hlink (fun _ h => h) hv hdg kk
theorem vg_M_thenKeys (hexec : p.tables.exec = Jvm.exec) (hb : c.code = cc) {own : String} {index : Nat} (hts : ∀ w ∈ og_tb, w.before args s = true) (hown : s.vm.findClass own = some m.cls) (hK : va_K D vwCl tys s) (hP : va_P D vwCl ws H) (q0 : Nat) {fs : List Value} (he : ws[q0]? = some (a, .inr (6, fs))) (hlink : (Cond.fieldLink own index "CycleRowsModel" "thenKeys" "I").before args s = true) {v : Value} (hv : fs[9]? = some v) (hdg : decode cc pc = .ok (.getfield index, 3)) (kk : W p l e R s m args below meth c H locs cells slots Q (F0 m (pc + 3) ls (v :: rest))) : W p l e R s m args below meth c H locs cells slots Q (F0 m pc ls (.ref a :: rest)) := va_get (T := T_M) (N := 29) hexec hb hts lay_M hown hK hP q0 he rfl 9 (by decide) hlink (fun _ h => h) hv hdg kk
theorem vs_M_thenKeys (hexec : p.tables.exec = Jvm.exec) (hb : c.code = cc) {own : String} {index : Nat} (hts : ∀ w ∈ og_tb, w.before args s = true) (hown : s.vm.findClass own = some m.cls) (hK : va_K D vwCl tys s) (hP : va_P D vwCl ws H) (hD : va_D A ws) (hS : va_S A H0 H locs) (q0 : Nat) {fs : List Value} (he : ws[q0]? = some (a, .inr (6, fs))) (hlink : (Cond.fieldLink own index "CycleRowsModel" "thenKeys" "I").before args s = true) {v : Int32} (hl : 9 < fs.length) (hdg : decode cc pc = .ok (.putfield index, 3)) (kk : ∀ (H1 : Heap) (locs1 : List Loc), va_P D vwCl (ws.set q0 (a, .inr (6, fs.set 9 (.int v)))) H1 → va_D A (ws.set q0 (a, .inr (6, fs.set 9 (.int v)))) → va_S A H0 H1 locs1 → W p l e R s m args below meth c H1 locs1 cells slots Q (F0 m (pc + 3) ls rest)) : W p l e R s m args below meth c H locs cells slots Q (F0 m pc ls (.int v :: .ref a :: rest)) := va_put (T := T_M) (N := 29) (ty := .int) hexec hb hts lay_M ty_M tyok_M nm_M hown hK hP hD hS q0 he rfl 9 (by decide) hlink (fun _ h => h) rfl (by decide +kernel) rfl rfl hl hdg kk
theorem vg_M_thenEdges (hexec : p.tables.exec = Jvm.exec) (hb : c.code = cc) {own : String} {index : Nat} (hts : ∀ w ∈ og_tb, w.before args s = true) (hown : s.vm.findClass own = some m.cls) (hK : va_K D vwCl tys s) (hP : va_P D vwCl ws H) (q0 : Nat) {fs : List Value} (he : ws[q0]? = some (a, .inr (6, fs))) (hlink : (Cond.fieldLink own index "CycleRowsModel" "thenEdges" "I").before args s = true) {v : Value} (hv : fs[10]? = some v) (hdg : decode cc pc = .ok (.getfield index, 3)) (kk : W p l e R s m args below meth c H locs cells slots Q (F0 m (pc + 3) ls (v :: rest))) : W p l e R s m args below meth c H locs cells slots Q (F0 m pc ls (.ref a :: rest)) := va_get (T := T_M) (N := 29) hexec hb hts lay_M hown hK hP q0 he rfl 10 (by decide) hlink (fun _ h => h) hv hdg kk
theorem vs_M_thenEdges (hexec : p.tables.exec = Jvm.exec) (hb : c.code = cc) {own : String} {index : Nat} (hts : ∀ w ∈ og_tb, w.before args s = true) (hown : s.vm.findClass own = some m.cls) (hK : va_K D vwCl tys s) (hP : va_P D vwCl ws H) (hD : va_D A ws) (hS : va_S A H0 H locs) (q0 : Nat) {fs : List Value} (he : ws[q0]? = some (a, .inr (6, fs))) (hlink : (Cond.fieldLink own index "CycleRowsModel" "thenEdges" "I").before args s = true) {v : Int32} (hl : 10 < fs.length) (hdg : decode cc pc = .ok (.putfield index, 3)) (kk : ∀ (H1 : Heap) (locs1 : List Loc), va_P D vwCl (ws.set q0 (a, .inr (6, fs.set 10 (.int v)))) H1 → va_D A (ws.set q0 (a, .inr (6, fs.set 10 (.int v)))) → va_S A H0 H1 locs1 → W p l e R s m args below meth c H1 locs1 cells slots Q (F0 m (pc + 3) ls rest)) : W p l e R s m args below meth c H locs cells slots Q (F0 m pc ls (.int v :: .ref a :: rest)) := va_put (T := T_M) (N := 29) (ty := .int) hexec hb hts lay_M ty_M tyok_M nm_M hown hK hP hD hS q0 he rfl 10 (by decide) hlink (fun _ h => h) rfl (by decide +kernel) rfl rfl hl hdg kk
theorem vg_M_configuration (hexec : p.tables.exec = Jvm.exec) (hb : c.code = cc) {own : String} {index : Nat} (hts : ∀ w ∈ og_tb, w.before args s = true) (hown : s.vm.findClass own = some m.cls) (hK : va_K D vwCl tys s) (hP : va_P D vwCl ws H) (q0 : Nat) {fs : List Value} (he : ws[q0]? = some (a, .inr (6, fs))) (hlink : (Cond.fieldLink own index "CycleRowsModel" "configuration" "I").before args s = true) {v : Value} (hv : fs[11]? = some v) (hdg : decode cc pc = .ok (.getfield index, 3)) (kk : W p l e R s m args below meth c H locs cells slots Q (F0 m (pc + 3) ls (v :: rest))) : W p l e R s m args below meth c H locs cells slots Q (F0 m pc ls (.ref a :: rest)) := va_get (T := T_M) (N := 29) hexec hb hts lay_M hown hK hP q0 he rfl 11 (by decide) hlink (fun _ h => h) hv hdg kk
theorem vs_M_configuration (hexec : p.tables.exec = Jvm.exec) (hb : c.code = cc) {own : String} {index : Nat} (hts : ∀ w ∈ og_tb, w.before args s = true) (hown : s.vm.findClass own = some m.cls) (hK : va_K D vwCl tys s) (hP : va_P D vwCl ws H) (hD : va_D A ws) (hS : va_S A H0 H locs) (q0 : Nat) {fs : List Value} (he : ws[q0]? = some (a, .inr (6, fs))) (hlink : (Cond.fieldLink own index "CycleRowsModel" "configuration" "I").before args s = true) {v : Int32} (hl : 11 < fs.length) (hdg : decode cc pc = .ok (.putfield index, 3)) (kk : ∀ (H1 : Heap) (locs1 : List Loc), va_P D vwCl (ws.set q0 (a, .inr (6, fs.set 11 (.int v)))) H1 → va_D A (ws.set q0 (a, .inr (6, fs.set 11 (.int v)))) → va_S A H0 H1 locs1 → W p l e R s m args below meth c H1 locs1 cells slots Q (F0 m (pc + 3) ls rest)) : W p l e R s m args below meth c H locs cells slots Q (F0 m pc ls (.int v :: .ref a :: rest)) := va_put (T := T_M) (N := 29) (ty := .int) hexec hb hts lay_M ty_M tyok_M nm_M hown hK hP hD hS q0 he rfl 11 (by decide) hlink (fun _ h => h) rfl (by decide +kernel) rfl rfl hl hdg kk
theorem vg_M_thenGone (hexec : p.tables.exec = Jvm.exec) (hb : c.code = cc) {own : String} {index : Nat} (hts : ∀ w ∈ og_tb, w.before args s = true) (hown : s.vm.findClass own = some m.cls) (hK : va_K D vwCl tys s) (hP : va_P D vwCl ws H) (q0 : Nat) {fs : List Value} (he : ws[q0]? = some (a, .inr (6, fs))) (hlink : (Cond.fieldLink own index "CycleRowsModel" "thenGone" "[Z").before args s = true) {v : Value} (hv : fs[12]? = some v) (hdg : decode cc pc = .ok (.getfield index, 3)) (kk : W p l e R s m args below meth c H locs cells slots Q (F0 m (pc + 3) ls (v :: rest))) : W p l e R s m args below meth c H locs cells slots Q (F0 m pc ls (.ref a :: rest)) := va_get (T := T_M) (N := 29) hexec hb hts lay_M hown hK hP q0 he rfl 12 (by decide) hlink (fun _ h => h) hv hdg kk
theorem vg_M_order (hexec : p.tables.exec = Jvm.exec) (hb : c.code = cc) {own : String} {index : Nat} (hts : ∀ w ∈ og_tb, w.before args s = true) (hown : s.vm.findClass own = some m.cls) (hK : va_K D vwCl tys s) (hP : va_P D vwCl ws H) (q0 : Nat) {fs : List Value} (he : ws[q0]? = some (a, .inr (6, fs))) (hlink : (Cond.fieldLink own index "CycleRowsModel" "order" "[I").before args s = true) {v : Value} (hv : fs[13]? = some v) (hdg : decode cc pc = .ok (.getfield index, 3)) (kk : W p l e R s m args below meth c H locs cells slots Q (F0 m (pc + 3) ls (v :: rest))) : W p l e R s m args below meth c H locs cells slots Q (F0 m pc ls (.ref a :: rest)) := va_get (T := T_M) (N := 29) hexec hb hts lay_M hown hK hP q0 he rfl 13 (by decide) hlink (fun _ h => h) hv hdg kk
theorem vg_M_rank (hexec : p.tables.exec = Jvm.exec) (hb : c.code = cc) {own : String} {index : Nat} (hts : ∀ w ∈ og_tb, w.before args s = true) (hown : s.vm.findClass own = some m.cls) (hK : va_K D vwCl tys s) (hP : va_P D vwCl ws H) (q0 : Nat) {fs : List Value} (he : ws[q0]? = some (a, .inr (6, fs))) (hlink : (Cond.fieldLink own index "CycleRowsModel" "rank" "[I").before args s = true) {v : Value} (hv : fs[14]? = some v) (hdg : decode cc pc = .ok (.getfield index, 3)) (kk : W p l e R s m args below meth c H locs cells slots Q (F0 m (pc + 3) ls (v :: rest))) : W p l e R s m args below meth c H locs cells slots Q (F0 m pc ls (.ref a :: rest)) := va_get (T := T_M) (N := 29) hexec hb hts lay_M hown hK hP q0 he rfl 14 (by decide) hlink (fun _ h => h) hv hdg kk
theorem vg_M_part (hexec : p.tables.exec = Jvm.exec) (hb : c.code = cc) {own : String} {index : Nat} (hts : ∀ w ∈ og_tb, w.before args s = true) (hown : s.vm.findClass own = some m.cls) (hK : va_K D vwCl tys s) (hP : va_P D vwCl ws H) (q0 : Nat) {fs : List Value} (he : ws[q0]? = some (a, .inr (6, fs))) (hlink : (Cond.fieldLink own index "CycleRowsModel" "part" "[I").before args s = true) {v : Value} (hv : fs[15]? = some v) (hdg : decode cc pc = .ok (.getfield index, 3)) (kk : W p l e R s m args below meth c H locs cells slots Q (F0 m (pc + 3) ls (v :: rest))) : W p l e R s m args below meth c H locs cells slots Q (F0 m pc ls (.ref a :: rest)) := va_get (T := T_M) (N := 29) hexec hb hts lay_M hown hK hP q0 he rfl 15 (by decide) hlink (fun _ h => h) hv hdg kk
theorem vg_M_shortest (hexec : p.tables.exec = Jvm.exec) (hb : c.code = cc) {own : String} {index : Nat} (hts : ∀ w ∈ og_tb, w.before args s = true) (hown : s.vm.findClass own = some m.cls) (hK : va_K D vwCl tys s) (hP : va_P D vwCl ws H) (q0 : Nat) {fs : List Value} (he : ws[q0]? = some (a, .inr (6, fs))) (hlink : (Cond.fieldLink own index "CycleRowsModel" "shortest" "[I").before args s = true) {v : Value} (hv : fs[16]? = some v) (hdg : decode cc pc = .ok (.getfield index, 3)) (kk : W p l e R s m args below meth c H locs cells slots Q (F0 m (pc + 3) ls (v :: rest))) : W p l e R s m args below meth c H locs cells slots Q (F0 m pc ls (.ref a :: rest)) := va_get (T := T_M) (N := 29) hexec hb hts lay_M hown hK hP q0 he rfl 16 (by decide) hlink (fun _ h => h) hv hdg kk
theorem vg_M_asks (hexec : p.tables.exec = Jvm.exec) (hb : c.code = cc) {own : String} {index : Nat} (hts : ∀ w ∈ og_tb, w.before args s = true) (hown : s.vm.findClass own = some m.cls) (hK : va_K D vwCl tys s) (hP : va_P D vwCl ws H) (q0 : Nat) {fs : List Value} (he : ws[q0]? = some (a, .inr (6, fs))) (hlink : (Cond.fieldLink own index "CycleRowsModel" "asks" "[Z").before args s = true) {v : Value} (hv : fs[17]? = some v) (hdg : decode cc pc = .ok (.getfield index, 3)) (kk : W p l e R s m args below meth c H locs cells slots Q (F0 m (pc + 3) ls (v :: rest))) : W p l e R s m args below meth c H locs cells slots Q (F0 m pc ls (.ref a :: rest)) := va_get (T := T_M) (N := 29) hexec hb hts lay_M hown hK hP q0 he rfl 17 (by decide) hlink (fun _ h => h) hv hdg kk
theorem vg_M_reaches (hexec : p.tables.exec = Jvm.exec) (hb : c.code = cc) {own : String} {index : Nat} (hts : ∀ w ∈ og_tb, w.before args s = true) (hown : s.vm.findClass own = some m.cls) (hK : va_K D vwCl tys s) (hP : va_P D vwCl ws H) (q0 : Nat) {fs : List Value} (he : ws[q0]? = some (a, .inr (6, fs))) (hlink : (Cond.fieldLink own index "CycleRowsModel" "reaches" "[Z").before args s = true) {v : Value} (hv : fs[18]? = some v) (hdg : decode cc pc = .ok (.getfield index, 3)) (kk : W p l e R s m args below meth c H locs cells slots Q (F0 m (pc + 3) ls (v :: rest))) : W p l e R s m args below meth c H locs cells slots Q (F0 m pc ls (.ref a :: rest)) := va_get (T := T_M) (N := 29) hexec hb hts lay_M hown hK hP q0 he rfl 18 (by decide) hlink (fun _ h => h) hv hdg kk
theorem vg_M_steps (hexec : p.tables.exec = Jvm.exec) (hb : c.code = cc) {own : String} {index : Nat} (hts : ∀ w ∈ og_tb, w.before args s = true) (hown : s.vm.findClass own = some m.cls) (hK : va_K D vwCl tys s) (hP : va_P D vwCl ws H) (q0 : Nat) {fs : List Value} (he : ws[q0]? = some (a, .inr (6, fs))) (hlink : (Cond.fieldLink own index "CycleRowsModel" "steps" "[I").before args s = true) {v : Value} (hv : fs[19]? = some v) (hdg : decode cc pc = .ok (.getfield index, 3)) (kk : W p l e R s m args below meth c H locs cells slots Q (F0 m (pc + 3) ls (v :: rest))) : W p l e R s m args below meth c H locs cells slots Q (F0 m pc ls (.ref a :: rest)) := va_get (T := T_M) (N := 29) hexec hb hts lay_M hown hK hP q0 he rfl 19 (by decide) hlink (fun _ h => h) hv hdg kk
theorem vg_M_parts (hexec : p.tables.exec = Jvm.exec) (hb : c.code = cc) {own : String} {index : Nat} (hts : ∀ w ∈ og_tb, w.before args s = true) (hown : s.vm.findClass own = some m.cls) (hK : va_K D vwCl tys s) (hP : va_P D vwCl ws H) (q0 : Nat) {fs : List Value} (he : ws[q0]? = some (a, .inr (6, fs))) (hlink : (Cond.fieldLink own index "CycleRowsModel" "parts" "I").before args s = true) {v : Value} (hv : fs[20]? = some v) (hdg : decode cc pc = .ok (.getfield index, 3)) (kk : W p l e R s m args below meth c H locs cells slots Q (F0 m (pc + 3) ls (v :: rest))) : W p l e R s m args below meth c H locs cells slots Q (F0 m pc ls (.ref a :: rest)) := va_get (T := T_M) (N := 29) hexec hb hts lay_M hown hK hP q0 he rfl 20 (by decide) hlink (fun _ h => h) hv hdg kk
theorem vs_M_parts (hexec : p.tables.exec = Jvm.exec) (hb : c.code = cc) {own : String} {index : Nat} (hts : ∀ w ∈ og_tb, w.before args s = true) (hown : s.vm.findClass own = some m.cls) (hK : va_K D vwCl tys s) (hP : va_P D vwCl ws H) (hD : va_D A ws) (hS : va_S A H0 H locs) (q0 : Nat) {fs : List Value} (he : ws[q0]? = some (a, .inr (6, fs))) (hlink : (Cond.fieldLink own index "CycleRowsModel" "parts" "I").before args s = true) {v : Int32} (hl : 20 < fs.length) (hdg : decode cc pc = .ok (.putfield index, 3)) (kk : ∀ (H1 : Heap) (locs1 : List Loc), va_P D vwCl (ws.set q0 (a, .inr (6, fs.set 20 (.int v)))) H1 → va_D A (ws.set q0 (a, .inr (6, fs.set 20 (.int v)))) → va_S A H0 H1 locs1 → W p l e R s m args below meth c H1 locs1 cells slots Q (F0 m (pc + 3) ls rest)) : W p l e R s m args below meth c H locs cells slots Q (F0 m pc ls (.int v :: .ref a :: rest)) := va_put (T := T_M) (N := 29) (ty := .int) hexec hb hts lay_M ty_M tyok_M nm_M hown hK hP hD hS q0 he rfl 20 (by decide) hlink (fun _ h => h) rfl (by decide +kernel) rfl rfl hl hdg kk
theorem vg_M_rings (hexec : p.tables.exec = Jvm.exec) (hb : c.code = cc) {own : String} {index : Nat} (hts : ∀ w ∈ og_tb, w.before args s = true) (hown : s.vm.findClass own = some m.cls) (hK : va_K D vwCl tys s) (hP : va_P D vwCl ws H) (q0 : Nat) {fs : List Value} (he : ws[q0]? = some (a, .inr (6, fs))) (hlink : (Cond.fieldLink own index "CycleRowsModel" "rings" "I").before args s = true) {v : Value} (hv : fs[21]? = some v) (hdg : decode cc pc = .ok (.getfield index, 3)) (kk : W p l e R s m args below meth c H locs cells slots Q (F0 m (pc + 3) ls (v :: rest))) : W p l e R s m args below meth c H locs cells slots Q (F0 m pc ls (.ref a :: rest)) := va_get (T := T_M) (N := 29) hexec hb hts lay_M hown hK hP q0 he rfl 21 (by decide) hlink (fun _ h => h) hv hdg kk
theorem vs_M_rings (hexec : p.tables.exec = Jvm.exec) (hb : c.code = cc) {own : String} {index : Nat} (hts : ∀ w ∈ og_tb, w.before args s = true) (hown : s.vm.findClass own = some m.cls) (hK : va_K D vwCl tys s) (hP : va_P D vwCl ws H) (hD : va_D A ws) (hS : va_S A H0 H locs) (q0 : Nat) {fs : List Value} (he : ws[q0]? = some (a, .inr (6, fs))) (hlink : (Cond.fieldLink own index "CycleRowsModel" "rings" "I").before args s = true) {v : Int32} (hl : 21 < fs.length) (hdg : decode cc pc = .ok (.putfield index, 3)) (kk : ∀ (H1 : Heap) (locs1 : List Loc), va_P D vwCl (ws.set q0 (a, .inr (6, fs.set 21 (.int v)))) H1 → va_D A (ws.set q0 (a, .inr (6, fs.set 21 (.int v)))) → va_S A H0 H1 locs1 → W p l e R s m args below meth c H1 locs1 cells slots Q (F0 m (pc + 3) ls rest)) : W p l e R s m args below meth c H locs cells slots Q (F0 m pc ls (.int v :: .ref a :: rest)) := va_put (T := T_M) (N := 29) (ty := .int) hexec hb hts lay_M ty_M tyok_M nm_M hown hK hP hD hS q0 he rfl 21 (by decide) hlink (fun _ h => h) rfl (by decide +kernel) rfl rfl hl hdg kk
theorem vg_M_ringSize (hexec : p.tables.exec = Jvm.exec) (hb : c.code = cc) {own : String} {index : Nat} (hts : ∀ w ∈ og_tb, w.before args s = true) (hown : s.vm.findClass own = some m.cls) (hK : va_K D vwCl tys s) (hP : va_P D vwCl ws H) (q0 : Nat) {fs : List Value} (he : ws[q0]? = some (a, .inr (6, fs))) (hlink : (Cond.fieldLink own index "CycleRowsModel" "ringSize" "[I").before args s = true) {v : Value} (hv : fs[22]? = some v) (hdg : decode cc pc = .ok (.getfield index, 3)) (kk : W p l e R s m args below meth c H locs cells slots Q (F0 m (pc + 3) ls (v :: rest))) : W p l e R s m args below meth c H locs cells slots Q (F0 m pc ls (.ref a :: rest)) := va_get (T := T_M) (N := 29) hexec hb hts lay_M hown hK hP q0 he rfl 22 (by decide) hlink (fun _ h => h) hv hdg kk
theorem vg_M_ring (hexec : p.tables.exec = Jvm.exec) (hb : c.code = cc) {own : String} {index : Nat} (hts : ∀ w ∈ og_tb, w.before args s = true) (hown : s.vm.findClass own = some m.cls) (hK : va_K D vwCl tys s) (hP : va_P D vwCl ws H) (q0 : Nat) {fs : List Value} (he : ws[q0]? = some (a, .inr (6, fs))) (hlink : (Cond.fieldLink own index "CycleRowsModel" "ring" "[I").before args s = true) {v : Value} (hv : fs[23]? = some v) (hdg : decode cc pc = .ok (.getfield index, 3)) (kk : W p l e R s m args below meth c H locs cells slots Q (F0 m (pc + 3) ls (v :: rest))) : W p l e R s m args below meth c H locs cells slots Q (F0 m pc ls (.ref a :: rest)) := va_get (T := T_M) (N := 29) hexec hb hts lay_M hown hK hP q0 he rfl 23 (by decide) hlink (fun _ h => h) hv hdg kk
theorem vg_M_backs (hexec : p.tables.exec = Jvm.exec) (hb : c.code = cc) {own : String} {index : Nat} (hts : ∀ w ∈ og_tb, w.before args s = true) (hown : s.vm.findClass own = some m.cls) (hK : va_K D vwCl tys s) (hP : va_P D vwCl ws H) (q0 : Nat) {fs : List Value} (he : ws[q0]? = some (a, .inr (6, fs))) (hlink : (Cond.fieldLink own index "CycleRowsModel" "backs" "[Z").before args s = true) {v : Value} (hv : fs[24]? = some v) (hdg : decode cc pc = .ok (.getfield index, 3)) (kk : W p l e R s m args below meth c H locs cells slots Q (F0 m (pc + 3) ls (v :: rest))) : W p l e R s m args below meth c H locs cells slots Q (F0 m pc ls (.ref a :: rest)) := va_get (T := T_M) (N := 29) hexec hb hts lay_M hown hK hP q0 he rfl 24 (by decide) hlink (fun _ h => h) hv hdg kk
theorem vg_M_metSize (hexec : p.tables.exec = Jvm.exec) (hb : c.code = cc) {own : String} {index : Nat} (hts : ∀ w ∈ og_tb, w.before args s = true) (hown : s.vm.findClass own = some m.cls) (hK : va_K D vwCl tys s) (hP : va_P D vwCl ws H) (q0 : Nat) {fs : List Value} (he : ws[q0]? = some (a, .inr (6, fs))) (hlink : (Cond.fieldLink own index "CycleRowsModel" "metSize" "I").before args s = true) {v : Value} (hv : fs[25]? = some v) (hdg : decode cc pc = .ok (.getfield index, 3)) (kk : W p l e R s m args below meth c H locs cells slots Q (F0 m (pc + 3) ls (v :: rest))) : W p l e R s m args below meth c H locs cells slots Q (F0 m pc ls (.ref a :: rest)) := va_get (T := T_M) (N := 29) hexec hb hts lay_M hown hK hP q0 he rfl 25 (by decide) hlink (fun _ h => h) hv hdg kk
theorem vs_M_metSize (hexec : p.tables.exec = Jvm.exec) (hb : c.code = cc) {own : String} {index : Nat} (hts : ∀ w ∈ og_tb, w.before args s = true) (hown : s.vm.findClass own = some m.cls) (hK : va_K D vwCl tys s) (hP : va_P D vwCl ws H) (hD : va_D A ws) (hS : va_S A H0 H locs) (q0 : Nat) {fs : List Value} (he : ws[q0]? = some (a, .inr (6, fs))) (hlink : (Cond.fieldLink own index "CycleRowsModel" "metSize" "I").before args s = true) {v : Int32} (hl : 25 < fs.length) (hdg : decode cc pc = .ok (.putfield index, 3)) (kk : ∀ (H1 : Heap) (locs1 : List Loc), va_P D vwCl (ws.set q0 (a, .inr (6, fs.set 25 (.int v)))) H1 → va_D A (ws.set q0 (a, .inr (6, fs.set 25 (.int v)))) → va_S A H0 H1 locs1 → W p l e R s m args below meth c H1 locs1 cells slots Q (F0 m (pc + 3) ls rest)) : W p l e R s m args below meth c H locs cells slots Q (F0 m pc ls (.int v :: .ref a :: rest)) := va_put (T := T_M) (N := 29) (ty := .int) hexec hb hts lay_M ty_M tyok_M nm_M hown hK hP hD hS q0 he rfl 25 (by decide) hlink (fun _ h => h) rfl (by decide +kernel) rfl rfl hl hdg kk
theorem vg_M_way (hexec : p.tables.exec = Jvm.exec) (hb : c.code = cc) {own : String} {index : Nat} (hts : ∀ w ∈ og_tb, w.before args s = true) (hown : s.vm.findClass own = some m.cls) (hK : va_K D vwCl tys s) (hP : va_P D vwCl ws H) (q0 : Nat) {fs : List Value} (he : ws[q0]? = some (a, .inr (6, fs))) (hlink : (Cond.fieldLink own index "CycleRowsModel" "way" "[I").before args s = true) {v : Value} (hv : fs[26]? = some v) (hdg : decode cc pc = .ok (.getfield index, 3)) (kk : W p l e R s m args below meth c H locs cells slots Q (F0 m (pc + 3) ls (v :: rest))) : W p l e R s m args below meth c H locs cells slots Q (F0 m pc ls (.ref a :: rest)) := va_get (T := T_M) (N := 29) hexec hb hts lay_M hown hK hP q0 he rfl 26 (by decide) hlink (fun _ h => h) hv hdg kk
theorem vg_M_asked (hexec : p.tables.exec = Jvm.exec) (hb : c.code = cc) {own : String} {index : Nat} (hts : ∀ w ∈ og_tb, w.before args s = true) (hown : s.vm.findClass own = some m.cls) (hK : va_K D vwCl tys s) (hP : va_P D vwCl ws H) (q0 : Nat) {fs : List Value} (he : ws[q0]? = some (a, .inr (6, fs))) (hlink : (Cond.fieldLink own index "CycleRowsModel" "asked" "[I").before args s = true) {v : Value} (hv : fs[27]? = some v) (hdg : decode cc pc = .ok (.getfield index, 3)) (kk : W p l e R s m args below meth c H locs cells slots Q (F0 m (pc + 3) ls (v :: rest))) : W p l e R s m args below meth c H locs cells slots Q (F0 m pc ls (.ref a :: rest)) := va_get (T := T_M) (N := 29) hexec hb hts lay_M hown hK hP q0 he rfl 27 (by decide) hlink (fun _ h => h) hv hdg kk
theorem vg_M_at (hexec : p.tables.exec = Jvm.exec) (hb : c.code = cc) {own : String} {index : Nat} (hts : ∀ w ∈ og_tb, w.before args s = true) (hown : s.vm.findClass own = some m.cls) (hK : va_K D vwCl tys s) (hP : va_P D vwCl ws H) (q0 : Nat) {fs : List Value} (he : ws[q0]? = some (a, .inr (6, fs))) (hlink : (Cond.fieldLink own index "CycleRowsModel" "at" "[I").before args s = true) {v : Value} (hv : fs[28]? = some v) (hdg : decode cc pc = .ok (.getfield index, 3)) (kk : W p l e R s m args below meth c H locs cells slots Q (F0 m (pc + 3) ls (v :: rest))) : W p l e R s m args below meth c H locs cells slots Q (F0 m pc ls (.ref a :: rest)) := va_get (T := T_M) (N := 29) hexec hb hts lay_M hown hK hP q0 he rfl 28 (by decide) hlink (fun _ h => h) hv hdg kk
end FLD
end
section
def wK_isNamed (a : Nat → Nat) (k : Nat → ClassId) (K_count : Int32) (K_names : (Nat → Int32)) : va_W := [(a 1, .inr (1, [.int K_count, .ref (a 2), .ref (a 3), .ref (a 4)])), (a 2, .inl (k 2, 40, .inl K_names))]
def tK_isNamed (k : Nat → ClassId) : List (ClassId × FieldType) := [(k 2, .int)]
set_option maxHeartbeats 4000000 in
set_option maxRecDepth 100000 in
theorem c_K_isNamed (l : Launch) (dC : Nat → ClassId) (dI : Nat → Nat → Nat) (a : Nat → Nat) (k : Nat → ClassId) (K_count : Int32) (K_names : (Nat → Int32)) (p1 : Int32) (y : Int32) (hf : fK_isNamed K_count K_names p1 = some y) : Met l y_K_isNamed ws_K_isNamed ({ frames := 0, cells := 0, slots := 0, locals := 0 }) (og_Pr [.ref (a 1), .int p1] (dC, dI) (wK_isNamed a k K_count K_names) (tK_isNamed k)) (vp_Si (fun x => x = y)) 0 0 (fun _ => False) := by
  refine Met.ofW (cc := b_K_isNamed) (maxL := 3) (ret := (some .boolean)) (by decide) rfl ?_
  intro p e s m args below meth c s₁ B hml hv
  obtain ⟨rfl, hP, hK⟩ := hv
  have hx := B.exec
  have hb := B.bytes
  have hr := B.returns
  have hts0 := atoms_spec (ws := ws_K_isNamed) B.pre
  have hts : ∀ w ∈ og_tb, w.before _ s = true := fun w h => hts0 w (List.mem_cons_of_mem _ h)
  have hown : s.vm.findClass R_K = some m.cls := findClass_of_methodNamed B.named
  have hlocks := B.notSynchronized
  have hl := lv_entry ([.ref (a 1), .int p1]) (n := 3) (Nat.le_of_ble_eq_true rfl)
  rw [lg_entry_eq]
  generalize (lg_sl ([.ref (a 1), .int p1]) ++ List.replicate (3 - (lg_sl ([.ref (a 1), .int p1])).length) Slot.unset).toArray = ls at hl ⊢
  have hl : lv_has ls 3 [(0, .ref (a 1)), (1, .int p1)] := hl
  rw [fK_isNamed] at hf
  refine lv_iconst (v := 0) hx hb d_K_isNamed_0 (by decide) ?_
  refine lv_istore_n (lv' := [(2, .int 0), (0, .ref (a 1)), (1, .int p1)]) hx hb d_K_isNamed_1 rfl hl (by decide) rfl (fun ls hl => ?_)
  have k2_28 : ∀ (ls : Array Slot), fK_isNamed_K2_28 = some y → lv_has ls 3 [] → W p l e (headSpec ws_K_isNamed { frames := 0, cells := 0, slots := 0, locals := 0 }).room s m ([.ref (a 1), .int p1] : List Value).toArray below meth c s.heap [] 0 0 (MQ below (vp_Si (fun x => x = y)) ([.ref (a 1), .int p1] : List Value).toArray s 0 0 (fun _ => False)) (F0 m 28 ls []) := by
    intro  ls hf hl
    rw [fK_isNamed_K2_28] at hf
    refine lv_iconst (v := 0) hx hb d_K_isNamed_28 (by decide) ?_
    obtain rfl := Option.some.inj hf
    exact W.zret (v := 0) hx hb hr rfl (fun t ht hW => ⟨0, rfl, rfl, ht⟩) (fun _ h => absurd h List.not_mem_nil) d_K_isNamed_29
  have lp2 : ∀ (n2 : Nat) (v2 : Int32) (ls : Array Slot), fK_isNamed_L2 fK_isNamed_K2_28 K_count K_names p1 n2 v2 = some y → lv_has ls 3 [(0, .ref (a 1)), (1, .int p1), (2, .int v2)] → W p l e (headSpec ws_K_isNamed { frames := 0, cells := 0, slots := 0, locals := 0 }).room s m ([.ref (a 1), .int p1] : List Value).toArray below meth c s.heap [] 0 0 (MQ below (vp_Si (fun x => x = y)) ([.ref (a 1), .int p1] : List Value).toArray s 0 0 (fun _ => False)) (F0 m 2 ls []) := by
    intro n2
    induction n2 with
    | zero => intro v2 ls hf hl; rw [fK_isNamed_L2] at hf; cases hf
    | succ n2 ih2 =>
      intro v2 ls hf hl
      rw [fK_isNamed_L2] at hf
      refine lv_iload_n hx hb d_K_isNamed_2 rfl (lv_at hl 2 rfl) ?_
      refine lv_aload_n hx hb d_K_isNamed_3 rfl (lv_at hl 0 rfl) ?_
      refine vg_K_count (v := .int K_count) hx hb hts hown hK hP 0 rfl (hts _ tb_0) rfl d_K_isNamed_4 ?_
      refine lv_icmp_ge (tgt := 28) hx hb d_K_isNamed_7 (by decide) (fun c_7 => ?_) (fun c_7 => ?_)
      · have hf := og_t hf c_7
        exact k2_28  _ hf (lv_sub hl [] rfl)
      · have hf := og_f hf c_7
        refine lv_aload_n hx hb d_K_isNamed_10 rfl (lv_at hl 0 rfl) ?_
        refine vg_K_names (v := .ref (a 2)) hx hb hts hown hK hP 0 rfl (hts _ tb_1) rfl d_K_isNamed_11 ?_
        refine lv_iload_n hx hb d_K_isNamed_14 rfl (lv_at hl 2 rfl) ?_
        obtain ⟨h_15, hf⟩ := og_ck_s hf
        refine va_iald hx hb hK hP 1 0 rfl rfl h_15 d_K_isNamed_15 ?_
        refine lv_iload_n hx hb d_K_isNamed_16 rfl (lv_at hl 1 rfl) ?_
        refine lv_icmp_ne (tgt := 22) hx hb d_K_isNamed_17 (by decide) (fun c_17 => ?_) (fun c_17 => ?_)
        · have hf := og_f hf c_17
          refine lv_iinc (v := (v2 + 1)) (lv' := [(2, .int (v2 + 1)), (0, .ref (a 1)), (1, .int p1)]) hx hb d_K_isNamed_22 hl (k := 2) rfl rfl (by decide) rfl (fun ls hl => ?_)
          refine lv_goto (tgt := 2) hx hb d_K_isNamed_25 (by decide) ?_
          exact ih2 (v2 + 1) _ hf (lv_sub hl [1, 2, 0] rfl)
        · have hf := og_t hf c_17
          refine lv_iconst (v := 1) hx hb d_K_isNamed_20 (by decide) ?_
          obtain rfl := Option.some.inj hf
          exact W.zret (v := 1) hx hb hr rfl (fun t ht hW => ⟨1, rfl, rfl, ht⟩) (fun _ h => absurd h List.not_mem_nil) d_K_isNamed_21
  exact lp2 FU 0 _ hf (lv_sub hl [1, 2, 0] rfl)
def wK_insert (a : Nat → Nat) (k : Nat → ClassId) (K_count : Int32) (K_names : (Nat → Int32)) (K_byRank : (Nat → Int32)) (K_rankOf : (Nat → Int32)) : va_W := [(a 1, .inr (1, [.int K_count, .ref (a 2), .ref (a 3), .ref (a 4)])), (a 2, .inl (k 2, 40, .inl K_names)), (a 3, .inl (k 3, 40, .inl K_byRank)), (a 4, .inl (k 4, 40, .inl K_rankOf))]
def tK_insert (k : Nat → ClassId) : List (ClassId × FieldType) := [(k 2, .int), (k 3, .int), (k 4, .int)]
set_option maxHeartbeats 4000000 in
set_option maxRecDepth 100000 in
theorem c_K_insert (l : Launch) (dC : Nat → ClassId) (dI : Nat → Nat → Nat) (a : Nat → Nat) (k : Nat → ClassId) (sz : Nat) (K_count : Int32) (K_names : (Nat → Int32)) (K_byRank : (Nat → Int32)) (K_rankOf : (Nat → Int32)) (p1 : Int32) (y : (Nat → Int32) × (Nat → Int32)) (hf : fK_insert K_names K_byRank K_rankOf p1 = some y) : Met l y_K_insert ws_K_insert ({ frames := 0, cells := 0, slots := 0, locals := 0 }) (og_Pw [.ref (a 1), .int p1] (dC, dI) (wK_insert a k K_count K_names K_byRank K_rankOf) (tK_insert k) sz) (og_Qv (dC, dI) (wK_insert a k K_count K_names y.1 y.2) (tK_insert k) (va_A (wK_insert a k K_count K_names K_byRank K_rankOf) sz)) 0 0 (va_A (wK_insert a k K_count K_names K_byRank K_rankOf) sz) := by
  refine Met.ofW (cc := b_K_insert) (maxL := 4) (ret := none) (by decide) rfl ?_
  intro p e s m args below meth c s₁ B hml hv
  obtain ⟨rfl, hsz, hP, hK, hD0⟩ := hv
  have hx := B.exec
  have hb := B.bytes
  have hr := B.returns
  have hts0 := atoms_spec (ws := ws_K_insert) B.pre
  have hts : ∀ w ∈ og_tb, w.before _ s = true := fun w h => hts0 w (List.mem_cons_of_mem _ h)
  have hown : s.vm.findClass R_K = some m.cls := findClass_of_methodNamed B.named
  have hlocks := B.notSynchronized
  subst hsz
  have hD := hD0.self (sz := s.heap.size)
  generalize hAe : va_A (wK_insert a k K_count K_names K_byRank K_rankOf) s.heap.size = A at hD ⊢
  have hA : ∀ q : Nat, s.heap.size ≤ q → A q := fun q h => by rw [← hAe]; exact Or.inr h
  have hS : va_S A s.heap s.heap [] := va_S.rf
  have hl := lv_entry ([.ref (a 1), .int p1]) (n := 4) (Nat.le_of_ble_eq_true rfl)
  rw [lg_entry_eq]
  generalize (lg_sl ([.ref (a 1), .int p1]) ++ List.replicate (4 - (lg_sl ([.ref (a 1), .int p1])).length) Slot.unset).toArray = ls at hl ⊢
  have hl : lv_has ls 4 [(0, .ref (a 1)), (1, .int p1)] := hl
  rw [fK_insert] at hf
  refine lv_iconst (v := 0) hx hb d_K_insert_0 (by decide) ?_
  refine lv_istore_n (lv' := [(2, .int 0), (0, .ref (a 1)), (1, .int p1)]) hx hb d_K_insert_1 rfl hl (by decide) rfl (fun ls hl => ?_)
  refine lv_iconst (v := 0) hx hb d_K_insert_2 (by decide) ?_
  refine lv_istore_n (lv' := [(3, .int 0), (2, .int 0), (0, .ref (a 1)), (1, .int p1)]) hx hb d_K_insert_3 rfl hl (by decide) rfl (fun ls hl => ?_)
  have k4_46 : ∀ (v2 : Int32) (K_rankOf : (Nat → Int32)) (H : Heap) (locs : List Loc) (ls : Array Slot), fK_insert_K4_46 K_byRank p1 v2 K_rankOf = some y → va_P (dC, dI) vwCl (wK_insert a k K_count K_names K_byRank K_rankOf) H → va_D A (wK_insert a k K_count K_names K_byRank K_rankOf) → va_S A s.heap H locs → lv_has ls 4 [(0, .ref (a 1)), (1, .int p1), (2, .int v2)] → W p l e (headSpec ws_K_insert { frames := 0, cells := 0, slots := 0, locals := 0 }).room s m ([.ref (a 1), .int p1] : List Value).toArray below meth c H locs 0 0 (MQ below (og_Qv (dC, dI) (wK_insert a k K_count K_names y.1 y.2) (tK_insert k) A) ([.ref (a 1), .int p1] : List Value).toArray s 0 0 A) (F0 m 46 ls []) := by
    intro v2 K_rankOf H locs ls hf hP hD hS hl
    rw [fK_insert_K4_46] at hf
    refine lv_aload_n hx hb d_K_insert_46 rfl (lv_at hl 0 rfl) ?_
    refine vg_K_rankOf (v := .ref (a 4)) hx hb hts hown hK hP 0 rfl (hts _ tb_2) rfl d_K_insert_47 ?_
    refine lv_iload_n hx hb d_K_insert_50 rfl (lv_at hl 1 rfl) ?_
    refine lv_iload_n hx hb d_K_insert_51 rfl (lv_at hl 2 rfl) ?_
    obtain ⟨h_52, hf⟩ := og_ck_s hf
    refine va_iast hx hb hK hP hD hS 3 2 rfl rfl h_52 d_K_insert_52 (fun H locs hP hD hS => ?_)
    have hP : va_P (dC, dI) vwCl (wK_insert a k K_count K_names K_byRank (upd K_rankOf p1.toNatClampNeg v2)) H := hP
    have hD : va_D A (wK_insert a k K_count K_names K_byRank (upd K_rankOf p1.toNatClampNeg v2)) := hD
    refine lv_iconst (v := 0) hx hb d_K_insert_53 (by decide) ?_
    refine lv_istore_n (lv' := [(3, .int 0), (0, .ref (a 1)), (1, .int p1), (2, .int v2)]) hx hb d_K_insert_54 rfl hl (by decide) rfl (fun ls hl => ?_)
    have k55_78 : ∀ (K_byRank : (Nat → Int32)) (H : Heap) (locs : List Loc) (ls : Array Slot), fK_insert_K55_78 (upd K_rankOf p1.toNatClampNeg v2) K_byRank = some y → va_P (dC, dI) vwCl (wK_insert a k K_count K_names K_byRank (upd K_rankOf p1.toNatClampNeg v2)) H → va_D A (wK_insert a k K_count K_names K_byRank (upd K_rankOf p1.toNatClampNeg v2)) → va_S A s.heap H locs → lv_has ls 4 [] → W p l e (headSpec ws_K_insert { frames := 0, cells := 0, slots := 0, locals := 0 }).room s m ([.ref (a 1), .int p1] : List Value).toArray below meth c H locs 0 0 (MQ below (og_Qv (dC, dI) (wK_insert a k K_count K_names y.1 y.2) (tK_insert k) A) ([.ref (a 1), .int p1] : List Value).toArray s 0 0 A) (F0 m 78 ls []) := by
      intro K_byRank H locs ls hf hP hD hS hl
      rw [fK_insert_K55_78] at hf
      obtain rfl := Option.some.inj hf
      exact W.vret hx hb hr (fun t ht hW => ⟨⟨(), rfl, trivial, by rw [ht]; exact hP, va_K.moved hW.alike hK, hD⟩, hS.F ht⟩) hS.2.2 d_K_insert_78
    have lp55 : ∀ (n55 : Nat) (v3 : Int32) (K_byRank : (Nat → Int32)) (H : Heap) (locs : List Loc) (ls : Array Slot), fK_insert_L55 (fK_insert_K55_78 (upd K_rankOf p1.toNatClampNeg v2)) (upd K_rankOf p1.toNatClampNeg v2) p1 n55 v3 K_byRank = some y → va_P (dC, dI) vwCl (wK_insert a k K_count K_names K_byRank (upd K_rankOf p1.toNatClampNeg v2)) H → va_D A (wK_insert a k K_count K_names K_byRank (upd K_rankOf p1.toNatClampNeg v2)) → va_S A s.heap H locs → lv_has ls 4 [(0, .ref (a 1)), (1, .int p1), (3, .int v3)] → W p l e (headSpec ws_K_insert { frames := 0, cells := 0, slots := 0, locals := 0 }).room s m ([.ref (a 1), .int p1] : List Value).toArray below meth c H locs 0 0 (MQ below (og_Qv (dC, dI) (wK_insert a k K_count K_names y.1 y.2) (tK_insert k) A) ([.ref (a 1), .int p1] : List Value).toArray s 0 0 A) (F0 m 55 ls []) := by
      intro n55
      induction n55 with
      | zero => intro v3 K_byRank H locs ls hf hP hD hS hl; rw [fK_insert_L55] at hf; cases hf
      | succ n55 ih55 =>
        intro v3 K_byRank H locs ls hf hP hD hS hl
        rw [fK_insert_L55] at hf
        refine lv_iload_n hx hb d_K_insert_55 rfl (lv_at hl 2 rfl) ?_
        refine lv_iload_n hx hb d_K_insert_56 rfl (lv_at hl 1 rfl) ?_
        refine lv_icmp_gt (tgt := 78) hx hb d_K_insert_57 (by decide) (fun c_57 => ?_) (fun c_57 => ?_)
        · have hf := og_t hf c_57
          exact k55_78 K_byRank _ _ _ hf hP hD hS (lv_sub hl [] rfl)
        · have hf := og_f hf c_57
          refine lv_aload_n hx hb d_K_insert_60 rfl (lv_at hl 0 rfl) ?_
          refine vg_K_byRank (v := .ref (a 3)) hx hb hts hown hK hP 0 rfl (hts _ tb_3) rfl d_K_insert_61 ?_
          refine lv_aload_n hx hb d_K_insert_64 rfl (lv_at hl 0 rfl) ?_
          refine vg_K_rankOf (v := .ref (a 4)) hx hb hts hown hK hP 0 rfl (hts _ tb_2) rfl d_K_insert_65 ?_
          refine lv_iload_n hx hb d_K_insert_68 rfl (lv_at hl 2 rfl) ?_
          obtain ⟨h_69, hf⟩ := og_ck_s hf
          refine va_iald hx hb hK hP 3 2 rfl rfl h_69 d_K_insert_69 ?_
          refine lv_iload_n hx hb d_K_insert_70 rfl (lv_at hl 2 rfl) ?_
          obtain ⟨h_71, hf⟩ := og_ck_s hf
          refine va_iast hx hb hK hP hD hS 2 1 rfl rfl h_71 d_K_insert_71 (fun H locs hP hD hS => ?_)
          have hP : va_P (dC, dI) vwCl (wK_insert a k K_count K_names (upd K_byRank ((upd K_rankOf p1.toNatClampNeg v2) v3.toNatClampNeg).toNatClampNeg v3) (upd K_rankOf p1.toNatClampNeg v2)) H := hP
          have hD : va_D A (wK_insert a k K_count K_names (upd K_byRank ((upd K_rankOf p1.toNatClampNeg v2) v3.toNatClampNeg).toNatClampNeg v3) (upd K_rankOf p1.toNatClampNeg v2)) := hD
          refine lv_iinc (v := (v3 + 1)) (lv' := [(3, .int (v3 + 1)), (0, .ref (a 1)), (1, .int p1)]) hx hb d_K_insert_72 hl (k := 2) rfl rfl (by decide) rfl (fun ls hl => ?_)
          refine lv_goto (tgt := 55) hx hb d_K_insert_75 (by decide) ?_
          exact ih55 (v3 + 1) (upd K_byRank ((upd K_rankOf p1.toNatClampNeg v2) v3.toNatClampNeg).toNatClampNeg v3) _ _ _ hf hP hD hS (lv_sub hl [1, 2, 0] rfl)
    exact lp55 FU 0 K_byRank _ _ _ hf hP hD hS (lv_sub hl [1, 2, 0] rfl)
  have lp4 : ∀ (n4 : Nat) (v2 : Int32) (v3 : Int32) (K_rankOf : (Nat → Int32)) (H : Heap) (locs : List Loc) (ls : Array Slot), fK_insert_L4 (fK_insert_K4_46 K_byRank p1) K_names p1 n4 v2 v3 K_rankOf = some y → va_P (dC, dI) vwCl (wK_insert a k K_count K_names K_byRank K_rankOf) H → va_D A (wK_insert a k K_count K_names K_byRank K_rankOf) → va_S A s.heap H locs → lv_has ls 4 [(0, .ref (a 1)), (1, .int p1), (2, .int v2), (3, .int v3)] → W p l e (headSpec ws_K_insert { frames := 0, cells := 0, slots := 0, locals := 0 }).room s m ([.ref (a 1), .int p1] : List Value).toArray below meth c H locs 0 0 (MQ below (og_Qv (dC, dI) (wK_insert a k K_count K_names y.1 y.2) (tK_insert k) A) ([.ref (a 1), .int p1] : List Value).toArray s 0 0 A) (F0 m 4 ls []) := by
    intro n4
    induction n4 with
    | zero => intro v2 v3 K_rankOf H locs ls hf hP hD hS hl; rw [fK_insert_L4] at hf; cases hf
    | succ n4 ih4 =>
      intro v2 v3 K_rankOf H locs ls hf hP hD hS hl
      rw [fK_insert_L4] at hf
      refine lv_iload_n hx hb d_K_insert_4 rfl (lv_at hl 3 rfl) ?_
      refine lv_iload_n hx hb d_K_insert_5 rfl (lv_at hl 1 rfl) ?_
      refine lv_icmp_ge (tgt := 46) hx hb d_K_insert_6 (by decide) (fun c_6 => ?_) (fun c_6 => ?_)
      · have hf := og_t hf c_6
        exact k4_46 v2 K_rankOf _ _ _ hf hP hD hS (lv_sub hl [0, 1, 2] rfl)
      · have hf := og_f hf c_6
        refine lv_aload_n hx hb d_K_insert_9 rfl (lv_at hl 0 rfl) ?_
        refine vg_K_names (v := .ref (a 2)) hx hb hts hown hK hP 0 rfl (hts _ tb_1) rfl d_K_insert_10 ?_
        refine lv_iload_n hx hb d_K_insert_13 rfl (lv_at hl 3 rfl) ?_
        obtain ⟨h_14, hf⟩ := og_ck_s hf
        refine va_iald hx hb hK hP 1 0 rfl rfl h_14 d_K_insert_14 ?_
        refine lv_aload_n hx hb d_K_insert_15 rfl (lv_at hl 0 rfl) ?_
        refine vg_K_names (v := .ref (a 2)) hx hb hts hown hK hP 0 rfl (hts _ tb_1) rfl d_K_insert_16 ?_
        refine lv_iload_n hx hb d_K_insert_19 rfl (lv_at hl 1 rfl) ?_
        obtain ⟨h_20, hf⟩ := og_ck_s hf
        refine va_iald hx hb hK hP 1 0 rfl rfl h_20 d_K_insert_20 ?_
        refine lv_icmp_ge (tgt := 30) hx hb d_K_insert_21 (by decide) (fun c_21 => ?_) (fun c_21 => ?_)
        · have hf := og_t hf c_21
          refine lv_aload_n hx hb d_K_insert_30 rfl (lv_at hl 0 rfl) ?_
          refine vg_K_rankOf (v := .ref (a 4)) hx hb hts hown hK hP 0 rfl (hts _ tb_2) rfl d_K_insert_31 ?_
          refine lv_iload_n hx hb d_K_insert_34 rfl (lv_at hl 3 rfl) ?_
          refine lv_dup2_11 hx hb d_K_insert_35 rfl rfl ?_
          obtain ⟨h_36, hf⟩ := og_ck_s hf
          refine va_iald hx hb hK hP 3 2 rfl rfl h_36 d_K_insert_36 ?_
          refine lv_iconst (v := 1) hx hb d_K_insert_37 (by decide) ?_
          refine lv_iadd hx hb d_K_insert_38 ?_
          obtain ⟨h_39, hf⟩ := og_ck_s hf
          refine va_iast hx hb hK hP hD hS 3 2 rfl rfl h_39 d_K_insert_39 (fun H locs hP hD hS => ?_)
          have hP : va_P (dC, dI) vwCl (wK_insert a k K_count K_names K_byRank (upd K_rankOf v3.toNatClampNeg ((K_rankOf v3.toNatClampNeg) + 1))) H := hP
          have hD : va_D A (wK_insert a k K_count K_names K_byRank (upd K_rankOf v3.toNatClampNeg ((K_rankOf v3.toNatClampNeg) + 1))) := hD
          refine lv_iinc (v := (v3 + 1)) (lv' := [(3, .int (v3 + 1)), (0, .ref (a 1)), (1, .int p1), (2, .int v2)]) hx hb d_K_insert_40 hl (k := 3) rfl rfl (by decide) rfl (fun ls hl => ?_)
          refine lv_goto (tgt := 4) hx hb d_K_insert_43 (by decide) ?_
          exact ih4 v2 (v3 + 1) (upd K_rankOf v3.toNatClampNeg ((K_rankOf v3.toNatClampNeg) + 1)) _ _ _ hf hP hD hS (lv_sub hl [1, 2, 3, 0] rfl)
        · have hf := og_f hf c_21
          refine lv_iinc (v := (v2 + 1)) (lv' := [(2, .int (v2 + 1)), (0, .ref (a 1)), (1, .int p1), (3, .int v3)]) hx hb d_K_insert_24 hl (k := 2) rfl rfl (by decide) rfl (fun ls hl => ?_)
          refine lv_goto (tgt := 40) hx hb d_K_insert_27 (by decide) ?_
          refine lv_iinc (v := (v3 + 1)) (lv' := [(3, .int (v3 + 1)), (2, .int (v2 + 1)), (0, .ref (a 1)), (1, .int p1)]) hx hb d_K_insert_40 hl (k := 3) rfl rfl (by decide) rfl (fun ls hl => ?_)
          refine lv_goto (tgt := 4) hx hb d_K_insert_43 (by decide) ?_
          exact ih4 (v2 + 1) (v3 + 1) K_rankOf _ _ _ hf hP hD hS (lv_sub hl [2, 3, 1, 0] rfl)
  exact lp4 FU 0 0 K_rankOf _ _ _ hf hP hD hS (lv_sub hl [2, 3, 1, 0] rfl)
def wK_add (a : Nat → Nat) (k : Nat → ClassId) (K_count : Int32) (K_names : (Nat → Int32)) (K_byRank : (Nat → Int32)) (K_rankOf : (Nat → Int32)) : va_W := [(a 1, .inr (1, [.int K_count, .ref (a 2), .ref (a 3), .ref (a 4)])), (a 2, .inl (k 2, 40, .inl K_names)), (a 3, .inl (k 3, 40, .inl K_byRank)), (a 4, .inl (k 4, 40, .inl K_rankOf))]
def tK_add (k : Nat → ClassId) : List (ClassId × FieldType) := [(k 2, .int), (k 3, .int), (k 4, .int)]
set_option maxHeartbeats 4000000 in
set_option maxRecDepth 100000 in
theorem c_K_add (l : Launch) (dC : Nat → ClassId) (dI : Nat → Nat → Nat) (a : Nat → Nat) (k : Nat → ClassId) (sz : Nat) (K_count : Int32) (K_names : (Nat → Int32)) (K_byRank : (Nat → Int32)) (K_rankOf : (Nat → Int32)) (p1 : Int32) (y : Int32 × Int32 × (Nat → Int32) × (Nat → Int32) × (Nat → Int32)) (hf : fK_add K_count K_names K_byRank K_rankOf p1 = some y) : Met l y_K_add ws_K_add ({ frames := 1, cells := 0, slots := 0, locals := 23 }) (og_Pw [.ref (a 1), .int p1] (dC, dI) (wK_add a k K_count K_names K_byRank K_rankOf) (tK_add k) sz) (og_Qi (dC, dI) (wK_add a k y.2.1 y.2.2.1 y.2.2.2.1 y.2.2.2.2) (tK_add k) y.1 (va_A (wK_add a k K_count K_names K_byRank K_rankOf) sz)) 0 0 (va_A (wK_add a k K_count K_names K_byRank K_rankOf) sz) := by
  refine Met.ofW (cc := b_K_add) (maxL := 3) (ret := (some .int)) (by decide) rfl ?_
  intro p e s m args below meth c s₁ B hml hv
  obtain ⟨rfl, hsz, hP, hK, hD0⟩ := hv
  have hx := B.exec
  have hb := B.bytes
  have hr := B.returns
  have hts0 := atoms_spec (ws := ws_K_add) B.pre
  have hts : ∀ w ∈ og_tb, w.before _ s = true := fun w h => hts0 w (List.mem_cons_of_mem _ h)
  have hown : s.vm.findClass R_K = some m.cls := findClass_of_methodNamed B.named
  have hlocks := B.notSynchronized
  subst hsz
  have hD := hD0.self (sz := s.heap.size)
  generalize hAe : va_A (wK_add a k K_count K_names K_byRank K_rankOf) s.heap.size = A at hD ⊢
  have hA : ∀ q : Nat, s.heap.size ≤ q → A q := fun q h => by rw [← hAe]; exact Or.inr h
  have hS : va_S A s.heap s.heap [] := va_S.rf
  have hl := lv_entry ([.ref (a 1), .int p1]) (n := 3) (Nat.le_of_ble_eq_true rfl)
  rw [lg_entry_eq]
  generalize (lg_sl ([.ref (a 1), .int p1]) ++ List.replicate (3 - (lg_sl ([.ref (a 1), .int p1])).length) Slot.unset).toArray = ls at hl ⊢
  have hl : lv_has ls 3 [(0, .ref (a 1)), (1, .int p1)] := hl
  rw [fK_add] at hf
  refine lv_aload_n hx hb d_K_add_0 rfl (lv_at hl 0 rfl) ?_
  refine vg_K_count (v := .int K_count) hx hb hts hown hK hP 0 rfl (hts _ tb_0) rfl d_K_add_1 ?_
  refine lv_bipush (v := 40) hx hb d_K_add_4 (by decide) ?_
  refine lv_icmp_ge (tgt := 17) hx hb d_K_add_6 (by decide) (fun c_6 => ?_) (fun c_6 => ?_)
  · have hf := og_t hf c_6
    refine lv_iconst (v := (-1)) hx hb d_K_add_17 (by decide) ?_
    obtain rfl := Option.some.inj hf
    exact W.iret (v := (-1)) hx hb hr (fun t ht hW => ⟨⟨(-1), (), rfl, rfl, by rw [ht]; exact hP, va_K.moved hW.alike hK, hD⟩, hS.F ht⟩) hS.2.2 d_K_add_18
  · have hf := og_f hf c_6
    refine lv_aload_n hx hb d_K_add_9 rfl (lv_at hl 0 rfl) ?_
    refine lv_iload_n hx hb d_K_add_10 rfl (lv_at hl 1 rfl) ?_
    obtain ⟨r11, e_11, hf⟩ := og_b hf
    refine og_rV (w := (wK_add a k K_count K_names K_byRank K_rankOf)) (As := [.int p1]) (rest := []) (ci := 1) (q0 := 0) ⟨hx, hb, hml, hown, hts⟩ (c_K_isNamed l dC dI a k K_count K_names p1 r11 e_11) (cwV 1 hts (og_gV tb_4 tb_5 tb_6 tb_7 tb_8) rfl rfl rfl (by decide +kernel) ⟨Nat.le_of_ble_eq_true rfl, Nat.le_of_ble_eq_true rfl⟩) hK hP [0, 1] [0] rfl rfl rfl rfl rfl rfl hl.1 rfl (Nat.le_of_ble_eq_true rfl) d_K_add_11 ⟨Nat.zero_le _, Nat.zero_le _⟩ ?_
    refine lv_if_eq (tgt := 19) hx hb d_K_add_14 (by decide) (fun c_14 => ?_) (fun c_14 => ?_)
    · have hf := og_t hf c_14
      refine lv_aload_n hx hb d_K_add_19 rfl (lv_at hl 0 rfl) ?_
      refine vg_K_count (v := .int K_count) hx hb hts hown hK hP 0 rfl (hts _ tb_0) rfl d_K_add_20 ?_
      refine lv_istore_n (lv' := [(2, .int K_count), (0, .ref (a 1)), (1, .int p1)]) hx hb d_K_add_23 rfl hl (by decide) rfl (fun ls hl => ?_)
      refine lv_aload_n hx hb d_K_add_24 rfl (lv_at hl 1 rfl) ?_
      refine vg_K_names (v := .ref (a 2)) hx hb hts hown hK hP 0 rfl (hts _ tb_1) rfl d_K_add_25 ?_
      refine lv_iload_n hx hb d_K_add_28 rfl (lv_at hl 0 rfl) ?_
      refine lv_iload_n hx hb d_K_add_29 rfl (lv_at hl 2 rfl) ?_
      obtain ⟨h_30, hf⟩ := og_ck_s hf
      refine va_iast hx hb hK hP hD hS 1 0 rfl rfl h_30 d_K_add_30 (fun H locs hP hD hS => ?_)
      have hP : va_P (dC, dI) vwCl (wK_add a k K_count (upd K_names K_count.toNatClampNeg p1) K_byRank K_rankOf) H := hP
      have hD : va_D A (wK_add a k K_count (upd K_names K_count.toNatClampNeg p1) K_byRank K_rankOf) := hD
      refine lv_aload_n hx hb d_K_add_31 rfl (lv_at hl 1 rfl) ?_
      refine lv_iload_n hx hb d_K_add_32 rfl (lv_at hl 0 rfl) ?_
      obtain ⟨r33, e_33, hf⟩ := og_b hf
      refine og_wVv (w := (wK_add a k K_count (upd K_names K_count.toNatClampNeg p1) K_byRank K_rankOf)) (w2 := (wK_add a k K_count (upd K_names K_count.toNatClampNeg p1) r33.1 r33.2)) (As := [.int K_count]) (rest := []) (ci := 1) (q0 := 0) ⟨hx, hb, hml, hown, hts⟩ (c_K_insert l dC dI a k _ K_count (upd K_names K_count.toNatClampNeg p1) K_byRank K_rankOf K_count r33 e_33) (cwV 1 hts (og_gV tb_9 tb_10 tb_11 tb_7 tb_12) rfl rfl rfl (by decide +kernel) ⟨Nat.le_of_ble_eq_true rfl, Nat.le_of_ble_eq_true rfl⟩) hK hP hD hS hA [0, 1, 2, 3] [] [0, 1, 2] rfl rfl rfl rfl rfl 4 rfl (by decide) (by decide) (by decide) rfl rfl rfl rfl hl.1 rfl (Nat.le_of_ble_eq_true rfl) d_K_add_33 ⟨Nat.zero_le _, Nat.zero_le _⟩ (fun H locs hP hD hS => ?_)
      refine lv_aload_n hx hb d_K_add_36 rfl (lv_at hl 1 rfl) ?_
      refine lv_dup hx hb d_K_add_37 rfl ?_
      refine vg_K_count (v := .int K_count) hx hb hts hown hK hP 0 rfl (hts _ tb_0) rfl d_K_add_38 ?_
      refine lv_iconst (v := 1) hx hb d_K_add_41 (by decide) ?_
      refine lv_iadd hx hb d_K_add_42 ?_
      refine vs_K_count (v := (K_count + 1)) hx hb hts hown hK hP hD hS 0 rfl (hts _ tb_0) (Nat.le_of_ble_eq_true rfl) d_K_add_43 (fun H locs hP hD hS => ?_)
      have hP : va_P (dC, dI) vwCl (wK_add a k (K_count + 1) (upd K_names K_count.toNatClampNeg p1) r33.1 r33.2) H := hP
      have hD : va_D A (wK_add a k (K_count + 1) (upd K_names K_count.toNatClampNeg p1) r33.1 r33.2) := hD
      refine lv_iload_n hx hb d_K_add_46 rfl (lv_at hl 0 rfl) ?_
      obtain rfl := Option.some.inj hf
      exact W.iret (v := K_count) hx hb hr (fun t ht hW => ⟨⟨K_count, (), rfl, rfl, by rw [ht]; exact hP, va_K.moved hW.alike hK, hD⟩, hS.F ht⟩) hS.2.2 d_K_add_47
    · have hf := og_f hf c_14
      refine lv_iconst (v := (-1)) hx hb d_K_add_17 (by decide) ?_
      obtain rfl := Option.some.inj hf
      exact W.iret (v := (-1)) hx hb hr (fun t ht hW => ⟨⟨(-1), (), rfl, rfl, by rw [ht]; exact hP, va_K.moved hW.alike hK, hD⟩, hS.F ht⟩) hS.2.2 d_K_add_18
def wK_has (a : Nat → Nat) (k : Nat → ClassId) (K_count : Int32) : va_W := [(a 1, .inr (1, [.int K_count, .ref (a 2), .ref (a 3), .ref (a 4)]))]
def tK_has (k : Nat → ClassId) : List (ClassId × FieldType) := []
set_option maxHeartbeats 4000000 in
set_option maxRecDepth 100000 in
theorem c_K_has (l : Launch) (dC : Nat → ClassId) (dI : Nat → Nat → Nat) (a : Nat → Nat) (k : Nat → ClassId) (K_count : Int32) (p1 : Int32) (y : Int32) (hf : fK_has K_count p1 = some y) : Met l y_K_has ws_K_has ({ frames := 0, cells := 0, slots := 0, locals := 0 }) (og_Pr [.ref (a 1), .int p1] (dC, dI) (wK_has a k K_count) (tK_has k)) (vp_Si (fun x => x = y)) 0 0 (fun _ => False) := by
  refine Met.ofW (cc := b_K_has) (maxL := 2) (ret := (some .boolean)) (by decide) rfl ?_
  intro p e s m args below meth c s₁ B hml hv
  obtain ⟨rfl, hP, hK⟩ := hv
  have hx := B.exec
  have hb := B.bytes
  have hr := B.returns
  have hts0 := atoms_spec (ws := ws_K_has) B.pre
  have hts : ∀ w ∈ og_tb, w.before _ s = true := fun w h => hts0 w (List.mem_cons_of_mem _ h)
  have hown : s.vm.findClass R_K = some m.cls := findClass_of_methodNamed B.named
  have hlocks := B.notSynchronized
  have hl := lv_entry ([.ref (a 1), .int p1]) (n := 2) (Nat.le_of_ble_eq_true rfl)
  rw [lg_entry_eq]
  generalize (lg_sl ([.ref (a 1), .int p1]) ++ List.replicate (2 - (lg_sl ([.ref (a 1), .int p1])).length) Slot.unset).toArray = ls at hl ⊢
  have hl : lv_has ls 2 [(0, .ref (a 1)), (1, .int p1)] := hl
  rw [fK_has] at hf
  refine lv_iload_n hx hb d_K_has_0 rfl (lv_at hl 1 rfl) ?_
  refine lv_if_lt (tgt := 16) hx hb d_K_has_1 (by decide) (fun c_1 => ?_) (fun c_1 => ?_)
  · have hf := og_t hf c_1
    refine lv_iconst (v := 0) hx hb d_K_has_16 (by decide) ?_
    obtain rfl := Option.some.inj hf
    exact W.zret (v := 0) hx hb hr rfl (fun t ht hW => ⟨0, rfl, rfl, ht⟩) (fun _ h => absurd h List.not_mem_nil) d_K_has_17
  · have hf := og_f hf c_1
    refine lv_iload_n hx hb d_K_has_4 rfl (lv_at hl 1 rfl) ?_
    refine lv_aload_n hx hb d_K_has_5 rfl (lv_at hl 0 rfl) ?_
    refine vg_K_count (v := .int K_count) hx hb hts hown hK hP 0 rfl (hts _ tb_0) rfl d_K_has_6 ?_
    refine lv_icmp_ge (tgt := 16) hx hb d_K_has_9 (by decide) (fun c_9 => ?_) (fun c_9 => ?_)
    · have hf := og_t hf c_9
      refine lv_iconst (v := 0) hx hb d_K_has_16 (by decide) ?_
      obtain rfl := Option.some.inj hf
      exact W.zret (v := 0) hx hb hr rfl (fun t ht hW => ⟨0, rfl, rfl, ht⟩) (fun _ h => absurd h List.not_mem_nil) d_K_has_17
    · have hf := og_f hf c_9
      refine lv_iconst (v := 1) hx hb d_K_has_12 (by decide) ?_
      refine lv_goto (tgt := 17) hx hb d_K_has_13 (by decide) ?_
      obtain rfl := Option.some.inj hf
      exact W.zret (v := 1) hx hb hr rfl (fun t ht hW => ⟨1, rfl, rfl, ht⟩) (fun _ h => absurd h List.not_mem_nil) d_K_has_17
end
section
def wM_sort (a : Nat → Nat) (k : Nat → ClassId) (M_code : Int32) (M_keys : Int32) (M_edges : Int32) (M_thenKeys : Int32) (M_thenEdges : Int32) (M_configuration : Int32) (M_parts : Int32) (M_rings : Int32) (M_metSize : Int32) (M_name : (Nat → Int32)) (M_order : (Nat → Int32)) (M_rank : (Nat → Int32)) : va_W := [(a 0, .inr (6, [.int M_code, .int M_keys, .int M_edges, .ref (a 1), .ref (a 2), .ref (a 3), .ref (a 4), .ref (a 5), .ref (a 6), .int M_thenKeys, .int M_thenEdges, .int M_configuration, .ref (a 7), .ref (a 8), .ref (a 9), .ref (a 10), .ref (a 11), .ref (a 12), .ref (a 13), .ref (a 14), .int M_parts, .int M_rings, .ref (a 15), .ref (a 16), .ref (a 17), .int M_metSize, .ref (a 18), .ref (a 19), .ref (a 20)])), (a 1, .inl (k 1, 40, .inl M_name)), (a 8, .inl (k 8, 40, .inl M_order)), (a 9, .inl (k 9, 40, .inl M_rank))]
def tM_sort (k : Nat → ClassId) : List (ClassId × FieldType) := [(k 1, .int), (k 8, .int), (k 9, .int)]
set_option maxHeartbeats 4000000 in
set_option maxRecDepth 100000 in
theorem c_M_sort (l : Launch) (dC : Nat → ClassId) (dI : Nat → Nat → Nat) (a : Nat → Nat) (k : Nat → ClassId) (sz : Nat) (M_code : Int32) (M_keys : Int32) (M_edges : Int32) (M_thenKeys : Int32) (M_thenEdges : Int32) (M_configuration : Int32) (M_parts : Int32) (M_rings : Int32) (M_metSize : Int32) (M_name : (Nat → Int32)) (M_order : (Nat → Int32)) (M_rank : (Nat → Int32)) (y : (Nat → Int32) × (Nat → Int32)) (hf : fM_sort M_keys M_name M_order M_rank = some y) : Met l y_M_sort ws_M_sort ({ frames := 0, cells := 0, slots := 0, locals := 0 }) (og_Pw [.ref (a 0)] (dC, dI) (wM_sort a k M_code M_keys M_edges M_thenKeys M_thenEdges M_configuration M_parts M_rings M_metSize M_name M_order M_rank) (tM_sort k) sz) (og_Qv (dC, dI) (wM_sort a k M_code M_keys M_edges M_thenKeys M_thenEdges M_configuration M_parts M_rings M_metSize M_name y.1 y.2) (tM_sort k) (va_A (wM_sort a k M_code M_keys M_edges M_thenKeys M_thenEdges M_configuration M_parts M_rings M_metSize M_name M_order M_rank) sz)) 0 0 (va_A (wM_sort a k M_code M_keys M_edges M_thenKeys M_thenEdges M_configuration M_parts M_rings M_metSize M_name M_order M_rank) sz) := by
  refine Met.ofW (cc := b_M_sort) (maxL := 4) (ret := none) (by decide) rfl ?_
  intro p e s m args below meth c s₁ B hml hv
  obtain ⟨rfl, hsz, hP, hK, hD0⟩ := hv
  have hx := B.exec
  have hb := B.bytes
  have hr := B.returns
  have hts0 := atoms_spec (ws := ws_M_sort) B.pre
  have hts : ∀ w ∈ og_tb, w.before _ s = true := fun w h => hts0 w (List.mem_cons_of_mem _ h)
  have hown : s.vm.findClass R_M = some m.cls := findClass_of_methodNamed B.named
  have hlocks := B.notSynchronized
  subst hsz
  have hD := hD0.self (sz := s.heap.size)
  generalize hAe : va_A (wM_sort a k M_code M_keys M_edges M_thenKeys M_thenEdges M_configuration M_parts M_rings M_metSize M_name M_order M_rank) s.heap.size = A at hD ⊢
  have hA : ∀ q : Nat, s.heap.size ≤ q → A q := fun q h => by rw [← hAe]; exact Or.inr h
  have hS : va_S A s.heap s.heap [] := va_S.rf
  have hl := lv_entry ([.ref (a 0)]) (n := 4) (Nat.le_of_ble_eq_true rfl)
  rw [lg_entry_eq]
  generalize (lg_sl ([.ref (a 0)]) ++ List.replicate (4 - (lg_sl ([.ref (a 0)])).length) Slot.unset).toArray = ls at hl ⊢
  have hl : lv_has ls 4 [(0, .ref (a 0))] := hl
  rw [fM_sort] at hf
  refine lv_iconst (v := 0) hx hb d_M_sort_0 (by decide) ?_
  refine lv_istore_n (lv' := [(1, .int 0), (0, .ref (a 0))]) hx hb d_M_sort_1 rfl hl (by decide) rfl (fun ls hl => ?_)
  have k2_71 : ∀ (M_order : (Nat → Int32)) (M_rank : (Nat → Int32)) (H : Heap) (locs : List Loc) (ls : Array Slot), fM_sort_K2_71 M_order M_rank = some y → va_P (dC, dI) vwCl (wM_sort a k M_code M_keys M_edges M_thenKeys M_thenEdges M_configuration M_parts M_rings M_metSize M_name M_order M_rank) H → va_D A (wM_sort a k M_code M_keys M_edges M_thenKeys M_thenEdges M_configuration M_parts M_rings M_metSize M_name M_order M_rank) → va_S A s.heap H locs → lv_has ls 4 [] → W p l e (headSpec ws_M_sort { frames := 0, cells := 0, slots := 0, locals := 0 }).room s m ([.ref (a 0)] : List Value).toArray below meth c H locs 0 0 (MQ below (og_Qv (dC, dI) (wM_sort a k M_code M_keys M_edges M_thenKeys M_thenEdges M_configuration M_parts M_rings M_metSize M_name y.1 y.2) (tM_sort k) A) ([.ref (a 0)] : List Value).toArray s 0 0 A) (F0 m 71 ls []) := by
    intro M_order M_rank H locs ls hf hP hD hS hl
    rw [fM_sort_K2_71] at hf
    obtain rfl := Option.some.inj hf
    exact W.vret hx hb hr (fun t ht hW => ⟨⟨(), rfl, trivial, by rw [ht]; exact hP, va_K.moved hW.alike hK, hD⟩, hS.F ht⟩) hS.2.2 d_M_sort_71
  have lp2 : ∀ (n2 : Nat) (v1 : Int32) (M_order : (Nat → Int32)) (M_rank : (Nat → Int32)) (H : Heap) (locs : List Loc) (ls : Array Slot), fM_sort_L2 fM_sort_K2_71 M_keys M_name n2 v1 M_order M_rank = some y → va_P (dC, dI) vwCl (wM_sort a k M_code M_keys M_edges M_thenKeys M_thenEdges M_configuration M_parts M_rings M_metSize M_name M_order M_rank) H → va_D A (wM_sort a k M_code M_keys M_edges M_thenKeys M_thenEdges M_configuration M_parts M_rings M_metSize M_name M_order M_rank) → va_S A s.heap H locs → lv_has ls 4 [(0, .ref (a 0)), (1, .int v1)] → W p l e (headSpec ws_M_sort { frames := 0, cells := 0, slots := 0, locals := 0 }).room s m ([.ref (a 0)] : List Value).toArray below meth c H locs 0 0 (MQ below (og_Qv (dC, dI) (wM_sort a k M_code M_keys M_edges M_thenKeys M_thenEdges M_configuration M_parts M_rings M_metSize M_name y.1 y.2) (tM_sort k) A) ([.ref (a 0)] : List Value).toArray s 0 0 A) (F0 m 2 ls []) := by
    intro n2
    induction n2 with
    | zero => intro v1 M_order M_rank H locs ls hf hP hD hS hl; rw [fM_sort_L2] at hf; cases hf
    | succ n2 ih2 =>
      intro v1 M_order M_rank H locs ls hf hP hD hS hl
      rw [fM_sort_L2] at hf
      refine lv_iload_n hx hb d_M_sort_2 rfl (lv_at hl 1 rfl) ?_
      refine lv_aload_n hx hb d_M_sort_3 rfl (lv_at hl 0 rfl) ?_
      refine vg_M_keys (v := .int M_keys) hx hb hts hown hK hP 0 rfl (hts _ tb_253) rfl d_M_sort_4 ?_
      refine lv_icmp_ge (tgt := 71) hx hb d_M_sort_7 (by decide) (fun c_7 => ?_) (fun c_7 => ?_)
      · have hf := og_t hf c_7
        exact k2_71 M_order M_rank _ _ _ hf hP hD hS (lv_sub hl [] rfl)
      · have hf := og_f hf c_7
        refine lv_iconst (v := 0) hx hb d_M_sort_10 (by decide) ?_
        refine lv_istore_n (lv' := [(2, .int 0), (0, .ref (a 0)), (1, .int v1)]) hx hb d_M_sort_11 rfl hl (by decide) rfl (fun ls hl => ?_)
        refine lv_iconst (v := 0) hx hb d_M_sort_12 (by decide) ?_
        refine lv_istore_n (lv' := [(3, .int 0), (2, .int 0), (0, .ref (a 0)), (1, .int v1)]) hx hb d_M_sort_13 rfl hl (by decide) rfl (fun ls hl => ?_)
        have k14_51 : ∀ (v2 : Int32) (H : Heap) (locs : List Loc) (ls : Array Slot), fM_sort_K14_51 (fun a0 a1 a2 => fM_sort_L2 fM_sort_K2_71 M_keys M_name n2 a0 a1 a2) M_order M_rank v1 v2 = some y → va_P (dC, dI) vwCl (wM_sort a k M_code M_keys M_edges M_thenKeys M_thenEdges M_configuration M_parts M_rings M_metSize M_name M_order M_rank) H → va_D A (wM_sort a k M_code M_keys M_edges M_thenKeys M_thenEdges M_configuration M_parts M_rings M_metSize M_name M_order M_rank) → va_S A s.heap H locs → lv_has ls 4 [(0, .ref (a 0)), (1, .int v1), (2, .int v2)] → W p l e (headSpec ws_M_sort { frames := 0, cells := 0, slots := 0, locals := 0 }).room s m ([.ref (a 0)] : List Value).toArray below meth c H locs 0 0 (MQ below (og_Qv (dC, dI) (wM_sort a k M_code M_keys M_edges M_thenKeys M_thenEdges M_configuration M_parts M_rings M_metSize M_name y.1 y.2) (tM_sort k) A) ([.ref (a 0)] : List Value).toArray s 0 0 A) (F0 m 51 ls []) := by
          intro v2 H locs ls hf hP hD hS hl
          rw [fM_sort_K14_51] at hf
          refine lv_aload_n hx hb d_M_sort_51 rfl (lv_at hl 0 rfl) ?_
          refine vg_M_order (v := .ref (a 8)) hx hb hts hown hK hP 0 rfl (hts _ tb_268) rfl d_M_sort_52 ?_
          refine lv_iload_n hx hb d_M_sort_55 rfl (lv_at hl 2 rfl) ?_
          refine lv_iload_n hx hb d_M_sort_56 rfl (lv_at hl 1 rfl) ?_
          obtain ⟨h_57, hf⟩ := og_ck_s hf
          refine va_iast hx hb hK hP hD hS 2 1 rfl rfl h_57 d_M_sort_57 (fun H locs hP hD hS => ?_)
          have hP : va_P (dC, dI) vwCl (wM_sort a k M_code M_keys M_edges M_thenKeys M_thenEdges M_configuration M_parts M_rings M_metSize M_name (upd M_order v2.toNatClampNeg v1) M_rank) H := hP
          have hD : va_D A (wM_sort a k M_code M_keys M_edges M_thenKeys M_thenEdges M_configuration M_parts M_rings M_metSize M_name (upd M_order v2.toNatClampNeg v1) M_rank) := hD
          refine lv_aload_n hx hb d_M_sort_58 rfl (lv_at hl 0 rfl) ?_
          refine vg_M_rank (v := .ref (a 9)) hx hb hts hown hK hP 0 rfl (hts _ tb_269) rfl d_M_sort_59 ?_
          refine lv_iload_n hx hb d_M_sort_62 rfl (lv_at hl 1 rfl) ?_
          refine lv_iload_n hx hb d_M_sort_63 rfl (lv_at hl 2 rfl) ?_
          obtain ⟨h_64, hf⟩ := og_ck_s hf
          refine va_iast hx hb hK hP hD hS 3 2 rfl rfl h_64 d_M_sort_64 (fun H locs hP hD hS => ?_)
          have hP : va_P (dC, dI) vwCl (wM_sort a k M_code M_keys M_edges M_thenKeys M_thenEdges M_configuration M_parts M_rings M_metSize M_name (upd M_order v2.toNatClampNeg v1) (upd M_rank v1.toNatClampNeg v2)) H := hP
          have hD : va_D A (wM_sort a k M_code M_keys M_edges M_thenKeys M_thenEdges M_configuration M_parts M_rings M_metSize M_name (upd M_order v2.toNatClampNeg v1) (upd M_rank v1.toNatClampNeg v2)) := hD
          refine lv_iinc (v := (v1 + 1)) (lv' := [(1, .int (v1 + 1)), (0, .ref (a 0)), (2, .int v2)]) hx hb d_M_sort_65 hl (k := 1) rfl rfl (by decide) rfl (fun ls hl => ?_)
          refine lv_goto (tgt := 2) hx hb d_M_sort_68 (by decide) ?_
          exact ih2 (v1 + 1) (upd M_order v2.toNatClampNeg v1) (upd M_rank v1.toNatClampNeg v2) _ _ _ hf hP hD hS (lv_sub hl [1, 0] rfl)
        have lp14 : ∀ (n14 : Nat) (v2 : Int32) (v3 : Int32) (H : Heap) (locs : List Loc) (ls : Array Slot), fM_sort_L14 (fM_sort_K14_51 (fun a0 a1 a2 => fM_sort_L2 fM_sort_K2_71 M_keys M_name n2 a0 a1 a2) M_order M_rank v1) M_keys M_name v1 n14 v2 v3 = some y → va_P (dC, dI) vwCl (wM_sort a k M_code M_keys M_edges M_thenKeys M_thenEdges M_configuration M_parts M_rings M_metSize M_name M_order M_rank) H → va_D A (wM_sort a k M_code M_keys M_edges M_thenKeys M_thenEdges M_configuration M_parts M_rings M_metSize M_name M_order M_rank) → va_S A s.heap H locs → lv_has ls 4 [(0, .ref (a 0)), (1, .int v1), (2, .int v2), (3, .int v3)] → W p l e (headSpec ws_M_sort { frames := 0, cells := 0, slots := 0, locals := 0 }).room s m ([.ref (a 0)] : List Value).toArray below meth c H locs 0 0 (MQ below (og_Qv (dC, dI) (wM_sort a k M_code M_keys M_edges M_thenKeys M_thenEdges M_configuration M_parts M_rings M_metSize M_name y.1 y.2) (tM_sort k) A) ([.ref (a 0)] : List Value).toArray s 0 0 A) (F0 m 14 ls []) := by
          intro n14
          induction n14 with
          | zero => intro v2 v3 H locs ls hf hP hD hS hl; rw [fM_sort_L14] at hf; cases hf
          | succ n14 ih14 =>
            intro v2 v3 H locs ls hf hP hD hS hl
            rw [fM_sort_L14] at hf
            refine lv_iload_n hx hb d_M_sort_14 rfl (lv_at hl 3 rfl) ?_
            refine lv_aload_n hx hb d_M_sort_15 rfl (lv_at hl 0 rfl) ?_
            refine vg_M_keys (v := .int M_keys) hx hb hts hown hK hP 0 rfl (hts _ tb_253) rfl d_M_sort_16 ?_
            refine lv_icmp_ge (tgt := 51) hx hb d_M_sort_19 (by decide) (fun c_19 => ?_) (fun c_19 => ?_)
            · have hf := og_t hf c_19
              exact k14_51 v2 _ _ _ hf hP hD hS (lv_sub hl [0, 1, 2] rfl)
            · have hf := og_f hf c_19
              refine lv_iload_n hx hb d_M_sort_22 rfl (lv_at hl 2 rfl) ?_
              refine lv_aload_n hx hb d_M_sort_23 rfl (lv_at hl 0 rfl) ?_
              refine vg_M_name (v := .ref (a 1)) hx hb hts hown hK hP 0 rfl (hts _ tb_255) rfl d_M_sort_24 ?_
              refine lv_iload_n hx hb d_M_sort_27 rfl (lv_at hl 3 rfl) ?_
              obtain ⟨h_28, hf⟩ := og_ck_s hf
              refine va_iald hx hb hK hP 1 0 rfl rfl h_28 d_M_sort_28 ?_
              refine lv_aload_n hx hb d_M_sort_29 rfl (lv_at hl 0 rfl) ?_
              refine vg_M_name (v := .ref (a 1)) hx hb hts hown hK hP 0 rfl (hts _ tb_255) rfl d_M_sort_30 ?_
              refine lv_iload_n hx hb d_M_sort_33 rfl (lv_at hl 1 rfl) ?_
              obtain ⟨h_34, hf⟩ := og_ck_s hf
              refine va_iald hx hb hK hP 1 0 rfl rfl h_34 d_M_sort_34 ?_
              refine lv_icmp_ge (tgt := 42) hx hb d_M_sort_35 (by decide) (fun c_35 => ?_) (fun c_35 => ?_)
              · have hf := og_t hf c_35
                refine lv_iconst (v := 0) hx hb d_M_sort_42 (by decide) ?_
                refine lv_iadd hx hb d_M_sort_43 ?_
                refine lv_istore_n (lv' := [(2, .int (v2 + 0)), (0, .ref (a 0)), (1, .int v1), (3, .int v3)]) hx hb d_M_sort_44 rfl hl (by decide) rfl (fun ls hl => ?_)
                refine lv_iinc (v := (v3 + 1)) (lv' := [(3, .int (v3 + 1)), (2, .int (v2 + 0)), (0, .ref (a 0)), (1, .int v1)]) hx hb d_M_sort_45 hl (k := 3) rfl rfl (by decide) rfl (fun ls hl => ?_)
                refine lv_goto (tgt := 14) hx hb d_M_sort_48 (by decide) ?_
                exact ih14 (v2 + 0) (v3 + 1) _ _ _ hf hP hD hS (lv_sub hl [2, 3, 1, 0] rfl)
              · have hf := og_f hf c_35
                refine lv_iconst (v := 1) hx hb d_M_sort_38 (by decide) ?_
                refine lv_goto (tgt := 43) hx hb d_M_sort_39 (by decide) ?_
                refine lv_iadd hx hb d_M_sort_43 ?_
                refine lv_istore_n (lv' := [(2, .int (v2 + 1)), (0, .ref (a 0)), (1, .int v1), (3, .int v3)]) hx hb d_M_sort_44 rfl hl (by decide) rfl (fun ls hl => ?_)
                refine lv_iinc (v := (v3 + 1)) (lv' := [(3, .int (v3 + 1)), (2, .int (v2 + 1)), (0, .ref (a 0)), (1, .int v1)]) hx hb d_M_sort_45 hl (k := 3) rfl rfl (by decide) rfl (fun ls hl => ?_)
                refine lv_goto (tgt := 14) hx hb d_M_sort_48 (by decide) ?_
                exact ih14 (v2 + 1) (v3 + 1) _ _ _ hf hP hD hS (lv_sub hl [2, 3, 1, 0] rfl)
        exact lp14 FU 0 0 _ _ _ hf hP hD hS (lv_sub hl [2, 3, 1, 0] rfl)
  exact lp2 FU 0 M_order M_rank _ _ _ hf hP hD hS (lv_sub hl [1, 0] rfl)
end
