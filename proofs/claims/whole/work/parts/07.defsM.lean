noncomputable def fM_isKey (M_keys : Int32) (p1 : Int32) : Option (Int32) :=
  if p1 < 0 then
    some 0
  else
    if M_keys ≤ p1 then
      some 0
    else
      some 1
noncomputable def fM_key_K22_56 (M_code : Int32) (M_keys : Int32) (M_name : (Nat → Int32)) (p1 : Int32) (v2 : Int32) : Option (Int32 × Int32 × Int32 × (Nat → Int32)) :=
  if v2 = 0 then
    og_ck M_keys 40 <|
    some (((M_keys + 1) - 1), M_code, (M_keys + 1), (upd M_name M_keys.toNatClampNeg p1))
  else
    some ((-1), M_code, M_keys, M_name)
noncomputable def fM_key_L22 (k22_56 : Int32 → Option (Int32 × Int32 × Int32 × (Nat → Int32))) (M_keys : Int32) (M_name : (Nat → Int32)) (p1 : Int32) : Nat → Int32 → Int32 → Option (Int32 × Int32 × Int32 × (Nat → Int32))
  | 0, _, _ => none
  | n + 1, v2, v3 =>
    if M_keys ≤ v3 then
      k22_56 v2
    else
      if v2 = 0 then
        og_ck v3 40 <|
        if (M_name v3.toNatClampNeg) = p1 then
          fM_key_L22 k22_56 M_keys M_name p1 n 1 (v3 + 1)
        else
          fM_key_L22 k22_56 M_keys M_name p1 n 0 (v3 + 1)
      else
        fM_key_L22 k22_56 M_keys M_name p1 n 1 (v3 + 1)
noncomputable def fM_key_J19 (M_code : Int32) (M_keys : Int32) (M_name : (Nat → Int32)) (p1 : Int32) (s19_0 : Int32) : Option (Int32 × Int32 × Int32 × (Nat → Int32)) :=
  fM_key_L22 (fM_key_K22_56 M_code M_keys M_name p1) M_keys M_name p1 FU s19_0 0
noncomputable def fM_key (M_code : Int32) (M_keys : Int32) (M_name : (Nat → Int32)) (p1 : Int32) : Option (Int32 × Int32 × Int32 × (Nat → Int32)) :=
  if M_keys = 40 then
    fM_key_J19 0 M_keys M_name p1 1
  else
    fM_key_J19 0 M_keys M_name p1 0
noncomputable def fM_edge (M_code : Int32) (M_keys : Int32) (M_edges : Int32) (M_from : (Nat → Int32)) (M_to : (Nat → Int32)) (M_place : (Nat → Int32)) (M_bits : (Nat → Int32)) (p1 : Int32) (p2 : Int32) (p3 : Int32) (p4 : Int32) : Option (Int32 × Int32 × Int32 × (Nat → Int32) × (Nat → Int32) × (Nat → Int32) × (Nat → Int32)) :=
  (fM_isKey M_keys p1).bind fun r7 =>
  if r7 = 0 then
    some ((-1), 0, M_edges, M_from, M_to, M_place, M_bits)
  else
    (fM_isKey M_keys p2).bind fun r15 =>
    if r15 = 0 then
      some ((-1), 0, M_edges, M_from, M_to, M_place, M_bits)
    else
      if M_edges = 160 then
        some ((-1), 0, M_edges, M_from, M_to, M_place, M_bits)
      else
        og_ck M_edges 160 <|
        og_ck M_edges 160 <|
        og_ck M_edges 160 <|
        og_ck M_edges 160 <|
        some (((M_edges + 1) - 1), 0, (M_edges + 1), (upd M_from M_edges.toNatClampNeg p1), (upd M_to M_edges.toNatClampNeg p2), (upd M_place M_edges.toNatClampNeg p3), (upd M_bits M_edges.toNatClampNeg p4))
noncomputable def fM_remove_K10_71 (M_code : Int32) (v3 : Int32) (M_gone : (Nat → Int32)) : Option (Int32 × Int32 × (Nat → Int32)) :=
  some (v3, M_code, M_gone)
noncomputable def fM_remove_L10 (k10_71 : Int32 → (Nat → Int32) → Option (Int32 × Int32 × (Nat → Int32))) (M_edges : Int32) (M_from : (Nat → Int32)) (M_to : (Nat → Int32)) (p1 : Int32) (p2 : Int32) : Nat → Int32 → Int32 → (Nat → Int32) → Option (Int32 × Int32 × (Nat → Int32))
  | 0, _, _, _ => none
  | n + 1, v3, v4, M_gone =>
    if M_edges ≤ v4 then
      k10_71 v3 M_gone
    else
      og_ck v4 160 <|
      if (M_gone v4.toNatClampNeg) = 0 then
        og_ck v4 160 <|
        if (M_from v4.toNatClampNeg) = p1 then
          og_ck v4 160 <|
          if (M_to v4.toNatClampNeg) = p2 then
            og_ck v4 160 <|
            fM_remove_L10 k10_71 M_edges M_from M_to p1 p2 n (v3 + 1) (v4 + 1) (upd M_gone v4.toNatClampNeg (vp_nar .boolean 1))
          else
            fM_remove_L10 k10_71 M_edges M_from M_to p1 p2 n v3 (v4 + 1) M_gone
        else
          fM_remove_L10 k10_71 M_edges M_from M_to p1 p2 n v3 (v4 + 1) M_gone
      else
        fM_remove_L10 k10_71 M_edges M_from M_to p1 p2 n v3 (v4 + 1) M_gone
noncomputable def fM_remove (M_code : Int32) (M_edges : Int32) (M_from : (Nat → Int32)) (M_to : (Nat → Int32)) (M_gone : (Nat → Int32)) (p1 : Int32) (p2 : Int32) : Option (Int32 × Int32 × (Nat → Int32)) :=
  fM_remove_L10 (fM_remove_K10_71 0) M_edges M_from M_to p1 p2 FU 0 0 M_gone
noncomputable def fM_cut (M_code : Int32) (M_edges : Int32) (M_gone : (Nat → Int32)) (p1 : Int32) : Option (Int32 × Int32 × (Nat → Int32)) :=
  if p1 < 0 then
    some (0, 0, M_gone)
  else
    if M_edges ≤ p1 then
      some (0, 0, M_gone)
    else
      og_ck p1 160 <|
      if (M_gone p1.toNatClampNeg) = 0 then
        og_ck p1 160 <|
        some (1, 0, (upd M_gone p1.toNatClampNeg (vp_nar .boolean 1)))
      else
        some (0, 0, M_gone)
noncomputable def fM_isThen (M_bits : (Nat → Int32)) (M_thenGone : (Nat → Int32)) (p1 : Int32) (p2 : Int32) : Option (Int32) :=
  og_ck p1 160 <|
  if (M_thenGone p1.toNatClampNeg) = 0 then
    og_ck p1 160 <|
    if (((M_bits p1.toNatClampNeg) >>> (p2 &&& 31)) &&& 1) = 1 then
      some 1
    else
      some 0
  else
    some 0
noncomputable def fM_sort_K2_71 (M_order : (Nat → Int32)) (M_rank : (Nat → Int32)) : Option ((Nat → Int32) × (Nat → Int32)) :=
  some (M_order, M_rank)
noncomputable def fM_sort_K14_51 (c2 : Int32 → (Nat → Int32) → (Nat → Int32) → Option ((Nat → Int32) × (Nat → Int32))) (M_order : (Nat → Int32)) (M_rank : (Nat → Int32)) (v1 : Int32) (v2 : Int32) : Option ((Nat → Int32) × (Nat → Int32)) :=
  og_ck v2 40 <|
  og_ck v1 40 <|
  c2 (v1 + 1) (upd M_order v2.toNatClampNeg v1) (upd M_rank v1.toNatClampNeg v2)
noncomputable def fM_sort_L14 (k14_51 : Int32 → Option ((Nat → Int32) × (Nat → Int32))) (M_keys : Int32) (M_name : (Nat → Int32)) (v1 : Int32) : Nat → Int32 → Int32 → Option ((Nat → Int32) × (Nat → Int32))
  | 0, _, _ => none
  | n + 1, v2, v3 =>
    if M_keys ≤ v3 then
      k14_51 v2
    else
      og_ck v3 40 <|
      og_ck v1 40 <|
      if (M_name v1.toNatClampNeg) ≤ (M_name v3.toNatClampNeg) then
        fM_sort_L14 k14_51 M_keys M_name v1 n (v2 + 0) (v3 + 1)
      else
        fM_sort_L14 k14_51 M_keys M_name v1 n (v2 + 1) (v3 + 1)
noncomputable def fM_sort_L2 (k2_71 : (Nat → Int32) → (Nat → Int32) → Option ((Nat → Int32) × (Nat → Int32))) (M_keys : Int32) (M_name : (Nat → Int32)) : Nat → Int32 → (Nat → Int32) → (Nat → Int32) → Option ((Nat → Int32) × (Nat → Int32))
  | 0, _, _, _ => none
  | n + 1, v1, M_order, M_rank =>
    if M_keys ≤ v1 then
      k2_71 M_order M_rank
    else
      fM_sort_L14 (fM_sort_K14_51 (fun a0 a1 a2 => fM_sort_L2 k2_71 M_keys M_name n a0 a1 a2) M_order M_rank v1) M_keys M_name v1 FU 0 0
noncomputable def fM_sort (M_keys : Int32) (M_name : (Nat → Int32)) (M_order : (Nat → Int32)) (M_rank : (Nat → Int32)) : Option ((Nat → Int32) × (Nat → Int32)) :=
  fM_sort_L2 fM_sort_K2_71 M_keys M_name FU 0 M_order M_rank
noncomputable def fM_cell (p0 : Int32) (p1 : Int32) : Option (Int32) :=
  some ((40 * p0) + p1)
noncomputable def fM_close_K224_260 (M_asks : (Nat → Int32)) (M_steps : (Nat → Int32)) (M_reaches : (Nat → Int32)) : Option ((Nat → Int32) × (Nat → Int32) × (Nat → Int32)) :=
  some (M_asks, M_reaches, M_steps)
noncomputable def fM_close_L224 (k224_260 : (Nat → Int32) → Option ((Nat → Int32) × (Nat → Int32) × (Nat → Int32))) (M_steps : (Nat → Int32)) : Nat → Int32 → (Nat → Int32) → Option ((Nat → Int32) × (Nat → Int32) × (Nat → Int32))
  | 0, _, _ => none
  | n + 1, v1, M_reaches =>
    if 1600 ≤ v1 then
      k224_260 M_reaches
    else
      og_ck v1 1600 <|
      if 1000 ≤ (M_steps v1.toNatClampNeg) then
        og_ck v1 1600 <|
        fM_close_L224 k224_260 M_steps n (v1 + 1) (upd M_reaches v1.toNatClampNeg (vp_nar .boolean 0))
      else
        og_ck v1 1600 <|
        fM_close_L224 k224_260 M_steps n (v1 + 1) (upd M_reaches v1.toNatClampNeg (vp_nar .boolean 1))
noncomputable def fM_close_K126_222 (M_asks : (Nat → Int32)) (M_reaches : (Nat → Int32)) (M_steps : (Nat → Int32)) : Option ((Nat → Int32) × (Nat → Int32) × (Nat → Int32)) :=
  fM_close_L224 (fM_close_K224_260 M_asks M_steps) M_steps FU 0 M_reaches
noncomputable def fM_close_K136_216 (c126 : Int32 → (Nat → Int32) → Option ((Nat → Int32) × (Nat → Int32) × (Nat → Int32))) (v1 : Int32) (M_steps : (Nat → Int32)) : Option ((Nat → Int32) × (Nat → Int32) × (Nat → Int32)) :=
  c126 (v1 + 1) M_steps
noncomputable def fM_close_K146_210 (c136 : Int32 → (Nat → Int32) → Option ((Nat → Int32) × (Nat → Int32) × (Nat → Int32))) (v2 : Int32) (M_steps : (Nat → Int32)) : Option ((Nat → Int32) × (Nat → Int32) × (Nat → Int32)) :=
  c136 (v2 + 1) M_steps
noncomputable def fM_close_L146 (k146_210 : (Nat → Int32) → Option ((Nat → Int32) × (Nat → Int32) × (Nat → Int32))) (M_thenKeys : Int32) (v1 : Int32) (v2 : Int32) : Nat → Int32 → (Nat → Int32) → Option ((Nat → Int32) × (Nat → Int32) × (Nat → Int32))
  | 0, _, _ => none
  | n + 1, v3, M_steps =>
    if M_thenKeys ≤ v3 then
      k146_210 M_steps
    else
      (fM_cell v2 v1).bind fun r160 =>
      og_ck r160 1600 <|
      (fM_cell v1 v3).bind fun r170 =>
      og_ck r170 1600 <|
      (fM_cell v2 v3).bind fun r185 =>
      og_ck r185 1600 <|
      if (M_steps r185.toNatClampNeg) ≤ ((M_steps r160.toNatClampNeg) + (M_steps r170.toNatClampNeg)) then
        fM_close_L146 k146_210 M_thenKeys v1 v2 n (v3 + 1) M_steps
      else
        (fM_cell v2 v3).bind fun r198 =>
        og_ck r198 1600 <|
        fM_close_L146 k146_210 M_thenKeys v1 v2 n (v3 + 1) (upd M_steps r198.toNatClampNeg ((M_steps r160.toNatClampNeg) + (M_steps r170.toNatClampNeg)))
noncomputable def fM_close_L136 (k136_216 : (Nat → Int32) → Option ((Nat → Int32) × (Nat → Int32) × (Nat → Int32))) (M_thenKeys : Int32) (v1 : Int32) : Nat → Int32 → (Nat → Int32) → Option ((Nat → Int32) × (Nat → Int32) × (Nat → Int32))
  | 0, _, _ => none
  | n + 1, v2, M_steps =>
    if M_thenKeys ≤ v2 then
      k136_216 M_steps
    else
      fM_close_L146 (fM_close_K146_210 (fun a0 a1 => fM_close_L136 k136_216 M_thenKeys v1 n a0 a1) v2) M_thenKeys v1 v2 FU 0 M_steps
noncomputable def fM_close_L126 (k126_222 : (Nat → Int32) → Option ((Nat → Int32) × (Nat → Int32) × (Nat → Int32))) (M_thenKeys : Int32) : Nat → Int32 → (Nat → Int32) → Option ((Nat → Int32) × (Nat → Int32) × (Nat → Int32))
  | 0, _, _ => none
  | n + 1, v1, M_steps =>
    if M_thenKeys ≤ v1 then
      k126_222 M_steps
    else
      fM_close_L136 (fM_close_K136_216 (fun a0 a1 => fM_close_L126 k126_222 M_thenKeys n a0 a1) v1) M_thenKeys v1 FU 0 M_steps
noncomputable def fM_close_K33_124 (M_thenKeys : Int32) (M_reaches : (Nat → Int32)) (M_asks : (Nat → Int32)) (M_steps : (Nat → Int32)) : Option ((Nat → Int32) × (Nat → Int32) × (Nat → Int32)) :=
  fM_close_L126 (fM_close_K126_222 M_asks M_reaches) M_thenKeys FU 0 M_steps
noncomputable def fM_close_L33 (k33_124 : (Nat → Int32) → (Nat → Int32) → Option ((Nat → Int32) × (Nat → Int32) × (Nat → Int32))) (M_from : (Nat → Int32)) (M_to : (Nat → Int32)) (M_bits : (Nat → Int32)) (M_thenEdges : Int32) (M_configuration : Int32) (M_thenGone : (Nat → Int32)) (M_rank : (Nat → Int32)) : Nat → Int32 → (Nat → Int32) → (Nat → Int32) → Option ((Nat → Int32) × (Nat → Int32) × (Nat → Int32))
  | 0, _, _, _ => none
  | n + 1, v1, M_asks, M_steps =>
    if M_thenEdges ≤ v1 then
      k33_124 M_asks M_steps
    else
      (fM_isThen M_bits M_thenGone v1 M_configuration).bind fun r47 =>
      if r47 = 0 then
        fM_close_L33 k33_124 M_from M_to M_bits M_thenEdges M_configuration M_thenGone M_rank n (v1 + 1) M_asks M_steps
      else
        og_ck v1 160 <|
        og_ck (M_from v1.toNatClampNeg) 40 <|
        og_ck v1 160 <|
        og_ck (M_to v1.toNatClampNeg) 40 <|
        (fM_cell (M_rank (M_from v1.toNatClampNeg).toNatClampNeg) (M_rank (M_to v1.toNatClampNeg).toNatClampNeg)).bind fun r82 =>
        og_ck r82 1600 <|
        og_ck v1 160 <|
        og_ck (M_from v1.toNatClampNeg) 40 <|
        og_ck v1 160 <|
        og_ck (M_to v1.toNatClampNeg) 40 <|
        (fM_cell (M_rank (M_from v1.toNatClampNeg).toNatClampNeg) (M_rank (M_to v1.toNatClampNeg).toNatClampNeg)).bind fun r113 =>
        og_ck r113 1600 <|
        fM_close_L33 k33_124 M_from M_to M_bits M_thenEdges M_configuration M_thenGone M_rank n (v1 + 1) (upd M_asks r82.toNatClampNeg (vp_nar .boolean 1)) (upd M_steps r113.toNatClampNeg 1)
noncomputable def fM_close_K2_31 (M_from : (Nat → Int32)) (M_to : (Nat → Int32)) (M_bits : (Nat → Int32)) (M_thenKeys : Int32) (M_thenEdges : Int32) (M_configuration : Int32) (M_thenGone : (Nat → Int32)) (M_rank : (Nat → Int32)) (M_reaches : (Nat → Int32)) (M_asks : (Nat → Int32)) (M_steps : (Nat → Int32)) : Option ((Nat → Int32) × (Nat → Int32) × (Nat → Int32)) :=
  fM_close_L33 (fM_close_K33_124 M_thenKeys M_reaches) M_from M_to M_bits M_thenEdges M_configuration M_thenGone M_rank FU 0 M_asks M_steps
noncomputable def fM_close_L2 (k2_31 : (Nat → Int32) → (Nat → Int32) → Option ((Nat → Int32) × (Nat → Int32) × (Nat → Int32))) : Nat → Int32 → (Nat → Int32) → (Nat → Int32) → Option ((Nat → Int32) × (Nat → Int32) × (Nat → Int32))
  | 0, _, _, _ => none
  | n + 1, v1, M_asks, M_steps =>
    if 1600 ≤ v1 then
      k2_31 M_asks M_steps
    else
      og_ck v1 1600 <|
      og_ck v1 1600 <|
      fM_close_L2 k2_31 n (v1 + 1) (upd M_asks v1.toNatClampNeg (vp_nar .boolean 0)) (upd M_steps v1.toNatClampNeg 1000)
noncomputable def fM_close (M_from : (Nat → Int32)) (M_to : (Nat → Int32)) (M_bits : (Nat → Int32)) (M_thenKeys : Int32) (M_thenEdges : Int32) (M_configuration : Int32) (M_thenGone : (Nat → Int32)) (M_rank : (Nat → Int32)) (M_asks : (Nat → Int32)) (M_reaches : (Nat → Int32)) (M_steps : (Nat → Int32)) : Option ((Nat → Int32) × (Nat → Int32) × (Nat → Int32)) :=
  fM_close_L2 (fM_close_K2_31 M_from M_to M_bits M_thenKeys M_thenEdges M_configuration M_thenGone M_rank M_reaches) FU 0 M_asks M_steps
noncomputable def fM_isTogether (M_reaches : (Nat → Int32)) (p1 : Int32) (p2 : Int32) : Option (Int32) :=
  if p1 = p2 then
    some 1
  else
    (fM_cell p1 p2).bind fun r11 =>
    og_ck r11 1600 <|
    if (M_reaches r11.toNatClampNeg) = 0 then
      some 0
    else
      (fM_cell p2 p1).bind fun r24 =>
      og_ck r24 1600 <|
      if (M_reaches r24.toNatClampNeg) = 0 then
        some 0
      else
        some 1
noncomputable def fM_cutIntoParts_K7_132 (M_part : (Nat → Int32)) (M_shortest : (Nat → Int32)) (M_parts : Int32) : Option ((Nat → Int32) × (Nat → Int32) × Int32) :=
  some (M_part, M_shortest, M_parts)
noncomputable def fM_cutIntoParts_J89 (c7 : Int32 → (Nat → Int32) → (Nat → Int32) → Int32 → Option ((Nat → Int32) × (Nat → Int32) × Int32)) (M_part : (Nat → Int32)) (M_shortest : (Nat → Int32)) (M_reaches : (Nat → Int32)) (M_steps : (Nat → Int32)) (v1 : Int32) (s89_1 : Int32) (s89_2 : Int32) : Option ((Nat → Int32) × (Nat → Int32) × Int32) :=
  (fM_cell v1 v1).bind fun r104 =>
  og_ck r104 1600 <|
  if (M_reaches r104.toNatClampNeg) = 0 then
    og_ck v1 40 <|
    c7 (v1 + 1) M_part (upd M_shortest v1.toNatClampNeg 0) (s89_1 + s89_2)
  else
    (fM_cell v1 v1).bind fun r117 =>
    og_ck r117 1600 <|
    og_ck v1 40 <|
    c7 (v1 + 1) M_part (upd M_shortest v1.toNatClampNeg (M_steps r117.toNatClampNeg)) (s89_1 + s89_2)
noncomputable def fM_cutIntoParts_J73 (c7 : Int32 → (Nat → Int32) → (Nat → Int32) → Int32 → Option ((Nat → Int32) × (Nat → Int32) × Int32)) (M_part : (Nat → Int32)) (M_shortest : (Nat → Int32)) (M_reaches : (Nat → Int32)) (M_steps : (Nat → Int32)) (M_parts : Int32) (v1 : Int32) (v2 : Int32) (s73_1 : Int32) (s73_2 : Int32) : Option ((Nat → Int32) × (Nat → Int32) × Int32) :=
  og_ck s73_1 40 <|
  if v2 = (-1) then
    fM_cutIntoParts_J89 c7 (upd M_part s73_1.toNatClampNeg s73_2) M_shortest M_reaches M_steps v1 M_parts 1
  else
    fM_cutIntoParts_J89 c7 (upd M_part s73_1.toNatClampNeg s73_2) M_shortest M_reaches M_steps v1 M_parts 0
noncomputable def fM_cutIntoParts_K19_55 (c7 : Int32 → (Nat → Int32) → (Nat → Int32) → Int32 → Option ((Nat → Int32) × (Nat → Int32) × Int32)) (M_part : (Nat → Int32)) (M_shortest : (Nat → Int32)) (M_reaches : (Nat → Int32)) (M_steps : (Nat → Int32)) (M_parts : Int32) (v1 : Int32) (v2 : Int32) : Option ((Nat → Int32) × (Nat → Int32) × Int32) :=
  if v2 = (-1) then
    fM_cutIntoParts_J73 c7 M_part M_shortest M_reaches M_steps M_parts v1 v2 v1 M_parts
  else
    fM_cutIntoParts_J73 c7 M_part M_shortest M_reaches M_steps M_parts v1 v2 v1 v2
noncomputable def fM_cutIntoParts_L19 (k19_55 : Int32 → Option ((Nat → Int32) × (Nat → Int32) × Int32)) (M_part : (Nat → Int32)) (M_reaches : (Nat → Int32)) (v1 : Int32) : Nat → Int32 → Int32 → Option ((Nat → Int32) × (Nat → Int32) × Int32)
  | 0, _, _ => none
  | n + 1, v2, v3 =>
    if v1 ≤ v3 then
      k19_55 v2
    else
      if v2 = (-1) then
        (fM_isTogether M_reaches v1 v3).bind fun r32 =>
        if r32 = 0 then
          fM_cutIntoParts_L19 k19_55 M_part M_reaches v1 n (-1) (v3 + 1)
        else
          og_ck v3 40 <|
          fM_cutIntoParts_L19 k19_55 M_part M_reaches v1 n (M_part v3.toNatClampNeg) (v3 + 1)
      else
        k19_55 v2
noncomputable def fM_cutIntoParts_L7 (k7_132 : (Nat → Int32) → (Nat → Int32) → Int32 → Option ((Nat → Int32) × (Nat → Int32) × Int32)) (M_thenKeys : Int32) (M_reaches : (Nat → Int32)) (M_steps : (Nat → Int32)) : Nat → Int32 → (Nat → Int32) → (Nat → Int32) → Int32 → Option ((Nat → Int32) × (Nat → Int32) × Int32)
  | 0, _, _, _, _ => none
  | n + 1, v1, M_part, M_shortest, M_parts =>
    if M_thenKeys ≤ v1 then
      k7_132 M_part M_shortest M_parts
    else
      fM_cutIntoParts_L19 (fM_cutIntoParts_K19_55 (fun a0 a1 a2 a3 => fM_cutIntoParts_L7 k7_132 M_thenKeys M_reaches M_steps n a0 a1 a2 a3) M_part M_shortest M_reaches M_steps M_parts v1) M_part M_reaches v1 FU (-1) 0
noncomputable def fM_cutIntoParts (M_thenKeys : Int32) (M_part : (Nat → Int32)) (M_shortest : (Nat → Int32)) (M_reaches : (Nat → Int32)) (M_steps : (Nat → Int32)) (M_parts : Int32) : Option ((Nat → Int32) × (Nat → Int32) × Int32) :=
  fM_cutIntoParts_L7 fM_cutIntoParts_K7_132 M_thenKeys M_reaches M_steps FU 0 M_part M_shortest 0
noncomputable def fM_lead_K32_151 (M_backs : (Nat → Int32)) : Option ((Nat → Int32)) :=
  some M_backs
noncomputable def fM_lead_K40_145 (c32 : Int32 → (Nat → Int32) → Option ((Nat → Int32))) (v3 : Int32) (M_backs : (Nat → Int32)) : Option ((Nat → Int32)) :=
  c32 (v3 + 1) M_backs
noncomputable def fM_lead_K55_125 (c40 : Int32 → (Nat → Int32) → Option ((Nat → Int32))) (M_backs : (Nat → Int32)) (v3 : Int32) (v4 : Int32) (v5 : Int32) : Option ((Nat → Int32)) :=
  og_ck ((40 * v3) + v4) 1640 <|
  c40 (v4 + 1) (upd M_backs ((40 * v3) + v4).toNatClampNeg (vp_nar .boolean v5))
noncomputable def fM_lead_L55 (k55_125 : Int32 → Option ((Nat → Int32))) (M_thenKeys : Int32) (M_asks : (Nat → Int32)) (M_backs : (Nat → Int32)) (p1 : Int32) (v3 : Int32) (v4 : Int32) : Nat → Int32 → Int32 → Option ((Nat → Int32))
  | 0, _, _ => none
  | n + 1, v5, v6 =>
    if M_thenKeys ≤ v6 then
      k55_125 v5
    else
      if v5 = 0 then
        (fM_cell v4 v6).bind fun r77 =>
        og_ck r77 1600 <|
        if (M_asks r77.toNatClampNeg) = 0 then
          fM_lead_L55 k55_125 M_thenKeys M_asks M_backs p1 v3 v4 n 0 (v6 + 1)
        else
          og_ck ((40 * (v3 - 1)) + v6) 1640 <|
          if (M_backs ((40 * (v3 - 1)) + v6).toNatClampNeg) = 0 then
            fM_lead_L55 k55_125 M_thenKeys M_asks M_backs p1 v3 v4 n 0 (v6 + 1)
          else
            if p1 < v6 then
              fM_lead_L55 k55_125 M_thenKeys M_asks M_backs p1 v3 v4 n 1 (v6 + 1)
            else
              if v3 = 1 then
                fM_lead_L55 k55_125 M_thenKeys M_asks M_backs p1 v3 v4 n 1 (v6 + 1)
              else
                fM_lead_L55 k55_125 M_thenKeys M_asks M_backs p1 v3 v4 n 0 (v6 + 1)
      else
        fM_lead_L55 k55_125 M_thenKeys M_asks M_backs p1 v3 v4 n 1 (v6 + 1)
noncomputable def fM_lead_L40 (k40_145 : (Nat → Int32) → Option ((Nat → Int32))) (M_thenKeys : Int32) (M_asks : (Nat → Int32)) (p1 : Int32) (v3 : Int32) : Nat → Int32 → (Nat → Int32) → Option ((Nat → Int32))
  | 0, _, _ => none
  | n + 1, v4, M_backs =>
    if M_thenKeys ≤ v4 then
      k40_145 M_backs
    else
      fM_lead_L55 (fM_lead_K55_125 (fun a0 a1 => fM_lead_L40 k40_145 M_thenKeys M_asks p1 v3 n a0 a1) M_backs v3 v4) M_thenKeys M_asks M_backs p1 v3 v4 FU 0 p1
noncomputable def fM_lead_L32 (k32_151 : (Nat → Int32) → Option ((Nat → Int32))) (M_thenKeys : Int32) (M_asks : (Nat → Int32)) (p1 : Int32) (p2 : Int32) : Nat → Int32 → (Nat → Int32) → Option ((Nat → Int32))
  | 0, _, _ => none
  | n + 1, v3, M_backs =>
    if p2 < v3 then
      k32_151 M_backs
    else
      fM_lead_L40 (fM_lead_K40_145 (fun a0 a1 => fM_lead_L32 k32_151 M_thenKeys M_asks p1 p2 n a0 a1) v3) M_thenKeys M_asks p1 v3 FU p1 M_backs
noncomputable def fM_lead_K2_30 (M_thenKeys : Int32) (M_asks : (Nat → Int32)) (p1 : Int32) (p2 : Int32) (M_backs : (Nat → Int32)) : Option ((Nat → Int32)) :=
  fM_lead_L32 fM_lead_K32_151 M_thenKeys M_asks p1 p2 FU 1 M_backs
noncomputable def fM_lead_L2 (k2_30 : (Nat → Int32) → Option ((Nat → Int32))) (p1 : Int32) : Nat → Int32 → (Nat → Int32) → Option ((Nat → Int32))
  | 0, _, _ => none
  | n + 1, v3, M_backs =>
    if 40 ≤ v3 then
      k2_30 M_backs
    else
      if v3 = p1 then
        og_ck v3 1640 <|
        fM_lead_L2 k2_30 p1 n (v3 + 1) (upd M_backs v3.toNatClampNeg (vp_nar .boolean 1))
      else
        og_ck v3 1640 <|
        fM_lead_L2 k2_30 p1 n (v3 + 1) (upd M_backs v3.toNatClampNeg (vp_nar .boolean 0))
noncomputable def fM_lead (M_thenKeys : Int32) (M_asks : (Nat → Int32)) (M_backs : (Nat → Int32)) (p1 : Int32) (p2 : Int32) : Option ((Nat → Int32)) :=
  fM_lead_L2 (fM_lead_K2_30 M_thenKeys M_asks p1 p2) p1 FU 0 M_backs
noncomputable def fM_tellRing_K114_201 (M_rings : Int32) (M_ringSize : (Nat → Int32)) (M_backs : (Nat → Int32)) (v2 : Int32) (M_ring : (Nat → Int32)) : Option (Int32 × (Nat → Int32) × (Nat → Int32) × (Nat → Int32)) :=
  og_ck M_rings 40 <|
  some ((M_rings + 1), (upd M_ringSize M_rings.toNatClampNeg v2), M_ring, M_backs)
noncomputable def fM_tellRing_K140_191 (c114 : Int32 → Int32 → (Nat → Int32) → Option (Int32 × (Nat → Int32) × (Nat → Int32) × (Nat → Int32))) (M_ring : (Nat → Int32)) (v5 : Int32) (v6 : Int32) : Option (Int32 × (Nat → Int32) × (Nat → Int32) × (Nat → Int32)) :=
  c114 v6 (v5 + (-1)) M_ring
noncomputable def fM_tellRing_L140 (k140_191 : Int32 → Option (Int32 × (Nat → Int32) × (Nat → Int32) × (Nat → Int32))) (M_asks : (Nat → Int32)) (M_backs : (Nat → Int32)) (v3 : Int32) (v4 : Int32) (v5 : Int32) : Nat → Int32 → Option (Int32 × (Nat → Int32) × (Nat → Int32) × (Nat → Int32))
  | 0, _ => none
  | n + 1, v6 =>
    (fM_cell v4 v6).bind fun r148 =>
    og_ck r148 1600 <|
    if (M_asks r148.toNatClampNeg) = 0 then
      fM_tellRing_L140 k140_191 M_asks M_backs v3 v4 v5 n (v6 + 1)
    else
      og_ck ((40 * (v5 - 1)) + v6) 1640 <|
      if (M_backs ((40 * (v5 - 1)) + v6).toNatClampNeg) = 0 then
        fM_tellRing_L140 k140_191 M_asks M_backs v3 v4 v5 n (v6 + 1)
      else
        if v6 = v3 then
          if v5 ≤ 1 then
            k140_191 v6
          else
            fM_tellRing_L140 k140_191 M_asks M_backs v3 v4 v5 n (v6 + 1)
        else
          k140_191 v6
noncomputable def fM_tellRing_L114 (k114_201 : (Nat → Int32) → Option (Int32 × (Nat → Int32) × (Nat → Int32) × (Nat → Int32))) (M_asks : (Nat → Int32)) (M_rings : Int32) (M_backs : (Nat → Int32)) (v2 : Int32) (v3 : Int32) : Nat → Int32 → Int32 → (Nat → Int32) → Option (Int32 × (Nat → Int32) × (Nat → Int32) × (Nat → Int32))
  | 0, _, _, _ => none
  | n + 1, v4, v5, M_ring =>
    if v5 ≤ 0 then
      k114_201 M_ring
    else
      (fM_cell M_rings (v2 - v5)).bind fun r131 =>
      og_ck r131 1600 <|
      fM_tellRing_L140 (fM_tellRing_K140_191 (fun a0 a1 a2 => fM_tellRing_L114 k114_201 M_asks M_rings M_backs v2 v3 n a0 a1 a2) (upd M_ring r131.toNatClampNeg v4) v5) M_asks M_backs v3 v4 v5 FU v3
noncomputable def fM_tellRing_K72_108 (M_asks : (Nat → Int32)) (M_rings : Int32) (M_ringSize : (Nat → Int32)) (M_ring : (Nat → Int32)) (v2 : Int32) (v3 : Int32) (M_backs : (Nat → Int32)) : Option (Int32 × (Nat → Int32) × (Nat → Int32) × (Nat → Int32)) :=
  fM_tellRing_L114 (fM_tellRing_K114_201 M_rings M_ringSize M_backs v2) M_asks M_rings M_backs v2 v3 FU v3 v2 M_ring
noncomputable def fM_tellRing_L72 (k72_108 : Int32 → (Nat → Int32) → Option (Int32 × (Nat → Int32) × (Nat → Int32) × (Nat → Int32))) (M_thenKeys : Int32) (M_part : (Nat → Int32)) (M_asks : (Nat → Int32)) (p1 : Int32) (v2 : Int32) : Nat → Int32 → (Nat → Int32) → Option (Int32 × (Nat → Int32) × (Nat → Int32) × (Nat → Int32))
  | 0, _, _ => none
  | n + 1, v3, M_backs =>
    og_ck v3 40 <|
    if (M_part v3.toNatClampNeg) = p1 then
      og_ck ((40 * v2) + v3) 1640 <|
      if (M_backs ((40 * v2) + v3).toNatClampNeg) = 0 then
        (fM_lead M_thenKeys M_asks M_backs (v3 + 1) v2).bind fun r102 =>
        fM_tellRing_L72 k72_108 M_thenKeys M_part M_asks p1 v2 n (v3 + 1) r102
      else
        k72_108 v3 M_backs
    else
      (fM_lead M_thenKeys M_asks M_backs (v3 + 1) v2).bind fun r102 =>
      fM_tellRing_L72 k72_108 M_thenKeys M_part M_asks p1 v2 n (v3 + 1) r102
noncomputable def fM_tellRing_K6_56 (M_thenKeys : Int32) (M_part : (Nat → Int32)) (M_asks : (Nat → Int32)) (M_rings : Int32) (M_ringSize : (Nat → Int32)) (M_ring : (Nat → Int32)) (M_backs : (Nat → Int32)) (p1 : Int32) (v2 : Int32) : Option (Int32 × (Nat → Int32) × (Nat → Int32) × (Nat → Int32)) :=
  if v2 = 1000 then
    some (M_rings, M_ringSize, M_ring, M_backs)
  else
    (fM_lead M_thenKeys M_asks M_backs 0 v2).bind fun r69 =>
    fM_tellRing_L72 (fM_tellRing_K72_108 M_asks M_rings M_ringSize M_ring v2) M_thenKeys M_part M_asks p1 v2 FU 0 r69
noncomputable def fM_tellRing_L6 (k6_56 : Int32 → Option (Int32 × (Nat → Int32) × (Nat → Int32) × (Nat → Int32))) (M_thenKeys : Int32) (M_part : (Nat → Int32)) (M_shortest : (Nat → Int32)) (p1 : Int32) : Nat → Int32 → Int32 → Option (Int32 × (Nat → Int32) × (Nat → Int32) × (Nat → Int32))
  | 0, _, _ => none
  | n + 1, v2, v3 =>
    if M_thenKeys ≤ v3 then
      k6_56 v2
    else
      og_ck v3 40 <|
      if (M_part v3.toNatClampNeg) = p1 then
        og_ck v3 40 <|
        if (M_shortest v3.toNatClampNeg) ≤ 0 then
          fM_tellRing_L6 k6_56 M_thenKeys M_part M_shortest p1 n v2 (v3 + 1)
        else
          og_ck v3 40 <|
          if v2 ≤ (M_shortest v3.toNatClampNeg) then
            fM_tellRing_L6 k6_56 M_thenKeys M_part M_shortest p1 n v2 (v3 + 1)
          else
            og_ck v3 40 <|
            fM_tellRing_L6 k6_56 M_thenKeys M_part M_shortest p1 n (M_shortest v3.toNatClampNeg) (v3 + 1)
      else
        fM_tellRing_L6 k6_56 M_thenKeys M_part M_shortest p1 n v2 (v3 + 1)
noncomputable def fM_tellRing (M_thenKeys : Int32) (M_part : (Nat → Int32)) (M_shortest : (Nat → Int32)) (M_asks : (Nat → Int32)) (M_rings : Int32) (M_ringSize : (Nat → Int32)) (M_ring : (Nat → Int32)) (M_backs : (Nat → Int32)) (p1 : Int32) : Option (Int32 × (Nat → Int32) × (Nat → Int32) × (Nat → Int32)) :=
  fM_tellRing_L6 (fM_tellRing_K6_56 M_thenKeys M_part M_asks M_rings M_ringSize M_ring M_backs p1) M_thenKeys M_part M_shortest p1 FU 1000 0
noncomputable def fM_run_K84_103 (M_code : Int32) (M_thenKeys : Int32) (M_thenEdges : Int32) (M_configuration : Int32) (M_thenGone : (Nat → Int32)) (M_order : (Nat → Int32)) (M_rank : (Nat → Int32)) (M_part : (Nat → Int32)) (M_shortest : (Nat → Int32)) (M_asks : (Nat → Int32)) (M_reaches : (Nat → Int32)) (M_steps : (Nat → Int32)) (M_parts : Int32) (M_rings : Int32) (M_ringSize : (Nat → Int32)) (M_ring : (Nat → Int32)) (M_backs : (Nat → Int32)) : Option (Int32 × Int32 × Int32 × Int32 × Int32 × (Nat → Int32) × (Nat → Int32) × (Nat → Int32) × (Nat → Int32) × (Nat → Int32) × (Nat → Int32) × (Nat → Int32) × (Nat → Int32) × Int32 × Int32 × (Nat → Int32) × (Nat → Int32) × (Nat → Int32)) :=
  some (M_rings, M_code, M_thenKeys, M_thenEdges, M_configuration, M_thenGone, M_order, M_rank, M_part, M_shortest, M_asks, M_reaches, M_steps, M_parts, M_rings, M_ringSize, M_ring, M_backs)
noncomputable def fM_run_L84 (k84_103 : Int32 → (Nat → Int32) → (Nat → Int32) → (Nat → Int32) → Option (Int32 × Int32 × Int32 × Int32 × Int32 × (Nat → Int32) × (Nat → Int32) × (Nat → Int32) × (Nat → Int32) × (Nat → Int32) × (Nat → Int32) × (Nat → Int32) × (Nat → Int32) × Int32 × Int32 × (Nat → Int32) × (Nat → Int32) × (Nat → Int32))) (M_thenKeys : Int32) (M_part : (Nat → Int32)) (M_shortest : (Nat → Int32)) (M_asks : (Nat → Int32)) (M_parts : Int32) : Nat → Int32 → Int32 → (Nat → Int32) → (Nat → Int32) → (Nat → Int32) → Option (Int32 × Int32 × Int32 × Int32 × Int32 × (Nat → Int32) × (Nat → Int32) × (Nat → Int32) × (Nat → Int32) × (Nat → Int32) × (Nat → Int32) × (Nat → Int32) × (Nat → Int32) × Int32 × Int32 × (Nat → Int32) × (Nat → Int32) × (Nat → Int32))
  | 0, _, _, _, _, _ => none
  | n + 1, v2, M_rings, M_ringSize, M_ring, M_backs =>
    if M_parts ≤ v2 then
      k84_103 M_rings M_ringSize M_ring M_backs
    else
      (fM_tellRing M_thenKeys M_part M_shortest M_asks M_rings M_ringSize M_ring M_backs v2).bind fun r94 =>
      fM_run_L84 k84_103 M_thenKeys M_part M_shortest M_asks M_parts n (v2 + 1) r94.1 r94.2.1 r94.2.2.1 r94.2.2.2
noncomputable def fM_run_K40_65 (M_code : Int32) (M_keys : Int32) (M_name : (Nat → Int32)) (M_from : (Nat → Int32)) (M_to : (Nat → Int32)) (M_bits : (Nat → Int32)) (M_thenKeys : Int32) (M_thenEdges : Int32) (M_configuration : Int32) (M_order : (Nat → Int32)) (M_rank : (Nat → Int32)) (M_part : (Nat → Int32)) (M_shortest : (Nat → Int32)) (M_asks : (Nat → Int32)) (M_reaches : (Nat → Int32)) (M_steps : (Nat → Int32)) (M_parts : Int32) (M_ringSize : (Nat → Int32)) (M_ring : (Nat → Int32)) (M_backs : (Nat → Int32)) (M_thenGone : (Nat → Int32)) : Option (Int32 × Int32 × Int32 × Int32 × Int32 × (Nat → Int32) × (Nat → Int32) × (Nat → Int32) × (Nat → Int32) × (Nat → Int32) × (Nat → Int32) × (Nat → Int32) × (Nat → Int32) × Int32 × Int32 × (Nat → Int32) × (Nat → Int32) × (Nat → Int32)) :=
  (fM_sort M_keys M_name M_order M_rank).bind fun r66 =>
  (fM_close M_from M_to M_bits M_thenKeys M_thenEdges M_configuration M_thenGone r66.2 M_asks M_reaches M_steps).bind fun r70 =>
  (fM_cutIntoParts M_thenKeys M_part M_shortest r70.2.1 r70.2.2 M_parts).bind fun r74 =>
  fM_run_L84 (fM_run_K84_103 M_code M_thenKeys M_thenEdges M_configuration M_thenGone r66.1 r66.2 r74.1 r74.2.1 r70.1 r70.2.1 r70.2.2 r74.2.2) M_thenKeys r74.1 r74.2.1 r70.1 r74.2.2 FU 0 0 M_ringSize M_ring M_backs
noncomputable def fM_run_L40 (k40_65 : (Nat → Int32) → Option (Int32 × Int32 × Int32 × Int32 × Int32 × (Nat → Int32) × (Nat → Int32) × (Nat → Int32) × (Nat → Int32) × (Nat → Int32) × (Nat → Int32) × (Nat → Int32) × (Nat → Int32) × Int32 × Int32 × (Nat → Int32) × (Nat → Int32) × (Nat → Int32))) (M_gone : (Nat → Int32)) : Nat → Int32 → (Nat → Int32) → Option (Int32 × Int32 × Int32 × Int32 × Int32 × (Nat → Int32) × (Nat → Int32) × (Nat → Int32) × (Nat → Int32) × (Nat → Int32) × (Nat → Int32) × (Nat → Int32) × (Nat → Int32) × Int32 × Int32 × (Nat → Int32) × (Nat → Int32) × (Nat → Int32))
  | 0, _, _ => none
  | n + 1, v2, M_thenGone =>
    if 160 ≤ v2 then
      k40_65 M_thenGone
    else
      og_ck v2 160 <|
      og_ck v2 160 <|
      fM_run_L40 k40_65 M_gone n (v2 + 1) (upd M_thenGone v2.toNatClampNeg (vp_nar .boolean (M_gone v2.toNatClampNeg)))
noncomputable def fM_run (M_code : Int32) (M_keys : Int32) (M_edges : Int32) (M_name : (Nat → Int32)) (M_from : (Nat → Int32)) (M_to : (Nat → Int32)) (M_bits : (Nat → Int32)) (M_gone : (Nat → Int32)) (M_thenKeys : Int32) (M_thenEdges : Int32) (M_configuration : Int32) (M_thenGone : (Nat → Int32)) (M_order : (Nat → Int32)) (M_rank : (Nat → Int32)) (M_part : (Nat → Int32)) (M_shortest : (Nat → Int32)) (M_asks : (Nat → Int32)) (M_reaches : (Nat → Int32)) (M_steps : (Nat → Int32)) (M_parts : Int32) (M_rings : Int32) (M_ringSize : (Nat → Int32)) (M_ring : (Nat → Int32)) (M_backs : (Nat → Int32)) (p1 : Int32) : Option (Int32 × Int32 × Int32 × Int32 × Int32 × (Nat → Int32) × (Nat → Int32) × (Nat → Int32) × (Nat → Int32) × (Nat → Int32) × (Nat → Int32) × (Nat → Int32) × (Nat → Int32) × Int32 × Int32 × (Nat → Int32) × (Nat → Int32) × (Nat → Int32)) :=
  if p1 < 0 then
    some ((-1), 0, M_thenKeys, M_thenEdges, M_configuration, M_thenGone, M_order, M_rank, M_part, M_shortest, M_asks, M_reaches, M_steps, M_parts, M_rings, M_ringSize, M_ring, M_backs)
  else
    if p1 < 8 then
      fM_run_L40 (fM_run_K40_65 0 M_keys M_name M_from M_to M_bits M_keys M_edges p1 M_order M_rank M_part M_shortest M_asks M_reaches M_steps M_parts M_ringSize M_ring M_backs) M_gone FU 0 M_thenGone
    else
      some ((-1), 0, M_thenKeys, M_thenEdges, M_configuration, M_thenGone, M_order, M_rank, M_part, M_shortest, M_asks, M_reaches, M_steps, M_parts, M_rings, M_ringSize, M_ring, M_backs)
noncomputable def fM_size (M_code : Int32) (M_rings : Int32) (M_ringSize : (Nat → Int32)) (p1 : Int32) : Option (Int32 × Int32) :=
  if p1 < 0 then
    some (0, 0)
  else
    if p1 < M_rings then
      og_ck p1 40 <|
      some ((M_ringSize p1.toNatClampNeg), 0)
    else
      some (0, 0)
noncomputable def fM_keyOf (M_order : (Nat → Int32)) (M_ringSize : (Nat → Int32)) (M_ring : (Nat → Int32)) (p1 : Int32) (p2 : Int32) : Option (Int32) :=
  og_ck p1 40 <|
  og_nz (M_ringSize p1.toNatClampNeg) <|
  (fM_cell p1 (p2 - p2 / (M_ringSize p1.toNatClampNeg) * (M_ringSize p1.toNatClampNeg))).bind fun r17 =>
  og_ck r17 1600 <|
  og_ck (M_ring r17.toNatClampNeg) 40 <|
  some (M_order (M_ring r17.toNatClampNeg).toNatClampNeg)
noncomputable def fM_edgeOf_K5_98 (v3 : Int32) : Option (Int32) :=
  some v3
noncomputable def fM_edgeOf_L5 (k5_98 : Int32 → Option (Int32)) (M_from : (Nat → Int32)) (M_to : (Nat → Int32)) (M_place : (Nat → Int32)) (M_bits : (Nat → Int32)) (M_thenEdges : Int32) (M_configuration : Int32) (M_thenGone : (Nat → Int32)) (M_order : (Nat → Int32)) (M_ringSize : (Nat → Int32)) (M_ring : (Nat → Int32)) (p1 : Int32) (p2 : Int32) : Nat → Int32 → Int32 → Option (Int32)
  | 0, _, _ => none
  | n + 1, v3, v4 =>
    if M_thenEdges ≤ v4 then
      k5_98 v3
    else
      (fM_isThen M_bits M_thenGone v4 M_configuration).bind fun r21 =>
      if r21 = 0 then
        fM_edgeOf_L5 k5_98 M_from M_to M_place M_bits M_thenEdges M_configuration M_thenGone M_order M_ringSize M_ring p1 p2 n v3 (v4 + 1)
      else
        og_ck v4 160 <|
        (fM_keyOf M_order M_ringSize M_ring p1 p2).bind fun r37 =>
        if (M_from v4.toNatClampNeg) = r37 then
          og_ck v4 160 <|
          (fM_keyOf M_order M_ringSize M_ring p1 (p2 + 1)).bind fun r55 =>
          if (M_to v4.toNatClampNeg) = r55 then
            if v3 = (-1) then
              fM_edgeOf_L5 k5_98 M_from M_to M_place M_bits M_thenEdges M_configuration M_thenGone M_order M_ringSize M_ring p1 p2 n v4 (v4 + 1)
            else
              og_ck v4 160 <|
              og_ck v3 160 <|
              if (M_place v3.toNatClampNeg) ≤ (M_place v4.toNatClampNeg) then
                fM_edgeOf_L5 k5_98 M_from M_to M_place M_bits M_thenEdges M_configuration M_thenGone M_order M_ringSize M_ring p1 p2 n v3 (v4 + 1)
              else
                fM_edgeOf_L5 k5_98 M_from M_to M_place M_bits M_thenEdges M_configuration M_thenGone M_order M_ringSize M_ring p1 p2 n v4 (v4 + 1)
          else
            fM_edgeOf_L5 k5_98 M_from M_to M_place M_bits M_thenEdges M_configuration M_thenGone M_order M_ringSize M_ring p1 p2 n v3 (v4 + 1)
        else
          fM_edgeOf_L5 k5_98 M_from M_to M_place M_bits M_thenEdges M_configuration M_thenGone M_order M_ringSize M_ring p1 p2 n v3 (v4 + 1)
noncomputable def fM_edgeOf (M_from : (Nat → Int32)) (M_to : (Nat → Int32)) (M_place : (Nat → Int32)) (M_bits : (Nat → Int32)) (M_thenEdges : Int32) (M_configuration : Int32) (M_thenGone : (Nat → Int32)) (M_order : (Nat → Int32)) (M_ringSize : (Nat → Int32)) (M_ring : (Nat → Int32)) (p1 : Int32) (p2 : Int32) : Option (Int32) :=
  fM_edgeOf_L5 fM_edgeOf_K5_98 M_from M_to M_place M_bits M_thenEdges M_configuration M_thenGone M_order M_ringSize M_ring p1 p2 FU (-1) 0
noncomputable def fM_ring (M_code : Int32) (M_from : (Nat → Int32)) (M_to : (Nat → Int32)) (M_place : (Nat → Int32)) (M_bits : (Nat → Int32)) (M_thenEdges : Int32) (M_configuration : Int32) (M_thenGone : (Nat → Int32)) (M_order : (Nat → Int32)) (M_rings : Int32) (M_ringSize : (Nat → Int32)) (M_ring : (Nat → Int32)) (p1 : Int32) (p2 : Int32) (p3 : Int32) : Option (Int32 × Int32) :=
  if p1 < 0 then
    some ((-1), 0)
  else
    if M_rings ≤ p1 then
      some ((-1), 0)
    else
      if p2 < 0 then
        some ((-1), 0)
      else
        og_ck p1 40 <|
        if p2 < (M_ringSize p1.toNatClampNeg) then
          if p3 = 0 then
            (fM_keyOf M_order M_ringSize M_ring p1 p2).bind fun r40 =>
            some (r40, 0)
          else
            (fM_edgeOf M_from M_to M_place M_bits M_thenEdges M_configuration M_thenGone M_order M_ringSize M_ring p1 p2).bind fun r47 =>
            if p3 = 1 then
              og_ck r47 160 <|
              some ((M_place r47.toNatClampNeg), 0)
            else
              if p3 = 2 then
                some (r47, 0)
              else
                some ((-1), 0)
        else
          some ((-1), 0)
noncomputable def fM_isRing_K5_116 (v3 : Int32) : Option (Int32) :=
  og_bl v3 (some v3)
noncomputable def fM_isRing_K22_95 (c5 : Int32 → Int32 → Option (Int32)) (v3 : Int32) (v4 : Int32) (v5 : Int32) : Option (Int32) :=
  if v3 = 0 then
    c5 0 (v4 + 1)
  else
    if v5 = 0 then
      c5 0 (v4 + 1)
    else
      c5 1 (v4 + 1)
noncomputable def fM_isRing_L22 (k22_95 : Int32 → Option (Int32)) (M_from : (Nat → Int32)) (M_to : (Nat → Int32)) (M_bits : (Nat → Int32)) (M_thenEdges : Int32) (M_thenGone : (Nat → Int32)) (M_order : (Nat → Int32)) (M_ringSize : (Nat → Int32)) (M_ring : (Nat → Int32)) (p1 : Int32) (p2 : Int32) (v4 : Int32) : Nat → Int32 → Int32 → Option (Int32)
  | 0, _, _ => none
  | n + 1, v5, v6 =>
    if M_thenEdges ≤ v6 then
      k22_95 v5
    else
      if v5 = 0 then
        (fM_isThen M_bits M_thenGone v6 p2).bind fun r40 =>
        if r40 = 0 then
          fM_isRing_L22 k22_95 M_from M_to M_bits M_thenEdges M_thenGone M_order M_ringSize M_ring p1 p2 v4 n 0 (v6 + 1)
        else
          og_ck v6 160 <|
          (fM_keyOf M_order M_ringSize M_ring p1 v4).bind fun r57 =>
          if (M_from v6.toNatClampNeg) = r57 then
            og_ck v6 160 <|
            (fM_keyOf M_order M_ringSize M_ring p1 (v4 + 1)).bind fun r76 =>
            if (M_to v6.toNatClampNeg) = r76 then
              fM_isRing_L22 k22_95 M_from M_to M_bits M_thenEdges M_thenGone M_order M_ringSize M_ring p1 p2 v4 n 1 (v6 + 1)
            else
              fM_isRing_L22 k22_95 M_from M_to M_bits M_thenEdges M_thenGone M_order M_ringSize M_ring p1 p2 v4 n 0 (v6 + 1)
          else
            fM_isRing_L22 k22_95 M_from M_to M_bits M_thenEdges M_thenGone M_order M_ringSize M_ring p1 p2 v4 n 0 (v6 + 1)
      else
        fM_isRing_L22 k22_95 M_from M_to M_bits M_thenEdges M_thenGone M_order M_ringSize M_ring p1 p2 v4 n 1 (v6 + 1)
noncomputable def fM_isRing_L5 (k5_116 : Int32 → Option (Int32)) (M_from : (Nat → Int32)) (M_to : (Nat → Int32)) (M_bits : (Nat → Int32)) (M_thenEdges : Int32) (M_thenGone : (Nat → Int32)) (M_order : (Nat → Int32)) (M_ringSize : (Nat → Int32)) (M_ring : (Nat → Int32)) (p1 : Int32) (p2 : Int32) : Nat → Int32 → Int32 → Option (Int32)
  | 0, _, _ => none
  | n + 1, v3, v4 =>
    og_ck p1 40 <|
    if (M_ringSize p1.toNatClampNeg) ≤ v4 then
      k5_116 v3
    else
      fM_isRing_L22 (fM_isRing_K22_95 (fun a0 a1 => fM_isRing_L5 k5_116 M_from M_to M_bits M_thenEdges M_thenGone M_order M_ringSize M_ring p1 p2 n a0 a1) v3 v4) M_from M_to M_bits M_thenEdges M_thenGone M_order M_ringSize M_ring p1 p2 v4 FU 0 0
noncomputable def fM_isRing (M_from : (Nat → Int32)) (M_to : (Nat → Int32)) (M_bits : (Nat → Int32)) (M_thenEdges : Int32) (M_thenGone : (Nat → Int32)) (M_order : (Nat → Int32)) (M_ringSize : (Nat → Int32)) (M_ring : (Nat → Int32)) (p1 : Int32) (p2 : Int32) : Option (Int32) :=
  fM_isRing_L5 fM_isRing_K5_116 M_from M_to M_bits M_thenEdges M_thenGone M_order M_ringSize M_ring p1 p2 FU 1 0
noncomputable def fM_only_K21_52 (M_code : Int32) (M_configuration : Int32) : Option (Int32 × Int32) :=
  some (M_configuration, M_code)
noncomputable def fM_only_L21 (k21_52 : Option (Int32 × Int32)) (M_code : Int32) (M_from : (Nat → Int32)) (M_to : (Nat → Int32)) (M_bits : (Nat → Int32)) (M_thenEdges : Int32) (M_configuration : Int32) (M_thenGone : (Nat → Int32)) (M_order : (Nat → Int32)) (M_ringSize : (Nat → Int32)) (M_ring : (Nat → Int32)) (p1 : Int32) : Nat → Int32 → Option (Int32 × Int32)
  | 0, _ => none
  | n + 1, v2 =>
    if 8 ≤ v2 then
      k21_52
    else
      if v2 = M_configuration then
        fM_only_L21 k21_52 M_code M_from M_to M_bits M_thenEdges M_configuration M_thenGone M_order M_ringSize M_ring p1 n (v2 + 1)
      else
        (fM_isRing M_from M_to M_bits M_thenEdges M_thenGone M_order M_ringSize M_ring p1 v2).bind fun r38 =>
        if r38 = 0 then
          fM_only_L21 k21_52 M_code M_from M_to M_bits M_thenEdges M_configuration M_thenGone M_order M_ringSize M_ring p1 n (v2 + 1)
        else
          some ((-1), M_code)
noncomputable def fM_only (M_code : Int32) (M_from : (Nat → Int32)) (M_to : (Nat → Int32)) (M_bits : (Nat → Int32)) (M_thenEdges : Int32) (M_configuration : Int32) (M_thenGone : (Nat → Int32)) (M_order : (Nat → Int32)) (M_rings : Int32) (M_ringSize : (Nat → Int32)) (M_ring : (Nat → Int32)) (p1 : Int32) : Option (Int32 × Int32) :=
  if p1 < 0 then
    some ((-1), 0)
  else
    if p1 < M_rings then
      fM_only_L21 (fM_only_K21_52 0 M_configuration) 0 M_from M_to M_bits M_thenEdges M_configuration M_thenGone M_order M_ringSize M_ring p1 FU 0
    else
      some ((-1), 0)
noncomputable def fM_newest_K23_60 (M_code : Int32) (v2 : Int32) : Option (Int32 × Int32) :=
  some (v2, M_code)
noncomputable def fM_newest_L23 (k23_60 : Int32 → Option (Int32 × Int32)) (M_from : (Nat → Int32)) (M_to : (Nat → Int32)) (M_place : (Nat → Int32)) (M_bits : (Nat → Int32)) (M_thenEdges : Int32) (M_configuration : Int32) (M_thenGone : (Nat → Int32)) (M_order : (Nat → Int32)) (M_ringSize : (Nat → Int32)) (M_ring : (Nat → Int32)) (p1 : Int32) : Nat → Int32 → Int32 → Option (Int32 × Int32)
  | 0, _, _ => none
  | n + 1, v2, v3 =>
    og_ck p1 40 <|
    if (M_ringSize p1.toNatClampNeg) ≤ v3 then
      k23_60 v2
    else
      (fM_edgeOf M_from M_to M_place M_bits M_thenEdges M_configuration M_thenGone M_order M_ringSize M_ring p1 v3).bind fun r36 =>
      if r36 ≤ v2 then
        fM_newest_L23 k23_60 M_from M_to M_place M_bits M_thenEdges M_configuration M_thenGone M_order M_ringSize M_ring p1 n v2 (v3 + 1)
      else
        (fM_edgeOf M_from M_to M_place M_bits M_thenEdges M_configuration M_thenGone M_order M_ringSize M_ring p1 v3).bind fun r46 =>
        fM_newest_L23 k23_60 M_from M_to M_place M_bits M_thenEdges M_configuration M_thenGone M_order M_ringSize M_ring p1 n r46 (v3 + 1)
noncomputable def fM_newest (M_code : Int32) (M_from : (Nat → Int32)) (M_to : (Nat → Int32)) (M_place : (Nat → Int32)) (M_bits : (Nat → Int32)) (M_thenEdges : Int32) (M_configuration : Int32) (M_thenGone : (Nat → Int32)) (M_order : (Nat → Int32)) (M_rings : Int32) (M_ringSize : (Nat → Int32)) (M_ring : (Nat → Int32)) (p1 : Int32) : Option (Int32 × Int32) :=
  if p1 < 0 then
    some ((-1), 0)
  else
    if p1 < M_rings then
      fM_newest_L23 (fM_newest_K23_60 0) M_from M_to M_place M_bits M_thenEdges M_configuration M_thenGone M_order M_ringSize M_ring p1 FU (-1) 0
    else
      some ((-1), 0)
noncomputable def fM_isThere (M_thenKeys : Int32) (M_configuration : Int32) (p1 : Int32) : Option (Int32) :=
  if M_configuration = (-1) then
    some 0
  else
    if p1 < 0 then
      some 0
    else
      if M_thenKeys ≤ p1 then
        some 0
      else
        some 1
noncomputable def fM_strong (M_code : Int32) (M_thenKeys : Int32) (M_configuration : Int32) (M_rank : (Nat → Int32)) (M_part : (Nat → Int32)) (p1 : Int32) : Option (Int32 × Int32) :=
  (fM_isThere M_thenKeys M_configuration p1).bind fun r7 =>
  if r7 = 0 then
    some ((-1), 0)
  else
    og_ck p1 40 <|
    og_ck (M_rank p1.toNatClampNeg) 40 <|
    some ((M_part (M_rank p1.toNatClampNeg).toNatClampNeg), 0)
noncomputable def fM_isRinged (M_reaches : (Nat → Int32)) (p1 : Int32) : Option (Int32) :=
  (fM_cell p1 p1).bind fun r6 =>
  og_ck r6 1600 <|
  og_bl (M_reaches r6.toNatClampNeg) (some (M_reaches r6.toNatClampNeg))
noncomputable def fM_state_K34_84 (M_code : Int32) (v2 : Int32) : Option (Int32 × Int32) :=
  if v2 = 0 then
    some (0, M_code)
  else
    some (1, M_code)
noncomputable def fM_state_L34 (k34_84 : Int32 → Option (Int32 × Int32)) (M_thenKeys : Int32) (M_rank : (Nat → Int32)) (M_reaches : (Nat → Int32)) (p1 : Int32) : Nat → Int32 → Int32 → Option (Int32 × Int32)
  | 0, _, _ => none
  | n + 1, v2, v3 =>
    if M_thenKeys ≤ v3 then
      k34_84 v2
    else
      if v2 = 0 then
        og_ck p1 40 <|
        (fM_cell (M_rank p1.toNatClampNeg) v3).bind fun r57 =>
        og_ck r57 1600 <|
        if (M_reaches r57.toNatClampNeg) = 0 then
          fM_state_L34 k34_84 M_thenKeys M_rank M_reaches p1 n 0 (v3 + 1)
        else
          (fM_isRinged M_reaches v3).bind fun r66 =>
          if r66 = 0 then
            fM_state_L34 k34_84 M_thenKeys M_rank M_reaches p1 n 0 (v3 + 1)
          else
            fM_state_L34 k34_84 M_thenKeys M_rank M_reaches p1 n 1 (v3 + 1)
      else
        fM_state_L34 k34_84 M_thenKeys M_rank M_reaches p1 n 1 (v3 + 1)
noncomputable def fM_state (M_code : Int32) (M_thenKeys : Int32) (M_configuration : Int32) (M_rank : (Nat → Int32)) (M_reaches : (Nat → Int32)) (p1 : Int32) : Option (Int32 × Int32) :=
  (fM_isThere M_thenKeys M_configuration p1).bind fun r7 =>
  if r7 = 0 then
    some ((-1), 0)
  else
    og_ck p1 40 <|
    (fM_isRinged M_reaches (M_rank p1.toNatClampNeg)).bind fun r22 =>
    if r22 = 0 then
      fM_state_L34 (fM_state_K34_84 0) M_thenKeys M_rank M_reaches p1 FU 0 0
    else
      some (2, 0)
noncomputable def fM_least (M_code : Int32) (M_thenKeys : Int32) (M_configuration : Int32) (M_rank : (Nat → Int32)) (M_shortest : (Nat → Int32)) (p1 : Int32) : Option (Int32 × Int32) :=
  (fM_isThere M_thenKeys M_configuration p1).bind fun r7 =>
  if r7 = 0 then
    some ((-1), 0)
  else
    og_ck p1 40 <|
    og_ck (M_rank p1.toNatClampNeg) 40 <|
    some ((M_shortest (M_rank p1.toNatClampNeg).toNatClampNeg), 0)
noncomputable def fM_ringOf_K28_59 (M_metSize : Int32) (M_way : (Nat → Int32)) : Option (Int32 × Int32 × (Nat → Int32)) :=
  some (M_metSize, M_metSize, M_way)
noncomputable def fM_ringOf_L28 (k28_59 : (Nat → Int32) → Option (Int32 × Int32 × (Nat → Int32))) (M_metSize : Int32) (v3 : Int32) : Nat → Int32 → (Nat → Int32) → Option (Int32 × Int32 × (Nat → Int32))
  | 0, _, _ => none
  | n + 1, v4, M_way =>
    if M_metSize ≤ v4 then
      k28_59 M_way
    else
      og_ck (v3 + v4) 40 <|
      og_ck v4 40 <|
      fM_ringOf_L28 k28_59 M_metSize v3 n (v4 + 1) (upd M_way v4.toNatClampNeg (M_way (v3 + v4).toNatClampNeg))
noncomputable def fM_ringOf_K2_18 (M_way : (Nat → Int32)) (p1 : Int32) (v3 : Int32) : Option (Int32 × Int32 × (Nat → Int32)) :=
  fM_ringOf_L28 (fM_ringOf_K28_59 (p1 - v3)) (p1 - v3) v3 FU 0 M_way
noncomputable def fM_ringOf_L2 (k2_18 : Int32 → Option (Int32 × Int32 × (Nat → Int32))) (M_way : (Nat → Int32)) (p2 : Int32) : Nat → Int32 → Option (Int32 × Int32 × (Nat → Int32))
  | 0, _ => none
  | n + 1, v3 =>
    og_ck v3 40 <|
    if (M_way v3.toNatClampNeg) = p2 then
      k2_18 v3
    else
      fM_ringOf_L2 k2_18 M_way p2 n (v3 + 1)
noncomputable def fM_ringOf (M_metSize : Int32) (M_way : (Nat → Int32)) (p1 : Int32) (p2 : Int32) : Option (Int32 × Int32 × (Nat → Int32)) :=
  fM_ringOf_L2 (fM_ringOf_K2_18 M_way p1) M_way p2 FU 0
noncomputable def fM_ask_K74_245 (M_code : Int32) (M_metSize : Int32) (M_way : (Nat → Int32)) (M_asked : (Nat → Int32)) (M_at : (Nat → Int32)) : Option (Int32 × Int32 × Int32 × (Nat → Int32) × (Nat → Int32) × (Nat → Int32)) :=
  some (0, M_code, M_metSize, M_way, M_asked, M_at)
noncomputable def fM_ask_L74 (k74_245 : Int32 → (Nat → Int32) → (Nat → Int32) → (Nat → Int32) → Option (Int32 × Int32 × Int32 × (Nat → Int32) × (Nat → Int32) × (Nat → Int32))) (M_code : Int32) (M_edges : Int32) (M_from : (Nat → Int32)) (M_to : (Nat → Int32)) (M_bits : (Nat → Int32)) (M_gone : (Nat → Int32)) (M_configuration : Int32) : Nat → Int32 → Int32 → (Nat → Int32) → (Nat → Int32) → (Nat → Int32) → Option (Int32 × Int32 × Int32 × (Nat → Int32) × (Nat → Int32) × (Nat → Int32))
  | 0, _, _, _, _, _ => none
  | n + 1, v2, M_metSize, M_way, M_asked, M_at =>
    if v2 ≤ 0 then
      k74_245 M_metSize M_way M_asked M_at
    else
      og_ck (v2 - 1) 40 <|
      og_ck (M_way (v2 - 1).toNatClampNeg) 40 <|
      og_ck (M_way (v2 - 1).toNatClampNeg) 40 <|
      og_ck (M_way (v2 - 1).toNatClampNeg) 40 <|
      if (M_at (M_way (v2 - 1).toNatClampNeg).toNatClampNeg) = M_edges then
        og_ck (M_way (v2 - 1).toNatClampNeg) 40 <|
        fM_ask_L74 k74_245 M_code M_edges M_from M_to M_bits M_gone M_configuration n (v2 + (-1)) M_metSize M_way (upd M_asked (M_way (v2 - 1).toNatClampNeg).toNatClampNeg 2) (upd M_at (M_way (v2 - 1).toNatClampNeg).toNatClampNeg ((M_at (M_way (v2 - 1).toNatClampNeg).toNatClampNeg) + 1))
      else
        og_ck (M_at (M_way (v2 - 1).toNatClampNeg).toNatClampNeg) 160 <|
        if (M_gone (M_at (M_way (v2 - 1).toNatClampNeg).toNatClampNeg).toNatClampNeg) = 0 then
          og_ck (M_at (M_way (v2 - 1).toNatClampNeg).toNatClampNeg) 160 <|
          if (((M_bits (M_at (M_way (v2 - 1).toNatClampNeg).toNatClampNeg).toNatClampNeg) >>> (M_configuration &&& 31)) &&& 1) = 0 then
            fM_ask_L74 k74_245 M_code M_edges M_from M_to M_bits M_gone M_configuration n v2 M_metSize M_way M_asked (upd M_at (M_way (v2 - 1).toNatClampNeg).toNatClampNeg ((M_at (M_way (v2 - 1).toNatClampNeg).toNatClampNeg) + 1))
          else
            og_ck (M_at (M_way (v2 - 1).toNatClampNeg).toNatClampNeg) 160 <|
            if (M_from (M_at (M_way (v2 - 1).toNatClampNeg).toNatClampNeg).toNatClampNeg) = (M_way (v2 - 1).toNatClampNeg) then
              og_ck (M_at (M_way (v2 - 1).toNatClampNeg).toNatClampNeg) 160 <|
              og_ck (M_to (M_at (M_way (v2 - 1).toNatClampNeg).toNatClampNeg).toNatClampNeg) 40 <|
              if (M_asked (M_to (M_at (M_way (v2 - 1).toNatClampNeg).toNatClampNeg).toNatClampNeg).toNatClampNeg) = 2 then
                fM_ask_L74 k74_245 M_code M_edges M_from M_to M_bits M_gone M_configuration n v2 M_metSize M_way M_asked (upd M_at (M_way (v2 - 1).toNatClampNeg).toNatClampNeg ((M_at (M_way (v2 - 1).toNatClampNeg).toNatClampNeg) + 1))
              else
                og_ck (M_at (M_way (v2 - 1).toNatClampNeg).toNatClampNeg) 160 <|
                og_ck (M_to (M_at (M_way (v2 - 1).toNatClampNeg).toNatClampNeg).toNatClampNeg) 40 <|
                if (M_asked (M_to (M_at (M_way (v2 - 1).toNatClampNeg).toNatClampNeg).toNatClampNeg).toNatClampNeg) = 1 then
                  og_ck (M_at (M_way (v2 - 1).toNatClampNeg).toNatClampNeg) 160 <|
                  (fM_ringOf M_metSize M_way v2 (M_to (M_at (M_way (v2 - 1).toNatClampNeg).toNatClampNeg).toNatClampNeg)).bind fun r209 =>
                  some (r209.1, M_code, r209.2.1, r209.2.2, M_asked, (upd M_at (M_way (v2 - 1).toNatClampNeg).toNatClampNeg ((M_at (M_way (v2 - 1).toNatClampNeg).toNatClampNeg) + 1)))
                else
                  og_ck (M_at (M_way (v2 - 1).toNatClampNeg).toNatClampNeg) 160 <|
                  og_ck (M_to (M_at (M_way (v2 - 1).toNatClampNeg).toNatClampNeg).toNatClampNeg) 40 <|
                  og_ck (M_at (M_way (v2 - 1).toNatClampNeg).toNatClampNeg) 160 <|
                  og_ck v2 40 <|
                  fM_ask_L74 k74_245 M_code M_edges M_from M_to M_bits M_gone M_configuration n (v2 + 1) M_metSize (upd M_way v2.toNatClampNeg (M_to (M_at (M_way (v2 - 1).toNatClampNeg).toNatClampNeg).toNatClampNeg)) (upd M_asked (M_to (M_at (M_way (v2 - 1).toNatClampNeg).toNatClampNeg).toNatClampNeg).toNatClampNeg 1) (upd M_at (M_way (v2 - 1).toNatClampNeg).toNatClampNeg ((M_at (M_way (v2 - 1).toNatClampNeg).toNatClampNeg) + 1))
            else
              fM_ask_L74 k74_245 M_code M_edges M_from M_to M_bits M_gone M_configuration n v2 M_metSize M_way M_asked (upd M_at (M_way (v2 - 1).toNatClampNeg).toNatClampNeg ((M_at (M_way (v2 - 1).toNatClampNeg).toNatClampNeg) + 1))
        else
          fM_ask_L74 k74_245 M_code M_edges M_from M_to M_bits M_gone M_configuration n v2 M_metSize M_way M_asked (upd M_at (M_way (v2 - 1).toNatClampNeg).toNatClampNeg ((M_at (M_way (v2 - 1).toNatClampNeg).toNatClampNeg) + 1))
noncomputable def fM_ask_K25_53 (M_code : Int32) (M_edges : Int32) (M_from : (Nat → Int32)) (M_to : (Nat → Int32)) (M_bits : (Nat → Int32)) (M_gone : (Nat → Int32)) (M_configuration : Int32) (M_way : (Nat → Int32)) (p1 : Int32) (M_asked : (Nat → Int32)) (M_at : (Nat → Int32)) : Option (Int32 × Int32 × Int32 × (Nat → Int32) × (Nat → Int32) × (Nat → Int32)) :=
  og_ck p1 40 <|
  og_ck 0 40 <|
  fM_ask_L74 (fM_ask_K74_245 M_code) M_code M_edges M_from M_to M_bits M_gone M_configuration FU 1 0 (upd M_way (0 : Int32).toNatClampNeg p1) (upd M_asked p1.toNatClampNeg 1) M_at
noncomputable def fM_ask_L25 (k25_53 : (Nat → Int32) → (Nat → Int32) → Option (Int32 × Int32 × Int32 × (Nat → Int32) × (Nat → Int32) × (Nat → Int32))) (M_keys : Int32) : Nat → Int32 → (Nat → Int32) → (Nat → Int32) → Option (Int32 × Int32 × Int32 × (Nat → Int32) × (Nat → Int32) × (Nat → Int32))
  | 0, _, _, _ => none
  | n + 1, v2, M_asked, M_at =>
    if M_keys ≤ v2 then
      k25_53 M_asked M_at
    else
      og_ck v2 40 <|
      og_ck v2 40 <|
      fM_ask_L25 k25_53 M_keys n (v2 + 1) (upd M_asked v2.toNatClampNeg 0) (upd M_at v2.toNatClampNeg 0)
noncomputable def fM_ask (M_code : Int32) (M_keys : Int32) (M_edges : Int32) (M_from : (Nat → Int32)) (M_to : (Nat → Int32)) (M_bits : (Nat → Int32)) (M_gone : (Nat → Int32)) (M_configuration : Int32) (M_metSize : Int32) (M_way : (Nat → Int32)) (M_asked : (Nat → Int32)) (M_at : (Nat → Int32)) (p1 : Int32) : Option (Int32 × Int32 × Int32 × (Nat → Int32) × (Nat → Int32) × (Nat → Int32)) :=
  if M_configuration = (-1) then
    some ((-1), 0, M_metSize, M_way, M_asked, M_at)
  else
    (fM_isKey M_keys p1).bind fun r15 =>
    if r15 = 0 then
      some ((-1), 0, M_metSize, M_way, M_asked, M_at)
    else
      fM_ask_L25 (fM_ask_K25_53 0 M_edges M_from M_to M_bits M_gone M_configuration M_way p1) M_keys FU 0 M_asked M_at
noncomputable def fM_met (M_code : Int32) (M_metSize : Int32) (M_way : (Nat → Int32)) (p1 : Int32) : Option (Int32 × Int32) :=
  if p1 < 0 then
    some ((-1), 0)
  else
    if p1 < M_metSize then
      og_ck p1 40 <|
      some ((M_way p1.toNatClampNeg), 0)
    else
      some ((-1), 0)
