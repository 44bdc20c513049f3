noncomputable def fX_bitCount (p0 : Int64) : Option (Int32) :=
  og_le ((p0 - ((p0.toUInt64 >>> ((1 : Int32).toInt64.toUInt64 &&& Int64.toUInt64 63)).toInt64 &&& 6148914691236517205)) : Int64) fun x9 =>
  og_le (((x9 &&& 3689348814741910323) + ((x9.toUInt64 >>> ((2 : Int32).toInt64.toUInt64 &&& Int64.toUInt64 63)).toInt64 &&& 3689348814741910323)) : Int64) fun x23 =>
  og_le (((x23 + (x23.toUInt64 >>> ((4 : Int32).toInt64.toUInt64 &&& Int64.toUInt64 63)).toInt64) &&& 1085102592571150095) : Int64) fun x33 =>
  og_le ((x33 + (x33.toUInt64 >>> ((8 : Int32).toInt64.toUInt64 &&& Int64.toUInt64 63)).toInt64) : Int64) fun x40 =>
  og_le ((x40 + (x40.toUInt64 >>> ((16 : Int32).toInt64.toUInt64 &&& Int64.toUInt64 63)).toInt64) : Int64) fun x47 =>
  og_le ((x47 + (x47.toUInt64 >>> ((32 : Int32).toInt64.toUInt64 &&& Int64.toUInt64 63)).toInt64) : Int64) fun x54 =>
  some (x54.toInt32 &&& 127)
noncomputable def fK_isNamed_K2_28 : Option (Int32) :=
  some 0
noncomputable def fK_isNamed_L2 (k2_28 : Option (Int32)) (K_count : Int32) (K_names : (Nat → Int32)) (p1 : Int32) : Nat → Int32 → Option (Int32)
  | 0, _ => none
  | n + 1, v2 =>
    if K_count ≤ v2 then
      k2_28
    else
      og_ck v2 40 <|
      if (K_names v2.toNatClampNeg) = p1 then
        some 1
      else
        fK_isNamed_L2 k2_28 K_count K_names p1 n (v2 + 1)
noncomputable def fK_isNamed (K_count : Int32) (K_names : (Nat → Int32)) (p1 : Int32) : Option (Int32) :=
  fK_isNamed_L2 fK_isNamed_K2_28 K_count K_names p1 FU 0
noncomputable def fK_insert_K55_78 (K_rankOf : (Nat → Int32)) (K_byRank : (Nat → Int32)) : Option ((Nat → Int32) × (Nat → Int32)) :=
  some (K_byRank, K_rankOf)
noncomputable def fK_insert_L55 (k55_78 : (Nat → Int32) → Option ((Nat → Int32) × (Nat → Int32))) (K_rankOf : (Nat → Int32)) (p1 : Int32) : Nat → Int32 → (Nat → Int32) → Option ((Nat → Int32) × (Nat → Int32))
  | 0, _, _ => none
  | n + 1, v3, K_byRank =>
    if p1 < v3 then
      k55_78 K_byRank
    else
      og_ck v3 40 <|
      og_ck (K_rankOf v3.toNatClampNeg) 40 <|
      fK_insert_L55 k55_78 K_rankOf p1 n (v3 + 1) (upd K_byRank (K_rankOf v3.toNatClampNeg).toNatClampNeg v3)
noncomputable def fK_insert_K4_46 (K_byRank : (Nat → Int32)) (p1 : Int32) (v2 : Int32) (K_rankOf : (Nat → Int32)) : Option ((Nat → Int32) × (Nat → Int32)) :=
  og_ck p1 40 <|
  fK_insert_L55 (fK_insert_K55_78 (upd K_rankOf p1.toNatClampNeg v2)) (upd K_rankOf p1.toNatClampNeg v2) p1 FU 0 K_byRank
noncomputable def fK_insert_L4 (k4_46 : Int32 → (Nat → Int32) → Option ((Nat → Int32) × (Nat → Int32))) (K_names : (Nat → Int32)) (p1 : Int32) : Nat → Int32 → Int32 → (Nat → Int32) → Option ((Nat → Int32) × (Nat → Int32))
  | 0, _, _, _ => none
  | n + 1, v2, v3, K_rankOf =>
    if p1 ≤ v3 then
      k4_46 v2 K_rankOf
    else
      og_ck v3 40 <|
      og_ck p1 40 <|
      if (K_names p1.toNatClampNeg) ≤ (K_names v3.toNatClampNeg) then
        og_ck v3 40 <|
        og_ck v3 40 <|
        fK_insert_L4 k4_46 K_names p1 n v2 (v3 + 1) (upd K_rankOf v3.toNatClampNeg ((K_rankOf v3.toNatClampNeg) + 1))
      else
        fK_insert_L4 k4_46 K_names p1 n (v2 + 1) (v3 + 1) K_rankOf
noncomputable def fK_insert (K_names : (Nat → Int32)) (K_byRank : (Nat → Int32)) (K_rankOf : (Nat → Int32)) (p1 : Int32) : Option ((Nat → Int32) × (Nat → Int32)) :=
  fK_insert_L4 (fK_insert_K4_46 K_byRank p1) K_names p1 FU 0 0 K_rankOf
noncomputable def fK_add (K_count : Int32) (K_names : (Nat → Int32)) (K_byRank : (Nat → Int32)) (K_rankOf : (Nat → Int32)) (p1 : Int32) : Option (Int32 × Int32 × (Nat → Int32) × (Nat → Int32) × (Nat → Int32)) :=
  if 40 ≤ K_count then
    some ((-1), K_count, K_names, K_byRank, K_rankOf)
  else
    (fK_isNamed K_count K_names p1).bind fun r11 =>
    if r11 = 0 then
      og_ck K_count 40 <|
      (fK_insert (upd K_names K_count.toNatClampNeg p1) K_byRank K_rankOf K_count).bind fun r33 =>
      some (K_count, (K_count + 1), (upd K_names K_count.toNatClampNeg p1), r33.1, r33.2)
    else
      some ((-1), K_count, K_names, K_byRank, K_rankOf)
noncomputable def fK_has (K_count : Int32) (p1 : Int32) : Option (Int32) :=
  if p1 < 0 then
    some 0
  else
    if K_count ≤ p1 then
      some 0
    else
      some 1
noncomputable def fE_add (E_count : Int32) (E_from : (Nat → Int32)) (E_to : (Nat → Int32)) (E_places : (Nat → Int32)) (E_configurations : (Nat → Int32)) (p1 : Int32) (p2 : Int32) (p3 : Int32) (p4 : Int32) : Option (Int32 × Int32 × (Nat → Int32) × (Nat → Int32) × (Nat → Int32) × (Nat → Int32)) :=
  if E_count < 160 then
    og_ck E_count 160 <|
    og_ck E_count 160 <|
    og_ck E_count 160 <|
    og_ck E_count 160 <|
    some (E_count, (E_count + 1), (upd E_from E_count.toNatClampNeg p1), (upd E_to E_count.toNatClampNeg p2), (upd E_places E_count.toNatClampNeg p3), (upd E_configurations E_count.toNatClampNeg (p4 &&& 255)))
  else
    some ((-1), E_count, E_from, E_to, E_places, E_configurations)
noncomputable def fE_joins (E_from : (Nat → Int32)) (E_to : (Nat → Int32)) (p1 : Int32) (p2 : Int32) (p3 : Int32) : Option (Int32) :=
  og_ck p1 160 <|
  if (E_from p1.toNatClampNeg) = p2 then
    og_ck p1 160 <|
    if (E_to p1.toNatClampNeg) = p3 then
      some 1
    else
      some 0
  else
    some 0
noncomputable def fE_has (E_count : Int32) (p1 : Int32) : Option (Int32) :=
  if p1 < 0 then
    some 0
  else
    if E_count ≤ p1 then
      some 0
    else
      some 1
noncomputable def fE_drop (E_count : Int32) (E_gone : (Nat → Int32)) (p1 : Int32) : Option (Int32 × (Nat → Int32)) :=
  (fE_has E_count p1).bind fun r2 =>
  if r2 = 0 then
    some (0, E_gone)
  else
    og_ck p1 160 <|
    if (E_gone p1.toNatClampNeg) = 0 then
      og_ck p1 160 <|
      some (1, (upd E_gone p1.toNatClampNeg (vp_nar .boolean 1)))
    else
      some (0, E_gone)
noncomputable def fE_dropBetween_K5_43 (v3 : Int32) (E_gone : (Nat → Int32)) : Option (Int32 × (Nat → Int32)) :=
  some (v3, E_gone)
noncomputable def fE_dropBetween_L5 (k5_43 : Int32 → (Nat → Int32) → Option (Int32 × (Nat → Int32))) (E_count : Int32) (E_from : (Nat → Int32)) (E_to : (Nat → Int32)) (p1 : Int32) (p2 : Int32) : Nat → Int32 → Int32 → (Nat → Int32) → Option (Int32 × (Nat → Int32))
  | 0, _, _, _ => none
  | n + 1, v3, v4, E_gone =>
    if E_count ≤ v4 then
      k5_43 v3 E_gone
    else
      (fE_joins E_from E_to v4 p1 p2).bind fun r19 =>
      if r19 = 0 then
        fE_dropBetween_L5 k5_43 E_count E_from E_to p1 p2 n v3 (v4 + 1) E_gone
      else
        (fE_drop E_count E_gone v4).bind fun r28 =>
        if r28.1 = 0 then
          fE_dropBetween_L5 k5_43 E_count E_from E_to p1 p2 n v3 (v4 + 1) r28.2
        else
          fE_dropBetween_L5 k5_43 E_count E_from E_to p1 p2 n (v3 + 1) (v4 + 1) r28.2
noncomputable def fE_dropBetween (E_count : Int32) (E_from : (Nat → Int32)) (E_to : (Nat → Int32)) (E_gone : (Nat → Int32)) (p1 : Int32) (p2 : Int32) : Option (Int32 × (Nat → Int32)) :=
  fE_dropBetween_L5 fE_dropBetween_K5_43 E_count E_from E_to p1 p2 FU 0 0 E_gone
noncomputable def fE_isIn (E_count : Int32) (E_configurations : (Nat → Int32)) (E_gone : (Nat → Int32)) (p1 : Int32) (p2 : Int32) : Option (Int32) :=
  (fE_has E_count p1).bind fun r2 =>
  if r2 = 0 then
    some 0
  else
    og_ck p1 160 <|
    if (E_gone p1.toNatClampNeg) = 0 then
      og_ck p1 160 <|
      if (((E_configurations p1.toNatClampNeg) >>> (p2 &&& 31)) &&& 1) = 0 then
        some 0
      else
        some 1
    else
      some 0
noncomputable def fE_leastPlaced_K6_69 (v4 : Int32) : Option (Int32) :=
  some v4
noncomputable def fE_leastPlaced_L6 (k6_69 : Int32 → Option (Int32)) (E_count : Int32) (E_from : (Nat → Int32)) (E_to : (Nat → Int32)) (E_places : (Nat → Int32)) (E_configurations : (Nat → Int32)) (E_gone : (Nat → Int32)) (p1 : Int32) (p2 : Int32) (p3 : Int32) : Nat → Int32 → Int32 → Option (Int32)
  | 0, _, _ => none
  | n + 1, v4, v5 =>
    if E_count ≤ v5 then
      k6_69 v4
    else
      (fE_joins E_from E_to v5 p1 p2).bind fun r20 =>
      if r20 = 0 then
        fE_leastPlaced_L6 k6_69 E_count E_from E_to E_places E_configurations E_gone p1 p2 p3 n v4 (v5 + 1)
      else
        (fE_isIn E_count E_configurations E_gone v5 p3).bind fun r30 =>
        if r30 = 0 then
          fE_leastPlaced_L6 k6_69 E_count E_from E_to E_places E_configurations E_gone p1 p2 p3 n v4 (v5 + 1)
        else
          if v4 = (-1) then
            fE_leastPlaced_L6 k6_69 E_count E_from E_to E_places E_configurations E_gone p1 p2 p3 n v5 (v5 + 1)
          else
            og_ck v5 160 <|
            og_ck v4 160 <|
            if (E_places v4.toNatClampNeg) ≤ (E_places v5.toNatClampNeg) then
              fE_leastPlaced_L6 k6_69 E_count E_from E_to E_places E_configurations E_gone p1 p2 p3 n v4 (v5 + 1)
            else
              fE_leastPlaced_L6 k6_69 E_count E_from E_to E_places E_configurations E_gone p1 p2 p3 n v5 (v5 + 1)
noncomputable def fE_leastPlaced (E_count : Int32) (E_from : (Nat → Int32)) (E_to : (Nat → Int32)) (E_places : (Nat → Int32)) (E_configurations : (Nat → Int32)) (E_gone : (Nat → Int32)) (p1 : Int32) (p2 : Int32) (p3 : Int32) : Option (Int32) :=
  fE_leastPlaced_L6 fE_leastPlaced_K6_69 E_count E_from E_to E_places E_configurations E_gone p1 p2 p3 FU (-1) 0
noncomputable def fE_configurationsBetween_K5_51 (v3 : Int32) : Option (Int32) :=
  some v3
noncomputable def fE_configurationsBetween_L5 (k5_51 : Int32 → Option (Int32)) (E_count : Int32) (E_from : (Nat → Int32)) (E_to : (Nat → Int32)) (E_configurations : (Nat → Int32)) (E_gone : (Nat → Int32)) (p1 : Int32) (p2 : Int32) : Nat → Int32 → Int32 → Option (Int32)
  | 0, _, _ => none
  | n + 1, v3, v4 =>
    if E_count ≤ v4 then
      k5_51 v3
    else
      (fE_joins E_from E_to v4 p1 p2).bind fun r19 =>
      if r19 = 0 then
        fE_configurationsBetween_L5 k5_51 E_count E_from E_to E_configurations E_gone p1 p2 n v3 (v4 + 1)
      else
        og_ck v4 160 <|
        if (E_gone v4.toNatClampNeg) = 0 then
          og_ck v4 160 <|
          fE_configurationsBetween_L5 k5_51 E_count E_from E_to E_configurations E_gone p1 p2 n (v3 ||| (E_configurations v4.toNatClampNeg)) (v4 + 1)
        else
          fE_configurationsBetween_L5 k5_51 E_count E_from E_to E_configurations E_gone p1 p2 n v3 (v4 + 1)
noncomputable def fE_configurationsBetween (E_count : Int32) (E_from : (Nat → Int32)) (E_to : (Nat → Int32)) (E_configurations : (Nat → Int32)) (E_gone : (Nat → Int32)) (p1 : Int32) (p2 : Int32) : Option (Int32) :=
  fE_configurationsBetween_L5 fE_configurationsBetween_K5_51 E_count E_from E_to E_configurations E_gone p1 p2 FU 0 0
noncomputable def fE_placeOf (E_count : Int32) (E_places : (Nat → Int32)) (p1 : Int32) : Option (Int32) :=
  (fE_has E_count p1).bind fun r2 =>
  if r2 = 0 then
    some (-1)
  else
    og_ck p1 160 <|
    some (E_places p1.toNatClampNeg)
noncomputable def fR_contains (p0 : Int64) (p2 : Int32) : Option (Int32) :=
  if (lg_cmp ((p0.toUInt64 >>> (p2.toInt64.toUInt64 &&& Int64.toUInt64 63)).toInt64 &&& 1) 0) = 0 then
    some 0
  else
    some 1
noncomputable def fR_lowest (p0 : Int64) : Option (Int32) :=
  (fX_bitCount ((p0 &&& (-p0)) - 1)).bind fun r6 =>
  some r6
noncomputable def fR_askedBy_K11_44 (v3 : Int64) : Option (Int64) :=
  some v3
noncomputable def fR_askedBy_L11 (k11_44 : Int64 → Option (Int64)) (R_asked : (Nat → Int64)) : Nat → Int64 → Int64 → Int32 → Option (Int64)
  | 0, _, _, _ => none
  | n + 1, v3, v5, v7 =>
    if v7 ≤ 0 then
      k11_44 v3
    else
      (fR_lowest v5).bind fun r23 =>
      og_ck r23 40 <|
      fR_askedBy_L11 k11_44 R_asked n (v3 ||| (R_asked r23.toNatClampNeg)) (v5 &&& (v5 - 1)) (v7 + (-1))
noncomputable def fR_askedBy (R_asked : (Nat → Int64)) (p1 : Int64) : Option (Int64) :=
  (fX_bitCount p1).bind fun r6 =>
  fR_askedBy_L11 fR_askedBy_K11_44 R_asked FU 0 p1 r6
noncomputable def fR_follow_K20_78 (R_reached : (Nat → Int64)) (p1 : Int32) (v2 : Int64) (R_shortest : (Nat → Int32)) : Option ((Nat → Int64) × (Nat → Int32)) :=
  og_ck p1 40 <|
  some ((vp_updL R_reached p1.toNatClampNeg v2), R_shortest)
noncomputable def fR_follow_J53 (c20 : Int64 → Int64 → Int32 → (Nat → Int32) → Option ((Nat → Int64) × (Nat → Int32))) (R_asked : (Nat → Int64)) (v2 : Int64) (v4 : Int64) (v6 : Int32) (R_shortest : (Nat → Int32)) : Option ((Nat → Int64) × (Nat → Int32)) :=
  (fR_askedBy R_asked v4).bind fun r61 =>
  c20 (v2 ||| v4) (r61 &&& ((v2 ||| v4) ^^^ (-1))) (v6 + 1) R_shortest
noncomputable def fR_follow_L20 (k20_78 : Int64 → (Nat → Int32) → Option ((Nat → Int64) × (Nat → Int32))) (R_count : Int32) (R_asked : (Nat → Int64)) (p1 : Int32) : Nat → Int64 → Int64 → Int32 → (Nat → Int32) → Option ((Nat → Int64) × (Nat → Int32))
  | 0, _, _, _, _ => none
  | n + 1, v2, v4, v6, R_shortest =>
    if R_count < v6 then
      k20_78 v2 R_shortest
    else
      if (lg_cmp v4 0) = 0 then
        k20_78 v2 R_shortest
      else
        (fR_contains v4 p1).bind fun r39 =>
        if r39 = 0 then
          fR_follow_J53 (fun a0 a1 a2 a3 => fR_follow_L20 k20_78 R_count R_asked p1 n a0 a1 a2 a3) R_asked v2 v4 v6 R_shortest
        else
          og_ck p1 40 <|
          fR_follow_J53 (fun a0 a1 a2 a3 => fR_follow_L20 k20_78 R_count R_asked p1 n a0 a1 a2 a3) R_asked v2 v4 v6 (upd R_shortest p1.toNatClampNeg v6)
noncomputable def fR_follow (R_count : Int32) (R_asked : (Nat → Int64)) (R_reached : (Nat → Int64)) (R_shortest : (Nat → Int32)) (p1 : Int32) : Option ((Nat → Int64) × (Nat → Int32)) :=
  og_ck p1 40 <|
  og_ck p1 40 <|
  fR_follow_L20 (fR_follow_K20_78 R_reached p1) R_count R_asked p1 FU 0 (R_asked p1.toNatClampNeg) 1 (upd R_shortest p1.toNatClampNeg 0)
noncomputable def fR_draw_K99_120 (R_count : Int32) (R_asked : (Nat → Int64)) (R_reached : (Nat → Int64)) (R_shortest : (Nat → Int32)) : Option (Int32 × (Nat → Int64) × (Nat → Int64) × (Nat → Int32)) :=
  some (R_count, R_asked, R_reached, R_shortest)
noncomputable def fR_draw_L99 (k99_120 : (Nat → Int64) → (Nat → Int32) → Option (Int32 × (Nat → Int64) × (Nat → Int64) × (Nat → Int32))) (R_count : Int32) (R_asked : (Nat → Int64)) : Nat → Int32 → (Nat → Int64) → (Nat → Int32) → Option (Int32 × (Nat → Int64) × (Nat → Int64) × (Nat → Int32))
  | 0, _, _, _ => none
  | n + 1, v4, R_reached, R_shortest =>
    if R_count ≤ v4 then
      k99_120 R_reached R_shortest
    else
      (fR_follow R_count R_asked R_reached R_shortest v4).bind fun r111 =>
      fR_draw_L99 k99_120 R_count R_asked n (v4 + 1) r111.1 r111.2
noncomputable def fR_draw_K37_96 (R_count : Int32) (R_reached : (Nat → Int64)) (R_shortest : (Nat → Int32)) (R_asked : (Nat → Int64)) : Option (Int32 × (Nat → Int64) × (Nat → Int64) × (Nat → Int32)) :=
  fR_draw_L99 (fR_draw_K99_120 R_count R_asked) R_count R_asked FU 0 R_reached R_shortest
noncomputable def fR_draw_L37 (k37_96 : (Nat → Int64) → Option (Int32 × (Nat → Int64) × (Nat → Int64) × (Nat → Int32))) (K_rankOf : (Nat → Int32)) (E_count : Int32) (E_from : (Nat → Int32)) (E_to : (Nat → Int32)) (E_configurations : (Nat → Int32)) (E_gone : (Nat → Int32)) (p3 : Int32) : Nat → Int32 → (Nat → Int64) → Option (Int32 × (Nat → Int64) × (Nat → Int64) × (Nat → Int32))
  | 0, _, _ => none
  | n + 1, v4, R_asked =>
    if E_count ≤ v4 then
      k37_96 R_asked
    else
      (fE_isIn E_count E_configurations E_gone v4 p3).bind fun r50 =>
      if r50 = 0 then
        fR_draw_L37 k37_96 K_rankOf E_count E_from E_to E_configurations E_gone p3 n (v4 + 1) R_asked
      else
        og_ck v4 160 <|
        og_ck (E_from v4.toNatClampNeg) 40 <|
        og_ck (K_rankOf (E_from v4.toNatClampNeg).toNatClampNeg) 40 <|
        og_ck v4 160 <|
        og_ck (E_to v4.toNatClampNeg) 40 <|
        og_ck (K_rankOf (E_from v4.toNatClampNeg).toNatClampNeg) 40 <|
        fR_draw_L37 k37_96 K_rankOf E_count E_from E_to E_configurations E_gone p3 n (v4 + 1) (vp_updL R_asked (K_rankOf (E_from v4.toNatClampNeg).toNatClampNeg).toNatClampNeg ((R_asked (K_rankOf (E_from v4.toNatClampNeg).toNatClampNeg).toNatClampNeg) ||| ((1 : Int64) <<< ((K_rankOf (E_to v4.toNatClampNeg).toNatClampNeg).toInt64 &&& 63))))
noncomputable def fR_draw_K11_34 (K_rankOf : (Nat → Int32)) (E_count : Int32) (E_from : (Nat → Int32)) (E_to : (Nat → Int32)) (E_configurations : (Nat → Int32)) (E_gone : (Nat → Int32)) (R_count : Int32) (R_reached : (Nat → Int64)) (R_shortest : (Nat → Int32)) (p3 : Int32) (R_asked : (Nat → Int64)) : Option (Int32 × (Nat → Int64) × (Nat → Int64) × (Nat → Int32)) :=
  fR_draw_L37 (fR_draw_K37_96 R_count R_reached R_shortest) K_rankOf E_count E_from E_to E_configurations E_gone p3 FU 0 R_asked
noncomputable def fR_draw_L11 (k11_34 : (Nat → Int64) → Option (Int32 × (Nat → Int64) × (Nat → Int64) × (Nat → Int32))) (R_count : Int32) : Nat → Int32 → (Nat → Int64) → Option (Int32 × (Nat → Int64) × (Nat → Int64) × (Nat → Int32))
  | 0, _, _ => none
  | n + 1, v4, R_asked =>
    if R_count ≤ v4 then
      k11_34 R_asked
    else
      og_ck v4 40 <|
      fR_draw_L11 k11_34 R_count n (v4 + 1) (vp_updL R_asked v4.toNatClampNeg 0)
noncomputable def fR_draw (K_count : Int32) (K_rankOf : (Nat → Int32)) (E_count : Int32) (E_from : (Nat → Int32)) (E_to : (Nat → Int32)) (E_configurations : (Nat → Int32)) (E_gone : (Nat → Int32)) (R_count : Int32) (R_asked : (Nat → Int64)) (R_reached : (Nat → Int64)) (R_shortest : (Nat → Int32)) (p3 : Int32) : Option (Int32 × (Nat → Int64) × (Nat → Int64) × (Nat → Int32)) :=
  fR_draw_L11 (fR_draw_K11_34 K_rankOf E_count E_from E_to E_configurations E_gone K_count R_reached R_shortest p3) K_count FU 0 R_asked
noncomputable def fR_shortestRing (R_shortest : (Nat → Int32)) (p1 : Int32) : Option (Int32) :=
  og_ck p1 40 <|
  some (R_shortest p1.toNatClampNeg)
noncomputable def fR_reachesRinged_K2_40 : Option (Int32) :=
  some 0
noncomputable def fR_reachesRinged_L2 (k2_40 : Option (Int32)) (R_count : Int32) (R_reached : (Nat → Int64)) (R_shortest : (Nat → Int32)) (p1 : Int32) : Nat → Int32 → Option (Int32)
  | 0, _ => none
  | n + 1, v2 =>
    if R_count ≤ v2 then
      k2_40
    else
      og_ck v2 40 <|
      if (R_shortest v2.toNatClampNeg) ≤ 0 then
        fR_reachesRinged_L2 k2_40 R_count R_reached R_shortest p1 n (v2 + 1)
      else
        og_ck p1 40 <|
        (fR_contains (R_reached p1.toNatClampNeg) v2).bind fun r26 =>
        if r26 = 0 then
          fR_reachesRinged_L2 k2_40 R_count R_reached R_shortest p1 n (v2 + 1)
        else
          some 1
noncomputable def fR_reachesRinged (R_count : Int32) (R_reached : (Nat → Int64)) (R_shortest : (Nat → Int32)) (p1 : Int32) : Option (Int32) :=
  fR_reachesRinged_L2 fR_reachesRinged_K2_40 R_count R_reached R_shortest p1 FU 0
noncomputable def fR_reachEachOther (R_reached : (Nat → Int64)) (p1 : Int32) (p2 : Int32) : Option (Int32) :=
  og_ck p1 40 <|
  (fR_contains (R_reached p1.toNatClampNeg) p2).bind fun r7 =>
  if r7 = 0 then
    some 0
  else
    og_ck p2 40 <|
    (fR_contains (R_reached p2.toNatClampNeg) p1).bind fun r20 =>
    if r20 = 0 then
      some 0
    else
      some 1
noncomputable def fR_askersOf_K5_41 (v3 : Int64) : Option (Int64) :=
  some v3
noncomputable def fR_askersOf_L5 (k5_41 : Int64 → Option (Int64)) (R_count : Int32) (R_asked : (Nat → Int64)) (p1 : Int64) : Nat → Int64 → Int32 → Option (Int64)
  | 0, _, _ => none
  | n + 1, v3, v5 =>
    if R_count ≤ v5 then
      k5_41 v3
    else
      og_ck v5 40 <|
      if (lg_cmp ((R_asked v5.toNatClampNeg) &&& p1) 0) = 0 then
        fR_askersOf_L5 k5_41 R_count R_asked p1 n v3 (v5 + 1)
      else
        fR_askersOf_L5 k5_41 R_count R_asked p1 n (v3 ||| ((1 : Int64) <<< (v5.toInt64 &&& 63))) (v5 + 1)
noncomputable def fR_askersOf (R_count : Int32) (R_asked : (Nat → Int64)) (p1 : Int64) : Option (Int64) :=
  fR_askersOf_L5 fR_askersOf_K5_41 R_count R_asked p1 FU 0 0
noncomputable def fR_layTowards_K11_46 (R_layers : (Nat → Int64)) : Option ((Nat → Int64)) :=
  some R_layers
noncomputable def fR_layTowards_L11 (k11_46 : (Nat → Int64) → Option ((Nat → Int64))) (R_count : Int32) (R_asked : (Nat → Int64)) (p2 : Int32) : Nat → Int32 → (Nat → Int64) → Option ((Nat → Int64))
  | 0, _, _ => none
  | n + 1, v3, R_layers =>
    if p2 ≤ v3 then
      k11_46 R_layers
    else
      if 40 ≤ v3 then
        k11_46 R_layers
      else
        og_ck (v3 - 1) 40 <|
        (fR_askersOf R_count R_asked (R_layers (v3 - 1).toNatClampNeg)).bind fun r36 =>
        og_ck v3 40 <|
        fR_layTowards_L11 k11_46 R_count R_asked p2 n (v3 + 1) (vp_updL R_layers v3.toNatClampNeg r36)
noncomputable def fR_layTowards (R_count : Int32) (R_asked : (Nat → Int64)) (R_layers : (Nat → Int64)) (p1 : Int32) (p2 : Int32) : Option ((Nat → Int64)) :=
  og_ck 0 40 <|
  fR_layTowards_L11 fR_layTowards_K11_46 R_count R_asked p2 FU 1 (vp_updL R_layers (0 : Int32).toNatClampNeg ((1 : Int64) <<< (p1.toInt64 &&& 63)))
noncomputable def fR_firstAsked (R_asked : (Nat → Int64)) (R_layers : (Nat → Int64)) (p1 : Int32) (p2 : Int32) : Option (Int32) :=
  og_ck p1 40 <|
  og_ck p2 40 <|
  if (lg_cmp ((R_asked p1.toNatClampNeg) &&& (R_layers p2.toNatClampNeg)) 0) = 0 then
    some (-1)
  else
    (fR_lowest ((R_asked p1.toNatClampNeg) &&& (R_layers p2.toNatClampNeg))).bind fun r25 =>
    some r25
noncomputable def fT_tellKeys_K2_77 (T_stateOf : (Nat → Int32)) (T_leastOf : (Nat → Int32)) : Option ((Nat → Int32) × (Nat → Int32)) :=
  some (T_stateOf, T_leastOf)
noncomputable def fT_tellKeys_L2 (k2_77 : (Nat → Int32) → (Nat → Int32) → Option ((Nat → Int32) × (Nat → Int32))) (K_byRank : (Nat → Int32)) (R_count : Int32) (R_reached : (Nat → Int64)) (R_shortest : (Nat → Int32)) (T_keyCount : Int32) : Nat → Int32 → (Nat → Int32) → (Nat → Int32) → Option ((Nat → Int32) × (Nat → Int32))
  | 0, _, _, _ => none
  | n + 1, v3, T_stateOf, T_leastOf =>
    if T_keyCount ≤ v3 then
      k2_77 T_stateOf T_leastOf
    else
      og_ck v3 40 <|
      (fR_shortestRing R_shortest v3).bind fun r26 =>
      og_ck (K_byRank v3.toNatClampNeg) 40 <|
      og_ck (K_byRank v3.toNatClampNeg) 40 <|
      if ((upd T_leastOf (K_byRank v3.toNatClampNeg).toNatClampNeg r26) (K_byRank v3.toNatClampNeg).toNatClampNeg) ≤ 0 then
        (fR_reachesRinged R_count R_reached R_shortest v3).bind fun r59 =>
        if r59 = 0 then
          og_ck (K_byRank v3.toNatClampNeg) 40 <|
          fT_tellKeys_L2 k2_77 K_byRank R_count R_reached R_shortest T_keyCount n (v3 + 1) (upd T_stateOf (K_byRank v3.toNatClampNeg).toNatClampNeg 0) (upd T_leastOf (K_byRank v3.toNatClampNeg).toNatClampNeg r26)
        else
          og_ck (K_byRank v3.toNatClampNeg) 40 <|
          fT_tellKeys_L2 k2_77 K_byRank R_count R_reached R_shortest T_keyCount n (v3 + 1) (upd T_stateOf (K_byRank v3.toNatClampNeg).toNatClampNeg 1) (upd T_leastOf (K_byRank v3.toNatClampNeg).toNatClampNeg r26)
      else
        og_ck (K_byRank v3.toNatClampNeg) 40 <|
        fT_tellKeys_L2 k2_77 K_byRank R_count R_reached R_shortest T_keyCount n (v3 + 1) (upd T_stateOf (K_byRank v3.toNatClampNeg).toNatClampNeg 2) (upd T_leastOf (K_byRank v3.toNatClampNeg).toNatClampNeg r26)
noncomputable def fT_tellKeys (K_byRank : (Nat → Int32)) (R_count : Int32) (R_reached : (Nat → Int64)) (R_shortest : (Nat → Int32)) (T_stateOf : (Nat → Int32)) (T_leastOf : (Nat → Int32)) (T_keyCount : Int32) : Option ((Nat → Int32) × (Nat → Int32)) :=
  fT_tellKeys_L2 fT_tellKeys_K2_77 K_byRank R_count R_reached R_shortest T_keyCount FU 0 T_stateOf T_leastOf
noncomputable def fT_firstOfPart_K2_24 (p1 : Int32) : Option (Int32) :=
  some p1
noncomputable def fT_firstOfPart_L2 (k2_24 : Option (Int32)) (R_reached : (Nat → Int64)) (p1 : Int32) : Nat → Int32 → Option (Int32)
  | 0, _ => none
  | n + 1, v3 =>
    if p1 ≤ v3 then
      k2_24
    else
      (fR_reachEachOther R_reached v3 p1).bind fun r10 =>
      if r10 = 0 then
        fT_firstOfPart_L2 k2_24 R_reached p1 n (v3 + 1)
      else
        some v3
noncomputable def fT_firstOfPart (R_reached : (Nat → Int64)) (p1 : Int32) : Option (Int32) :=
  fT_firstOfPart_L2 (fT_firstOfPart_K2_24 p1) R_reached p1 FU 0
noncomputable def fT_numberParts_K5_79 (T_partOf : (Nat → Int32)) : Option ((Nat → Int32)) :=
  some T_partOf
noncomputable def fT_numberParts_L5 (k5_79 : (Nat → Int32) → Option ((Nat → Int32))) (K_byRank : (Nat → Int32)) (R_reached : (Nat → Int64)) (T_keyCount : Int32) : Nat → Int32 → Int32 → (Nat → Int32) → Option ((Nat → Int32))
  | 0, _, _, _ => none
  | n + 1, v3, v4, T_partOf =>
    if T_keyCount ≤ v4 then
      k5_79 T_partOf
    else
      (fT_firstOfPart R_reached v4).bind fun r18 =>
      if r18 = v4 then
        og_ck v4 40 <|
        og_ck (K_byRank v4.toNatClampNeg) 40 <|
        fT_numberParts_L5 k5_79 K_byRank R_reached T_keyCount n (v3 + 1) (v4 + 1) (upd T_partOf (K_byRank v4.toNatClampNeg).toNatClampNeg v3)
      else
        og_ck v4 40 <|
        og_ck r18 40 <|
        og_ck (K_byRank r18.toNatClampNeg) 40 <|
        og_ck (K_byRank v4.toNatClampNeg) 40 <|
        fT_numberParts_L5 k5_79 K_byRank R_reached T_keyCount n v3 (v4 + 1) (upd T_partOf (K_byRank v4.toNatClampNeg).toNatClampNeg (T_partOf (K_byRank r18.toNatClampNeg).toNatClampNeg))
noncomputable def fT_numberParts (K_byRank : (Nat → Int32)) (R_reached : (Nat → Int64)) (T_partOf : (Nat → Int32)) (T_keyCount : Int32) : Option ((Nat → Int32)) :=
  fT_numberParts_L5 fT_numberParts_K5_79 K_byRank R_reached T_keyCount FU 0 0 T_partOf
noncomputable def fT_leastRinged_K7_49 (v3 : Int32) : Option (Int32) :=
  some v3
noncomputable def fT_leastRinged_L7 (k7_49 : Int32 → Option (Int32)) (R_reached : (Nat → Int64)) (R_shortest : (Nat → Int32)) (T_keyCount : Int32) (p1 : Int32) : Nat → Int32 → Int32 → Option (Int32)
  | 0, _, _ => none
  | n + 1, v3, v4 =>
    if T_keyCount ≤ v4 then
      k7_49 v3
    else
      (fR_reachEachOther R_reached p1 v4).bind fun r20 =>
      if r20 = 0 then
        fT_leastRinged_L7 k7_49 R_reached R_shortest T_keyCount p1 n v3 (v4 + 1)
      else
        (fR_shortestRing R_shortest v4).bind fun r29 =>
        (fR_shortestRing R_shortest v3).bind fun r34 =>
        if r34 ≤ r29 then
          fT_leastRinged_L7 k7_49 R_reached R_shortest T_keyCount p1 n v3 (v4 + 1)
        else
          fT_leastRinged_L7 k7_49 R_reached R_shortest T_keyCount p1 n v4 (v4 + 1)
noncomputable def fT_leastRinged (R_reached : (Nat → Int64)) (R_shortest : (Nat → Int32)) (T_keyCount : Int32) (p1 : Int32) : Option (Int32) :=
  fT_leastRinged_L7 fT_leastRinged_K7_49 R_reached R_shortest T_keyCount p1 FU p1 (p1 + 1)
noncomputable def fT_tellRing_K34_85 (R_layers : (Nat → Int64)) (T_ringCount : Int32) (T_starts : (Nat → Int32)) (v5 : Int32) (T_ringKeys : (Nat → Int32)) : Option ((Nat → Int64) × Int32 × (Nat → Int32) × (Nat → Int32)) :=
  og_ck (T_ringCount + 1) 41 <|
  some (R_layers, (T_ringCount + 1), (upd T_starts (T_ringCount + 1).toNatClampNeg v5), T_ringKeys)
noncomputable def fT_tellRing_L34 (k34_85 : Int32 → (Nat → Int32) → Option ((Nat → Int64) × Int32 × (Nat → Int32) × (Nat → Int32))) (K_byRank : (Nat → Int32)) (R_asked : (Nat → Int64)) (R_layers : (Nat → Int64)) : Nat → Int32 → Int32 → Int32 → (Nat → Int32) → Option ((Nat → Int64) × Int32 × (Nat → Int32) × (Nat → Int32))
  | 0, _, _, _, _ => none
  | n + 1, v5, v6, v7, T_ringKeys =>
    if v7 < 0 then
      k34_85 v5 T_ringKeys
    else
      if v6 = (-1) then
        k34_85 v5 T_ringKeys
      else
        if 40 ≤ v5 then
          k34_85 v5 T_ringKeys
        else
          og_ck v6 40 <|
          og_ck v5 40 <|
          (fR_firstAsked R_asked R_layers v6 v7).bind fun r74 =>
          fT_tellRing_L34 k34_85 K_byRank R_asked R_layers n (v5 + 1) r74 (v7 + (-1)) (upd T_ringKeys v5.toNatClampNeg (K_byRank v6.toNatClampNeg))
noncomputable def fT_tellRing (K_byRank : (Nat → Int32)) (R_count : Int32) (R_asked : (Nat → Int64)) (R_shortest : (Nat → Int32)) (R_layers : (Nat → Int64)) (T_ringCount : Int32) (T_starts : (Nat → Int32)) (T_ringKeys : (Nat → Int32)) (p1 : Int32) : Option ((Nat → Int64) × Int32 × (Nat → Int32) × (Nat → Int32)) :=
  (fR_shortestRing R_shortest p1).bind fun r2 =>
  og_ck T_ringCount 41 <|
  (fR_layTowards R_count R_asked R_layers p1 r2).bind fun r22 =>
  fT_tellRing_L34 (fT_tellRing_K34_85 r22 T_ringCount T_starts) K_byRank R_asked r22 FU (T_starts T_ringCount.toNatClampNeg) p1 (r2 - 1) T_ringKeys
noncomputable def fT_tellRings_K7_51 (R_layers : (Nat → Int64)) (T_ringCount : Int32) (T_starts : (Nat → Int32)) (T_ringKeys : (Nat → Int32)) : Option ((Nat → Int64) × Int32 × (Nat → Int32) × (Nat → Int32)) :=
  some (R_layers, T_ringCount, T_starts, T_ringKeys)
noncomputable def fT_tellRings_L7 (k7_51 : (Nat → Int64) → Int32 → (Nat → Int32) → (Nat → Int32) → Option ((Nat → Int64) × Int32 × (Nat → Int32) × (Nat → Int32))) (K_byRank : (Nat → Int32)) (R_count : Int32) (R_asked : (Nat → Int64)) (R_reached : (Nat → Int64)) (R_shortest : (Nat → Int32)) (T_keyCount : Int32) : Nat → Int32 → (Nat → Int64) → Int32 → (Nat → Int32) → (Nat → Int32) → Option ((Nat → Int64) × Int32 × (Nat → Int32) × (Nat → Int32))
  | 0, _, _, _, _, _ => none
  | n + 1, v3, R_layers, T_ringCount, T_starts, T_ringKeys =>
    if T_keyCount ≤ v3 then
      k7_51 R_layers T_ringCount T_starts T_ringKeys
    else
      (fR_shortestRing R_shortest v3).bind fun r17 =>
      if r17 ≤ 0 then
        fT_tellRings_L7 k7_51 K_byRank R_count R_asked R_reached R_shortest T_keyCount n (v3 + 1) R_layers T_ringCount T_starts T_ringKeys
      else
        (fT_firstOfPart R_reached v3).bind fun r26 =>
        if r26 = v3 then
          (fT_leastRinged R_reached R_shortest T_keyCount v3).bind fun r37 =>
          (fT_tellRing K_byRank R_count R_asked R_shortest R_layers T_ringCount T_starts T_ringKeys r37).bind fun r42 =>
          fT_tellRings_L7 k7_51 K_byRank R_count R_asked R_reached R_shortest T_keyCount n (v3 + 1) r42.1 r42.2.1 r42.2.2.1 r42.2.2.2
        else
          fT_tellRings_L7 k7_51 K_byRank R_count R_asked R_reached R_shortest T_keyCount n (v3 + 1) R_layers T_ringCount T_starts T_ringKeys
noncomputable def fT_tellRings (K_byRank : (Nat → Int32)) (R_count : Int32) (R_asked : (Nat → Int64)) (R_reached : (Nat → Int64)) (R_shortest : (Nat → Int32)) (R_layers : (Nat → Int64)) (T_ringCount : Int32) (T_keyCount : Int32) (T_starts : (Nat → Int32)) (T_ringKeys : (Nat → Int32)) : Option ((Nat → Int64) × Int32 × (Nat → Int32) × (Nat → Int32)) :=
  fT_tellRings_L7 fT_tellRings_K7_51 K_byRank R_count R_asked R_reached R_shortest T_keyCount FU 0 R_layers 0 T_starts T_ringKeys
noncomputable def fT_tellEdges_K12_105 (T_configuration : Int32) (T_onlyIn : (Nat → Int32)) (p1 : Int32) (v3 : Int32) (T_ringEdges : (Nat → Int32)) : Option ((Nat → Int32) × (Nat → Int32)) :=
  if v3 = ((1 : Int32) <<< (T_configuration &&& 31)) then
    og_ck p1 40 <|
    some ((upd T_onlyIn p1.toNatClampNeg T_configuration), T_ringEdges)
  else
    og_ck p1 40 <|
    some ((upd T_onlyIn p1.toNatClampNeg (-1)), T_ringEdges)
noncomputable def fT_tellEdges_J66 (c12 : Int32 → Int32 → (Nat → Int32) → Option ((Nat → Int32) × (Nat → Int32))) (E_count : Int32) (E_from : (Nat → Int32)) (E_to : (Nat → Int32)) (E_places : (Nat → Int32)) (E_configurations : (Nat → Int32)) (E_gone : (Nat → Int32)) (T_configuration : Int32) (T_ringKeys : (Nat → Int32)) (T_ringEdges : (Nat → Int32)) (v3 : Int32) (v4 : Int32) (v5 : Int32) (s66_1 : Int32) : Option ((Nat → Int32) × (Nat → Int32)) :=
  og_ck s66_1 40 <|
  (fE_leastPlaced E_count E_from E_to E_places E_configurations E_gone v5 (T_ringKeys s66_1.toNatClampNeg) T_configuration).bind fun r84 =>
  og_ck v4 40 <|
  (fE_configurationsBetween E_count E_from E_to E_configurations E_gone v5 (T_ringKeys s66_1.toNatClampNeg)).bind fun r94 =>
  c12 (v3 &&& r94) (v4 + 1) (upd T_ringEdges v4.toNatClampNeg r84)
noncomputable def fT_tellEdges_L12 (k12_105 : Int32 → (Nat → Int32) → Option ((Nat → Int32) × (Nat → Int32))) (E_count : Int32) (E_from : (Nat → Int32)) (E_to : (Nat → Int32)) (E_places : (Nat → Int32)) (E_configurations : (Nat → Int32)) (E_gone : (Nat → Int32)) (T_configuration : Int32) (T_starts : (Nat → Int32)) (T_ringKeys : (Nat → Int32)) (p1 : Int32) : Nat → Int32 → Int32 → (Nat → Int32) → Option ((Nat → Int32) × (Nat → Int32))
  | 0, _, _, _ => none
  | n + 1, v3, v4, T_ringEdges =>
    og_ck (p1 + 1) 41 <|
    if (T_starts (p1 + 1).toNatClampNeg) ≤ v4 then
      k12_105 v3 T_ringEdges
    else
      og_ck v4 40 <|
      og_ck (p1 + 1) 41 <|
      if (T_starts (p1 + 1).toNatClampNeg) ≤ (v4 + 1) then
        og_ck p1 41 <|
        fT_tellEdges_J66 (fun a0 a1 a2 => fT_tellEdges_L12 k12_105 E_count E_from E_to E_places E_configurations E_gone T_configuration T_starts T_ringKeys p1 n a0 a1 a2) E_count E_from E_to E_places E_configurations E_gone T_configuration T_ringKeys T_ringEdges v3 v4 (T_ringKeys v4.toNatClampNeg) (T_starts p1.toNatClampNeg)
      else
        fT_tellEdges_J66 (fun a0 a1 a2 => fT_tellEdges_L12 k12_105 E_count E_from E_to E_places E_configurations E_gone T_configuration T_starts T_ringKeys p1 n a0 a1 a2) E_count E_from E_to E_places E_configurations E_gone T_configuration T_ringKeys T_ringEdges v3 v4 (T_ringKeys v4.toNatClampNeg) (v4 + 1)
noncomputable def fT_tellEdges (E_count : Int32) (E_from : (Nat → Int32)) (E_to : (Nat → Int32)) (E_places : (Nat → Int32)) (E_configurations : (Nat → Int32)) (E_gone : (Nat → Int32)) (T_configuration : Int32) (T_onlyIn : (Nat → Int32)) (T_starts : (Nat → Int32)) (T_ringKeys : (Nat → Int32)) (T_ringEdges : (Nat → Int32)) (p1 : Int32) : Option ((Nat → Int32) × (Nat → Int32)) :=
  og_ck p1 41 <|
  fT_tellEdges_L12 (fT_tellEdges_K12_105 T_configuration T_onlyIn p1) E_count E_from E_to E_places E_configurations E_gone T_configuration T_starts T_ringKeys p1 FU 255 (T_starts p1.toNatClampNeg) T_ringEdges
noncomputable def fT_tell_K35_57 (R_layers : (Nat → Int64)) (T_configuration : Int32) (T_ringCount : Int32) (T_partOf : (Nat → Int32)) (T_stateOf : (Nat → Int32)) (T_leastOf : (Nat → Int32)) (T_keyCount : Int32) (T_starts : (Nat → Int32)) (T_ringKeys : (Nat → Int32)) (T_onlyIn : (Nat → Int32)) (T_ringEdges : (Nat → Int32)) : Option ((Nat → Int64) × Int32 × Int32 × (Nat → Int32) × (Nat → Int32) × (Nat → Int32) × (Nat → Int32) × Int32 × (Nat → Int32) × (Nat → Int32) × (Nat → Int32)) :=
  some (R_layers, T_configuration, T_ringCount, T_partOf, T_stateOf, T_leastOf, T_onlyIn, T_keyCount, T_starts, T_ringKeys, T_ringEdges)
noncomputable def fT_tell_L35 (k35_57 : (Nat → Int32) → (Nat → Int32) → Option ((Nat → Int64) × Int32 × Int32 × (Nat → Int32) × (Nat → Int32) × (Nat → Int32) × (Nat → Int32) × Int32 × (Nat → Int32) × (Nat → Int32) × (Nat → Int32))) (E_count : Int32) (E_from : (Nat → Int32)) (E_to : (Nat → Int32)) (E_places : (Nat → Int32)) (E_configurations : (Nat → Int32)) (E_gone : (Nat → Int32)) (T_configuration : Int32) (T_ringCount : Int32) (T_starts : (Nat → Int32)) (T_ringKeys : (Nat → Int32)) : Nat → Int32 → (Nat → Int32) → (Nat → Int32) → Option ((Nat → Int64) × Int32 × Int32 × (Nat → Int32) × (Nat → Int32) × (Nat → Int32) × (Nat → Int32) × Int32 × (Nat → Int32) × (Nat → Int32) × (Nat → Int32))
  | 0, _, _, _ => none
  | n + 1, v5, T_onlyIn, T_ringEdges =>
    if T_ringCount ≤ v5 then
      k35_57 T_onlyIn T_ringEdges
    else
      (fT_tellEdges E_count E_from E_to E_places E_configurations E_gone T_configuration T_onlyIn T_starts T_ringKeys T_ringEdges v5).bind fun r48 =>
      fT_tell_L35 k35_57 E_count E_from E_to E_places E_configurations E_gone T_configuration T_ringCount T_starts T_ringKeys n (v5 + 1) r48.1 r48.2
noncomputable def fT_tell (K_count : Int32) (K_byRank : (Nat → Int32)) (E_count : Int32) (E_from : (Nat → Int32)) (E_to : (Nat → Int32)) (E_places : (Nat → Int32)) (E_configurations : (Nat → Int32)) (E_gone : (Nat → Int32)) (R_count : Int32) (R_asked : (Nat → Int64)) (R_reached : (Nat → Int64)) (R_shortest : (Nat → Int32)) (R_layers : (Nat → Int64)) (T_configuration : Int32) (T_ringCount : Int32) (T_partOf : (Nat → Int32)) (T_stateOf : (Nat → Int32)) (T_leastOf : (Nat → Int32)) (T_onlyIn : (Nat → Int32)) (T_keyCount : Int32) (T_starts : (Nat → Int32)) (T_ringKeys : (Nat → Int32)) (T_ringEdges : (Nat → Int32)) (p4 : Int32) : Option ((Nat → Int64) × Int32 × Int32 × (Nat → Int32) × (Nat → Int32) × (Nat → Int32) × (Nat → Int32) × Int32 × (Nat → Int32) × (Nat → Int32) × (Nat → Int32)) :=
  (fT_tellKeys K_byRank R_count R_reached R_shortest T_stateOf T_leastOf K_count).bind fun r17 =>
  (fT_numberParts K_byRank R_reached T_partOf K_count).bind fun r23 =>
  (fT_tellRings K_byRank R_count R_asked R_reached R_shortest R_layers T_ringCount K_count T_starts T_ringKeys).bind fun r29 =>
  fT_tell_L35 (fT_tell_K35_57 r29.1 p4 r29.2.1 r23 r17.1 r17.2 K_count r29.2.2.1 r29.2.2.2) E_count E_from E_to E_places E_configurations E_gone p4 r29.2.1 r29.2.2.1 r29.2.2.2 FU 0 T_onlyIn T_ringEdges
noncomputable def fT_hasRing (T_ringCount : Int32) (p1 : Int32) : Option (Int32) :=
  if p1 < 0 then
    some 0
  else
    if T_ringCount ≤ p1 then
      some 0
    else
      some 1
noncomputable def fT_length (T_starts : (Nat → Int32)) (p1 : Int32) : Option (Int32) :=
  og_ck (p1 + 1) 41 <|
  og_ck p1 41 <|
  some ((T_starts (p1 + 1).toNatClampNeg) - (T_starts p1.toNatClampNeg))
noncomputable def fT_keyAt (T_starts : (Nat → Int32)) (T_ringKeys : (Nat → Int32)) (p1 : Int32) (p2 : Int32) : Option (Int32) :=
  og_ck p1 41 <|
  og_ck ((T_starts p1.toNatClampNeg) + p2) 40 <|
  some (T_ringKeys ((T_starts p1.toNatClampNeg) + p2).toNatClampNeg)
noncomputable def fT_edgeAt (T_starts : (Nat → Int32)) (T_ringEdges : (Nat → Int32)) (p1 : Int32) (p2 : Int32) : Option (Int32) :=
  og_ck p1 41 <|
  og_ck ((T_starts p1.toNatClampNeg) + p2) 40 <|
  some (T_ringEdges ((T_starts p1.toNatClampNeg) + p2).toNatClampNeg)
noncomputable def fT_lastEdge_K9_38 (v2 : Int32) : Option (Int32) :=
  some v2
noncomputable def fT_lastEdge_L9 (k9_38 : Int32 → Option (Int32)) (T_starts : (Nat → Int32)) (T_ringEdges : (Nat → Int32)) (p1 : Int32) : Nat → Int32 → Int32 → Option (Int32)
  | 0, _, _ => none
  | n + 1, v2, v3 =>
    og_ck (p1 + 1) 41 <|
    if (T_starts (p1 + 1).toNatClampNeg) ≤ v3 then
      k9_38 v2
    else
      og_ck v3 40 <|
      fT_lastEdge_L9 k9_38 T_starts T_ringEdges p1 n (if v2 < (T_ringEdges v3.toNatClampNeg) then (T_ringEdges v3.toNatClampNeg) else v2) (v3 + 1)
noncomputable def fT_lastEdge (T_starts : (Nat → Int32)) (T_ringEdges : (Nat → Int32)) (p1 : Int32) : Option (Int32) :=
  og_ck p1 41 <|
  fT_lastEdge_L9 fT_lastEdge_K9_38 T_starts T_ringEdges p1 FU (-1) (T_starts p1.toNatClampNeg)
noncomputable def fT_hasKey (T_keyCount : Int32) (p1 : Int32) : Option (Int32) :=
  if p1 < 0 then
    some 0
  else
    if T_keyCount ≤ p1 then
      some 0
    else
      some 1
noncomputable def fA_push (A_openCount : Int32) (A_open : (Nat → Int32)) (A_nextEdge : (Nat → Int32)) (A_wasAsked : (Nat → Int32)) (p1 : Int32) : Option (Int32 × (Nat → Int32) × (Nat → Int32) × (Nat → Int32)) :=
  if 40 ≤ A_openCount then
    some (A_openCount, A_open, A_nextEdge, A_wasAsked)
  else
    og_ck A_openCount 40 <|
    og_ck p1 40 <|
    og_ck p1 40 <|
    some ((A_openCount + 1), (upd A_open A_openCount.toNatClampNeg p1), (upd A_nextEdge p1.toNatClampNeg 0), (upd A_wasAsked p1.toNatClampNeg (vp_nar .boolean 1)))
noncomputable def fA_begin_K2_20 (A_open : (Nat → Int32)) (A_nextEdge : (Nat → Int32)) (p1 : Int32) (A_wasAsked : (Nat → Int32)) : Option (Int32 × Int32 × (Nat → Int32) × (Nat → Int32) × (Nat → Int32)) :=
  (fA_push 0 A_open A_nextEdge A_wasAsked p1).bind fun r32 =>
  some (0, r32.1, r32.2.1, r32.2.2.1, r32.2.2.2)
noncomputable def fA_begin_L2 (k2_20 : (Nat → Int32) → Option (Int32 × Int32 × (Nat → Int32) × (Nat → Int32) × (Nat → Int32))) (p2 : Int32) : Nat → Int32 → (Nat → Int32) → Option (Int32 × Int32 × (Nat → Int32) × (Nat → Int32) × (Nat → Int32))
  | 0, _, _ => none
  | n + 1, v3, A_wasAsked =>
    if p2 ≤ v3 then
      k2_20 A_wasAsked
    else
      og_ck v3 40 <|
      fA_begin_L2 k2_20 p2 n (v3 + 1) (upd A_wasAsked v3.toNatClampNeg (vp_nar .boolean 0))
noncomputable def fA_begin (A_metCount : Int32) (A_openCount : Int32) (A_open : (Nat → Int32)) (A_nextEdge : (Nat → Int32)) (A_wasAsked : (Nat → Int32)) (p1 : Int32) (p2 : Int32) : Option (Int32 × Int32 × (Nat → Int32) × (Nat → Int32) × (Nat → Int32)) :=
  fA_begin_L2 (fA_begin_K2_20 A_open A_nextEdge p1) p2 FU 0 A_wasAsked
noncomputable def fA_openAt_K2_28 : Option (Int32) :=
  some (-1)
noncomputable def fA_openAt_L2 (k2_28 : Option (Int32)) (A_openCount : Int32) (A_open : (Nat → Int32)) (p1 : Int32) : Nat → Int32 → Option (Int32)
  | 0, _ => none
  | n + 1, v2 =>
    if A_openCount ≤ v2 then
      k2_28
    else
      og_ck v2 40 <|
      if (A_open v2.toNatClampNeg) = p1 then
        some v2
      else
        fA_openAt_L2 k2_28 A_openCount A_open p1 n (v2 + 1)
noncomputable def fA_openAt (A_openCount : Int32) (A_open : (Nat → Int32)) (p1 : Int32) : Option (Int32) :=
  fA_openAt_L2 fA_openAt_K2_28 A_openCount A_open p1 FU 0
noncomputable def fA_nextTarget_K8_86 (A_nextEdge : (Nat → Int32)) : Option (Int32 × (Nat → Int32)) :=
  some ((-1), A_nextEdge)
noncomputable def fA_nextTarget_L8 (k8_86 : (Nat → Int32) → Option (Int32 × (Nat → Int32))) (E_count : Int32) (E_from : (Nat → Int32)) (E_to : (Nat → Int32)) (E_configurations : (Nat → Int32)) (E_gone : (Nat → Int32)) (A_openCount : Int32) (A_open : (Nat → Int32)) (A_wasAsked : (Nat → Int32)) (p1 : Int32) (p3 : Int32) : Nat → Int32 → (Nat → Int32) → Option (Int32 × (Nat → Int32))
  | 0, _, _ => none
  | n + 1, v4, A_nextEdge =>
    if E_count ≤ v4 then
      k8_86 A_nextEdge
    else
      og_ck v4 160 <|
      if (E_from v4.toNatClampNeg) = p1 then
        (fE_isIn E_count E_configurations E_gone v4 p3).bind fun r32 =>
        if r32 = 0 then
          fA_nextTarget_L8 k8_86 E_count E_from E_to E_configurations E_gone A_openCount A_open A_wasAsked p1 p3 n (v4 + 1) A_nextEdge
        else
          og_ck v4 160 <|
          og_ck (E_to v4.toNatClampNeg) 40 <|
          if (A_wasAsked (E_to v4.toNatClampNeg).toNatClampNeg) = 0 then
            og_ck p1 40 <|
            some ((E_to v4.toNatClampNeg), (upd A_nextEdge p1.toNatClampNeg (v4 + 1)))
          else
            (fA_openAt A_openCount A_open (E_to v4.toNatClampNeg)).bind fun r60 =>
            if r60 = (-1) then
              fA_nextTarget_L8 k8_86 E_count E_from E_to E_configurations E_gone A_openCount A_open A_wasAsked p1 p3 n (v4 + 1) A_nextEdge
            else
              og_ck p1 40 <|
              some ((E_to v4.toNatClampNeg), (upd A_nextEdge p1.toNatClampNeg (v4 + 1)))
      else
        fA_nextTarget_L8 k8_86 E_count E_from E_to E_configurations E_gone A_openCount A_open A_wasAsked p1 p3 n (v4 + 1) A_nextEdge
noncomputable def fA_nextTarget (E_count : Int32) (E_from : (Nat → Int32)) (E_to : (Nat → Int32)) (E_configurations : (Nat → Int32)) (E_gone : (Nat → Int32)) (A_openCount : Int32) (A_open : (Nat → Int32)) (A_nextEdge : (Nat → Int32)) (A_wasAsked : (Nat → Int32)) (p1 : Int32) (p3 : Int32) : Option (Int32 × (Nat → Int32)) :=
  og_ck p1 40 <|
  fA_nextTarget_L8 fA_nextTarget_K8_86 E_count E_from E_to E_configurations E_gone A_openCount A_open A_wasAsked p1 p3 FU (A_nextEdge p1.toNatClampNeg) A_nextEdge
noncomputable def fA_meet (A_metCount : Int32) (A_metKeys : (Nat → Int32)) (A_openCount : Int32) (A_open : (Nat → Int32)) (p1 : Int32) : Option (Int32 × (Nat → Int32)) :=
  (fA_openAt A_openCount A_open p1).bind fun r2 =>
  if r2 = (-1) then
    some (A_metCount, A_metKeys)
  else
    og_cp r2 0 (A_openCount - r2) 40 40 <|
    some ((A_openCount - r2), (va_cpy A_open A_metKeys r2.toNatClampNeg (0 : Int32).toNatClampNeg (A_openCount - r2).toNatClampNeg))
noncomputable def fA_goOn_K2_82 (A_metCount : Int32) (A_metKeys : (Nat → Int32)) (A_openCount : Int32) (A_open : (Nat → Int32)) (A_nextEdge : (Nat → Int32)) (A_wasAsked : (Nat → Int32)) : Option (Int32 × (Nat → Int32) × Int32 × (Nat → Int32) × (Nat → Int32) × (Nat → Int32)) :=
  some (A_metCount, A_metKeys, A_openCount, A_open, A_nextEdge, A_wasAsked)
noncomputable def fA_goOn_L2 (k2_82 : Int32 → (Nat → Int32) → Int32 → (Nat → Int32) → (Nat → Int32) → (Nat → Int32) → Option (Int32 × (Nat → Int32) × Int32 × (Nat → Int32) × (Nat → Int32) × (Nat → Int32))) (E_count : Int32) (E_from : (Nat → Int32)) (E_to : (Nat → Int32)) (E_configurations : (Nat → Int32)) (E_gone : (Nat → Int32)) (p2 : Int32) : Nat → Int32 → Int32 → (Nat → Int32) → Int32 → (Nat → Int32) → (Nat → Int32) → (Nat → Int32) → Option (Int32 × (Nat → Int32) × Int32 × (Nat → Int32) × (Nat → Int32) × (Nat → Int32))
  | 0, _, _, _, _, _, _, _ => none
  | n + 1, v3, A_metCount, A_metKeys, A_openCount, A_open, A_nextEdge, A_wasAsked =>
    if 80 ≤ v3 then
      k2_82 A_metCount A_metKeys A_openCount A_open A_nextEdge A_wasAsked
    else
      if A_openCount ≤ 0 then
        k2_82 A_metCount A_metKeys A_openCount A_open A_nextEdge A_wasAsked
      else
        og_ck (A_openCount - 1) 40 <|
        (fA_nextTarget E_count E_from E_to E_configurations E_gone A_openCount A_open A_nextEdge A_wasAsked (A_open (A_openCount - 1).toNatClampNeg) p2).bind fun r29 =>
        if r29.1 = (-1) then
          fA_goOn_L2 k2_82 E_count E_from E_to E_configurations E_gone p2 n (v3 + 1) A_metCount A_metKeys (A_openCount - 1) A_open r29.2 A_wasAsked
        else
          og_ck r29.1 40 <|
          if (A_wasAsked r29.1.toNatClampNeg) = 0 then
            (fA_push A_openCount A_open r29.2 A_wasAsked r29.1).bind fun r73 =>
            fA_goOn_L2 k2_82 E_count E_from E_to E_configurations E_gone p2 n (v3 + 1) A_metCount A_metKeys r73.1 r73.2.1 r73.2.2.1 r73.2.2.2
          else
            (fA_meet A_metCount A_metKeys A_openCount A_open r29.1).bind fun r66 =>
            some (r66.1, r66.2, A_openCount, A_open, r29.2, A_wasAsked)
noncomputable def fA_goOn (E_count : Int32) (E_from : (Nat → Int32)) (E_to : (Nat → Int32)) (E_configurations : (Nat → Int32)) (E_gone : (Nat → Int32)) (A_metCount : Int32) (A_metKeys : (Nat → Int32)) (A_openCount : Int32) (A_open : (Nat → Int32)) (A_nextEdge : (Nat → Int32)) (A_wasAsked : (Nat → Int32)) (p2 : Int32) : Option (Int32 × (Nat → Int32) × Int32 × (Nat → Int32) × (Nat → Int32) × (Nat → Int32)) :=
  fA_goOn_L2 fA_goOn_K2_82 E_count E_from E_to E_configurations E_gone p2 FU 0 A_metCount A_metKeys A_openCount A_open A_nextEdge A_wasAsked
noncomputable def fC_key (K_count : Int32) (K_names : (Nat → Int32)) (K_byRank : (Nat → Int32)) (K_rankOf : (Nat → Int32)) (p1 : Int32) : Option (Int32 × Int32 × (Nat → Int32) × (Nat → Int32) × (Nat → Int32)) :=
  (fK_add K_count K_names K_byRank K_rankOf p1).bind fun r5 =>
  some (r5.1, r5.2.1, r5.2.2.1, r5.2.2.2.1, r5.2.2.2.2)
noncomputable def fC_edge (K_count : Int32) (E_count : Int32) (E_from : (Nat → Int32)) (E_to : (Nat → Int32)) (E_places : (Nat → Int32)) (E_configurations : (Nat → Int32)) (p1 : Int32) (p2 : Int32) (p3 : Int32) (p4 : Int32) : Option (Int32 × Int32 × (Nat → Int32) × (Nat → Int32) × (Nat → Int32) × (Nat → Int32)) :=
  (fK_has K_count p1).bind fun r5 =>
  if r5 = 0 then
    some ((-1), E_count, E_from, E_to, E_places, E_configurations)
  else
    (fK_has K_count p2).bind fun r16 =>
    if r16 = 0 then
      some ((-1), E_count, E_from, E_to, E_places, E_configurations)
    else
      (fE_add E_count E_from E_to E_places E_configurations p1 p2 p3 p4).bind fun r33 =>
      some (r33.1, r33.2.1, r33.2.2.1, r33.2.2.2.1, r33.2.2.2.2.1, r33.2.2.2.2.2)
noncomputable def fC_remove (E_count : Int32) (E_from : (Nat → Int32)) (E_to : (Nat → Int32)) (E_gone : (Nat → Int32)) (p1 : Int32) (p2 : Int32) : Option (Int32 × (Nat → Int32)) :=
  (fE_dropBetween E_count E_from E_to E_gone p1 p2).bind fun r6 =>
  some (r6.1, r6.2)
noncomputable def fC_cut (E_count : Int32) (E_gone : (Nat → Int32)) (p1 : Int32) : Option (Int32 × (Nat → Int32)) :=
  (fE_drop E_count E_gone p1).bind fun r5 =>
  og_bl r5.1 (some (r5.1, r5.2))
noncomputable def fC_run (K_count : Int32) (K_byRank : (Nat → Int32)) (K_rankOf : (Nat → Int32)) (E_count : Int32) (E_from : (Nat → Int32)) (E_to : (Nat → Int32)) (E_places : (Nat → Int32)) (E_configurations : (Nat → Int32)) (E_gone : (Nat → Int32)) (R_count : Int32) (R_asked : (Nat → Int64)) (R_reached : (Nat → Int64)) (R_shortest : (Nat → Int32)) (R_layers : (Nat → Int64)) (T_configuration : Int32) (T_ringCount : Int32) (T_partOf : (Nat → Int32)) (T_stateOf : (Nat → Int32)) (T_leastOf : (Nat → Int32)) (T_onlyIn : (Nat → Int32)) (T_keyCount : Int32) (T_starts : (Nat → Int32)) (T_ringKeys : (Nat → Int32)) (T_ringEdges : (Nat → Int32)) (p1 : Int32) : Option (Int32 × Int32 × (Nat → Int64) × (Nat → Int64) × (Nat → Int32) × (Nat → Int64) × Int32 × Int32 × (Nat → Int32) × (Nat → Int32) × (Nat → Int32) × (Nat → Int32) × Int32 × (Nat → Int32) × (Nat → Int32) × (Nat → Int32)) :=
  if p1 < 0 then
    some ((-1), R_count, R_asked, R_reached, R_shortest, R_layers, T_configuration, T_ringCount, T_partOf, T_stateOf, T_leastOf, T_onlyIn, T_keyCount, T_starts, T_ringKeys, T_ringEdges)
  else
    if p1 < 8 then
      (fR_draw K_count K_rankOf E_count E_from E_to E_configurations E_gone R_count R_asked R_reached R_shortest p1).bind fun r25 =>
      (fT_tell K_count K_byRank E_count E_from E_to E_places E_configurations E_gone r25.1 r25.2.1 r25.2.2.1 r25.2.2.2 R_layers T_configuration T_ringCount T_partOf T_stateOf T_leastOf T_onlyIn T_keyCount T_starts T_ringKeys T_ringEdges p1).bind fun r45 =>
      some (r45.2.2.1, r25.1, r25.2.1, r25.2.2.1, r25.2.2.2, r45.1, r45.2.1, r45.2.2.1, r45.2.2.2.1, r45.2.2.2.2.1, r45.2.2.2.2.2.1, r45.2.2.2.2.2.2.1, r45.2.2.2.2.2.2.2.1, r45.2.2.2.2.2.2.2.2.1, r45.2.2.2.2.2.2.2.2.2.1, r45.2.2.2.2.2.2.2.2.2.2)
    else
      some ((-1), R_count, R_asked, R_reached, R_shortest, R_layers, T_configuration, T_ringCount, T_partOf, T_stateOf, T_leastOf, T_onlyIn, T_keyCount, T_starts, T_ringKeys, T_ringEdges)
noncomputable def fC_size (T_ringCount : Int32) (T_starts : (Nat → Int32)) (p1 : Int32) : Option (Int32) :=
  (fT_hasRing T_ringCount p1).bind fun r5 =>
  if r5 = 0 then
    some 0
  else
    (fT_length T_starts p1).bind fun r16 =>
    some r16
noncomputable def fC_ring (E_count : Int32) (E_places : (Nat → Int32)) (T_ringCount : Int32) (T_starts : (Nat → Int32)) (T_ringKeys : (Nat → Int32)) (T_ringEdges : (Nat → Int32)) (p1 : Int32) (p2 : Int32) (p3 : Int32) : Option (Int32) :=
  (fT_hasRing T_ringCount p1).bind fun r5 =>
  if r5 = 0 then
    some (-1)
  else
    if p2 < 0 then
      some (-1)
    else
      (fT_length T_starts p1).bind fun r21 =>
      if p2 < r21 then
        if p3 = 0 then
          (fT_keyAt T_starts T_ringKeys p1 p2).bind fun r62 =>
          some r62
        else
          if p3 = 1 then
            (fT_edgeAt T_starts T_ringEdges p1 p2).bind fun r76 =>
            (fE_placeOf E_count E_places r76).bind fun r79 =>
            some r79
          else
            if p3 = 2 then
              (fT_edgeAt T_starts T_ringEdges p1 p2).bind fun r89 =>
              some r89
            else
              some (-1)
      else
        some (-1)
noncomputable def fC_only (T_ringCount : Int32) (T_onlyIn : (Nat → Int32)) (p1 : Int32) : Option (Int32) :=
  (fT_hasRing T_ringCount p1).bind fun r5 =>
  if r5 = 0 then
    some (-1)
  else
    og_ck p1 40 <|
    some (T_onlyIn p1.toNatClampNeg)
noncomputable def fC_newest (T_ringCount : Int32) (T_starts : (Nat → Int32)) (T_ringEdges : (Nat → Int32)) (p1 : Int32) : Option (Int32) :=
  (fT_hasRing T_ringCount p1).bind fun r5 =>
  if r5 = 0 then
    some (-1)
  else
    (fT_lastEdge T_starts T_ringEdges p1).bind fun r16 =>
    some r16
noncomputable def fC_strong (T_partOf : (Nat → Int32)) (T_keyCount : Int32) (p1 : Int32) : Option (Int32) :=
  (fT_hasKey T_keyCount p1).bind fun r5 =>
  if r5 = 0 then
    some (-1)
  else
    og_ck p1 40 <|
    some (T_partOf p1.toNatClampNeg)
noncomputable def fC_state (T_stateOf : (Nat → Int32)) (T_keyCount : Int32) (p1 : Int32) : Option (Int32) :=
  (fT_hasKey T_keyCount p1).bind fun r5 =>
  if r5 = 0 then
    some (-1)
  else
    og_ck p1 40 <|
    some (T_stateOf p1.toNatClampNeg)
noncomputable def fC_least (T_leastOf : (Nat → Int32)) (T_keyCount : Int32) (p1 : Int32) : Option (Int32) :=
  (fT_hasKey T_keyCount p1).bind fun r5 =>
  if r5 = 0 then
    some (-1)
  else
    og_ck p1 40 <|
    some (T_leastOf p1.toNatClampNeg)
noncomputable def fC_ask (K_count : Int32) (E_count : Int32) (E_from : (Nat → Int32)) (E_to : (Nat → Int32)) (E_configurations : (Nat → Int32)) (E_gone : (Nat → Int32)) (T_configuration : Int32) (A_metCount : Int32) (A_metKeys : (Nat → Int32)) (A_openCount : Int32) (A_open : (Nat → Int32)) (A_nextEdge : (Nat → Int32)) (A_wasAsked : (Nat → Int32)) (p1 : Int32) : Option (Int32 × Int32 × (Nat → Int32) × Int32 × (Nat → Int32) × (Nat → Int32) × (Nat → Int32)) :=
  (fK_has K_count p1).bind fun r5 =>
  if r5 = 0 then
    some ((-1), A_metCount, A_metKeys, A_openCount, A_open, A_nextEdge, A_wasAsked)
  else
    if T_configuration = (-1) then
      some ((-1), A_metCount, A_metKeys, A_openCount, A_open, A_nextEdge, A_wasAsked)
    else
      (fA_begin A_metCount A_openCount A_open A_nextEdge A_wasAsked p1 K_count).bind fun r36 =>
      (fA_goOn E_count E_from E_to E_configurations E_gone r36.1 A_metKeys r36.2.1 r36.2.2.1 r36.2.2.2.1 r36.2.2.2.2 T_configuration).bind fun r54 =>
      some (r54.1, r54.1, r54.2.1, r54.2.2.1, r54.2.2.2.1, r54.2.2.2.2.1, r54.2.2.2.2.2)
noncomputable def fC_met (A_metCount : Int32) (A_metKeys : (Nat → Int32)) (p1 : Int32) : Option (Int32) :=
  if p1 < 0 then
    some (-1)
  else
    if A_metCount ≤ p1 then
      some (-1)
    else
      og_ck p1 40 <|
      some (A_metKeys p1.toNatClampNeg)
