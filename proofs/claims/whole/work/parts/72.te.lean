-- a ring's edges, and whether another configuration has it
def rn (L t : Nat) : Nat := if t + 1 < L then t + 1 else 0
theorem rn_lt {L t : Nat} (h : t < L) : rn L t < L := by unfold rn; split <;> omega
/-- configuration j has the ring -/
def oi_h (fr to gone bits : Nat → Int32) (te : Nat) (ks : Nat → Int32) (L j : Nat) : Prop := ∀ t, t < L → ∃ e, e < te ∧ ac gone bits j e = true ∧ fr e = ks t ∧ to e = ks (rn L t)
theorem te_one {k i : Nat} (hk : k < 8) (hi : i < 32) : bt ((1 : Int32) <<< (nI k &&& 31)) i = decide (i = k) := by
  have h1 : ∀ i, i < 32 → bt 1 i = decide (i = 0) := by decide +kernel
  rw [b_shl k (by omega) 1 hi, h1 (i - k) (by omega)]
  by_cases h : i = k
  · subst h; simp
  · rcases Nat.lt_or_ge i k with q | q
    · simp [h]; omega
    · simp [h]; omega
theorem te_tell {n ne k c of L : Nat} {fr to pl cf gone bits oi sts rk re : Nat → Int32} (hE : ed_I n ne (nI ne) fr to gone cf bits) (hk : k < 8) (hc : c < 40) (hL : 1 ≤ L) (hof : of + L ≤ 40) (s1 : sts c = nI of) (s2 : sts (c + 1) = nI (of + L)) (hh : oi_h fr to gone bits ne (fun t => rk (of + t)) L k) :
    ∃ v re', fT_tellEdges (nI ne) fr to pl cf gone (nI k) oi sts rk re (nI c) = some (upd oi c v, re') ∧ ((v = nI k ∧ ∀ j, j < 8 → j ≠ k → ¬ oi_h fr to gone bits ne (fun t => rk (of + t)) L j) ∨ (v = -1 ∧ ∃ j, j < 8 ∧ j ≠ k ∧ oi_h fr to gone bits ne (fun t => rk (of + t)) L j)) ∧
      (∀ t, t < L → re' (of + t) = el fr to pl (ac gone bits k) (rk (of + t)) (rk (of + rn L t)) ne) ∧ ∀ p, p < of → re' p = re p := by
  have hE0 := hE
  obtain ⟨hne, -, -, -, -, -, hcf⟩ := hE
  rw [fT_tellEdges, nn_ck (show c < 41 by omega) (by omega), nn_cl (by omega), s1]
  refine lo_up (σ := Int32 × (Nat → Int32)) (fun m i z => fT_tellEdges_L12 (fT_tellEdges_K12_105 (nI k) oi (nI c)) (nI ne) fr to pl cf gone (nI k) sts rk (nI c) m z.1 (nI (of + i)) z.2) (fun i z => (∀ j, bt z.1 j = true ↔ (j < 8 ∧ ∀ t, t < i → ∃ e, e < ne ∧ ac gone bits j e = true ∧ fr e = rk (of + t) ∧ to e = rk (of + rn L t))) ∧ (∀ t, t < i → z.2 (of + t) = el fr to pl (ac gone bits k) (rk (of + t)) (rk (of + rn L t)) ne) ∧ ∀ p, p < of → z.2 p = re p)
    (fun r => ∃ v re', r = some (upd oi c v, re') ∧ ((v = nI k ∧ ∀ j, j < 8 → j ≠ k → ¬ oi_h fr to gone bits ne (fun t => rk (of + t)) L j) ∨ (v = -1 ∧ ∃ j, j < 8 ∧ j ≠ k ∧ oi_h fr to gone bits ne (fun t => rk (of + t)) L j)) ∧ (∀ t, t < L → re' (of + t) = el fr to pl (ac gone bits k) (rk (of + t)) (rk (of + rn L t)) ne) ∧ ∀ p, p < of → re' p = re p) L ?_ ?_ FU 0 (255, re) (Nat.zero_le _) (by rw [FU_eq]; omega) ⟨fun j => ?_, fun t ht => absurd ht (Nat.not_lt_zero _), fun p _ => rfl⟩
  · rintro m i ⟨v, r⟩ hi ⟨hI1, hI2, hI3⟩
    have hI1 : ∀ j, bt v j = true ↔ (j < 8 ∧ ∀ t, t < i → ∃ e, e < ne ∧ ac gone bits j e = true ∧ fr e = rk (of + t) ∧ to e = rk (of + rn L t)) := hI1
    have hI2 : ∀ t, t < i → r (of + t) = el fr to pl (ac gone bits k) (rk (of + t)) (rk (of + rn L t)) ne := hI2
    have hI3 : ∀ p, p < of → r p = re p := hI3
    have hrn := rn_lt hi
    have J : ∀ cc : Int32 → Int32 → (Nat → Int32) → Option ((Nat → Int32) × (Nat → Int32)), fT_tellEdges_J66 cc (nI ne) fr to pl cf gone (nI k) rk r v (nI (of + i)) (rk (of + i)) (nI (of + rn L i)) = cc (v &&& cb fr to gone cf (rk (of + i)) (rk (of + rn L i)) ne) (nI (of + (i + 1))) (upd r (of + i) (el fr to pl (ac gone bits k) (rk (of + i)) (rk (of + rn L i)) ne)) := by
      intro cc
      rw [fT_tellEdges_J66, nn_ck (show of + rn L i < 40 by omega) (by omega), nn_cl (by omega), el_C hE0 hk, Option.bind_some, nn_ck (show of + i < 40 by omega) (by omega), cb_C hne, Option.bind_some, nn_cl (by omega), nI_1]
      rfl
    refine Or.inr ⟨(v &&& cb fr to gone cf (rk (of + i)) (rk (of + rn L i)) ne, upd r (of + i) (el fr to pl (ac gone bits k) (rk (of + i)) (rk (of + rn L i)) ne)), ?_, fun j => ?_, fun t ht => ?_, fun p hp => ?_⟩
    · show fT_tellEdges_L12 (fT_tellEdges_K12_105 (nI k) oi (nI c)) (nI ne) fr to pl cf gone (nI k) sts rk (nI c) (m + 1) v (nI (of + i)) r = _
      rw [fT_tellEdges_L12, nI_1, nI_1, nn_ck (show c + 1 < 41 by omega) (by omega), nn_cl (show c + 1 ≤ 100000 by omega), s2, if_neg (show ¬ nI (of + L) ≤ nI (of + i) by rw [nn_le (by omega) (by omega)]; omega), nn_ck (show of + i < 40 by omega) (by omega), nn_ck (show c + 1 < 41 by omega) (by omega), nn_cl (show of + i ≤ 100000 by omega)]
      rcases Nat.lt_or_ge (i + 1) L with q | q
      · have e : rn L i = i + 1 := by unfold rn; rw [if_pos q]
        rw [e] at J
        rw [if_neg (show ¬ nI (of + L) ≤ nI (of + i + 1) by rw [nn_le (by omega) (by omega)]; omega), show of + i + 1 = of + (i + 1) from rfl, J, e]
      · have e : rn L i = 0 := by unfold rn; rw [if_neg (by omega)]
        rw [e, Nat.add_zero] at J
        rw [if_pos (show nI (of + L) ≤ nI (of + i + 1) by rw [nn_le (by omega) (by omega)]; omega), nn_ck (show c < 41 by omega) (by omega), nn_cl (show c ≤ 100000 by omega), s1, J, e]
        rfl
    · show bt (v &&& cb fr to gone cf (rk (of + i)) (rk (of + rn L i)) ne) j = true ↔ _
      rw [b_and, Bool.and_eq_true, hI1]
      constructor
      · rintro ⟨⟨g1, g2⟩, g3⟩
        refine ⟨g1, fun t ht => ?_⟩
        rcases Nat.lt_or_ge t i with q | q
        · exact g2 t q
        · have e : t = i := by omega
          subst e
          exact (cb_bt g1 ne hcf).mp g3
      · rintro ⟨g1, g2⟩
        exact ⟨⟨g1, fun t ht => g2 t (by omega)⟩, (cb_bt g1 ne hcf).mpr (g2 i (by omega))⟩
    · show upd r (of + i) (el fr to pl (ac gone bits k) (rk (of + i)) (rk (of + rn L i)) ne) (of + t) = _
      rcases Nat.lt_or_ge t i with q | q
      · rw [pk_un (by omega)]; exact hI2 t q
      · have e : t = i := by omega
        subst e
        exact pk_us
    · show upd r (of + i) (el fr to pl (ac gone bits k) (rk (of + i)) (rk (of + rn L i)) ne) p = _
      rw [pk_un (by omega)]; exact hI3 p hp
  · rintro m ⟨v, r⟩ ⟨hI1, hI2, hI3⟩
    have hI1 : ∀ j, bt v j = true ↔ (j < 8 ∧ oi_h fr to gone bits ne (fun t => rk (of + t)) L j) := hI1
    have hv : fT_tellEdges_L12 (fT_tellEdges_K12_105 (nI k) oi (nI c)) (nI ne) fr to pl cf gone (nI k) sts rk (nI c) (m + 1) v (nI (of + L)) r = fT_tellEdges_K12_105 (nI k) oi (nI c) v r := by
      rw [fT_tellEdges_L12, nI_1, nn_ck (show c + 1 < 41 by omega) (by omega), nn_cl (show c + 1 ≤ 100000 by omega), s2, if_pos (show nI (of + L) ≤ nI (of + L) by rw [nn_le (by omega) (by omega)]; omega)]
    show ∃ v1 re', fT_tellEdges_L12 (fT_tellEdges_K12_105 (nI k) oi (nI c)) (nI ne) fr to pl cf gone (nI k) sts rk (nI c) (m + 1) v (nI (of + L)) r = some (upd oi c v1, re') ∧ _
    rw [hv, fT_tellEdges_K12_105]
    by_cases hq : v = (1 : Int32) <<< (nI k &&& 31)
    · rw [if_pos hq, nn_ck hc (by omega), nn_cl (by omega)]
      refine ⟨nI k, r, rfl, Or.inl ⟨rfl, fun j hj hjk hj2 => ?_⟩, hI2, hI3⟩
      have h1 := (hI1 j).mpr ⟨hj, hj2⟩
      rw [hq, te_one hk (by omega)] at h1
      exact hjk (by simpa using h1)
    · rw [if_neg hq, nn_ck hc (by omega), nn_cl (by omega)]
      refine ⟨-1, r, rfl, Or.inr ⟨rfl, ?_⟩, hI2, hI3⟩
      refine Classical.byContradiction fun hno => hq (b_ext fun j hj => ?_)
      rw [te_one hk hj]
      by_cases hjk : j = k
      · subst hjk
        rw [(hI1 j).mpr ⟨hk, hh⟩]; simp
      · cases hb : bt v j with
        | false => simp [hjk]
        | true =>
          obtain ⟨g1, g2⟩ := (hI1 j).mp hb
          exact absurd ⟨j, g1, hjk, g2⟩ hno
  · show bt 255 j = true ↔ _
    rw [b_255, decide_eq_true_eq]
    exact ⟨fun h => ⟨h, fun t ht => absurd ht (Nat.not_lt_zero _)⟩, fun h => h.1⟩
