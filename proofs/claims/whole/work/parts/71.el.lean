-- the least placed edge between two keys; the configurations between two keys
noncomputable def el (fr to pl : Nat → Int32) (p : Nat → Bool) (a b : Int32) : Nat → Int32
  | 0 => -1
  | e + 1 => if p e = true ∧ fr e = a ∧ to e = b then (if el fr to pl p a b e = -1 then nI e else if pl (el fr to pl p a b e).toNatClampNeg ≤ pl e then el fr to pl p a b e else nI e) else el fr to pl p a b e
theorem el_n {fr to pl : Nat → Int32} {p : Nat → Bool} {a b : Int32} {e : Nat} (h : ¬ (p e = true ∧ fr e = a ∧ to e = b)) : el fr to pl p a b (e + 1) = el fr to pl p a b e := by
  rw [el, if_neg h]
theorem el_y {fr to pl : Nat → Int32} {p : Nat → Bool} {a b : Int32} {e : Nat} (h : p e = true ∧ fr e = a ∧ to e = b) : el fr to pl p a b (e + 1) = if el fr to pl p a b e = -1 then nI e else if pl (el fr to pl p a b e).toNatClampNeg ≤ pl e then el fr to pl p a b e else nI e := by
  rw [el, if_pos h]
theorem el_v {fr to pl : Nat → Int32} {p : Nat → Bool} {a b : Int32} : ∀ e, el fr to pl p a b e = -1 ∨ ∃ j, j < e ∧ el fr to pl p a b e = nI j
  | 0 => Or.inl rfl
  | e + 1 => by
    by_cases h : p e = true ∧ fr e = a ∧ to e = b
    · rw [el_y h]
      refine Or.inr ?_
      by_cases h1 : el fr to pl p a b e = -1
      · rw [if_pos h1]; exact ⟨e, by omega, rfl⟩
      · rw [if_neg h1]
        by_cases h2 : pl (el fr to pl p a b e).toNatClampNeg ≤ pl e
        · rw [if_pos h2]
          rcases el_v (fr := fr) (to := to) (pl := pl) (p := p) (a := a) (b := b) e with q | ⟨j, q1, q2⟩
          · exact absurd q h1
          · exact ⟨j, by omega, q2⟩
        · rw [if_neg h2]; exact ⟨e, by omega, rfl⟩
    · rw [el_n h]
      rcases el_v (fr := fr) (to := to) (pl := pl) (p := p) (a := a) (b := b) e with q | ⟨j, q1, q2⟩
      · exact Or.inl q
      · exact Or.inr ⟨j, by omega, q2⟩
theorem el_ne {fr to pl : Nat → Int32} {p : Nat → Bool} {a b : Int32} : ∀ e, e ≤ 1000 → (∃ j, j < e ∧ p j = true ∧ fr j = a ∧ to j = b) → ∃ j, j < e ∧ el fr to pl p a b e = nI j
  | 0, _, h => by obtain ⟨j, h1, _⟩ := h; omega
  | e + 1, he, h => by
    rcases el_v (fr := fr) (to := to) (pl := pl) (p := p) (a := a) (b := b) (e + 1) with q | q
    · exfalso
      by_cases h : p e = true ∧ fr e = a ∧ to e = b
      · rw [el_y h] at q
        by_cases h1 : el fr to pl p a b e = -1
        · rw [if_pos h1] at q; exact nn_m1 (by omega) q
        · rw [if_neg h1] at q
          by_cases h2 : pl (el fr to pl p a b e).toNatClampNeg ≤ pl e
          · rw [if_pos h2] at q; exact h1 q
          · rw [if_neg h2] at q; exact nn_m1 (by omega) q
      · rw [el_n h] at q
        rename_i h0
        obtain ⟨j, g1, g2⟩ := h0
        have hj : j < e := by
          rcases Nat.lt_or_ge j e with r | r
          · exact r
          · have : j = e := by omega
            subst this
            exact absurd g2 h
        obtain ⟨i, i1, i2⟩ := el_ne (fr := fr) (to := to) (pl := pl) (p := p) (a := a) (b := b) e (by omega) ⟨j, hj, g2⟩
        rw [i2] at q
        exact nn_m1 (by omega) q
    · exact q
theorem el_congr {fr to pl fr' to' pl' : Nat → Int32} {p p' : Nat → Bool} {a b : Int32} : ∀ e, e ≤ 1000 → (∀ j, j < e → fr' j = fr j ∧ to' j = to j ∧ pl' j = pl j ∧ p' j = p j) → el fr' to' pl' p' a b e = el fr to pl p a b e
  | 0, _, _ => rfl
  | e + 1, he, h => by
    have ih := el_congr (fr := fr) (to := to) (pl := pl) (fr' := fr') (to' := to') (pl' := pl') (p := p) (p' := p') (a := a) (b := b) e (by omega) (fun j hj => h j (by omega))
    obtain ⟨h1, h2, h3, h4⟩ := h e (by omega)
    by_cases hh : p e = true ∧ fr e = a ∧ to e = b
    · rw [el_y hh, el_y (show p' e = true ∧ fr' e = a ∧ to' e = b by rw [h1, h2, h4]; exact hh), ih, h3]
      rcases el_v (fr := fr) (to := to) (pl := pl) (p := p) (a := a) (b := b) e with q | ⟨j, q1, q2⟩
      · rw [if_pos q, if_pos q]
      · rw [q2, nn_cl (by omega), (h j (by omega)).2.2.1]
    · rw [el_n hh, el_n (show ¬ (p' e = true ∧ fr' e = a ∧ to' e = b) by rw [h1, h2, h4]; exact hh), ih]
theorem el_joins {fr to : Nat → Int32} {a b : Int32} {e : Nat} (he : e < 160) : fE_joins fr to (nI e) a b = some (if fr e = a ∧ to e = b then 1 else 0) := by
  rw [fE_joins, nn_ck he (by omega), nn_ck he (by omega), nn_cl (by omega)]
  by_cases h1 : fr e = a
  · by_cases h2 : to e = b
    · rw [if_pos h1, if_pos h2, if_pos ⟨h1, h2⟩]
    · rw [if_pos h1, if_neg h2, if_neg (fun h => h2 h.2)]
  · rw [if_neg h1, if_neg (fun h => h1 h.1)]
theorem el_C {n ne k : Nat} {fr to pl cf gone bits : Nat → Int32} {a b : Int32} (hE : ed_I n ne (nI ne) fr to gone cf bits) (hk : k < 8) : fE_leastPlaced (nI ne) fr to pl cf gone a b (nI k) = some (el fr to pl (ac gone bits k) a b ne) := by
  obtain ⟨hne, -, -, -, -, -, hcf⟩ := hE
  rw [fE_leastPlaced]
  refine lo_up (σ := Unit) (fun m i _ => fE_leastPlaced_L6 fE_leastPlaced_K6_69 (nI ne) fr to pl cf gone a b (nI k) m (el fr to pl (ac gone bits k) a b i) (nI i)) (fun i _ => True) (fun r => r = some (el fr to pl (ac gone bits k) a b ne)) ne ?_ ?_ FU 0 () (Nat.zero_le _) (by rw [FU_eq]; omega) trivial
  · intro m i _ hi _
    refine Or.inr ⟨(), ?_, trivial⟩
    show fE_leastPlaced_L6 fE_leastPlaced_K6_69 (nI ne) fr to pl cf gone a b (nI k) (m + 1) (el fr to pl (ac gone bits k) a b i) (nI i) = fE_leastPlaced_L6 fE_leastPlaced_K6_69 (nI ne) fr to pl cf gone a b (nI k) m (el fr to pl (ac gone bits k) a b (i + 1)) (nI (i + 1))
    rw [fE_leastPlaced_L6, if_neg (by rw [nn_le (by omega) (by omega)]; omega), el_joins (by omega), Option.bind_some, nI_1]
    by_cases h1 : fr i = a ∧ to i = b
    · rw [if_pos h1, if_neg one_ne, ac_isIn hne hi hk (hcf i hi), Option.bind_some]
      by_cases h2 : ac gone bits k i = true
      · rw [if_pos h2, if_neg one_ne, el_y ⟨h2, h1⟩]
        by_cases h3 : el fr to pl (ac gone bits k) a b i = -1
        · rw [if_pos h3, if_pos h3]
        · rw [if_neg h3, if_neg h3]
          rcases el_v (fr := fr) (to := to) (pl := pl) (p := ac gone bits k) (a := a) (b := b) i with q | ⟨j, q1, q2⟩
          · exact absurd q h3
          · rw [q2, nn_ck (show i < 160 by omega) (by omega), nn_ck (show j < 160 by omega) (by omega), nn_cl (by omega), nn_cl (by omega)]
            by_cases h4 : pl j ≤ pl i
            · rw [if_pos h4, if_pos h4]
            · rw [if_neg h4, if_neg h4]
      · rw [if_neg h2, if_pos rfl, el_n (fun q => h2 q.1)]
    · rw [if_neg h1, if_pos rfl, el_n (fun q => h1 q.2)]
  · intro m _ _
    show fE_leastPlaced_L6 fE_leastPlaced_K6_69 (nI ne) fr to pl cf gone a b (nI k) (m + 1) (el fr to pl (ac gone bits k) a b ne) (nI ne) = _
    rw [fE_leastPlaced_L6, if_pos (by rw [nn_le (by omega) (by omega)]; omega), fE_leastPlaced_K6_69]
noncomputable def cb (fr to gone cf : Nat → Int32) (a b : Int32) : Nat → Int32
  | 0 => 0
  | e + 1 => if (fr e = a ∧ to e = b) ∧ gone e = 0 then cb fr to gone cf a b e ||| cf e else cb fr to gone cf a b e
theorem cb_bt {fr to gone cf bits : Nat → Int32} {a b : Int32} {j : Nat} (hj : j < 8) : ∀ e, (∀ i, i < e → cf i = bits i &&& 255) → (bt (cb fr to gone cf a b e) j = true ↔ ∃ i, i < e ∧ ac gone bits j i = true ∧ fr i = a ∧ to i = b)
  | 0, _ => by
    show bt 0 j = true ↔ _
    rw [b_0]
    exact ⟨fun h => by simp at h, fun ⟨i, h, _⟩ => absurd h (Nat.not_lt_zero _)⟩
  | e + 1, h => by
    have ih := cb_bt (fr := fr) (to := to) (gone := gone) (cf := cf) (bits := bits) (a := a) (b := b) hj e (fun i hi => h i (by omega))
    have hb : bt (cf e) j = bt (bits e) j := by rw [h e (by omega), b_and, b_255]; simp [hj]
    by_cases hh : (fr e = a ∧ to e = b) ∧ gone e = 0
    · rw [cb, if_pos hh, b_or, Bool.or_eq_true, ih, hb]
      constructor
      · rintro (⟨i, h1, h2⟩ | h1)
        · exact ⟨i, by omega, h2⟩
        · exact ⟨e, by omega, by unfold ac; rw [h1, hh.2]; rfl, hh.1⟩
      · rintro ⟨i, h1, h2, h3⟩
        rcases Nat.lt_or_ge i e with q | q
        · exact Or.inl ⟨i, q, h2, h3⟩
        · have e1 : i = e := by omega
          subst e1
          unfold ac at h2
          rw [Bool.and_eq_true] at h2
          exact Or.inr h2.2
    · rw [cb, if_neg hh, ih]
      constructor
      · rintro ⟨i, h1, h2⟩
        exact ⟨i, by omega, h2⟩
      · rintro ⟨i, h1, h2, h3⟩
        rcases Nat.lt_or_ge i e with q | q
        · exact ⟨i, q, h2, h3⟩
        · have e1 : i = e := by omega
          subst e1
          unfold ac at h2
          rw [Bool.and_eq_true, decide_eq_true_eq] at h2
          exact absurd ⟨h3, h2.1⟩ hh
theorem cb_C {ne : Nat} {fr to cf gone : Nat → Int32} {a b : Int32} (hne : ne ≤ 160) : fE_configurationsBetween (nI ne) fr to cf gone a b = some (cb fr to gone cf a b ne) := by
  rw [fE_configurationsBetween]
  refine lo_up (σ := Unit) (fun m i _ => fE_configurationsBetween_L5 fE_configurationsBetween_K5_51 (nI ne) fr to cf gone a b m (cb fr to gone cf a b i) (nI i)) (fun i _ => True) (fun r => r = some (cb fr to gone cf a b ne)) ne ?_ ?_ FU 0 () (Nat.zero_le _) (by rw [FU_eq]; omega) trivial
  · intro m i _ hi _
    refine Or.inr ⟨(), ?_, trivial⟩
    show fE_configurationsBetween_L5 fE_configurationsBetween_K5_51 (nI ne) fr to cf gone a b (m + 1) (cb fr to gone cf a b i) (nI i) = fE_configurationsBetween_L5 fE_configurationsBetween_K5_51 (nI ne) fr to cf gone a b m (cb fr to gone cf a b (i + 1)) (nI (i + 1))
    rw [fE_configurationsBetween_L5, if_neg (by rw [nn_le (by omega) (by omega)]; omega), el_joins (by omega), Option.bind_some, nI_1, cb]
    by_cases h1 : fr i = a ∧ to i = b
    · rw [if_pos h1, if_neg one_ne, nn_ck (show i < 160 by omega) (by omega), nn_ck (show i < 160 by omega) (by omega), nn_cl (by omega)]
      by_cases h2 : gone i = 0
      · rw [if_pos h2, if_pos ⟨h1, h2⟩]
      · rw [if_neg h2, if_neg (fun q => h2 q.2)]
    · rw [if_neg h1, if_pos rfl, if_neg (fun q => h1 q.1)]
  · intro m _ _
    show fE_configurationsBetween_L5 fE_configurationsBetween_K5_51 (nI ne) fr to cf gone a b (m + 1) (cb fr to gone cf a b ne) (nI ne) = _
    rw [fE_configurationsBetween_L5, if_pos (by rw [nn_le (by omega) (by omega)]; omega), fE_configurationsBetween_K5_51]
