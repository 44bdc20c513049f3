-- a ring's keys and edges in the reference; newest, only
theorem mq_rn {L t : Nat} (h : t < L) : (t + 1) % L = rn L t := by
  unfold rn
  rcases Nat.lt_or_ge (t + 1) L with q | q
  · rw [if_pos q, Nat.mod_eq_of_lt q]
  · have e : t + 1 = L := by omega
    rw [if_neg (by omega), e, Nat.mod_self]
def rq_k (rk od sz rg : Nat → Int32) (c of L : Nat) : Prop := 1 ≤ L ∧ L ≤ 40 ∧ c < 40 ∧ sz c = nI L ∧ ∀ t, t < L → ∃ r, r < 40 ∧ rg (40 * c + t) = nI r ∧ od r = rk (of + t)
theorem mq_key {rk od sz rg : Nat → Int32} {c of L t : Nat} (h : rq_k rk od sz rg c of L) (ht : t ≤ 1000) : fM_keyOf od sz rg (nI c) (nI t) = some (rk (of + t % L)) := by
  obtain ⟨h1, h2, h3, h4, h5⟩ := h
  have hm := Nat.mod_lt t (show 0 < L by omega)
  obtain ⟨r, r1, r2, r3⟩ := h5 (t % L) hm
  rw [fM_keyOf, nn_ck h3 (by omega), nn_cl (by omega), h4, og_nz, if_neg (by rw [nn_0 (by omega)]; omega), pk_rem (by omega) (by omega) (by omega), ms_cell, Option.bind_some, nn_ck (show 40 * c + t % L < 1600 by omega) (by omega), nn_cl (by omega), r2, nn_ck r1 (by omega), nn_cl (by omega), r3]
theorem mq_key0 {rk od sz rg : Nat → Int32} {c of L t : Nat} (h : rq_k rk od sz rg c of L) (ht : t < L) : fM_keyOf od sz rg (nI c) (nI t) = some (rk (of + t)) := by
  have := h.2.1
  rw [mq_key h (by omega), Nat.mod_eq_of_lt ht]
theorem mq_key1 {rk od sz rg : Nat → Int32} {c of L t : Nat} (h : rq_k rk od sz rg c of L) (ht : t < L) : fM_keyOf od sz rg (nI c) (nI (t + 1)) = some (rk (of + rn L t)) := by
  have := h.2.1
  rw [mq_key h (by omega), mq_rn ht]
theorem mq_edge {te k c of L t : Nat} {fr to pl bits tg rk od sz rg : Nat → Int32} (h : rq_k rk od sz rg c of L) (ht : t < L) (hte : te ≤ 160) (hk : k < 8) : fM_edgeOf fr to pl bits (nI te) (nI k) tg od sz rg (nI c) (nI t) = some (el fr to pl (ac tg bits k) (rk (of + t)) (rk (of + rn L t)) te) := by
  rw [fM_edgeOf]
  refine lo_up (σ := Unit) (fun m i _ => fM_edgeOf_L5 fM_edgeOf_K5_98 fr to pl bits (nI te) (nI k) tg od sz rg (nI c) (nI t) m (el fr to pl (ac tg bits k) (rk (of + t)) (rk (of + rn L t)) i) (nI i)) (fun i _ => True) (fun r => r = some (el fr to pl (ac tg bits k) (rk (of + t)) (rk (of + rn L t)) te)) te ?_ ?_ FU 0 () (Nat.zero_le _) (by rw [FU_eq]; omega) trivial
  · intro m i _ hi _
    refine Or.inr ⟨(), ?_, trivial⟩
    show fM_edgeOf_L5 fM_edgeOf_K5_98 fr to pl bits (nI te) (nI k) tg od sz rg (nI c) (nI t) (m + 1) (el fr to pl (ac tg bits k) (rk (of + t)) (rk (of + rn L t)) i) (nI i) = fM_edgeOf_L5 fM_edgeOf_K5_98 fr to pl bits (nI te) (nI k) tg od sz rg (nI c) (nI t) m (el fr to pl (ac tg bits k) (rk (of + t)) (rk (of + rn L t)) (i + 1)) (nI (i + 1))
    rw [fM_edgeOf_L5, if_neg (by rw [nn_le (by omega) (by omega)]; omega), ac_isThen (by omega) hk, Option.bind_some]
    simp only [nI_1]
    by_cases h2 : ac tg bits k i = true
    · rw [if_pos h2, if_neg one_ne, nn_ck (show i < 160 by omega) (by omega), mq_key0 h ht, Option.bind_some, nn_cl (show i ≤ 100000 by omega)]
      by_cases h3 : fr i = rk (of + t)
      · rw [if_pos h3, nn_ck (show i < 160 by omega) (by omega), mq_key1 h ht, Option.bind_some]
        by_cases h4 : to i = rk (of + rn L t)
        · rw [if_pos h4, el_y ⟨h2, h3, h4⟩]
          by_cases h5 : el fr to pl (ac tg bits k) (rk (of + t)) (rk (of + rn L t)) i = -1
          · rw [if_pos h5, if_pos h5]
          · rw [if_neg h5, if_neg h5]
            rcases el_v (fr := fr) (to := to) (pl := pl) (p := ac tg bits k) (a := rk (of + t)) (b := rk (of + rn L t)) i with q | ⟨j, q1, q2⟩
            · exact absurd q h5
            · rw [q2, nn_ck (show i < 160 by omega) (by omega), nn_ck (show j < 160 by omega) (by omega), nn_cl (show j ≤ 100000 by omega)]
              by_cases h6 : pl j ≤ pl i
              · rw [if_pos h6, if_pos h6]
              · rw [if_neg h6, if_neg h6]
        · rw [if_neg h4, el_n (fun q => h4 q.2.2)]
      · rw [if_neg h3, el_n (fun q => h3 q.2.1)]
    · rw [if_neg h2, if_pos rfl, el_n (fun q => h2 q.1)]
  · intro m _ _
    show fM_edgeOf_L5 fM_edgeOf_K5_98 fr to pl bits (nI te) (nI k) tg od sz rg (nI c) (nI t) (m + 1) (el fr to pl (ac tg bits k) (rk (of + t)) (rk (of + rn L t)) te) (nI te) = _
    rw [fM_edgeOf_L5, if_pos (by rw [nn_le (by omega) (by omega)]; omega), fM_edgeOf_K5_98]
theorem mq_is {te j c of L : Nat} {fr to bits tg rk od sz rg : Nat → Int32} (h : rq_k rk od sz rg c of L) (hte : te ≤ 160) (hj : j < 8) :
    (fM_isRing fr to bits (nI te) tg od sz rg (nI c) (nI j) = some 1 ∧ oi_h fr to tg bits te (fun t => rk (of + t)) L j) ∨ (fM_isRing fr to bits (nI te) tg od sz rg (nI c) (nI j) = some 0 ∧ ¬ oi_h fr to tg bits te (fun t => rk (of + t)) L j) := by
  have hL := h.2.1
  have hc := h.2.2.1
  have hs := h.2.2.2.1
  -- one place of the ring
  have L22 : ∀ (t : Nat), t < L → ∀ kk : Int32 → Option Int32, ∃ v, fM_isRing_L22 kk fr to bits (nI te) tg od sz rg (nI c) (nI j) (nI t) FU 0 0 = kk v ∧ ((v = 1 ∧ ∃ e, e < te ∧ ac tg bits j e = true ∧ fr e = rk (of + t) ∧ to e = rk (of + rn L t)) ∨ (v = 0 ∧ ¬ ∃ e, e < te ∧ ac tg bits j e = true ∧ fr e = rk (of + t) ∧ to e = rk (of + rn L t))) := by
    intro t ht kk
    refine lo_up (σ := Int32) (fun m i v => fM_isRing_L22 kk fr to bits (nI te) tg od sz rg (nI c) (nI j) (nI t) m v (nI i)) (fun i v => (v = 1 ∧ ∃ e, e < i ∧ ac tg bits j e = true ∧ fr e = rk (of + t) ∧ to e = rk (of + rn L t)) ∨ (v = 0 ∧ ¬ ∃ e, e < i ∧ ac tg bits j e = true ∧ fr e = rk (of + t) ∧ to e = rk (of + rn L t))) (fun r => ∃ v, r = kk v ∧ ((v = 1 ∧ ∃ e, e < te ∧ ac tg bits j e = true ∧ fr e = rk (of + t) ∧ to e = rk (of + rn L t)) ∨ (v = 0 ∧ ¬ ∃ e, e < te ∧ ac tg bits j e = true ∧ fr e = rk (of + t) ∧ to e = rk (of + rn L t)))) te ?_ ?_ FU 0 0 (Nat.zero_le _) (by rw [FU_eq]; omega) (Or.inr ⟨rfl, fun ⟨e, he, _⟩ => absurd he (Nat.not_lt_zero _)⟩)
    · intro m i v hi hI
      refine Or.inr ?_
      show ∃ v', fM_isRing_L22 kk fr to bits (nI te) tg od sz rg (nI c) (nI j) (nI t) (m + 1) v (nI i) = fM_isRing_L22 kk fr to bits (nI te) tg od sz rg (nI c) (nI j) (nI t) m v' (nI (i + 1)) ∧ _
      rw [fM_isRing_L22, if_neg (by rw [nn_le (by omega) (by omega)]; omega)]
      simp only [nI_1]
      have keep : ¬ (ac tg bits j i = true ∧ fr i = rk (of + t) ∧ to i = rk (of + rn L t)) → (¬ ∃ e, e < i ∧ ac tg bits j e = true ∧ fr e = rk (of + t) ∧ to e = rk (of + rn L t)) → ¬ ∃ e, e < i + 1 ∧ ac tg bits j e = true ∧ fr e = rk (of + t) ∧ to e = rk (of + rn L t) := by
        rintro g1 g2 ⟨e, e1, e2⟩
        rcases Nat.lt_or_ge e i with q | q
        · exact g2 ⟨e, q, e2⟩
        · have ee : e = i := by omega
          rw [ee] at e2
          exact g1 e2
      rcases hI with ⟨hv, e, e1, e2⟩ | ⟨hv, hno⟩
      · rw [hv, if_neg one_ne]
        exact ⟨1, rfl, Or.inl ⟨rfl, e, by omega, e2⟩⟩
      · rw [hv, if_pos rfl, ac_isThen (by omega) hj, Option.bind_some]
        by_cases h2 : ac tg bits j i = true
        · rw [if_pos h2, if_neg one_ne, nn_ck (show i < 160 by omega) (by omega), mq_key0 h ht, Option.bind_some, nn_cl (show i ≤ 100000 by omega)]
          by_cases h3 : fr i = rk (of + t)
          · rw [if_pos h3, nn_ck (show i < 160 by omega) (by omega), mq_key1 h ht, Option.bind_some]
            by_cases h4 : to i = rk (of + rn L t)
            · rw [if_pos h4]
              exact ⟨1, rfl, Or.inl ⟨rfl, i, by omega, h2, h3, h4⟩⟩
            · rw [if_neg h4]
              exact ⟨0, rfl, Or.inr ⟨rfl, keep (fun q => h4 q.2.2) hno⟩⟩
          · rw [if_neg h3]
            exact ⟨0, rfl, Or.inr ⟨rfl, keep (fun q => h3 q.2.1) hno⟩⟩
        · rw [if_neg h2, if_pos rfl]
          exact ⟨0, rfl, Or.inr ⟨rfl, keep (fun q => h2 q.1) hno⟩⟩
    · intro m v hI
      refine ⟨v, ?_, hI⟩
      show fM_isRing_L22 kk fr to bits (nI te) tg od sz rg (nI c) (nI j) (nI t) (m + 1) v (nI te) = _
      rw [fM_isRing_L22, if_pos (by rw [nn_le (by omega) (by omega)]; omega)]
  rw [fM_isRing]
  refine lo_up (σ := Int32) (fun m i v => fM_isRing_L5 fM_isRing_K5_116 fr to bits (nI te) tg od sz rg (nI c) (nI j) m v (nI i)) (fun i v => (v = 1 ∧ ∀ t, t < i → ∃ e, e < te ∧ ac tg bits j e = true ∧ fr e = rk (of + t) ∧ to e = rk (of + rn L t)) ∨ (v = 0 ∧ ¬ ∀ t, t < i → ∃ e, e < te ∧ ac tg bits j e = true ∧ fr e = rk (of + t) ∧ to e = rk (of + rn L t))) (fun r => (r = some 1 ∧ oi_h fr to tg bits te (fun t => rk (of + t)) L j) ∨ (r = some 0 ∧ ¬ oi_h fr to tg bits te (fun t => rk (of + t)) L j)) L ?_ ?_ FU 0 1 (Nat.zero_le _) (by rw [FU_eq]; omega) (Or.inl ⟨rfl, fun t ht => absurd ht (Nat.not_lt_zero _)⟩)
  · intro m i v hi hI
    refine Or.inr ?_
    show ∃ v', fM_isRing_L5 fM_isRing_K5_116 fr to bits (nI te) tg od sz rg (nI c) (nI j) (m + 1) v (nI i) = fM_isRing_L5 fM_isRing_K5_116 fr to bits (nI te) tg od sz rg (nI c) (nI j) m v' (nI (i + 1)) ∧ _
    obtain ⟨w, w1, w2⟩ := L22 i hi (fM_isRing_K22_95 (fun a0 a1 => fM_isRing_L5 fM_isRing_K5_116 fr to bits (nI te) tg od sz rg (nI c) (nI j) m a0 a1) v (nI i))
    rw [fM_isRing_L5, nn_ck hc (by omega), nn_cl (show c ≤ 100000 by omega), hs, if_neg (by rw [nn_le (by omega) (by omega)]; omega), w1, fM_isRing_K22_95, nI_1]
    rcases hI with ⟨hv, hI⟩ | ⟨hv, hI⟩
    · rw [hv, if_neg one_ne]
      rcases w2 with ⟨hw, w2⟩ | ⟨hw, w2⟩
      · rw [hw, if_neg one_ne]
        refine ⟨1, rfl, Or.inl ⟨rfl, fun t ht => ?_⟩⟩
        rcases Nat.lt_or_ge t i with q | q
        · exact hI t q
        · have e : t = i := by omega
          rw [e]; exact w2
      · rw [hw, if_pos rfl]
        exact ⟨0, rfl, Or.inr ⟨rfl, fun q => w2 (q i (by omega))⟩⟩
    · rw [hv, if_pos rfl]
      exact ⟨0, rfl, Or.inr ⟨rfl, fun q => hI (fun t ht => q t (by omega))⟩⟩
  · intro m v hI
    show (fM_isRing_L5 fM_isRing_K5_116 fr to bits (nI te) tg od sz rg (nI c) (nI j) (m + 1) v (nI L) = some 1 ∧ _) ∨ (fM_isRing_L5 fM_isRing_K5_116 fr to bits (nI te) tg od sz rg (nI c) (nI j) (m + 1) v (nI L) = some 0 ∧ _)
    rw [fM_isRing_L5, nn_ck hc (by omega), nn_cl (show c ≤ 100000 by omega), hs, if_pos (by rw [nn_le (by omega) (by omega)]; omega), fM_isRing_K5_116]
    rcases hI with ⟨hv, hI⟩ | ⟨hv, hI⟩
    · rw [hv]; exact Or.inl ⟨rfl, hI⟩
    · rw [hv]; exact Or.inr ⟨rfl, hI⟩
theorem mq_only {te k rc c of L : Nat} {co : Int32} {fr to bits tg rk od sz rg oi : Nat → Int32} (h : rq_k rk od sz rg c of L) (hte : te ≤ 160) (hk : k < 8) (hc : c < rc) (hrc : rc ≤ 40) (hoi : (oi c = nI k ∧ ∀ j, j < 8 → j ≠ k → ¬ oi_h fr to tg bits te (fun t => rk (of + t)) L j) ∨ (oi c = -1 ∧ ∃ j, j < 8 ∧ j ≠ k ∧ oi_h fr to tg bits te (fun t => rk (of + t)) L j)) :
    fM_only co fr to bits (nI te) (nI k) tg od (nI rc) sz rg (nI c) = some (oi c, 0) := by
  rw [fM_only, if_neg (nn_neg (by omega)), if_pos (by rw [nn_lt (by omega) (by omega)]; exact hc)]
  refine lo_up (σ := Unit) (fun m i _ => fM_only_L21 (fM_only_K21_52 0 (nI k)) 0 fr to bits (nI te) (nI k) tg od sz rg (nI c) m (nI i)) (fun i _ => ∀ j, j < i → j ≠ k → ¬ oi_h fr to tg bits te (fun t => rk (of + t)) L j) (fun r => r = some (oi c, 0)) 8 ?_ ?_ FU 0 () (Nat.zero_le _) (by rw [FU_eq]; omega) (fun j hj => absurd hj (Nat.not_lt_zero _))
  · intro m i _ hi hI
    show fM_only_L21 (fM_only_K21_52 0 (nI k)) 0 fr to bits (nI te) (nI k) tg od sz rg (nI c) (m + 1) (nI i) = _ ∨ ∃ _ : Unit, fM_only_L21 (fM_only_K21_52 0 (nI k)) 0 fr to bits (nI te) (nI k) tg od sz rg (nI c) (m + 1) (nI i) = fM_only_L21 (fM_only_K21_52 0 (nI k)) 0 fr to bits (nI te) (nI k) tg od sz rg (nI c) m (nI (i + 1)) ∧ ∀ j, j < i + 1 → j ≠ k → ¬ oi_h fr to tg bits te (fun t => rk (of + t)) L j
    rw [fM_only_L21, if_neg (show ¬ 8 ≤ nI i by rw [nn_leL (b := 8) (y := 8) rfl (by omega) (by omega)]; omega)]
    simp only [nI_1]
    by_cases h1 : i = k
    · rw [if_pos (by rw [h1])]
      refine Or.inr ⟨(), rfl, fun j hj hjk => ?_⟩
      exact hI j (by omega) hjk
    · rw [if_neg (by rw [nn_eq (by omega) (by omega)]; exact h1)]
      rcases mq_is (fr := fr) (to := to) (bits := bits) (tg := tg) h hte (show i < 8 by omega) with ⟨g1, g2⟩ | ⟨g1, g2⟩
      · rw [g1, Option.bind_some, if_neg one_ne]
        rcases hoi with ⟨_, hoi⟩ | ⟨e, _⟩
        · exact absurd g2 (hoi i hi h1)
        · rw [e]; exact Or.inl rfl
      · rw [g1, Option.bind_some, if_pos rfl]
        refine Or.inr ⟨(), rfl, fun j hj hjk => ?_⟩
        rcases Nat.lt_or_ge j i with q | q
        · exact hI j q hjk
        · have e : j = i := by omega
          rw [e]; exact g2
  · intro m _ hI
    show fM_only_L21 (fM_only_K21_52 0 (nI k)) 0 fr to bits (nI te) (nI k) tg od sz rg (nI c) (m + 1) (nI 8) = _
    rw [fM_only_L21, if_pos (show 8 ≤ nI 8 by rw [nn_leL (b := 8) (y := 8) rfl (by omega) (by omega)]; omega), fM_only_K21_52]
    rcases hoi with ⟨e, _⟩ | ⟨_, j, j1, j2, j3⟩
    · rw [e]
    · exact absurd j3 (hI j j1 j2)
/-- the largest of the first ones -/
def mx (x : Nat → Int32) : Nat → Int32
  | 0 => -1
  | t + 1 => if mx x t < x t then x t else mx x t
theorem mq_newestC {c of L : Nat} {sts re : Nat → Int32} (h : tr_S sts c of L) (hc : c < 40) : fT_lastEdge sts re (nI c) = some (mx (fun t => re (of + t)) L) := by
  obtain ⟨h1, h2, h3, h4⟩ := h
  rw [fT_lastEdge, nn_ck (show c < 41 by omega) (by omega), nn_cl (by omega), h3]
  refine lo_up (σ := Unit) (fun m i _ => fT_lastEdge_L9 fT_lastEdge_K9_38 sts re (nI c) m (mx (fun t => re (of + t)) i) (nI (of + i))) (fun i _ => True) (fun r => r = some (mx (fun t => re (of + t)) L)) L ?_ ?_ FU 0 () (Nat.zero_le _) (by rw [FU_eq]; omega) trivial
  · intro m i _ hi _
    refine Or.inr ⟨(), ?_, trivial⟩
    show fT_lastEdge_L9 fT_lastEdge_K9_38 sts re (nI c) (m + 1) (mx (fun t => re (of + t)) i) (nI (of + i)) = fT_lastEdge_L9 fT_lastEdge_K9_38 sts re (nI c) m (mx (fun t => re (of + t)) (i + 1)) (nI (of + i + 1))
    rw [fT_lastEdge_L9, nI_1, nI_1, nn_ck (show c + 1 < 41 by omega) (by omega), nn_cl (show c + 1 ≤ 100000 by omega), h4, if_neg (by rw [nn_le (by omega) (by omega)]; omega), nn_ck (show of + i < 40 by omega) (by omega), nn_cl (by omega), mx]
  · intro m _ _
    show fT_lastEdge_L9 fT_lastEdge_K9_38 sts re (nI c) (m + 1) (mx (fun t => re (of + t)) L) (nI (of + L)) = _
    rw [fT_lastEdge_L9, nI_1, nn_ck (show c + 1 < 41 by omega) (by omega), nn_cl (show c + 1 ≤ 100000 by omega), h4, if_pos (by rw [nn_le (by omega) (by omega)]; omega), fT_lastEdge_K9_38]
theorem mq_newestM {te k rc c of L : Nat} {co : Int32} {fr to pl bits tg rk od sz rg re : Nat → Int32} (h : rq_k rk od sz rg c of L) (hte : te ≤ 160) (hk : k < 8) (hc : c < rc) (hrc : rc ≤ 40) (hre : ∀ t, t < L → re (of + t) = el fr to pl (ac tg bits k) (rk (of + t)) (rk (of + rn L t)) te) :
    fM_newest co fr to pl bits (nI te) (nI k) tg od (nI rc) sz rg (nI c) = some (mx (fun t => re (of + t)) L, 0) := by
  have hL := h.2.1
  have hs := h.2.2.2.1
  rw [fM_newest, if_neg (nn_neg (by omega)), if_pos (by rw [nn_lt (by omega) (by omega)]; exact hc)]
  refine lo_up (σ := Unit) (fun m i _ => fM_newest_L23 (fM_newest_K23_60 0) fr to pl bits (nI te) (nI k) tg od sz rg (nI c) m (mx (fun t => re (of + t)) i) (nI i)) (fun i _ => True) (fun r => r = some (mx (fun t => re (of + t)) L, 0)) L ?_ ?_ FU 0 () (Nat.zero_le _) (by rw [FU_eq]; omega) trivial
  · intro m i _ hi _
    refine Or.inr ⟨(), ?_, trivial⟩
    show fM_newest_L23 (fM_newest_K23_60 0) fr to pl bits (nI te) (nI k) tg od sz rg (nI c) (m + 1) (mx (fun t => re (of + t)) i) (nI i) = fM_newest_L23 (fM_newest_K23_60 0) fr to pl bits (nI te) (nI k) tg od sz rg (nI c) m (mx (fun t => re (of + t)) (i + 1)) (nI (i + 1))
    rw [fM_newest_L23, nn_ck (show c < 40 by omega) (by omega), nn_cl (show c ≤ 100000 by omega), hs, if_neg (by rw [nn_le (by omega) (by omega)]; omega), mq_edge h hi hte hk, Option.bind_some, ← hre i hi, Option.bind_some, mx, nI_1]
    by_cases hlt : mx (fun t => re (of + t)) i < re (of + i)
    · have hnl : ¬ re (of + i) ≤ mx (fun t => re (of + t)) i := by
        rw [Int32.lt_iff_toInt_lt] at hlt
        rw [Int32.le_iff_toInt_le]
        omega
      rw [if_neg hnl, if_pos hlt]
    · have hl : re (of + i) ≤ mx (fun t => re (of + t)) i := by
        rw [Int32.lt_iff_toInt_lt] at hlt
        rw [Int32.le_iff_toInt_le]
        omega
      rw [if_pos hl, if_neg hlt]
  · intro m _ _
    show fM_newest_L23 (fM_newest_K23_60 0) fr to pl bits (nI te) (nI k) tg od sz rg (nI c) (m + 1) (mx (fun t => re (of + t)) L) (nI L) = _
    rw [fM_newest_L23, nn_ck (show c < 40 by omega) (by omega), nn_cl (show c ≤ 100000 by omega), hs, if_pos (by rw [nn_le (by omega) (by omega)]; omega), fM_newest_K23_60]
