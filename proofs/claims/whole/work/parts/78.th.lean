-- what was told at the last run: both sides
def th_R (fr to pl bits tg : Nat → Int32) (te k : Nat) (sts rk oi re od sz rg : Nat → Int32) (c : Nat) : Prop := ∃ of L, tr_S sts c of L ∧ tc_K fr to pl tg bits te k rk oi re c of L ∧ rq_k rk od sz rg c of L ∧ oi_h fr to tg bits te (fun t => rk (of + t)) L k
def th_I (ne : Nat) (fr to pl bits : Nat → Int32) (tcfg trc : Int32) (oi sts rk re : Nat → Int32) (mte mcfg mrings : Int32) (tg od sz rg : Nat → Int32) : Prop :=
  ∃ te rc, te ≤ ne ∧ mte = nI te ∧ rc ≤ 40 ∧ trc = nI rc ∧ mrings = nI rc ∧ sts 0 = 0 ∧ tcfg = mcfg ∧ ((mcfg = -1 ∧ rc = 0) ∨ ∃ k, k < 8 ∧ mcfg = nI k ∧ ∀ c, c < rc → th_R fr to pl bits tg te k sts rk oi re od sz rg c)
theorem oi_congr {fr to bits tg fr' to' bits' tg' ks : Nat → Int32} {te L j : Nat} (h : ∀ e, e < te → fr' e = fr e ∧ to' e = to e ∧ bits' e = bits e ∧ tg' e = tg e) : oi_h fr' to' tg' bits' te ks L j ↔ oi_h fr to tg bits te ks L j := by
  have key : ∀ t, (∃ e, e < te ∧ ac tg' bits' j e = true ∧ fr' e = ks t ∧ to' e = ks (rn L t)) ↔ ∃ e, e < te ∧ ac tg bits j e = true ∧ fr e = ks t ∧ to e = ks (rn L t) := by
    intro t
    constructor
    · rintro ⟨e, e1, e2⟩
      obtain ⟨a1, a2, a3, a4⟩ := h e e1
      unfold ac at e2
      rw [a1, a2, a3, a4] at e2
      exact ⟨e, e1, e2⟩
    · rintro ⟨e, e1, e2⟩
      obtain ⟨a1, a2, a3, a4⟩ := h e e1
      refine ⟨e, e1, ?_⟩
      unfold ac
      rw [a1, a2, a3, a4]
      exact e2
  unfold oi_h
  constructor
  · intro q t ht
    exact (key t).mp (q t ht)
  · intro q t ht
    exact (key t).mpr (q t ht)
theorem tc_congr {fr to pl bits tg fr' to' pl' bits' tg' rk oi re : Nat → Int32} {te k c of L : Nat} (hte : te ≤ 1000) (h : ∀ e, e < te → fr' e = fr e ∧ to' e = to e ∧ pl' e = pl e ∧ bits' e = bits e ∧ tg' e = tg e) (hc : tc_K fr to pl tg bits te k rk oi re c of L) : tc_K fr' to' pl' tg' bits' te k rk oi re c of L := by
  have ho : ∀ j, oi_h fr' to' tg' bits' te (fun t => rk (of + t)) L j ↔ oi_h fr to tg bits te (fun t => rk (of + t)) L j := fun j => oi_congr (fun e he => by
    obtain ⟨a1, a2, a3, a4, a5⟩ := h e he
    exact ⟨a1, a2, a4, a5⟩)
  obtain ⟨c1, c2⟩ := hc
  refine ⟨?_, fun t ht => ?_⟩
  · rcases c1 with ⟨e, c1⟩ | ⟨e, j, j1, j2, j3⟩
    · exact Or.inl ⟨e, fun j hj hjk q => c1 j hj hjk ((ho j).mp q)⟩
    · exact Or.inr ⟨e, j, j1, j2, (ho j).mpr j3⟩
  · rw [c2 t ht]
    refine (el_congr te hte (fun j hj => ?_)).symm
    obtain ⟨a1, a2, a3, a4, a5⟩ := h j hj
    refine ⟨a1, a2, a3, ?_⟩
    unfold ac
    rw [a4, a5]
theorem th_edge {ne ne' : Nat} {fr to pl bits fr' to' pl' bits' oi sts rk re tg od sz rg : Nat → Int32} {tcfg trc mte mcfg mrings : Int32} (hne : ne ≤ 160) (hn : ne ≤ ne') (h : ∀ e, e < ne → fr' e = fr e ∧ to' e = to e ∧ pl' e = pl e ∧ bits' e = bits e) (hI : th_I ne fr to pl bits tcfg trc oi sts rk re mte mcfg mrings tg od sz rg) : th_I ne' fr' to' pl' bits' tcfg trc oi sts rk re mte mcfg mrings tg od sz rg := by
  obtain ⟨te, rc, h1, h2, h3, h4, h5, h6, h7, h8⟩ := hI
  refine ⟨te, rc, by omega, h2, h3, h4, h5, h6, h7, ?_⟩
  rcases h8 with h8 | ⟨k, k1, k2, k3⟩
  · exact Or.inl h8
  · refine Or.inr ⟨k, k1, k2, fun c hc => ?_⟩
    obtain ⟨of, L, g1, g2, g3, g4⟩ := k3 c hc
    refine ⟨of, L, g1, tc_congr (by omega) (fun e he => ?_) g2, g3, (oi_congr (fun e he => ?_)).mpr g4⟩
    · obtain ⟨a1, a2, a3, a4⟩ := h e (by omega)
      exact ⟨a1, a2, a3, a4, rfl⟩
    · obtain ⟨a1, a2, a3, a4⟩ := h e (by omega)
      exact ⟨a1, a2, a4, rfl⟩
theorem th_nlt {x y : Int32} (h : y ≤ x) : ¬ x < y := by
  rw [Int32.le_iff_toInt_le] at h
  rw [Int32.lt_iff_toInt_lt]
  omega
theorem th_len {c of L : Nat} {sts : Nat → Int32} (h : tr_S sts c of L) (hc : c < 40) : fT_length sts (nI c) = some (nI L) := by
  obtain ⟨h1, h2, h3, h4⟩ := h
  rw [fT_length, nI_1, nn_ck (show c + 1 < 41 by omega) (by omega), nn_ck (show c < 41 by omega) (by omega), nn_cl (by omega), nn_cl (by omega), h3, h4, pk_sub (by omega), Nat.add_sub_cancel_left]
theorem th_size {ne : Nat} {fr to pl bits oi sts rk re tg od sz rg : Nat → Int32} {tcfg trc mte mcfg mrings : Int32} (hI : th_I ne fr to pl bits tcfg trc oi sts rk re mte mcfg mrings tg od sz rg) (x co : Int32) : ∃ v, fC_size trc sts x = some v ∧ fM_size co mrings sz x = some (v, 0) := by
  obtain ⟨te, rc, h1, h2, h3, h4, h5, h6, h7, h8⟩ := hI
  rw [h4, h5]
  rcases nn_ix x (n := rc) (by omega) with ⟨c, hc, e⟩ | hx
  · rcases h8 with ⟨_, h8⟩ | ⟨k, k1, k2, k3⟩
    · omega
    · obtain ⟨of, L, g1, g2, g3, g4⟩ := k3 c hc
      refine ⟨nI L, ?_, ?_⟩
      · rw [e, fC_size, hs_TR, hs_1 (by omega) hc, Option.bind_some, if_neg one_ne, th_len g1 (by omega), Option.bind_some]
      · rw [e, fM_size, if_neg (nn_neg (by omega)), if_pos (by rw [nn_lt (by omega) (by omega)]; exact hc), nn_ck (show c < 40 by omega) (by omega), nn_cl (by omega), g3.2.2.2.1]
  · refine ⟨0, ?_, ?_⟩
    · rw [fC_size, hs_TR, hs_0 hx, Option.bind_some, if_pos rfl]
    · rw [fM_size]
      rcases hx with hx | ⟨hx, hx2⟩
      · rw [if_pos hx]
      · rw [if_neg hx, if_neg (th_nlt hx2)]
theorem th_only {ne : Nat} {fr to pl bits oi sts rk re tg od sz rg : Nat → Int32} {tcfg trc mte mcfg mrings : Int32} (hne : ne ≤ 160) (hI : th_I ne fr to pl bits tcfg trc oi sts rk re mte mcfg mrings tg od sz rg) (x co : Int32) : ∃ v, fC_only trc oi x = some v ∧ fM_only co fr to bits mte mcfg tg od mrings sz rg x = some (v, 0) := by
  obtain ⟨te, rc, h1, h2, h3, h4, h5, h6, h7, h8⟩ := hI
  rw [h2, h4, h5]
  rcases nn_ix x (n := rc) (by omega) with ⟨c, hc, e⟩ | hx
  · rcases h8 with ⟨_, h8⟩ | ⟨k, k1, k2, k3⟩
    · omega
    · obtain ⟨of, L, g1, g2, g3, g4⟩ := k3 c hc
      refine ⟨oi c, ?_, ?_⟩
      · rw [e, fC_only, hs_TR, hs_1 (by omega) hc, Option.bind_some, if_neg one_ne, nn_ck (show c < 40 by omega) (by omega), nn_cl (by omega)]
      · rw [e, k2]
        exact mq_only g3 (by omega) k1 hc h3 g2.1
  · refine ⟨-1, ?_, ?_⟩
    · rw [fC_only, hs_TR, hs_0 hx, Option.bind_some, if_pos rfl]
    · rw [fM_only]
      rcases hx with hx | ⟨hx, hx2⟩
      · rw [if_pos hx]
      · rw [if_neg hx, if_neg (th_nlt hx2)]
theorem th_newest {ne : Nat} {fr to pl bits oi sts rk re tg od sz rg : Nat → Int32} {tcfg trc mte mcfg mrings : Int32} (hne : ne ≤ 160) (hI : th_I ne fr to pl bits tcfg trc oi sts rk re mte mcfg mrings tg od sz rg) (x co : Int32) : ∃ v, fC_newest trc sts re x = some v ∧ fM_newest co fr to pl bits mte mcfg tg od mrings sz rg x = some (v, 0) := by
  obtain ⟨te, rc, h1, h2, h3, h4, h5, h6, h7, h8⟩ := hI
  rw [h2, h4, h5]
  rcases nn_ix x (n := rc) (by omega) with ⟨c, hc, e⟩ | hx
  · rcases h8 with ⟨_, h8⟩ | ⟨k, k1, k2, k3⟩
    · omega
    · obtain ⟨of, L, g1, g2, g3, g4⟩ := k3 c hc
      refine ⟨mx (fun t => re (of + t)) L, ?_, ?_⟩
      · rw [e, fC_newest, hs_TR, hs_1 (by omega) hc, Option.bind_some, if_neg one_ne, mq_newestC g1 (by omega), Option.bind_some]
      · rw [e, k2]
        exact mq_newestM g3 (by omega) k1 hc h3 g2.2
  · refine ⟨-1, ?_, ?_⟩
    · rw [fC_newest, hs_TR, hs_0 hx, Option.bind_some, if_pos rfl]
    · rw [fM_newest]
      rcases hx with hx | ⟨hx, hx2⟩
      · rw [if_pos hx]
      · rw [if_neg hx, if_neg (th_nlt hx2)]
theorem th_ring {ne : Nat} {fr to pl bits oi sts rk re tg od sz rg : Nat → Int32} {tcfg trc mte mcfg mrings : Int32} (hne : ne ≤ 160) (hI : th_I ne fr to pl bits tcfg trc oi sts rk re mte mcfg mrings tg od sz rg) (x p q co : Int32) : ∃ v, fC_ring (nI ne) pl trc sts rk re x p q = some v ∧ fM_ring co fr to pl bits mte mcfg tg od mrings sz rg x p q = some (v, 0) := by
  obtain ⟨te, rc, h1, h2, h3, h4, h5, h6, h7, h8⟩ := hI
  rw [h2, h4, h5]
  rcases nn_ix x (n := rc) (by omega) with ⟨c, hc, e⟩ | hx
  · rcases h8 with ⟨_, h8⟩ | ⟨k, k1, k2, k3⟩
    · omega
    · obtain ⟨of, L, g1, g2, g3, g4⟩ := k3 c hc
      have hL := g3.2.1
      rw [e, k2, fC_ring, hs_TR, hs_1 (by omega) hc, Option.bind_some, if_neg one_ne, fM_ring, if_neg (nn_neg (by omega)), if_neg (show ¬ nI rc ≤ nI c by rw [nn_le (by omega) (by omega)]; omega), th_len g1 (by omega), nn_ck (show c < 40 by omega) (by omega), nn_cl (show c ≤ 100000 by omega), g3.2.2.2.1]
      by_cases hp0 : p < 0
      · rw [if_pos hp0, if_pos hp0]
        exact ⟨-1, rfl, rfl⟩
      · rw [if_neg hp0, if_neg hp0, Option.bind_some]
        by_cases hpL : p < nI L
        · rw [if_pos hpL, if_pos hpL]
          obtain ⟨t, ht0, et⟩ := nI_of hp0
          have ht : t < L := by
            rw [et, nI_ltI ht0 (by omega)] at hpL
            exact hpL
          have hof := g1.2.1
          have hst := g1.2.2.1
          rw [et]
          by_cases q0 : q = 0
          · rw [if_pos q0, if_pos q0]
            refine ⟨rk (of + t), ?_, ?_⟩
            · rw [fT_keyAt, nn_ck (show c < 41 by omega) (by omega), nn_cl (show c ≤ 100000 by omega), hst, nI_add, nn_ck (show of + t < 40 by omega) (by omega), nn_cl (by omega), Option.bind_some]
            · rw [mq_key0 g3 ht, Option.bind_some]
          · rw [if_neg q0, if_neg q0, mq_edge g3 ht (show te ≤ 160 by omega) k1, Option.bind_some]
            obtain ⟨ed, ed1, ed2⟩ := el_ne (fr := fr) (to := to) (pl := pl) (p := ac tg bits k) (a := rk (of + t)) (b := rk (of + rn L t)) te (by omega) (g4 t ht)
            have hed : fT_edgeAt sts re (nI c) (nI t) = some (nI ed) := by
              rw [fT_edgeAt, nn_ck (show c < 41 by omega) (by omega), nn_cl (show c ≤ 100000 by omega), hst, nI_add, nn_ck (show of + t < 40 by omega) (by omega), nn_cl (by omega), g2.2 t ht, ed2]
            rw [ed2, hed]
            by_cases q1 : q = 1
            · rw [if_pos q1, if_pos q1]
              refine ⟨pl ed, ?_, ?_⟩
              · rw [Option.bind_some, fE_placeOf, hs_E, hs_1 (by omega) (show ed < ne by omega), Option.bind_some, if_neg one_ne, nn_ck (show ed < 160 by omega) (by omega), nn_cl (by omega), Option.bind_some]
              · rw [nn_ck (show ed < 160 by omega) (by omega), nn_cl (by omega)]
            · rw [if_neg q1, if_neg q1]
              by_cases q2 : q = 2
              · rw [if_pos q2, if_pos q2]
                exact ⟨nI ed, rfl, rfl⟩
              · rw [if_neg q2, if_neg q2]
                exact ⟨-1, rfl, rfl⟩
        · rw [if_neg hpL, if_neg hpL]
          exact ⟨-1, rfl, rfl⟩
  · refine ⟨-1, ?_, ?_⟩
    · rw [fC_ring, hs_TR, hs_0 hx, Option.bind_some, if_pos rfl]
    · rw [fM_ring]
      rcases hx with hx | ⟨hx, hx2⟩
      · rw [if_pos hx]
      · rw [if_neg hx, if_pos hx2]
