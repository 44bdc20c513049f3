-- a run on both sides
def th_Q (po so lo : Nat → Int32) (tkc : Int32) (mtk mcfg : Int32) (rk pa sh re : Nat → Int32) : Prop := ∀ x co : Int32, (∃ v, fC_strong po tkc x = some v ∧ fM_strong co mtk mcfg rk pa x = some (v, 0)) ∧ (∃ v, fC_state so tkc x = some v ∧ fM_state co mtk mcfg rk re x = some (v, 0)) ∧ ∃ v, fC_least lo tkc x = some v ∧ fM_least co mtk mcfg rk sh x = some (v, 0)
theorem th_Q0 {po so lo rk pa sh re : Nat → Int32} {mtk : Int32} : th_Q po so lo 0 mtk (-1) rk pa sh re := by
  intro x co
  have h0 : fT_hasKey 0 x = some 0 := by
    rw [hs_TK]
    rcases nn_ix x (n := 0) (by omega) with ⟨j, hj, _⟩ | hx
    · omega
    · exact hs_0 hx
  have h1 : fM_isThere mtk (-1) x = some 0 := by rw [fM_isThere, if_pos rfl]
  refine ⟨⟨-1, ?_, ?_⟩, ⟨-1, ?_, ?_⟩, ⟨-1, ?_, ?_⟩⟩
  · rw [fC_strong, h0, Option.bind_some, if_pos rfl]
  · rw [fM_strong, h1, Option.bind_some, if_pos rfl]
  · rw [fC_state, h0, Option.bind_some, if_pos rfl]
  · rw [fM_state, h1, Option.bind_some, if_pos rfl]
  · rw [fC_least, h0, Option.bind_some, if_pos rfl]
  · rw [fM_least, h1, Option.bind_some, if_pos rfl]
theorem tn_there {n k j : Nat} (hn : n ≤ 40) (hk : k < 8) (hj : j < n) : fM_isThere (nI n) (nI k) (nI j) = some 1 := by
  rw [fM_isThere, if_neg (nn_m1 (by omega)), if_neg (nn_neg (by omega)), if_neg (show ¬ nI n ≤ nI j by rw [nn_le (by omega) (by omega)]; omega)]
theorem tn_nthere {n k : Nat} {x : Int32} (hk : k < 8) (h : x < 0 ∨ (¬ x < 0 ∧ nI n ≤ x)) : fM_isThere (nI n) (nI k) x = some 0 := by
  rw [fM_isThere, if_neg (nn_m1 (by omega))]
  rcases h with h | ⟨h1, h2⟩
  · rw [if_pos h]
  · rw [if_neg h1, if_pos h2]
theorem tn_ringed {A : Nat → Nat → Prop} {a : Nat} {re : Nat → Int32} (ha : a < 40) (hb : mc_b re) (hre : ∀ a b, a < 40 → b < 40 → (re (40 * a + b) = 0 ↔ ¬ pm_reach A a b)) : (fM_isRinged re (nI a) = some 1 ∧ pm_reach A a a) ∨ (fM_isRinged re (nI a) = some 0 ∧ ¬ pm_reach A a a) := by
  rw [fM_isRinged, ms_cell, Option.bind_some, nn_ck (show 40 * a + a < 1600 by omega) (by omega), nn_cl (by omega)]
  rcases hb (40 * a + a) (by omega) with h | h
  · rw [h]
    exact Or.inr ⟨rfl, (hre a a ha ha).mp h⟩
  · rw [h]
    refine Or.inl ⟨rfl, Classical.byContradiction fun q => ?_⟩
    have := (hre a a ha ha).mpr q
    rw [h] at this
    exact one_ne this
theorem tn_state {A : Nat → Nat → Prop} {n k j a s : Nat} {co : Int32} {rk re : Nat → Int32} (hn : n ≤ 40) (hk : k < 8) (hj : j < n) (ha : a < n) (hrk : rk j = nI a) (hb : mc_b re) (hre : ∀ a b, a < 40 → b < 40 → (re (40 * a + b) = 0 ↔ ¬ pm_reach A a b)) (hs : tk_s A n a s) : fM_state co (nI n) (nI k) rk re (nI j) = some (nI s, 0) := by
  rw [fM_state, tn_there hn hk hj, Option.bind_some, if_neg one_ne, nn_ck (show j < 40 by omega) (by omega), nn_cl (show j ≤ 100000 by omega), hrk]
  rcases tn_ringed (show a < 40 by omega) hb hre with ⟨r1, r2⟩ | ⟨r1, r2⟩
  · rw [r1, Option.bind_some, if_neg one_ne]
    rcases hs with ⟨e, _⟩ | ⟨_, q, _⟩ | ⟨_, q, _⟩
    · rw [e]; rfl
    · exact absurd r2 q
    · exact absurd r2 q
  · rw [r1, Option.bind_some, if_pos rfl]
    refine lo_up (σ := Int32) (fun m i v => fM_state_L34 (fM_state_K34_84 0) (nI n) rk re (nI j) m v (nI i)) (fun i v => (v = 1 ∧ ∃ b, b < i ∧ pm_reach A a b ∧ pm_reach A b b) ∨ (v = 0 ∧ ¬ ∃ b, b < i ∧ pm_reach A a b ∧ pm_reach A b b)) (fun r => r = some (nI s, 0)) n ?_ ?_ FU 0 0 (Nat.zero_le _) (by rw [FU_eq]; omega) (Or.inr ⟨rfl, fun ⟨b, hb, _⟩ => absurd hb (Nat.not_lt_zero _)⟩)
    · intro m i v hi hI
      refine Or.inr ?_
      show ∃ v', fM_state_L34 (fM_state_K34_84 0) (nI n) rk re (nI j) (m + 1) v (nI i) = fM_state_L34 (fM_state_K34_84 0) (nI n) rk re (nI j) m v' (nI (i + 1)) ∧ _
      have keep : ¬ (pm_reach A a i ∧ pm_reach A i i) → (¬ ∃ b, b < i ∧ pm_reach A a b ∧ pm_reach A b b) → ¬ ∃ b, b < i + 1 ∧ pm_reach A a b ∧ pm_reach A b b := by
        rintro g1 g2 ⟨b, b1, b2⟩
        rcases Nat.lt_or_ge b i with q | q
        · exact g2 ⟨b, q, b2⟩
        · have e : b = i := by omega
          rw [e] at b2
          exact g1 b2
      rw [fM_state_L34, if_neg (by rw [nn_le (by omega) (by omega)]; omega)]
      simp only [nI_1]
      rcases hI with ⟨hv, b, b1, b2⟩ | ⟨hv, hno⟩
      · rw [hv, if_neg one_ne]
        exact ⟨1, rfl, Or.inl ⟨rfl, b, by omega, b2⟩⟩
      · rw [hv, if_pos rfl, nn_ck (show j < 40 by omega) (by omega), nn_cl (show j ≤ 100000 by omega), hrk, ms_cell, Option.bind_some, nn_ck (show 40 * a + i < 1600 by omega) (by omega), nn_cl (show 40 * a + i ≤ 100000 by omega)]
        by_cases h1 : re (40 * a + i) = 0
        · rw [if_pos h1]
          exact ⟨0, rfl, Or.inr ⟨rfl, keep (fun q => (hre a i (by omega) (by omega)).mp h1 q.1) hno⟩⟩
        · rw [if_neg h1]
          have hai : pm_reach A a i := Classical.byContradiction fun q => h1 ((hre a i (by omega) (by omega)).mpr q)
          rcases tn_ringed (show i < 40 by omega) hb hre with ⟨q1, q2⟩ | ⟨q1, q2⟩
          · rw [q1, Option.bind_some, if_neg one_ne]
            exact ⟨1, rfl, Or.inl ⟨rfl, i, by omega, hai, q2⟩⟩
          · rw [q1, Option.bind_some, if_pos rfl]
            exact ⟨0, rfl, Or.inr ⟨rfl, keep (fun q => q2 q.2) hno⟩⟩
    · intro m v hI
      show fM_state_L34 (fM_state_K34_84 0) (nI n) rk re (nI j) (m + 1) v (nI n) = _
      rw [fM_state_L34, if_pos (by rw [nn_le (by omega) (by omega)]; omega), fM_state_K34_84]
      rcases hI with ⟨hv, hI⟩ | ⟨hv, hI⟩
      · rw [hv, if_neg one_ne]
        rcases hs with ⟨_, q⟩ | ⟨e, _⟩ | ⟨_, _, q⟩
        · exact absurd q r2
        · rw [e]; rfl
        · exact absurd hI q
      · rw [hv, if_pos rfl]
        rcases hs with ⟨_, q⟩ | ⟨_, _, q⟩ | ⟨e, _⟩
        · exact absurd q r2
        · exact absurd q hI
        · rw [e]; rfl
theorem tn_run {n ne k : Nat} {R_count T_configuration T_ringCount T_keyCount c tk te cfg ps rgs : Int32} {nm br ro fr to pl cf gone bits sh po so lo oi sts rk re : Nat → Int32} {asked rd ly : Nat → Int64} {tg od mrk pa msh as mre st sz rg ba : Nat → Int32} (hK : ky_I n (nI n) nm br ro) (hE : ed_I n ne (nI ne) fr to gone cf bits) (hk : k < 8) (hs0 : sts 0 = 0) :
    ∃ rc asked' rd' sh' ly' po' so' lo' oi' sts' rk' re' tg' od' mrk' pa' msh' as' mre' st' prts sz' rg' ba', fC_run (nI n) br ro (nI ne) fr to pl cf gone R_count asked rd sh ly T_configuration T_ringCount po so lo oi T_keyCount sts rk re (nI k) = some (rc, nI n, asked', rd', sh', ly', nI k, rc, po', so', lo', oi', nI n, sts', rk', re') ∧
      fM_run c (nI n) (nI ne) nm fr to bits gone tk te cfg tg od mrk pa msh as mre st ps rgs sz rg ba (nI k) = some (rc, 0, nI n, nI ne, nI k, tg', od', mrk', pa', msh', as', mre', st', prts, rc, sz', rg', ba') ∧
      th_I ne fr to pl bits (nI k) rc oi' sts' rk' re' (nI ne) (nI k) rc tg' od' sz' rg' ∧ th_Q po' so' lo' (nI n) (nI n) (nI k) mrk' pa' msh' mre' := by
  obtain ⟨hn, -, hd, hro, hbr⟩ := id hK
  obtain ⟨hne, -, hf, ht, hg, -, hcf⟩ := id hE
  have hA : ∀ x y, aj nm fr to gone bits k n ne x y → x < n ∧ y < n := fun x y h => aj_lt hf ht hn h
  obtain ⟨asked', rd', sh', ly', po', so', lo', oi', sts', rk', re', en, c1, c2, c3, c4, c5, c6⟩ := cr_run (R_count := R_count) (T_configuration := T_configuration) (T_ringCount := T_ringCount) (T_keyCount := T_keyCount) (pl := pl) (sh := sh) (po := po) (so := so) (lo := lo) (oi := oi) (sts := sts) (rk := rk) (re := re) (asked := asked) (rd := rd) (ly := ly) hK hE hk hs0
  obtain ⟨tg', od', mrk', pa', msh', as', mre', st', sz', rg', ba', m1, m2, m3, m4, m5, m6, m7, m8, m9⟩ := mu_run (c := c) (tk := tk) (te := te) (cfg := cfg) (ps := ps) (rgs := rgs) (bits := bits) (tg := tg) (od := od) (rk := mrk) (pa := pa) (sh := msh) (as := as) (re := mre) (st := st) (sz := sz) (rg := rg) (ba := ba) hn hne hk hd hf ht hg
  have hrc := rt_c_le (A := aj nm fr to gone bits k n ne) n
  have hen := rt_en c5
  refine ⟨_, _, _, _, _, _, _, _, _, _, _, _, _, _, _, _, _, _, _, _, _, _, _, _, c1, m1, ⟨ne, rt_c (aj nm fr to gone bits k n ne) n, Nat.le_refl _, rfl, by omega, rfl, rfl, c5.1, rfl, Or.inr ⟨k, hk, rfl, fun q hq => ?_⟩⟩, fun x co => ?_⟩
  · obtain ⟨f, f1, f2, f3⟩ := rt_c_sur n hq
    obtain ⟨F, L, rs, of, g1, g2, g3, g4, g5, g6⟩ := c5.2.2.2 f f1 f2
    obtain ⟨G, K, rt, b1, b2, b3, b4, b5⟩ := m8 f f1 f2
    obtain ⟨e1, e2⟩ := rg_B_un g1 b1
    rw [← e1, ← e2] at b2
    rw [← e2] at b3 b4 b5
    rw [f3] at g3 g4 b4 b5
    have hS : tr_S sts' q of L := ⟨g1.2.1.1, by omega, g3, g4⟩
    refine ⟨of, L, hS, tc_congr (by omega) (fun e he => ⟨rfl, rfl, rfl, rfl, m2 e (by omega)⟩) (c6 q hq of L hS), ⟨g1.2.1.1, by omega, by omega, b4, fun t htL => ?_⟩, (oi_congr (fun e he => ⟨rfl, rfl, rfl, m2 e (by omega)⟩)).mpr (te_oi hn hbr hf ht g2 g6)⟩
    have hrt := rg_un g2 b2 t htL
    have hlt := rg_lt hA g2 htL
    obtain ⟨j, j1, j2⟩ := ky_r_sur hd hlt
    refine ⟨rs t, by omega, ?_, ?_⟩
    · rw [b5 t htL, hrt]
    · rw [g6 t htL, ← j2, m4 j j1]
      exact (hbr j j1).symm
  · rcases nn_ix x (n := n) (by omega) with ⟨j, hj, ex⟩ | hx
    · have ha := ky_r_lt (nm := nm) hj
      rw [ex]
      refine ⟨?_, ?_, ?_⟩
      · obtain ⟨p, p1, p2⟩ := c2 j hj
        obtain ⟨p', p3, p4⟩ := m5 _ ha
        refine ⟨nI p, ?_, ?_⟩
        · rw [fC_strong, hs_TK, hs_1 (by omega) hj, Option.bind_some, if_neg one_ne, nn_ck (show j < 40 by omega) (by omega), nn_cl (by omega), p1]
        · rw [fM_strong, tn_there hn hk hj, Option.bind_some, if_neg one_ne, nn_ck (show j < 40 by omega) (by omega), nn_cl (show j ≤ 100000 by omega), m3 j hj, nn_ck (show ky_r nm n j < 40 by omega) (by omega), nn_cl (by omega), p3, pt_p_un p4 p2]
      · obtain ⟨s, s1, s2⟩ := c3 j hj
        refine ⟨nI s, ?_, tn_state hn hk hj ha (m3 j hj) m9 m7 s2⟩
        rw [fC_state, hs_TK, hs_1 (by omega) hj, Option.bind_some, if_neg one_ne, nn_ck (show j < 40 by omega) (by omega), nn_cl (by omega), s1]
      · obtain ⟨p, p1, p2⟩ := c4 j hj
        obtain ⟨p', p3, p4⟩ := m6 _ ha
        refine ⟨nI p, ?_, ?_⟩
        · rw [fC_least, hs_TK, hs_1 (by omega) hj, Option.bind_some, if_neg one_ne, nn_ck (show j < 40 by omega) (by omega), nn_cl (by omega), p1]
        · rw [fM_least, tn_there hn hk hj, Option.bind_some, if_neg one_ne, nn_ck (show j < 40 by omega) (by omega), nn_cl (show j ≤ 100000 by omega), m3 j hj, nn_ck (show ky_r nm n j < 40 by omega) (by omega), nn_cl (by omega), p3, mp_s_un p4 p2]
    · have h0 : fT_hasKey (nI n) x = some 0 := by rw [hs_TK]; exact hs_0 hx
      have h1 : fM_isThere (nI n) (nI k) x = some 0 := tn_nthere hk hx
      refine ⟨⟨-1, ?_, ?_⟩, ⟨-1, ?_, ?_⟩, ⟨-1, ?_, ?_⟩⟩
      · rw [fC_strong, h0, Option.bind_some, if_pos rfl]
      · rw [fM_strong, h1, Option.bind_some, if_pos rfl]
      · rw [fC_state, h0, Option.bind_some, if_pos rfl]
      · rw [fM_state, h1, Option.bind_some, if_pos rfl]
      · rw [fC_least, h0, Option.bind_some, if_pos rfl]
      · rw [fM_least, h1, Option.bind_some, if_pos rfl]
