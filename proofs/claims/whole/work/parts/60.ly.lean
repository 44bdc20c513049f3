-- layers towards a point, and the first asked one in a layer
theorem pm_E_ex {A : Nat → Nat → Prop} {v b : Nat} : ∀ (j : Nat), pm_Wk A j v b → ∃ k, k ≤ j ∧ pm_E A v b k := by
  intro j
  induction j using Nat.strongRecOn with
  | ind j ih =>
    intro h2
    by_cases hh : ∃ i, i < j ∧ pm_Wk A i v b
    · obtain ⟨i, g1, g3⟩ := hh
      obtain ⟨k, g4, g5⟩ := ih i g1 g3
      exact ⟨k, by omega, g5⟩
    · refine ⟨j, Nat.le_refl _, h2, fun i g2 => ?_⟩
      rcases Nat.lt_or_ge i j with q | q
      · exact absurd ⟨i, q, g2⟩ hh
      · exact q
theorem pm_E_un {A : Nat → Nat → Prop} {v b k j : Nat} (h : pm_E A v b k) (h2 : pm_E A v b j) : k = j := Nat.le_antisymm (h.2 j h2.1) (h2.2 k h.1)
theorem rc_lay {n F L : Nat} (hn : n ≤ 40) (hF : F < n) (hL : L ≤ 40) {A : Nat → Nat → Prop} (hA : ∀ x y, A x y → x < n ∧ y < n) {asked ly : Nat → Int64} (hask : ∀ r, r < n → ∀ j, mk_t (asked r) j = true ↔ A r j) :
    ∃ ly', fR_layTowards (nI n) asked ly (nI F) (nI L) = some ly' ∧ ∀ s, s < L → ∀ v, mk_t (ly' s) v = true ↔ pm_E A v F s := by
  have h0c : ∀ v, pm_E A v F 0 ↔ v = F := fun v => ⟨fun h => h.1, fun h => ⟨h, fun j _ => Nat.zero_le _⟩⟩
  rw [fR_layTowards, og_ck_in (show vp_in (0 : Int32) 40 from vp_in_nI (n := 0) (by omega) (by omega)), sb_cl0]
  refine lo_up (σ := Int64 × (Nat → Int64)) (fun m i st => fR_layTowards_L14 fR_layTowards_K14_69 (nI n) asked (nI L) m st.1 (nI (i + 1)) st.2) (fun i st => (∀ v, mk_t st.1 v = true ↔ ∃ t, t < i + 1 ∧ pm_E A v F t) ∧ ∀ s, s < i + 1 → ∀ v, mk_t (st.2 s) v = true ↔ pm_E A v F s) (fun r => ∃ ly', r = some ly' ∧ ∀ s, s < L → ∀ v, mk_t (ly' s) v = true ↔ pm_E A v F s) (L - 1) ?_ ?_ FU 0 (_, _) (Nat.zero_le _) (by rw [FU_eq]; omega) ⟨fun v => ?_, fun s hs v => ?_⟩
  · rintro m i ⟨seen, lay⟩ hi ⟨hI1, hI2⟩
    have hI1 : ∀ v, mk_t seen v = true ↔ ∃ t, t < i + 1 ∧ pm_E A v F t := hI1
    have hI2 : ∀ s, s < i + 1 → ∀ v, mk_t (lay s) v = true ↔ pm_E A v F s := hI2
    obtain ⟨r, hr1, hr2⟩ := rc_askersOf hn (asked := asked) (m := lay i)
    have hnew : ∀ v, mk_t (r &&& (seen ^^^ (-1))) v = true ↔ pm_E A v F (i + 1) := by
      intro v
      rcases Nat.lt_or_ge v 64 with hv | hv
      · rw [mk_and, mk_not _ hv, Bool.and_eq_true, hr2]
        constructor
        · rintro ⟨⟨h1, x, h2, h3⟩, h4⟩
          have hx := (hask v h1 x).mp h2
          have hE := (hI2 i (by omega) x).mp h3
          refine ⟨⟨x, hx, hE.1⟩, fun j hj => ?_⟩
          rcases Nat.lt_or_ge j (i + 1) with q | q
          · exfalso
            obtain ⟨t, ht1, ht2⟩ := pm_E_ex j hj
            have := (hI1 v).mpr ⟨t, by omega, ht2⟩
            rw [this] at h4
            cases h4
          · exact q
        · rintro ⟨⟨x, hx, hw⟩, hmin⟩
          have hvn := (hA v x hx).1
          refine ⟨⟨hvn, x, (hask v hvn x).mpr hx, (hI2 i (by omega) x).mpr ⟨hw, fun j hj => ?_⟩⟩, ?_⟩
          · have := hmin (j + 1) ⟨x, hx, hj⟩
            omega
          · cases hz : mk_t seen v with
            | false => rfl
            | true =>
              obtain ⟨t, ht1, ht2⟩ := (hI1 v).mp hz
              have := hmin t ht2.1
              omega
      · rw [mk_ge _ hv]
        constructor
        · intro h; cases h
        · rintro ⟨⟨x, hx, _⟩, _⟩
          have := (hA v x hx).1
          omega
    refine Or.inr ⟨(seen ||| (r &&& (seen ^^^ (-1))), vp_updL lay (i + 1) (r &&& (seen ^^^ (-1)))), ?_, fun v => ?_, fun s hs v => ?_⟩
    · show fR_layTowards_L14 _ _ _ _ (m + 1) seen (nI (i + 1)) lay = fR_layTowards_L14 _ _ _ _ m _ (nI (i + 1 + 1)) _
      rw [fR_layTowards_L14, if_neg (by rw [nn_le (by omega) (by omega)]; omega), if_neg (show ¬ 40 ≤ nI (i + 1) by rw [nn_leL (b := 40) (y := 40) rfl (by omega) (by omega)]; omega), nI_pred, nn_ck (show i < 40 by omega) (by omega), nn_cl (show i ≤ 100000 by omega), hr1, Option.bind_some, nn_ck (show i + 1 < 40 by omega) (by omega), nn_ck (show i + 1 < 40 by omega) (by omega), nn_cl (show i + 1 ≤ 100000 by omega), pk_uLs, nI_1]
    · show mk_t (seen ||| (r &&& (seen ^^^ (-1)))) v = true ↔ _
      rw [mk_or, Bool.or_eq_true, hI1, hnew]
      constructor
      · rintro (⟨t, h1, h2⟩ | h)
        · exact ⟨t, by omega, h2⟩
        · exact ⟨i + 1, by omega, h⟩
      · rintro ⟨t, h1, h2⟩
        rcases Nat.lt_or_ge t (i + 1) with q | q
        · exact Or.inl ⟨t, q, h2⟩
        · have e : t = i + 1 := by omega
          rw [e] at h2
          exact Or.inr h2
    · show mk_t (vp_updL lay (i + 1) (r &&& (seen ^^^ (-1))) s) v = true ↔ _
      by_cases e : s = i + 1
      · subst e; rw [pk_uLs]; exact hnew v
      · rw [pk_uLn e]; exact hI2 s (by omega) v
  · rintro m ⟨seen, lay⟩ ⟨hI1, hI2⟩
    have hI2 : ∀ s, s < L - 1 + 1 → ∀ v, mk_t (lay s) v = true ↔ pm_E A v F s := hI2
    refine ⟨lay, ?_, fun s hs v => hI2 s (by omega) v⟩
    show fR_layTowards_L14 _ _ _ _ (m + 1) seen (nI (L - 1 + 1)) lay = _
    rw [fR_layTowards_L14, if_pos (by rw [nn_le (by omega) (by omega)]; omega)]
    rfl
  · show mk_t ((1 : Int64) <<< ((nI F).toInt64 &&& 63)) v = true ↔ _
    rw [mk_one (by omega)]
    constructor
    · intro h; exact ⟨0, by omega, (h0c v).mpr (of_decide_eq_true h)⟩
    · rintro ⟨t, h1, h2⟩
      have e : t = 0 := by omega
      subst e
      exact decide_eq_true ((h0c v).mp h2)
  · have e : s = 0 := by omega
    subst e
    show mk_t (vp_updL ly 0 ((1 : Int64) <<< ((nI F).toInt64 &&& 63)) 0) v = true ↔ _
    rw [pk_uLs, mk_one (by omega), h0c v]
    exact ⟨of_decide_eq_true, decide_eq_true⟩
/-- the least of those with a property -/
def pm_L (P : Nat → Prop) (v : Nat) : Prop := P v ∧ ∀ u, P u → v ≤ u
theorem rc_first (hb : ∀ x : Int64, fX_bitCount x = some (nI (rc_n x))) {n F L x q : Nat} (hn : n ≤ 40) (hx : x < n) (hq : q < L) (hL : L ≤ 40) {A : Nat → Nat → Prop} {asked ly : Nat → Int64} (hask : ∀ r, r < n → ∀ j, mk_t (asked r) j = true ↔ A r j) (hly : ∀ s, s < L → ∀ v, mk_t (ly s) v = true ↔ pm_E A v F s) (hex : ∃ v, A x v ∧ pm_E A v F q) :
    ∃ v, fR_firstAsked asked ly (nI x) (nI q) = some (nI v) ∧ pm_L (fun v => A x v ∧ pm_E A v F q) v := by
  have hc : ∀ v, mk_t (asked x &&& ly q) v = true ↔ (A x v ∧ pm_E A v F q) := fun v => by rw [mk_and, Bool.and_eq_true, hask x hx v, hly q hq v]
  rw [fR_firstAsked, nn_ck (show x < 40 by omega) (by omega), nn_ck (show q < 40 by omega) (by omega), nn_cl (by omega), nn_cl (by omega)]
  have hne : (asked x &&& ly q) ≠ 0 := by
    intro h
    obtain ⟨v, hv⟩ := hex
    have := (hc v).mpr hv
    rw [h, mk_0] at this
    cases this
  obtain ⟨z, hz, h1, -, -⟩ := rc_low hb hne
  rw [if_neg (show ¬ lg_cmp (asked x &&& ly q) 0 = 0 by rw [mk_cmp0]; exact hne), h1, Option.bind_some]
  refine ⟨z, rfl, (hc z).mp hz.2.1, fun u hu => ?_⟩
  rcases Nat.lt_or_ge u z with g | g
  · have := hz.2.2 u g
    rw [(hc u).mpr hu] at this
    cases this
  · exact g
