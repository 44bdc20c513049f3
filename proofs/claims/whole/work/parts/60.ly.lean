-- layers towards a point, and the first asked one in a layer
theorem pm_E_ex {A : Nat → Nat → Prop} {v b : Nat} : ∀ (j : Nat), pm_Wk A j v b → ∃ k, k ≤ j ∧ pm_E A v b k := by
  intro j
  induction j using Nat.strongRecOn with
  | ind j ih =>
    intro h2
    by_cases hh : ∃ i, i < j ∧ pm_Wk A i v b
    · obtain ⟨i, g1, g3⟩ := hh
      obtain ⟨k, g4, g5⟩ := ih i g1 g3
      exact ⟨k, by omega, g5⟩
    · refine ⟨j, Nat.le_refl _, h2, fun i g2 => ?_⟩
      rcases Nat.lt_or_ge i j with q | q
      · exact absurd ⟨i, q, g2⟩ hh
      · exact q
theorem pm_E_un {A : Nat → Nat → Prop} {v b k j : Nat} (h : pm_E A v b k) (h2 : pm_E A v b j) : k = j := Nat.le_antisymm (h.2 j h2.1) (h2.2 k h.1)
theorem rc_lay {n F L : Nat} (hn : n ≤ 40) (hF : F < n) (hL : L ≤ 40) {A : Nat → Nat → Prop} (hA : ∀ x y, A x y → x < n ∧ y < n) {asked ly : Nat → Int64} (hask : ∀ r, r < n → ∀ j, mk_t (asked r) j = true ↔ A r j) :
    ∃ ly', fR_layTowards (nI n) asked ly (nI F) (nI L) = some ly' ∧ ∀ s, s < L → ∀ v, mk_t (ly' s) v = true ↔ pm_Wk A s v F := by
  rw [fR_layTowards, og_ck_in (show vp_in (0 : Int32) 40 from vp_in_nI (n := 0) (by omega) (by omega)), sb_cl0]
  refine lo_up (σ := Nat → Int64) (fun m i lay => fR_layTowards_L11 fR_layTowards_K11_46 (nI n) asked (nI L) m (nI (i + 1)) lay) (fun i lay => ∀ s, s < i + 1 → ∀ v, mk_t (lay s) v = true ↔ pm_Wk A s v F) (fun r => ∃ ly', r = some ly' ∧ ∀ s, s < L → ∀ v, mk_t (ly' s) v = true ↔ pm_Wk A s v F) (L - 1) ?_ ?_ FU 0 _ (Nat.zero_le _) (by rw [FU_eq]; omega) (fun s hs v => ?_)
  · intro m i lay hi hI
    have hI : ∀ s, s < i + 1 → ∀ v, mk_t (lay s) v = true ↔ pm_Wk A s v F := hI
    obtain ⟨r, hr1, hr2⟩ := rc_askersOf hn (asked := asked) (m := lay i)
    have hnew : ∀ v, mk_t r v = true ↔ pm_Wk A (i + 1) v F := by
      intro v
      rw [hr2]
      constructor
      · rintro ⟨h1, x, h2, h3⟩
        exact ⟨x, (hask v h1 x).mp h2, (hI i (by omega) x).mp h3⟩
      · rintro ⟨x, hx, hw⟩
        have hvn := (hA v x hx).1
        exact ⟨hvn, x, (hask v hvn x).mpr hx, (hI i (by omega) x).mpr hw⟩
    refine Or.inr ⟨vp_updL lay (i + 1) r, ?_, fun s hs v => ?_⟩
    · show fR_layTowards_L11 _ _ _ _ (m + 1) (nI (i + 1)) lay = fR_layTowards_L11 _ _ _ _ m (nI (i + 1 + 1)) _
      rw [fR_layTowards_L11, if_neg (by rw [nn_le (by omega) (by omega)]; omega), if_neg (show ¬ 40 ≤ nI (i + 1) by rw [nn_leL (b := 40) (y := 40) rfl (by omega) (by omega)]; omega), nI_pred, nn_ck (show i < 40 by omega) (by omega), nn_cl (show i ≤ 100000 by omega), hr1, Option.bind_some, nn_ck (show i + 1 < 40 by omega) (by omega), nn_cl (show i + 1 ≤ 100000 by omega), nI_1]
    · show mk_t (vp_updL lay (i + 1) r s) v = true ↔ _
      by_cases e : s = i + 1
      · subst e; rw [pk_uLs]; exact hnew v
      · rw [pk_uLn e]; exact hI s (by omega) v
  · intro m lay hI
    have hI : ∀ s, s < L - 1 + 1 → ∀ v, mk_t (lay s) v = true ↔ pm_Wk A s v F := hI
    refine ⟨lay, ?_, fun s hs v => hI s (by omega) v⟩
    show fR_layTowards_L11 _ _ _ _ (m + 1) (nI (L - 1 + 1)) lay = _
    rw [fR_layTowards_L11, if_pos (by rw [nn_le (by omega) (by omega)]; omega)]
    rfl
  · have e : s = 0 := by omega
    subst e
    show mk_t (vp_updL ly 0 ((1 : Int64) <<< ((nI F).toInt64 &&& 63)) 0) v = true ↔ v = F
    rw [pk_uLs, mk_one (by omega)]
    exact ⟨of_decide_eq_true, decide_eq_true⟩
/-- the least of those with a property -/
def pm_L (P : Nat → Prop) (v : Nat) : Prop := P v ∧ ∀ u, P u → v ≤ u
theorem rc_first (hb : ∀ x : Int64, fX_bitCount x = some (nI (rc_n x))) {n F L x q : Nat} (hn : n ≤ 40) (hx : x < n) (hq : q < L) (hL : L ≤ 40) {A : Nat → Nat → Prop} {asked ly : Nat → Int64} (hask : ∀ r, r < n → ∀ j, mk_t (asked r) j = true ↔ A r j) (hly : ∀ s, s < L → ∀ v, mk_t (ly s) v = true ↔ pm_Wk A s v F) (hex : ∃ v, A x v ∧ pm_Wk A q v F) :
    ∃ v, fR_firstAsked asked ly (nI x) (nI q) = some (nI v) ∧ pm_L (fun v => A x v ∧ pm_Wk A q v F) v := by
  have hc : ∀ v, mk_t (asked x &&& ly q) v = true ↔ (A x v ∧ pm_Wk A q v F) := fun v => by rw [mk_and, Bool.and_eq_true, hask x hx v, hly q hq v]
  rw [fR_firstAsked, nn_ck (show x < 40 by omega) (by omega), nn_ck (show q < 40 by omega) (by omega), nn_cl (by omega), nn_cl (by omega)]
  have hne : (asked x &&& ly q) ≠ 0 := by
    intro h
    obtain ⟨v, hv⟩ := hex
    have := (hc v).mpr hv
    rw [h, mk_0] at this
    cases this
  obtain ⟨z, hz, h1, -, -⟩ := rc_low hb hne
  rw [if_neg (show ¬ lg_cmp (asked x &&& ly q) 0 = 0 by rw [mk_cmp0]; exact hne), h1, Option.bind_some]
  refine ⟨z, rfl, (hc z).mp hz.2.1, fun u hu => ?_⟩
  rcases Nat.lt_or_ge u z with g | g
  · have := hz.2.2 u g
    rw [(hc u).mpr hu] at this
    cases this
  · exact g
