-- the least ring of a part, point by point
/-- F is the first of the points of f's part with the shortest rings, which have L points -/
def rg_B (A : Nat → Nat → Prop) (f F L : Nat) : Prop := pm_tog A f F ∧ pm_D A F F L ∧ ∀ v k, pm_tog A f v → pm_D A v v k → L ≤ k ∧ (k = L → F ≤ v)
theorem rg_B_un {A : Nat → Nat → Prop} {f F L G K : Nat} (h : rg_B A f F L) (h2 : rg_B A f G K) : F = G ∧ L = K := by
  have a := h.2.2 G K h2.1 h2.2.1
  have b := h2.2.2 F L h.1 h.2.1
  have e : L = K := by omega
  exact ⟨Nat.le_antisymm (a.2 e.symm) (b.2 e), e⟩
theorem rg_B_first {A : Nat → Nat → Prop} {f F L : Nat} (h : rg_B A f F L) : pm_First A F L := pm_First_of h.2.1 (fun v k ht hD => h.2.2 v k (pm_tog_tr h.1 ht) hD)
/-- the ring's points: each next one is the least that comes back in time -/
def rg_R (A : Nat → Nat → Prop) (F L : Nat) (rs : Nat → Nat) : Prop := rs 0 = F ∧ (∀ t, t + 1 < L → pm_L (fun v => A (rs t) v ∧ pm_E A v F (L - 1 - t)) (rs (t + 1))) ∧ ∀ t, t < L → pm_Wk A t F (rs t) ∧ pm_Wk A (L - t) (rs t) F
theorem pm_L_un {P : Nat → Prop} {x y : Nat} (h : pm_L P x) (h2 : pm_L P y) : x = y := Nat.le_antisymm (h.2 y h2.1) (h2.2 x h.1)
theorem pm_L_ex {P : Nat → Prop} (h : ∃ v, P v) : ∃ v, pm_L P v := by
  obtain ⟨v, h1, h2⟩ := pk_least P h
  refine ⟨v, h1, fun u hu => ?_⟩
  rcases Nat.lt_or_ge u v with q | q
  · exact absurd hu (h2 u q)
  · exact q
theorem rg_ex {A : Nat → Nat → Prop} {F L : Nat} (h : pm_First A F L) : ∃ rs, rg_R A F L rs := by
  have key : ∀ i, i < L → ∃ rs : Nat → Nat, rs 0 = F ∧ (∀ t, t < i → pm_L (fun v => A (rs t) v ∧ pm_E A v F (L - 1 - t)) (rs (t + 1))) ∧ ∀ t, t ≤ i → pm_Wk A t F (rs t) ∧ pm_Wk A (L - t) (rs t) F := by
    intro i
    induction i with
    | zero =>
      intro hi
      refine ⟨fun _ => F, rfl, fun t ht => by omega, fun t ht => ?_⟩
      have e : t = 0 := by omega
      subst e
      exact ⟨rfl, h.1.2.1⟩
    | succ i ih =>
      intro hi
      obtain ⟨rs, h0, h1, h2⟩ := ih (by omega)
      obtain ⟨g1, g2⟩ := h2 i (Nat.le_refl _)
      have e : L - i = (L - 1 - i) + 1 := by omega
      rw [e] at g2
      obtain ⟨v, hv⟩ := pm_L_ex (pm_next_ex h (i := i) (q := L - 1 - i) (by omega) g1 g2)
      refine ⟨fun t => if t = i + 1 then v else rs t, by show (if 0 = i + 1 then v else rs 0) = F; rw [if_neg (by omega)]; exact h0, fun t ht => ?_, fun t ht => ?_⟩
      · show pm_L (fun x => A (if t = i + 1 then v else rs t) x ∧ pm_E A x F (L - 1 - t)) (if t + 1 = i + 1 then v else rs (t + 1))
        rw [if_neg (show ¬ t = i + 1 by omega)]
        by_cases et : t = i
        · subst et; rw [if_pos rfl]; exact hv
        · rw [if_neg (by omega)]; exact h1 t (by omega)
      · show pm_Wk A t F (if t = i + 1 then v else rs t) ∧ pm_Wk A (L - t) (if t = i + 1 then v else rs t) F
        by_cases et : t = i + 1
        · subst et
          rw [if_pos rfl]
          refine ⟨pm_snoc g1 hv.1.1, ?_⟩
          have e2 : L - (i + 1) = L - 1 - i := by omega
          rw [e2]
          exact hv.1.2.1
        · rw [if_neg et]; exact h2 t (by omega)
  have hL := h.1.1
  obtain ⟨rs, h0, h1, h2⟩ := key (L - 1) (by omega)
  exact ⟨rs, h0, fun t ht => h1 t (by omega), fun t ht => h2 t (by omega)⟩
theorem rg_un {A : Nat → Nat → Prop} {F L : Nat} {rs rt : Nat → Nat} (h : rg_R A F L rs) (h2 : rg_R A F L rt) : ∀ t, t < L → rs t = rt t := by
  intro t
  induction t with
  | zero => intro _; rw [h.1, h2.1]
  | succ t ih =>
    intro ht
    have a := h.2.1 t ht
    have b := h2.2.1 t ht
    rw [ih (by omega)] at a
    exact pm_L_un a b
theorem rg_inj {A : Nat → Nat → Prop} {F L : Nat} {rs : Nat → Nat} (hD : pm_D A F F L) (h : rg_R A F L rs) : ∀ i j, i < L → j < L → rs i = rs j → i = j := by
  have key : ∀ i j, i < j → j < L → rs i = rs j → False := by
    intro i j hij hj e
    have a := (h.2.2 i (by omega)).1
    have b := (h.2.2 j hj).2
    rw [e] at a
    have := hD.2.2 (i + (L - j)) (by omega) (pm_app a b)
    omega
  intro i j hi hj e
  rcases Nat.lt_trichotomy i j with q | q | q
  · exact (key i j q hj e).elim
  · exact q
  · exact (key j i q hi e.symm).elim
theorem rg_lt {A : Nat → Nat → Prop} {n F L : Nat} {rs : Nat → Nat} (hA : ∀ x y, A x y → x < n ∧ y < n) (h : rg_R A F L rs) {t : Nat} (ht : t < L) : rs t < n := by
  have b := (h.2.2 t ht).2
  have e : L - t = (L - t - 1) + 1 := by omega
  rw [e] at b
  obtain ⟨x, h1, _⟩ := b
  exact (hA _ _ h1).1
theorem rg_tog {A : Nat → Nat → Prop} {F L : Nat} {rs : Nat → Nat} (h : rg_R A F L rs) {t : Nat} (ht : t < L) : pm_tog A F (rs t) := by
  cases t with
  | zero => exact Or.inl h.1.symm
  | succ t => exact Or.inr ⟨⟨t + 1, by omega, (h.2.2 _ ht).1⟩, ⟨L - (t + 1), by omega, (h.2.2 _ ht).2⟩⟩
/-- on the least ring a walk of the time that is left is a least walk -/
theorem rg_E {A : Nat → Nat → Prop} {F L : Nat} {rs : Nat → Nat} (hD : pm_D A F F L) (h : rg_R A F L rs) {i v : Nat} (hi : i + 1 < L) (ha : A (rs i) v) (hw : pm_Wk A (L - 1 - i) v F) : pm_E A v F (L - 1 - i) := by
  refine ⟨hw, fun j hj => ?_⟩
  have := hD.2.2 (i + 1 + j) (by omega) (pm_app (pm_snoc (h.2.2 i (by omega)).1 ha) hj)
  omega
-- the class tells it
theorem rg_loop (hb : ∀ x : Int64, fX_bitCount x = some (nI (rc_n x))) {A : Nat → Nat → Prop} {n F L en : Nat} {rs : Nat → Nat} {asked ly : Nat → Int64} {br rk : Nat → Int32} (hn : n ≤ 40) (hA : ∀ x y, A x y → x < n ∧ y < n) (hF : pm_First A F L) (hR : rg_R A F L rs) (hen : en + L ≤ 40) (hask : ∀ r, r < n → ∀ j, mk_t (asked r) j = true ↔ A r j) (hly : ∀ s, s < L → ∀ v, mk_t (ly s) v = true ↔ pm_Wk A s v F)
    (kk : Int32 → (Nat → Int32) → Option ((Nat → Int64) × Int32 × (Nat → Int32) × (Nat → Int32))) : ∃ rk', fT_tellRing_L34 kk br asked ly FU (nI en) (nI F) (nI (L - 1)) rk = kk (nI (en + L)) rk' ∧ (∀ t, t < L → rk' (en + t) = br (rs t)) ∧ ∀ p, p < en → rk' p = rk p := by
  have hL := hF.1.1
  have hend : ∀ (m : Nat) (x : Int32) (z : Nat → Int32), fT_tellRing_L34 kk br asked ly (m + 1) (nI (en + L)) x (-1) z = kk (nI (en + L)) z := fun m x z => by
    rw [fT_tellRing_L34, if_pos (by decide)]
  refine lo_up (σ := Nat → Int32) (fun m i z => fT_tellRing_L34 kk br asked ly (m + 1) (nI (en + i)) (nI (rs i)) (nI (L - 1 - i)) z) (fun i z => (∀ t, t < i → z (en + t) = br (rs t)) ∧ ∀ p, p < en → z p = rk p) (fun r => ∃ rk', r = kk (nI (en + L)) rk' ∧ (∀ t, t < L → rk' (en + t) = br (rs t)) ∧ ∀ p, p < en → rk' p = rk p) (L - 1) ?_ ?_ 99999 0 rk (Nat.zero_le _) (by omega) ⟨fun t ht => by omega, fun p _ => rfl⟩ |> fun h => by
      have e : FU = 99999 + 1 := FU_eq
      rw [e]
      have h : ∃ rk', fT_tellRing_L34 kk br asked ly (99999 + 1) (nI (en + 0)) (nI (rs 0)) (nI (L - 1 - 0)) rk = kk (nI (en + L)) rk' ∧ _ := h
      rw [hR.1] at h
      exact h
  · intro m i z hi hI
    obtain ⟨hI1, hI2⟩ := hI
    have hlt := rg_lt hA hR (show i < L by omega)
    have hn1 := hR.2.1 i (by omega)
    obtain ⟨v, v1, v2⟩ := rc_first hb hn hlt (show L - 1 - i < L by omega) (by omega) hask hly ⟨_, hn1.1.1, hn1.1.2.1⟩
    have ev : v = rs (i + 1) := pm_L_un ⟨⟨v2.1.1, rg_E hF.1 hR (by omega) v2.1.1 v2.1.2⟩, fun u hu => v2.2 u ⟨hu.1, hu.2.1⟩⟩ hn1
    subst ev
    refine Or.inr ⟨upd z (en + i) (br (rs i)), ?_, fun t ht => ?_, fun p hp => ?_⟩
    · show fT_tellRing_L34 _ _ _ _ (m + 1 + 1) (nI (en + i)) (nI (rs i)) (nI (L - 1 - i)) z = fT_tellRing_L34 _ _ _ _ (m + 1) (nI (en + (i + 1))) (nI (rs (i + 1))) (nI (L - 1 - (i + 1))) _
      have e9 : nI (L - 1 - i) + (-1) = nI (L - 1 - (i + 1)) := by
        have : L - 1 - i = (L - 1 - (i + 1)) + 1 := by omega
        rw [this]; exact pk_m1 _
      rw [fT_tellRing_L34, if_neg (nn_neg (by omega)), if_neg (nn_m1 (by omega)), if_neg (show ¬ 40 ≤ nI (en + i) by rw [nn_leL (b := 40) (y := 40) rfl (by omega) (by omega)]; omega), nn_ck (show rs i < 40 by omega) (by omega), nn_ck (show en + i < 40 by omega) (by omega), v1, Option.bind_some, nn_cl (show en + i ≤ 100000 by omega), nn_cl (show rs i ≤ 100000 by omega), nI_1, e9]
      rfl
    · by_cases e : t = i
      · subst e; exact pk_us
      · rw [pk_un (by omega)]; exact hI1 t (by omega)
    · rw [pk_un (by omega)]; exact hI2 p hp
  · intro m z hI
    obtain ⟨hI1, hI2⟩ := hI
    have hlt := rg_lt hA hR (show L - 1 < L by omega)
    have hw := hR.2.2 (L - 1) (by omega)
    have e1 : L - (L - 1) = 1 := by omega
    rw [e1] at hw
    have hAF := pm_one.mp hw.2
    have e0 : L - 1 - (L - 1) = 0 := by omega
    obtain ⟨v, v1, -⟩ := rc_first hb hn hlt (q := 0) (show 0 < L by omega) (by omega) hask hly ⟨F, hAF, rfl⟩
    refine ⟨upd z (en + (L - 1)) (br (rs (L - 1))), ?_, fun t ht => ?_, fun p hp => ?_⟩
    · show fT_tellRing_L34 _ _ _ _ (m + 1 + 1) (nI (en + (L - 1))) (nI (rs (L - 1))) (nI (L - 1 - (L - 1))) z = _
      rw [e0, fT_tellRing_L34, if_neg (nn_neg (by omega)), if_neg (nn_m1 (by omega)), if_neg (show ¬ 40 ≤ nI (en + (L - 1)) by rw [nn_leL (b := 40) (y := 40) rfl (by omega) (by omega)]; omega), nn_ck (show rs (L - 1) < 40 by omega) (by omega), nn_ck (show en + (L - 1) < 40 by omega) (by omega), v1, Option.bind_some, nn_cl (show en + (L - 1) ≤ 100000 by omega), nn_cl (show rs (L - 1) ≤ 100000 by omega), nI_1]
      have e5 : en + (L - 1) + 1 = en + L := by omega
      have e6 : nI 0 + (-1) = (-1 : Int32) := by decide
      rw [e5, e6]
      exact hend m _ _
    · by_cases e : t = L - 1
      · subst e; exact pk_us
      · rw [pk_un (by omega)]; exact hI1 t (by omega)
    · rw [pk_un (by omega)]; exact hI2 p hp
