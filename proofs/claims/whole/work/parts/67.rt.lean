-- the rings of a run, in the class
theorem rt_least {A : Nat → Nat → Prop} {n f : Nat} {rd : Nat → Int64} {sh : Nat → Int32} (hn : n ≤ 40) (hA : ∀ x y, A x y → x < n ∧ y < n) (hf : f < n) (hpf : pt_f A f) (hr : pm_reach A f f) (hrd : ∀ r, r < n → ∀ j, mk_t (rd r) j = true ↔ pm_reach A r j) (hsh : ∀ r, r < n → ∃ s, sh r = nI s ∧ mp_s A r s) :
    ∃ F L, fT_leastRinged rd sh (nI n) (nI f) = some (nI F) ∧ F < n ∧ sh F = nI L ∧ rg_B A f F L := by
  have hge : ∀ v, pm_tog A f v → f ≤ v := fun v ht => by
    rcases Nat.lt_or_ge v f with q | q
    · exact absurd (pm_tog_sy ht) (hpf v q)
    · exact q
  rw [fT_leastRinged, nI_1]
  refine lo_up (σ := Nat) (fun m i b => fT_leastRinged_L7 fT_leastRinged_K7_49 rd sh (nI n) (nI f) m (nI b) (nI i)) (fun i b => b < n ∧ pm_tog A f b ∧ ∃ L, sh b = nI L ∧ pm_D A b b L ∧ b < i ∧ ∀ v k, v < i → pm_tog A f v → pm_D A v v k → L ≤ k ∧ (k = L → b ≤ v)) (fun r => ∃ F L, r = some (nI F) ∧ F < n ∧ sh F = nI L ∧ rg_B A f F L) n ?_ ?_ FU (f + 1) f (by omega) (by rw [FU_eq]; omega) ?_
  · rintro m i b hi ⟨hb, ht, L, hL1, hL2, hbi, hmin⟩
    have hLn := pm_D_le (fun x y q => (hA x y q).2) hL2
    refine Or.inr ?_
    show ∃ b', fT_leastRinged_L7 _ _ _ _ _ (m + 1) (nI b) (nI i) = fT_leastRinged_L7 _ _ _ _ _ m (nI b') (nI (i + 1)) ∧ _
    rw [fT_leastRinged_L7, if_neg (by rw [nn_le (by omega) (by omega)]; omega)]
    rcases pt_each hn hf hi hrd with ⟨h1, h2⟩ | ⟨h1, h2⟩
    · obtain ⟨s, s1, s2⟩ := hsh i hi
      have hti : pm_tog A f i := Or.inr h2
      have hri : pm_reach A i i := pm_reach_tr h2.2 h2.1
      have hDi : pm_D A i i s := by
        rcases s2 with ⟨_, q⟩ | q
        · exact absurd hri q
        · exact q
      have hsn := pm_D_le (fun x y q => (hA x y q).2) hDi
      rw [h1, Option.bind_some, if_neg one_ne, tk_short hn hi, Option.bind_some, tk_short hn hb, Option.bind_some, hL1, s1, nI_1]
      by_cases hc : L ≤ s
      · rw [if_pos (by rw [nn_le (by omega) (by omega)]; exact hc)]
        refine ⟨b, rfl, hb, ht, L, hL1, hL2, by omega, fun v k hv htv hDv => ?_⟩
        rcases Nat.lt_or_ge v i with q | q
        · exact hmin v k q htv hDv
        · have e : v = i := by omega
          subst e
          have := pm_D_un hDv hDi
          exact ⟨by omega, fun _ => by omega⟩
      · rw [if_neg (by rw [nn_le (by omega) (by omega)]; exact hc)]
        refine ⟨i, rfl, hi, hti, s, s1, hDi, by omega, fun v k hv htv hDv => ?_⟩
        rcases Nat.lt_or_ge v i with q | q
        · have := (hmin v k q htv hDv).1
          exact ⟨by omega, fun _ => by omega⟩
        · have e : v = i := by omega
          subst e
          have := pm_D_un hDv hDi
          exact ⟨by omega, fun _ => Nat.le_refl _⟩
    · rw [h1, Option.bind_some, if_pos rfl, nI_1]
      refine ⟨b, rfl, hb, ht, L, hL1, hL2, by omega, fun v k hv htv hDv => ?_⟩
      rcases Nat.lt_or_ge v i with q | q
      · exact hmin v k q htv hDv
      · have e : v = i := by omega
        subst e
        have hfb := hge b ht
        rcases htv with e | htv
        · omega
        · exact absurd htv h2
  · rintro m b ⟨hb, ht, L, hL1, hL2, hbi, hmin⟩
    refine ⟨b, L, ?_, hb, hL1, ht, hL2, fun v k htv hDv => ?_⟩
    · show fT_leastRinged_L7 _ _ _ _ _ (m + 1) (nI b) (nI n) = _
      rw [fT_leastRinged_L7, if_pos (by rw [nn_le (by omega) (by omega)]; omega)]
      rfl
    · have hv : v < n := by
        have e : k = (k - 1) + 1 := by have := hDv.1; omega
        have hw := hDv.2.1
        rw [e] at hw
        obtain ⟨x, h1, _⟩ := hw
        exact (hA _ _ h1).1
      exact hmin v k hv htv hDv
  · obtain ⟨s, s1, s2⟩ := hsh f hf
    have hDf : pm_D A f f s := by
      rcases s2 with ⟨_, q⟩ | q
      · exact absurd hr q
      · exact q
    refine ⟨hf, Or.inl rfl, s, s1, hDf, by omega, fun v k hv htv hDv => ?_⟩
    have := hge v htv
    have e : v = f := by omega
    subst e
    have := pm_D_un hDv hDf
    exact ⟨by omega, fun _ => Nat.le_refl _⟩
/-- one ring -/
theorem rt_ring (hb : ∀ x : Int64, fX_bitCount x = some (nI (rc_n x))) {A : Nat → Nat → Prop} {n F L en c : Nat} {rs : Nat → Nat} {asked ly : Nat → Int64} {br sh sts rk : Nat → Int32} (hn : n ≤ 40) (hA : ∀ x y, A x y → x < n ∧ y < n) (hFn : F < n) (hF : pm_First A F L) (hR : rg_R A F L rs) (hL : sh F = nI L) (hc : c < 40) (hen : en + L ≤ 40) (hst : sts c = nI en) (hask : ∀ r, r < n → ∀ j, mk_t (asked r) j = true ↔ A r j) :
    ∃ ly' rk', fT_tellRing br (nI n) asked sh ly (nI c) sts rk (nI F) = some (ly', nI (c + 1), upd sts (c + 1) (nI (en + L)), rk') ∧ (∀ t, t < L → rk' (en + t) = br (rs t)) ∧ ∀ p, p < en → rk' p = rk p := by
  have hL1 := hF.1.1
  obtain ⟨ly', l1, l2⟩ := rc_lay (ly := ly) hn hFn (show L ≤ 40 by omega) hA hask
  obtain ⟨rk', r1, r2, r3⟩ := rg_loop hb (en := en) (rk := rk) (br := br) hn hA hF hR hen hask l2 (fT_tellRing_K34_85 ly' (nI c) sts)
  refine ⟨ly', rk', ?_, r2, r3⟩
  have e1 : nI L - 1 = nI (L - 1) := by
    have : L = (L - 1) + 1 := by omega
    conv => lhs; rw [this]
    exact nI_pred _
  rw [fT_tellRing, tk_short hn hFn, Option.bind_some, nn_ck (show c < 41 by omega) (by omega), hL, l1, Option.bind_some, nn_cl (show c ≤ 100000 by omega), hst, e1, r1, fT_tellRing_K34_85, nI_1, nn_ck (show c + 1 < 41 by omega) (by omega), nn_cl (by omega)]
/-- a first one with a ring, and how many come before -/
def rt_f (A : Nat → Nat → Prop) (x : Nat) : Prop := pt_f A x ∧ pm_reach A x x
noncomputable def rt_c (A : Nat → Nat → Prop) : Nat → Nat
  | 0 => 0
  | r + 1 => rt_c A r + @ite Nat (rt_f A r) (Classical.propDecidable _) 1 0
theorem rt_c_y {A : Nat → Nat → Prop} {r : Nat} (h : rt_f A r) : rt_c A (r + 1) = rt_c A r + 1 := by
  show rt_c A r + @ite Nat (rt_f A r) (Classical.propDecidable _) 1 0 = _
  rw [if_pos h]
theorem rt_c_n {A : Nat → Nat → Prop} {r : Nat} (h : ¬ rt_f A r) : rt_c A (r + 1) = rt_c A r := by
  show rt_c A r + @ite Nat (rt_f A r) (Classical.propDecidable _) 1 0 = _
  rw [if_neg h]
  rfl
theorem rt_c_le {A : Nat → Nat → Prop} : ∀ r, rt_c A r ≤ r
  | 0 => Nat.le_refl _
  | r + 1 => by
    have := rt_c_le (A := A) r
    by_cases h : rt_f A r
    · rw [rt_c_y h]; omega
    · rw [rt_c_n h]; omega
theorem rt_c_mono {A : Nat → Nat → Prop} {x : Nat} : ∀ y, x ≤ y → rt_c A x ≤ rt_c A y
  | 0, h => by
    have e : x = 0 := by omega
    subst e; exact Nat.le_refl _
  | y + 1, h => by
    rcases Nat.lt_or_ge y x with q | q
    · have e : x = y + 1 := by omega
      subst e; exact Nat.le_refl _
    · have := rt_c_mono (A := A) (x := x) y q
      by_cases hh : rt_f A y
      · rw [rt_c_y hh]; omega
      · rw [rt_c_n hh]; omega
theorem rt_c_sur {A : Nat → Nat → Prop} {t : Nat} : ∀ i, t < rt_c A i → ∃ f, f < i ∧ rt_f A f ∧ rt_c A f = t
  | 0, h => by exact absurd h (Nat.not_lt_zero _)
  | i + 1, h => by
    by_cases hh : rt_f A i
    · rw [rt_c_y hh] at h
      rcases Nat.lt_or_ge t (rt_c A i) with q | q
      · obtain ⟨f, h1, h2⟩ := rt_c_sur i q
        exact ⟨f, by omega, h2⟩
      · exact ⟨i, by omega, hh, by omega⟩
    · rw [rt_c_n hh] at h
      obtain ⟨f, h1, h2⟩ := rt_c_sur i h
      exact ⟨f, by omega, h2⟩
/-- what stands of the rings of the first ones below i -/
def rt_I (A : Nat → Nat → Prop) (n i en : Nat) (br sts rk : Nat → Int32) : Prop := sts 0 = 0 ∧ sts (rt_c A i) = nI en ∧ (∃ pos : Nat → Nat, (∀ p, p < en → pos p < n ∧ ∃ f, f < i ∧ pt_f A f ∧ pm_tog A f (pos p)) ∧ ∀ p q, p < en → q < en → pos p = pos q → p = q) ∧
  ∀ f, f < i → rt_f A f → ∃ F L rs of, rg_B A f F L ∧ rg_R A F L rs ∧ sts (rt_c A f) = nI of ∧ sts (rt_c A f + 1) = nI (of + L) ∧ of + L ≤ en ∧ ∀ x, x < L → rk (of + x) = br (rs x)
theorem rt_en {A : Nat → Nat → Prop} {n i en : Nat} {br sts rk : Nat → Int32} (h : rt_I A n i en br sts rk) : en ≤ n := by
  obtain ⟨_, _, ⟨pos, h1, h2⟩, _⟩ := h
  exact pm_pig n en (fun p v => pos p = v) (fun p hp => ⟨pos p, (h1 p hp).1, rfl⟩) (fun p q v hp hq e1 e2 => h2 p q hp hq (e1.trans e2.symm))
theorem rt_skip {A : Nat → Nat → Prop} {n i en : Nat} {br sts rk : Nat → Int32} (h : rt_I A n i en br sts rk) (hn : ¬ rt_f A i) : rt_I A n (i + 1) en br sts rk := by
  obtain ⟨h0, h1, ⟨pos, h2, h3⟩, h4⟩ := h
  refine ⟨h0, by rw [rt_c_n hn]; exact h1, ⟨pos, fun p hp => ?_, h3⟩, fun f hf hrf => ?_⟩
  · obtain ⟨a, f, b, c⟩ := h2 p hp
    exact ⟨a, f, by omega, c⟩
  · rcases Nat.lt_or_ge f i with q | q
    · exact h4 f q hrf
    · have e : f = i := by omega
      subst e
      exact absurd hrf hn
theorem rt_tellRings (hb : ∀ x : Int64, fX_bitCount x = some (nI (rc_n x))) {A : Nat → Nat → Prop} {n : Nat} {asked rd ly : Nat → Int64} {br sh sts rk : Nat → Int32} {rc0 : Int32} (hn : n ≤ 40) (hA : ∀ x y, A x y → x < n ∧ y < n) (hs0 : sts 0 = 0) (hask : ∀ r, r < n → ∀ j, mk_t (asked r) j = true ↔ A r j) (hrd : ∀ r, r < n → ∀ j, mk_t (rd r) j = true ↔ pm_reach A r j) (hsh : ∀ r, r < n → ∃ s, sh r = nI s ∧ mp_s A r s) :
    ∃ ly' sts' rk' en, fT_tellRings br (nI n) asked rd sh ly rc0 (nI n) sts rk = some (ly', nI (rt_c A n), sts', rk') ∧ rt_I A n n en br sts' rk' := by
  rw [fT_tellRings]
  refine lo_up (σ := (Nat → Int64) × (Nat → Int32) × (Nat → Int32)) (fun m i z => fT_tellRings_L7 fT_tellRings_K7_51 br (nI n) asked rd sh (nI n) m (nI i) z.1 (nI (rt_c A i)) z.2.1 z.2.2) (fun i z => ∃ en, rt_I A n i en br z.2.1 z.2.2) (fun r => ∃ ly' sts' rk' en, r = some (ly', nI (rt_c A n), sts', rk') ∧ rt_I A n n en br sts' rk') n ?_ ?_ FU 0 (ly, sts, rk) (Nat.zero_le _) (by rw [FU_eq]; omega) ⟨0, hs0, hs0, ⟨fun _ => 0, fun p hp => by omega, fun p q hp => by omega⟩, fun f hf => by omega⟩
  · rintro m i ⟨y, u, w⟩ hi ⟨en, hI⟩
    have hI : rt_I A n i en br u w := hI
    refine Or.inr ?_
    show ∃ z' : (Nat → Int64) × (Nat → Int32) × (Nat → Int32), fT_tellRings_L7 _ _ _ _ _ _ _ (m + 1) (nI i) y (nI (rt_c A i)) u w = fT_tellRings_L7 _ _ _ _ _ _ _ m (nI (i + 1)) z'.1 (nI (rt_c A (i + 1))) z'.2.1 z'.2.2 ∧ ∃ en, rt_I A n (i + 1) en br z'.2.1 z'.2.2
    obtain ⟨s, s1, s2⟩ := hsh i hi
    have hsn := mp_s_le hA s2
    have hci := rt_c_le (A := A) i
    rw [fT_tellRings_L7, if_neg (by rw [nn_le (by omega) (by omega)]; omega), tk_short hn hi, Option.bind_some, s1, nI_1]
    by_cases h0 : s = 0
    · have hnr : ¬ rt_f A i := fun q => by
        have := (tk_pos s2).mpr q.2
        omega
      rw [if_pos (show nI s ≤ 0 by rw [nn_leR (b := 0) (y := 0) rfl (by omega) (by omega)]; omega), rt_c_n hnr]
      exact ⟨(y, u, w), rfl, en, rt_skip hI hnr⟩
    · have hri : pm_reach A i i := (tk_pos s2).mp (by omega)
      rw [if_neg (show ¬ nI s ≤ 0 by rw [nn_leR (b := 0) (y := 0) rfl (by omega) (by omega)]; omega)]
      obtain ⟨f, f1, f2, f3, f4⟩ := pt_first hn hi hrd
      rw [f1, Option.bind_some]
      by_cases hfi : f = i
      · subst hfi
        have hrf : rt_f A f := ⟨f3, hri⟩
        obtain ⟨F, L, b1, b2, b3, b4⟩ := rt_least hn hA hi f3 hri hrd hsh
        have hFi := rg_B_first b4
        obtain ⟨rs, hR⟩ := rg_ex hFi
        obtain ⟨i0, i1, ⟨pos, i2, i3⟩, i4⟩ := id hI
        -- the rows have room
        have hroom : en + L ≤ n := by
          refine pm_pig n (en + L) (fun p v => (p < en ∧ pos p = v) ∨ (en ≤ p ∧ rs (p - en) = v)) (fun p hp => ?_) (fun p q v hp hq e1 e2 => ?_)
          · rcases Nat.lt_or_ge p en with g | g
            · exact ⟨pos p, (i2 p g).1, Or.inl ⟨g, rfl⟩⟩
            · exact ⟨rs (p - en), rg_lt hA hR (by omega), Or.inr ⟨g, rfl⟩⟩
          · have apart : ∀ p t, p < en → t < L → pos p ≠ rs t := fun p t hp ht e => by
              obtain ⟨_, g, g1, g2, g3⟩ := i2 p hp
              rw [e] at g3
              have := pt_un g2 g3 f3 (pm_tog_tr b4.1 (rg_tog hR ht))
              omega
            rcases e1 with ⟨g1, g2⟩ | ⟨g1, g2⟩ <;> rcases e2 with ⟨g3, g4⟩ | ⟨g3, g4⟩
            · exact i3 p q g1 g3 (g2.trans g4.symm)
            · exact absurd (g2.trans g4.symm) (apart p (q - en) g1 (by omega))
            · exact absurd (g4.trans g2.symm) (apart q (p - en) g3 (by omega))
            · have := rg_inj hFi.1 hR (p - en) (q - en) (by omega) (by omega) (g2.trans g4.symm)
              omega
        obtain ⟨ly', rk', t1, t2, t3⟩ := rt_ring hb (ly := y) (rk := w) (br := br) hn hA b2 hFi hR b3 (show rt_c A f < 40 by omega) (show en + L ≤ 40 by omega) i1 hask
        rw [if_pos rfl, b1, Option.bind_some, t1, Option.bind_some, rt_c_y hrf]
        refine ⟨(ly', upd u (rt_c A f + 1) (nI (en + L)), rk'), rfl, en + L, ?_, ?_, ⟨fun p => if p < en then pos p else rs (p - en), fun p hp => ?_, fun p q hp hq e => ?_⟩, fun g hg hrg => ?_⟩
        · show upd u (rt_c A f + 1) (nI (en + L)) 0 = 0
          rw [pk_un (by omega)]; exact i0
        · rw [rt_c_y hrf]; exact pk_us
        · show (if p < en then pos p else rs (p - en)) < n ∧ ∃ g, g < f + 1 ∧ pt_f A g ∧ pm_tog A g (if p < en then pos p else rs (p - en))
          rcases Nat.lt_or_ge p en with g | g
          · rw [if_pos g]
            obtain ⟨a, g', b, c⟩ := i2 p g
            exact ⟨a, g', by omega, c⟩
          · rw [if_neg (by omega)]
            exact ⟨rg_lt hA hR (by omega), f, by omega, f3, pm_tog_tr b4.1 (rg_tog hR (by omega))⟩
        · have e : (if p < en then pos p else rs (p - en)) = (if q < en then pos q else rs (q - en)) := e
          have apart : ∀ p t, p < en → t < L → pos p ≠ rs t := fun p t hp ht e => by
            obtain ⟨_, g, g1, g2, g3⟩ := i2 p hp
            rw [e] at g3
            have := pt_un g2 g3 f3 (pm_tog_tr b4.1 (rg_tog hR ht))
            omega
          rcases Nat.lt_or_ge p en with g1 | g1 <;> rcases Nat.lt_or_ge q en with g3 | g3
          · rw [if_pos g1, if_pos g3] at e; exact i3 p q g1 g3 e
          · rw [if_pos g1, if_neg (by omega)] at e; exact absurd e (apart p _ g1 (by omega))
          · rw [if_neg (by omega), if_pos g3] at e; exact absurd e.symm (apart q _ g3 (by omega))
          · rw [if_neg (by omega), if_neg (by omega)] at e
            have := rg_inj hFi.1 hR (p - en) (q - en) (by omega) (by omega) e
            omega
        · show ∃ F L0 rs of, rg_B A g F L0 ∧ rg_R A F L0 rs ∧ upd u (rt_c A f + 1) (nI (en + L)) (rt_c A g) = nI of ∧ upd u (rt_c A f + 1) (nI (en + L)) (rt_c A g + 1) = nI (of + L0) ∧ of + L0 ≤ en + L ∧ ∀ x, x < L0 → rk' (of + x) = br (rs x)
          rcases Nat.lt_or_ge g f with q | q
          · obtain ⟨G, K, rt, of, c1, c2, c3, c4, c5, c6⟩ := i4 g q hrg
            have hcg := rt_c_mono (A := A) (x := g + 1) f q
            rw [rt_c_y hrg] at hcg
            refine ⟨G, K, rt, of, c1, c2, ?_, ?_, by omega, fun x hx => ?_⟩
            · rw [pk_un (by omega)]; exact c3
            · rw [pk_un (by omega)]; exact c4
            · rw [t3 _ (by omega)]; exact c6 x hx
          · have e : g = f := by omega
            subst e
            refine ⟨F, L, rs, en, b4, hR, ?_, pk_us, Nat.le_refl _, t2⟩
            rw [pk_un (by omega)]; exact i1
      · have hnr : ¬ rt_f A i := fun q => q.1 f (by omega) f4
        rw [if_neg (by rw [nn_eq (by omega) (by omega)]; exact hfi), rt_c_n hnr]
        exact ⟨(y, u, w), rfl, en, rt_skip hI hnr⟩
  · rintro m ⟨y, u, w⟩ ⟨en, hI⟩
    refine ⟨y, u, w, en, ?_, hI⟩
    show fT_tellRings_L7 _ _ _ _ _ _ _ (m + 1) (nI n) y (nI (rt_c A n)) u w = _
    rw [fT_tellRings_L7, if_pos (by rw [nn_le (by omega) (by omega)]; omega)]
    rfl
