-- the reference's close: who asks, who reaches, least steps
def mc_b (re : Nat → Int32) : Prop := ∀ c, c < 1600 → re c = 0 ∨ re c = 1
theorem mc_close {n ne k : Nat} {nm fr to bits tg rk as re st : Nat → Int32} (hn : n ≤ 40) (hne : ne ≤ 160) (hk : k < 8) (hf : ∀ e, e < ne → ∃ a, a < n ∧ fr e = nI a) (ht : ∀ e, e < ne → ∃ a, a < n ∧ to e = nI a) (hrk : ∀ j, j < n → rk j = nI (ky_r nm n j)) :
    ∃ as' re' st', fM_close fr to bits (nI n) (nI ne) (nI k) tg rk as re st = some (as', re', st') ∧ (∀ a b, a < 40 → b < 40 → (as' (40 * a + b) = 0 ↔ ¬ aj nm fr to tg bits k n ne a b)) ∧ (∀ a b, a < 40 → b < 40 → (re' (40 * a + b) = 0 ↔ ¬ pm_reach (aj nm fr to tg bits k n ne) a b)) ∧
      (∀ a b, a < 40 → b < 40 → pm_reach (aj nm fr to tg bits k n ne) a b → ∃ d, pm_D (aj nm fr to tg bits k n ne) a b d ∧ st' (40 * a + b) = nI d) ∧ mc_b re' := by
  have hA : ∀ x y, aj nm fr to tg bits k n ne x y → x < n ∧ y < n := fun x y h => aj_lt hf ht hn h
  -- the last loop
  have L4 : ∀ (as' st' : Nat → Int32) (S : Nat → Nat → Nat), ms_S st' S → (∀ a b, S a b ≤ 1000) → ∃ re', fM_close_L224 (fM_close_K224_260 as' st') st' FU 0 re = some (as', re', st') ∧ (∀ a b, a < 40 → b < 40 → (re' (40 * a + b) = 0 ↔ ¬ S a b < 1000)) ∧ mc_b re' := by
    intro as' st' S hS hb
    refine lo_up (σ := Nat → Int32) (fun m i r => fM_close_L224 (fM_close_K224_260 as' st') st' m (nI i) r) (fun i r => (∀ a b, a < 40 → b < 40 → 40 * a + b < i → (r (40 * a + b) = 0 ↔ ¬ S a b < 1000)) ∧ ∀ c, c < i → r c = 0 ∨ r c = 1) (fun r => ∃ re', r = some (as', re', st') ∧ (∀ a b, a < 40 → b < 40 → (re' (40 * a + b) = 0 ↔ ¬ S a b < 1000)) ∧ mc_b re') 1600 ?_ ?_ FU 0 re (Nat.zero_le _) (by rw [FU_eq]; omega) ⟨fun a b _ _ h => by omega, fun c hc => by omega⟩
    · rintro m i r hi ⟨hI, hI0⟩
      have ei : i = 40 * (i / 40) + i % 40 := by omega
      have hd : i / 40 < 40 := by omega
      have hm : i % 40 < 40 := by omega
      have hst : st' i = nI (S (i / 40) (i % 40)) := by
        have q := hS _ _ hd hm
        rw [← ei] at q
        exact q
      have hbb := hb (i / 40) (i % 40)
      refine Or.inr ?_
      show ∃ r', fM_close_L224 _ _ (m + 1) (nI i) r = fM_close_L224 _ _ m (nI (i + 1)) r' ∧ _
      rw [fM_close_L224, if_neg (show ¬ 1600 ≤ nI i by rw [nn_leL (b := 1600) (y := 1600) rfl (by omega) (by omega)]; omega), nn_ck hi (by omega), nn_ck hi (by omega), nn_ck hi (by omega), nn_cl (by omega), hst, nI_1]
      have key : ∀ v : Int32, (v = 0 ↔ ¬ S (i / 40) (i % 40) < 1000) → ∀ a b, a < 40 → b < 40 → 40 * a + b < i + 1 → (upd r i v (40 * a + b) = 0 ↔ ¬ S a b < 1000) := by
        intro v hv a b ha hb' hab
        by_cases e : 40 * a + b = i
        · have e1 : a = i / 40 := by omega
          have e2 : b = i % 40 := by omega
          rw [e, pk_us, hv, e1, e2]
        · rw [pk_un e]; exact hI a b ha hb' (by omega)
      have key0 : ∀ v : Int32, (v = 0 ∨ v = 1) → ∀ c, c < i + 1 → upd r i v c = 0 ∨ upd r i v c = 1 := by
        intro v hv c hc
        by_cases e : c = i
        · rw [e, pk_us]; exact hv
        · rw [pk_un e]; exact hI0 c (by omega)
      by_cases h : S (i / 40) (i % 40) < 1000
      · rw [if_neg (show ¬ 1000 ≤ nI (S (i / 40) (i % 40)) by rw [nn_leL (b := 1000) (y := 1000) rfl (by omega) (by omega)]; omega)]
        refine ⟨_, rfl, key _ ⟨fun q => by rw [ed_nar1] at q; exact absurd q one_ne, fun q => absurd h q⟩, key0 _ (Or.inr rfl)⟩
      · rw [if_pos (show 1000 ≤ nI (S (i / 40) (i % 40)) by rw [nn_leL (b := 1000) (y := 1000) rfl (by omega) (by omega)]; omega)]
        exact ⟨_, rfl, key _ ⟨fun _ => h, fun _ => rfl⟩, key0 _ (Or.inl rfl)⟩
    · rintro m r ⟨hI, hI0⟩
      refine ⟨r, ?_, fun a b ha hb => hI a b ha hb (by omega), hI0⟩
      show fM_close_L224 _ _ (m + 1) (nI 1600) r = _
      rw [fM_close_L224, if_pos (show 1600 ≤ nI 1600 by rw [nn_leL (b := 1600) (y := 1600) rfl (by omega) (by omega)]; omega)]
      rfl
  -- from the rows of direct edges on
  have L3 : ∀ (as' st' : Nat → Int32), (∀ a b, a < 40 → b < 40 → (as' (40 * a + b) = 0 ∧ st' (40 * a + b) = nI 1000 ∧ ¬ aj nm fr to tg bits k n ne a b) ∨ (¬ as' (40 * a + b) = 0 ∧ st' (40 * a + b) = nI 1 ∧ aj nm fr to tg bits k n ne a b)) →
      ∃ re' st'', fM_close_K33_124 (nI n) re as' st' = some (as', re', st'') ∧ (∀ a b, a < 40 → b < 40 → (re' (40 * a + b) = 0 ↔ ¬ pm_reach (aj nm fr to tg bits k n ne) a b)) ∧ (∀ a b, a < 40 → b < 40 → pm_reach (aj nm fr to tg bits k n ne) a b → ∃ d, pm_D (aj nm fr to tg bits k n ne) a b d ∧ st'' (40 * a + b) = nI d) ∧ mc_b re' := by
    intro as' st' h
    obtain ⟨S, hSd⟩ : ∃ S : Nat → Nat → Nat, S = fun a b => if a < 40 ∧ b < 40 then (st' (40 * a + b)).toNatClampNeg else 1000 := ⟨_, rfl⟩
    have hSi : ∀ a b, a < 40 → b < 40 → S a b = (st' (40 * a + b)).toNatClampNeg := fun a b ha hb => by rw [hSd]; exact if_pos ⟨ha, hb⟩
    have hSo : ∀ a b, ¬ (a < 40 ∧ b < 40) → S a b = 1000 := fun a b hab => by rw [hSd]; exact if_neg hab
    have g0 : ms_S st' S := fun a b ha hb => by
      rw [hSi a b ha hb]
      rcases h a b ha hb with ⟨_, q, _⟩ | ⟨_, q, _⟩
      · rw [q, nn_cl (by omega)]
      · rw [q, nn_cl (by omega)]
    have g1 : pm_S1 (aj nm fr to tg bits k n ne) S := fun a b => by
      by_cases hab : a < 40 ∧ b < 40
      · rw [hSi a b hab.1 hab.2]
        rcases h a b hab.1 hab.2 with ⟨_, q, _⟩ | ⟨_, q, q2⟩
        · rw [q, nn_cl (by omega)]; exact ⟨Nat.le_refl _, fun z => by omega⟩
        · rw [q, nn_cl (by omega)]; exact ⟨by omega, fun _ => ⟨Nat.le_refl _, pm_one.mpr q2⟩⟩
      · rw [hSo a b hab]; exact ⟨Nat.le_refl _, fun z => by omega⟩
    have g2 : pm_S2 (aj nm fr to tg bits k n ne) 0 S := fun a b j hw => by
      obtain ⟨rfl, q⟩ := pm_Wi_0 hw
      have hab := hA a b q
      rw [hSi a b (by omega) (by omega)]
      rcases h a b (by omega) (by omega) with ⟨_, _, q3⟩ | ⟨_, q2, _⟩
      · exact absurd q q3
      · rw [q2, nn_cl (by omega)]; exact Nat.le_refl _
    obtain ⟨st'', S', f1, f2, f3, f4⟩ := ms_fw (ρ := Unit) hn hA (fM_close_K126_222 as' re) g0 g1 g2
    obtain ⟨re', f5, f6, f7⟩ := L4 as' st'' S' f2 (fun a b => (f3 a b).1)
    have hdone := pm_fw_done (n := n) (by omega) (fun x y q => (hA x y q).2) f3 f4
    refine ⟨re', st'', ?_, fun a b ha hb => ?_, fun a b ha hb hr => ?_, f7⟩
    · rw [fM_close_K33_124, f1, fM_close_K126_222]; exact f5
    · rw [f6 a b ha hb, (hdone a b).1]; exact Iff.rfl
    · have hlt := (hdone a b).1.mpr hr
      exact ⟨S' a b, (hdone a b).2 hlt, f2 a b ha hb⟩
  -- the edges
  have L2 : ∀ (as0 st0 : Nat → Int32), (∀ a b, a < 40 → b < 40 → as0 (40 * a + b) = 0 ∧ st0 (40 * a + b) = nI 1000) →
      ∃ as' st', fM_close_L33 (fM_close_K33_124 (nI n) re) fr to bits (nI ne) (nI k) tg rk FU 0 as0 st0 = fM_close_K33_124 (nI n) re as' st' ∧ ∀ a b, a < 40 → b < 40 → (as' (40 * a + b) = 0 ∧ st' (40 * a + b) = nI 1000 ∧ ¬ aj nm fr to tg bits k n ne a b) ∨ (¬ as' (40 * a + b) = 0 ∧ st' (40 * a + b) = nI 1 ∧ aj nm fr to tg bits k n ne a b) := by
    intro as0 st0 h0
    refine lo_up (σ := (Nat → Int32) × (Nat → Int32)) (fun m i z => fM_close_L33 (fM_close_K33_124 (nI n) re) fr to bits (nI ne) (nI k) tg rk m (nI i) z.1 z.2) (fun i z => ∀ a b, a < 40 → b < 40 → (z.1 (40 * a + b) = 0 ∧ z.2 (40 * a + b) = nI 1000 ∧ ¬ aj nm fr to tg bits k n i a b) ∨ (¬ z.1 (40 * a + b) = 0 ∧ z.2 (40 * a + b) = nI 1 ∧ aj nm fr to tg bits k n i a b))
      (fun r => ∃ as' st', r = fM_close_K33_124 (nI n) re as' st' ∧ ∀ a b, a < 40 → b < 40 → (as' (40 * a + b) = 0 ∧ st' (40 * a + b) = nI 1000 ∧ ¬ aj nm fr to tg bits k n ne a b) ∨ (¬ as' (40 * a + b) = 0 ∧ st' (40 * a + b) = nI 1 ∧ aj nm fr to tg bits k n ne a b)) ne ?_ ?_ FU 0 (as0, st0) (Nat.zero_le _) (by rw [FU_eq]; omega) (fun a b ha hb => Or.inl ⟨(h0 a b ha hb).1, (h0 a b ha hb).2, fun ⟨e, he, _⟩ => by omega⟩)
    · rintro m i ⟨u, w⟩ hi hI
      have hI : ∀ a b, a < 40 → b < 40 → (u (40 * a + b) = 0 ∧ w (40 * a + b) = nI 1000 ∧ ¬ aj nm fr to tg bits k n i a b) ∨ (¬ u (40 * a + b) = 0 ∧ w (40 * a + b) = nI 1 ∧ aj nm fr to tg bits k n i a b) := hI
      have hone : ∀ r j, aj nm fr to tg bits k n (i + 1) r j ↔ (aj nm fr to tg bits k n i r j ∨ (ac tg bits k i = true ∧ ac_r nm n (fr i) = r ∧ ac_r nm n (to i) = j)) := by
        intro r j
        constructor
        · rintro ⟨e, g1, g2⟩
          rcases Nat.lt_or_ge e i with q | q
          · exact Or.inl ⟨e, q, g2⟩
          · have e1 : e = i := by omega
            subst e1
            exact Or.inr g2
        · rintro (⟨e, g1, g2⟩ | g)
          · exact ⟨e, by omega, g2⟩
          · exact ⟨i, by omega, g⟩
      refine Or.inr ?_
      show ∃ z' : (Nat → Int32) × (Nat → Int32), fM_close_L33 _ _ _ _ _ _ _ _ (m + 1) (nI i) u w = fM_close_L33 _ _ _ _ _ _ _ _ m (nI (i + 1)) z'.1 z'.2 ∧ _
      rw [fM_close_L33, if_neg (by rw [nn_le (by omega) (by omega)]; omega), ac_isThen (show i < 160 by omega) hk, Option.bind_some, nI_1]
      by_cases ha : ac tg bits k i = true
      · obtain ⟨x, hx, ex⟩ := hf i hi
        obtain ⟨y, hy, ey⟩ := ht i hi
        have hrx := ky_r_lt (nm := nm) hx
        have hry := ky_r_lt (nm := nm) hy
        have e1 : ac_r nm n (fr i) = ky_r nm n x := by unfold ac_r; rw [ex, nn_cl (by omega)]
        have e2 : ac_r nm n (to i) = ky_r nm n y := by unfold ac_r; rw [ey, nn_cl (by omega)]
        have hc : 40 * ky_r nm n x + ky_r nm n y < 1600 := by omega
        rw [if_pos ha, if_neg one_ne, nn_ck (show i < 160 by omega) (by omega), nn_cl (show i ≤ 100000 by omega), ex, nn_ck (show x < 40 by omega) (by omega), nn_ck (show i < 160 by omega) (by omega), ey, nn_ck (show y < 40 by omega) (by omega), nn_cl (show x ≤ 100000 by omega), nn_cl (show y ≤ 100000 by omega), hrk x hx, hrk y hy, ms_cell, Option.bind_some, nn_ck hc (by omega), nn_ck (show i < 160 by omega) (by omega), nn_ck (show x < 40 by omega) (by omega), nn_ck (show i < 160 by omega) (by omega), nn_ck (show y < 40 by omega) (by omega), Option.bind_some, nn_ck hc (by omega), nn_cl (by omega)]
        refine ⟨(_, _), rfl, fun a b ha' hb' => ?_⟩
        show (upd u (40 * ky_r nm n x + ky_r nm n y) (vp_nar .boolean 1) (40 * a + b) = 0 ∧ upd w (40 * ky_r nm n x + ky_r nm n y) 1 (40 * a + b) = nI 1000 ∧ _) ∨ (¬ upd u (40 * ky_r nm n x + ky_r nm n y) (vp_nar .boolean 1) (40 * a + b) = 0 ∧ upd w (40 * ky_r nm n x + ky_r nm n y) 1 (40 * a + b) = nI 1 ∧ _)
        by_cases e : 40 * a + b = 40 * ky_r nm n x + ky_r nm n y
        · obtain ⟨rfl, rfl⟩ := ms_c_inj hb' (by omega) e
          rw [pk_us, pk_us]
          exact Or.inr ⟨one_ne, rfl, (hone _ _).mpr (Or.inr ⟨ha, e1, e2⟩)⟩
        · rw [pk_un e, pk_un e]
          rcases hI a b ha' hb' with ⟨q1, q2, q3⟩ | ⟨q1, q2, q3⟩
          · refine Or.inl ⟨q1, q2, fun q => ?_⟩
            rcases (hone a b).mp q with q | ⟨_, z1, z2⟩
            · exact q3 q
            · exact e (by rw [← z1, ← z2, e1, e2])
          · exact Or.inr ⟨q1, q2, (hone a b).mpr (Or.inl q3)⟩
      · rw [if_neg ha, if_pos rfl]
        refine ⟨(u, w), rfl, fun a b ha' hb' => ?_⟩
        rcases hI a b ha' hb' with ⟨q1, q2, q3⟩ | ⟨q1, q2, q3⟩
        · refine Or.inl ⟨q1, q2, fun q => ?_⟩
          rcases (hone a b).mp q with q | ⟨z, _⟩
          · exact q3 q
          · exact ha z
        · exact Or.inr ⟨q1, q2, (hone a b).mpr (Or.inl q3)⟩
    · rintro m ⟨u, w⟩ hI
      refine ⟨u, w, ?_, hI⟩
      show fM_close_L33 _ _ _ _ _ _ _ _ (m + 1) (nI ne) u w = _
      rw [fM_close_L33, if_pos (by rw [nn_le (by omega) (by omega)]; omega)]
  rw [fM_close]
  refine lo_up (σ := (Nat → Int32) × (Nat → Int32)) (fun m i z => fM_close_L2 (fM_close_K2_31 fr to bits (nI n) (nI ne) (nI k) tg rk re) m (nI i) z.1 z.2) (fun i z => ∀ c, c < i → z.1 c = 0 ∧ z.2 c = nI 1000) (fun r => ∃ as' re' st', r = some (as', re', st') ∧ (∀ a b, a < 40 → b < 40 → (as' (40 * a + b) = 0 ↔ ¬ aj nm fr to tg bits k n ne a b)) ∧ (∀ a b, a < 40 → b < 40 → (re' (40 * a + b) = 0 ↔ ¬ pm_reach (aj nm fr to tg bits k n ne) a b)) ∧
      (∀ a b, a < 40 → b < 40 → pm_reach (aj nm fr to tg bits k n ne) a b → ∃ d, pm_D (aj nm fr to tg bits k n ne) a b d ∧ st' (40 * a + b) = nI d) ∧ mc_b re') 1600 ?_ ?_ FU 0 (as, st) (Nat.zero_le _) (by rw [FU_eq]; omega) (fun c hc => by omega)
  · rintro m i ⟨u, w⟩ hi hI
    have hI : ∀ c, c < i → u c = 0 ∧ w c = nI 1000 := hI
    refine Or.inr ⟨(upd u i (vp_nar .boolean 0), upd w i 1000), ?_, fun c hc => ?_⟩
    · show fM_close_L2 _ (m + 1) (nI i) u w = fM_close_L2 _ m (nI (i + 1)) _ _
      rw [fM_close_L2, if_neg (show ¬ 1600 ≤ nI i by rw [nn_leL (b := 1600) (y := 1600) rfl (by omega) (by omega)]; omega), nn_ck hi (by omega), nn_ck hi (by omega), nn_cl (by omega), nI_1]
    · show upd u i (vp_nar .boolean 0) c = 0 ∧ upd w i 1000 c = nI 1000
      by_cases e : c = i
      · subst e; rw [pk_us, pk_us]; exact ⟨rfl, rfl⟩
      · rw [pk_un e, pk_un e]; exact hI c (by omega)
  · rintro m ⟨u, w⟩ hI
    have hI : ∀ c, c < 1600 → u c = 0 ∧ w c = nI 1000 := hI
    obtain ⟨as', st', f1, f2⟩ := L2 u w (fun a b ha hb => hI _ (by omega))
    obtain ⟨re', st'', f3, f4, f5, f6⟩ := L3 as' st' f2
    refine ⟨as', re', st'', ?_, fun a b ha hb => ?_, f4, f5, f6⟩
    · show fM_close_L2 _ (m + 1) (nI 1600) u w = _
      rw [fM_close_L2, if_pos (show 1600 ≤ nI 1600 by rw [nn_leL (b := 1600) (y := 1600) rfl (by omega) (by omega)]; omega), fM_close_K2_31, f1]
      exact f3
    · rcases f2 a b ha hb with ⟨q1, _, q3⟩ | ⟨q1, _, q3⟩
      · exact ⟨fun _ => q3, fun _ => q1⟩
      · exact ⟨fun q => absurd q q1, fun q => absurd q3 q⟩
