-- parts and shortest rings in the reference
theorem mp_tog {A : Nat → Nat → Prop} {a b : Nat} {re : Nat → Int32} (ha : a < 40) (hb : b < 40) (hab : a ≠ b) (hre : ∀ a b, a < 40 → b < 40 → (re (40 * a + b) = 0 ↔ ¬ pm_reach A a b)) :
    (fM_isTogether re (nI a) (nI b) = some 1 ∧ pm_tog A b a) ∨ (fM_isTogether re (nI a) (nI b) = some 0 ∧ ¬ pm_tog A b a) := by
  rw [fM_isTogether, if_neg (by rw [nn_eq (by omega) (by omega)]; exact hab), ms_cell, Option.bind_some, nn_ck (show 40 * a + b < 1600 by omega) (by omega), nn_cl (by omega)]
  by_cases h1 : re (40 * a + b) = 0
  · rw [if_pos h1]
    refine Or.inr ⟨rfl, ?_⟩
    rintro (q | q)
    · exact hab q.symm
    · exact (hre a b ha hb).mp h1 q.2
  · rw [if_neg h1, ms_cell, Option.bind_some, nn_ck (show 40 * b + a < 1600 by omega) (by omega), nn_cl (by omega)]
    by_cases h2 : re (40 * b + a) = 0
    · rw [if_pos h2]
      refine Or.inr ⟨rfl, ?_⟩
      rintro (q | q)
      · exact hab q.symm
      · exact (hre b a hb ha).mp h2 q.1
    · rw [if_neg h2]
      refine Or.inl ⟨rfl, Or.inr ⟨?_, ?_⟩⟩
      · exact Classical.byContradiction fun q => h2 ((hre b a hb ha).mpr q)
      · exact Classical.byContradiction fun q => h1 ((hre a b ha hb).mpr q)
/-- what stands of rank a: its shortest ring -/
def mp_s (A : Nat → Nat → Prop) (a s : Nat) : Prop := (s = 0 ∧ ¬ pm_reach A a a) ∨ pm_D A a a s
theorem mp_s_un {A : Nat → Nat → Prop} {a s t : Nat} (h : mp_s A a s) (h2 : mp_s A a t) : s = t := by
  rcases h with ⟨e, h⟩ | h
  · rcases h2 with ⟨e2, _⟩ | h2
    · omega
    · exact absurd ⟨t, h2.1, h2.2.1⟩ h
  · rcases h2 with ⟨_, h2⟩ | h2
    · exact absurd ⟨s, h.1, h.2.1⟩ h2
    · exact pm_D_un h h2
theorem mp_s_le {A : Nat → Nat → Prop} {n a s : Nat} (hA : ∀ x y, A x y → x < n ∧ y < n) (h : mp_s A a s) : s ≤ n := by
  rcases h with ⟨e, _⟩ | h
  · omega
  · exact pm_D_le (fun x y q => (hA x y q).2) h
theorem mp_cut {A : Nat → Nat → Prop} {n : Nat} {pa sh re st : Nat → Int32} {ps : Int32} (hn : n ≤ 40) (hre : ∀ a b, a < 40 → b < 40 → (re (40 * a + b) = 0 ↔ ¬ pm_reach A a b)) (hst : ∀ a b, a < 40 → b < 40 → pm_reach A a b → ∃ d, pm_D A a b d ∧ st (40 * a + b) = nI d) :
    ∃ pa' sh', fM_cutIntoParts (nI n) pa sh re st ps = some (pa', sh', nI (pt_c A n)) ∧ (∀ a, a < n → ∃ p, pa' a = nI p ∧ pt_p A a p) ∧ ∀ a, a < n → ∃ s, sh' a = nI s ∧ mp_s A a s := by
  rw [fM_cutIntoParts]
  -- the inner loop: the part of the first one that is together with a
  have L1 : ∀ (a : Nat), a < n → ∀ (pa : Nat → Int32), (∀ b, b < a → ∃ p, pa b = nI p ∧ p ≤ 40 ∧ pt_p A b p) → ∀ (kk : Int32 → Option ((Nat → Int32) × (Nat → Int32) × Int32)),
      (fM_cutIntoParts_L19 kk pa re (nI a) FU (-1) 0 = kk (-1) ∧ pt_f A a) ∨ ∃ p, fM_cutIntoParts_L19 kk pa re (nI a) FU (-1) 0 = kk (nI p) ∧ p ≤ 40 ∧ pt_p A a p ∧ ¬ pt_f A a := by
    intro a ha pa hpa kk
    have hstop : ∀ (m i p : Nat), p ≤ 40 → i ≤ a → fM_cutIntoParts_L19 kk pa re (nI a) (m + 1) (nI p) (nI i) = kk (nI p) := by
      intro m i p hp hi
      rw [fM_cutIntoParts_L19]
      by_cases e : a ≤ i
      · rw [if_pos (by rw [nn_le (by omega) (by omega)]; exact e)]
      · rw [if_neg (by rw [nn_le (by omega) (by omega)]; exact e), if_neg (nn_m1 (by omega))]
    refine lo_up (σ := Unit) (fun m i _ => fM_cutIntoParts_L19 kk pa re (nI a) (m + 1) (-1) (nI i)) (fun i _ => ∀ y, y < i → ¬ pm_tog A y a) (fun r => (r = kk (-1) ∧ pt_f A a) ∨ ∃ p, r = kk (nI p) ∧ p ≤ 40 ∧ pt_p A a p ∧ ¬ pt_f A a) a ?_ ?_ 99999 0 () (Nat.zero_le _) (by omega) (fun y hy => by omega) |> fun h => by
        have e : FU = 99999 + 1 := FU_eq
        rw [e]
        exact h
    · intro m i _ hi hI
      have hI : ∀ y, y < i → ¬ pm_tog A y a := hI
      show ((fM_cutIntoParts_L19 _ _ _ _ (m + 1 + 1) (-1) (nI i) = _ ∧ _) ∨ _) ∨ ∃ _, fM_cutIntoParts_L19 _ _ _ _ (m + 1 + 1) (-1) (nI i) = fM_cutIntoParts_L19 _ _ _ _ (m + 1) (-1) (nI (i + 1)) ∧ _
      rw [fM_cutIntoParts_L19, if_neg (by rw [nn_le (by omega) (by omega)]; omega), if_pos rfl]
      rcases mp_tog (show a < 40 by omega) (show i < 40 by omega) (by omega) hre with ⟨h1, h2⟩ | ⟨h1, h2⟩
      · obtain ⟨p, p1, p2, p3⟩ := hpa i hi
        rw [h1, Option.bind_some, if_neg one_ne, nn_ck (show i < 40 by omega) (by omega), nn_cl (by omega), p1, nI_1, hstop m (i + 1) p p2 (by omega)]
        refine Or.inl (Or.inr ⟨p, rfl, p2, ?_, fun q => q i hi h2⟩)
        have hfi := pt_least h2 hI
        obtain ⟨f, b1, b2, b3, b4⟩ := p3
        have := pt_un b2 b3 hfi (Or.inl rfl)
        subst this
        exact ⟨f, by omega, b2, h2, b4⟩
      · rw [h1, Option.bind_some, if_pos rfl, nI_1]
        refine Or.inr ⟨(), rfl, fun y hy => ?_⟩
        rcases Nat.lt_or_ge y i with q | q
        · exact hI y q
        · have e : y = i := by omega
          subst e
          exact h2
    · intro m _ hI
      refine Or.inl ⟨?_, hI⟩
      show fM_cutIntoParts_L19 _ _ _ _ (m + 1 + 1) (-1) (nI a) = _
      rw [fM_cutIntoParts_L19, if_pos (by rw [nn_le (by omega) (by omega)]; omega)]
  refine lo_up (σ := (Nat → Int32) × (Nat → Int32)) (fun m i z => fM_cutIntoParts_L7 fM_cutIntoParts_K7_132 (nI n) re st m (nI i) z.1 z.2 (nI (pt_c A i))) (fun i z => (∀ a, a < i → ∃ p, z.1 a = nI p ∧ p ≤ 40 ∧ pt_p A a p) ∧ ∀ a, a < i → ∃ s, z.2 a = nI s ∧ mp_s A a s)
    (fun r => ∃ pa' sh', r = some (pa', sh', nI (pt_c A n)) ∧ (∀ a, a < n → ∃ p, pa' a = nI p ∧ pt_p A a p) ∧ ∀ a, a < n → ∃ s, sh' a = nI s ∧ mp_s A a s) n ?_ ?_ FU 0 (pa, sh) (Nat.zero_le _) (by rw [FU_eq]; omega) ⟨fun a ha => by omega, fun a ha => by omega⟩
  · rintro m i ⟨u, w⟩ hi ⟨hI1, hI2⟩
    have hI1 : ∀ a, a < i → ∃ p, u a = nI p ∧ p ≤ 40 ∧ pt_p A a p := hI1
    have hI2 : ∀ a, a < i → ∃ s, w a = nI s ∧ mp_s A a s := hI2
    have hci := pt_c_le (A := A) i
    -- behind the number: the shortest ring
    have J : ∀ (u' : Nat → Int32) (x : Int32) (y : Int32) (kk : Int32 → (Nat → Int32) → (Nat → Int32) → Int32 → Option ((Nat → Int32) × (Nat → Int32) × Int32)), ∃ s, fM_cutIntoParts_J89 kk u' w re st (nI i) x y = kk (nI (i + 1)) u' (upd w i (nI s)) (x + y) ∧ mp_s A i s := by
      intro u' x y kk
      rw [fM_cutIntoParts_J89, ms_cell, Option.bind_some, nn_ck (show 40 * i + i < 1600 by omega) (by omega), nn_cl (show 40 * i + i ≤ 100000 by omega)]
      by_cases h : re (40 * i + i) = 0
      · rw [if_pos h, nn_ck (show i < 40 by omega) (by omega), nn_cl (show i ≤ 100000 by omega), nI_1]
        exact ⟨0, rfl, Or.inl ⟨rfl, (hre i i (by omega) (by omega)).mp h⟩⟩
      · have hr : pm_reach A i i := Classical.byContradiction fun q => h ((hre i i (by omega) (by omega)).mpr q)
        obtain ⟨d, d1, d2⟩ := hst i i (by omega) (by omega) hr
        rw [if_neg h, Option.bind_some, nn_ck (show 40 * i + i < 1600 by omega) (by omega), nn_ck (show i < 40 by omega) (by omega), nn_cl (show i ≤ 100000 by omega), nn_cl (show 40 * i + i ≤ 100000 by omega), d2, nI_1]
        exact ⟨d, rfl, Or.inr d1⟩
    have fin : ∀ (p s : Nat), p ≤ 40 → pt_p A i p → mp_s A i s → (∀ a, a < i + 1 → ∃ q, upd u i (nI p) a = nI q ∧ q ≤ 40 ∧ pt_p A a q) ∧ ∀ a, a < i + 1 → ∃ q, upd w i (nI s) a = nI q ∧ mp_s A a q := by
      intro p s hp hpp hs
      refine ⟨fun a ha => ?_, fun a ha => ?_⟩
      · by_cases e : a = i
        · subst e; exact ⟨p, pk_us, hp, hpp⟩
        · rw [pk_un e]; exact hI1 a (by omega)
      · by_cases e : a = i
        · subst e; exact ⟨s, pk_us, hs⟩
        · rw [pk_un e]; exact hI2 a (by omega)
    refine Or.inr ?_
    show ∃ z' : (Nat → Int32) × (Nat → Int32), fM_cutIntoParts_L7 _ _ _ _ (m + 1) (nI i) u w (nI (pt_c A i)) = fM_cutIntoParts_L7 _ _ _ _ m (nI (i + 1)) z'.1 z'.2 (nI (pt_c A (i + 1))) ∧ _
    rw [fM_cutIntoParts_L7, if_neg (by rw [nn_le (by omega) (by omega)]; omega)]
    rcases L1 i hi u hI1 (fM_cutIntoParts_K19_55 (fun a0 a1 a2 a3 => fM_cutIntoParts_L7 fM_cutIntoParts_K7_132 (nI n) re st m a0 a1 a2 a3) u w re st (nI (pt_c A i)) (nI i)) with ⟨h1, h2⟩ | ⟨p, h1, h2, h3, h4⟩
    · rw [h1, fM_cutIntoParts_K19_55, if_pos rfl, fM_cutIntoParts_J73, nn_ck (show i < 40 by omega) (by omega), nn_cl (show i ≤ 100000 by omega), if_pos rfl]
      obtain ⟨s, s1, s2⟩ := J (upd u i (nI (pt_c A i))) (nI (pt_c A i)) 1 (fun a0 a1 a2 a3 => fM_cutIntoParts_L7 fM_cutIntoParts_K7_132 (nI n) re st m a0 a1 a2 a3)
      rw [s1, nI_1, ← pt_c_y h2]
      exact ⟨(_, _), rfl, fin _ s (by omega) ⟨i, Nat.le_refl _, h2, Or.inl rfl, rfl⟩ s2⟩
    · rw [h1, fM_cutIntoParts_K19_55, if_neg (nn_m1 (by omega)), fM_cutIntoParts_J73, nn_ck (show i < 40 by omega) (by omega), nn_cl (show i ≤ 100000 by omega), if_neg (nn_m1 (by omega))]
      obtain ⟨s, s1, s2⟩ := J (upd u i (nI p)) (nI (pt_c A i)) 0 (fun a0 a1 a2 a3 => fM_cutIntoParts_L7 fM_cutIntoParts_K7_132 (nI n) re st m a0 a1 a2 a3)
      rw [s1, ms_i0, pt_c_n h4]
      exact ⟨(_, _), rfl, fin p s h2 h3 s2⟩
  · rintro m ⟨u, w⟩ ⟨hI1, hI2⟩
    have hI1 : ∀ a, a < n → ∃ p, u a = nI p ∧ p ≤ 40 ∧ pt_p A a p := hI1
    refine ⟨u, w, ?_, fun a ha => ?_, hI2⟩
    · show fM_cutIntoParts_L7 _ _ _ _ (m + 1) (nI n) u w (nI (pt_c A n)) = _
      rw [fM_cutIntoParts_L7, if_pos (by rw [nn_le (by omega) (by omega)]; omega)]
      rfl
    · obtain ⟨p, p1, _, p3⟩ := hI1 a ha
      exact ⟨p, p1, p3⟩
