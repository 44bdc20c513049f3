-- what a key is: the class's rows
/-- the state of rank a: 2 it lies in a ring, 1 it reaches one that does, else 0 -/
def tk_s (A : Nat → Nat → Prop) (n a s : Nat) : Prop := (s = 2 ∧ pm_reach A a a) ∨ (s = 1 ∧ ¬ pm_reach A a a ∧ ∃ b, b < n ∧ pm_reach A a b ∧ pm_reach A b b) ∨ (s = 0 ∧ ¬ pm_reach A a a ∧ ¬ ∃ b, b < n ∧ pm_reach A a b ∧ pm_reach A b b)
theorem tk_pos {A : Nat → Nat → Prop} {a s : Nat} (h : mp_s A a s) : 0 < s ↔ pm_reach A a a := by
  rcases h with ⟨e, h⟩ | h
  · exact ⟨fun q => by omega, fun q => absurd q h⟩
  · exact ⟨fun _ => ⟨s, h.1, h.2.1⟩, fun _ => h.1⟩
theorem tk_reaches {A : Nat → Nat → Prop} {n a : Nat} {rd : Nat → Int64} {sh : Nat → Int32} (hn : n ≤ 40) (ha : a < n) (hA : ∀ x y, A x y → x < n ∧ y < n) (hrd : ∀ r, r < n → ∀ j, mk_t (rd r) j = true ↔ pm_reach A r j) (hsh : ∀ r, r < n → ∃ s, sh r = nI s ∧ mp_s A r s) :
    (fR_reachesRinged (nI n) rd sh (nI a) = some 1 ∧ ∃ b, b < n ∧ pm_reach A a b ∧ pm_reach A b b) ∨ (fR_reachesRinged (nI n) rd sh (nI a) = some 0 ∧ ¬ ∃ b, b < n ∧ pm_reach A a b ∧ pm_reach A b b) := by
  rw [fR_reachesRinged]
  refine lo_up (σ := Unit) (fun m i _ => fR_reachesRinged_L2 fR_reachesRinged_K2_40 (nI n) rd sh (nI a) m (nI i)) (fun i _ => ¬ ∃ b, b < i ∧ pm_reach A a b ∧ pm_reach A b b) (fun r => (r = some 1 ∧ ∃ b, b < n ∧ pm_reach A a b ∧ pm_reach A b b) ∨ (r = some 0 ∧ ¬ ∃ b, b < n ∧ pm_reach A a b ∧ pm_reach A b b)) n ?_ ?_ FU 0 () (Nat.zero_le _) (by rw [FU_eq]; omega) (fun ⟨b, h, _⟩ => by omega)
  · intro m i _ hi hI
    have hI : ¬ ∃ b, b < i ∧ pm_reach A a b ∧ pm_reach A b b := hI
    show ((fR_reachesRinged_L2 _ _ _ _ _ (m + 1) (nI i) = some 1 ∧ _) ∨ (fR_reachesRinged_L2 _ _ _ _ _ (m + 1) (nI i) = some 0 ∧ _)) ∨ ∃ _, fR_reachesRinged_L2 _ _ _ _ _ (m + 1) (nI i) = fR_reachesRinged_L2 _ _ _ _ _ m (nI (i + 1)) ∧ ¬ ∃ b, b < i + 1 ∧ pm_reach A a b ∧ pm_reach A b b
    obtain ⟨s, s1, s2⟩ := hsh i hi
    have hsl := mp_s_le hA s2
    have hnext : ¬ (pm_reach A a i ∧ pm_reach A i i) → ¬ ∃ b, b < i + 1 ∧ pm_reach A a b ∧ pm_reach A b b := by
      rintro h ⟨b, h1, h2⟩
      rcases Nat.lt_or_ge b i with q | q
      · exact hI ⟨b, q, h2⟩
      · have e : b = i := by omega
        subst e
        exact h h2
    rw [fR_reachesRinged_L2, if_neg (by rw [nn_le (by omega) (by omega)]; omega), nn_ck (show i < 40 by omega) (by omega), nn_cl (show i ≤ 100000 by omega), s1]
    by_cases h0 : s = 0
    · subst h0
      rw [if_pos (by decide), nI_1]
      refine Or.inr ⟨(), rfl, hnext fun q => ?_⟩
      have := (tk_pos s2).mpr q.2
      omega
    · rw [if_neg (show ¬ nI s ≤ 0 by rw [nn_leR (b := 0) (y := 0) rfl (by omega) (by omega)]; omega), nn_ck (show a < 40 by omega) (by omega), nn_cl (show a ≤ 100000 by omega), rc_contains (show i < 64 by omega), Option.bind_some]
      by_cases h1 : mk_t (rd a) i = true
      · rw [if_pos h1, if_neg one_ne]
        exact Or.inl (Or.inl ⟨rfl, i, hi, (hrd a ha i).mp h1, (tk_pos s2).mp (by omega)⟩)
      · rw [if_neg h1, if_pos rfl, nI_1]
        exact Or.inr ⟨(), rfl, hnext fun q => h1 ((hrd a ha i).mpr q.1)⟩
  · intro m _ hI
    refine Or.inr ⟨?_, hI⟩
    show fR_reachesRinged_L2 _ _ _ _ _ (m + 1) (nI n) = _
    rw [fR_reachesRinged_L2, if_pos (by rw [nn_le (by omega) (by omega)]; omega)]
    rfl
theorem tk_short {n a : Nat} {sh : Nat → Int32} (hn : n ≤ 40) (ha : a < n) : fR_shortestRing sh (nI a) = some (sh a) := by
  rw [fR_shortestRing, nn_ck (show a < 40 by omega) (by omega), nn_cl (by omega)]
theorem tk_tell {A : Nat → Nat → Prop} {n : Nat} {rd : Nat → Int64} {sh nm br so lo : Nat → Int32} (hn : n ≤ 40) (hA : ∀ x y, A x y → x < n ∧ y < n) (hd : ∀ i j, i < n → j < n → nm i = nm j → i = j) (hb : pt_br n nm br) (hrd : ∀ r, r < n → ∀ j, mk_t (rd r) j = true ↔ pm_reach A r j) (hsh : ∀ r, r < n → ∃ s, sh r = nI s ∧ mp_s A r s) :
    ∃ so' lo', fT_tellKeys br (nI n) rd sh so lo (nI n) = some (so', lo') ∧ (∀ j, j < n → ∃ s, so' j = nI s ∧ tk_s A n (ky_r nm n j) s) ∧ ∀ j, j < n → ∃ s, lo' j = nI s ∧ mp_s A (ky_r nm n j) s := by
  rw [fT_tellKeys]
  refine lo_up (σ := (Nat → Int32) × (Nat → Int32)) (fun m i z => fT_tellKeys_L2 fT_tellKeys_K2_77 br (nI n) rd sh (nI n) m (nI i) z.1 z.2) (fun i z => (∀ j, j < n → ky_r nm n j < i → ∃ s, z.1 j = nI s ∧ tk_s A n (ky_r nm n j) s) ∧ ∀ j, j < n → ky_r nm n j < i → ∃ s, z.2 j = nI s ∧ mp_s A (ky_r nm n j) s)
    (fun r => ∃ so' lo', r = some (so', lo') ∧ (∀ j, j < n → ∃ s, so' j = nI s ∧ tk_s A n (ky_r nm n j) s) ∧ ∀ j, j < n → ∃ s, lo' j = nI s ∧ mp_s A (ky_r nm n j) s) n ?_ ?_ FU 0 (so, lo) (Nat.zero_le _) (by rw [FU_eq]; omega) ⟨fun j _ h => by omega, fun j _ h => by omega⟩
  · rintro m i ⟨u, w⟩ hi ⟨hI1, hI2⟩
    have hI1 : ∀ j, j < n → ky_r nm n j < i → ∃ s, u j = nI s ∧ tk_s A n (ky_r nm n j) s := hI1
    have hI2 : ∀ j, j < n → ky_r nm n j < i → ∃ s, w j = nI s ∧ mp_s A (ky_r nm n j) s := hI2
    obtain ⟨j, hj, e1, e2⟩ := pt_br_of hd hb hi
    obtain ⟨s, s1, s2⟩ := hsh i hi
    have hsl := mp_s_le hA s2
    have key : ∀ (t : Nat), tk_s A n i t → (∀ j', j' < n → ky_r nm n j' < i + 1 → ∃ s, upd u j (nI t) j' = nI s ∧ tk_s A n (ky_r nm n j') s) ∧ ∀ j', j' < n → ky_r nm n j' < i + 1 → ∃ s', upd w j (nI s) j' = nI s' ∧ mp_s A (ky_r nm n j') s' := by
      intro t ht
      refine ⟨fun j' hj' hlt => ?_, fun j' hj' hlt => ?_⟩
      · by_cases e : j' = j
        · subst e; exact ⟨t, pk_us, by rw [e2]; exact ht⟩
        · rw [pk_un e]
          refine hI1 j' hj' ?_
          rcases Nat.lt_or_ge (ky_r nm n j') i with q | q
          · exact q
          · exact absurd (ky_r_inj hd hj' hj (by omega)) e
      · by_cases e : j' = j
        · subst e; exact ⟨s, pk_us, by rw [e2]; exact s2⟩
        · rw [pk_un e]
          refine hI2 j' hj' ?_
          rcases Nat.lt_or_ge (ky_r nm n j') i with q | q
          · exact q
          · exact absurd (ky_r_inj hd hj' hj (by omega)) e
    refine Or.inr ?_
    show ∃ z' : (Nat → Int32) × (Nat → Int32), fT_tellKeys_L2 _ _ _ _ _ _ (m + 1) (nI i) u w = fT_tellKeys_L2 _ _ _ _ _ _ m (nI (i + 1)) z'.1 z'.2 ∧ _
    rw [fT_tellKeys_L2, if_neg (by rw [nn_le (by omega) (by omega)]; omega), nn_ck (show i < 40 by omega) (by omega), tk_short hn hi, Option.bind_some, nn_cl (show i ≤ 100000 by omega), e1, nn_ck (show j < 40 by omega) (by omega), nn_ck (show j < 40 by omega) (by omega), nn_cl (show j ≤ 100000 by omega), pk_us, s1]
    by_cases h0 : s = 0
    · have hnr : ¬ pm_reach A i i := fun q => by
        have := (tk_pos s2).mpr q
        omega
      rw [if_pos (show nI s ≤ 0 by rw [nn_leR (b := 0) (y := 0) rfl (by omega) (by omega)]; omega)]
      rcases tk_reaches hn hi hA hrd hsh with ⟨h1, h2⟩ | ⟨h1, h2⟩
      · rw [h1, Option.bind_some, if_neg one_ne, nn_ck (show j < 40 by omega) (by omega), nI_1]
        exact ⟨(_, _), rfl, key 1 (Or.inr (Or.inl ⟨rfl, hnr, h2⟩))⟩
      · rw [h1, Option.bind_some, if_pos rfl, nn_ck (show j < 40 by omega) (by omega), nI_1]
        exact ⟨(_, _), rfl, key 0 (Or.inr (Or.inr ⟨rfl, hnr, h2⟩))⟩
    · rw [if_neg (show ¬ nI s ≤ 0 by rw [nn_leR (b := 0) (y := 0) rfl (by omega) (by omega)]; omega), nn_ck (show j < 40 by omega) (by omega), nI_1]
      exact ⟨(_, _), rfl, key 2 (Or.inl ⟨rfl, (tk_pos s2).mp (by omega)⟩)⟩
  · rintro m ⟨u, w⟩ ⟨hI1, hI2⟩
    refine ⟨u, w, ?_, fun j hj => hI1 j hj (ky_r_lt hj), fun j hj => hI2 j hj (ky_r_lt hj)⟩
    show fT_tellKeys_L2 _ _ _ _ _ _ (m + 1) (nI n) u w = _
    rw [fT_tellKeys_L2, if_pos (by rw [nn_le (by omega) (by omega)]; omega)]
    rfl
