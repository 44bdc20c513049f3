-- parts: numbered by their first ranks, in the class and in the reference
def pt_f (A : Nat → Nat → Prop) (x : Nat) : Prop := ∀ y, y < x → ¬ pm_tog A y x
noncomputable def pt_c (A : Nat → Nat → Prop) : Nat → Nat
  | 0 => 0
  | r + 1 => pt_c A r + @ite Nat (pt_f A r) (Classical.propDecidable _) 1 0
theorem pt_c_y {A : Nat → Nat → Prop} {r : Nat} (h : pt_f A r) : pt_c A (r + 1) = pt_c A r + 1 := by
  show pt_c A r + @ite Nat (pt_f A r) (Classical.propDecidable _) 1 0 = _
  rw [if_pos h]
theorem pt_c_n {A : Nat → Nat → Prop} {r : Nat} (h : ¬ pt_f A r) : pt_c A (r + 1) = pt_c A r := by
  show pt_c A r + @ite Nat (pt_f A r) (Classical.propDecidable _) 1 0 = _
  rw [if_neg h]
  rfl
theorem pt_c_le {A : Nat → Nat → Prop} : ∀ r, pt_c A r ≤ r
  | 0 => Nat.le_refl _
  | r + 1 => by
    have := pt_c_le (A := A) r
    by_cases h : pt_f A r
    · rw [pt_c_y h]; omega
    · rw [pt_c_n h]; omega
theorem pt_c_mono {A : Nat → Nat → Prop} {x : Nat} : ∀ y, x ≤ y → pt_c A x ≤ pt_c A y
  | 0, h => by have e : x = 0 := by omega
               subst e; exact Nat.le_refl _
  | y + 1, h => by
    rcases Nat.lt_or_ge y x with q | q
    · have e : x = y + 1 := by omega
      subst e; exact Nat.le_refl _
    · have := pt_c_mono (A := A) (x := x) y q
      by_cases hh : pt_f A y
      · rw [pt_c_y hh]; omega
      · rw [pt_c_n hh]; omega
/-- two first ones with the same number are the same -/
theorem pt_c_inj {A : Nat → Nat → Prop} {x y : Nat} (hx : pt_f A x) (hy : pt_f A y) (h : pt_c A x = pt_c A y) : x = y := by
  rcases Nat.lt_trichotomy x y with q | q | q
  · have h1 := pt_c_mono (A := A) (x := x + 1) y q
    rw [pt_c_y hx] at h1
    omega
  · exact q
  · have h1 := pt_c_mono (A := A) (x := y + 1) x q
    rw [pt_c_y hy] at h1
    omega
theorem pt_un {A : Nat → Nat → Prop} {f g r : Nat} (h1 : pt_f A f) (h2 : pm_tog A f r) (h3 : pt_f A g) (h4 : pm_tog A g r) : f = g := by
  rcases Nat.lt_trichotomy f g with q | q | q
  · exact absurd (pm_tog_tr h2 (pm_tog_sy h4)) (h3 f q)
  · exact q
  · exact absurd (pm_tog_tr h4 (pm_tog_sy h2)) (h1 g q)
/-- the least one together with r is a first one -/
theorem pt_least {A : Nat → Nat → Prop} {f r : Nat} (h : pm_tog A f r) (hl : ∀ y, y < f → ¬ pm_tog A y r) : pt_f A f := fun y hy ht => hl y hy (pm_tog_tr ht h)
/-- p is the number of r's part -/
def pt_p (A : Nat → Nat → Prop) (r p : Nat) : Prop := ∃ f, f ≤ r ∧ pt_f A f ∧ pm_tog A f r ∧ p = pt_c A f
theorem pt_p_un {A : Nat → Nat → Prop} {r p q : Nat} (h : pt_p A r p) (h2 : pt_p A r q) : p = q := by
  obtain ⟨f, _, a1, a2, rfl⟩ := h
  obtain ⟨g, _, b1, b2, rfl⟩ := h2
  rw [pt_un a1 a2 b1 b2]
-- the class
theorem pt_each {A : Nat → Nat → Prop} {n x y : Nat} {rd : Nat → Int64} (hn : n ≤ 40) (hx : x < n) (hy : y < n) (hrd : ∀ r, r < n → ∀ j, mk_t (rd r) j = true ↔ pm_reach A r j) :
    (fR_reachEachOther rd (nI x) (nI y) = some 1 ∧ pm_reach A x y ∧ pm_reach A y x) ∨ (fR_reachEachOther rd (nI x) (nI y) = some 0 ∧ ¬ (pm_reach A x y ∧ pm_reach A y x)) := by
  rw [fR_reachEachOther, nn_ck (show x < 40 by omega) (by omega), nn_cl (by omega), rc_contains (show y < 64 by omega), Option.bind_some]
  by_cases h1 : mk_t (rd x) y = true
  · rw [if_pos h1, if_neg one_ne, nn_ck (show y < 40 by omega) (by omega), nn_cl (by omega), rc_contains (show x < 64 by omega), Option.bind_some]
    by_cases h2 : mk_t (rd y) x = true
    · rw [if_pos h2, if_neg one_ne]
      exact Or.inl ⟨rfl, (hrd x hx y).mp h1, (hrd y hy x).mp h2⟩
    · rw [if_neg h2, if_pos rfl]
      exact Or.inr ⟨rfl, fun q => h2 ((hrd y hy x).mpr q.2)⟩
  · rw [if_neg h1, if_pos rfl]
    exact Or.inr ⟨rfl, fun q => h1 ((hrd x hx y).mpr q.1)⟩
theorem pt_first {A : Nat → Nat → Prop} {n r : Nat} {rd : Nat → Int64} (hn : n ≤ 40) (hr : r < n) (hrd : ∀ r, r < n → ∀ j, mk_t (rd r) j = true ↔ pm_reach A r j) :
    ∃ f, fT_firstOfPart rd (nI r) = some (nI f) ∧ f ≤ r ∧ pt_f A f ∧ pm_tog A f r := by
  rw [fT_firstOfPart]
  refine lo_up (σ := Unit) (fun m i _ => fT_firstOfPart_L2 (fT_firstOfPart_K2_24 (nI r)) rd (nI r) m (nI i)) (fun i _ => ∀ y, y < i → ¬ pm_tog A y r) (fun z => ∃ f, z = some (nI f) ∧ f ≤ r ∧ pt_f A f ∧ pm_tog A f r) r ?_ ?_ FU 0 () (Nat.zero_le _) (by rw [FU_eq]; omega) (fun y hy => by omega)
  · intro m i _ hi hI
    have hI : ∀ y, y < i → ¬ pm_tog A y r := hI
    show (∃ f, fT_firstOfPart_L2 _ _ _ (m + 1) (nI i) = some (nI f) ∧ _) ∨ ∃ _, fT_firstOfPart_L2 _ _ _ (m + 1) (nI i) = fT_firstOfPart_L2 _ _ _ m (nI (i + 1)) ∧ _
    rw [fT_firstOfPart_L2, if_neg (by rw [nn_le (by omega) (by omega)]; omega)]
    rcases pt_each hn (show i < n by omega) hr hrd with ⟨h1, h2⟩ | ⟨h1, h2⟩
    · rw [h1, Option.bind_some, if_neg one_ne]
      have ht : pm_tog A i r := Or.inr h2
      exact Or.inl ⟨i, rfl, by omega, pt_least ht hI, ht⟩
    · rw [h1, Option.bind_some, if_pos rfl, nI_1]
      refine Or.inr ⟨(), rfl, fun y hy => ?_⟩
      rcases Nat.lt_or_ge y i with q | q
      · exact hI y q
      · have e : y = i := by omega
        subst e
        rintro (h | h)
        · omega
        · exact h2 h
  · intro m _ hI
    refine ⟨r, ?_, Nat.le_refl _, hI, Or.inl rfl⟩
    show fT_firstOfPart_L2 _ _ _ (m + 1) (nI r) = _
    rw [fT_firstOfPart_L2, if_pos (by rw [nn_le (by omega) (by omega)]; omega)]
    rfl
/-- keys by rank -/
def pt_br (n : Nat) (nm br : Nat → Int32) : Prop := ∀ j, j < n → br (ky_r nm n j) = nI j
theorem pt_br_of {n r : Nat} {nm br : Nat → Int32} (hd : ∀ i j, i < n → j < n → nm i = nm j → i = j) (hb : pt_br n nm br) (hr : r < n) : ∃ j, j < n ∧ br r = nI j ∧ ky_r nm n j = r := by
  obtain ⟨j, hj, e⟩ := ky_r_sur hd hr
  exact ⟨j, hj, by rw [← e]; exact hb j hj, e⟩
theorem pt_number {A : Nat → Nat → Prop} {n : Nat} {rd : Nat → Int64} {nm br po : Nat → Int32} (hn : n ≤ 40) (hd : ∀ i j, i < n → j < n → nm i = nm j → i = j) (hb : pt_br n nm br) (hrd : ∀ r, r < n → ∀ j, mk_t (rd r) j = true ↔ pm_reach A r j) :
    ∃ po', fT_numberParts br rd po (nI n) = some po' ∧ ∀ j, j < n → ∃ p, po' j = nI p ∧ pt_p A (ky_r nm n j) p := by
  rw [fT_numberParts]
  refine lo_up (σ := Nat → Int32) (fun m i z => fT_numberParts_L5 fT_numberParts_K5_79 br rd (nI n) m (nI (pt_c A i)) (nI i) z) (fun i z => ∀ j, j < n → ky_r nm n j < i → ∃ p, z j = nI p ∧ pt_p A (ky_r nm n j) p) (fun r => ∃ po', r = some po' ∧ ∀ j, j < n → ∃ p, po' j = nI p ∧ pt_p A (ky_r nm n j) p) n ?_ ?_ FU 0 po (Nat.zero_le _) (by rw [FU_eq]; omega) (fun j _ h => by omega)
  · intro m i z hi hI
    have hI : ∀ j, j < n → ky_r nm n j < i → ∃ p, z j = nI p ∧ pt_p A (ky_r nm n j) p := hI
    obtain ⟨f, f1, f2, f3, f4⟩ := pt_first hn hi hrd
    obtain ⟨j, hj, e1, e2⟩ := pt_br_of hd hb hi
    refine Or.inr ?_
    show ∃ z', fT_numberParts_L5 _ _ _ _ (m + 1) (nI (pt_c A i)) (nI i) z = fT_numberParts_L5 _ _ _ _ m (nI (pt_c A (i + 1))) (nI (i + 1)) z' ∧ _
    have key : ∀ v : Nat, pt_p A i v → ∀ j', j' < n → ky_r nm n j' < i + 1 → ∃ p, upd z j (nI v) j' = nI p ∧ pt_p A (ky_r nm n j') p := by
      intro v hv j' hj' hlt
      by_cases e : j' = j
      · subst e; exact ⟨v, pk_us, by rw [e2]; exact hv⟩
      · rw [pk_un e]
        refine hI j' hj' ?_
        rcases Nat.lt_or_ge (ky_r nm n j') i with q | q
        · exact q
        · exact absurd (ky_r_inj hd hj' hj (by omega)) e
    rw [fT_numberParts_L5, if_neg (by rw [nn_le (by omega) (by omega)]; omega), f1, Option.bind_some]
    by_cases hfi : f = i
    · subst hfi
      rw [if_pos rfl, nn_ck (show f < 40 by omega) (by omega), nn_cl (show f ≤ 100000 by omega), e1, nn_ck (show j < 40 by omega) (by omega), nn_cl (show j ≤ 100000 by omega), nI_1, nI_1, ← pt_c_y f3]
      exact ⟨_, rfl, key _ ⟨f, Nat.le_refl _, f3, f4, rfl⟩⟩
    · obtain ⟨g, hg, g1, g2⟩ := pt_br_of hd hb (show f < n by omega)
      obtain ⟨p, p1, p2⟩ := hI g hg (by omega)
      have hnf : ¬ pt_f A i := fun q => q f (by omega) f4
      have hp : pt_p A i p := by
        obtain ⟨f', _, b2, b3, b4⟩ := p2
        rw [g2] at b3
        have := pt_un b2 b3 f3 (Or.inl rfl)
        subst this
        exact ⟨f', f2, b2, f4, b4⟩
      rw [if_neg (by rw [nn_eq (by omega) (by omega)]; exact hfi), nn_ck (show i < 40 by omega) (by omega), nn_ck (show f < 40 by omega) (by omega), nn_cl (show f ≤ 100000 by omega), g1, nn_ck (show g < 40 by omega) (by omega), nn_cl (show i ≤ 100000 by omega), e1, nn_ck (show j < 40 by omega) (by omega), nn_cl (show g ≤ 100000 by omega), nn_cl (show j ≤ 100000 by omega), p1, nI_1, pt_c_n hnf]
      exact ⟨_, rfl, key _ hp⟩
  · intro m z hI
    refine ⟨z, ?_, fun j hj => hI j hj (ky_r_lt hj)⟩
    show fT_numberParts_L5 _ _ _ _ (m + 1) (nI (pt_c A n)) (nI n) z = _
    rw [fT_numberParts_L5, if_pos (by rw [nn_le (by omega) (by omega)]; omega)]
    rfl
