-- answers of key, edge, remove, cut: class and reference alike
theorem hs_1 {n j : Nat} (hn : n ≤ 100000) (hj : j < n) : fK_has (nI n) (nI j) = some 1 := by
  unfold fK_has
  rw [if_neg (nn_neg (by omega)), if_neg (by rw [nn_le hn (by omega)]; omega)]
theorem hs_0 {n : Nat} {x : Int32} (h : x < 0 ∨ (¬ x < 0 ∧ nI n ≤ x)) : fK_has (nI n) x = some 0 := by
  unfold fK_has
  rcases h with h | ⟨h1, h2⟩
  · rw [if_pos h]
  · rw [if_neg h1, if_pos h2]
theorem hs_M : fM_isKey = fK_has := rfl
theorem hs_E : fE_has = fK_has := rfl
theorem hs_TK : fT_hasKey = fK_has := rfl
theorem hs_TR : fT_hasRing = fK_has := rfl
theorem mo_key {n : Nat} {c : Int32} {nm : Nat → Int32} (hn : n ≤ 40) (x : Int32) :
    ((n < 40 ∧ ∀ j, j < n → nm j ≠ x) → fM_key c (nI n) nm x = some (nI n, 0, nI (n + 1), upd nm n x)) ∧ ((n = 40 ∨ ∃ j, j < n ∧ nm j = x) → fM_key c (nI n) nm x = some (-1, 0, nI n, nm)) := by
  have hl : ∀ (s : Int32) (b : Prop), ((s = 1 ∧ b) ∨ (s = 0 ∧ ¬ b)) → ∃ v : Int32, ((v = 1 ∧ (b ∨ ∃ j, j < n ∧ nm j = x)) ∨ (v = 0 ∧ ¬ (b ∨ ∃ j, j < n ∧ nm j = x))) ∧ fM_key_L22 (fM_key_K22_56 0 (nI n) nm x) (nI n) nm x FU s 0 = fM_key_K22_56 0 (nI n) nm x v := by
    intro s b hs
    refine lo_up (σ := Int32) (fun m i v => fM_key_L22 (fM_key_K22_56 0 (nI n) nm x) (nI n) nm x m v (nI i)) (fun i v => (v = 1 ∧ (b ∨ ∃ j, j < i ∧ nm j = x)) ∨ (v = 0 ∧ ¬ (b ∨ ∃ j, j < i ∧ nm j = x))) (fun r => ∃ v : Int32, ((v = 1 ∧ (b ∨ ∃ j, j < n ∧ nm j = x)) ∨ (v = 0 ∧ ¬ (b ∨ ∃ j, j < n ∧ nm j = x))) ∧ r = fM_key_K22_56 0 (nI n) nm x v) n ?_ ?_ FU 0 s (Nat.zero_le _) (by rw [FU_eq]; omega) (by
      rcases hs with ⟨h1, h2⟩ | ⟨h1, h2⟩
      · exact Or.inl ⟨h1, Or.inl h2⟩
      · refine Or.inr ⟨h1, ?_⟩
        rintro (h | ⟨j, h3, _⟩)
        · exact h2 h
        · omega)
    · intro m i v hi hI
      refine Or.inr ?_
      show ∃ st', fM_key_L22 _ _ _ _ (m + 1) v (nI i) = fM_key_L22 _ _ _ _ m st' (nI (i + 1)) ∧ _
      rw [fM_key_L22, if_neg (by rw [nn_le (by omega) (by omega)]; omega), nI_1]
      rcases hI with ⟨rfl, hb⟩ | ⟨rfl, hb⟩
      · rw [if_neg (by decide)]
        refine ⟨1, rfl, Or.inl ⟨rfl, ?_⟩⟩
        rcases hb with hb | ⟨j, h1, h2⟩
        · exact Or.inl hb
        · exact Or.inr ⟨j, by omega, h2⟩
      · rw [if_pos rfl, nn_ck (by omega) (by omega), nn_cl (by omega)]
        by_cases hx : nm i = x
        · rw [if_pos hx]
          exact ⟨1, rfl, Or.inl ⟨rfl, Or.inr ⟨i, by omega, hx⟩⟩⟩
        · rw [if_neg hx]
          refine ⟨0, rfl, Or.inr ⟨rfl, ?_⟩⟩
          rintro (h | ⟨j, h1, h2⟩)
          · exact hb (Or.inl h)
          · rcases Nat.lt_or_ge j i with q | q
            · exact hb (Or.inr ⟨j, q, h2⟩)
            · have e : j = i := by omega
              subst e
              exact hx h2
    · intro m v hI
      refine ⟨v, hI, ?_⟩
      show fM_key_L22 _ _ _ _ (m + 1) v (nI n) = _
      rw [fM_key_L22, if_pos (by rw [nn_le (by omega) (by omega)]; omega)]
  have h40 : (nI n = 40) = (n = 40) := nn_eq (b := 40) (by omega) (by omega)
  constructor
  · rintro ⟨h1, h2⟩
    obtain ⟨v, g1, g2⟩ := hl 0 False (Or.inr ⟨rfl, id⟩)
    rcases g1 with ⟨-, g1 | ⟨j, h3, h4⟩⟩ | ⟨rfl, -⟩
    · exact g1.elim
    · exact absurd h4 (h2 j h3)
    · rw [fM_key, if_neg (by rw [h40]; omega), fM_key_J19, g2, fM_key_K22_56, if_pos rfl, nn_ck h1 (by omega), nn_cl (by omega), nI_1, nI_pred]
  · intro h
    by_cases e : n = 40
    · obtain ⟨v, g1, g2⟩ := hl 1 True (Or.inl ⟨rfl, trivial⟩)
      rcases g1 with ⟨rfl, -⟩ | ⟨-, g1⟩
      · rw [fM_key, if_pos (by rw [h40]; exact e), fM_key_J19, g2, fM_key_K22_56, if_neg (by decide)]
      · exact absurd (Or.inl trivial) g1
    · obtain ⟨v, g1, g2⟩ := hl 0 False (Or.inr ⟨rfl, id⟩)
      rcases g1 with ⟨rfl, -⟩ | ⟨-, g1⟩
      · rw [fM_key, if_neg (by rw [h40]; exact e), fM_key_J19, g2, fM_key_K22_56, if_neg (by decide)]
      · rcases h with h | h
        · exact absurd h e
        · exact absurd (Or.inr h) g1
/-- the edges' rows -/
def ed_I (n ne : Nat) (cnt : Int32) (fr to gone cf bits : Nat → Int32) : Prop := ne ≤ 160 ∧ cnt = nI ne ∧ (∀ e, e < ne → ∃ a, a < n ∧ fr e = nI a) ∧ (∀ e, e < ne → ∃ a, a < n ∧ to e = nI a) ∧ (∀ e, gone e = 0 ∨ gone e = 1) ∧ (∀ e, ne ≤ e → gone e = 0) ∧ ∀ e, e < ne → cf e = bits e &&& 255
theorem ed_more {n ne : Nat} {cnt : Int32} {fr to gone cf bits : Nat → Int32} (h : ed_I n ne cnt fr to gone cf bits) : ed_I (n + 1) ne cnt fr to gone cf bits := by
  obtain ⟨h1, h2, h3, h4, h5, h6, h7⟩ := h
  refine ⟨h1, h2, fun e he => ?_, fun e he => ?_, h5, h6, h7⟩
  · obtain ⟨a, g1, g2⟩ := h3 e he
    exact ⟨a, by omega, g2⟩
  · obtain ⟨a, g1, g2⟩ := h4 e he
    exact ⟨a, by omega, g2⟩
theorem one_ne : ¬ (1 : Int32) = 0 := by decide
theorem nn_ltR {a b : Nat} {y : Int32} (hy : nI b = y) (ha : a ≤ 100000) (hb : b ≤ 100000) : (nI a < y) = (a < b) := by rw [← hy]; exact nn_lt ha hb
theorem nn_leL {a b : Nat} {y : Int32} (hy : nI b = y) (ha : a ≤ 100000) (hb : b ≤ 100000) : (y ≤ nI a) = (b ≤ a) := by rw [← hy]; exact nn_le hb ha
theorem nn_leR {a b : Nat} {y : Int32} (hy : nI b = y) (ha : a ≤ 100000) (hb : b ≤ 100000) : (nI a ≤ y) = (a ≤ b) := by rw [← hy]; exact nn_le ha hb
theorem nn_eqR {a b : Nat} {y : Int32} (hy : nI b = y) (ha : a ≤ 100000) (hb : b ≤ 100000) : (nI a = y) = (a = b) := by rw [← hy]; exact nn_eq ha hb
theorem ed_edgeC {n : Nat} {cnt : Int32} {fr to pl cf : Nat → Int32} (hn : n ≤ 40) {i j : Nat} (hi : i < n) (hj : j < n) (p q : Int32) : fC_edge (nI n) cnt fr to pl cf (nI i) (nI j) p q = fE_add cnt fr to pl cf (nI i) (nI j) p q := by
  rw [fC_edge, hs_1 (by omega) hi, Option.bind_some, if_neg one_ne, hs_1 (by omega) hj, Option.bind_some, if_neg one_ne]
  cases fE_add cnt fr to pl cf (nI i) (nI j) p q <;> rfl
theorem ed_edge {n ne : Nat} {c cnt : Int32} {fr to pl gone cf bits : Nat → Int32} (hn : n ≤ 40) (h : ed_I n ne cnt fr to gone cf bits) (a b p q : Int32) :
    ∃ r cnt' fr' to' pl' cf' bits', fC_edge (nI n) cnt fr to pl cf a b p q = some (r, cnt', fr', to', pl', cf') ∧ fM_edge c (nI n) cnt fr to pl bits a b p q = some (r, 0, cnt', fr', to', pl', bits') ∧
      ∃ ne', ne ≤ ne' ∧ ed_I n ne' cnt' fr' to' gone cf' bits' ∧ ∀ e, e < ne → fr' e = fr e ∧ to' e = to e ∧ pl' e = pl e ∧ bits' e = bits e ∧ cf' e = cf e := by
  have h0 := h
  obtain ⟨h1, rfl, h3, h4, h5, h6, h7⟩ := h
  rcases nn_ix a (n := n) (by omega) with ⟨i, hi, rfl⟩ | ha
  · rcases nn_ix b (n := n) (by omega) with ⟨j, hj, rfl⟩ | hb
    · have hC := ed_edgeC (cnt := nI ne) (fr := fr) (to := to) (pl := pl) (cf := cf) hn hi hj p q
      rw [fE_add] at hC
      rcases Nat.lt_or_ge ne 160 with hne | hne
      · rw [if_pos (show nI ne < 160 by rw [nn_ltR (b := 160) (y := 160) rfl (by omega) (by omega)]; exact hne), nn_ck hne (by omega), nn_ck hne (by omega), nn_ck hne (by omega), nn_ck hne (by omega), nn_cl (by omega), nI_1] at hC
        have hM : fM_edge c (nI n) (nI ne) fr to pl bits (nI i) (nI j) p q = some (nI ne, 0, nI (ne + 1), upd fr ne (nI i), upd to ne (nI j), upd pl ne p, upd bits ne q) := by
          rw [fM_edge, hs_M, hs_1 (by omega) hi, Option.bind_some, if_neg one_ne, hs_1 (by omega) hj, Option.bind_some, if_neg one_ne, if_neg (show ¬ nI ne = 160 by rw [nn_eqR (b := 160) (y := 160) rfl (by omega) (by omega)]; omega), nn_ck hne (by omega), nn_ck hne (by omega), nn_ck hne (by omega), nn_ck hne (by omega), nn_cl (by omega), nI_1, nI_pred]
        refine ⟨_, _, _, _, _, _, _, hC, hM, ne + 1, by omega, ⟨by omega, rfl, fun e he => ?_, fun e he => ?_, h5, fun e he => h6 e (by omega), fun e he => ?_⟩, fun e he => ?_⟩
        · by_cases e1 : e = ne
          · subst e1; exact ⟨i, hi, pk_us⟩
          · obtain ⟨x, g1, g2⟩ := h3 e (by omega)
            exact ⟨x, g1, by rw [pk_un e1]; exact g2⟩
        · by_cases e1 : e = ne
          · subst e1; exact ⟨j, hj, pk_us⟩
          · obtain ⟨x, g1, g2⟩ := h4 e (by omega)
            exact ⟨x, g1, by rw [pk_un e1]; exact g2⟩
        · by_cases e1 : e = ne
          · subst e1; rw [pk_us, pk_us]
          · rw [pk_un e1, pk_un e1]; exact h7 e (by omega)
        · have e1 : e ≠ ne := by omega
          exact ⟨pk_un e1, pk_un e1, pk_un e1, pk_un e1, pk_un e1⟩
      · rw [if_neg (show ¬ nI ne < 160 by rw [nn_ltR (b := 160) (y := 160) rfl (by omega) (by omega)]; omega)] at hC
        have hM : fM_edge c (nI n) (nI ne) fr to pl bits (nI i) (nI j) p q = some (-1, 0, nI ne, fr, to, pl, bits) := by
          rw [fM_edge, hs_M, hs_1 (by omega) hi, Option.bind_some, if_neg one_ne, hs_1 (by omega) hj, Option.bind_some, if_neg one_ne, if_pos (show nI ne = 160 by rw [nn_eqR (b := 160) (y := 160) rfl (by omega) (by omega)]; omega)]
        exact ⟨_, _, _, _, _, _, _, hC, hM, ne, Nat.le_refl _, h0, fun e _ => ⟨rfl, rfl, rfl, rfl, rfl⟩⟩
    · have hC : fC_edge (nI n) (nI ne) fr to pl cf (nI i) b p q = some (-1, nI ne, fr, to, pl, cf) := by
        rw [fC_edge, hs_1 (by omega) hi, Option.bind_some, if_neg one_ne, hs_0 hb, Option.bind_some, if_pos rfl]
      have hM : fM_edge c (nI n) (nI ne) fr to pl bits (nI i) b p q = some (-1, 0, nI ne, fr, to, pl, bits) := by
        rw [fM_edge, hs_M, hs_1 (by omega) hi, Option.bind_some, if_neg one_ne, hs_0 hb, Option.bind_some, if_pos rfl]
      exact ⟨_, _, _, _, _, _, _, hC, hM, ne, Nat.le_refl _, h0, fun e _ => ⟨rfl, rfl, rfl, rfl, rfl⟩⟩
  · have hC : fC_edge (nI n) (nI ne) fr to pl cf a b p q = some (-1, nI ne, fr, to, pl, cf) := by
      rw [fC_edge, hs_0 ha, Option.bind_some, if_pos rfl]
    have hM : fM_edge c (nI n) (nI ne) fr to pl bits a b p q = some (-1, 0, nI ne, fr, to, pl, bits) := by
      rw [fM_edge, hs_M, hs_0 ha, Option.bind_some, if_pos rfl]
    exact ⟨_, _, _, _, _, _, _, hC, hM, ne, Nat.le_refl _, h0, fun e _ => ⟨rfl, rfl, rfl, rfl, rfl⟩⟩
theorem ed_nar1 : vp_nar .boolean 1 = 1 := rfl
theorem ed_nar0 : vp_nar .boolean 0 = 0 := rfl
theorem ed_cut {n ne : Nat} {c cnt : Int32} {fr to gone cf bits : Nat → Int32} (h : ed_I n ne cnt fr to gone cf bits) (x : Int32) :
    ∃ r gone', fC_cut cnt gone x = some (r, gone') ∧ fM_cut c cnt gone x = some (r, 0, gone') ∧ ed_I n ne cnt fr to gone' cf bits := by
  have h0 := h
  obtain ⟨h1, rfl, h3, h4, h5, h6, h7⟩ := h
  rcases nn_ix x (n := ne) (by omega) with ⟨i, hi, rfl⟩ | hx
  · have hM : fM_cut c (nI ne) gone (nI i) = if gone i = 0 then some (1, 0, upd gone i (vp_nar .boolean 1)) else some (0, 0, gone) := by
      rw [fM_cut, if_neg (nn_neg (by omega)), if_neg (show ¬ nI ne ≤ nI i by rw [nn_le (by omega) (by omega)]; omega), nn_ck (show i < 160 by omega) (by omega), nn_ck (show i < 160 by omega) (by omega), nn_cl (by omega)]
    have hD : fE_drop (nI ne) gone (nI i) = if gone i = 0 then some (1, upd gone i (vp_nar .boolean 1)) else some (0, gone) := by
      rw [fE_drop, hs_E, hs_1 (by omega) hi, Option.bind_some, if_neg one_ne, nn_ck (show i < 160 by omega) (by omega), nn_ck (show i < 160 by omega) (by omega), nn_cl (by omega)]
    by_cases hg : gone i = 0
    · rw [if_pos hg] at hM hD
      refine ⟨1, upd gone i (vp_nar .boolean 1), by rw [fC_cut, hD]; rfl, hM, h1, rfl, h3, h4, fun e => ?_, fun e he => ?_, h7⟩
      · by_cases e1 : e = i
        · subst e1; rw [pk_us]; exact Or.inr rfl
        · rw [pk_un e1]; exact h5 e
      · rw [pk_un (by omega)]; exact h6 e he
    · rw [if_neg hg] at hM hD
      exact ⟨0, gone, by rw [fC_cut, hD]; rfl, hM, h0⟩
  · have hD : fE_drop (nI ne) gone x = some (0, gone) := by
      rw [fE_drop, hs_E, hs_0 hx, Option.bind_some, if_pos rfl]
    have hM : fM_cut c (nI ne) gone x = some (0, 0, gone) := by
      rw [fM_cut]
      rcases hx with hx | ⟨hx, hx2⟩
      · rw [if_pos hx]
      · rw [if_neg hx, if_pos hx2]
    exact ⟨0, gone, by rw [fC_cut, hD]; rfl, hM, h0⟩
theorem ed_remove {n ne : Nat} {c cnt : Int32} {fr to gone cf bits : Nat → Int32} (h : ed_I n ne cnt fr to gone cf bits) (a b : Int32) :
    ∃ r gone', fC_remove cnt fr to gone a b = some (r, gone') ∧ fM_remove c cnt fr to gone a b = some (r, 0, gone') ∧ ed_I n ne cnt fr to gone' cf bits := by
  obtain ⟨h1, rfl, h3, h4, h5, h6, h7⟩ := h
  have key := lo_up (σ := Int32 × (Nat → Int32)) (fun m i st => (fE_dropBetween_L5 fE_dropBetween_K5_43 (nI ne) fr to a b m st.1 (nI i) st.2, fM_remove_L10 (fM_remove_K10_71 0) (nI ne) fr to a b m st.1 (nI i) st.2))
    (fun i st => (∀ e, st.2 e = 0 ∨ st.2 e = 1) ∧ ∀ e, ne ≤ e → st.2 e = 0) (fun r => ∃ v g, r.1 = some (v, g) ∧ r.2 = some (v, 0, g) ∧ (∀ e, g e = 0 ∨ g e = 1) ∧ ∀ e, ne ≤ e → g e = 0) ne ?_ ?_ FU 0 (0, gone) (Nat.zero_le _) (by rw [FU_eq]; omega) ⟨h5, h6⟩
  · obtain ⟨v, g, g1, g2, g3, g4⟩ := key
    refine ⟨v, g, ?_, g2, h1, rfl, h3, h4, g3, g4, h7⟩
    rw [fC_remove, fE_dropBetween]
    have g1 : fE_dropBetween_L5 fE_dropBetween_K5_43 (nI ne) fr to a b FU 0 0 gone = some (v, g) := g1
    rw [g1]
    rfl
  · rintro m i ⟨v, g⟩ hi ⟨hI1, hI2⟩
    have hI1 : ∀ e, g e = 0 ∨ g e = 1 := hI1
    have hI2 : ∀ e, ne ≤ e → g e = 0 := hI2
    refine Or.inr ?_
    show ∃ st' : Int32 × (Nat → Int32), (fE_dropBetween_L5 _ _ _ _ _ _ (m + 1) v (nI i) g, fM_remove_L10 _ _ _ _ _ _ (m + 1) v (nI i) g) = (fE_dropBetween_L5 _ _ _ _ _ _ m st'.1 (nI (i + 1)) st'.2, fM_remove_L10 _ _ _ _ _ _ m st'.1 (nI (i + 1)) st'.2) ∧ (∀ e, st'.2 e = 0 ∨ st'.2 e = 1) ∧ ∀ e, ne ≤ e → st'.2 e = 0
    have hc : i < 160 := by omega
    rw [fE_dropBetween_L5, fM_remove_L10, if_neg (show ¬ nI ne ≤ nI i by rw [nn_le (by omega) (by omega)]; omega), if_neg (show ¬ nI ne ≤ nI i by rw [nn_le (by omega) (by omega)]; omega), fE_joins]
    simp only [nn_ck hc (by omega : 160 ≤ 100000), nn_cl (by omega : i ≤ 100000), nI_1]
    by_cases g1 : fr i = a
    · by_cases g2 : to i = b
      · rw [if_pos g1, if_pos g2, Option.bind_some, if_neg (by decide), fE_drop, hs_E, hs_1 (by omega) hi, Option.bind_some, if_neg (by decide)]
        simp only [nn_ck hc (by omega : 160 ≤ 100000), nn_cl (by omega : i ≤ 100000), g1, g2, if_true]
        by_cases g3 : g i = 0
        · rw [if_pos g3, if_pos g3, Option.bind_some]
          refine ⟨(v + 1, upd g i (vp_nar .boolean 1)), ?_, fun e => ?_, fun e he => ?_⟩
          · simp only [one_ne, if_false]
          · show upd g i (vp_nar .boolean 1) e = 0 ∨ upd g i (vp_nar .boolean 1) e = 1
            by_cases e1 : e = i
            · subst e1; exact Or.inr (by rw [pk_us]; rfl)
            · rw [pk_un e1]; exact hI1 e
          · show upd g i (vp_nar .boolean 1) e = 0
            rw [pk_un (by omega)]; exact hI2 e he
        · rw [if_neg g3, if_neg g3, Option.bind_some]
          exact ⟨(v, g), by rw [if_pos rfl], hI1, hI2⟩
      · rw [if_pos g1, if_neg g2, Option.bind_some, if_pos rfl]
        refine ⟨(v, g), ?_, hI1, hI2⟩
        simp only [g1, g2, if_true, if_false]
        split <;> rfl
    · rw [if_neg g1, Option.bind_some, if_pos rfl]
      refine ⟨(v, g), ?_, hI1, hI2⟩
      simp only [g1, if_false]
      split <;> rfl
  · rintro m ⟨v, g⟩ ⟨hI1, hI2⟩
    refine ⟨v, g, ?_, ?_, hI1, hI2⟩
    · show fE_dropBetween_L5 _ _ _ _ _ _ (m + 1) v (nI ne) g = _
      rw [fE_dropBetween_L5, if_pos (show nI ne ≤ nI ne by rw [nn_le (by omega) (by omega)]; omega)]
      rfl
    · show fM_remove_L10 _ _ _ _ _ _ (m + 1) v (nI ne) g = _
      rw [fM_remove_L10, if_pos (show nI ne ≤ nI ne by rw [nn_le (by omega) (by omega)]; omega)]
      rfl
