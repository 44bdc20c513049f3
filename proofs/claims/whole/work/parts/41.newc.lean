-- a constructor's call on the cell that was made last: its world comes behind the others
theorem og_rng {α : Type} (ws : List α) (c : α) : (List.range ws.length).map (fun i => (ws ++ [c])[i]?) = ws.map some := by
  apply List.ext_getElem?
  intro i
  rw [List.getElem?_map, List.getElem?_map]
  rcases Nat.lt_or_ge i ws.length with h | h
  · rw [List.getElem?_range h, Option.map_some, List.getElem?_append_left h, List.getElem?_eq_getElem h]
    rfl
  · rw [List.getElem?_eq_none (by rw [List.length_range]; exact h), List.getElem?_eq_none h]
    rfl
theorem og_nd_range : ∀ (l : List Nat), l.Nodup → va_nd l = true
  | [], _ => rfl
  | a :: l, h => by
    obtain ⟨h1, h2⟩ := List.nodup_cons.mp h
    rw [va_nd, og_nd_range l h2, decide_eq_true h1]
    rfl
theorem og_newc {A : Nat → Prop} {D : va_G} {cl : List vw_C} {ws w1 : va_W} {c : Nat × va_E} {H H1 : Heap} (hP : va_P D cl (ws ++ [c]) H) (hD : va_D A (ws ++ [c])) (hk : ∀ q : Nat, q < H.size → ¬ va_A [c] H.size q → H1[q]? = H[q]?) (hF : ∀ q, va_A [c] H.size q → A q) (hP1 : va_P D cl w1 H1) (hD1 : va_D (va_A [c] H.size) w1) : va_P D cl (ws ++ w1) H1 ∧ va_D A (ws ++ w1) := by
  refine va_join (wr := ws) (w1 := w1) (wc := [c]) hP hD [ws.length] (List.range ws.length) ?_ (og_rng ws c) (og_nd_range _ List.nodup_range) (fun i hi hm => ?_) hk hF hP1 hD1
  · show [(ws ++ [c])[ws.length]?] = [some c]
    rw [List.getElem?_append_right (Nat.le_refl _), Nat.sub_self]
    rfl
  · have h1 := List.mem_range.mp hi
    have h2 := List.mem_singleton.mp hm
    omega
section OGN
variable {p : Program} {l : Launch} {e : Env} {R : Room} {s : State} {m : MethodId} {args : Array Value} {below : List Frame} {meth : Method} {c : Code} {H : Heap} {locs : List Loc} {cells slots : Nat} {Q : State → Prop}
variable {y : MethodName} {bytes cc : ByteArray} {maxL nL index mc ms : Nat} {wy : List Cond} {rm : Room} {Ts : List Cond} {own host : String} {b : Addr} {rest st : List Value} {pc : Nat} {ls : Array Slot} {D : va_G} {tys : List (ClassId × FieldType)} {ws : va_W} {e0 : va_E} {A : Nat → Prop} {H0 : Heap} {S : Type} {post : S → Prop} {w1 : S → va_W} {t1 : S → List (ClassId × FieldType)} {B : S → State → Prop}
theorem og_cI_k (hr : va_Run p l e R s m args below meth c H locs cells slots mc ms (F0 m pc ls st) rest (va_Qv post B (va_A [(b, e0)] H.size) (Value.ref b :: []).toArray) (va_A [(b, e0)] H.size)) (hB : ∀ u t, B u t → va_P D vwCl (w1 u) t.heap ∧ va_K D vwCl (t1 u) t ∧ va_D (va_A [(b, e0)] H.size) (w1 u)) (hK : va_K D vwCl tys s) (hP : va_P D vwCl (ws ++ [(b, e0)]) H) (hD : va_D A (ws ++ [(b, e0)])) (hS : va_S A H0 H locs) (hFc : ∀ q, va_A [(b, e0)] H.size q → A q)
    (kk : ∀ (u : S) (H1 : Heap) (locs1 : List Loc), post u → va_K D vwCl (tys ++ t1 u) s → va_P D vwCl (ws ++ w1 u) H1 → va_D A (ws ++ w1 u) → va_S A H0 H1 locs1 → W p l e R s m args below meth c H1 locs1 (cells + mc) (slots + ms) Q (F0 m (pc + 3) ls rest)) : W p l e R s m args below meth c H locs cells slots Q (F0 m pc ls st) := by
  refine va_callv (rest := rest) hr hS (fun q _ h => hFc q h) hFc (fun u t H1 locs1 ht2 hvm hw hb1 hz1 hk1 hS1 => ?_)
  obtain ⟨hP1, hK1, hD1⟩ := hB u t hb1
  rw [ht2] at hP1
  obtain ⟨hP2, hD2⟩ := og_newc hP hD hk1 hFc hP1 hD1
  exact kk u H1 locs1 hw (hK.app (va_K.moved hvm.symm hK1)) hP2 hD2 hS1
theorem og_last {A0 : Nat → Prop} {w : va_W} {H9 : Heap} {locs9 : List Loc} {c0 : Nat × va_E} (hD : va_D A0 (w ++ [c0])) (hS : va_S A0 H0 H9 locs9) (hA : ∀ q, H0.size ≤ q → A0 q) : ∀ q, va_A [c0] H9.size q → A0 q := by
  intro q h
  rcases h with ⟨k, e, h⟩ | h
  · cases k with
    | zero =>
      have h2 : c0 = (q, e) := Option.some.inj h
      have := hD.2 w.length c0 (by rw [List.getElem?_append_right (Nat.le_refl _), Nat.sub_self]; rfl)
      rw [h2] at this
      exact this
    | succ k => simp at h
  · exact hA q (Nat.le_trans hS.1 h)
theorem og_lastP {cl : List vw_C} {w : va_W} {H9 : Heap} {c0 : Nat × va_E} (hP : va_P D cl (w ++ [c0]) H9) : va_P D cl [c0] H9 := fun k q h => by
  cases k with
  | zero =>
    have h2 : c0 = q := Option.some.inj h
    subst h2
    exact hP w.length c0 (by rw [List.getElem?_append_right (Nat.le_refl _), Nat.sub_self]; rfl)
  | succ k => simp at h
theorem og_lastD {A0 : Nat → Prop} {c0 : Nat × va_E} : va_D (fun _ => True) [c0] := ⟨fun i j x y hi hj _ => by
  have h1 : i < 1 := (List.getElem?_eq_some_iff.mp hi).1
  have h2 : j < 1 := (List.getElem?_eq_some_iff.mp hj).1
  omega, fun _ _ _ => trivial⟩
/-- the constructor of a nest mate -/
theorem og_cIN (Sf : CallFix p m c cc nL s args Ts own) (hM : Met l y wy rm (og_Pw [.ref b] D [(b, e0)] [] H.size) (va_Qv post B (va_A [(b, e0)] H.size)) mc ms (va_A [(b, e0)] H.size)) (cw : va_CN R s args own index y host bytes maxL none wy rm mc ms 0 ∧ y.name = "<init>" ∧ (Cond.instanceMethod y).before args s = true)
    (hB : ∀ u t, B u t → va_P D vwCl (w1 u) t.heap ∧ va_K D vwCl (t1 u) t ∧ va_D (va_A [(b, e0)] H.size) (w1 u)) (hK : va_K D vwCl tys s) (hP : va_P D vwCl (ws ++ [(b, e0)]) H) (hD : va_D A (ws ++ [(b, e0)])) (hS : va_S A H0 H locs) (hA : ∀ q, H0.size ≤ q → A q)
    (hsize : ls.size = nL) (hst : st = .ref b :: rest) (hW : (rest.map fun v => v.category).sum ≤ 8) (hdg : decode cc pc = .ok (.invokespecial index, 3)) (hf : cells + mc ≤ R.cells ∧ slots + ms ≤ R.slots)
    (kk : ∀ (u : S) (H1 : Heap) (locs1 : List Loc), post u → va_K D vwCl (tys ++ t1 u) s → va_P D vwCl (ws ++ w1 u) H1 → va_D A (ws ++ w1 u) → va_S A H0 H1 locs1 → W p l e R s m args below meth c H1 locs1 (cells + mc) (slots + ms) Q (F0 m (pc + 3) ls rest)) : W p l e R s m args below meth c H locs cells slots Q (F0 m pc ls st) := by
  have hK0 : va_K D vwCl [] s := ⟨hK.1, fun k q h => by simp at h⟩
  exact og_cI_k (va_runIN (As := []) (rest := rest) Sf hM cw ⟨og_Pw_bl _ _ _ _ _, fun U hU hW2 => ⟨rfl, by rw [hU], by rw [hU]; exact og_lastP hP, va_K.moved hW2.alike hK0, og_lastD (A0 := A)⟩⟩ rfl rfl hsize hst (lv_room hW) hdg hf) hB hK hP hD hS (og_last hD hS hA) kk
end OGN

