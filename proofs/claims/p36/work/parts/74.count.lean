set_option maxRecDepth 16384
section BC
variable {J : aJ} {S : aS} {T : aT} {w w1 w2 : zW} {H H' : Nat → Int32} {w0 : zX}
theorem count_b (h : rW J S T w) (a : Int32) : Bq S (fX7_count a) (fX8_count a) Eq w := by
  obtain ⟨hW, hS, hT, -, -⟩ := id h
  have n1 : ¬ (1 : Int32) = 0 := by decide
  have n2 : ¬ (2 : Int32) = 0 ∧ ¬ (2 : Int32) = 1 := by decide
  have n3 : ¬ (3 : Int32) = 0 ∧ ¬ (3 : Int32) = 1 ∧ ¬ (3 : Int32) = 2 := by decide
  have z8 : ∀ {w0 : zX} {w : zW} {H : Nat → Int32} (j : Nat), j < 4 → uD w0 J S T H w → fX8_sizeOf (nI j) w = some (nI (aN S j), w) := fun j hj hD => sizeOf_s hD (by omega)
  by_cases c0 : a = 0
  · subst c0
    exact bq_x h (nI (aN S 0)) (fun H hC => by rw [fX7_count, if_pos rfl, show fX7_lineAt (0 : Int32) w = some (some (LN 0), w) from lineAt_s w (by decide), bd_s, oc_s, size_s hC (by decide), bd_s]) (fun w1 H hD => by rw [fX8_count, lt_e, if_pos rfl, show fX8_sizeOf (0 : Int32) (zsI w1 74 0 0) = _ from z8 0 (by decide) (uD_0 hD), bd_s])
  by_cases c1 : a = 1
  · subst c1
    exact bq_x h (nI (aN S 1)) (fun H hC => by rw [fX7_count, if_neg c0, if_pos rfl, show fX7_lineAt (1 : Int32) w = some (some (LN 1), w) from lineAt_s w (by decide), bd_s, oc_s, size_s hC (by decide), bd_s]) (fun w1 H hD => by rw [fX8_count, lt_e, if_neg c0, if_pos rfl, show fX8_sizeOf (1 : Int32) (zsI w1 74 0 0) = _ from z8 1 (by decide) (uD_0 hD), bd_s])
  by_cases c2 : a = 2
  · subst c2
    exact bq_x h (nI (aN S 2)) (fun H hC => by rw [fX7_count, if_neg c0, if_neg c1, if_pos rfl, show fX7_lineAt (2 : Int32) w = some (some (LN 2), w) from lineAt_s w (by decide), bd_s, oc_s, size_s hC (by decide), bd_s]) (fun w1 H hD => by rw [fX8_count, lt_e, if_neg c0, if_neg c1, if_pos rfl, show fX8_sizeOf (2 : Int32) (zsI w1 74 0 0) = _ from z8 2 (by decide) (uD_0 hD), bd_s])
  by_cases c3 : a = 3
  · subst c3
    exact bq_x h (nI (aN S 3)) (fun H hC => by rw [fX7_count, if_neg c0, if_neg c1, if_neg c2, if_pos rfl, show fX7_lineAt (3 : Int32) w = some (some (LN 3), w) from lineAt_s w (by decide), bd_s, oc_s, size_s hC (by decide), bd_s]) (fun w1 H hD => by rw [fX8_count, lt_e, if_neg c0, if_neg c1, if_neg c2, if_pos rfl, show fX8_sizeOf (3 : Int32) (zsI w1 74 0 0) = _ from z8 3 (by decide) (uD_0 hD), bd_s])
  by_cases c4 : a = 4
  · exact bq_x h (nI (jK J)) (fun H hC => by rw [fX7_count, if_neg c0, if_neg c1, if_neg c2, if_neg c3, if_pos c4, hC.1.1]) (fun w1 H hD => by rw [fX8_count, lt_e, if_neg c0, if_neg c1, if_neg c2, if_neg c3, if_pos c4, (uD_0 hD).1.1])
  by_cases c5 : a = 5
  · exact bq_x h (nI (jN J)) (fun H hC => by rw [fX7_count, if_neg c0, if_neg c1, if_neg c2, if_neg c3, if_neg c4, if_pos c5, hC.1.2.1]) (fun w1 H hD => by rw [fX8_count, lt_e, if_neg c0, if_neg c1, if_neg c2, if_neg c3, if_neg c4, if_pos c5, (uD_0 hD).1.2.1])
  by_cases c6 : a = 6
  · exact bq_x h (nI (jE J)) (fun H hC => by rw [fX7_count, if_neg c0, if_neg c1, if_neg c2, if_neg c3, if_neg c4, if_neg c5, if_pos c6, hC.1.2.2.1]) (fun w1 H hD => by rw [fX8_count, lt_e, if_neg c0, if_neg c1, if_neg c2, if_neg c3, if_neg c4, if_neg c5, if_pos c6, (uD_0 hD).1.2.2.1])
  by_cases c7 : a = 7
  · exact bq_x h (sM S) (fun H hC => by rw [fX7_count, if_neg c0, if_neg c1, if_neg c2, if_neg c3, if_neg c4, if_neg c5, if_neg c6, if_pos c7, hC.2.2.1.1]) (fun w1 H hD => by rw [fX8_count, lt_e, if_neg c0, if_neg c1, if_neg c2, if_neg c3, if_neg c4, if_neg c5, if_neg c6, if_pos c7, (uD_0 hD).2.2.1.1])
  by_cases c8 : a = 8
  · exact bq_x h (sB S) (fun H hC => by rw [fX7_count, if_neg c0, if_neg c1, if_neg c2, if_neg c3, if_neg c4, if_neg c5, if_neg c6, if_neg c7, if_pos c8, hC.2.2.1.2.1]) (fun w1 H hD => by rw [fX8_count, lt_e, if_neg c0, if_neg c1, if_neg c2, if_neg c3, if_neg c4, if_neg c5, if_neg c6, if_neg c7, if_pos c8, (uD_0 hD).2.2.1.2.1])
  by_cases c9 : a = 9
  · exact bq_x h (nI (sR S).length) (fun H hC => by rw [fX7_count, if_neg c0, if_neg c1, if_neg c2, if_neg c3, if_neg c4, if_neg c5, if_neg c6, if_neg c7, if_neg c8, if_pos c9, hC.2.2.1.2.2.1]) (fun w1 H hD => by rw [fX8_count, lt_e, if_neg c0, if_neg c1, if_neg c2, if_neg c3, if_neg c4, if_neg c5, if_neg c6, if_neg c7, if_neg c8, if_pos c9, (uD_0 hD).2.2.1.2.2.1])
  by_cases c10 : a = 10
  · exact bq_x h (nI T.1) (fun H hC => by rw [fX7_count, if_neg c0, if_neg c1, if_neg c2, if_neg c3, if_neg c4, if_neg c5, if_neg c6, if_neg c7, if_neg c8, if_neg c9, if_pos c10, hC.2.2.2.1.1]) (fun w1 H hD => by rw [fX8_count, lt_e, if_neg c0, if_neg c1, if_neg c2, if_neg c3, if_neg c4, if_neg c5, if_neg c6, if_neg c7, if_neg c8, if_neg c9, if_pos c10, (uD_0 hD).2.2.2.1.1])
  · exact bq_x h (-1) (fun H hC => by rw [fX7_count, if_neg c0, if_neg c1, if_neg c2, if_neg c3, if_neg c4, if_neg c5, if_neg c6, if_neg c7, if_neg c8, if_neg c9, if_neg c10]) (fun w1 H hD => by rw [fX8_count, lt_e, if_neg c0, if_neg c1, if_neg c2, if_neg c3, if_neg c4, if_neg c5, if_neg c6, if_neg c7, if_neg c8, if_neg c9, if_neg c10])
/-- the reference's number a of the ROW -/
theorem row_r (h : uD w0 J S T H w) (a : Int32) : ∃ v w', fX8_row a w = some (v, w') ∧ uD w0 J S T H w' ∧ zL w' 92 0 = zL w 92 0 ∧ ((zI w' 74 0 = 1 ∧ (a < 0 ∨ nI (sR S).length ≤ a)) ∨ (zI w' 74 0 = 0 ∧ ∃ i, a = nI i ∧ (sR S)[i]? = some v)) := by
  obtain ⟨e, hl, hr⟩ := h.2.2.1.2.2
  have bad : (∀ w, fX8_in a.toInt64 0 (nI (sR S).length - 1).toInt64 w = some (false, w)) → (a < 0 ∨ nI (sR S).length ≤ a) → ∃ v w', fX8_row a w = some (v, w') ∧ uD w0 J S T H w' ∧ zL w' 92 0 = zL w 92 0 ∧ ((zI w' 74 0 = 1 ∧ (a < 0 ∨ nI (sR S).length ≤ a)) ∨ (zI w' 74 0 = 0 ∧ ∃ i, a = nI i ∧ (sR S)[i]? = some v)) := by
    intro hi hb
    refine ⟨0, zsI w 74 0 1, ?_, uD_5 h (.inr (.inr rfl)), rfl, .inl ⟨rfl, hb⟩⟩
    rw [fX8_row, e, hi, bd_s, lt_e, ff, show fX8_flag 1 w = some (1, w) from rfl, bd_s, lt_e, if_neg (not_not_intro (show zI (zsI w 74 0 1) 74 0 = 1 from rfl))]
  rcases pk_ix a (n := (sR S).length) (by omega) with q | q | ⟨i, hi, rfl⟩
  · exact bad (fun w => in_n w (.inl (show a.toInt64 < 0 from (toI64_lt (n := 0) (by decide)).mpr q))) (.inl q)
  · refine bad (fun w => in_n w (.inr ?_)) (.inr q)
    have h2 := Int32.le_iff_toInt_le.mp q
    rw [nI_toInt (by omega)] at h2
    rw [Int64.lt_iff_toInt_lt, Int32.toInt_toInt64, Int32.toInt_toInt64, show (1 : Int32) = nI 1 from rfl, pk_sub_toInt (by omega) (by decide)]
    omega
  · have h1 : (0 : Int64) ≤ (nI i).toInt64 := by
      rw [nI_l (by omega)]
      exact lN_0le (by omega)
    have h2 : (nI i).toInt64 ≤ (nI (sR S).length - 1).toInt64 := by
      rw [show (1 : Int32) = nI 1 from rfl, pk_sub (by omega), nI_l (by omega), nI_l (by omega)]
      exact (lN_le (by omega) (by omega)).mpr (by omega)
    have hg : (sR S)[i]? = some ((sR S)[i]) := List.getElem?_eq_getElem hi
    refine ⟨(sR S)[i], zsI w 74 0 0, ?_, uD_5 h (.inr (.inr rfl)), rfl, .inr ⟨rfl, i, rfl, hg⟩⟩
    rw [fX8_row, e, in_s w h1 h2, bd_s, lt_e, tt, show fX8_flag 0 w = some (0, w) from rfl, bd_s, lt_e, if_pos (show ¬ zI (zsI w 74 0 0) 74 0 = 1 by rw [zI_zsI, if_pos ⟨rfl, rfl⟩]; decide), zin_t (show i < 160 by omega) (by decide), zg_t, nI_clamp (by omega), show zL (zsI w 74 0 0) 75 i = (sR S)[i] from hr i _ hg]
/-- row, as the law asks it -/
theorem row_x (h : rW J S T w) (a : Int32) : ∃ k v w1 w2, fL_row a w = some (k, w1) ∧ fX8_row a w1 = some (v, w2) ∧ zI w2 74 0 = k ∧ (k = 0 → zL w2 92 0 = v) ∧ rW J S T w2 := by
  obtain ⟨hW, hS, hT, ⟨H, hC⟩, -⟩ := id h
  obtain ⟨e, hl, hr⟩ := hC.2.2.1.2.2
  rcases pk_ix a (n := (sR S).length) (by omega) with q | q | ⟨i, hi, rfl⟩
  · obtain ⟨-, -, -, -, H2, hD⟩ := id h
    obtain ⟨v, w2, e2, d1, -, d⟩ := row_r (uD_sf hD) a
    have el : fL_row a w = some (1, w) := by unfold fL_row; rw [fX7_row, if_pos q]
    rcases d with ⟨d, -⟩ | ⟨-, i, rfl, d⟩
    · exact ⟨1, v, w, w2, el, e2, d, fun z => absurd z (by decide), rW_D h d1⟩
    · have := (List.getElem?_eq_some_iff.mp d).1
      exact absurd q (nI_pos (by omega))
  · obtain ⟨-, -, -, -, H2, hD⟩ := id h
    obtain ⟨v, w2, e2, d1, -, d⟩ := row_r (uD_sf hD) a
    have el : fL_row a w = some (1, w) := by
      unfold fL_row
      rw [fX7_row]
      by_cases c : a < 0
      · rw [if_pos c]
      · rw [if_neg c, e, if_pos q]
    rcases d with ⟨d, -⟩ | ⟨-, i, rfl, d⟩
    · exact ⟨1, v, w, w2, el, e2, d, fun z => absurd z (by decide), rW_D h d1⟩
    · have := (List.getElem?_eq_some_iff.mp d).1
      have := (nI_leI (by omega) (by omega)).mp q
      omega
  · have hg : (sR S)[i]? = some ((sR S)[i]) := List.getElem?_eq_getElem hi
    have el : fL_row (nI i) w = some (0, zsL w 92 0 ((sR S)[i])) := by
      unfold fL_row
      rw [fX7_row, if_neg (nI_pos (by omega)), e, if_neg (fun z => by have := (nI_leI (by omega) (by omega)).mp z; omega), if_pos (nI_lt (show i < 128 by omega) (by decide)), zin_t (show i < 128 by omega) (by decide), zg_t, nI_clamp (by omega), hr i _ hg]
    have h9 := rW_92 (j := 0) (v := (sR S)[i]) h
    obtain ⟨-, -, -, -, H2, hD⟩ := id h9
    obtain ⟨v, w2, e2, d1, d2, d⟩ := row_r (uD_sf hD) (nI i)
    rcases d with ⟨-, d⟩ | ⟨d, k, ek, dk⟩
    · rcases d with d | d
      · exact absurd d (nI_pos (by omega))
      · have := (nI_leI (by omega) (by omega)).mp d; omega
    · have hk := (List.getElem?_eq_some_iff.mp dk).1
      have := (nI_eq (by omega) (by omega)).mp ek
      subst this
      rw [hg] at dk
      refine ⟨0, v, _, w2, el, e2, d, fun _ => ?_, rW_D h9 d1⟩
      rw [d2, ← Option.some.inj dk]
      show zL (zsL w 92 0 ((sR S)[i])) 92 0 = _
      rw [zL_zsL, if_pos ⟨rfl, rfl⟩]
theorem row_t (h : rW J S T w) (a : Int32) : Bq S (fL_row a) (fX8_row a) (fun _ _ => True) w := by
  obtain ⟨k, v, w1, w2, e1, e2, -, -, h2⟩ := row_x h a
  exact ⟨k, v, w1, w2, e1, e2, trivial, J, S, T, h2, mL_0⟩
end BC
