set_option maxRecDepth 16384
set_option maxRecDepth 100000
set_option maxHeartbeats 4000000
theorem lA0 (w : zW) : fX7_lineAt 0 w = some (some 7, w) := rfl
theorem iL0 (w : zW) : fX8_isLine 0 w = some (true, w) := rfl
theorem lA1 (w : zW) : fX7_lineAt 1 w = some (some 18, w) := rfl
theorem iL1 (w : zW) : fX8_isLine 1 w = some (true, w) := rfl
theorem lA2 (w : zW) : fX7_lineAt 2 w = some (some 29, w) := rfl
theorem iL2 (w : zW) : fX8_isLine 2 w = some (true, w) := rfl
theorem lA3 (w : zW) : fX7_lineAt 3 w = some (some 40, w) := rfl
theorem iL3 (w : zW) : fX8_isLine 3 w = some (true, w) := rfl
theorem i01 {a : Int32} {n : Nat} (hn : n < 2 ^ 31) (h : ¬ nI n < a) : a < 0 ∨ ∃ j, j ≤ n ∧ a = nI j := by
  rcases pk_ix a (n := n) hn with q | q | ⟨j, hj, e⟩
  · exact .inl q
  · exact .inr ⟨n, Nat.le_refl n, Int32.le_antisymm (Int32.not_lt.mp h) q⟩
  · exact .inr ⟨j, by omega, e⟩
theorem tri (a : Int32) : a < 0 ∨ a = 0 ∨ (0 < a ∧ ¬ a < 0 ∧ ¬ a ≤ 0 ∧ 0 ≤ a) := by
  rcases Int32.lt_or_le a 0 with h | h
  · exact .inl h
  · by_cases e : a = 0
    · exact .inr (.inl e)
    · have h1 := Int32.lt_of_le_of_ne h (fun q => e q.symm)
      exact .inr (.inr ⟨h1, Int32.not_lt.mpr h, Int32.not_le.mpr h1, h⟩)
theorem isAt_0 {a i : Int32} {w : zW} (h : fX8_sizeOf a w = some (0, w)) : fX8_isAt a i w = some (false, w) := by
  unfold fX8_isAt
  rw [h, bd_s]
  have : i.toInt64 < 0 ∨ ((0 : Int32) - 1).toInt64 < i.toInt64 := by
    by_cases q : i.toInt64 < 0
    · exact .inl q
    · right
      rw [Int64.lt_iff_toInt_lt] at q ⊢
      rw [show (((0 : Int32) - 1).toInt64).toInt = -1 from by decide]
      rw [show (0 : Int64).toInt = 0 from by decide] at q
      omega
  rw [in_n w this, bd_s]
theorem sz0 : fX1_size 7 zw0 = some (0, zw0) := rfl
theorem so0 : fX8_sizeOf 0 (zsI zw0 74 0 0) = some (0, zsI zw0 74 0 0) := rfl
theorem ia0 (i : Int32) : fX8_isAt 0 i (zsI zw0 74 0 0) = some (false, zsI zw0 74 0 0) := isAt_0 so0
theorem sz1 : fX1_size 18 zw0 = some (0, zw0) := rfl
theorem so1 : fX8_sizeOf 1 (zsI zw0 74 0 0) = some (0, zsI zw0 74 0 0) := rfl
theorem ia1 (i : Int32) : fX8_isAt 1 i (zsI zw0 74 0 0) = some (false, zsI zw0 74 0 0) := isAt_0 so1
theorem sz2 : fX1_size 29 zw0 = some (0, zw0) := rfl
theorem so2 : fX8_sizeOf 2 (zsI zw0 74 0 0) = some (0, zsI zw0 74 0 0) := rfl
theorem ia2 (i : Int32) : fX8_isAt 2 i (zsI zw0 74 0 0) = some (false, zsI zw0 74 0 0) := isAt_0 so2
theorem sz3 : fX1_size 40 zw0 = some (0, zw0) := rfl
theorem so3 : fX8_sizeOf 3 (zsI zw0 74 0 0) = some (0, zsI zw0 74 0 0) := rfl
theorem ia3 (i : Int32) : fX8_isAt 3 i (zsI zw0 74 0 0) = some (false, zsI zw0 74 0 0) := isAt_0 so3
theorem eo0 : fX1_endOf 7 0 zw0 = some (1, zw0) := rfl
theorem ho0 : fX1_heightOf 7 0 zw0 = some (0, zw0) := rfl
theorem pl0 : fX1_pile 7 1 zw0 = some (13, zw0) := rfl
theorem zrm0 {v : Int32} (hv : ¬ v = -1) : fX6_remake 13 1 0 v 0 zw0 = bd (fX6_make 13 1 v (zsI zw0 13 0 0)) fun _ w => some ((), w) := by
  show (if v = -1 then _ else _) = _
  rw [if_neg hv]
  rfl
theorem eo1 : fX1_endOf 18 0 zw0 = some (1, zw0) := rfl
theorem ho1 : fX1_heightOf 18 0 zw0 = some (0, zw0) := rfl
theorem pl1 : fX1_pile 18 1 zw0 = some (24, zw0) := rfl
theorem zrm1 {v : Int32} (hv : ¬ v = -1) : fX6_remake 24 1 0 v 0 zw0 = bd (fX6_make 24 1 v (zsI zw0 24 0 0)) fun _ w => some ((), w) := by
  show (if v = -1 then _ else _) = _
  rw [if_neg hv]
  rfl
theorem eo2 : fX1_endOf 29 0 zw0 = some (1, zw0) := rfl
theorem ho2 : fX1_heightOf 29 0 zw0 = some (0, zw0) := rfl
theorem pl2 : fX1_pile 29 1 zw0 = some (35, zw0) := rfl
theorem zrm2 {v : Int32} (hv : ¬ v = -1) : fX6_remake 35 1 0 v 0 zw0 = bd (fX6_make 35 1 v (zsI zw0 35 0 0)) fun _ w => some ((), w) := by
  show (if v = -1 then _ else _) = _
  rw [if_neg hv]
  rfl
theorem eo3 : fX1_endOf 40 0 zw0 = some (1, zw0) := rfl
theorem ho3 : fX1_heightOf 40 0 zw0 = some (0, zw0) := rfl
theorem pl3 : fX1_pile 40 1 zw0 = some (46, zw0) := rfl
theorem zrm3 {v : Int32} (hv : ¬ v = -1) : fX6_remake 46 1 0 v 0 zw0 = bd (fX6_make 46 1 v (zsI zw0 46 0 0)) fun _ w => some ((), w) := by
  show (if v = -1 then _ else _) = _
  rw [if_neg hv]
  rfl
theorem al_p {r : Option (Int32 × zW)} {f f2 : zW → Option (Int32 × zW)} {p : zW → Prop} {x : Int32} {w : zW} (h1 : r = some (x, w)) (h2 : ∀ w, p w → f w = f2 w) (h3 : p w) {w1 : zW} (h4 : f2 w = some (x, w1)) : Al r f := ⟨x, w, w1, h1, (h2 w h3).trans h4⟩
theorem tk0 (w : zW) (hz : zI w 83 0 = 0 ∧ zI w 83 1 = 0) : fX8_sizeOf 0 w = some (0, w) ∧ fX8_takesItems 0 w = some (0, w) := by
  have h1 : fX8_sizeOf 0 w = some (0, w) := by
    show some (zI w 83 0 + zI w 83 1, w) = _
    rw [hz.1, hz.2]; rfl
  refine ⟨h1, ?_⟩
  unfold fX8_takesItems
  rw [h1]
  rfl
theorem sl0 (v x5 : Int32) (w : zW) (hz : zI w 83 0 = 0) : fX8_slips_L69 0 0 v 0 x5 zFU 0 w = bd (fX8_makesAgain 0 0 0 1 (zsI (zsI w 88 0 v) 83 1 0)) fun _ w28 => bd (fX8_tellsWork x5 1 w28) fun v33 w31 => some (v33, w31) := by
  have hy : zI (zsI w 88 0 v) 83 0 = 0 := hz
  show (lt (zI (zsI w 88 0 v) 83 0) fun v24 => 
      lt (fun (w25 : zW) =>
        lt (if v24 ≤ 0 then (0 : Int32) else (1 : Int32)) fun v27 =>
        bd (fX8_makesAgain 0 v27 0 (0 + (1 : Int32)) w25) fun _ w28 =>
        bd (fX8_tellsWork x5 (0 + (1 : Int32)) w28) fun v33 w31 =>
        some (v33, w31)) fun j25 =>
      if v24 ≤ 0 then
        lt (zsI (zsI w 88 0 v) 83 1 (0 - v24)) fun w35 =>
        j25 w35
      else
      lt (zsI (zsI w 88 0 v) 83 0 (v24 - 0)) fun w36 =>
      j25 w36) = _
  rw [hy]
  rfl
theorem sr0 (v : Int32) (g2 : ∀ w, fX8_isItem v w = some (true, w)) (w : zW) (hz : zI w 83 0 = 0 ∧ zI w 83 1 = 0) : fX8_slips 0 0 v w = bd (fX8_makesAgain 0 0 0 1 (zsI (zsI (zsI w 74 0 0) 88 0 v) 83 1 0)) fun _ w28 => bd (fX8_tellsWork (zI (zsI w 74 0 0) 74 23) 1 w28) fun v33 w31 => some (v33, w31) := by
  have h := tk0 (zsI w 74 0 0) hz
  have h2 : ∀ w, fX8_in (0 : Int32).toInt64 0 (0 : Int32).toInt64 w = some (true, w) := fun _ => rfl
  simp only [fX8_slips, g2, iL0, h.1, h.2, h2, bd_s, lt, if_true, if_pos (by decide : ¬ (0 : Int32) = 64)]
  exact sl0 _ _ _ hz.1
theorem tk1 (w : zW) (hz : zI w 83 2 = 0 ∧ zI w 83 3 = 0) : fX8_sizeOf 1 w = some (0, w) ∧ fX8_takesItems 1 w = some (0, w) := by
  have h1 : fX8_sizeOf 1 w = some (0, w) := by
    show some (zI w 83 2 + zI w 83 3, w) = _
    rw [hz.1, hz.2]; rfl
  refine ⟨h1, ?_⟩
  unfold fX8_takesItems
  rw [h1]
  rfl
theorem sl1 (v x5 : Int32) (w : zW) (hz : zI w 83 2 = 0) : fX8_slips_L69 1 0 v 0 x5 zFU 0 w = bd (fX8_makesAgain 1 0 0 1 (zsI (zsI w 88 0 v) 83 3 0)) fun _ w28 => bd (fX8_tellsWork x5 1 w28) fun v33 w31 => some (v33, w31) := by
  have hy : zI (zsI w 88 0 v) 83 2 = 0 := hz
  show (lt (zI (zsI w 88 0 v) 83 2) fun v24 => 
      lt (fun (w25 : zW) =>
        lt (if v24 ≤ 0 then (0 : Int32) else (1 : Int32)) fun v27 =>
        bd (fX8_makesAgain 1 v27 0 (0 + (1 : Int32)) w25) fun _ w28 =>
        bd (fX8_tellsWork x5 (0 + (1 : Int32)) w28) fun v33 w31 =>
        some (v33, w31)) fun j25 =>
      if v24 ≤ 0 then
        lt (zsI (zsI w 88 0 v) 83 3 (0 - v24)) fun w35 =>
        j25 w35
      else
      lt (zsI (zsI w 88 0 v) 83 2 (v24 - 0)) fun w36 =>
      j25 w36) = _
  rw [hy]
  rfl
theorem sr1 (v : Int32) (g2 : ∀ w, fX8_isItem v w = some (true, w)) (w : zW) (hz : zI w 83 2 = 0 ∧ zI w 83 3 = 0) : fX8_slips 1 0 v w = bd (fX8_makesAgain 1 0 0 1 (zsI (zsI (zsI w 74 0 0) 88 0 v) 83 3 0)) fun _ w28 => bd (fX8_tellsWork (zI (zsI w 74 0 0) 74 23) 1 w28) fun v33 w31 => some (v33, w31) := by
  have h := tk1 (zsI w 74 0 0) hz
  have h2 : ∀ w, fX8_in (0 : Int32).toInt64 0 (0 : Int32).toInt64 w = some (true, w) := fun _ => rfl
  simp only [fX8_slips, g2, iL1, h.1, h.2, h2, bd_s, lt, if_true, if_pos (by decide : ¬ (0 : Int32) = 64)]
  exact sl1 _ _ _ hz.1
theorem tk2 (w : zW) (hz : zI w 83 4 = 0 ∧ zI w 83 5 = 0) : fX8_sizeOf 2 w = some (0, w) ∧ fX8_takesItems 2 w = some (0, w) := by
  have h1 : fX8_sizeOf 2 w = some (0, w) := by
    show some (zI w 83 4 + zI w 83 5, w) = _
    rw [hz.1, hz.2]; rfl
  refine ⟨h1, ?_⟩
  unfold fX8_takesItems
  rw [h1]
  rfl
theorem sl2 (v x5 : Int32) (w : zW) (hz : zI w 83 4 = 0) : fX8_slips_L69 2 0 v 0 x5 zFU 0 w = bd (fX8_makesAgain 2 0 0 1 (zsI (zsI w 88 0 v) 83 5 0)) fun _ w28 => bd (fX8_tellsWork x5 1 w28) fun v33 w31 => some (v33, w31) := by
  have hy : zI (zsI w 88 0 v) 83 4 = 0 := hz
  show (lt (zI (zsI w 88 0 v) 83 4) fun v24 => 
      lt (fun (w25 : zW) =>
        lt (if v24 ≤ 0 then (0 : Int32) else (1 : Int32)) fun v27 =>
        bd (fX8_makesAgain 2 v27 0 (0 + (1 : Int32)) w25) fun _ w28 =>
        bd (fX8_tellsWork x5 (0 + (1 : Int32)) w28) fun v33 w31 =>
        some (v33, w31)) fun j25 =>
      if v24 ≤ 0 then
        lt (zsI (zsI w 88 0 v) 83 5 (0 - v24)) fun w35 =>
        j25 w35
      else
      lt (zsI (zsI w 88 0 v) 83 4 (v24 - 0)) fun w36 =>
      j25 w36) = _
  rw [hy]
  rfl
theorem sr2 (v : Int32) (g2 : ∀ w, fX8_isItem v w = some (true, w)) (w : zW) (hz : zI w 83 4 = 0 ∧ zI w 83 5 = 0) : fX8_slips 2 0 v w = bd (fX8_makesAgain 2 0 0 1 (zsI (zsI (zsI w 74 0 0) 88 0 v) 83 5 0)) fun _ w28 => bd (fX8_tellsWork (zI (zsI w 74 0 0) 74 23) 1 w28) fun v33 w31 => some (v33, w31) := by
  have h := tk2 (zsI w 74 0 0) hz
  have h2 : ∀ w, fX8_in (0 : Int32).toInt64 0 (0 : Int32).toInt64 w = some (true, w) := fun _ => rfl
  simp only [fX8_slips, g2, iL2, h.1, h.2, h2, bd_s, lt, if_true, if_pos (by decide : ¬ (0 : Int32) = 64)]
  exact sl2 _ _ _ hz.1
theorem tk3 (w : zW) (hz : zI w 83 6 = 0 ∧ zI w 83 7 = 0) : fX8_sizeOf 3 w = some (0, w) ∧ fX8_takesItems 3 w = some (0, w) := by
  have h1 : fX8_sizeOf 3 w = some (0, w) := by
    show some (zI w 83 6 + zI w 83 7, w) = _
    rw [hz.1, hz.2]; rfl
  refine ⟨h1, ?_⟩
  unfold fX8_takesItems
  rw [h1]
  rfl
theorem sl3 (v x5 : Int32) (w : zW) (hz : zI w 83 6 = 0) : fX8_slips_L69 3 0 v 0 x5 zFU 0 w = bd (fX8_makesAgain 3 0 0 1 (zsI (zsI w 88 0 v) 83 7 0)) fun _ w28 => bd (fX8_tellsWork x5 1 w28) fun v33 w31 => some (v33, w31) := by
  have hy : zI (zsI w 88 0 v) 83 6 = 0 := hz
  show (lt (zI (zsI w 88 0 v) 83 6) fun v24 => 
      lt (fun (w25 : zW) =>
        lt (if v24 ≤ 0 then (0 : Int32) else (1 : Int32)) fun v27 =>
        bd (fX8_makesAgain 3 v27 0 (0 + (1 : Int32)) w25) fun _ w28 =>
        bd (fX8_tellsWork x5 (0 + (1 : Int32)) w28) fun v33 w31 =>
        some (v33, w31)) fun j25 =>
      if v24 ≤ 0 then
        lt (zsI (zsI w 88 0 v) 83 7 (0 - v24)) fun w35 =>
        j25 w35
      else
      lt (zsI (zsI w 88 0 v) 83 6 (v24 - 0)) fun w36 =>
      j25 w36) = _
  rw [hy]
  rfl
theorem sr3 (v : Int32) (g2 : ∀ w, fX8_isItem v w = some (true, w)) (w : zW) (hz : zI w 83 6 = 0 ∧ zI w 83 7 = 0) : fX8_slips 3 0 v w = bd (fX8_makesAgain 3 0 0 1 (zsI (zsI (zsI w 74 0 0) 88 0 v) 83 7 0)) fun _ w28 => bd (fX8_tellsWork (zI (zsI w 74 0 0) 74 23) 1 w28) fun v33 w31 => some (v33, w31) := by
  have h := tk3 (zsI w 74 0 0) hz
  have h2 : ∀ w, fX8_in (0 : Int32).toInt64 0 (0 : Int32).toInt64 w = some (true, w) := fun _ => rfl
  simp only [fX8_slips, g2, iL3, h.1, h.2, h2, bd_s, lt, if_true, if_pos (by decide : ¬ (0 : Int32) = 64)]
  exact sl3 _ _ _ hz.1
theorem e6 (a b c : Int32) : Al (fX7_puts a b c zw0) (fX8_puts a b c) := by
  rcases lin a with h | h
  · exact al_w (by simp only [fX7_puts, lineAt_n _ h, lA0, lA1, lA2, lA3, bd_s, oc_n, oc_s, lt, Bool.false_eq_true, if_false, if_true]; rfl) (by simp only [fX8_puts, isLine_n _ h, iL0, iL1, iL2, iL3, bd_s, oc_n, oc_s, lt, Bool.false_eq_true, if_false, if_true]; rfl)
  rcases ed b with g | g | ⟨g, g2⟩
  rotate_left 2
  · rcases h with rfl | rfl | rfl | rfl <;> exact al_w (by simp only [fX7_puts, g, lA0, lA1, lA2, lA3, bd_s, oc_n, oc_s, lt, Bool.false_eq_true, if_false, if_true]; rfl) (by simp only [fX8_puts, g2, iL0, iL1, iL2, iL3, bd_s, oc_n, oc_s, lt, Bool.false_eq_true, if_false, if_true]; rfl)
  · subst g
    rcases itm c with ⟨-, g, g2⟩ | ⟨k1, k2, g, g2⟩
    · rcases h with rfl | rfl | rfl | rfl <;> exact al_w (by simp only [fX7_puts, g, show ∀ w, fX7_isEnd 0 w = some (true, w) from fun _ => rfl, lA0, lA1, lA2, lA3, bd_s, oc_n, oc_s, lt, Bool.false_eq_true, if_false, if_true]; rfl) (by simp only [fX8_puts, g2, show ∀ w, fX8_isEnd 0 w = some (true, w) from fun _ => rfl, iL0, iL1, iL2, iL3, bd_s, oc_n, oc_s, lt, Bool.false_eq_true, if_false, if_true]; rfl)
    · rcases h with rfl | rfl | rfl | rfl <;> exact al_w (by simp only [fX7_puts, g, show ∀ w, fX7_isEnd 0 w = some (true, w) from fun _ => rfl, lA0, lA1, lA2, lA3, bd_s, oc_n, oc_s, lt, Bool.false_eq_true, if_false, if_true]; rfl) (by simp only [fX8_puts, g2, show ∀ w, fX8_isEnd 0 w = some (true, w) from fun _ => rfl, iL0, iL1, iL2, iL3, bd_s, oc_n, oc_s, lt, Bool.false_eq_true, if_false, if_true]; rfl)
  · subst g
    rcases itm c with ⟨-, g, g2⟩ | ⟨k1, k2, g, g2⟩
    · rcases h with rfl | rfl | rfl | rfl <;> exact al_w (by simp only [fX7_puts, g, show ∀ w, fX7_isEnd 1 w = some (true, w) from fun _ => rfl, lA0, lA1, lA2, lA3, bd_s, oc_n, oc_s, lt, Bool.false_eq_true, if_false, if_true]; rfl) (by simp only [fX8_puts, g2, show ∀ w, fX8_isEnd 1 w = some (true, w) from fun _ => rfl, iL0, iL1, iL2, iL3, bd_s, oc_n, oc_s, lt, Bool.false_eq_true, if_false, if_true]; rfl)
    · rcases h with rfl | rfl | rfl | rfl <;> exact al_w (by simp only [fX7_puts, g, show ∀ w, fX7_isEnd 1 w = some (true, w) from fun _ => rfl, lA0, lA1, lA2, lA3, bd_s, oc_n, oc_s, lt, Bool.false_eq_true, if_false, if_true]; rfl) (by simp only [fX8_puts, g2, show ∀ w, fX8_isEnd 1 w = some (true, w) from fun _ => rfl, iL0, iL1, iL2, iL3, bd_s, oc_n, oc_s, lt, Bool.false_eq_true, if_false, if_true]; rfl)
theorem e7 (a b : Int32) : Al (fX7_takes a b zw0) (fX8_takes a b) := by
  rcases lin a with h | h
  · exact al_w (by simp only [fX7_takes, lineAt_n _ h, lA0, lA1, lA2, lA3, bd_s, oc_n, oc_s, lt, Bool.false_eq_true, if_false, if_true]; rfl) (by simp only [fX8_takes, isLine_n _ h, iL0, iL1, iL2, iL3, bd_s, oc_n, oc_s, lt, Bool.false_eq_true, if_false, if_true]; rfl)
  rcases ed b with g | g | ⟨g, g2⟩
  rotate_left 2
  · rcases h with rfl | rfl | rfl | rfl <;> exact al_w (by simp only [fX7_takes, g, lA0, lA1, lA2, lA3, bd_s, oc_n, oc_s, lt, Bool.false_eq_true, if_false, if_true]; rfl) (by simp only [fX8_takes, g2, iL0, iL1, iL2, iL3, bd_s, oc_n, oc_s, lt, Bool.false_eq_true, if_false, if_true]; rfl)
  · subst g; rcases h with rfl | rfl | rfl | rfl <;> exact al_c (by decide +kernel)
  · subst g; rcases h with rfl | rfl | rfl | rfl <;> exact al_c (by decide +kernel)
theorem e8 (a b : Int32) : Al (fX7_copies a b zw0) (fX8_copies a b) := by
  rcases lin a with h | h
  · rcases lin b with g | g
    · exact al_w (by simp only [fX7_copies, lineAt_n _ h, lineAt_n _ g, lA0, lA1, lA2, lA3, bd_s, oc_n, oc_s, lt, Bool.false_eq_true, if_false, if_true]; rfl) (by simp only [fX8_copies, isLine_n _ h, iL0, iL1, iL2, iL3, bd_s, oc_n, oc_s, lt, Bool.false_eq_true, if_false, if_true]; rfl)
    · rcases g with rfl | rfl | rfl | rfl <;> exact al_w (by simp only [fX7_copies, lineAt_n _ h, lA0, lA1, lA2, lA3, bd_s, oc_n, oc_s, lt, Bool.false_eq_true, if_false, if_true]; rfl) (by simp only [fX8_copies, isLine_n _ h, iL0, iL1, iL2, iL3, bd_s, oc_n, oc_s, lt, Bool.false_eq_true, if_false, if_true]; rfl)
  · rcases lin b with g | g
    · rcases h with rfl | rfl | rfl | rfl <;> exact al_w (by simp only [fX7_copies, lineAt_n _ g, lA0, lA1, lA2, lA3, bd_s, oc_n, oc_s, lt, Bool.false_eq_true, if_false, if_true]; rfl) (by simp only [fX8_copies, isLine_n _ g, iL0, iL1, iL2, iL3, bd_s, oc_n, oc_s, lt, Bool.false_eq_true, if_false, if_true]; rfl)
    · rcases h with rfl | rfl | rfl | rfl <;> rcases g with rfl | rfl | rfl | rfl <;> exact al_c (by decide +kernel)
theorem e9 (a b : Int32) : Al (fX7_joins a b zw0) (fX8_joins a b) := by
  rcases lin a with h | h
  · rcases lin b with g | g
    · exact al_w (by simp only [fX7_joins, lineAt_n _ h, lineAt_n _ g, lA0, lA1, lA2, lA3, bd_s, oc_n, oc_s, lt, Bool.false_eq_true, if_false, if_true]; rfl) (by simp only [fX8_joins, isLine_n _ h, iL0, iL1, iL2, iL3, bd_s, oc_n, oc_s, lt, Bool.false_eq_true, if_false, if_true]; rfl)
    · rcases g with rfl | rfl | rfl | rfl <;> exact al_w (by simp only [fX7_joins, lineAt_n _ h, lA0, lA1, lA2, lA3, bd_s, oc_n, oc_s, lt, Bool.false_eq_true, if_false, if_true]; rfl) (by simp only [fX8_joins, isLine_n _ h, iL0, iL1, iL2, iL3, bd_s, oc_n, oc_s, lt, Bool.false_eq_true, if_false, if_true]; rfl)
  · rcases lin b with g | g
    · rcases h with rfl | rfl | rfl | rfl <;> exact al_w (by simp only [fX7_joins, lineAt_n _ g, lA0, lA1, lA2, lA3, bd_s, oc_n, oc_s, lt, Bool.false_eq_true, if_false, if_true]; rfl) (by simp only [fX8_joins, isLine_n _ g, iL0, iL1, iL2, iL3, bd_s, oc_n, oc_s, lt, Bool.false_eq_true, if_false, if_true]; rfl)
    · rcases h with rfl | rfl | rfl | rfl <;> rcases g with rfl | rfl | rfl | rfl <;> exact al_c (by decide +kernel)
theorem e30 (a b : Int32) : Al (fX7_same a b zw0) (fX8_same a b) := by
  rcases lin a with h | h
  · rcases lin b with g | g
    · exact al_w (by simp only [fX7_same, lineAt_n _ h, lineAt_n _ g, lA0, lA1, lA2, lA3, bd_s, oc_n, oc_s, lt, Bool.false_eq_true, if_false, if_true]; rfl) (by simp only [fX8_same, isLine_n _ h, iL0, iL1, iL2, iL3, bd_s, oc_n, oc_s, lt, Bool.false_eq_true, if_false, if_true]; rfl)
    · rcases g with rfl | rfl | rfl | rfl <;> exact al_w (by simp only [fX7_same, lineAt_n _ h, lA0, lA1, lA2, lA3, bd_s, oc_n, oc_s, lt, Bool.false_eq_true, if_false, if_true]; rfl) (by simp only [fX8_same, isLine_n _ h, iL0, iL1, iL2, iL3, bd_s, oc_n, oc_s, lt, Bool.false_eq_true, if_false, if_true]; rfl)
  · rcases lin b with g | g
    · rcases h with rfl | rfl | rfl | rfl <;> exact al_w (by simp only [fX7_same, lineAt_n _ g, lA0, lA1, lA2, lA3, bd_s, oc_n, oc_s, lt, Bool.false_eq_true, if_false, if_true]; rfl) (by simp only [fX8_same, isLine_n _ g, iL0, iL1, iL2, iL3, bd_s, oc_n, oc_s, lt, Bool.false_eq_true, if_false, if_true]; rfl)
    · rcases h with rfl | rfl | rfl | rfl <;> rcases g with rfl | rfl | rfl | rfl <;> exact al_c (by decide +kernel)
theorem e10 (a c b : Int32) : Al (fX7_parts a c b zw0) (fX8_parts a c b) := by
  rcases lin a with h | h
  · rcases lin b with g | g
    · exact al_w (by simp only [fX7_parts, lineAt_n _ h, lineAt_n _ g, lA0, lA1, lA2, lA3, bd_s, oc_n, oc_s, lt, Bool.false_eq_true, if_false, if_true]; rfl) (by simp only [fX8_parts, isLine_n _ h, iL0, iL1, iL2, iL3, bd_s, oc_n, oc_s, lt, Bool.false_eq_true, if_false, if_true]; rfl)
    · rcases g with rfl | rfl | rfl | rfl <;> exact al_w (by simp only [fX7_parts, lineAt_n _ h, lA0, lA1, lA2, lA3, bd_s, oc_n, oc_s, lt, Bool.false_eq_true, if_false, if_true]; rfl) (by simp only [fX8_parts, isLine_n _ h, iL0, iL1, iL2, iL3, bd_s, oc_n, oc_s, lt, Bool.false_eq_true, if_false, if_true]; rfl)
  · rcases lin b with g | g
    · rcases h with rfl | rfl | rfl | rfl <;> exact al_w (by simp only [fX7_parts, lineAt_n _ g, lA0, lA1, lA2, lA3, bd_s, oc_n, oc_s, lt, Bool.false_eq_true, if_false, if_true]; rfl) (by simp only [fX8_parts, isLine_n _ g, iL0, iL1, iL2, iL3, bd_s, oc_n, oc_s, lt, Bool.false_eq_true, if_false, if_true]; rfl)
    · rcases tri c with k | rfl | ⟨k1, k2, k3, k4⟩
      · rcases h with rfl | rfl | rfl | rfl <;> rcases g with rfl | rfl | rfl | rfl <;> exact al_w (by simp only [fX7_parts, Int32.not_le.mpr k, lA0, lA1, lA2, lA3, bd_s, oc_n, oc_s, lt, Bool.false_eq_true, if_false, if_true]; rfl) (by simp only [fX8_parts, Int32.not_le.mpr k, iL0, iL1, iL2, iL3, bd_s, oc_n, oc_s, lt, Bool.false_eq_true, if_false, if_true]; rfl)
      · rcases h with rfl | rfl | rfl | rfl <;> rcases g with rfl | rfl | rfl | rfl <;> exact al_c (by decide +kernel)
      · rcases h with rfl | rfl | rfl | rfl <;> rcases g with rfl | rfl | rfl | rfl <;> exact al_w (by simp only [fX7_parts, k4, k3, ite_false, sz0, sz1, sz2, sz3, lA0, lA1, lA2, lA3, bd_s, oc_n, oc_s, lt, Bool.false_eq_true, if_false, if_true]; rfl) (by simp only [fX8_parts, k4, k3, ite_false, so0, so1, so2, so3, iL0, iL1, iL2, iL3, bd_s, oc_n, oc_s, lt, Bool.false_eq_true, if_false, if_true]; rfl)
theorem e11 (a : Int32) : Al (fX7_reverses a zw0) (fX8_reverses a) := by
  rcases lin a with h | h
  · exact al_w (by simp only [fX7_reverses, lineAt_n _ h, lA0, lA1, lA2, lA3, bd_s, oc_n, oc_s, lt, Bool.false_eq_true, if_false, if_true]; rfl) (by simp only [fX8_reverses, isLine_n _ h, iL0, iL1, iL2, iL3, bd_s, oc_n, oc_s, lt, Bool.false_eq_true, if_false, if_true]; rfl)
  · rcases h with rfl | rfl | rfl | rfl <;> exact al_c (by decide +kernel)
theorem e16 (a : Int32) : Al (fX7_clears a zw0) (fX8_clears a) := by
  rcases lin a with h | h
  · exact al_w (by simp only [fX7_clears, lineAt_n _ h, lA0, lA1, lA2, lA3, bd_s, oc_n, oc_s, lt, Bool.false_eq_true, if_false, if_true]; rfl) (by simp only [fX8_clears, isLine_n _ h, iL0, iL1, iL2, iL3, bd_s, oc_n, oc_s, lt, Bool.false_eq_true, if_false, if_true]; rfl)
  · rcases h with rfl | rfl | rfl | rfl <;> exact al_c (by decide +kernel)
theorem e20 (a : Int32) : Al (fX7_sum a zw0) (fX8_sum a) := by
  rcases lin a with h | h
  · exact al_w (by simp only [fX7_sum, lineAt_n _ h, lA0, lA1, lA2, lA3, bd_s, oc_n, oc_s, lt, Bool.false_eq_true, if_false, if_true]; rfl) (by simp only [fX8_sum, isLine_n _ h, iL0, iL1, iL2, iL3, bd_s, oc_n, oc_s, lt, Bool.false_eq_true, if_false, if_true]; rfl)
  · rcases h with rfl | rfl | rfl | rfl <;> exact al_c (by decide +kernel)
theorem e28 (a : Int32) : Al (fX7_drains a zw0) (fX8_drains a) := by
  rcases lin a with h | h
  · exact al_w (by simp only [fX7_drains, lineAt_n _ h, lA0, lA1, lA2, lA3, bd_s, oc_n, oc_s, lt, Bool.false_eq_true, if_false, if_true]; rfl) (by simp only [fX8_drains, isLine_n _ h, iL0, iL1, iL2, iL3, bd_s, oc_n, oc_s, lt, Bool.false_eq_true, if_false, if_true]; rfl)
  · rcases h with rfl | rfl | rfl | rfl <;> exact al_c (by decide +kernel)
theorem e29 (a : Int32) : Al (fX7_unlike a zw0) (fX8_unlike a) := by
  rcases lin a with h | h
  · exact al_w (by simp only [fX7_unlike, lineAt_n _ h, lA0, lA1, lA2, lA3, bd_s, oc_n, oc_s, lt, Bool.false_eq_true, if_false, if_true]; rfl) (by simp only [fX8_unlike, isLine_n _ h, iL0, iL1, iL2, iL3, bd_s, oc_n, oc_s, lt, Bool.false_eq_true, if_false, if_true]; rfl)
  · rcases h with rfl | rfl | rfl | rfl <;> exact al_c (by decide +kernel)
theorem e17 (a : Int32) : Al (fX7_run a zw0) (fX8_run a) := by
  rcases lin a with h | h
  · exact al_w (by simp only [fX7_run, lineAt_n _ h, lA0, lA1, lA2, lA3, bd_s, oc_n, oc_s, lt, Bool.false_eq_true, if_false, if_true]; rfl) (by simp only [fX8_run, isLine_n _ h, iL0, iL1, iL2, iL3, bd_s, oc_n, oc_s, lt, Bool.false_eq_true, if_false, if_true]; rfl)
  · rcases h with rfl | rfl | rfl | rfl <;> exact al_c (by decide +kernel)
theorem e18 (a : Int32) : Al (fX7_sign a zw0) (fX8_sign a) := by
  exact al_c rfl
theorem e24 (a b : Int32) : Al (fX7_first a b zw0) (fX8_first a b) := by
  rcases lin a with h | h
  · exact al_w (by simp only [fX7_first, lineAt_n _ h, lA0, lA1, lA2, lA3, bd_s, oc_n, oc_s, lt, Bool.false_eq_true, if_false, if_true]; rfl) (by simp only [fX8_first, isLine_n _ h, iL0, iL1, iL2, iL3, bd_s, oc_n, oc_s, lt, Bool.false_eq_true, if_false, if_true]; rfl)
  · rcases h with rfl | rfl | rfl | rfl <;> exact al_c rfl
theorem e25 (a b : Int32) : Al (fX7_longest a b zw0) (fX8_longest a b) := by
  rcases lin a with h | h
  · exact al_w (by simp only [fX7_longest, lineAt_n _ h, lA0, lA1, lA2, lA3, bd_s, oc_n, oc_s, lt, Bool.false_eq_true, if_false, if_true]; rfl) (by simp only [fX8_longest, isLine_n _ h, iL0, iL1, iL2, iL3, bd_s, oc_n, oc_s, lt, Bool.false_eq_true, if_false, if_true]; rfl)
  · rcases h with rfl | rfl | rfl | rfl <;> exact al_c rfl
theorem e27 (a b c : Int32) : Al (fX7_finds a b c zw0) (fX8_finds a b c) := by
  rcases lin a with h | h
  · exact al_w (by simp only [fX7_finds, lineAt_n _ h, lA0, lA1, lA2, lA3, bd_s, oc_n, oc_s, lt, Bool.false_eq_true, if_false, if_true]; rfl) (by simp only [fX8_finds, isLine_n _ h, iL0, iL1, iL2, iL3, bd_s, oc_n, oc_s, lt, Bool.false_eq_true, if_false, if_true]; rfl)
  · rcases h with rfl | rfl | rfl | rfl <;> exact al_c rfl
theorem e31 : Al (fX7_shared zw0) fX8_shared := al_c (by decide +kernel)
theorem e32 (a b : Int32) : Al (fX7_would a b zw0) (fX8_would a b) := by
  rcases lin a with h | h
  · exact al_w (by simp only [fX7_would, lineAt_n _ h, lA0, lA1, lA2, lA3, bd_s, oc_n, oc_s, lt, Bool.false_eq_true, if_false, if_true]; rfl) (by simp only [fX8_would, isLine_n _ h, iL0, iL1, iL2, iL3, bd_s, oc_n, oc_s, lt, Bool.false_eq_true, if_false, if_true]; rfl)
  rcases ed b with g | g | ⟨g, g2⟩
  rotate_left 2
  · rcases h with rfl | rfl | rfl | rfl <;> exact al_w (by simp only [fX7_would, g, lA0, lA1, lA2, lA3, bd_s, oc_n, oc_s, lt, Bool.false_eq_true, if_false, if_true]; rfl) (by simp only [fX8_would, g2, iL0, iL1, iL2, iL3, bd_s, oc_n, oc_s, lt, Bool.false_eq_true, if_false, if_true]; rfl)
  · subst g; rcases h with rfl | rfl | rfl | rfl <;> exact al_c (by decide +kernel)
  · subst g; rcases h with rfl | rfl | rfl | rfl <;> exact al_c (by decide +kernel)
theorem e12 (a i v : Int32) : Al (fX7_changes a i v zw0) (fX8_changes a i v) := by
  rcases lin a with h | h
  · exact al_w (by simp only [fX7_changes, lineAt_n _ h, lA0, lA1, lA2, lA3, bd_s, oc_n, oc_s, lt, Bool.false_eq_true, if_false, if_true]; rfl) (by simp only [fX8_changes, isLine_n _ h, iL0, iL1, iL2, iL3, bd_s, oc_n, oc_s, lt, Bool.false_eq_true, if_false, if_true]; rfl)
  rcases itm v with ⟨-, g, g2⟩ | ⟨k1, k2, g, g2⟩
  · rcases h with rfl | rfl | rfl | rfl <;> exact al_w (by simp only [fX7_changes, g, lA0, lA1, lA2, lA3, bd_s, oc_n, oc_s, lt, Bool.false_eq_true, if_false, if_true]; rfl) (by simp only [fX8_changes, g2, iL0, iL1, iL2, iL3, bd_s, oc_n, oc_s, lt, Bool.false_eq_true, if_false, if_true]; rfl)
  rcases tri i with k | rfl | ⟨k1, k2, k3, k4⟩
  · rcases h with rfl | rfl | rfl | rfl <;> exact al_w (by simp only [fX7_changes, g, if_pos k, lA0, lA1, lA2, lA3, bd_s, oc_n, oc_s, lt, Bool.false_eq_true, if_false, if_true]; rfl) (by simp only [fX8_changes, g2, ia0, ia1, ia2, ia3, iL0, iL1, iL2, iL3, bd_s, oc_n, oc_s, lt, Bool.false_eq_true, if_false, if_true]; rfl)
  · rcases h with rfl | rfl | rfl | rfl <;> exact al_w (by simp only [fX7_changes, g, lA0, lA1, lA2, lA3, bd_s, oc_n, oc_s, lt, Bool.false_eq_true, if_false, if_true]; rfl) (by simp only [fX8_changes, g2, ia0, ia1, ia2, ia3, iL0, iL1, iL2, iL3, bd_s, oc_n, oc_s, lt, Bool.false_eq_true, if_false, if_true]; rfl)
  · rcases h with rfl | rfl | rfl | rfl <;> exact al_w (by simp only [fX7_changes, g, if_neg k2, if_neg (Int32.not_lt.mpr k4), sz0, sz1, sz2, sz3, lA0, lA1, lA2, lA3, bd_s, oc_n, oc_s, lt, Bool.false_eq_true, if_false, if_true]; rfl) (by simp only [fX8_changes, g2, ia0, ia1, ia2, ia3, iL0, iL1, iL2, iL3, bd_s, oc_n, oc_s, lt, Bool.false_eq_true, if_false, if_true]; rfl)
theorem e13 (a i v : Int32) : Al (fX7_slips a i v zw0) (fX8_slips a i v) := by
  rcases lin a with h | h
  · exact al_w (by simp only [fX7_slips, lineAt_n _ h, lA0, lA1, lA2, lA3, bd_s, oc_n, oc_s, lt, Bool.false_eq_true, if_false, if_true]; rfl) (by simp only [fX8_slips, isLine_n _ h, iL0, iL1, iL2, iL3, bd_s, oc_n, oc_s, lt, Bool.false_eq_true, if_false, if_true]; rfl)
  rcases itm v with ⟨-, g, g2⟩ | ⟨k1, k2, g, g2⟩
  · rcases h with rfl | rfl | rfl | rfl <;> exact al_w (by simp only [fX7_slips, g, lA0, lA1, lA2, lA3, bd_s, oc_n, oc_s, lt, Bool.false_eq_true, if_false, if_true]; rfl) (by simp only [fX8_slips, g2, iL0, iL1, iL2, iL3, bd_s, oc_n, oc_s, lt, Bool.false_eq_true, if_false, if_true]; rfl)
  rcases tri i with k | rfl | ⟨k1, k2, k3, k4⟩
  · rcases h with rfl | rfl | rfl | rfl <;> exact al_w (by simp only [fX7_slips, g, if_pos k, lA0, lA1, lA2, lA3, bd_s, oc_n, oc_s, lt, Bool.false_eq_true, if_false, if_true]; rfl) (by simp only [fX8_slips, g2, so0, so1, so2, so3, show ∀ w, fX8_in i.toInt64 0 (0 : Int32).toInt64 w = some (false, w) from fun w => in_n w (.inl ((toI64_lt (n := 0) (by decide)).mpr k)), iL0, iL1, iL2, iL3, bd_s, oc_n, oc_s, lt, Bool.false_eq_true, if_false, if_true]; rfl)
  · have hv : ¬ v = -1 := fun q => k1 (by rw [q]; decide)
    rcases h with rfl | rfl | rfl | rfl
    · exact al_p (by simp only [fX7_slips, g, sz0, sz1, sz2, sz3, eo0, ho0, pl0, zrm0 hv, eo1, ho1, pl1, zrm1 hv, eo2, ho2, pl2, zrm2 hv, eo3, ho3, pl3, zrm3 hv, if_neg (by decide : ¬ (0 : Int32) < 0), if_pos (by decide : (0 : Int32) ≤ 0), if_pos (by decide : (0 : Int32) < 64), if_pos (by decide : ¬ (1 : Int32) = 0), lA0, lA1, lA2, lA3, bd_s, oc_n, oc_s, lt, Bool.false_eq_true, if_false, if_true]; rfl) (sr0 v g2) ⟨rfl, rfl⟩ rfl
    · exact al_p (by simp only [fX7_slips, g, sz0, sz1, sz2, sz3, eo0, ho0, pl0, zrm0 hv, eo1, ho1, pl1, zrm1 hv, eo2, ho2, pl2, zrm2 hv, eo3, ho3, pl3, zrm3 hv, if_neg (by decide : ¬ (0 : Int32) < 0), if_pos (by decide : (0 : Int32) ≤ 0), if_pos (by decide : (0 : Int32) < 64), if_pos (by decide : ¬ (1 : Int32) = 0), lA0, lA1, lA2, lA3, bd_s, oc_n, oc_s, lt, Bool.false_eq_true, if_false, if_true]; rfl) (sr1 v g2) ⟨rfl, rfl⟩ rfl
    · exact al_p (by simp only [fX7_slips, g, sz0, sz1, sz2, sz3, eo0, ho0, pl0, zrm0 hv, eo1, ho1, pl1, zrm1 hv, eo2, ho2, pl2, zrm2 hv, eo3, ho3, pl3, zrm3 hv, if_neg (by decide : ¬ (0 : Int32) < 0), if_pos (by decide : (0 : Int32) ≤ 0), if_pos (by decide : (0 : Int32) < 64), if_pos (by decide : ¬ (1 : Int32) = 0), lA0, lA1, lA2, lA3, bd_s, oc_n, oc_s, lt, Bool.false_eq_true, if_false, if_true]; rfl) (sr2 v g2) ⟨rfl, rfl⟩ rfl
    · exact al_p (by simp only [fX7_slips, g, sz0, sz1, sz2, sz3, eo0, ho0, pl0, zrm0 hv, eo1, ho1, pl1, zrm1 hv, eo2, ho2, pl2, zrm2 hv, eo3, ho3, pl3, zrm3 hv, if_neg (by decide : ¬ (0 : Int32) < 0), if_pos (by decide : (0 : Int32) ≤ 0), if_pos (by decide : (0 : Int32) < 64), if_pos (by decide : ¬ (1 : Int32) = 0), lA0, lA1, lA2, lA3, bd_s, oc_n, oc_s, lt, Bool.false_eq_true, if_false, if_true]; rfl) (sr3 v g2) ⟨rfl, rfl⟩ rfl
  · rcases h with rfl | rfl | rfl | rfl <;> exact al_w (by simp only [fX7_slips, g, if_neg k2, if_neg k3, sz0, sz1, sz2, sz3, lA0, lA1, lA2, lA3, bd_s, oc_n, oc_s, lt, Bool.false_eq_true, if_false, if_true]; rfl) (by simp only [fX8_slips, g2, so0, so1, so2, so3, show ∀ w, fX8_in i.toInt64 0 (0 : Int32).toInt64 w = some (false, w) from fun w => in_n w (.inr ((lt_toI64 (n := 0) (by decide)).mpr k1)), iL0, iL1, iL2, iL3, bd_s, oc_n, oc_s, lt, Bool.false_eq_true, if_false, if_true]; rfl)
theorem e14 (a i : Int32) : Al (fX7_drops a i zw0) (fX8_drops a i) := by
  rcases lin a with h | h
  · exact al_w (by simp only [fX7_drops, lineAt_n _ h, lA0, lA1, lA2, lA3, bd_s, oc_n, oc_s, lt, Bool.false_eq_true, if_false, if_true]; rfl) (by simp only [fX8_drops, isLine_n _ h, iL0, iL1, iL2, iL3, bd_s, oc_n, oc_s, lt, Bool.false_eq_true, if_false, if_true]; rfl)
  rcases tri i with k | rfl | ⟨k1, k2, k3, k4⟩
  · rcases h with rfl | rfl | rfl | rfl <;> exact al_w (by simp only [fX7_drops, if_pos k, lA0, lA1, lA2, lA3, bd_s, oc_n, oc_s, lt, Bool.false_eq_true, if_false, if_true]; rfl) (by simp only [fX8_drops, ia0, ia1, ia2, ia3, iL0, iL1, iL2, iL3, bd_s, oc_n, oc_s, lt, Bool.false_eq_true, if_false, if_true]; rfl)
  · rcases h with rfl | rfl | rfl | rfl <;> exact al_w (by simp only [fX7_drops, lA0, lA1, lA2, lA3, bd_s, oc_n, oc_s, lt, Bool.false_eq_true, if_false, if_true]; rfl) (by simp only [fX8_drops, ia0, ia1, ia2, ia3, iL0, iL1, iL2, iL3, bd_s, oc_n, oc_s, lt, Bool.false_eq_true, if_false, if_true]; rfl)
  · rcases h with rfl | rfl | rfl | rfl <;> exact al_w (by simp only [fX7_drops, if_neg k2, if_neg (Int32.not_lt.mpr k4), sz0, sz1, sz2, sz3, lA0, lA1, lA2, lA3, bd_s, oc_n, oc_s, lt, Bool.false_eq_true, if_false, if_true]; rfl) (by simp only [fX8_drops, ia0, ia1, ia2, ia3, iL0, iL1, iL2, iL3, bd_s, oc_n, oc_s, lt, Bool.false_eq_true, if_false, if_true]; rfl)
theorem n1 {n : Int32} {k : Nat} (hk : k < 2 ^ 31 := by decide) (h0 : 1 ≤ k := by decide) (h : nI k < n) : ¬ n < 1 := by
  intro q
  rw [Int32.lt_iff_toInt_lt] at h q
  rw [nI_toInt hk] at h
  rw [show (1 : Int32).toInt = 1 from rfl] at q
  omega
theorem n0 {n : Int32} (h : ¬ n < 1) : ¬ n ≤ 0 := by
  intro q
  rw [Int32.lt_iff_toInt_lt] at h
  rw [Int32.le_iff_toInt_le] at q
  rw [show (1 : Int32).toInt = 1 from rfl] at h
  rw [show (0 : Int32).toInt = 0 from rfl] at q
  omega
theorem n2 : ∀ j, j < 65 → ¬ nI j < 1 → ¬ (1 : Int32) ≤ 0 - nI j + 1 := by decide +kernel
theorem n3 {n : Int32} (h1 : ¬ n < 1) (h2 : ¬ nI 64 < n) : ¬ (1 : Int32) ≤ 0 - n + 1 := by
  rcases i01 (by decide) h2 with q | ⟨j, hj, rfl⟩
  · exfalso; apply h1
    rw [Int32.lt_iff_toInt_lt] at q ⊢
    rw [show (1 : Int32).toInt = 1 from rfl]
    rw [show (0 : Int32).toInt = 0 from rfl] at q
    omega
  · exact n2 j (by omega) h1
theorem e15 (a b n : Int32) : Al (fX7_shifts a b n zw0) (fX8_shifts a b n) := by
  rcases lin a with h | h
  · exact al_w (by simp only [fX7_shifts, lineAt_n _ h, lA0, lA1, lA2, lA3, bd_s, oc_n, oc_s, lt, Bool.false_eq_true, if_false, if_true]; rfl) (by simp only [fX8_shifts, isLine_n _ h, iL0, iL1, iL2, iL3, bd_s, oc_n, oc_s, lt, Bool.false_eq_true, if_false, if_true]; rfl)
  rcases ed b with g | g | ⟨g, g2⟩
  rotate_left 2
  · rcases h with rfl | rfl | rfl | rfl <;> exact al_w (by simp only [fX7_shifts, g, lA0, lA1, lA2, lA3, bd_s, oc_n, oc_s, lt, Bool.false_eq_true, if_false, if_true]; rfl) (by simp only [fX8_shifts, g2, iL0, iL1, iL2, iL3, bd_s, oc_n, oc_s, lt, Bool.false_eq_true, if_false, if_true]; rfl)
  · subst g
    rcases inb n (lo := 1) (hi := 64) (by decide) (by decide) with ⟨c, g⟩ | ⟨k1, k2, g⟩
    · rcases c with c | c
      · rcases h with rfl | rfl | rfl | rfl <;> exact al_w (by simp only [fX7_shifts, show ∀ w, fX7_isEnd 0 w = some (true, w) from fun _ => rfl, if_pos (show n < 1 from c), lA0, lA1, lA2, lA3, bd_s, oc_n, oc_s, lt, Bool.false_eq_true, if_false, if_true]; rfl) (by simp only [fX8_shifts, show ∀ w, fX8_isEnd 0 w = some (true, w) from fun _ => rfl, show ∀ w, fX8_in n.toInt64 1 64 w = some (false, w) from g, iL0, iL1, iL2, iL3, bd_s, oc_n, oc_s, lt, Bool.false_eq_true, if_false, if_true]; rfl)
      · rcases h with rfl | rfl | rfl | rfl <;> exact al_w (by simp only [fX7_shifts, show ∀ w, fX7_isEnd 0 w = some (true, w) from fun _ => rfl, if_neg (show ¬ n < 1 from n1 (k := 64) (h := c)), if_neg (show ¬ n ≤ 64 from Int32.not_le.mpr c), lA0, lA1, lA2, lA3, bd_s, oc_n, oc_s, lt, Bool.false_eq_true, if_false, if_true]; rfl) (by simp only [fX8_shifts, show ∀ w, fX8_isEnd 0 w = some (true, w) from fun _ => rfl, show ∀ w, fX8_in n.toInt64 1 64 w = some (false, w) from g, iL0, iL1, iL2, iL3, bd_s, oc_n, oc_s, lt, Bool.false_eq_true, if_false, if_true]; rfl)
    · rcases h with rfl | rfl | rfl | rfl <;> exact al_w (by simp only [fX7_shifts, show ∀ w, fX7_isEnd 0 w = some (true, w) from fun _ => rfl, if_neg (show ¬ n < 1 from k1), if_pos (show n ≤ 64 from Int32.not_lt.mp k2), sz0, sz1, sz2, sz3, lA0, lA1, lA2, lA3, bd_s, oc_n, oc_s, lt, Bool.false_eq_true, if_false, if_true]; rfl) (by simp only [fX8_shifts, show ∀ w, fX8_isEnd 0 w = some (true, w) from fun _ => rfl, show ∀ w, fX8_in n.toInt64 1 64 w = some (true, w) from g, so0, so1, so2, so3, iL0, iL1, iL2, iL3, bd_s, oc_n, oc_s, lt, Bool.false_eq_true, if_false, if_true]; rfl)
  · subst g
    rcases inb n (lo := 1) (hi := 64) (by decide) (by decide) with ⟨c, g⟩ | ⟨k1, k2, g⟩
    · rcases c with c | c
      · rcases h with rfl | rfl | rfl | rfl <;> exact al_w (by simp only [fX7_shifts, show ∀ w, fX7_isEnd 1 w = some (true, w) from fun _ => rfl, if_pos (show n < 1 from c), lA0, lA1, lA2, lA3, bd_s, oc_n, oc_s, lt, Bool.false_eq_true, if_false, if_true]; rfl) (by simp only [fX8_shifts, show ∀ w, fX8_isEnd 1 w = some (true, w) from fun _ => rfl, show ∀ w, fX8_in n.toInt64 1 64 w = some (false, w) from g, iL0, iL1, iL2, iL3, bd_s, oc_n, oc_s, lt, Bool.false_eq_true, if_false, if_true]; rfl)
      · rcases h with rfl | rfl | rfl | rfl <;> exact al_w (by simp only [fX7_shifts, show ∀ w, fX7_isEnd 1 w = some (true, w) from fun _ => rfl, if_neg (show ¬ n < 1 from n1 (k := 64) (h := c)), if_neg (show ¬ n ≤ 64 from Int32.not_le.mpr c), lA0, lA1, lA2, lA3, bd_s, oc_n, oc_s, lt, Bool.false_eq_true, if_false, if_true]; rfl) (by simp only [fX8_shifts, show ∀ w, fX8_isEnd 1 w = some (true, w) from fun _ => rfl, show ∀ w, fX8_in n.toInt64 1 64 w = some (false, w) from g, iL0, iL1, iL2, iL3, bd_s, oc_n, oc_s, lt, Bool.false_eq_true, if_false, if_true]; rfl)
    · rcases h with rfl | rfl | rfl | rfl <;> exact al_w (by simp only [fX7_shifts, show ∀ w, fX7_isEnd 1 w = some (true, w) from fun _ => rfl, if_neg (show ¬ n < 1 from k1), if_pos (show n ≤ 64 from Int32.not_lt.mp k2), sz0, sz1, sz2, sz3, lA0, lA1, lA2, lA3, bd_s, oc_n, oc_s, lt, Bool.false_eq_true, if_false, if_true]; rfl) (by simp only [fX8_shifts, show ∀ w, fX8_isEnd 1 w = some (true, w) from fun _ => rfl, show ∀ w, fX8_in n.toInt64 1 64 w = some (true, w) from g, so0, so1, so2, so3, iL0, iL1, iL2, iL3, bd_s, oc_n, oc_s, lt, Bool.false_eq_true, if_false, if_true]; rfl)
theorem e23 (a n : Int32) : Al (fX7_windows a n zw0) (fX8_windows a n) := by
  rcases lin a with h | h
  · exact al_w (by simp only [fX7_windows, lineAt_n _ h, lA0, lA1, lA2, lA3, bd_s, oc_n, oc_s, lt, Bool.false_eq_true, if_false, if_true]; rfl) (by simp only [fX8_windows, isLine_n _ h, iL0, iL1, iL2, iL3, bd_s, oc_n, oc_s, lt, Bool.false_eq_true, if_false, if_true]; rfl)
  rcases inb n (lo := 1) (hi := 64) (by decide) (by decide) with ⟨c, g⟩ | ⟨k1, k2, g⟩
  · rcases c with c | c
    · rcases h with rfl | rfl | rfl | rfl <;> exact al_w (by simp only [fX7_windows, if_pos (show n < 1 from c), lA0, lA1, lA2, lA3, bd_s, oc_n, oc_s, lt, Bool.false_eq_true, if_false, if_true]; rfl) (by simp only [fX8_windows, show ∀ w, fX8_in n.toInt64 1 64 w = some (false, w) from g, iL0, iL1, iL2, iL3, bd_s, oc_n, oc_s, lt, Bool.false_eq_true, if_false, if_true]; rfl)
    · rcases h with rfl | rfl | rfl | rfl <;> exact al_w (by simp only [fX7_windows, if_neg (show ¬ n < 1 from n1 (k := 64) (h := c)), if_neg (show ¬ n ≤ 64 from Int32.not_le.mpr c), lA0, lA1, lA2, lA3, bd_s, oc_n, oc_s, lt, Bool.false_eq_true, if_false, if_true]; rfl) (by simp only [fX8_windows, show ∀ w, fX8_in n.toInt64 1 64 w = some (false, w) from g, iL0, iL1, iL2, iL3, bd_s, oc_n, oc_s, lt, Bool.false_eq_true, if_false, if_true]; rfl)
  · rcases h with rfl | rfl | rfl | rfl <;> exact al_w (by simp only [fX7_windows, if_neg (show ¬ n < 1 from k1), if_pos (show n ≤ 64 from Int32.not_lt.mp k2), sz0, sz1, sz2, sz3, if_neg (n3 k1 k2), lA0, lA1, lA2, lA3, bd_s, oc_n, oc_s, lt, Bool.false_eq_true, if_false, if_true]; rfl) (by simp only [fX8_windows, show ∀ w, fX8_in n.toInt64 1 64 w = some (true, w) from g, so0, so1, so2, so3, if_neg (n3 k1 k2), iL0, iL1, iL2, iL3, bd_s, oc_n, oc_s, lt, Bool.false_eq_true, if_false, if_true]; rfl)
theorem e26 (a n : Int32) : Al (fX7_greatest a n zw0) (fX8_greatest a n) := by
  rcases lin a with h | h
  · exact al_w (by simp only [fX7_greatest, lineAt_n _ h, lA0, lA1, lA2, lA3, bd_s, oc_n, oc_s, lt, Bool.false_eq_true, if_false, if_true]; rfl) (by simp only [fX8_greatest, isLine_n _ h, iL0, iL1, iL2, iL3, bd_s, oc_n, oc_s, lt, Bool.false_eq_true, if_false, if_true]; rfl)
  rcases inb n (lo := 1) (hi := 64) (by decide) (by decide) with ⟨c, g⟩ | ⟨k1, k2, g⟩
  · rcases c with c | c
    · rcases h with rfl | rfl | rfl | rfl <;> exact al_w (by simp only [fX7_greatest, if_pos (show n < 1 from c), lA0, lA1, lA2, lA3, bd_s, oc_n, oc_s, lt, Bool.false_eq_true, if_false, if_true]; rfl) (by simp only [fX8_greatest, show ∀ w, fX8_in n.toInt64 1 64 w = some (false, w) from g, iL0, iL1, iL2, iL3, bd_s, oc_n, oc_s, lt, Bool.false_eq_true, if_false, if_true]; rfl)
    · rcases h with rfl | rfl | rfl | rfl <;> exact al_w (by simp only [fX7_greatest, if_neg (show ¬ n < 1 from n1 (k := 64) (h := c)), if_neg (show ¬ n ≤ 64 from Int32.not_le.mpr c), lA0, lA1, lA2, lA3, bd_s, oc_n, oc_s, lt, Bool.false_eq_true, if_false, if_true]; rfl) (by simp only [fX8_greatest, show ∀ w, fX8_in n.toInt64 1 64 w = some (false, w) from g, iL0, iL1, iL2, iL3, bd_s, oc_n, oc_s, lt, Bool.false_eq_true, if_false, if_true]; rfl)
  · rcases h with rfl | rfl | rfl | rfl <;> exact al_w (by simp only [fX7_greatest, if_neg (show ¬ n < 1 from k1), if_pos (show n ≤ 64 from Int32.not_lt.mp k2), sz0, sz1, sz2, sz3, if_neg (n0 k1), lA0, lA1, lA2, lA3, bd_s, oc_n, oc_s, lt, Bool.false_eq_true, if_false, if_true]; rfl) (by simp only [fX8_greatest, show ∀ w, fX8_in n.toInt64 1 64 w = some (true, w) from g, so0, so1, so2, so3, if_neg (n3 k1 k2), iL0, iL1, iL2, iL3, bd_s, oc_n, oc_s, lt, Bool.false_eq_true, if_false, if_true]; rfl)
theorem e33 (a n : Int32) : Al (fX7_dearest a n zw0) (fX8_dearest a n) := by
  rcases lin a with h | h
  · exact al_w (by simp only [fX7_dearest, lineAt_n _ h, lA0, lA1, lA2, lA3, bd_s, oc_n, oc_s, lt, Bool.false_eq_true, if_false, if_true]; rfl) (by simp only [fX8_dearest, isLine_n _ h, iL0, iL1, iL2, iL3, bd_s, oc_n, oc_s, lt, Bool.false_eq_true, if_false, if_true]; rfl)
  rcases inb n (lo := 1) (hi := 12) (by decide) (by decide) with ⟨c, g⟩ | ⟨k1, k2, g⟩
  · rcases c with c | c
    · rcases h with rfl | rfl | rfl | rfl <;> exact al_w (by simp only [fX7_dearest, if_pos (show n < 1 from c), lA0, lA1, lA2, lA3, bd_s, oc_n, oc_s, lt, Bool.false_eq_true, if_false, if_true]; rfl) (by simp only [fX8_dearest, show ∀ w, fX8_in n.toInt64 1 12 w = some (false, w) from g, iL0, iL1, iL2, iL3, bd_s, oc_n, oc_s, lt, Bool.false_eq_true, if_false, if_true]; rfl)
    · rcases h with rfl | rfl | rfl | rfl <;> exact al_w (by simp only [fX7_dearest, if_neg (show ¬ n < 1 from n1 (k := 12) (h := c)), if_neg (show ¬ n ≤ 12 from Int32.not_le.mpr c), lA0, lA1, lA2, lA3, bd_s, oc_n, oc_s, lt, Bool.false_eq_true, if_false, if_true]; rfl) (by simp only [fX8_dearest, show ∀ w, fX8_in n.toInt64 1 12 w = some (false, w) from g, iL0, iL1, iL2, iL3, bd_s, oc_n, oc_s, lt, Bool.false_eq_true, if_false, if_true]; rfl)
  · rcases h with rfl | rfl | rfl | rfl <;> exact al_w (by simp only [fX7_dearest, if_neg (show ¬ n < 1 from k1), if_pos (show n ≤ 12 from Int32.not_lt.mp k2), sz0, sz1, sz2, sz3, if_neg (n0 k1), lA0, lA1, lA2, lA3, bd_s, oc_n, oc_s, lt, Bool.false_eq_true, if_false, if_true]; rfl) (by simp only [fX8_dearest, show ∀ w, fX8_in n.toInt64 1 12 w = some (true, w) from g, so0, so1, so2, so3, if_neg (n0 k1), iL0, iL1, iL2, iL3, bd_s, oc_n, oc_s, lt, Bool.false_eq_true, if_false, if_true]; rfl)
theorem e22 (a i j : Int32) : Al (fX7_part a i j zw0) (fX8_part a i j) := by
  rcases lin a with h | h
  · exact al_w (by simp only [fX7_part, lineAt_n _ h, lA0, lA1, lA2, lA3, bd_s, oc_n, oc_s, lt, Bool.false_eq_true, if_false, if_true]; rfl) (by simp only [fX8_part, isLine_n _ h, iL0, iL1, iL2, iL3, bd_s, oc_n, oc_s, lt, Bool.false_eq_true, if_false, if_true]; rfl)
  by_cases c1 : i < 0
  · rcases h with rfl | rfl | rfl | rfl <;> exact al_w (by simp only [fX7_part, if_pos c1, lA0, lA1, lA2, lA3, bd_s, oc_n, oc_s, lt, Bool.false_eq_true, if_false, if_true]; rfl) (by simp only [fX8_part, if_pos c1, iL0, iL1, iL2, iL3, bd_s, oc_n, oc_s, lt, Bool.false_eq_true, if_false, if_true]; rfl)
  by_cases c2 : j < i
  · rcases h with rfl | rfl | rfl | rfl <;> exact al_w (by simp only [fX7_part, if_neg c1, if_pos c2, lA0, lA1, lA2, lA3, bd_s, oc_n, oc_s, lt, Bool.false_eq_true, if_false, if_true]; rfl) (by simp only [fX8_part, if_neg c1, if_pos c2, iL0, iL1, iL2, iL3, bd_s, oc_n, oc_s, lt, Bool.false_eq_true, if_false, if_true]; rfl)
  by_cases c3 : j ≤ 0
  · have e1 : j = 0 := Int32.le_antisymm c3 (Int32.le_trans (Int32.not_lt.mp c1) (Int32.not_lt.mp c2))
    subst e1
    have e2 : i = 0 := Int32.le_antisymm (Int32.not_lt.mp c2) (Int32.not_lt.mp c1)
    subst e2
    rcases h with rfl | rfl | rfl | rfl <;> exact al_c (by decide +kernel)
  · rcases h with rfl | rfl | rfl | rfl <;> exact al_w (by simp only [fX7_part, if_neg c1, if_neg c2, if_neg c3, sz0, sz1, sz2, sz3, lA0, lA1, lA2, lA3, bd_s, oc_n, oc_s, lt, Bool.false_eq_true, if_false, if_true]; rfl) (by simp only [fX8_part, if_neg c1, if_neg c2, if_neg c3, so0, so1, so2, so3, iL0, iL1, iL2, iL3, bd_s, oc_n, oc_s, lt, Bool.false_eq_true, if_false, if_true]; rfl)
theorem e34 (a : Int32) : Al (fX7_count a zw0) (fX8_count a) := by
  by_cases c0 : a = 0
  · subst c0; exact al_c (by decide +kernel)
  by_cases c1 : a = 1
  · subst c1; exact al_c (by decide +kernel)
  by_cases c2 : a = 2
  · subst c2; exact al_c (by decide +kernel)
  by_cases c3 : a = 3
  · subst c3; exact al_c (by decide +kernel)
  by_cases c4 : a = 4
  · subst c4; exact al_c (by decide +kernel)
  by_cases c5 : a = 5
  · subst c5; exact al_c (by decide +kernel)
  by_cases c6 : a = 6
  · subst c6; exact al_c (by decide +kernel)
  by_cases c7 : a = 7
  · subst c7; exact al_c (by decide +kernel)
  by_cases c8 : a = 8
  · subst c8; exact al_c (by decide +kernel)
  by_cases c9 : a = 9
  · subst c9; exact al_c (by decide +kernel)
  by_cases c10 : a = 10
  · subst c10; exact al_c (by decide +kernel)
  exact al_w (by simp only [fX7_count, if_neg c0, if_neg c1, if_neg c2, if_neg c3, if_neg c4, if_neg c5, if_neg c6, if_neg c7, if_neg c8, if_neg c9, if_neg c10]; rfl) (by simp only [fX8_count, if_neg c0, if_neg c1, if_neg c2, if_neg c3, if_neg c4, if_neg c5, if_neg c6, if_neg c7, if_neg c8, if_neg c9, if_neg c10, lt]; rfl)
theorem e0 (a : Int32) : Al (fX7_rule a zw0) (fX8_rule a) := by
  rcases inb a (lo := 0) (hi := 7) (by decide) (by decide) with ⟨c, h⟩ | ⟨h1, h2, h⟩
  · refine al_w (w := zw0) (x := -1) ?_ (w' := zsI zw0 74 0 0) ?_
    · unfold fX7_rule
      by_cases c1 : a < 0
      · rw [if_pos c1]
      · rw [if_neg c1, if_neg (Int32.not_le.mpr (show (7 : Int32) < a from c.resolve_left c1))]
    · have h' := h (zsI zw0 74 0 0)
      simp only [fX8_rule, lt, show (0 : Int64) = lN 0 from rfl, show (7 : Int64) = lN 7 from rfl, h', bd_s, Bool.false_eq_true, if_false]
  · have : a = 0 ∨ a = 1 ∨ a = 2 ∨ a = 3 ∨ a = 4 ∨ a = 5 ∨ a = 6 ∨ a = 7 := by
      rcases pk_ix a (n := 8) (by decide) with q | q | ⟨j, hj, rfl⟩
      · exact absurd q h1
      · exfalso; apply h2
        have e := Int32.le_iff_toInt_le.mp q
        rw [nI_toInt (by decide)] at e
        rw [Int32.lt_iff_toInt_lt, nI_toInt (by decide)]
        omega
      · rcases (show j = 0 ∨ j = 1 ∨ j = 2 ∨ j = 3 ∨ j = 4 ∨ j = 5 ∨ j = 6 ∨ j = 7 by omega) with rfl | rfl | rfl | rfl | rfl | rfl | rfl | rfl <;> decide
    rcases this with rfl | rfl | rfl | rfl | rfl | rfl | rfl | rfl <;> exact al_c (by decide +kernel)
theorem e1 : Al (fX7_table zw0) fX8_table := al_c (by decide +kernel)
-- rule 0 on a fresh object
theorem tell2_ok (a b : Int64) (w : zW) : ∃ w', fX7_tell_ a b w = some ((), w') ∧ ∀ k j, 74 ≤ k → w'.1 k j = w.1 k j := by
  refine ⟨_, rfl, fun k j h => ?_⟩
  show zI (zsI (zsL (zsI (zsL (zsI w 0 8 0) 71 0 a) 0 8 1) 71 1 b) 0 8 2) k j = zI w k j
  rw [zI_zsI, if_neg (by omega), zI_zsL, zI_zsI, if_neg (by omega), zI_zsL, zI_zsI, if_neg (by omega)]
theorem ent_ok2 (a : Int64) (w : zW) (h : zI w 74 1 = 0) : ∃ w', fX8_enters a w = some ((), w') ∧ zI w' 74 1 = 1 := by
  unfold fX8_enters
  rw [h]
  refine ⟨_, rfl, ?_⟩
  show zI (zsL w 75 0 a) 74 1 + 1 = 1
  rw [zI_zsL, h]
  rfl
theorem ent_ok1 (a : Int64) (w : zW) (h : zI w 74 1 = 1) : ∃ w', fX8_enters a w = some ((), w') ∧ zI w' 74 1 = 2 := by
  unfold fX8_enters
  rw [h]
  refine ⟨_, rfl, ?_⟩
  show zI (zsL w 75 1 a) 74 1 + 1 = 2
  rw [zI_zsL, h]
  rfl
def S0 (v : Int32) (m : Nat) : Int64 × Int64 := (Int64.ofNat m * v.toInt64, Int64.ofNat m)
theorem S0_s (v : Int32) (a b : Nat) : ((S0 v a).1 + (S0 v b).1 = (S0 v (a + b)).1) ∧ (S0 v a).2 + (S0 v b).2 = (S0 v (a + b)).2 := by
  unfold S0
  dsimp only
  rw [← Int64.add_mul, Int64.ofNat_add]
  exact ⟨rfl, rfl⟩
theorem S0_1 (v : Int32) : S0 v 1 = (v.toInt64, 1) := by
  unfold S0
  rw [show Int64.ofNat 1 = 1 from rfl, Int64.one_mul]
theorem ep0 {c : Nat → Nat → Int32} (hc : c 1 0 = 0) (v : Int32) (w : zW) (hw : w.1 = c) : fX0_elementP v w = some (v.toInt64, w) ∧ fX0_elementQ v w = some (1, w) ∧ fX0_emptyP w = some (0, w) ∧ fX0_emptyQ w = some (0, w) := by
  have h : zI w 1 0 = 0 := by show w.1 1 0 = 0; rw [hw, hc]
  refine ⟨?_, ?_, ?_, ?_⟩
  · simp only [fX0_elementP, h]; rfl
  · simp only [fX0_elementQ, h]; rfl
  · simp only [fX0_emptyP, h]; rfl
  · simp only [fX0_emptyQ, h]; rfl
theorem st0 {c : Nat → Nat → Int32} (hc : c 1 0 = 0) (v : Int32) (w : zW) (hw : w.1 = c) : fX0_start v w = some ((), zsL (zsL w 1 2 (S0 v 1).1) 1 3 (S0 v 1).2) := by
  have h := ep0 hc v w hw
  simp only [fX0_start, h.1, h.2.1, fX0_startWith, lt, bd_s, S0_1]
theorem jn0 {c : Nat → Nat → Int32} (hc : c 1 0 = 0) (p q r t : Int64) (w : zW) (hw : w.1 = c) : fX0_join p q r t w = some ((), zsL (zsL w 1 2 (p + r)) 1 3 (q + t)) := by
  have h : zI w 1 0 = 0 := by show w.1 1 0 = 0; rw [hw, hc]
  simp only [fX0_join, fX0_startWith, h, lt, bd_s]
  rfl
theorem fo0 {c : Nat → Nat → Int32} (hc : c 1 0 = 0) (v : Int32) (w : zW) (hw : w.1 = c) : fX0_follow v w = some ((), zsL (zsL w 1 2 (zL w 1 2 + (S0 v 1).1)) 1 3 (zL w 1 3 + (S0 v 1).2)) := by
  have h := ep0 hc v w hw
  simp only [fX0_follow, h.1, h.2.1, bd_s, jn0 hc _ _ _ _ w hw, S0_1]
theorem el0 {c : Nat → Nat → Int32} (hc : c 74 7 = 0) (v : Int32) (w : zW) (hw : w.1 = c) : fX8_element v w = some ((), zsL (zsL w 74 11 (S0 v 1).1) 74 12 (S0 v 1).2) := by
  have h : zI w 74 7 = 0 := by show w.1 74 7 = 0; rw [hw, hc]
  simp only [fX8_element, fX8_is, h, lt, bd_s, S0_1, if_true]
theorem jo0 {c : Nat → Nat → Int32} (hc : c 74 7 = 0) (p q r t : Int64) (w : zW) (hw : w.1 = c) : fX8_join p q r t w = some ((), zsL (zsL w 74 11 (p + r)) 74 12 (q + t)) := by
  have h : zI w 74 7 = 0 := by show w.1 74 7 = 0; rw [hw, hc]
  simp only [fX8_join, fX8_is, h, lt, bd_s, if_true]
theorem em0 {c : Nat → Nat → Int32} (hc : c 74 7 = 0) (w : zW) (hw : w.1 = c) : fX8_empty w = some ((), zsL (zsL w 74 11 0) 74 12 0) := by
  have h : zI w 74 7 = 0 := by show w.1 74 7 = 0; rw [hw, hc]
  simp only [fX8_empty, fX8_is, h, lt, bd_s]
  rfl
theorem S0_0 (v : Int32) : S0 v 0 = (0, 0) := by
  unfold S0
  rw [show Int64.ofNat 0 = 0 from rfl, Int64.zero_mul]
theorem no0 (v : Int32) : NoRep (S0 v) 1 := fun k hk j a b => by omega
theorem itN {v : Int32} (h1 : ¬ v < 0) (h2 : ¬ 9999 < v) : ∃ j, j < 10000 ∧ v = nI j := by
  rcases pk_ix v (n := 10000) (by decide) with q | q | ⟨j, hj, e⟩
  · exact absurd q h1
  · exfalso; apply h2
    have e := Int32.le_iff_toInt_le.mp q
    rw [nI_toInt (by decide)] at e
    rw [Int32.lt_iff_toInt_lt, show (9999 : Int32).toInt = 9999 from rfl]
    omega
  · exact ⟨j, hj, e⟩
theorem rd1 (w : zW) (p q : Int64) : zL (zsL (zsL w 81 1 p) 82 1 q) 81 1 = p ∧ zL (zsL (zsL w 81 1 p) 82 1 q) 82 1 = q := ⟨rfl, rfl⟩
theorem e4_a (a : Int32) : ∃ x w, Ord (S0 a) x ∧ (∀ k j, 74 ≤ k → w.1 k j = zw0.1 k j) ∧ fX7_order_L18 a zFU (nI (0 + 1)) (zsL (zsL zw0 1 2 0) 1 3 0) = some (x, w) := by
  have hFU : zFU = 18446744073709551616 := rfl
  have h0 := S0_0 a
  exact ol7 (c := zw0.1) (S := S0 a) (v := a) (fun w m hw hm hp hq => by rw [fo0 rfl a w hw, hp, hq, (S0_s a m 1).1, (S0_s a m 1).2]) zFU 0 (zsL (zsL zw0 1 2 0) 1 3 0) (by omega) (by omega) rfl (by rw [S0_0]; rfl) (by rw [S0_0]; rfl) (fun i a b => by omega) (fun k hk j a b => by omega)
theorem e4_b (a : Int32) (w : zW) (hc : w.1 74 7 = 0) : ∃ x w', Ord (S0 a) x ∧ fX8_order_L48 (S0 a 1).1 (S0 a 1).2 zFU (nI (1 + 1)) (zsL (zsL (zsL (zsL w 74 11 (S0 a 1).1) 74 12 (S0 a 1).2) 81 1 (S0 a 1).1) 82 1 (S0 a 1).2) = some (x, w') := by
  have hFU : zFU = 18446744073709551616 := rfl
  exact ol8 (c := w.1) (S := S0 a) (x2 := (S0 a 1).1) (x4 := (S0 a 1).2) (fun w m hw h1 hm => by rw [jo0 hc _ _ _ _ w hw, (S0_s a m 1).1, (S0_s a m 1).2]) zFU 1 _ (Nat.le_refl 1) (by omega) (by omega) rfl (fun i i1 i2 => by
      have : i = 1 := by omega
      subst this
      exact rd1 _ _ _) (no0 a)
theorem e4_c (a : Int32) (g : ∀ w, fX7_isItem a w = some (true, w)) (r : Option (Int32 × zW)) (h : fX7_order_L18 a zFU (nI (0 + 1)) (zsL (zsL zw0 1 2 0) 1 3 0) = r) : fX7_order a zw0 = r := by
  have h7 : fX0_startEmpty zw0 = some ((), zsL (zsL zw0 1 2 0) 1 3 0) := rfl
  simp only [fX7_order, g, bd_s, if_true, h7]
  exact h
theorem lt_e {α β : Type} (x : α) (f : α → β) : lt x f = f x := rfl
theorem zin1 : zin (1 : Int32) 129 = true := rfl
theorem cl1 : (1 : Int32).toNatClampNeg = 1 := rfl
theorem rdp (w : zW) (p q : Int64) : zL (zsL (zsL w 74 11 p) 74 12 q) 74 11 = p := rfl
theorem rdq (w : zW) (p q : Int64) : zL (zsL (zsL w 74 11 p) 74 12 q) 74 12 = q := rfl
theorem nI11 : nI (1 + 1) = 2 := rfl
theorem e4_d {a : Int32} (g2 : ∀ w, fX8_isItem a w = some (true, w)) {w : zW} {p q : Int64} (he : fX8_element a (zsI w 74 0 0) = some ((), zsL (zsL (zsI w 74 0 0) 74 11 p) 74 12 q)) {r : Option (Int32 × zW)} (h : fX8_order_L48 p q zFU (nI (1 + 1)) (zsL (zsL (zsL (zsL (zsI w 74 0 0) 74 11 p) 74 12 q) 81 1 p) 82 1 q) = r) : fX8_order a w = r := by
  rw [nI11] at h
  rw [fX8_order, lt_e, g2, bd_s, if_pos rfl, he, bd_s, lt_e, lt_e, zin1, zg_t, lt_e, zg_t, lt_e, rdp, rdq, cl1, h]
theorem e4 (a : Int32) : Al (fX7_order a zw0) (fX8_order a) := by
  rcases itm a with ⟨-, g, g2⟩ | ⟨k1, k2, g, g2⟩
  · exact al_w (x := -1) (w := zw0) (by simp only [fX7_order, g, bd_s, Bool.false_eq_true, if_false]) (by simp only [fX8_order, g2, lt, bd_s, Bool.false_eq_true, if_false]; rfl)
  · obtain ⟨x, w, hx, hU, ex⟩ := e4_a a
    have hc : (zsI w 74 0 0).1 74 7 = 0 := hU 74 7 (by omega)
    obtain ⟨y, w', hy, ey⟩ := e4_b a (zsI w 74 0 0) hc
    have := ord_u hx hy
    subst this
    exact ⟨x, w, w', e4_c a g _ ex, e4_d g2 (el0 hc a _ rfl) ey⟩
theorem S0_d (a : Int32) (n : Nat) (h : n % 2 = 0) : S0 a (n / 2 + n / 2) = S0 a n := by rw [show n / 2 + n / 2 = n by omega]
theorem e3 (a b : Int32) : Al (fX7_powers a b zw0) (fX8_powers a b) := by
  rcases itm a with ⟨-, g, g2⟩ | ⟨k1, k2, g, g2⟩
  · exact al_w (x := -1) (w := zw0) (by simp only [fX7_powers, g, bd_s, Bool.false_eq_true, if_false]) (by simp only [fX8_powers, g2, lt, bd_s, Bool.false_eq_true, if_false]; rfl)
  · rcases inb b (lo := 0) (hi := 1000000000) (by decide) (by decide) with ⟨c, h⟩ | ⟨h1, h2, h⟩
    · have h' : ∀ w, fX8_in b.toInt64 0 1000000000 w = some (false, w) := h
      rcases c with c | c
      · exact al_w (x := -1) (w := zw0) (by simp only [fX7_powers, g, bd_s, if_true]; rw [if_pos (show b < 0 from c)]) (by simp only [fX8_powers, g2, h', lt, bd_s, Bool.false_eq_true, if_false, if_true]; rfl)
      · exact al_w (x := -1) (w := zw0) (by simp only [fX7_powers, g, bd_s, if_true]; rw [if_neg (show ¬ b < 0 from fun q => by
          have c' : nI 1000000000 < b := c
          rw [Int32.lt_iff_toInt_lt, nI_toInt (by decide)] at c'
          rw [Int32.lt_iff_toInt_lt, show (0 : Int32).toInt = 0 from rfl] at q
          omega), if_neg (Int32.not_le.mpr (show (1000000000 : Int32) < b from c))]) (by simp only [fX8_powers, g2, h', lt, bd_s, Bool.false_eq_true, if_false, if_true]; rfl)
    · have h' : ∀ w, fX8_in b.toInt64 0 1000000000 w = some (true, w) := h
      rcases i01 (by decide) h2 with q | ⟨N, hN, rfl⟩
      · exact absurd q h1
      have hN2 : N < 2 ^ 30 := by omega
      have hFU : zFU = 18446744073709551616 := rfl
      have hs0 : fX0_startEmpty zw0 = some ((), zsL (zsL zw0 1 2 0) 1 3 0) := rfl
      have hb0 : N / 2 ^ 31 = 0 := Nat.div_eq_of_lt (by omega)
      obtain ⟨w1, k3, k4, k5, k6⟩ := pw7 (c := zw0.1) (v := a) (P := S0 a) (D := fun n => S0 a (n / 2 + n / 2)) (fun w hw => st0 rfl a w hw) (fun w n hw hn hn2 => by rw [jn0 rfl _ _ _ _ w hw, (S0_s a _ _).1, (S0_s a _ _).2]) (fun w n hw hn hn2 hn3 hp hq => by
        rw [fo0 rfl a w hw, hp, hq, (S0_s a _ _).1, (S0_s a _ _).2, show n / 2 + n / 2 + 1 = n by omega]) (S0_d a) hN2 zFU 31 (zsL (zsL zw0 1 2 0) 1 3 0) (Nat.le_refl 31) (by omega) rfl (by rw [hb0, S0_0]; rfl) (by rw [hb0, S0_0]; rfl)
      rw [hb0, cn_0 (by decide)] at k6
      have e7 : ∃ w, fX7_powers a (nI N) zw0 = some (nI (cn N), w) ∧ ∀ k j, 74 ≤ k → w.1 k j = zw0.1 k j := by
        simp only [fX7_powers, g, bd_s, if_true, if_neg (show ¬ nI N < 0 from h1), if_pos (show nI N ≤ 1000000000 from Int32.not_lt.mp h2), fX0_power, hs0]
        rw [show (0 : Int32) = nI 0 from rfl, show (30 : Int32) = nI 31 - 1 from by decide, k6, bd_s]
        obtain ⟨w2, k7, k8⟩ := tell2_ok (zL w1 1 2) (zL w1 1 3) w1
        rw [k7, bd_s]
        exact ⟨w2, rfl, fun k j hk => by rw [k8 k j hk, k3]⟩
      obtain ⟨w, e7, hU⟩ := e7
      have hc : (zsI w 74 0 0).1 74 7 = 0 := by
        show zI (zsI w 74 0 0) 74 7 = 0
        rw [zI_zsI, if_neg (by omega)]
        exact hU 74 7 (by omega)
      obtain ⟨w3, l1, l2, l3, l4⟩ := pw8 (c := (zsI w 74 0 0).1) (v := a) (P := S0 a) (D := fun n => S0 a (n / 2 + n / 2)) (fun w hw => by rw [S0_0]; exact em0 hc w hw) (fun w hw => el0 hc a w hw) rfl (fun w n hw hn hn2 => by rw [jo0 hc _ _ _ _ w hw, (S0_s a _ _).1, (S0_s a _ _).2]) (fun w n hw hn hn2 hn3 => by rw [jo0 hc _ _ _ _ w hw, (S0_s a _ _).1, (S0_s a _ _).2, show n / 2 + n / 2 + 1 = n by omega]) (S0_d a) 32 N (zsI w 74 0 0) (by omega) hN2 (by decide) rfl
      have e8 : ∃ w4, fX8_powers a (nI N) w = some (nI (cn N), w4) := by
        simp only [fX8_powers, g2, h', lt, bd_s, if_true, l4]
        obtain ⟨w5, m1, m2⟩ := ent_ok2 (zL (zsI w3 74 1 0) 74 11) (zsI w3 74 1 0) rfl
        rw [m1, bd_s]
        obtain ⟨w6, m3, m4⟩ := ent_ok1 (zL w5 74 12) w5 m2
        rw [m3, bd_s]
        exact ⟨w6, rfl⟩
      obtain ⟨w4, e8⟩ := e8
      exact ⟨_, w, w4, e7, e8⟩
theorem tell4_ok (a b c d : Int64) (w : zW) : ∃ w', fX7_tell___ a b c d w = some ((), w') ∧ ∀ k j, 74 ≤ k → w'.1 k j = w.1 k j := by
  refine ⟨_, rfl, fun k j h => ?_⟩
  show zI (zsI (zsL (zsI (zsL (zsI (zsL (zsI (zsL (zsI w 0 8 0) 71 0 a) 0 8 1) 71 1 b) 0 8 2) 71 2 c) 0 8 3) 71 3 d) 0 8 4) k j = zI w k j
  simp only [zI_zsI, zI_zsL, show ∀ i, ¬ (k = 0 ∧ i) from fun i q => by omega, if_false]
theorem ent_s (a : Int64) (w : zW) {n : Nat} (hn : n < 160) (h : zI w 74 1 = nI n) : fX8_enters a w = some ((), zsI (zsL w 75 n a) 74 1 (nI (n + 1))) := by
  unfold fX8_enters
  rw [h, zin_t hn (by decide), zg_t, nI_clamp (by omega), lt_e, lt_e, zI_zsL, h, nI_1]
theorem jt0 {c : Nat → Nat → Int32} (hc : c 74 7 = 0) (a b : Int32) (w : zW) (hw : w.1 = c) : ∃ w', w'.1 = c ∧ fX8_joinsTwo a b w = some ((), w') ∧ zL w' 74 11 = (S0 a 1).1 + (S0 b 1).1 ∧ zL w' 74 12 = (S0 a 1).2 + (S0 b 1).2 := by
  refine ⟨zsL (zsL (zsL (zsL (zsL (zsL w 74 11 (S0 b 1).1) 74 12 (S0 b 1).2) 74 11 (S0 a 1).1) 74 12 (S0 a 1).2) 74 11 ((S0 a 1).1 + (S0 b 1).1)) 74 12 ((S0 a 1).2 + (S0 b 1).2), hw, ?_, rdp _ _ _, rdq _ _ _⟩
  rw [fX8_joinsTwo, el0 hc b w hw, bd_s, lt_e, lt_e, rdp, rdq, el0 hc a _ (by exact hw), bd_s, rdp, rdq, jo0 hc _ _ _ _ _ (by exact hw), bd_s]
theorem rd7p (w : zW) (p q : Int64) : zL (zsL (zsL w 1 2 p) 1 3 q) 1 2 = p := rfl
theorem rd7q (w : zW) (p q : Int64) : zL (zsL (zsL w 1 2 p) 1 3 q) 1 3 = q := rfl
theorem fl0 {c : Nat → Nat → Int32} (hc : c 1 0 = 0) (a b : Int32) (w : zW) (hw : w.1 = c) : ∃ w1 w', w1.1 = c ∧ w'.1 = c ∧ fX0_start a w = some ((), w1) ∧ fX0_follow b w1 = some ((), w') ∧ zL w' 1 2 = (S0 a 1).1 + (S0 b 1).1 ∧ zL w' 1 3 = (S0 a 1).2 + (S0 b 1).2 := by
  refine ⟨zsL (zsL w 1 2 (S0 a 1).1) 1 3 (S0 a 1).2, zsL (zsL (zsL (zsL w 1 2 (S0 a 1).1) 1 3 (S0 a 1).2) 1 2 ((S0 a 1).1 + (S0 b 1).1)) 1 3 ((S0 a 1).2 + (S0 b 1).2), hw, hw, st0 hc a w hw, ?_, rd7p _ _ _, rd7q _ _ _⟩
  rw [fo0 hc b _ (by exact hw), rd7p, rd7q]
theorem ct7 (w : zW) (p q : Int64) : fX0_comesTo p q w = some (decide (zL w 1 2 = p ∧ zL w 1 3 = q), w) := by
  unfold fX0_comesTo
  by_cases h1 : zL w 1 2 = p
  · by_cases h2 : zL w 1 3 = q
    · rw [if_neg (not_not_intro h1), if_neg (not_not_intro h2), decide_eq_true ⟨h1, h2⟩]
    · rw [if_neg (not_not_intro h1), if_pos h2, decide_eq_false (fun q => h2 q.2)]
  · rw [if_pos h1, decide_eq_false (fun q => h1 q.1)]
theorem e2 (a b : Int32) : Al (fX7_commutes a b zw0) (fX8_commutes a b) := by
  rcases itm a with ⟨-, g, g2⟩ | ⟨k1, k2, g, g2⟩
  · exact al_w (x := -1) (w := zw0) (by simp only [fX7_commutes, g, bd_s, Bool.false_eq_true, if_false]) (by simp only [fX8_commutes, g2, lt, bd_s, Bool.false_eq_true, if_false]; rfl)
  rcases itm b with ⟨-, h, h2⟩ | ⟨l1, l2, h, h2⟩
  · exact al_w (x := -1) (w := zw0) (by simp only [fX7_commutes, g, h, bd_s, Bool.false_eq_true, if_false, if_true]) (by simp only [fX8_commutes, g2, h2, lt, bd_s, Bool.false_eq_true, if_false, if_true]; rfl)
  · have hcm1 : (S0 b 1).1 + (S0 a 1).1 = (S0 a 1).1 + (S0 b 1).1 := Int64.add_comm _ _
    have hcm2 : (S0 b 1).2 + (S0 a 1).2 = (S0 a 1).2 + (S0 b 1).2 := Int64.add_comm _ _
    have e7 : ∃ w, fX7_commutes a b zw0 = some (1, w) ∧ ∀ k j, 74 ≤ k → w.1 k j = zw0.1 k j := by
      obtain ⟨w1, w2, a1, a2, a3, a4, a5, a6⟩ := fl0 (c := zw0.1) rfl a b zw0 rfl
      obtain ⟨w3, w4, b1, b2, b3, b4, b5, b6⟩ := fl0 (c := zw0.1) rfl b a w2 a2
      obtain ⟨w5, c1, c2⟩ := tell4_ok (zL w2 1 2) (zL w2 1 3) (zL w4 1 2) (zL w4 1 3) w4
      refine ⟨w5, ?_, fun k j hk => by rw [c2 k j hk, b2]⟩
      rw [fX7_commutes, g, bd_s, if_pos rfl, h, bd_s, if_pos rfl, a3, bd_s, a4, bd_s, lt_e, lt_e, b3, bd_s, b4, bd_s, ct7, bd_s, decide_eq_true (show zL w4 1 2 = zL w2 1 2 ∧ zL w4 1 3 = zL w2 1 3 from ⟨by rw [b5, a5, hcm1], by rw [b6, a6, hcm2]⟩), lt_e, c1, bd_s]
      rfl
    obtain ⟨w, e7, hU⟩ := e7
    have hc : (zsI w 74 0 0).1 74 7 = 0 := hU 74 7 (by omega)
    obtain ⟨w1, a1, a2, a3, a4⟩ := jt0 hc a b (zsI w 74 0 0) rfl
    obtain ⟨w2, b1, b2, b3, b4⟩ := jt0 hc b a w1 a1
    have e8 : ∃ w', fX8_commutes a b w = some (1, w') := by
      rw [fX8_commutes, lt_e, g2, bd_s, if_pos rfl, h2, bd_s, if_pos rfl, a2, bd_s, lt_e, lt_e, b2, bd_s, lt_e]
      have f0 : zI (zsI w2 74 1 0) 74 1 = nI 0 := rfl
      rw [ent_s _ _ (by decide) f0, bd_s, ent_s (n := 1) _ _ (by decide) rfl, bd_s, ent_s (n := 2) _ _ (by decide) rfl, bd_s, ent_s (n := 3) _ _ (by decide) rfl, bd_s]
      simp only [zL_zsL, zL_zsI, show ¬ ((74 : Nat) = 75 ∧ (11 : Nat) = 0) by decide, show ¬ ((74 : Nat) = 75 ∧ (11 : Nat) = 1) by decide, show ¬ ((74 : Nat) = 75 ∧ (11 : Nat) = 2) by decide, show ¬ ((74 : Nat) = 75 ∧ (11 : Nat) = 3) by decide, show ¬ ((74 : Nat) = 75 ∧ (12 : Nat) = 0) by decide, show ¬ ((74 : Nat) = 75 ∧ (12 : Nat) = 1) by decide, show ¬ ((74 : Nat) = 75 ∧ (12 : Nat) = 2) by decide, show ¬ ((74 : Nat) = 75 ∧ (12 : Nat) = 3) by decide, if_false]
      rw [if_neg (not_not_intro (show zL w1 74 11 = zL w2 74 11 by rw [b3, a3, hcm1])), if_neg (not_not_intro (show zL w1 74 12 = zL w2 74 12 by rw [b4, a4, hcm2]))]
      exact ⟨_, rfl⟩
    obtain ⟨w', e8⟩ := e8
    exact ⟨1, w, w', e7, e8⟩
theorem ud0 {c : Nat → Nat → Int32} (hc : c 1 0 = 0) (a b : Int32) (w : zW) (hw : w.1 = c) : ∃ w', w'.1 = c ∧ fX0_undo a b w = some (decide ((S0 a 1).1 + (S0 b 1).1 = 0 ∧ (S0 a 1).2 + (S0 b 1).2 = 0), w') := by
  obtain ⟨w1, w2, a1, a2, a3, a4, a5, a6⟩ := fl0 hc a b w hw
  have h := ep0 hc a w2 a2
  refine ⟨w2, a2, ?_⟩
  rw [fX0_undo, a3, bd_s, a4, bd_s, h.2.2.1, bd_s, h.2.2.2, bd_s, ct7, bd_s, a5, a6]
theorem e5 (v : Int32) : Al (fX7_undoes v zw0) (fX8_undoes v) := by
  rcases itm v with ⟨-, g, g2⟩ | ⟨k1, k2, g, g2⟩
  · exact al_w (x := -1) (w := zw0) (by simp only [fX7_undoes, g, bd_s, Bool.false_eq_true, if_false]) (by simp only [fX8_undoes, g2, lt, bd_s, Bool.false_eq_true, if_false]; rfl)
  · obtain ⟨a, ha, rfl⟩ := itN k1 k2
    have hFU : zFU = 18446744073709551616 := rfl
    have hu : fX0_unlikeItems zw0 = some (nI 10000, zw0) := rfl
    obtain ⟨x, w, hx, hw, ex⟩ := un7 (c := zw0.1) (a := a) (N := 10000) (Nat.le_refl _) (A := fun u => (S0 (nI a) 1).1 + (S0 (nI u) 1).1 = 0 ∧ (S0 (nI a) 1).2 + (S0 (nI u) 1).2 = 0) (B := fun u => (S0 (nI u) 1).1 + (S0 (nI a) 1).1 = 0 ∧ (S0 (nI u) 1).2 + (S0 (nI a) 1).2 = 0) (fun w u hw hu => ud0 rfl _ _ w hw) (fun w u hw hu => ud0 rfl _ _ w hw) (fun u hu hA hB => ⟨u, hu, hA, hB⟩) zFU 0 zw0 (by omega) (by omega) rfl (fun i hi => by omega)
    have e7 : fX7_undoes (nI a) zw0 = some (x, w) := by
      rw [fX7_undoes, g, bd_s, if_pos rfl, hu, bd_s]
      exact ex
    have hc : (zsI w 74 0 0).1 74 7 = 0 := by
      show w.1 74 7 = 0
      rw [hw]; rfl
    obtain ⟨y, w', hy, hw', ey⟩ := un8 (c := (zsI w 74 0 0).1) (a := a) (x2 := 0) (x4 := 0) (A := fun u => (S0 (nI a) 1).1 + (S0 (nI u) 1).1 = 0 ∧ (S0 (nI a) 1).2 + (S0 (nI u) 1).2 = 0) (B := fun u => (S0 (nI u) 1).1 + (S0 (nI a) 1).1 = 0 ∧ (S0 (nI u) 1).2 + (S0 (nI a) 1).2 = 0) (fun w u hw hu => by
      obtain ⟨w', h1, h2, h3, h4⟩ := jt0 hc (nI a) (nI u) w hw
      exact ⟨w', h1, h2, by rw [h3, h4]⟩) (fun w u hw hu => by
      obtain ⟨w', h1, h2, h3, h4⟩ := jt0 hc (nI u) (nI a) w hw
      exact ⟨w', h1, h2, by rw [h3, h4]⟩) zFU 0 (zsL (zsL (zsI w 74 0 0) 74 11 0) 74 12 0) (by omega) (by omega) rfl (fun i hi => by omega)
    have e8 : fX8_undoes (nI a) w = some (y, w') := by
      rw [fX8_undoes, lt_e, g2, bd_s, if_pos rfl, em0 hc _ rfl, bd_s, lt_e, lt_e, rdp, rdq]
      exact ey
    have := und_u hx hy
    subst this
    exact ⟨x, w, w', e7, e8⟩
theorem e19 (n : Int32) : ∃ x w w', fX7_end n zw0 = some (x, w) ∧ fX8_end n w = some (x, w') := by
  rcases tri n with k | rfl | ⟨k1, k2, k3, k4⟩
  · refine ⟨false, zw0, zsI zw0 74 0 0, by rw [fX7_end, if_pos k], ?_⟩
    have h : ∀ w, fX8_in n.toInt64 0 (zI (zsI zw0 74 0 0) 74 4).toInt64 w = some (false, w) := fun w => in_n w (.inl ((toI64_lt (n := 0) (by decide)).mpr k))
    rw [fX8_end, lt_e, h, bd_s]
    rfl
  · exact ⟨true, _, _, rfl, rfl⟩
  · refine ⟨false, zw0, zsI zw0 74 0 0, by rw [fX7_end, if_neg k2, if_neg (show ¬ n ≤ zI zw0 64 0 from k3)], ?_⟩
    have h : ∀ w, fX8_in n.toInt64 0 (zI (zsI zw0 74 0 0) 74 4).toInt64 w = some (false, w) := fun w => in_n w (.inr ((lt_toI64 (n := 0) (by decide)).mpr k1))
    rw [fX8_end, lt_e, h, bd_s]
    rfl
theorem e21 (a i : Int32) : ∃ w x w2 w3, fL_item a i zw0 = some (1, w) ∧ fX8_item a i w = some (x, w2) ∧ fX8_thrown w2 = some (1, w3) := by
  have e7 : fL_item a i zw0 = some (1, zw0) := by
    have h : fX7_item a i zw0 = some (none, zw0) := by
      rcases lin a with h | h
      · rw [fX7_item, lineAt_n _ h, bd_s, oc_n]
      · rcases tri i with k | rfl | ⟨k1, k2, k3, k4⟩
        · rcases h with rfl | rfl | rfl | rfl
          · rw [fX7_item, lA0, bd_s, oc_s, if_pos k]
          · rw [fX7_item, lA1, bd_s, oc_s, if_pos k]
          · rw [fX7_item, lA2, bd_s, oc_s, if_pos k]
          · rw [fX7_item, lA3, bd_s, oc_s, if_pos k]
        · rcases h with rfl | rfl | rfl | rfl <;> rfl
        · rcases h with rfl | rfl | rfl | rfl
          · rw [fX7_item, lA0, bd_s, oc_s, if_neg k2, sz0, bd_s, if_neg (Int32.not_lt.mpr k4)]
          · rw [fX7_item, lA1, bd_s, oc_s, if_neg k2, sz1, bd_s, if_neg (Int32.not_lt.mpr k4)]
          · rw [fX7_item, lA2, bd_s, oc_s, if_neg k2, sz2, bd_s, if_neg (Int32.not_lt.mpr k4)]
          · rw [fX7_item, lA3, bd_s, oc_s, if_neg k2, sz3, bd_s, if_neg (Int32.not_lt.mpr k4)]
    rw [fL_item, h]
  refine ⟨zw0, 0, zsI zw0 74 0 1, zsI zw0 74 0 1, e7, ?_, rfl⟩
  rcases lin a with h | h
  · rw [fX8_item, isLine_n _ h, bd_s]
    rfl
  · have hz : ∀ j, fX8_sizeOf j zw0 = some (0, zw0) → fX8_isAt j i zw0 = some (false, zw0) := fun j h => isAt_0 h
    rcases h with rfl | rfl | rfl | rfl
    · rw [fX8_item, iL0, bd_s, lt_e, lt_e, if_pos rfl, hz 0 rfl, bd_s]; rfl
    · rw [fX8_item, iL1, bd_s, lt_e, lt_e, if_pos rfl, hz 1 rfl, bd_s]; rfl
    · rw [fX8_item, iL2, bd_s, lt_e, lt_e, if_pos rfl, hz 2 rfl, bd_s]; rfl
    · rw [fX8_item, iL3, bd_s, lt_e, lt_e, if_pos rfl, hz 3 rfl, bd_s]; rfl
theorem e35 (i : Int32) : ∃ w x w2 w3, fL_row i zw0 = some (1, w) ∧ fX8_row i w = some (x, w2) ∧ fX8_thrown w2 = some (1, w3) := by
  have e7 : fL_row i zw0 = some (1, zw0) := by
    have h : fX7_row i zw0 = some (none, zw0) := by
      by_cases c : i < 0
      · rw [fX7_row, if_pos c]
      · rw [fX7_row, if_neg c, if_pos (show zI zw0 0 8 ≤ i from Int32.not_lt.mp c)]
    rw [fL_row, h]
  refine ⟨zw0, 0, zsI zw0 74 0 1, zsI zw0 74 0 1, e7, ?_, rfl⟩
  have h : fX8_in i.toInt64 0 (zI zw0 74 1 - 1).toInt64 zw0 = some (false, zw0) := by
    refine in_n _ ?_
    by_cases q : i.toInt64 < 0
    · exact .inl q
    · right
      rw [Int64.lt_iff_toInt_lt] at q ⊢
      rw [show (zI zw0 74 1 - 1).toInt64.toInt = -1 from by decide]
      rw [show (0 : Int64).toInt = 0 from by decide] at q
      omega
  rw [fX8_row, h, bd_s]
  rfl
theorem al_g {r : Option (Int32 × zW)} {f : zW → Option (Int32 × zW)} (h : Al r f) {j : zW → Option (Unit × zW)} (hj : ∀ w, j w = some ((), w)) : ∃ w, (bd r fun v w => bd (f w) fun u w2 => if v = u then j w2 else none) = some ((), w) := by
  obtain ⟨x, w, w2, h1, h2⟩ := h
  exact ⟨w2, by rw [h1, bd_s, h2, bd_s, if_pos rfl, hj]⟩
set_option maxHeartbeats 4000000 in
theorem p1_pure (L : Nat) (xs : Nat → Int32) (hL : L ≤ 4) : ∃ w, fL_law_L23 L xs zFU (nI (4 * 0)) zw0 = some ((), w) := by
  rcases (show L < 4 ∨ L = 4 by omega) with h | rfl
  · refine ⟨zw0, ?_⟩
    rw [zFU_s, fL_law_L23.eq_2, if_pos (by rcases (show L = 0 ∨ L = 1 ∨ L = 2 ∨ L = 3 by omega) with rfl | rfl | rfl | rfl <;> decide)]
  · have hj : ∀ w, fL_law_L23 4 xs 18446744073709551615 (nI (4 * 0) + 4) w = some ((), w) := by
      intro w
      rw [show (18446744073709551615 : Nat) = 18446744073709551614 + 1 from rfl, fL_law_L23.eq_2, if_pos (by decide)]
    have z0 : zin (nI (4 * 0)) 4 = true := rfl
    have z1 : zin (nI (4 * 0) + 1) 4 = true := rfl
    have z2 : zin (nI (4 * 0) + 2) 4 = true := rfl
    have z3 : zin (nI (4 * 0) + 3) 4 = true := rfl
    rw [zFU_s, fL_law_L23.eq_2, if_neg (by decide), z0, zg_t, lt_e]
    generalize xs (nI (4 * 0)).toNatClampNeg &&& 63 = kk
    simp only [z1, z2, z3, zg_t]
    by_cases c0 : kk = 0
    · rw [if_pos c0]; exact al_g (e0 _) hj
    rw [if_neg c0]
    by_cases c1 : kk = 1
    · rw [if_pos c1]; exact al_g (e1) hj
    rw [if_neg c1]
    by_cases c2 : kk = 2
    · rw [if_pos c2]; exact al_g (e2 _ _) hj
    rw [if_neg c2]
    by_cases c3 : kk = 3
    · rw [if_pos c3]; exact al_g (e3 _ _) hj
    rw [if_neg c3]
    by_cases c4 : kk = 4
    · rw [if_pos c4]; exact al_g (e4 _) hj
    rw [if_neg c4]
    by_cases c5 : kk = 5
    · rw [if_pos c5]; exact al_g (e5 _) hj
    rw [if_neg c5]
    by_cases c6 : kk = 6
    · rw [if_pos c6]; exact al_g (e6 _ _ _) hj
    rw [if_neg c6]
    by_cases c7 : kk = 7
    · rw [if_pos c7]; exact al_g (e7 _ _) hj
    rw [if_neg c7]
    by_cases c8 : kk = 8
    · rw [if_pos c8]; exact al_g (e8 _ _) hj
    rw [if_neg c8]
    by_cases c9 : kk = 9
    · rw [if_pos c9]; exact al_g (e9 _ _) hj
    rw [if_neg c9]
    by_cases c10 : kk = 10
    · rw [if_pos c10]; exact al_g (e10 _ _ _) hj
    rw [if_neg c10]
    by_cases c11 : kk = 11
    · rw [if_pos c11]; exact al_g (e11 _) hj
    rw [if_neg c11]
    by_cases c12 : kk = 12
    · rw [if_pos c12]; exact al_g (e12 _ _ _) hj
    rw [if_neg c12]
    by_cases c13 : kk = 13
    · rw [if_pos c13]; exact al_g (e13 _ _ _) hj
    rw [if_neg c13]
    by_cases c14 : kk = 14
    · rw [if_pos c14]; exact al_g (e14 _ _) hj
    rw [if_neg c14]
    by_cases c15 : kk = 15
    · rw [if_pos c15]; exact al_g (e15 _ _ _) hj
    rw [if_neg c15]
    by_cases c16 : kk = 16
    · rw [if_pos c16]; exact al_g (e16 _) hj
    rw [if_neg c16]
    by_cases c17 : kk = 17
    · rw [if_pos c17]; exact al_g (e17 _) hj
    rw [if_neg c17]
    by_cases c18 : kk = 18
    · rw [if_pos c18]; exact al_g (e18 _) hj
    rw [if_neg c18]
    by_cases c19 : kk = 19
    · rw [if_pos c19]
      obtain ⟨x, w, w2, h1, h2⟩ := e19 (xs (nI (4 * 0) + 1).toNatClampNeg)
      rw [h1, bd_s, h2, bd_s, if_pos rfl, hj]
      exact ⟨_, rfl⟩
    rw [if_neg c19]
    by_cases c20 : kk = 20
    · rw [if_pos c20]; exact al_g (e20 _) hj
    rw [if_neg c20]
    by_cases c21 : kk = 21
    · rw [if_pos c21]
      obtain ⟨w, x, w2, w3, h1, h2, h3⟩ := e21 (xs (nI (4 * 0) + 1).toNatClampNeg) (xs (nI (4 * 0) + 2).toNatClampNeg)
      rw [h1, bd_s, h2, bd_s, h3, bd_s, if_pos rfl, lt_e, if_pos (by decide)]
      exact ⟨w3, hj w3⟩
    rw [if_neg c21]
    by_cases c22 : kk = 22
    · rw [if_pos c22]; exact al_g (e22 _ _ _) hj
    rw [if_neg c22]
    by_cases c23 : kk = 23
    · rw [if_pos c23]; exact al_g (e23 _ _) hj
    rw [if_neg c23]
    by_cases c24 : kk = 24
    · rw [if_pos c24]; exact al_g (e24 _ _) hj
    rw [if_neg c24]
    by_cases c25 : kk = 25
    · rw [if_pos c25]; exact al_g (e25 _ _) hj
    rw [if_neg c25]
    by_cases c26 : kk = 26
    · rw [if_pos c26]; exact al_g (e26 _ _) hj
    rw [if_neg c26]
    by_cases c27 : kk = 27
    · rw [if_pos c27]; exact al_g (e27 _ _ _) hj
    rw [if_neg c27]
    by_cases c28 : kk = 28
    · rw [if_pos c28]; exact al_g (e28 _) hj
    rw [if_neg c28]
    by_cases c29 : kk = 29
    · rw [if_pos c29]; exact al_g (e29 _) hj
    rw [if_neg c29]
    by_cases c30 : kk = 30
    · rw [if_pos c30]; exact al_g (e30 _ _) hj
    rw [if_neg c30]
    by_cases c31 : kk = 31
    · rw [if_pos c31]; exact al_g (e31) hj
    rw [if_neg c31]
    by_cases c32 : kk = 32
    · rw [if_pos c32]; exact al_g (e32 _ _) hj
    rw [if_neg c32]
    by_cases c33 : kk = 33
    · rw [if_pos c33]; exact al_g (e33 _ _) hj
    rw [if_neg c33]
    by_cases c34 : kk = 34
    · rw [if_pos c34]; exact al_g (e34 _) hj
    rw [if_neg c34]
    by_cases c35 : kk = 35
    · rw [if_pos c35]
      obtain ⟨w, x, w2, w3, h1, h2, h3⟩ := e35 (xs (nI (4 * 0) + 1).toNatClampNeg)
      rw [h1, bd_s, h2, bd_s, h3, bd_s, if_pos rfl, lt_e, if_pos (by decide)]
      exact ⟨w3, hj w3⟩
    rw [if_neg c35]
    exact ⟨zw0, hj zw0⟩
