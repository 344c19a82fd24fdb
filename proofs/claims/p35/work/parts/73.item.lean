set_option maxRecDepth 16384
section BI
variable {J : aJ} {S : aS} {T : aT} {w w1 w2 : zW} {H H' : Nat → Int32} {w0 : zX}
/-- entered, the law's out and the flag left as they are -/
theorem enters_i (h : uD w0 J S T H w) {n : Nat} (hn : zI w 74 1 = nI n) (hl : n < 160) (a : Int64) {c : Int64} (h9 : zL w 92 0 = c) (h0 : zI w 74 0 = 0) : Ok (fX8_enters a w) (fun _ w' => uD w0 J S T H w' ∧ zI w' 74 1 = nI (n + 1) ∧ zL w' 92 0 = c ∧ zI w' 74 0 = 0) := by
  have e : zI (zsL w 75 n a) 74 1 = nI n := hn
  rw [fX8_enters, hn, zin_t hl (by decide), zg_t, lt_e, nI_clamp (by omega), e, lt_e, nI_1]
  refine ok_r ⟨uD_c (uD_L h (by unfold gD; omega)) (by omega), rfl, ?_, ?_⟩
  · show zL (zsL w 75 n a) 92 0 = c
    rw [zL_zsL, if_neg (by omega)]; exact h9
  · rw [zI_zsI, if_neg (by omega)]; exact h0
/-- what the LINE a holds as its ITEM number b -/
def itS (S : aS) (a b : Int32) (v : Int32) : Prop := ∃ j i, j < 4 ∧ i < aN S j ∧ a = nI j ∧ b = nI i ∧ v = nI (aI S j i)
theorem itS_u {S : aS} (hS : ∀ j, j < 4 → aN S j ≤ 64) {a b v u : Int32} (h : itS S a b v) (g : itS S a b u) : v = u := by
  obtain ⟨j, i, hj, hi, rfl, rfl, rfl⟩ := h
  obtain ⟨t, k, ht, hk, e1, e2, rfl⟩ := g
  have := hS j hj
  have := hS t ht
  have e3 := (nI_eq (by omega) (by omega)).mp e1
  subst e3
  have e4 := (nI_eq (by omega) (by omega)).mp e2
  rw [e4]
theorem item_r (hS : sW J S) (h : uD w0 J S T H w) (a b : Int32) : Ok (fX8_item a b w) (fun v w' => uD w0 J S T H w' ∧ zL w' 92 0 = zL w 92 0 ∧ ((zI w' 74 0 = 1 ∧ ∀ v, ¬ itS S a b v) ∨ (zI w' 74 0 = 0 ∧ itS S a b v))) := by
  rw [fX8_item]
  rcases ln a with hl | ⟨j, hj, rfl⟩
  · rw [isLine_n w hl, bd_s, lt_e, lt_e, ff]; dsimp only; rw [show fX8_flag 1 w = some (1, w) from rfl, bd_s, lt_e, if_neg (not_not_intro (show zI (zsI w 74 0 1) 74 0 = 1 from rfl))]
    refine ok_r ⟨uD_5 h (.inr (.inr rfl)), rfl, .inl ⟨rfl, ?_⟩⟩
    rintro v ⟨j, i, hj, hi, rfl, -⟩
    rcases hl with q | q
    · exact nI_pos (by omega) q
    · have := (nI_leI (by omega) (by omega)).mp q; omega
  have hz := hS.1 j hj
  have e5 := d_in2 (show j < 5 by omega)
  rw [isLine_s w hj, bd_s, lt_e, lt_e, tt]
  rcases isAt_b h (show j < 5 by omega) hz b with ⟨hb, e⟩ | ⟨i, hi, rfl, e⟩
  · rw [e, bd_s, ff]; dsimp only; rw [show fX8_flag 1 w = some (1, w) from rfl, bd_s, lt_e, if_neg (not_not_intro (show zI (zsI w 74 0 1) 74 0 = 1 from rfl))]
    refine ok_r ⟨uD_5 h (.inr (.inr rfl)), rfl, .inl ⟨rfl, ?_⟩⟩
    rintro v ⟨t, i, ht, hi, e1, rfl, -⟩
    have e3 := (nI_eq (by omega) (by omega)).mp e1
    subst e3
    rcases hb with q | q
    · exact nI_pos (by omega) q
    · have := (nI_leI (by omega) (by omega)).mp q; omega
  · have hp := pH_l hi
    have hk : pK S j i < 10 := pK_b (by omega)
    have hq : sZ S (pK S j i) ≤ 64 := pK_64 hz
    have h0 := uD_0 h
    rw [e, bd_s, tt]
    dsimp only
    rw [show fX8_flag 0 w = some (0, w) from rfl, bd_s, lt_e, if_pos (show ¬ zI (zsI w 74 0 0) 74 0 = 1 by rw [zI_zsI, if_pos ⟨rfl, rfl⟩]; decide), placeOf_s h0 (by omega) (by unfold aN at hz; omega) (by omega), bd_s, e5.1, zg_t, lt_e, lt_e, lt_e]
    obtain ⟨c, ec⟩ := flag_t (if nI i < zI (zsI w 74 0 0) 83 (2 * nI j).toNatClampNeg then (0 : Int32) else (1 : Int32)) (zsI (zsI w 74 0 0) 74 1 0)
    rw [ec, bd_s]
    refine ok_b (enters_i (n := 0) (c := zL w 92 0) (uD_1 (v := 0) h0) rfl (by decide) _ rfl rfl) (fun _ w1 a1 => ?_)
    have go : ∀ s : Int64, Ok ((fun (s_101 : Int64) (w24 : zW) => bd (fX8_enters s_101 w24) fun _ w25 => zg (zin (nI (64 * pK S j i + pH S j i)) 640) <| bd (fX8_enters (zL w25 86 (nI (64 * pK S j i + pH S j i)).toNatClampNeg) w25) fun _ w28 => zg (zin (nI (64 * pK S j i + pH S j i)) 640) <| bd (fX8_enters (zL w28 87 (nI (64 * pK S j i + pH S j i)).toNatClampNeg) w28) fun _ w31 => zg (zin (nI (64 * pK S j i + pH S j i)) 640) <| some ((zI w31 85 (nI (64 * pK S j i + pH S j i)).toNatClampNeg), w31)) s w1) (fun v w' => uD w0 J S T H w' ∧ zL w' 92 0 = zL w 92 0 ∧ ((zI w' 74 0 = 1 ∧ ∀ v, ¬ itS S (nI j) (nI i) v) ∨ (zI w' 74 0 = 0 ∧ itS S (nI j) (nI i) v))) := by
      intro s
      dsimp only
      rw [zin_t (show 64 * pK S j i + pH S j i < 640 by omega) (by decide)]
      refine ok_b (enters_i a1.1 a1.2.1 (by decide) _ a1.2.2.1 a1.2.2.2) (fun _ w2 a2 => ?_)
      rw [zg_t]
      refine ok_b (enters_i a2.1 a2.2.1 (by decide) _ a2.2.2.1 a2.2.2.2) (fun _ w3 a3 => ?_)
      rw [zg_t]
      refine ok_b (enters_i a3.1 a3.2.1 (by decide) _ a3.2.2.1 a3.2.2.2) (fun _ w4 a4 => ?_)
      rw [zg_t]
      refine ok_r ⟨a4.1, a4.2.2.1, .inr ⟨a4.2.2.2, j, i, hj, hi, rfl, rfl, ?_⟩⟩
      rw [nI_clamp (by omega)]
      exact ((a4.1.2.1 _ hk).2 _ hp).1
    rw [lt_e]
    refine ok_i (fun _ => ?_) (fun _ => go _)
    rw [sizeOf_s a1.1 (by omega), bd_s]
    exact go _
theorem item_c (h : rW J S T w) (a b : Int32) : Ok (fX7_item a b w) (fun o w' => rW J S T w' ∧ ((o = none ∧ ∀ v, ¬ itS S a b v) ∨ ∃ v, o = some v ∧ itS S a b v)) := by
  obtain ⟨hW, hS, hT, ⟨H, hC⟩, -⟩ := id h
  have hC := uC_sf hC
  rcases ln a with hl | ⟨j, hj, rfl⟩
  · rw [fX7_item, lineAt_n w hl, bd_s, oc_n]
    refine ok_r ⟨h, .inl ⟨rfl, ?_⟩⟩
    rintro v ⟨j, i, hj, hi, rfl, -⟩
    rcases hl with q | q
    · exact nI_pos (by omega) q
    · have := (nI_leI (by omega) (by omega)).mp q; omega
  have hz := hS.1 j hj
  have h0 : sZ S (2 * j) ≤ 64 := by unfold aN at hz; omega
  rw [fX7_item, lineAt_s w hj, bd_s, oc_s]
  have bad : (b < 0 ∨ nI (aN S j) ≤ b) → ∀ v, ¬ itS S (nI j) b v := by
    rintro hb v ⟨t, i, ht, hi, e1, rfl, -⟩
    have := hS.1 t ht
    have e3 := (nI_eq (by omega) (by omega)).mp e1
    subst e3
    rcases hb with q | q
    · exact nI_pos (by omega) q
    · have := (nI_leI (by omega) (by omega)).mp q; omega
  rcases pk_ix b (n := aN S j) (by omega) with q | q | ⟨i, hi, rfl⟩
  · rw [if_pos q]; exact ok_r ⟨h, .inl ⟨rfl, bad (.inl q)⟩⟩
  · by_cases c : b < 0
    · rw [if_pos c]; exact ok_r ⟨h, .inl ⟨rfl, bad (.inl c)⟩⟩
    · rw [if_neg c, size_s hC (by omega), bd_s, if_neg (Int32.not_lt.mpr q)]
      exact ok_r ⟨h, .inl ⟨rfl, bad (.inr q)⟩⟩
  · have hp := pH_l hi
    have hk : pK S j i < 10 := pK_b (by omega)
    have hq : sZ S (pK S j i) ≤ 64 := pK_64 hz
    rw [if_neg (nI_pos (by omega)), size_s hC (by omega), bd_s, if_pos (nI_lt hi (by omega)), endOf_s hC (by omega) h0 (by omega), bd_s, heightOf_s hC (by omega) h0 (by omega), bd_s, pile_s hC (by omega) h0, bd_s, at7 w (zl_k _ hk).2.1 (show pH S j i < 64 by omega) (by decide), bd_s, at7 w (zl_k _ hk).2.2.1 (show pH S j i < 64 by omega) (by decide), bd_s]
    refine ok_b (tell4_s hC _ _ _ _) (fun _ w3 a3 => ?_)
    rw [itemAt_s a3 (by omega) hz hi, bd_s]
    exact ok_r ⟨rW_C h a3, .inr ⟨_, rfl, j, i, hj, hi, rfl, rfl, rfl⟩⟩
/-- item, as the law asks it -/
theorem item_x (h : rW J S T w) (a b : Int32) : ∃ k v w1 w2, fL_item a b w = some (k, w1) ∧ fX8_item a b w1 = some (v, w2) ∧ zI w2 74 0 = k ∧ (k = 0 → zL w2 92 0 = v.toInt64) ∧ Rw w2 := by
  obtain ⟨hW, hS, hT, -, -⟩ := id h
  obtain ⟨o, w1, e, h1, ho⟩ := item_c h a b
  have r : ∀ w1, rW J S T w1 → ∃ v w2, fX8_item a b w1 = some (v, w2) ∧ Rw w2 ∧ zL w2 92 0 = zL w1 92 0 ∧ ((zI w2 74 0 = 1 ∧ ∀ v, ¬ itS S a b v) ∨ (zI w2 74 0 = 0 ∧ itS S a b v)) := by
    intro w1 h1
    obtain ⟨-, -, -, -, H, hD⟩ := id h1
    have hD := uD_sf hD
    obtain ⟨v, w2, e2, d2, d3, d4⟩ := item_r hS hD a b
    exact ⟨v, w2, e2, ⟨J, S, T, rW_D h1 d2⟩, d3, d4⟩
  rcases ho with ⟨rfl, hb⟩ | ⟨u, rfl, hu⟩
  · obtain ⟨v, w2, e2, R, -, d⟩ := r w1 h1
    rcases d with ⟨d, -⟩ | ⟨d, d2⟩
    · refine ⟨1, v, w1, w2, ?_, e2, d, fun q => absurd q (by decide), R⟩
      unfold fL_item; rw [e]
    · exact absurd d2 (hb v)
  · obtain ⟨v, w2, e2, R, d3, d⟩ := r _ (rW_92 (j := 0) (v := u.toInt64) h1)
    rcases d with ⟨-, d⟩ | ⟨d, d2⟩
    · exact absurd hu (d u)
    · refine ⟨0, v, _, w2, ?_, e2, d, fun _ => ?_, R⟩
      · unfold fL_item; rw [e]
      · rw [d3, itS_u hS.1 d2 hu]; rfl
end BI
