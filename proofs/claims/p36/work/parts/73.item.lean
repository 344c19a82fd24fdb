set_option maxRecDepth 16384
/-- what item tells of ITEM number i of the LINE j -/
def itR (S : aS) (j i : Nat) : List Int64 := [(nI (pK S j i % 2)).toInt64, (nI (sZ S (pK S j i) - 1 - pH S j i)).toInt64, (sC S (pK S j i) (pH S j i)).2.1, (sC S (pK S j i) (pH S j i)).2.2.1]
/-- what the LINE a holds as its ITEM number b; what is told of it -/
def itT (S : aS) (a b : Int32) (v : Int32) (L : List Int64) : Prop := ∃ j i, j < 4 ∧ i < aN S j ∧ a = nI j ∧ b = nI i ∧ v = nI (aI S j i) ∧ L = itR S j i
theorem itT_u {S : aS} (hS : ∀ j, j < 4 → aN S j ≤ 64) {a b v u : Int32} {L M : List Int64} (h : itT S a b v L) (g : itT S a b u M) : v = u ∧ L = M := by
  obtain ⟨j, i, hj, hi, rfl, rfl, rfl, rfl⟩ := h
  obtain ⟨t, k, ht, hk, e1, e2, rfl, rfl⟩ := g
  have := hS j hj
  have := hS t ht
  have e3 := (nI_eq (by omega) (by omega)).mp e1
  subst e3
  have e4 := (nI_eq (by omega) (by omega)).mp e2
  rw [e4]
  exact ⟨rfl, rfl⟩
theorem itR_p {S : aS} {j i : Nat} (hi : i < aN S j) : sZ S (pK S j i) - 1 - pH S j i = if sZ S (2 * j) ≤ i then aN S j - 1 - i else i := by
  unfold aN at hi ⊢
  unfold pK pH
  by_cases c : sZ S (2 * j) ≤ i
  · rw [if_pos c, if_pos c, if_pos c]; omega
  · rw [if_neg c, if_neg c, if_neg c]; omega
section BI
variable {J : aJ} {S : aS} {T : aT} {w w1 w2 : zW} {H H' : Nat → Int32} {w0 : zX}
theorem it_no {a b : Int32} (hS : sW J S) (h : (a < 0 ∨ nI 4 ≤ a) ∨ ∃ j, j < 4 ∧ a = nI j ∧ (b < 0 ∨ nI (aN S j) ≤ b)) : ∀ v L, ¬ itT S a b v L := by
  rintro v L ⟨t, i, ht, hi, rfl, rfl, -, -⟩
  have := hS.1 t ht
  rcases h with (q | q) | ⟨j, hj, e1, hb⟩
  · exact nI_pos (by omega) q
  · have := (nI_leI (by omega) (by omega)).mp q; omega
  · have := hS.1 j hj
    have e3 := (nI_eq (by omega) (by omega)).mp e1
    subst e3
    rcases hb with q | q
    · exact nI_pos (by omega) q
    · have := (nI_leI (by omega) (by omega)).mp q; omega
theorem item_r (hS : sW J S) (h : uD w0 J S T H w) (a b : Int32) : Ok (fX8_item a b w) (fun v w' => zL w' 92 0 = zL w 92 0 ∧ ((zI w' 74 0 = 1 ∧ (∀ v L, ¬ itT S a b v L) ∧ uD w0 J S T H w') ∨ (zI w' 74 0 = 0 ∧ ∃ L, itT S a b v L ∧ uD w0 J (rT L S) T H w'))) := by
  rw [fX8_item]
  rcases ln a with hl | ⟨j, hj, rfl⟩
  · rw [isLine_n w hl, bd_s, lt_e, lt_e, ff]; dsimp only; rw [show fX8_flag 1 w = some (1, w) from rfl, bd_s, lt_e, if_neg (not_not_intro (show zI (zsI w 74 0 1) 74 0 = 1 from rfl))]
    exact ok_r ⟨rfl, .inl ⟨rfl, it_no hS (.inl hl), uD_5 h (.inr (.inr rfl))⟩⟩
  have hz := hS.1 j hj
  have e5 := d_in2 (show j < 5 by omega)
  rw [isLine_s w hj, bd_s, lt_e, lt_e, tt]
  rcases isAt_b h (show j < 5 by omega) hz b with ⟨hb, e⟩ | ⟨i, hi, rfl, e⟩
  · rw [e, bd_s, ff]; dsimp only; rw [show fX8_flag 1 w = some (1, w) from rfl, bd_s, lt_e, if_neg (not_not_intro (show zI (zsI w 74 0 1) 74 0 = 1 from rfl))]
    exact ok_r ⟨rfl, .inl ⟨rfl, it_no hS (.inr ⟨j, hj, rfl, hb⟩), uD_5 h (.inr (.inr rfl))⟩⟩
  · have hp := pH_l hi
    have hk : pK S j i < 10 := pK_b (by omega)
    have hq : sZ S (pK S j i) ≤ 64 := pK_64 hz
    have h0 := uD_0 h
    have hf : sZ S (2 * j) ≤ 64 := by unfold aN at hz; omega
    have hcell := (h0.2.1 _ hk).2 _ hp
    rw [e, bd_s, tt]
    dsimp only
    rw [show fX8_flag 0 w = some (0, w) from rfl, bd_s, lt_e, if_pos (show ¬ zI (zsI w 74 0 0) 74 0 = 1 by rw [zI_zsI, if_pos ⟨rfl, rfl⟩]; decide), placeOf_s h0 (by omega) (by unfold aN at hz; omega) (by omega), bd_s, e5.1, zg_t, lt_e, lt_e, lt_e, e5.2.2.1, uD_z h0 (by omega), flag_i, bd_s]
    have ek : (if nI i < nI (sZ S (2 * j)) then (0 : Int32) else 1) = nI (pK S j i % 2) := by
      unfold pK
      by_cases c : sZ S (2 * j) ≤ i
      · rw [if_pos c, if_neg (fun q => by have := (nI_ltI (by omega) (by omega)).mp q; omega), show (2 * j + 1) % 2 = 1 by omega]; rfl
      · rw [if_neg c, if_pos (nI_lt (by omega) (by omega)), show 2 * j % 2 = 0 by omega]; rfl
    rw [ek]
    refine ok_b (enters_s (L := []) (uD_1 h0) (by decide) _) (fun _ w1 a1 => ?_)
    have go : ∀ s : Int64, s = (nI (sZ S (pK S j i) - 1 - pH S j i)).toInt64 → Ok ((fun (s_101 : Int64) (w24 : zW) => bd (fX8_enters s_101 w24) fun _ w25 => zg (zin (nI (64 * pK S j i + pH S j i)) 640) <| bd (fX8_enters (zL w25 86 (nI (64 * pK S j i + pH S j i)).toNatClampNeg) w25) fun _ w28 => zg (zin (nI (64 * pK S j i + pH S j i)) 640) <| bd (fX8_enters (zL w28 87 (nI (64 * pK S j i + pH S j i)).toNatClampNeg) w28) fun _ w31 => zg (zin (nI (64 * pK S j i + pH S j i)) 640) <| some ((zI w31 85 (nI (64 * pK S j i + pH S j i)).toNatClampNeg), w31)) s w1) (fun v w' => zL w' 92 0 = zL w 92 0 ∧ ((zI w' 74 0 = 1 ∧ (∀ v L, ¬ itT S (nI j) (nI i) v L) ∧ uD w0 J S T H w') ∨ (zI w' 74 0 = 0 ∧ ∃ L, itT S (nI j) (nI i) v L ∧ uD w0 J (rT L S) T H w'))) := by
      intro s hs
      dsimp only
      rw [zin_t (show 64 * pK S j i + pH S j i < 640 by omega) (by decide), nI_clamp (show 64 * pK S j i + pH S j i < 2 ^ 31 by omega), hs]
      refine ok_b (enters_s a1.1 (show 1 < 128 by decide) _) (fun _ w2 a2 => ?_)
      rw [zg_t, a2.2.1 86 _ (by decide), a1.2.1 86 _ (by decide), show zL (zsI (zsI w 74 0 0) 74 1 0) 86 (64 * pK S j i + pH S j i) = (sC S (pK S j i) (pH S j i)).2.1 from hcell.2.1]
      refine ok_b (enters_s a2.1 (show 2 < 128 by decide) _) (fun _ w3 a3 => ?_)
      rw [zg_t, a3.2.1 87 _ (by decide), a2.2.1 87 _ (by decide), a1.2.1 87 _ (by decide), show zL (zsI (zsI w 74 0 0) 74 1 0) 87 (64 * pK S j i + pH S j i) = (sC S (pK S j i) (pH S j i)).2.2.1 from hcell.2.2.1]
      refine ok_b (enters_s a3.1 (show 3 < 128 by decide) _) (fun _ w4 a4 => ?_)
      rw [zg_t]
      refine ok_r ⟨?_, .inr ⟨?_, itR S j i, ⟨j, i, hj, hi, rfl, rfl, ?_, rfl⟩, a4.1⟩⟩
      · rw [a4.2.1 92 0 (by decide), a3.2.1 92 0 (by decide), a2.2.1 92 0 (by decide), a1.2.1 92 0 (by decide)]; rfl
      · rw [a4.2.2 74 0 (by omega), a3.2.2 74 0 (by omega), a2.2.2 74 0 (by omega), a1.2.2 74 0 (by omega)]; rfl
      · exact ((a4.1.2.1 _ hk).2 _ hp).1
    have hpl := itR_p hi
    rw [lt_e]
    by_cases c : sZ S (2 * j) ≤ i
    · rw [if_pos c] at hpl
      rw [if_pos (nI_le c (by omega)), sizeOf_r (S := S) a1.1 (by omega), bd_s]
      exact go _ (by rw [hpl, show (1 : Int32) = nI 1 from rfl, pk_sub (by omega), pk_sub (by omega)])
    · rw [if_neg c] at hpl
      rw [if_neg (fun q => c ((nI_leI (by omega) (by omega)).mp q))]
      exact go _ (by rw [hpl])
theorem item_c (hS : sW J S) (hC : uC w0 J S T H w) (a b : Int32) : Ok (fX7_item a b w) (fun o w' => (o = none ∧ (∀ v L, ¬ itT S a b v L) ∧ uC w0 J S T H w') ∨ ∃ v L, o = some v ∧ itT S a b v L ∧ uC w0 J (rT L S) T H w') := by
  rcases ln a with hl | ⟨j, hj, rfl⟩
  · rw [fX7_item, lineAt_n w hl, bd_s, oc_n]
    exact ok_r (.inl ⟨rfl, it_no hS (.inl hl), hC⟩)
  have hz := hS.1 j hj
  have h0 : sZ S (2 * j) ≤ 64 := by unfold aN at hz; omega
  rw [fX7_item, lineAt_s w hj, bd_s, oc_s]
  rcases pk_ix b (n := aN S j) (by omega) with q | q | ⟨i, hi, rfl⟩
  · rw [if_pos q]; exact ok_r (.inl ⟨rfl, it_no hS (.inr ⟨j, hj, rfl, .inl q⟩), hC⟩)
  · by_cases c : b < 0
    · rw [if_pos c]; exact ok_r (.inl ⟨rfl, it_no hS (.inr ⟨j, hj, rfl, .inl c⟩), hC⟩)
    · rw [if_neg c, size_s hC (by omega), bd_s, if_neg (Int32.not_lt.mpr q)]
      exact ok_r (.inl ⟨rfl, it_no hS (.inr ⟨j, hj, rfl, .inr q⟩), hC⟩)
  · have hp := pH_l hi
    have hk : pK S j i < 10 := pK_b (by omega)
    have hq : sZ S (pK S j i) ≤ 64 := pK_64 hz
    have hcell := (hC.2.1 _ hk).2 _ hp
    rw [if_neg (nI_pos (by omega)), size_s hC (by omega), bd_s, if_pos (nI_lt hi (by omega)), endOf_s hC (by omega) h0 (by omega), bd_s, heightOf_s hC (by omega) h0 (by omega), bd_s, pile_s hC (by omega) h0, bd_s, at7 w (zl_k _ hk).2.1 (show pH S j i < 64 by omega) (by decide), bd_s, at7 w (zl_k _ hk).2.2.1 (show pH S j i < 64 by omega) (by decide), bd_s, end_k, uC_z hC hk, hcell.2.1, hcell.2.2.1, show (1 : Int32) = nI 1 from rfl, pk_sub (show 1 ≤ sZ S (pK S j i) by omega), pk_sub (show pH S j i ≤ sZ S (pK S j i) - 1 by omega)]
    refine ok_b (tell4_s hC _ _ _ _) (fun _ w3 a3 => ?_)
    rw [show fX1_itemAt (LN j) (nI i) w3 = some (nI (aI S j i), w3) from itemAt_s a3 (by omega) hz hi, bd_s]
    exact ok_r (.inr ⟨_, itR S j i, rfl, ⟨j, i, hj, hi, rfl, rfl, rfl, rfl⟩, a3⟩)
theorem rM_92 {L : List Int64} (h : rM J S L T w) {j : Nat} {v : Int64} : rM J S L T (zsL w 92 j v) := by
  obtain ⟨⟨H, d⟩, H2, e⟩ := h
  refine ⟨⟨H, ?_⟩, H2, ?_⟩
  · obtain ⟨q1, q2, q3, q4, q5, q6⟩ := d
    refine ⟨q1, fun k hk => ⟨(q2 k hk).1, fun x hx => ⟨((q2 k hk).2 x hx).1, ?_, ?_, ((q2 k hk).2 x hx).2.2.2⟩⟩, q3, q4, q5, fun _ _ _ => ⟨rfl, rfl⟩, q6.2⟩
    · rw [zL_zsL, if_neg (by unfold oP; omega)]; exact ((q2 k hk).2 x hx).2.1
    · rw [zL_zsL, if_neg (by unfold oP; omega)]; exact ((q2 k hk).2 x hx).2.2.1
  · obtain ⟨q1, q2, q3, q4, q5, q6, q7⟩ := e
    refine ⟨q1, fun k hk => ⟨(q2 k hk).1, fun x hx => ⟨((q2 k hk).2 x hx).1, ?_, ?_, ((q2 k hk).2 x hx).2.2.2⟩⟩, q3, q4, q5, fun _ _ _ => ⟨rfl, rfl⟩, rfl⟩
    · rw [zL_zsL, if_neg (by omega)]; exact ((q2 k hk).2 x hx).2.1
    · rw [zL_zsL, if_neg (by omega)]; exact ((q2 k hk).2 x hx).2.2.1
/-- item, as the law asks it -/
theorem item_x (h : rW J S T w) (a b : Int32) : ∃ k v w1 w2 L, fL_item a b w = some (k, w1) ∧ fX8_item a b w1 = some (v, w2) ∧ zI w2 74 0 = k ∧ (k = 0 → zL w2 92 0 = v.toInt64) ∧ rW J (rT L S) T w2 := by
  obtain ⟨hW, hS, hT, ⟨H, hC⟩, H2, hD⟩ := h
  obtain ⟨o, w1, e, ho⟩ := item_c hS (uC_sf hC) a b
  rcases ho with ⟨rfl, hb, h1⟩ | ⟨u, L, rfl, hu, h1⟩
  · obtain ⟨v, w2, e2, -, d⟩ := item_r hS (uD_m hD h1) a b
    rcases d with ⟨d, -, d2⟩ | ⟨d, L, d2, -⟩
    · refine ⟨1, v, w1, w2, sR S, ?_, e2, d, fun q => absurd q (by decide), hW, hS, hT, ⟨H, uC_m h1 d2⟩, H2, uD_sf d2⟩
      unfold fL_item; rw [e]
    · exact absurd d2 (hb v L)
  · have hm : rM J S L T w1 := ⟨⟨H, uC_sf h1⟩, H2, uD_m hD h1⟩
    obtain ⟨⟨H3, h3⟩, H4, h4⟩ := rM_92 (j := 0) (v := u.toInt64) hm
    obtain ⟨v, w2, e2, d3, d⟩ := item_r hS h4 a b
    rcases d with ⟨-, d, -⟩ | ⟨d, M, d2, d4⟩
    · exact absurd hu (d u L)
    · obtain ⟨rfl, rfl⟩ := itT_u hS.1 hu d2
      refine ⟨0, u, _, w2, L, ?_, e2, d, fun _ => ?_, hW, hS, hT, ⟨H3, uC_m h3 d4⟩, H4, uD_sf d4⟩
      · unfold fL_item; rw [e]
      · rw [d3]; rfl
theorem item_t (h : rW J S T w) (a b : Int32) : Bq S (fL_item a b) (fX8_item a b) (fun _ _ => True) w := by
  obtain ⟨k, v, w1, w2, L, e1, e2, -, -, h2⟩ := item_x h a b
  exact ⟨k, v, w1, w2, e1, e2, trivial, J, rT L S, T, h2, mL_0⟩
end BI
