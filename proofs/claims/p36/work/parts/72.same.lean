set_option maxRecDepth 16384
theorem isLn_j {j : Nat} (hj : j < 4) : isLn (LN j) := by
  rcases (show j = 0 ∨ j = 1 ∨ j = 2 ∨ j = 3 by omega) with rfl | rfl | rfl | rfl
  · exact .inl rfl
  · exact .inr (.inl rfl)
  · exact .inr (.inr (.inl rfl))
  · exact .inr (.inr (.inr rfl))
/-- the LINEs j, t hold the same ITEMS in order -/
def alk (S : aS) (j t : Nat) : Prop := aN S j = aN S t ∧ ∀ i, i < aN S j → aI S j i = aI S t i
def Sam (S : aS) (j t : Nat) (x : Int32) : Prop := (x = 1 ∧ alk S j t) ∨ (x = 0 ∧ ¬ alk S j t)
theorem sam_u {S : aS} {j t : Nat} {x y : Int32} (h : Sam S j t x) (g : Sam S j t y) : x = y := by
  rcases h with ⟨rfl, a⟩ | ⟨rfl, a⟩ <;> rcases g with ⟨rfl, b⟩ | ⟨rfl, b⟩
  · rfl
  · exact absurd a b
  · exact absurd b a
  · rfl
/-- so far alike, or known to be unlike -/
def SoF (S : aS) (j t i : Nat) (x : Int32) : Prop := (x = 1 ∧ aN S j = aN S t ∧ ∀ k, k < i → aI S j k = aI S t k) ∨ (x = 0 ∧ ¬ alk S j t)
theorem soF_0 {S : aS} {j t : Nat} (hz : aN S j ≤ 64) (hzt : aN S t ≤ 64) : SoF S j t 0 (if ¬ nI (aN S j) = nI (aN S t) then (0 : Int32) else 1) := by
  by_cases c : nI (aN S j) = nI (aN S t)
  · rw [if_neg (not_not_intro c)]
    exact .inl ⟨rfl, (nI_eq (by omega) (by omega)).mp c, fun k hk => absurd hk (Nat.not_lt_zero k)⟩
  · rw [if_pos c]
    exact .inr ⟨rfl, fun q => c (by rw [q.1])⟩
theorem soF_1 {S : aS} {j t i : Nat} (hi : i < aN S j) (he : aN S j = aN S t) (h : ∀ k, k < i → aI S j k = aI S t k) (hb : aI S j i < 10000) (hc : aI S t i < 10000) : SoF S j t (i + 1) (if ¬ nI (aI S j i) = nI (aI S t i) then (0 : Int32) else 1) := by
  by_cases c : nI (aI S j i) = nI (aI S t i)
  · rw [if_neg (not_not_intro c)]
    refine .inl ⟨rfl, he, fun k hk => ?_⟩
    by_cases e : k = i
    · rw [e]; exact (nI_eq (by omega) (by omega)).mp c
    · exact h k (by omega)
  · rw [if_pos c]
    exact .inr ⟨rfl, fun q => c (by rw [q.2 i hi])⟩
theorem soF_e {S : aS} {j t : Nat} {x : Int32} (h : SoF S j t (aN S j) x) : Sam S j t x := by
  rcases h with ⟨rfl, a, b⟩ | ⟨rfl, a⟩
  · exact .inl ⟨rfl, a, b⟩
  · exact .inr ⟨rfl, a⟩
section BS
variable {J : aJ} {S : aS} {T : aT} {w w1 w2 : zW} {H H' : Nat → Int32} {w0 : zX}
theorem has_L (hS : sW J S) (h : uC w0 J S T H w) {j t : Nat} (hj : j < 4) (ht : t < 4) : ∀ m i N (x : Int32), i + m = aN S j → m < N → SoF S j t i x → ∃ b : Bool, fX1_hasItemsOf_L19 (LN j) (LN t) N x (nI i) w = some (b, w) ∧ ((b = true ∧ alk S j t) ∨ (b = false ∧ ¬ alk S j t)) := by
  have hz := hS.1 j hj
  have hzt := hS.1 t ht
  have fin : ∀ x, SoF S j t (aN S j) x ∨ (x = 0 ∧ ¬ alk S j t) → ((zvb x = true ∧ alk S j t) ∨ (zvb x = false ∧ ¬ alk S j t)) := by
    intro x hx
    rcases hx with hx | ⟨rfl, a⟩
    · rcases soF_e hx with ⟨rfl, a⟩ | ⟨rfl, a⟩
      · exact .inl ⟨by decide, a⟩
      · exact .inr ⟨by decide, a⟩
    · exact .inr ⟨by decide, a⟩
  intro m
  induction m with
  | zero =>
    intro i N x hi hN hx
    obtain ⟨N, rfl⟩ : ∃ k, N = k + 1 := ⟨N - 1, by omega⟩
    rw [fX1_hasItemsOf_L19.eq_2, size_s h (by omega), bd_s, if_pos (nI_le (by omega) (by omega))]
    exact ⟨_, rfl, fin x (.inl (by rw [show aN S j = i by omega]; exact hx))⟩
  | succ m ih =>
    intro i N x hi hN hx
    obtain ⟨N, rfl⟩ : ∃ k, N = k + 1 := ⟨N - 1, by omega⟩
    rw [fX1_hasItemsOf_L19.eq_2, size_s h (by omega), bd_s, if_neg (Int32.not_le.mpr (nI_lt (by omega) (by omega)))]
    rcases hx with ⟨rfl, a, b⟩ | ⟨rfl, a⟩
    · rw [if_neg (show ¬ (1 : Int32) = 0 by decide), itemAt_s h (by omega) hz (by omega), bd_s, itemAt_s h (by omega) hzt (by omega), bd_s, lt_e, nI_1]
      exact ih (i + 1) N _ (by omega) (by omega) (soF_1 (by omega) a b (sI hS hj (by omega)) (sI hS ht (by omega)))
    · rw [if_pos rfl]
      exact ⟨_, rfl, fin 0 (.inr ⟨rfl, a⟩)⟩
theorem has_s (hS : sW J S) (h : uC w0 J S T H w) {j t : Nat} (hj : j < 4) (ht : t < 4) : ∃ b : Bool, fX1_hasItemsOf (LN j) (LN t) w = some (b, w) ∧ ((b = true ∧ alk S j t) ∨ (b = false ∧ ¬ alk S j t)) := by
  have hz := hS.1 j hj
  have hzt := hS.1 t ht
  rw [fX1_hasItemsOf, size_s h (by omega), bd_s, size_s h (by omega), bd_s, lt_e]
  exact has_L hS h hj ht (aN S j) 0 zFU _ (by omega) (fuelN (by omega)) (soF_0 hz hzt)
theorem has_r {L : List Int64} (hS : sW J S) (h : uC w0 J (rT L S) T H w) {j t : Nat} (hj : j < 4) (ht : t < 4) : ∃ b : Bool, fX1_hasItemsOf (LN j) (LN t) w = some (b, w) ∧ ((b = true ∧ alk S j t) ∨ (b = false ∧ ¬ alk S j t)) := has_s (S := rT L S) hS h hj ht
theorem comes_s (w : zW) (p q : Int64) : fX0_comesTo p q w = some (decide (zL w 1 2 = p ∧ zL w 1 3 = q), w) := by
  rw [fX0_comesTo]
  by_cases d1 : zL w 1 2 = p
  · by_cases d2 : zL w 1 3 = q
    · rw [if_neg (not_not_intro d1), if_neg (not_not_intro d2), decide_eq_true ⟨d1, d2⟩]
    · rw [if_neg (not_not_intro d1), if_pos d2, decide_eq_false (fun z => d2 z.2)]
  · rw [if_pos d1, decide_eq_false (fun z => d1 z.1)]
/-- the SUMMARY of a whole LINE; what same tells -/
def sA (J : aJ) (S : aS) (j : Nat) : aP := sF J S j 0 (aN S j)
def smR (J : aJ) (S : aS) (j t : Nat) : List Int64 := [if (sA J S j).1 = (sA J S t).1 ∧ (sA J S j).2 = (sA J S t).2 then 1 else 0, (nI (nB S j t (aN S j))).toInt64]
theorem same_c (hW : jW J) (hS : sW J S) (hC : uC w0 J S T H w) {j t : Nat} (hj : j < 4) (ht : t < 4) : Ok (fX7_same (nI j) (nI t) w) (fun a w' => Sam S j t a ∧ uC w0 J (rT (smR J S j t) S) T H w') := by
  have hz := hS.1 j hj
  have hzt := hS.1 t ht
  rw [fX7_same, lineAt_s w hj, bd_s, oc_s, lineAt_s w ht, bd_s, oc_s, size_s hC (by omega), bd_s]
  refine ok_b (sumUp_s hW hC (a := 0) (by omega) hz (fun x hx => sI hS hj hx) (Nat.zero_le _) (Nat.le_refl _)) (fun _ w2 a2 => ?_)
  obtain ⟨a2, p2, q2⟩ := a2
  rw [Nat.sub_zero] at p2 q2
  rw [lt_e, lt_e, size_s a2 (by omega), bd_s, p2, q2]
  refine ok_b (sumUp_s hW a2 (a := 0) (by omega) hzt (fun x hx => sI hS ht hx) (Nat.zero_le _) (Nat.le_refl _)) (fun _ w3 a3 => ?_)
  obtain ⟨a3, p3, q3⟩ := a3
  rw [Nat.sub_zero] at p3 q3
  rw [comes_s, bd_s, p3, q3, lt_e]
  have fin : ∀ s : Int64, s = (if (sA J S j).1 = (sA J S t).1 ∧ (sA J S j).2 = (sA J S t).2 then 1 else 0) → Ok ((fun (s_84 : Int64) (w30 : zW) => bd (fX1_cellsSharedWith (LN j) (LN t) w30) fun v33 w31 => bd (fX7_tell_ s_84 (v33).toInt64 w31) fun _ w34 => bd (fX1_hasItemsOf (LN j) (LN t) w34) fun b39 w37 => if b39 = true then some ((1 : Int32), w37) else some ((0 : Int32), w37)) s w3) (fun a w' => Sam S j t a ∧ uC w0 J (rT (smR J S j t) S) T H w') := by
    intro s hs
    dsimp only
    rw [shw_s a3 hS hj ht, bd_s, hs]
    refine ok_b (tell2_s a3 _ _) (fun _ w4 a4 => ?_)
    obtain ⟨b, eb, hb⟩ := has_r hS a4 hj ht
    rw [eb, bd_s]
    rcases hb with ⟨rfl, a⟩ | ⟨rfl, a⟩
    · rw [tt]; exact ok_r ⟨.inl ⟨rfl, a⟩, a4⟩
    · rw [ff]; exact ok_r ⟨.inr ⟨rfl, a⟩, a4⟩
  by_cases c : (sF J S t 0 (aN S t)).1 = (sF J S j 0 (aN S j)).1 ∧ (sF J S t 0 (aN S t)).2 = (sF J S j 0 (aN S j)).2
  · rw [decide_eq_true c, tt]
    exact fin 1 (if_pos ⟨c.1.symm, c.2.symm⟩).symm
  · rw [decide_eq_false c, ff]
    exact fin 0 (if_neg (fun z => c ⟨z.1.symm, z.2.symm⟩)).symm
theorem same_r (hW : jW J) (hS : sW J S) {M : Nat} (hm : mI S M) (hM : M < 2 ^ 31) {j t : Nat} (hj : j < 4) (ht : t < 4) : ∀ m i N (x3 : Int32) w, i + m = aN S j → m < N → SoF S j t i x3 → uD w0 J S T H w → Ok (fX8_same_L46 (nI j) (nI t) N x3 (nI (nB S j t i)) (nI i) w) (fun a w' => Sam S j t a ∧ uD w0 J (rT (smR J S j t) S) T H w') := by
  have hz := hS.1 j hj
  have hzt := hS.1 t ht
  intro m
  induction m with
  | zero =>
    intro i N x3 w hi hN hx h
    obtain ⟨N, rfl⟩ : ∃ k, N = k + 1 := ⟨N - 1, by omega⟩
    have hx := soF_e (by rw [show aN S j = i by omega]; exact hx)
    have ef : ∀ w, fX8_flag x3 w = some (x3, w) := fun w => by
      rcases hx with ⟨rfl, -⟩ | ⟨rfl, -⟩
      · rfl
      · rfl
    rw [fX8_same_L46.eq_2, sizeOf_s h (by omega), bd_s, if_pos (nI_le (by omega) (by omega)), show i = aN S j by omega]
    refine ok_b (summary_s hW h (sW_B hS) (show j < 5 by omega) (sW_V hS (by omega)) (sW_V hS (by omega))) (fun _ w2 a2 => ?_)
    obtain ⟨a2, -, p2, q2⟩ := a2
    rw [yF_s hW (sW_V hS (by omega)) (sW_V hS (by omega)) hz] at p2 q2
    rw [lt_e, lt_e, p2, q2]
    refine ok_b (summary_s hW a2 (sW_B hS) (show t < 5 by omega) (sW_V hS (by omega)) (sW_V hS (by omega))) (fun _ w3 a3 => ?_)
    obtain ⟨a3, -, p3, q3⟩ := a3
    rw [yF_s hW (sW_V hS (by omega)) (sW_V hS (by omega)) hzt] at p3 q3
    rw [lt_e, show zL (zsI w3 74 1 0) 74 11 = (sF J S t 0 (aN S t)).1 from p3, show zL (zsI w3 74 1 0) 74 12 = (sF J S t 0 (aN S t)).2 from q3]
    have fin : ∀ c : Int32, (c = 0 ∨ c = 1) → c.toInt64 = (if (sA J S j).1 = (sA J S t).1 ∧ (sA J S j).2 = (sA J S t).2 then 1 else 0) → Ok (bd (fX8_flag c (zsI w3 74 1 0)) fun v34 w32 => bd (fX8_enters (v34).toInt64 w32) fun _ w35 => bd (fX8_enters (nI (nB S j t (aN S j))).toInt64 w35) fun _ w38 => bd (fX8_flag x3 w38) fun v43 w41 => some (v43, w41)) (fun a w' => Sam S j t a ∧ uD w0 J (rT (smR J S j t) S) T H w') := by
      intro c hc0 hc
      have e0 : fX8_flag c (zsI w3 74 1 0) = some (c, zsI w3 74 1 0) := by
        rcases hc0 with rfl | rfl
        · rfl
        · rfl
      rw [e0, bd_s, hc]
      refine ok_b (enters_s (L := []) (uD_1 a3) (by decide) _) (fun _ w4 a4 => ?_)
      refine ok_b (enters_s a4.1 (show 1 < 128 by decide) _) (fun _ w5 a5 => ?_)
      rw [ef, bd_s]
      exact ok_r ⟨hx, a5.1⟩
    refine ok_i (fun c => fin 0 (.inl rfl) ?_) (fun c => ok_i (fun d => fin 0 (.inl rfl) ?_) (fun d => fin 1 (.inr rfl) ?_))
    · rw [if_neg (show ¬ ((sA J S j).1 = (sA J S t).1 ∧ (sA J S j).2 = (sA J S t).2) from fun z => c z.1)]; rfl
    · rw [if_neg (show ¬ ((sA J S j).1 = (sA J S t).1 ∧ (sA J S j).2 = (sA J S t).2) from fun z => d z.2)]; rfl
    · rw [if_pos (show (sA J S j).1 = (sA J S t).1 ∧ (sA J S j).2 = (sA J S t).2 from ⟨Decidable.not_not.mp c, Decidable.not_not.mp d⟩)]; rfl
  | succ m ih =>
    intro i N x3 w hi hN hx h
    obtain ⟨N, rfl⟩ : ∃ k, N = k + 1 := ⟨N - 1, by omega⟩
    have hp := pH_l (show i < aN S j by omega)
    have hk : pK S j i < 10 := pK_b (by omega)
    have hq : sZ S (pK S j i) ≤ 64 := pK_64 hz
    rw [fX8_same_L46.eq_2, sizeOf_s h (by omega), bd_s, if_neg (Int32.not_le.mpr (nI_lt (by omega) (by omega))), lt_e, lt_e]
    have go : ∀ s, SoF S j t (i + 1) s → Ok ((fun (s_82 : Int32) (w70 : zW) => bd (fX8_placeOf (nI j) (nI i) w70) fun v73 w71 => zg (zin v73 640) <| bd (fX8_hasCell (nI t) (zI w71 84 v73.toNatClampNeg) w71) fun b76 w74 => bd (fX8_flag (zb b76) w74) fun v79 w77 => lt (nI (nB S j t i) + v79) fun v80 => fX8_same_L46 (nI j) (nI t) N s_82 v80 (nI i + (1 : Int32)) w77) s w) (fun a w' => Sam S j t a ∧ uD w0 J (rT (smR J S j t) S) T H w') := by
      intro s hs
      dsimp only
      rw [placeOf_s h (by omega) (by unfold aN at hz; omega) (by omega), bd_s, zin_t (show 64 * pK S j i + pH S j i < 640 by omega) (by decide), zg_t, nI_clamp (show 64 * pK S j i + pH S j i < 2 ^ 31 by omega), hasCell_r hS h hm hM hj (show i < aN S j by omega) ht, bd_s]
      have e : nB S j t (i + 1) = nB S j t i + (if shf S j i t = true then 1 else 0) := rfl
      have e2 : fX8_flag (zb (shf S j i t)) w = some (nI (if shf S j i t = true then 1 else 0), w) := by
        cases shf S j i t <;> rfl
      rw [e2, bd_s, lt_e, nI_add, nI_1, ← e]
      exact ih (i + 1) N s w (by omega) (by omega) hs h
    rcases hx with ⟨rfl, a, b⟩ | ⟨rfl, a⟩
    · have hf := soF_1 (show i < aN S j by omega) a b (sI hS hj (by omega)) (sI hS ht (by omega))
      rw [if_neg (show ¬ (1 : Int32) = 0 by decide), itemAt8_s h (by omega) hz (by omega), bd_s, itemAt8_s h (by omega) hzt (by omega), bd_s]
      by_cases c : nI (aI S j i) = nI (aI S t i)
      · rw [if_neg (not_not_intro c)] at hf ⊢
        exact go 1 hf
      · rw [if_pos c] at hf ⊢
        exact go 0 hf
    · rw [if_pos rfl]; exact go 0 (.inr ⟨rfl, a⟩)
theorem same_b (h : rW J S T w) (hm : ∃ M, M < 2147483648 ∧ mI S M) (a b : Int32) : Bq S (fX7_same a b) (fX8_same a b) Eq w := by
  obtain ⟨hW, hS, hT, -, -⟩ := id h
  obtain ⟨M, hM, hm⟩ := hm
  rcases ln a with hl | ⟨j, hj, rfl⟩
  · rcases ln b with hl2 | ⟨t, ht, rfl⟩
    · exact bq_x h (-1) (fun H hC => by rw [fX7_same, lineAt_n w hl, bd_s, oc_n, lineAt_n w hl2, bd_s, oc_n]) (fun w1 H hD => by rw [fX8_same, lt_e, isLine_n _ hl, bd_s, ff])
    · exact bq_x h (-1) (fun H hC => by rw [fX7_same, lineAt_n w hl, bd_s, oc_n, lineAt_s w ht, bd_s, oc_s]) (fun w1 H hD => by rw [fX8_same, lt_e, isLine_n _ hl, bd_s, ff])
  rcases ln b with hl2 | ⟨t, ht, rfl⟩
  · exact bq_x h (-1) (fun H hC => by rw [fX7_same, lineAt_s w hj, bd_s, oc_s, lineAt_n w hl2, bd_s, oc_n]) (fun w1 H hD => by rw [fX8_same, lt_e, isLine_s _ hj, bd_s, tt, isLine_n _ hl2, bd_s, ff])
  have hz := hS.1 j hj
  have hzt := hS.1 t ht
  refine bh_t (fun x L => Sam S j t x ∧ L = smR J S j t) (fun x L => Sam S j t x ∧ L = smR J S j t) (fun x y L M a b => ⟨sam_u a.1 b.1, a.2.trans b.2.symm⟩) h (fun H hC => ok_m (same_c hW hS hC hj ht) (fun _ _ q => ⟨_, ⟨q.1, rfl⟩, q.2⟩)) (fun w1 H hD => ?_)
  rw [fX8_same, lt_e, isLine_s _ hj, bd_s, tt, isLine_s _ ht, bd_s, tt, sizeOf_s (uD_0 hD) (by omega), bd_s, sizeOf_s (uD_0 hD) (by omega), bd_s, lt_e]
  exact ok_m (same_r hW hS hm hM hj ht (aN S j) 0 zFU _ _ (by omega) (fuelN (by omega)) (soF_0 hz hzt) (uD_0 hD)) (fun _ _ q => ⟨_, ⟨q.1, rfl⟩, q.2⟩)
end BS
