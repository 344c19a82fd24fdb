set_option maxRecDepth 16384
theorem isLn_j {j : Nat} (hj : j < 4) : isLn (LN j) := by
  rcases (show j = 0 ∨ j = 1 ∨ j = 2 ∨ j = 3 by omega) with rfl | rfl | rfl | rfl
  · exact .inl rfl
  · exact .inr (.inl rfl)
  · exact .inr (.inr (.inl rfl))
  · exact .inr (.inr (.inr rfl))
/-- the LINEs j, t hold the same ITEMS in order -/
def alk (S : aS) (j t : Nat) : Prop := aN S j = aN S t ∧ ∀ i, i < aN S j → aI S j i = aI S t i
def Sam (S : aS) (j t : Nat) (x : Int32) : Prop := (x = 1 ∧ alk S j t) ∨ (x = 0 ∧ ¬ alk S j t)
theorem sam_u {S : aS} {j t : Nat} {x y : Int32} (h : Sam S j t x) (g : Sam S j t y) : x = y := by
  rcases h with ⟨rfl, a⟩ | ⟨rfl, a⟩ <;> rcases g with ⟨rfl, b⟩ | ⟨rfl, b⟩
  · rfl
  · exact absurd a b
  · exact absurd b a
  · rfl
/-- so far alike, or known to be unlike -/
def SoF (S : aS) (j t i : Nat) (x : Int32) : Prop := (x = 1 ∧ aN S j = aN S t ∧ ∀ k, k < i → aI S j k = aI S t k) ∨ (x = 0 ∧ ¬ alk S j t)
theorem soF_0 {S : aS} {j t : Nat} (hz : aN S j ≤ 64) (hzt : aN S t ≤ 64) : SoF S j t 0 (if ¬ nI (aN S j) = nI (aN S t) then (0 : Int32) else 1) := by
  by_cases c : nI (aN S j) = nI (aN S t)
  · rw [if_neg (not_not_intro c)]
    exact .inl ⟨rfl, (nI_eq (by omega) (by omega)).mp c, fun k hk => absurd hk (Nat.not_lt_zero k)⟩
  · rw [if_pos c]
    exact .inr ⟨rfl, fun q => c (by rw [q.1])⟩
theorem soF_1 {S : aS} {j t i : Nat} (hi : i < aN S j) (he : aN S j = aN S t) (h : ∀ k, k < i → aI S j k = aI S t k) (hb : aI S j i < 10000) (hc : aI S t i < 10000) : SoF S j t (i + 1) (if ¬ nI (aI S j i) = nI (aI S t i) then (0 : Int32) else 1) := by
  by_cases c : nI (aI S j i) = nI (aI S t i)
  · rw [if_neg (not_not_intro c)]
    refine .inl ⟨rfl, he, fun k hk => ?_⟩
    by_cases e : k = i
    · rw [e]; exact (nI_eq (by omega) (by omega)).mp c
    · exact h k (by omega)
  · rw [if_pos c]
    exact .inr ⟨rfl, fun q => c (by rw [q.2 i hi])⟩
theorem soF_e {S : aS} {j t : Nat} {x : Int32} (h : SoF S j t (aN S j) x) : Sam S j t x := by
  rcases h with ⟨rfl, a, b⟩ | ⟨rfl, a⟩
  · exact .inl ⟨rfl, a, b⟩
  · exact .inr ⟨rfl, a⟩
section BS
variable {J : aJ} {S : aS} {T : aT} {w w1 w2 : zW} {H H' : Nat → Int32} {w0 : zX}
theorem has_L (hS : sW J S) (h : uC w0 J S T H w) {j t : Nat} (hj : j < 4) (ht : t < 4) : ∀ m i N (x : Int32), i + m = aN S j → m < N → SoF S j t i x → ∃ b : Bool, fX1_hasItemsOf_L19 (LN j) (LN t) N x (nI i) w = some (b, w) ∧ ((b = true ∧ alk S j t) ∨ (b = false ∧ ¬ alk S j t)) := by
  have hz := hS.1 j hj
  have hzt := hS.1 t ht
  have fin : ∀ x, SoF S j t (aN S j) x ∨ (x = 0 ∧ ¬ alk S j t) → ((zvb x = true ∧ alk S j t) ∨ (zvb x = false ∧ ¬ alk S j t)) := by
    intro x hx
    rcases hx with hx | ⟨rfl, a⟩
    · rcases soF_e hx with ⟨rfl, a⟩ | ⟨rfl, a⟩
      · exact .inl ⟨by decide, a⟩
      · exact .inr ⟨by decide, a⟩
    · exact .inr ⟨by decide, a⟩
  intro m
  induction m with
  | zero =>
    intro i N x hi hN hx
    obtain ⟨N, rfl⟩ : ∃ k, N = k + 1 := ⟨N - 1, by omega⟩
    rw [fX1_hasItemsOf_L19.eq_2, size_s h (by omega), bd_s, if_pos (nI_le (by omega) (by omega))]
    exact ⟨_, rfl, fin x (.inl (by rw [show aN S j = i by omega]; exact hx))⟩
  | succ m ih =>
    intro i N x hi hN hx
    obtain ⟨N, rfl⟩ : ∃ k, N = k + 1 := ⟨N - 1, by omega⟩
    rw [fX1_hasItemsOf_L19.eq_2, size_s h (by omega), bd_s, if_neg (Int32.not_le.mpr (nI_lt (by omega) (by omega)))]
    rcases hx with ⟨rfl, a, b⟩ | ⟨rfl, a⟩
    · rw [if_neg (show ¬ (1 : Int32) = 0 by decide), itemAt_s h (by omega) hz (by omega), bd_s, itemAt_s h (by omega) hzt (by omega), bd_s, lt_e, nI_1]
      exact ih (i + 1) N _ (by omega) (by omega) (soF_1 (by omega) a b (sI hS hj (by omega)) (sI hS ht (by omega)))
    · rw [if_pos rfl]
      exact ⟨_, rfl, fin 0 (.inr ⟨rfl, a⟩)⟩
theorem has_s (hS : sW J S) (h : uC w0 J S T H w) {j t : Nat} (hj : j < 4) (ht : t < 4) : ∃ b : Bool, fX1_hasItemsOf (LN j) (LN t) w = some (b, w) ∧ ((b = true ∧ alk S j t) ∨ (b = false ∧ ¬ alk S j t)) := by
  have hz := hS.1 j hj
  have hzt := hS.1 t ht
  rw [fX1_hasItemsOf, size_s h (by omega), bd_s, size_s h (by omega), bd_s, lt_e]
  exact has_L hS h hj ht (aN S j) 0 zFU _ (by omega) (fuelN (by omega)) (soF_0 hz hzt)
theorem same_c (h : rW J S T w) {j t : Nat} (hj : j < 4) (ht : t < 4) : Ok (fX7_same (nI j) (nI t) w) (fun a w' => Sam S j t a ∧ rW J S T w') := by
  have hSz := rW_Sz h
  have hQ := qc_0 w
  rw [fX7_same, lineAt_s w hj, bd_s, oc_s, lineAt_s w ht, bd_s, oc_s]
  refine ok_b (o1_size hSz (isLn_j hj) hQ) (fun v15 w13 hQ10 => ?_)
  refine ok_b (o7_sumUp (LN j) (0 : Int32) v15 hSz hQ10.2) (fun _ w16 hQ12 => ?_)
  rw [lt_e, lt_e]
  refine ok_b (o1_size hSz (isLn_j ht) hQ12) (fun v23 w21 hQ15 => ?_)
  refine ok_b (o7_sumUp (LN t) (0 : Int32) v23 hSz hQ15.2) (fun _ w24 hQ17 => ?_)
  refine ok_b (o0_comesTo _ _ hSz hQ17) (fun b29 w27 hQ18 => ?_)
  refine ok_jn (fun g => ∀ (s : Int64) (w30 : zW), Qc w w30 → Ok (g s w30) (fun a w' => Sam S j t a ∧ rW J S T w')) ?_ ?_
  · intro s w30 hQ20
    refine ok_b (o1_cellsSharedWith (LN j) (LN t) hSz hQ20 (isLn_j hj)) (fun v33 w31 hQ21 => ?_)
    refine ok_b (o7_tell_ s v33.toInt64 hSz hQ21) (fun _ w34 hQ22 => ?_)
    have h4 := rW_Q h hQ22
    obtain ⟨-, hS4, -, ⟨H4, hC4⟩, -⟩ := id h4
    obtain ⟨b, eb, hb⟩ := has_s hS4 hC4 hj ht
    rw [eb, bd_s]
    rcases hb with ⟨rfl, a⟩ | ⟨rfl, a⟩
    · rw [tt]; exact ok_r ⟨.inl ⟨rfl, a⟩, h4⟩
    · rw [ff]; exact ok_r ⟨.inr ⟨rfl, a⟩, h4⟩
  · intro g hg
    exact ok_i (fun _ => hg 1 w27 hQ18) (fun _ => hg 0 w27 hQ18)
theorem same_r (hW : jW J) (hS : sW J S) {j t : Nat} (hj : j < 4) (ht : t < 4) : ∀ m i N (x3 x4 : Int32) w, i + m = aN S j → m < N → SoF S j t i x3 → uD w0 J S T H w → Ok (fX8_same_L46 (nI j) (nI t) N x3 x4 (nI i) w) (fun a w' => Sam S j t a ∧ uD w0 J S T H w') := by
  have hz := hS.1 j hj
  have hzt := hS.1 t ht
  intro m
  induction m with
  | zero =>
    intro i N x3 x4 w hi hN hx h
    obtain ⟨N, rfl⟩ : ∃ k, N = k + 1 := ⟨N - 1, by omega⟩
    have hx := soF_e (by rw [show aN S j = i by omega]; exact hx)
    rw [fX8_same_L46.eq_2, sizeOf_s h (by omega), bd_s, if_pos (nI_le (by omega) (by omega))]
    refine ok_b (summary_2 hW hS h hj) (fun _ w2 a2 => ?_)
    rw [lt_e, lt_e]
    refine ok_b (summary_2 hW hS a2 ht) (fun _ w3 a3 => ?_)
    rw [lt_e]
    have fin : ∀ c : Int32, Ok (bd (fX8_flag c (zsI w3 74 1 0)) fun v34 w32 => bd (fX8_enters (v34).toInt64 w32) fun _ w35 => bd (fX8_enters (x4).toInt64 w35) fun _ w38 => bd (fX8_flag x3 w38) fun v43 w41 => some (v43, w41)) (fun a w' => Sam S j t a ∧ uD w0 J S T H w') := by
      intro c
      obtain ⟨b, eb⟩ := flag_t c (zsI w3 74 1 0)
      rw [eb, bd_s]
      refine ok_b (enters_s (n := 0) (uD_1 (v := 0) a3) rfl (by decide) _) (fun _ w4 a4 => ?_)
      refine ok_b (enters_s a4.1 a4.2 (by decide) _) (fun _ w5 a5 => ?_)
      have ef : fX8_flag x3 w5 = some (x3, w5) := by
        rcases hx with ⟨rfl, -⟩ | ⟨rfl, -⟩
        · rfl
        · rfl
      rw [ef, bd_s]
      exact ok_r ⟨hx, a5.1⟩
    exact ok_i (fun _ => fin 0) (fun _ => ok_i (fun _ => fin 0) (fun _ => fin 1))
  | succ m ih =>
    intro i N x3 x4 w hi hN hx h
    obtain ⟨N, rfl⟩ : ∃ k, N = k + 1 := ⟨N - 1, by omega⟩
    have hp := pH_l (show i < aN S j by omega)
    have hk : pK S j i < 10 := pK_b (by omega)
    have hq : sZ S (pK S j i) ≤ 64 := pK_64 hz
    rw [fX8_same_L46.eq_2, sizeOf_s h (by omega), bd_s, if_neg (Int32.not_le.mpr (nI_lt (by omega) (by omega))), lt_e, lt_e]
    have go : ∀ s, SoF S j t (i + 1) s → Ok ((fun (s_82 : Int32) (w70 : zW) => bd (fX8_placeOf (nI j) (nI i) w70) fun v73 w71 => zg (zin v73 640) <| bd (fX8_hasCell (nI t) (zI w71 84 v73.toNatClampNeg) w71) fun b76 w74 => bd (fX8_flag (zb b76) w74) fun v79 w77 => lt (x4 + v79) fun v80 => fX8_same_L46 (nI j) (nI t) N s_82 v80 (nI i + (1 : Int32)) w77) s w) (fun a w' => Sam S j t a ∧ uD w0 J S T H w') := by
      intro s hs
      dsimp only
      rw [placeOf_s h (by omega) (by unfold aN at hz; omega) (by omega), bd_s, zin_t (show 64 * pK S j i + pH S j i < 640 by omega) (by decide), zg_t]
      obtain ⟨b, eb⟩ := hasCell_t hS h ht (zI w 84 (nI (64 * pK S j i + pH S j i)).toNatClampNeg)
      rw [eb, bd_s]
      obtain ⟨b2, eb2⟩ := flag_t (zb b) w
      rw [eb2, bd_s, lt_e, nI_1]
      exact ih (i + 1) N s _ w (by omega) (by omega) hs h
    rcases hx with ⟨rfl, a, b⟩ | ⟨rfl, a⟩
    · have hf := soF_1 (show i < aN S j by omega) a b (sI hS hj (by omega)) (sI hS ht (by omega))
      rw [if_neg (show ¬ (1 : Int32) = 0 by decide), itemAt8_s h (by omega) hz (by omega), bd_s, itemAt8_s h (by omega) hzt (by omega), bd_s]
      by_cases c : nI (aI S j i) = nI (aI S t i)
      · rw [if_neg (not_not_intro c)] at hf ⊢
        exact go 1 hf
      · rw [if_pos c] at hf ⊢
        exact go 0 hf
    · rw [if_pos rfl]; exact go 0 (.inr ⟨rfl, a⟩)
theorem same_b (h : rW J S T w) (a b : Int32) : Bq (fX7_same a b) (fX8_same a b) Eq w := by
  obtain ⟨hW, hS, hT, -, -⟩ := id h
  rcases ln a with hl | ⟨j, hj, rfl⟩
  · rcases ln b with hl2 | ⟨t, ht, rfl⟩
    · exact bq_x h (-1) (fun H hC => by rw [fX7_same, lineAt_n w hl, bd_s, oc_n, lineAt_n w hl2, bd_s, oc_n]) (fun w1 H hD => by rw [fX8_same, lt_e, isLine_n _ hl, bd_s, ff])
    · exact bq_x h (-1) (fun H hC => by rw [fX7_same, lineAt_n w hl, bd_s, oc_n, lineAt_s w ht, bd_s, oc_s]) (fun w1 H hD => by rw [fX8_same, lt_e, isLine_n _ hl, bd_s, ff])
  rcases ln b with hl2 | ⟨t, ht, rfl⟩
  · exact bq_x h (-1) (fun H hC => by rw [fX7_same, lineAt_s w hj, bd_s, oc_s, lineAt_n w hl2, bd_s, oc_n]) (fun w1 H hD => by rw [fX8_same, lt_e, isLine_s _ hj, bd_s, tt, isLine_n _ hl2, bd_s, ff])
  have hz := hS.1 j hj
  have hzt := hS.1 t ht
  refine bh (Sam S j t) (Sam S j t) (fun x y a b => sam_u a b) h (same_c h hj ht) (fun w1 h1 => ?_)
  obtain ⟨-, -, -, -, H, hD⟩ := id h1
  have hD := uD_sf hD
  rw [fX8_same, lt_e, isLine_s _ hj, bd_s, tt, isLine_s _ ht, bd_s, tt, sizeOf_s (uD_0 hD) (by omega), bd_s, sizeOf_s (uD_0 hD) (by omega), bd_s, lt_e]
  exact ok_m (same_r hW hS hj ht (aN S j) 0 zFU _ _ _ (by omega) (fuelN (by omega)) (soF_0 hz hzt) (uD_0 hD)) (fun _ _ q => ⟨q.1, rW_D h1 q.2⟩)
end BS
