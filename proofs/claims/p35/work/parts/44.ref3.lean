set_option maxRecDepth 16384
section R5
variable {w0 : zX} {w : zW} {J : aJ} {S : aS} {T : aT} {H : Nat → Int32} {j : Nat}
theorem uD_B (h : uD w0 J S T H w) : uD w0 J (bS S) T H (zsI w 74 24 (zI w 74 24 + 1)) := by
  obtain ⟨a, b, c, d, e, f, g⟩ := h
  exact ⟨a, b, ⟨c.1, by rw [zI_zsI, if_pos ⟨rfl, rfl⟩, c.2]; rfl⟩, d, e, fun k j hk => ⟨by rw [zI_zsI, if_neg (by omega)]; exact (f k j hk).1, (f k j hk).2⟩, g⟩
theorem uD_c (h : uD w0 J S T H w) {n : Nat} (hn : n ≤ 160) : uD w0 J S T H (zsI w 74 1 (nI n)) := by
  obtain ⟨a, b, c, d, e, f, g⟩ := h
  exact ⟨a, b, c, d, e, fun k j hk => ⟨by rw [zI_zsI, if_neg (by omega)]; exact (f k j hk).1, (f k j hk).2⟩, g.1, n, hn, rfl⟩
theorem enters_s (h : uD w0 J S T H w) {n : Nat} (hn : zI w 74 1 = nI n) (hl : n < 160) (a : Int64) : Ok (fX8_enters a w) (fun _ w' => uD w0 J S T H w' ∧ zI w' 74 1 = nI (n + 1)) := by
  have e : zI (zsL w 75 n a) 74 1 = nI n := hn
  rw [fX8_enters, hn, zin_t hl (by decide), zg_t, lt_e, nI_clamp (by omega), e, lt_e, nI_1]
  exact ok_r ⟨uD_c (uD_L h (by unfold gD; omega)) (by omega), rfl⟩
theorem tellsWork_s (h : uD w0 J S T H w) (a b : Int32) : Ok (fX8_tellsWork a b w) (fun x w' => x = b ∧ uD w0 J S T H w') := by
  rw [fX8_tellsWork, lt_e]
  refine ok_b (enters_s (n := 0) (uD_c (n := 0) h (by decide)) rfl (by decide) _) (fun _ w1 a1 => ok_r ⟨rfl, a1.1⟩)
theorem idx2 {e : Nat} (hj : j < 5) (he : e < 2) : (2 : Int32) * nI j + nI e = nI (2 * j + e) ∧ zin (nI (2 * j + e)) 10 = true ∧ (nI (2 * j + e)).toNatClampNeg = 2 * j + e := by
  refine ⟨?_, zin_t (by omega) (by decide), nI_clamp (by omega)⟩
  rw [show (2 : Int32) * nI j = nI (2 * j) from pk_mul 2 j, nI_add]
theorem tR_b {e : Nat} (he : e < 2) (hn : 0 < aN S j) (hz : aN S j ≤ 64) : sZ (tR J j e S) (2 * j + e) ≤ 64 := by
  have h2 := (tR_z (J := J) (S := S) (j := j) e he hn).2
  unfold aN at h2 hz
  rcases (show e = 0 ∨ e = 1 by omega) with rfl | rfl
  · show sZ (tR J j 0 S) (2 * j) ≤ 64; omega
  · omega
theorem takesOne_s (hW : jW J) (h : uD w0 J S T H w) (hb : zB S) (hj : j < 5) {e : Nat} (he : e < 2) (hz : aN S j ≤ 64) (hn : 0 < aN S j) (h0 : kV J S (2 * j)) (h1 : kV J S (2 * j + 1)) : Ok (fX8_takesOne (nI j) (nI e) w) (fun a w' => a = nI (tI J j e S) ∧ ∃ H', uD w0 J (tS J j e S) T H' w') := by
  have hk : 2 * j + e < 10 := by omega
  have ix := idx2 hj he
  rw [fX8_takesOne, ix.1, lt_e, ix.2.1, zg_t, lt_e, ix.2.2, uD_z h hk]
  have top : ∀ w1 H1, uD w0 J (tR J j e S) T H1 w1 → Ok (zg true <| zg true <| lt (zsI w1 83 (2 * j + e) ((zI w1 83 (2 * j + e)) - (1 : Int32))) fun w3 => zg true <| bd (fX8_place (nI (2 * j + e)) (zI w3 83 (2 * j + e)) w3) fun v6 w4 => zg (zin v6 640) <| some ((zI w4 85 v6.toNatClampNeg), w4)) (fun a w' => a = nI (tI J j e S) ∧ ∃ H', uD w0 J (tS J j e S) T H' w') := by
    intro w1 H1 a1
    have ht := tR_z (J := J) (S := S) (j := j) e he hn
    have hl := tR_b (J := J) he hn hz
    have hz1 := uD_z a1 hk
    generalize hgm : sZ (tR J j e S) (2 * j + e) = m at *
    obtain ⟨m, rfl⟩ : ∃ x, m = x + 1 := ⟨m - 1, by omega⟩
    have a2 := uD_Z a1 (k := 2 * j + e) (n := m) hk (by omega)
    have hc := ((a1.2.1 _ hk).2 m (by omega)).1
    rw [zg_t, zg_t, hz1, lt_e, nI_pred, zg_t, zI_zsI, if_pos ⟨rfl, rfl⟩, fX8_place, bd_s, show (64 : Int32) = nI 64 from rfl, pk_mul, nI_add, zin_t (show 64 * (2 * j + e) + m < 640 by omega) (by decide), zg_t, nI_clamp (by omega)]
    refine ok_r ⟨?_, H1, ?_⟩
    · rw [zI_zsI, if_neg (by omega), hc]; unfold tI; rw [hgm]; rfl
    · unfold tS; rw [hgm]; exact a2
  by_cases c : sZ S (2 * j + e) = 0
  · rw [c, if_neg (show ¬ ¬ nI 0 = 0 from not_not_intro rfl)]
    refine ok_b (items_s h hj hz) (fun a w1 a1 => ?_)
    obtain ⟨rfl, a1⟩ := a1
    have hf : hF (aN S j) e ≤ aN S j := by unfold hF; split <;> omega
    have he2 : (if ¬ nI e = (0 : Int32) then nI (aN S j) - nI ((aN S j + 1) / 2) else nI ((aN S j + 1) / 2)) = nI (hF (aN S j) e) := by
      unfold hF
      rcases (show e = 0 ∨ e = 1 by omega) with rfl | rfl
      · rw [if_neg (show ¬ ¬ nI 0 = 0 from not_not_intro rfl), if_pos rfl]
      · rw [if_pos (show ¬ nI 1 = 0 by decide), if_neg (by omega), pk_sub (by omega)]
    rw [two_d (by omega), lt_e, lt_e, he2]
    refine ok_b (lay8_s hW a1 hb hj (g := aI S j) (fr := 0) hz hf (by omega) (fun i hi => ⟨by rw [Nat.zero_add]; exact hH_a hi, aI_l (kV_I h0) (kV_I h1) hi⟩)) (fun _ w2 a2 => ?_)
    rw [lt_e]
    refine top _ (hH (aI S j) (aN S j) H) ?_
    unfold tR
    rw [if_pos c]
    exact uD_B a2
  · have hs := hb (2 * j + e) hk
    rw [if_pos (nI_ne0 (by omega) (by omega))]
    refine top _ H ?_
    unfold tR
    rw [if_neg c]; exact h
theorem turns_L (hW : jW J) (hb : zB S) (hj : j < 5) (hz : aN S j ≤ 64) (h0 : kI S (2 * j)) (h1 : kI S (2 * j + 1)) : ∀ m N i w (H : Nat → Int32), i + m = aN S j / 2 → m < N → (∀ x, x < aN S j → H x = nI (aI S j (if x < i ∨ aN S j ≤ x + i then aN S j - 1 - x else x))) → uD w0 J S T H w → Ok (fX8_turns_L20 (nI j) (nI (sZ S (2 * j + 1))) (nI (aN S j)) N (nI i) w) (fun a w' => a = nI (aN S j) ∧ ∃ H', uD w0 J (vS J j S) T H' w') := by
  intro m
  induction m with
  | zero =>
    intro N i w H hm hN hH h
    obtain ⟨N, rfl⟩ : ∃ k, N = k + 1 := ⟨N - 1, by omega⟩
    rw [fX8_turns_L20.eq_2, divN (D := 2) (d := 2) rfl (by omega) (by decide) (by decide), show i = aN S j / 2 by omega, if_pos (Int32.le_refl _)]
    refine ok_b (lay8_s hW h hb hj (g := fun x => aI S j (aN S j - 1 - x)) (fr := 0) hz (by unfold aN; omega) (by omega) (fun x hx => ⟨?_, aI_l h0 h1 (by omega)⟩)) (fun _ w2 a2 => ok_r ⟨rfl, _, a2⟩)
    rw [Nat.zero_add, hH x hx]
    by_cases c : x < i ∨ aN S j ≤ x + i
    · rw [if_pos c]
    · rw [if_neg c, show aN S j - 1 - x = x by omega]
  | succ m ih =>
    intro N i w H hm hN hH h
    obtain ⟨N, rfl⟩ : ∃ k, N = k + 1 := ⟨N - 1, by omega⟩
    rw [fX8_turns_L20.eq_2, divN (D := 2) (d := 2) rfl (by omega) (by decide) (by decide), if_neg (Int32.not_le.mpr (nI_lt (by omega) (by omega))), zin_t (show i < 65 by omega) (by decide), zg_t, lt_e, show (1 : Int32) = nI 1 from rfl, pk_sub (by omega), pk_sub (by omega), zin_t (show aN S j - 1 - i < 65 by omega) (by decide), zg_t, zg_t, lt_e, zg_t, lt_e, nI_clamp (show i < 2 ^ 31 by omega), nI_clamp (show aN S j - 1 - i < 2 ^ 31 by omega), h.2.2.2.2.1, h.2.2.2.2.1, hH i (by omega), hH (aN S j - 1 - i) (by omega), nI_add]
    refine ih N (i + 1) _ _ (by omega) (by omega) (fun x hx => ?_) (uD_88 (uD_88 h))
    rw [show (if i < i ∨ aN S j ≤ i + i then aN S j - 1 - i else i) = i from if_neg (by omega), show (if aN S j - 1 - i < i ∨ aN S j ≤ aN S j - 1 - i + i then aN S j - 1 - (aN S j - 1 - i) else aN S j - 1 - i) = aN S j - 1 - i from if_neg (by omega)]
    by_cases c1 : x = aN S j - 1 - i
    · rw [if_pos c1, if_pos (by omega), c1, show aN S j - 1 - (aN S j - 1 - i) = i by omega]
    · rw [if_neg c1]
      by_cases c2 : x = i
      · rw [if_pos c2, if_pos (by omega), c2]
      · rw [if_neg c2, hH x hx]
        by_cases c3 : x < i ∨ aN S j ≤ x + i
        · rw [if_pos c3, if_pos (by omega)]
        · rw [if_neg c3, if_neg (by omega)]
theorem turns_s (hW : jW J) (h : uD w0 J S T H w) (hb : zB S) (hj : j < 5) (hz : aN S j ≤ 64) (h0 : kI S (2 * j)) (h1 : kI S (2 * j + 1)) : Ok (fX8_turns (nI j) w) (fun a w' => a = nI (aN S j) ∧ ∃ H', uD w0 J (vS J j S) T H' w') := by
  have e := d_in2 hj
  rw [fX8_turns, e.2.1, zg_t, lt_e, e.2.2.2.1, uD_z h (by omega)]
  refine ok_b (items_s h hj hz) (fun a w1 a1 => ?_)
  obtain ⟨rfl, a1⟩ := a1
  refine turns_L hW hb hj hz h0 h1 (aN S j / 2) zFU 0 w1 _ (by omega) (by rw [show zFU = 18446744073709551616 from rfl]; omega) (fun x hx => ?_) a1
  rw [hH_a hx, if_neg (by omega)]
theorem again_L54 (hW : jW J) {k : Nat} {g : Nat → Nat} {a n : Nat} (hk : k < 10) (hV : kV J S k) (ha : a ≤ n) (hn : n ≤ 65) (hz : sZ S k + (n - a) ≤ 64) (hb : zB S) (hg : ∀ i, a ≤ i → i < n → H i = nI (g i) ∧ g i < 10000) : ∀ m N i w, i + m = n → a ≤ i → m < N → uD w0 J (qS J k (fun x => g (a + x)) (i - a) S) T H w → Ok (fX8_makesAgain_L54 (nI n) (nI k) N (nI i) w) (fun _ w' => uD w0 J (qS J k (fun x => g (a + x)) (n - a) S) T H w') := by
  intro m
  induction m with
  | zero =>
    intro N i w hm hi hN h
    obtain ⟨N, rfl⟩ : ∃ k, N = k + 1 := ⟨N - 1, by omega⟩
    rw [fX8_makesAgain_L54.eq_2, show i = n by omega, if_pos (Int32.le_refl _)]
    exact ok_r (by rw [← show i = n by omega]; exact h)
  | succ m ih =>
    intro N i w hm hi hN h
    obtain ⟨N, rfl⟩ : ∃ k, N = k + 1 := ⟨N - 1, by omega⟩
    rw [fX8_makesAgain_L54.eq_2, if_neg (Int32.not_le.mpr (nI_lt (by omega) (by omega))), zin_t (show i < 65 by omega) (by decide), zg_t, nI_clamp (by omega), h.2.2.2.2.1, (hg i hi (by omega)).1]
    refine ok_b (makes_s hW h (zB_q hb (by omega)) hk (hg i hi (by omega)).2 (by rw [qS_z]; omega) (qS_V hW hV _ (fun x hx => (hg (a + x) (by omega) (by omega)).2))) (fun _ w' h' => ?_)
    rw [nI_1]
    refine ih N (i + 1) w' (by omega) (by omega) (by omega) ?_
    rw [show i + 1 - a = (i - a) + 1 by omega]
    show uD w0 J (mS J k (g (a + (i - a))) _) T H w'
    rw [show a + (i - a) = i by omega]; exact h'
theorem again_L24 (hW : jW J) {k : Nat} {g : Nat → Nat} {a : Nat} (hk : k < 10) (hV : kV J S k) (hn : a ≤ 65) (hz : sZ S k + a ≤ 64) (hb : zB S) (hg : ∀ i, i < a → H i = nI (g i) ∧ g i < 10000) : ∀ r N w, r ≤ a → r < N → uD w0 J (qS J k (fun x => g (a - 1 - x)) (a - r) S) T H w → Ok (fX8_makesAgain_L24 (nI k) N (nI r - 1) w) (fun _ w' => uD w0 J (qS J k (fun x => g (a - 1 - x)) a S) T H w') := by
  intro r
  induction r with
  | zero =>
    intro N w hr hN h
    obtain ⟨N, rfl⟩ : ∃ k, N = k + 1 := ⟨N - 1, by omega⟩
    rw [fX8_makesAgain_L24.eq_2, if_pos (show nI 0 - 1 < 0 by decide)]
    exact ok_r h
  | succ r ih =>
    intro N w hr hN h
    obtain ⟨N, rfl⟩ : ∃ k, N = k + 1 := ⟨N - 1, by omega⟩
    rw [fX8_makesAgain_L24.eq_2, nI_pred, if_neg (nI_pos (by omega)), zin_t (show r < 65 by omega) (by decide), zg_t, nI_clamp (by omega), h.2.2.2.2.1, (hg r (by omega)).1]
    refine ok_b (makes_s hW h (zB_q hb (by omega)) hk (hg r (by omega)).2 (by rw [qS_z]; omega) (qS_V hW hV _ (fun x hx => (hg (a - 1 - x) (by omega)).2))) (fun _ w' h' => ?_)
    rw [← Int32.sub_eq_add_neg]
    refine ih N w' (by omega) (by omega) ?_
    rw [show a - r = (a - (r + 1)) + 1 by omega]
    show uD w0 J (mS J k (g (a - 1 - (a - (r + 1)))) _) T H w'
    rw [show a - 1 - (a - (r + 1)) = r by omega]; exact h'
/-- the BACK STACK anew from number a on, the FRONT one from number a less 1 down -/
theorem again1_s (hW : jW J) (h : uD w0 J S T H w) (hb : zB S) (hj : j < 5) {g : Nat → Nat} {a n : Nat} (hV : kV J S (2 * j + 1)) (ha : a ≤ n) (hn : n ≤ 65) (hz : sZ S (2 * j + 1) + (n - a) ≤ 64) (hg : ∀ i, a ≤ i → i < n → H i = nI (g i) ∧ g i < 10000) : Ok (fX8_makesAgain (nI j) 0 (nI a) (nI n) w) (fun _ w' => uD w0 J (qS J (2 * j + 1) (fun x => g (a + x)) (n - a) S) T H w') := by
  have e := d_in2 hj
  rw [fX8_makesAgain, if_pos rfl, lt_e, if_pos rfl, e.2.2.2.2.2]
  exact again_L54 hW (by omega) hV ha hn hz hb hg (n - a) zFU a w (by omega) (Nat.le_refl a) (by rw [show zFU = 18446744073709551616 from rfl]; omega) (by rw [show a - a = 0 by omega]; exact h)
theorem again0_s (hW : jW J) (h : uD w0 J S T H w) (hb : zB S) (hj : j < 5) {g : Nat → Nat} {a : Nat} (x4 : Int32) (hV : kV J S (2 * j)) (hn : a ≤ 65) (hz : sZ S (2 * j) + a ≤ 64) (hg : ∀ i, i < a → H i = nI (g i) ∧ g i < 10000) : Ok (fX8_makesAgain (nI j) 1 (nI a - 1) x4 w) (fun _ w' => uD w0 J (qS J (2 * j) (fun x => g (a - 1 - x)) a S) T H w') := by
  have e := d_in2 hj
  rw [fX8_makesAgain, if_neg (show ¬ (1 : Int32) = 0 by decide), lt_e, if_neg (show ¬ (1 : Int32) = 0 by decide), e.2.2.2.2.1]
  exact again_L24 hW (by omega) hV hn hz hb hg a zFU w (Nat.le_refl a) (by rw [show zFU = 18446744073709551616 from rfl]; omega) (by rw [show a - a = 0 by omega]; exact h)
end R5
