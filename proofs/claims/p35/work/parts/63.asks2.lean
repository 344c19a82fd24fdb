set_option maxRecDepth 16384
section A2
variable {J : aJ} {S : aS} {T : aT} {w w1 w2 : zW} {H H' : Nat → Int32}
theorem fuelN {n : Nat} (h : n < 1000000) : n < zFU := by rw [show zFU = 18446744073709551616 from rfl]; omega
/-- the window of x ITEMS of which q is greatest -/
def gF (J : aJ) (S : aS) (j x : Nat) : Nat → Nat → Nat → Int64 → Nat
  | 0, _, pl, _ => pl
  | m + 1, i, pl, q => if (sF J S j i x).2 ≤ q then gF J S j x m (i + 1) pl q else gF J S j x m (i + 1) i (sF J S j i x).2
theorem greatest_L7 (hW : jW J) (hS : sW J S) {j x : Nat} (hj : j < 4) (hx : x ≤ 64) {w0 : zX} : ∀ m i pl N p q w, i + m + x = aN S j + 1 → m < N → pl < 100 → uC w0 J S T H w → Ok (fX7_greatest_L46 (nI x) (LN j) N (nI pl) p q (nI i) w) (fun a w' => a = nI (gF J S j x m i pl q) ∧ uC w0 J S T H w') := by
  have hz := hS.1 j hj
  intro m
  induction m with
  | zero =>
    intro i pl N p q w hi hN hp h
    obtain ⟨N, rfl⟩ : ∃ k, N = k + 1 := ⟨N - 1, by omega⟩
    rw [fX7_greatest_L46.eq_2, size_s h (by omega), bd_s, nI_add, if_pos (nI_lt (by omega) (by omega))]
    exact ok_b (tell2_s h _ _) (fun _ w3 a3 => ok_r ⟨rfl, a3⟩)
  | succ m ih =>
    intro i pl N p q w hi hN hp h
    obtain ⟨N, rfl⟩ : ∃ k, N = k + 1 := ⟨N - 1, by omega⟩
    rw [fX7_greatest_L46.eq_2, size_s h (by omega), bd_s, nI_add, if_neg (fun z => by have := (nI_ltI (by omega) (by omega)).mp z; omega)]
    refine ok_b (sumUp_s hW h (by omega) hz (fun x hx => sI hS hj hx) (Nat.le_add_right i x) (by omega)) (fun _ w2 a2 => ?_)
    have q2 : zL w2 1 3 = (sF J S j i x).2 := by have := a2.2.2; rw [show i + x - i = x by omega] at this; exact this
    have p2 : zL w2 1 2 = (sF J S j i x).1 := by have := a2.2.1; rw [show i + x - i = x by omega] at this; exact this
    rw [lt_e, lt_e, if_neg (fun z => nI_pos (n := pl) (by omega) (by rw [z]; decide)), q2]
    unfold gF
    by_cases c : (sF J S j i x).2 ≤ q
    · rw [if_pos c, if_pos c, nI_1]
      exact ih (i + 1) pl N p q w2 (by omega) (by omega) hp a2.1
    · rw [if_neg c, if_neg c]
      dsimp only
      rw [lt_e, lt_e, q2, p2, nI_1]
      exact ih (i + 1) i N _ _ w2 (by omega) (by omega) (by omega) a2.1
theorem greatest_L8 (hW : jW J) (hS : sW J S) {j x n : Nat} (hj : j < 4) (hx : x ≤ 64) (hn : n + x = aN S j + 1) {w0 : zX} : ∀ m i pl N p q w, i + m = n → 1 ≤ i → m < N → uD w0 J S T H w → Ok (fX8_greatest_L56 (nI j) (nI x) (nI n) N (nI pl) p q (nI i) w) (fun a w' => a = nI (gF J S j x m i pl q) ∧ uD w0 J S T H w') := by
  have hz := hS.1 j hj
  intro m
  induction m with
  | zero =>
    intro i pl N p q w hi hi1 hN h
    obtain ⟨N, rfl⟩ : ∃ k, N = k + 1 := ⟨N - 1, by omega⟩
    rw [fX8_greatest_L56.eq_2, if_pos (nI_le (by omega) (by omega)), lt_e]
    refine ok_b (enters_s (n := 0) (uD_1 (v := 0) h) rfl (by decide) _) (fun _ w3 a3 => ?_)
    refine ok_b (enters_s a3.1 a3.2 (by decide) _) (fun _ w4 a4 => ok_r ⟨rfl, a4.1⟩)
  | succ m ih =>
    intro i pl N p q w hi hi1 hN h
    obtain ⟨N, rfl⟩ : ∃ k, N = k + 1 := ⟨N - 1, by omega⟩
    rw [fX8_greatest_L56.eq_2, if_neg (Int32.not_le.mpr (nI_lt (by omega) (by omega)))]
    refine ok_b (sums_s hW h (by omega) hz (fun x hx => sI hS hj hx) (show i + x ≤ aN S j by omega)) (fun _ w2 a2 => ?_)
    rw [lt_e, lt_e, if_neg (nI_ne0 (by omega) (by omega)), a2.2.2.2]
    unfold gF
    by_cases c : (sF J S j i x).2 ≤ q
    · rw [if_pos c, if_pos c, nI_1]
      exact ih (i + 1) pl N p q w2 (by omega) (by omega) (by omega) a2.1
    · rw [if_neg c, if_neg c]
      dsimp only
      rw [lt_e, lt_e, a2.2.2.1, a2.2.2.2, nI_1]
      exact ih (i + 1) i N _ _ w2 (by omega) (by omega) (by omega) a2.1
theorem greatest_b (h : rW J S T w) (a b : Int32) : Bq (fX7_greatest a b) (fX8_greatest a b) Eq w := by
  obtain ⟨hW, hS, hT, -, -⟩ := id h
  rcases ln a with hl | ⟨j, hj, rfl⟩
  · exact bq_x h (-1) (fun H hC => by rw [fX7_greatest, lineAt_n w hl, bd_s, oc_n]) (fun w1 H hD => by rw [fX8_greatest, lt_e, isLine_n _ hl, bd_s, ff])
  have hz := hS.1 j hj
  rcases in64 b with ⟨h1, h2⟩ | ⟨x, hx1, hx, rfl, hb1, hb2, h2⟩
  · refine bq_x h (-1) (fun H hC => ?_) (fun w1 H hD => by rw [fX8_greatest, lt_e, isLine_s _ hj, bd_s, tt, h2, bd_s, ff])
    by_cases q : b < 1
    · rw [fX7_greatest, lineAt_s w hj, bd_s, oc_s, if_pos q]
    · rw [fX7_greatest, lineAt_s w hj, bd_s, oc_s, if_neg q, if_neg (Int32.not_le.mpr (h1.resolve_left q))]
  by_cases c : x ≤ aN S j
  · have e1 : nI (aN S j) - nI x + 1 = nI (aN S j - x + 1) := by rw [pk_sub c, nI_1]
    have e2 : (1 : Int32) ≤ nI (aN S j - x + 1) := (nI_leI (a := 1) (by decide) (by omega)).mpr (by omega)
    refine bx (nI (gF J S j x (aN S j - x) 1 0 (sF J S j 0 x).2)) h (fun H hC => ?_) (fun w1 H hD => ?_)
    · rw [fX7_greatest, lineAt_s w hj, bd_s, oc_s, if_neg hb1, if_pos hb2, size_s hC (by omega), bd_s, if_pos (nI_le c (by omega)), show zFU = 18446744073709551615 + 1 from rfl, fX7_greatest_L46.eq_2, size_s hC (by omega), bd_s, show (0 : Int32) = nI 0 from rfl, nI_add, if_neg (fun z => by have := (nI_ltI (by omega) (by omega)).mp z; omega)]
      refine ok_b (sumUp_s hW hC (by omega) hz (fun x hx => sI hS hj hx) (Nat.le_add_right 0 x) (by omega)) (fun _ w2 a2 => ?_)
      have q2 : zL w2 1 3 = (sF J S j 0 x).2 := by have := a2.2.2; rw [show 0 + x - 0 = x by omega] at this; exact this
      have p2 : zL w2 1 2 = (sF J S j 0 x).1 := by have := a2.2.1; rw [show 0 + x - 0 = x by omega] at this; exact this
      rw [lt_e, lt_e, if_pos rfl]
      dsimp only
      rw [lt_e, lt_e, q2, p2, nI_1]
      exact greatest_L7 hW hS hj hx (aN S j - x) 1 0 _ _ _ w2 (by omega) (by omega) (by decide) a2.1
    · rw [fX8_greatest, lt_e, isLine_s _ hj, bd_s, tt, h2, bd_s, tt, sizeOf_s (uD_0 hD) (by omega), bd_s, lt_e, e1, if_pos e2, show zFU = 18446744073709551615 + 1 from rfl, fX8_greatest_L56.eq_2, if_neg (show ¬ nI (aN S j - x + 1) ≤ 0 from nI_nle (by omega) (by omega))]
      refine ok_b (sums_s hW (uD_0 hD) (a := 0) (by omega) hz (fun x hx => sI hS hj hx) (show 0 + x ≤ aN S j by omega)) (fun _ w2 a2 => ?_)
      rw [lt_e, lt_e, if_pos rfl]
      dsimp only
      rw [lt_e, lt_e, a2.2.2.1, a2.2.2.2]
      exact greatest_L8 hW hS hj hx (by omega) (aN S j - x) 1 0 _ _ _ w2 (by omega) (by omega) (by omega) a2.1
  · have e2 : ¬ (1 : Int32) ≤ nI (aN S j) - nI x + 1 := by
      have h3 : (nI (aN S j) - nI x + 1).toInt = (aN S j : Int) - x + 1 := by
        have h4 : (nI (aN S j) - nI x).toInt = (aN S j : Int) - x := pk_sub_toInt (by omega) (by omega)
        rw [i32_1 (by omega), h4]
      intro q
      have := Int32.le_iff_toInt_le.mp q
      rw [h3, show (1 : Int32).toInt = 1 from rfl] at this
      omega
    exact bq_x h (-2) (fun H hC => by rw [fX7_greatest, lineAt_s w hj, bd_s, oc_s, if_neg hb1, if_pos hb2, size_s hC (by omega), bd_s, if_neg (fun z => c ((nI_leI (by omega) (by omega)).mp z))]) (fun w1 H hD => by rw [fX8_greatest, lt_e, isLine_s _ hj, bd_s, tt, h2, bd_s, tt, sizeOf_s (uD_0 hD) (by omega), bd_s, lt_e, if_neg e2])
/-- SUMMARIES kept in the rows 72, 73: of L ITEMS from each place below c on -/
def kS (J : aJ) (S : aS) (j L c : Nat) (w : zW) : Prop := ∀ i, i < c → zL w 72 i = (sF J S j i L).1 ∧ zL w 73 i = (sF J S j i L).2
theorem sF_n (j i L : Nat) : sF J S j i (L + 1) = aj J (sF J S j i L) (ae J (aI S j (i + L))) := rfl
theorem keep_s {w0 : zX} (h : uC w0 J S T H w) {i : Nat} (hi : i < 129) {p q : Int64} (hp : zL w 1 2 = p) (hq : zL w 1 3 = q) : Ok (fX7_keepSum (nI i) w) (fun _ w' => uC w0 J S T H w' ∧ zL w' 1 2 = p ∧ zL w' 1 3 = q ∧ zL w' 72 i = p ∧ zL w' 73 i = q ∧ ∀ x, x ≠ i → zL w' 72 x = zL w 72 x ∧ zL w' 73 x = zL w 73 x) := by
  have hq2 : zL (zsL w 72 i p) 1 3 = q := hq
  rw [fX7_keepSum, hp, set7 w p zlen_72 hi (by decide), bd_s, hq2, set7 _ q zlen_73 hi (by decide), bd_s]
  refine ok_r ⟨uC_L (uC_L h (by unfold gC; omega)) (by unfold gC; omega), hp, hq, ?_, ?_, fun x hx => ⟨?_, ?_⟩⟩
  · rw [zL_zsL, if_neg (by omega), zL_zsL, if_pos ⟨rfl, rfl⟩]
  · rw [zL_zsL, if_pos ⟨rfl, rfl⟩]
  · rw [zL_zsL, if_neg (by omega), zL_zsL, if_neg (by omega)]
  · rw [zL_zsL, if_neg (by omega), zL_zsL, if_neg (by omega)]
theorem stretch_L (hW : jW J) (hS : sW J S) {j L : Nat} (hj : j < 4) (hL : L + 1 ≤ aN S j) {w0 : zX} : ∀ m i N w, i + m + L = aN S j → m < N → uC w0 J S T H w → kS J S j (L + 1) i w → (L = 0 ∨ ∀ x, i ≤ x → x < aN S j - L + 1 → zL w 72 x = (sF J S j x L).1 ∧ zL w 73 x = (sF J S j x L).2) → Ok (fX7_stretch_L2 (LN j) (nI (L + 1)) N (nI i) w) (fun _ w' => uC w0 J S T H w' ∧ kS J S j (L + 1) (aN S j - L) w') := by
  have hz := hS.1 j hj
  intro m
  induction m with
  | zero =>
    intro i N w hi hN h hk hr
    obtain ⟨N, rfl⟩ : ∃ k, N = k + 1 := ⟨N - 1, by omega⟩
    rw [fX7_stretch_L2.eq_2, size_s h (by omega), bd_s, nI_add, if_pos (nI_lt (by omega) (by omega))]
    exact ok_r ⟨h, by rw [show aN S j - L = i by omega]; exact hk⟩
  | succ m ih =>
    intro i N w hi hN h hk hr
    obtain ⟨N, rfl⟩ : ∃ k, N = k + 1 := ⟨N - 1, by omega⟩
    have hv := sI hS hj (show i + L < aN S j by omega)
    have hV := sF_V hW (J := J) (S := S) (j := j) (a := i) (m := L) (fun x hx => sI hS hj (by omega))
    have tail : ∀ w, uC w0 J S T H w → zL w 1 2 = (sF J S j i L).1 → zL w 1 3 = (sF J S j i L).2 → kS J S j (L + 1) i w → (L = 0 ∨ ∀ x, i ≤ x → x < aN S j - L + 1 → zL w 72 x = (sF J S j x L).1 ∧ zL w 73 x = (sF J S j x L).2) → Ok (bd (fX1_itemAt (LN j) (nI (i + (L + 1)) - (1 : Int32)) w) fun v8 w6 => bd (fX0_follow v8 w6) fun _ w9 => bd (fX7_keepSum (nI i) w9) fun _ w12 => fX7_stretch_L2 (LN j) (nI (L + 1)) N (nI i + (1 : Int32)) w12) (fun _ w' => uC w0 J S T H w' ∧ kS J S j (L + 1) (aN S j - L) w') := by
      intro w h hp hq hk hr
      have e1 : nI (i + (L + 1)) - 1 = nI (i + L) := by rw [show i + (L + 1) = (i + L) + 1 by omega, nI_pred]
      rw [e1, itemAt_s h (by omega) hz (by omega), bd_s]
      refine ok_b ⟨(), _, c_follow hW h.1 hv (by rw [hp, hq]; exact hV), rfl⟩ (fun _ w2 (e2 : w2 = _) => ?_)
      have e3 : w2 = setC w (sF J S j i (L + 1)).1 (sF J S j i (L + 1)).2 := by rw [e2, hp, hq, sF_n]; rfl
      have p2 : zL w2 1 2 = (sF J S j i (L + 1)).1 := by rw [e3]; rfl
      have q2 : zL w2 1 3 = (sF J S j i (L + 1)).2 := by rw [e3]; rfl
      have r2 : ∀ x, zL w2 72 x = zL w 72 x ∧ zL w2 73 x = zL w 73 x := fun x => by rw [e3]; exact ⟨rfl, rfl⟩
      have h2 : uC w0 J S T H w2 := by rw [e3]; exact uC_C h
      clear e2 e3
      refine ok_b (keep_s h2 (show i < 129 by omega) p2 q2) (fun _ w3 a3 => ?_)
      rw [nI_1]
      refine ih (i + 1) N w3 (by omega) (by omega) a3.1 (fun x hx => ?_) (hr.elim .inl (fun z => .inr (fun x hx1 hx2 => ?_)))
      · by_cases c : x = i
        · rw [c]; exact ⟨a3.2.2.2.1, a3.2.2.2.2.1⟩
        · rw [(a3.2.2.2.2.2 x c).1, (a3.2.2.2.2.2 x c).2, (r2 x).1, (r2 x).2]; exact hk x (by omega)
      · rw [(a3.2.2.2.2.2 x (by omega)).1, (a3.2.2.2.2.2 x (by omega)).2, (r2 x).1, (r2 x).2]; exact z x (by omega) hx2
    rw [fX7_stretch_L2.eq_2, size_s h (by omega), bd_s, nI_add, if_neg (fun z => by have := (nI_ltI (by omega) (by omega)).mp z; omega), lt_e]
    by_cases c : L = 0
    · rw [if_neg (not_not_intro (by rw [c]; rfl))]
      refine ok_b ⟨(), _, c_empty hW h.1, rfl⟩ (fun _ w2 (e2 : w2 = _) => ?_)
      subst e2
      refine tail _ (uC_C h) ?_ ?_ hk (.inl c)
      · rw [c]; rfl
      · rw [c]; rfl
    · rw [if_pos (show ¬ nI (L + 1) = 1 from fun q => c (by have := (nI_eq (b := 1) (by omega) (by decide)).mp q; omega)), at7 w zlen_72 (show i < 129 by omega) (by decide), bd_s, at7 w zlen_73 (show i < 129 by omega) (by decide), bd_s, sw_s, bd_s]
      have z := hr.resolve_left c i (Nat.le_refl i) (by omega)
      exact tail _ (uC_C h) z.1 z.2 hk hr
theorem stretch_s (hW : jW J) (hS : sW J S) {j L : Nat} (hj : j < 4) (hL : L + 1 ≤ aN S j) {w0 : zX} (h : uC w0 J S T H w) (hr : L = 0 ∨ kS J S j L (aN S j - L + 1) w) : Ok (fX7_stretch (LN j) (nI (L + 1)) w) (fun _ w' => uC w0 J S T H w' ∧ kS J S j (L + 1) (aN S j - L) w') := by
  have hz := hS.1 j hj
  rw [fX7_stretch]
  exact stretch_L hW hS hj hL (aN S j - L) 0 zFU w (by omega) (fuelN (by omega)) h (fun x hx => absurd hx (Nat.not_lt_zero x)) (hr.elim .inl (fun z => .inr (fun x _ hx => z x hx)))
/-- the first of m stretches of L ITEMS, from i on, of which p is v at most -/
def aF (J : aJ) (S : aS) (j : Nat) (v : Int64) (L : Nat) : Nat → Nat → Int32
  | 0, _ => -1
  | m + 1, i => if v < (sF J S j i L).1 then aF J S j v L m (i + 1) else nI i
theorem atMost_L {w0 : zX} (h : uC w0 J S T H w) {j L c : Nat} (hc : c ≤ 128) (hk : kS J S j L c w) {v : Int32} : ∀ m i N, i + m = c → m < N → fX7_firstAtMost_L2 v (nI c) N (nI i) w = some (aF J S j v.toInt64 L m i, w) := by
  intro m
  induction m with
  | zero =>
    intro i N hi hN
    obtain ⟨N, rfl⟩ : ∃ k, N = k + 1 := ⟨N - 1, by omega⟩
    rw [fX7_firstAtMost_L2.eq_2, if_pos (nI_le (by omega) (by omega))]; rfl
  | succ m ih =>
    intro i N hi hN
    obtain ⟨N, rfl⟩ : ∃ k, N = k + 1 := ⟨N - 1, by omega⟩
    rw [fX7_firstAtMost_L2.eq_2, if_neg (Int32.not_le.mpr (nI_lt (by omega) (by omega))), at7 w zlen_72 (show i < 129 by omega) (by decide), bd_s, (hk i (by omega)).1]
    unfold aF
    by_cases q : v.toInt64 < (sF J S j i L).1
    · rw [if_pos q, if_pos q, nI_1]; exact ih (i + 1) N (by omega) (by omega)
    · rw [if_neg q, if_neg q]
theorem aF_m {j : Nat} {v : Int64} {L : Nat} : ∀ m i, aF J S j v L m i = -1 ∨ ∃ x, x < i + m ∧ aF J S j v L m i = nI x := by
  intro m
  induction m with
  | zero => intro i; exact .inl rfl
  | succ m ih =>
    intro i
    unfold aF
    by_cases q : v < (sF J S j i L).1
    · rw [if_pos q]
      rcases ih (i + 1) with z | ⟨x, hx, z⟩
      · exact .inl z
      · exact .inr ⟨x, by omega, z⟩
    · rw [if_neg q]; exact .inr ⟨i, by omega, rfl⟩
/-- the most ITEMS, k at most -/
def lF (J : aJ) (S : aS) (j : Nat) (v : Int64) : Nat → Nat
  | 0 => 0
  | L + 1 => if aF J S j v (L + 1) (aN S j - L) 0 = -1 then lF J S j v L else L + 1
theorem longest_L7 (hW : jW J) (hS : sW J S) {j : Nat} (hj : j < 4) {v : Int32} {w0 : zX} : ∀ m L N x5 w, L + m = aN S j → m < N → uC w0 J S T H w → (L = 0 ∨ kS J S j L (aN S j - L + 1) w) → Ok (fX7_longest_L21 v (LN j) N (nI (lF J S j v.toInt64 L)) x5 (nI (L + 1)) w) (fun a w' => a = nI (lF J S j v.toInt64 (aN S j)) ∧ uC w0 J S T H w') := by
  have hz := hS.1 j hj
  intro m
  induction m with
  | zero =>
    intro L N x5 w hi hN h hk
    obtain ⟨N, rfl⟩ : ∃ k, N = k + 1 := ⟨N - 1, by omega⟩
    rw [fX7_longest_L21.eq_2, size_s h (by omega), bd_s, if_pos (nI_lt (by omega) (by omega))]
    exact ok_b (tell1_s h _) (fun _ w3 a3 => ok_r ⟨by rw [show L = aN S j by omega], a3⟩)
  | succ m ih =>
    intro L N x5 w hi hN h hk
    obtain ⟨N, rfl⟩ : ∃ k, N = k + 1 := ⟨N - 1, by omega⟩
    rw [fX7_longest_L21.eq_2, size_s h (by omega), bd_s, if_neg (fun z => by have := (nI_ltI (by omega) (by omega)).mp z; omega)]
    refine ok_b (stretch_s hW hS hj (by omega) h hk) (fun _ w2 a2 => ?_)
    have e1 : nI (aN S j) - nI (L + 1) + 1 = nI (aN S j - L) := by rw [pk_sub (by omega), nI_1, show aN S j - (L + 1) + 1 = aN S j - L by omega]
    have am : fX7_firstAtMost_L2 v (nI (aN S j - L)) zFU 0 w2 = some (aF J S j v.toInt64 (L + 1) (aN S j - L) 0, w2) := atMost_L a2.1 (by omega) a2.2 (aN S j - L) 0 zFU (by omega) (fuelN (by omega))
    rw [size_s a2.1 (by omega), bd_s, e1, fX7_firstAtMost, am, bd_s, lt_e]
    have e2 : lF J S j v.toInt64 (L + 1) = if aF J S j v.toInt64 (L + 1) (aN S j - L) 0 = -1 then lF J S j v.toInt64 L else L + 1 := rfl
    by_cases q : aF J S j v.toInt64 (L + 1) (aN S j - L) 0 = -1
    · rw [if_pos q] at e2
      rw [if_pos q, nI_1, ← e2]
      exact ih (L + 1) N _ w2 (by omega) (by omega) a2.1 (.inr (by rw [show aN S j - (L + 1) + 1 = aN S j - L by omega]; exact a2.2))
    · rw [if_neg q] at e2
      rw [if_neg q, nI_1]
      have := ih (L + 1) N (aF J S j v.toInt64 (L + 1) (aN S j - L) 0) w2 (by omega) (by omega) a2.1 (.inr (by rw [show aN S j - (L + 1) + 1 = aN S j - L by omega]; exact a2.2))
      rw [e2] at this
      exact this
theorem longest_L36 (hW : jW J) (hS : sW J S) {j L : Nat} (hj : j < 4) (hL : L + 1 ≤ aN S j) {v : Int32} {w0 : zX} {g : Int32 → zW → Option (Int32 × zW)} {P : Int32 → zW → Prop} (hP : ∀ w, uD w0 J S T H w → P (nI (L + 1)) w) : ∀ m i N w, i + m = aN S j - L → m < N → uD w0 J S T H w → zI w 74 1 = nI 0 → (aF J S j v.toInt64 (L + 1) m i = -1 → ∀ w, uD w0 J S T H w → zI w 74 1 = nI 0 → Ok (g (nI (L + 1) + -1) w) P) → Ok (fX8_longest_L36 (nI j) v (nI (aN S j)) (nI (L + 1)) g N (nI i) w) P := by
  have hz := hS.1 j hj
  intro m
  induction m with
  | zero =>
    intro i N w hi hN h hc hg
    obtain ⟨N, rfl⟩ : ∃ k, N = k + 1 := ⟨N - 1, by omega⟩
    rw [fX8_longest_L36.eq_2, nI_add, if_pos (nI_lt (by omega) (by omega))]
    exact hg rfl w h hc
  | succ m ih =>
    intro i N w hi hN h hc hg
    obtain ⟨N, rfl⟩ : ∃ k, N = k + 1 := ⟨N - 1, by omega⟩
    rw [fX8_longest_L36.eq_2, nI_add, if_neg (fun z => by have := (nI_ltI (by omega) (by omega)).mp z; omega)]
    refine ok_b (sums_s hW h (by omega) hz (fun x hx => sI hS hj hx) (show i + (L + 1) ≤ aN S j by omega)) (fun _ w2 a2 => ?_)
    rw [a2.2.2.1]
    by_cases q : v.toInt64 < (sF J S j i (L + 1)).1
    · rw [if_pos q, nI_1]
      refine ih (i + 1) N w2 (by omega) (by omega) a2.1 (a2.2.1.trans hc) (fun z => hg ?_)
      exact (if_pos q).trans z
    · rw [if_neg q]
      exact ok_b (enters_s a2.1 (a2.2.1.trans hc) (by decide) _) (fun _ w3 a3 => ok_r (hP w3 a3.1))
theorem longest_L8 (hW : jW J) (hS : sW J S) {j : Nat} (hj : j < 4) {v : Int32} {w0 : zX} : ∀ L N w, L ≤ aN S j → L < N → uD w0 J S T H w → zI w 74 1 = nI 0 → Ok (fX8_longest_L28 (nI j) v (nI (aN S j)) N (nI L) w) (fun a w' => a = nI (lF J S j v.toInt64 L) ∧ uD w0 J S T H w') := by
  have hz := hS.1 j hj
  intro L
  induction L with
  | zero =>
    intro N w hL hN h hc
    obtain ⟨N, rfl⟩ : ∃ k, N = k + 1 := ⟨N - 1, by omega⟩
    rw [fX8_longest_L28.eq_2, if_pos (show nI 0 ≤ 0 by decide)]
    exact ok_b (enters_s h hc (by decide) _) (fun _ w3 a3 => ok_r ⟨rfl, a3.1⟩)
  | succ L ih =>
    intro N w hL hN h hc
    obtain ⟨N, rfl⟩ : ∃ k, N = k + 1 := ⟨N - 1, by omega⟩
    rw [fX8_longest_L28.eq_2, if_neg (nI_nle (by omega) (by omega))]
    have e2 : lF J S j v.toInt64 (L + 1) = if aF J S j v.toInt64 (L + 1) (aN S j - L) 0 = -1 then lF J S j v.toInt64 L else L + 1 := rfl
    by_cases q : aF J S j v.toInt64 (L + 1) (aN S j - L) 0 = -1
    · rw [e2, if_pos q]
      -- none of that length
      have : ∀ m i N' w, i + m = aN S j - L → m < N' → aF J S j v.toInt64 (L + 1) m i = -1 → uD w0 J S T H w → zI w 74 1 = nI 0 → Ok (fX8_longest_L36 (nI j) v (nI (aN S j)) (nI (L + 1)) (fX8_longest_L28 (nI j) v (nI (aN S j)) N) N' (nI i) w) (fun a w' => a = nI (lF J S j v.toInt64 L) ∧ uD w0 J S T H w') := by
        intro m
        induction m with
        | zero =>
          intro i N' w hi hN' _ h hc
          obtain ⟨N', rfl⟩ : ∃ k, N' = k + 1 := ⟨N' - 1, by omega⟩
          rw [fX8_longest_L36.eq_2, nI_add, if_pos (nI_lt (by omega) (by omega)), pk_m1]
          exact ih N w (by omega) (by omega) h hc
        | succ m ih2 =>
          intro i N' w hi hN' ha h hc
          obtain ⟨N', rfl⟩ : ∃ k, N' = k + 1 := ⟨N' - 1, by omega⟩
          rw [fX8_longest_L36.eq_2, nI_add, if_neg (fun z => by have := (nI_ltI (by omega) (by omega)).mp z; omega)]
          refine ok_b (sums_s hW h (by omega) hz (fun x hx => sI hS hj hx) (show i + (L + 1) ≤ aN S j by omega)) (fun _ w2 a2 => ?_)
          unfold aF at ha
          by_cases z : v.toInt64 < (sF J S j i (L + 1)).1
          · rw [if_pos z] at ha
            rw [a2.2.2.1, if_pos z, nI_1]
            exact ih2 (i + 1) N' w2 (by omega) (by omega) ha a2.1 (a2.2.1.trans hc)
          · rw [if_neg z] at ha
            exact absurd (show nI i < 0 by rw [ha]; decide) (nI_pos (by omega))
      exact this (aN S j - L) 0 zFU w (by omega) (fuelN (by omega)) q h hc
    · rw [e2, if_neg q]
      exact longest_L36 hW hS hj hL (fun w a => ⟨rfl, a⟩) (aN S j - L) 0 zFU w (by omega) (fuelN (by omega)) h hc (fun z => absurd z q)
theorem longest_b (h : rW J S T w) (a b : Int32) : Bq (fX7_longest a b) (fX8_longest a b) Eq w := by
  obtain ⟨hW, hS, hT, -, -⟩ := id h
  rcases ln a with hl | ⟨j, hj, rfl⟩
  · exact bq_x h (-1) (fun H hC => by rw [fX7_longest, lineAt_n w hl, bd_s, oc_n]) (fun w1 H hD => by rw [fX8_longest, lt_e, isLine_n _ hl, bd_s, ff])
  have hz := hS.1 j hj
  refine bx (nI (lF J S j b.toInt64 (aN S j))) h (fun H hC => ?_) (fun w1 H hD => ?_)
  · rw [fX7_longest, lineAt_s w hj, bd_s, oc_s]
    exact longest_L7 hW hS hj (aN S j) 0 zFU _ w (by omega) (fuelN (by omega)) hC (.inl rfl)
  · rw [fX8_longest, lt_e, isLine_s _ hj, bd_s, tt, sizeOf_s (uD_0 hD) (by omega), bd_s, lt_e]
    exact longest_L8 hW hS hj (aN S j) zFU _ (Nat.le_refl _) (fuelN (by omega)) (uD_1 (uD_0 hD)) rfl
end A2
