set_option maxRecDepth 16384
section A3
variable {J : aJ} {S : aS} {T : aT} {w w1 w2 : zW} {H H' : Nat → Int32}
/-- how many of m stretches of L ITEMS, from i on, have just p, q -/
def nF (J : aJ) (S : aS) (j : Nat) (p q : Int64) (L : Nat) : Nat → Nat → Nat
  | 0, _ => 0
  | m + 1, i => (if (sF J S j i L).1 = p ∧ (sF J S j i L).2 = q then 1 else 0) + nF J S j p q L m (i + 1)
theorem nF_l {j L : Nat} {p q : Int64} : ∀ m i, nF J S j p q L m i ≤ m := by
  intro m
  induction m with
  | zero => intro i; exact Nat.le_refl 0
  | succ m ih => intro i; have := ih (i + 1); unfold nF; split <;> omega
theorem isJust_s {w0 : zX} (h : uC w0 J S T H w) {j L c i : Nat} (hc : c ≤ 128) (hi : i < c) (hk : kS J S j L c w) (p q : Int64) : fX7_sumIsJust (nI i) p q w = some (decide ((sF J S j i L).1 = p ∧ (sF J S j i L).2 = q), w) := by
  rw [fX7_sumIsJust, at7 w zlen_72 (show i < 129 by omega) (by decide), bd_s, (hk i hi).1]
  by_cases c1 : (sF J S j i L).1 = p
  · rw [if_neg (not_not_intro c1), at7 w zlen_73 (show i < 129 by omega) (by decide), bd_s, (hk i hi).2]
    by_cases c2 : (sF J S j i L).2 = q
    · rw [if_neg (not_not_intro c2), decide_eq_true ⟨c1, c2⟩]
    · rw [if_pos c2, decide_eq_false (fun z => c2 z.2)]
  · rw [if_pos c1, decide_eq_false (fun z => c1 z.1)]
theorem sumsJust_L {w0 : zX} (h : uC w0 J S T H w) {j L c : Nat} (hc : c ≤ 128) (hk : kS J S j L c w) {p q : Int64} : ∀ m i a N, i + m = c → m < N → fX7_sumsJust_L6 p q (nI c) N (nI a) (nI i) w = some (nI (a + nF J S j p q L m i), w) := by
  intro m
  induction m with
  | zero =>
    intro i a N hi hN
    obtain ⟨N, rfl⟩ : ∃ k, N = k + 1 := ⟨N - 1, by omega⟩
    rw [fX7_sumsJust_L6.eq_2, if_pos (nI_le (by omega) (by omega))]; rfl
  | succ m ih =>
    intro i a N hi hN
    obtain ⟨N, rfl⟩ : ∃ k, N = k + 1 := ⟨N - 1, by omega⟩
    rw [fX7_sumsJust_L6.eq_2, if_neg (Int32.not_le.mpr (nI_lt (by omega) (by omega))), isJust_s h hc (by omega) hk, bd_s, lt_e, lt_e]
    unfold nF
    by_cases d : (sF J S j i L).1 = p ∧ (sF J S j i L).2 = q
    · rw [decide_eq_true d, tt, if_pos d, nI_1, nI_1, ih (i + 1) (a + 1) N (by omega) (by omega), Nat.add_assoc]
    · rw [decide_eq_false d, ff, if_neg d, Int32.add_zero, nI_1, ih (i + 1) a N (by omega) (by omega), Nat.zero_add]
theorem firstJust_L {w0 : zX} (h : uC w0 J S T H w) {j L c : Nat} (hc : c ≤ 128) (hk : kS J S j L c w) {p q : Int64} : ∀ m i N, i + m = c → m < N → ∃ v, fX7_firstJust_L3 p q (nI c) N (nI i) w = some (v, w) := by
  intro m
  induction m with
  | zero =>
    intro i N hi hN
    obtain ⟨N, rfl⟩ : ∃ k, N = k + 1 := ⟨N - 1, by omega⟩
    rw [fX7_firstJust_L3.eq_2, if_pos (nI_le (by omega) (by omega))]; exact ⟨_, rfl⟩
  | succ m ih =>
    intro i N hi hN
    obtain ⟨N, rfl⟩ : ∃ k, N = k + 1 := ⟨N - 1, by omega⟩
    rw [fX7_firstJust_L3.eq_2, if_neg (Int32.not_le.mpr (nI_lt (by omega) (by omega))), isJust_s h hc (by omega) hk, bd_s]
    by_cases d : (sF J S j i L).1 = p ∧ (sF J S j i L).2 = q
    · rw [decide_eq_true d, tt]; exact ⟨_, rfl⟩
    · rw [decide_eq_false d, ff, nI_1]; exact ih (i + 1) N (by omega) (by omega)
/-- the fewest ITEMS, above L, m lengths -/
def eF (J : aJ) (S : aS) (j : Nat) (p q : Int64) : Nat → Nat → Int32
  | 0, _ => -2
  | m + 1, L => if nF J S j p q (L + 1) (aN S j - L) 0 = 0 then eF J S j p q m (L + 1) else nI (L + 1)
theorem finds_L7 (hW : jW J) (hS : sW J S) {j : Nat} (hj : j < 4) {p q : Int32} {w0 : zX} : ∀ m L N w, L + m = aN S j → m < N → uC w0 J S T H w → (L = 0 ∨ kS J S j L (aN S j - L + 1) w) → Ok (fX7_finds_L17 p q (LN j) N (nI (L + 1)) w) (fun a w' => a = eF J S j p.toInt64 q.toInt64 m L ∧ uC w0 J S T H w') := by
  have hz := hS.1 j hj
  intro m
  induction m with
  | zero =>
    intro L N w hi hN h hk
    obtain ⟨N, rfl⟩ : ∃ k, N = k + 1 := ⟨N - 1, by omega⟩
    rw [fX7_finds_L17.eq_2, size_s h (by omega), bd_s, if_pos (nI_lt (by omega) (by omega))]
    exact ok_r ⟨rfl, h⟩
  | succ m ih =>
    intro L N w hi hN h hk
    obtain ⟨N, rfl⟩ : ∃ k, N = k + 1 := ⟨N - 1, by omega⟩
    rw [fX7_finds_L17.eq_2, size_s h (by omega), bd_s, if_neg (fun z => by have := (nI_ltI (by omega) (by omega)).mp z; omega)]
    refine ok_b (stretch_s hW hS hj (by omega) h hk) (fun _ w2 a2 => ?_)
    have e1 : nI (aN S j) - nI (L + 1) + 1 = nI (aN S j - L) := by rw [pk_sub (by omega), nI_1, show aN S j - (L + 1) + 1 = aN S j - L by omega]
    have am : fX7_sumsJust_L6 p.toInt64 q.toInt64 (nI (aN S j - L)) zFU 0 0 w2 = some (nI (0 + nF J S j p.toInt64 q.toInt64 (L + 1) (aN S j - L) 0), w2) := sumsJust_L a2.1 (by omega) a2.2 (aN S j - L) 0 0 zFU (by omega) (fuelN (by omega))
    have hl := nF_l (J := J) (S := S) (j := j) (L := L + 1) (p := p.toInt64) (q := q.toInt64) (aN S j - L) 0
    rw [Nat.zero_add] at am
    rw [size_s a2.1 (by omega), bd_s, e1, lt_e, fX7_sumsJust, am, bd_s]
    have e2 : eF J S j p.toInt64 q.toInt64 (m + 1) L = if nF J S j p.toInt64 q.toInt64 (L + 1) (aN S j - L) 0 = 0 then eF J S j p.toInt64 q.toInt64 m (L + 1) else nI (L + 1) := rfl
    rw [e2]
    by_cases c : nF J S j p.toInt64 q.toInt64 (L + 1) (aN S j - L) 0 = 0
    · rw [if_pos (by rw [c]; decide), if_pos c, nI_1]
      exact ih (L + 1) N w2 (by omega) (by omega) a2.1 (.inr (by rw [show aN S j - (L + 1) + 1 = aN S j - L by omega]; exact a2.2))
    · obtain ⟨v, ev⟩ := firstJust_L (p := p.toInt64) (q := q.toInt64) a2.1 (show aN S j - L ≤ 128 by omega) a2.2 (aN S j - L) 0 zFU (by omega) (fuelN (by omega))
      have ev2 : fX7_firstJust_L3 p.toInt64 q.toInt64 (nI (aN S j - L)) zFU 0 w2 = some (v, w2) := ev
      rw [if_neg (nI_nle (by omega) (by omega)), if_neg c, fX7_firstJust, ev2, bd_s]
      exact ok_b (tell2_s a2.1 _ _) (fun _ w3 a3 => ok_r ⟨rfl, a3⟩)
theorem finds_L44 (hW : jW J) (hS : sW J S) {j L : Nat} (hj : j < 4) (hL : L + 1 ≤ aN S j) {p q : Int32} {w0 : zX} {g : Int32 → zW → Option (Int32 × zW)} {P : Int32 → zW → Prop} (hno : nF J S j p.toInt64 q.toInt64 (L + 1) (aN S j - L) 0 = 0 → ∀ w, uD w0 J S T H w → Ok (g (nI (L + 1) + 1) w) P) (hyes : ¬ nF J S j p.toInt64 q.toInt64 (L + 1) (aN S j - L) 0 = 0 → ∀ w, uD w0 J S T H w → P (nI (L + 1)) w) : ∀ r x6 N w, r ≤ aN S j - L → r < N → uD w0 J S T H w → Ok (fX8_finds_L44 (nI j) p q (nI (aN S j)) (nI (L + 1)) g N x6 (nI (nF J S j p.toInt64 q.toInt64 (L + 1) (aN S j - L - r) r)) (nI r - 1) w) P := by
  have hz := hS.1 j hj
  intro r
  induction r with
  | zero =>
    intro x6 N w hr hN h
    obtain ⟨N, rfl⟩ : ∃ k, N = k + 1 := ⟨N - 1, by omega⟩
    have hl := nF_l (J := J) (S := S) (j := j) (L := L + 1) (p := p.toInt64) (q := q.toInt64) (aN S j - L) 0
    rw [fX8_finds_L44.eq_2, if_pos (show nI 0 - 1 < 0 by decide), show aN S j - L - 0 = aN S j - L by omega]
    by_cases c : nF J S j p.toInt64 q.toInt64 (L + 1) (aN S j - L) 0 = 0
    · rw [if_pos (by rw [c]; decide)]
      exact hno c w h
    · rw [if_neg (nI_nle (by omega) (by omega)), lt_e]
      refine ok_b (enters_s (n := 0) (uD_1 (v := 0) h) rfl (by decide) _) (fun _ w3 a3 => ?_)
      refine ok_b (enters_s a3.1 a3.2 (by decide) _) (fun _ w4 a4 => ok_r (hyes c w4 a4.1))
  | succ r ih =>
    intro x6 N w hr hN h
    obtain ⟨N, rfl⟩ : ∃ k, N = k + 1 := ⟨N - 1, by omega⟩
    rw [fX8_finds_L44.eq_2, nI_pred, if_neg (nI_pos (by omega))]
    refine ok_b (sums_s hW h (by omega) hz (fun x hx => sI hS hj hx) (show r + (L + 1) ≤ aN S j by omega)) (fun _ w2 a2 => ?_)
    have e : nF J S j p.toInt64 q.toInt64 (L + 1) (aN S j - L - r) r = (if (sF J S j r (L + 1)).1 = p.toInt64 ∧ (sF J S j r (L + 1)).2 = q.toInt64 then 1 else 0) + nF J S j p.toInt64 q.toInt64 (L + 1) (aN S j - L - (r + 1)) (r + 1) := by
      rw [show aN S j - L - r = (aN S j - L - (r + 1)) + 1 by omega]; rfl
    rw [a2.2.2.1, a2.2.2.2, ← Int32.sub_eq_add_neg]
    by_cases d1 : (sF J S j r (L + 1)).1 = p.toInt64
    · rw [if_neg (not_not_intro d1)]
      by_cases d2 : (sF J S j r (L + 1)).2 = q.toInt64
      · rw [if_neg (not_not_intro d2), lt_e, show fX8_flag 1 w2 = some (1, w2) from rfl, bd_s, lt_e, nI_1]
        rw [if_pos ⟨d1, d2⟩, Nat.add_comm 1 (nF J S j p.toInt64 q.toInt64 (L + 1) (aN S j - L - (r + 1)) (r + 1))] at e
        have := ih (if (1 : Int32) = 0 then x6 else nI r) N w2 (by omega) (by omega) a2.1
        rw [e] at this
        exact this
      · rw [if_pos d2, lt_e, show fX8_flag 0 w2 = some (0, w2) from rfl, bd_s, lt_e, Int32.add_zero]
        rw [if_neg (fun z => d2 z.2), Nat.zero_add] at e
        have := ih (if (0 : Int32) = 0 then x6 else nI r) N w2 (by omega) (by omega) a2.1
        rw [e] at this
        exact this
    · rw [if_pos d1, lt_e, show fX8_flag 0 w2 = some (0, w2) from rfl, bd_s, lt_e, Int32.add_zero]
      rw [if_neg (fun z => d1 z.1), Nat.zero_add] at e
      have := ih (if (0 : Int32) = 0 then x6 else nI r) N w2 (by omega) (by omega) a2.1
      rw [e] at this
      exact this
theorem finds_L8 (hW : jW J) (hS : sW J S) {j : Nat} (hj : j < 4) {p q : Int32} {w0 : zX} : ∀ m L N w, L + m = aN S j → m < N → uD w0 J S T H w → Ok (fX8_finds_L24 (nI j) p q (nI (aN S j)) N (nI (L + 1)) w) (fun a w' => a = eF J S j p.toInt64 q.toInt64 m L ∧ uD w0 J S T H w') := by
  have hz := hS.1 j hj
  intro m
  induction m with
  | zero =>
    intro L N w hi hN h
    obtain ⟨N, rfl⟩ : ∃ k, N = k + 1 := ⟨N - 1, by omega⟩
    rw [fX8_finds_L24.eq_2, if_pos (nI_lt (by omega) (by omega))]
    exact ok_r ⟨rfl, h⟩
  | succ m ih =>
    intro L N w hi hN h
    obtain ⟨N, rfl⟩ : ∃ k, N = k + 1 := ⟨N - 1, by omega⟩
    have e1 : nI (aN S j) - nI (L + 1) = nI (aN S j - L) - 1 := by rw [pk_sub (by omega), show aN S j - L = (aN S j - (L + 1)) + 1 by omega, nI_pred]
    rw [fX8_finds_L24.eq_2, if_neg (fun z => by have := (nI_ltI (by omega) (by omega)).mp z; omega), lt_e, e1]
    have e2 : eF J S j p.toInt64 q.toInt64 (m + 1) L = if nF J S j p.toInt64 q.toInt64 (L + 1) (aN S j - L) 0 = 0 then eF J S j p.toInt64 q.toInt64 m (L + 1) else nI (L + 1) := rfl
    rw [e2]
    have := finds_L44 (T := T) (H := H) hW hS hj (show L + 1 ≤ aN S j by omega) (p := p) (q := q) (w0 := w0) (g := fX8_finds_L24 (nI j) p q (nI (aN S j)) N) (P := fun a w' => a = (if nF J S j p.toInt64 q.toInt64 (L + 1) (aN S j - L) 0 = 0 then eF J S j p.toInt64 q.toInt64 m (L + 1) else nI (L + 1)) ∧ uD w0 J S T H w') (fun c w h => by
      rw [if_pos c, nI_1]; exact ih (L + 1) N w (by omega) (by omega) h) (fun c w h => ⟨(if_neg c).symm, h⟩) (aN S j - L) (-1) zFU w (Nat.le_refl _) (fuelN (by omega)) h
    rw [show aN S j - L - (aN S j - L) = 0 by omega] at this
    exact this
theorem finds_b (h : rW J S T w) (a b c : Int32) : Bq (fX7_finds a b c) (fX8_finds a b c) Eq w := by
  obtain ⟨hW, hS, hT, -, -⟩ := id h
  rcases ln a with hl | ⟨j, hj, rfl⟩
  · exact bq_x h (-1) (fun H hC => by rw [fX7_finds, lineAt_n w hl, bd_s, oc_n]) (fun w1 H hD => by rw [fX8_finds, lt_e, isLine_n _ hl, bd_s, ff])
  have hz := hS.1 j hj
  refine bx (eF J S j b.toInt64 c.toInt64 (aN S j) 0) h (fun H hC => ?_) (fun w1 H hD => ?_)
  · rw [fX7_finds, lineAt_s w hj, bd_s, oc_s]
    exact finds_L7 hW hS hj (aN S j) 0 zFU w (by omega) (fuelN (by omega)) hC (.inl rfl)
  · rw [fX8_finds, lt_e, isLine_s _ hj, bd_s, tt, sizeOf_s (uD_0 hD) (by omega), bd_s]
    exact finds_L8 hW hS hj (aN S j) 0 zFU _ (by omega) (fuelN (by omega)) (uD_0 hD)
-- what TAKES cost
def dF : Nat → Nat → Nat
  | 0, _ => 0
  | n + 1, near => (if near = 0 then n + 1 else 0) + dF n ((if near = 0 then (n + 1 + 1) / 2 else near) - 1)
theorem front_s (w : zW) (a b c : Int32) : ∃ v, fX4_frontBehind a b c w = some (v, w) := by
  rw [fX4_frontBehind, lt_e, lt_e]
  by_cases c1 : c = 0
  · by_cases c2 : (if ¬ c = 0 then b - a else a) = 0
    · rw [if_neg (not_not_intro c2)]; dsimp only; rw [lt_e, if_neg (not_not_intro c1)]; exact ⟨_, rfl⟩
    · rw [if_pos c2]; dsimp only; rw [lt_e, if_neg (not_not_intro c1)]; exact ⟨_, rfl⟩
  · by_cases c2 : (if ¬ c = 0 then b - a else a) = 0
    · rw [if_neg (not_not_intro c2)]; dsimp only; rw [lt_e, if_pos c1]; exact ⟨_, rfl⟩
    · rw [if_pos c2]; dsimp only; rw [lt_e, if_pos c1]; exact ⟨_, rfl⟩
theorem drain_L7 (w : zW) : ∀ n near a N, near ≤ n → n ≤ 64 → n < N → fX4_drain_L9 N (nI a) (nI near) (nI n) w = some (nI (a + dF n near), w) := by
  intro n
  induction n with
  | zero =>
    intro near a N h1 h2 hN
    obtain ⟨N, rfl⟩ : ∃ k, N = k + 1 := ⟨N - 1, by omega⟩
    rw [fX4_drain_L9.eq_2, if_pos (show nI 0 ≤ 0 by decide)]; rfl
  | succ n ih =>
    intro near a N h1 h2 hN
    obtain ⟨N, rfl⟩ : ∃ k, N = k + 1 := ⟨N - 1, by omega⟩
    rw [fX4_drain_L9.eq_2, if_neg (nI_nle (by omega) (by omega)), fX4_cost, lt_e, if_neg (show ¬ ¬ (0 : Int32) = 0 by decide)]
    have ef : fX4_frontBehind (nI near) (nI (n + 1)) 0 w = some (nI ((if near = 0 then (n + 1 + 1) / 2 else near) - 1), w) := by
      rw [fX4_frontBehind, lt_e, lt_e, if_neg (show ¬ ¬ (0 : Int32) = 0 by decide)]
      by_cases c : near = 0
      · rw [if_neg (not_not_intro (by rw [c]; rfl)), two_d (by omega), if_pos c]
        dsimp only
        rw [lt_e, if_neg (show ¬ ¬ (0 : Int32) = 0 by decide), show (1 : Int32) = nI 1 from rfl, pk_sub (by omega)]
      · rw [if_pos (nI_ne0 (by omega) (by omega)), if_neg c]
        dsimp only
        rw [lt_e, if_neg (show ¬ ¬ (0 : Int32) = 0 by decide), show (1 : Int32) = nI 1 from rfl, pk_sub (by omega)]
    have e3 : dF (n + 1) near = (if near = 0 then n + 1 else 0) + dF n ((if near = 0 then (n + 1 + 1) / 2 else near) - 1) := rfl
    have hle : (if near = 0 then (n + 1 + 1) / 2 else near) - 1 ≤ n := by split <;> omega
    rw [e3]
    by_cases c : near = 0
    · rw [if_neg (not_not_intro (by rw [c]; rfl)), bd_s, lt_e, ef, bd_s, nI_add, pk_m1, ih _ (a + (n + 1)) N hle (by omega) (by omega), if_pos c, if_pos c, Nat.add_assoc]
    · rw [if_pos (nI_ne0 (by omega) (by omega)), bd_s, lt_e, ef, bd_s, Int32.add_zero, pk_m1, ih _ a N hle (by omega) (by omega), if_neg c, if_neg c, Nat.zero_add]
theorem drain7_s (w : zW) {a b : Nat} (h : a + b ≤ 64) : fX4_drain (nI a) (nI b) w = some (nI (dF (a + b) a), w) := by
  rw [fX4_drain, lt_e, nI_add]
  have := drain_L7 w (a + b) a 0 zFU (by omega) h (fuelN (by omega))
  rw [Nat.zero_add] at this
  exact this
theorem uD_30 {w0 : zX} (h : uD w0 J S T H w) {k : Nat} {v : Int32} (hk : k = 30 ∨ k = 31) : uD w0 J S T H (zsI w 74 k v) := uD_I h (by unfold fD; omega)
theorem costs_s {w0 : zX} (h : uD w0 J S T H w) {e f b : Nat} (he : e < 2) (hf : zI w 74 30 = nI f) (hb : zI w 74 31 = nI b) (hn : 0 < f + b) (h64 : f + b ≤ 64) : Ok (fX8_costs (nI e) w) (fun c w' => uD w0 J S T H w' ∧ c = nI (if (if e = 0 then f else b) = 0 then f + b else 0) ∧ ∃ f' b', zI w' 74 30 = nI f' ∧ zI w' 74 31 = nI b' ∧ f' + b' = f + b - 1 ∧ (if e = 0 then f' else b') = (if (if e = 0 then f else b) = 0 then (f + b + 1) / 2 else (if e = 0 then f else b)) - 1) := by
  have g1 : ∀ w, fX8_flag 1 w = some (1, w) := fun w => rfl
  have g0 : ∀ w, fX8_flag 0 w = some (0, w) := fun w => rfl
  rw [fX8_costs, hf, hb, nI_add, lt_e, lt_e, lt_e]
  rcases (show e = 0 ∨ e = 1 by omega) with rfl | rfl
  · rw [if_neg (show ¬ ¬ nI 0 = 0 by decide), if_pos rfl]
    have tail : ∀ (w : zW) (c : Int32) (f2 b2 : Nat), uD w0 J S T H w → zI w 74 30 = nI (f2 + 1) → zI w 74 31 = nI b2 → Ok (lt (if ¬ nI 0 = (0 : Int32) then (0 : Int32) else (1 : Int32)) fun v6 => bd (fX8_flag v6 w) fun v9 w7 => lt (zsI w7 74 30 ((zI w 74 30) - v9)) fun w10 => lt (if ¬ nI 0 = (1 : Int32) then (0 : Int32) else (1 : Int32)) fun v12 => bd (fX8_flag v12 w10) fun v15 w13 => lt (zsI w13 74 31 ((zI w10 74 31) - v15)) fun w16 => some (c, w16)) (fun c' w' => uD w0 J S T H w' ∧ c' = c ∧ zI w' 74 30 = nI f2 ∧ zI w' 74 31 = nI b2) := by
      intro w c f2 b2 h1 h2 h3
      rw [if_neg (show ¬ ¬ nI 0 = 0 by decide), lt_e, g1, bd_s, h2, nI_pred, lt_e, if_pos (show ¬ nI 0 = 1 by decide), lt_e, g0, bd_s, show zI (zsI w 74 30 (nI f2)) 74 31 = zI w 74 31 from rfl, h3, Int32.sub_zero, lt_e]
      exact ok_r ⟨uD_30 (uD_30 h1 (.inl rfl)) (.inr rfl), rfl, rfl, rfl⟩
    by_cases c : f = 0
    · rw [if_neg (not_not_intro (by rw [c]; rfl)), two_d (by omega), lt_e, lt_e, if_pos c]
      have e31 : ∀ v, zI (zsI w 74 30 v) 74 30 = v := fun v => rfl
      rw [if_neg (show ¬ ¬ nI 0 = 0 by decide), lt_e, e31, pk_sub (by omega), lt_e]
      refine ok_m (tail _ _ ((f + b + 1) / 2 - 1) (f + b - (f + b + 1) / 2) (uD_30 (uD_30 h (.inl rfl)) (.inr rfl)) (by rw [show (f + b + 1) / 2 - 1 + 1 = (f + b + 1) / 2 by omega]; rfl) rfl) (fun c' w' a => ⟨a.1, a.2.1, _, _, a.2.2.1, a.2.2.2, by omega, by rw [if_pos rfl, if_pos c]⟩)
    · rw [if_pos (nI_ne0 (by omega) (by omega)), if_neg c]
      refine ok_m (tail w 0 (f - 1) b h (by rw [show f - 1 + 1 = f by omega]; exact hf) hb) (fun c' w' a => ⟨a.1, a.2.1, _, _, a.2.2.1, a.2.2.2, by omega, ?_⟩)
      rw [if_pos rfl, if_neg c]
  · rw [if_pos (show ¬ nI 1 = 0 by decide), if_neg (show ¬ (1 : Nat) = 0 by decide)]
    have tail : ∀ (w : zW) (c : Int32) (f2 b2 : Nat), uD w0 J S T H w → zI w 74 30 = nI f2 → zI w 74 31 = nI (b2 + 1) → Ok (lt (if ¬ nI 1 = (0 : Int32) then (0 : Int32) else (1 : Int32)) fun v6 => bd (fX8_flag v6 w) fun v9 w7 => lt (zsI w7 74 30 ((zI w 74 30) - v9)) fun w10 => lt (if ¬ nI 1 = (1 : Int32) then (0 : Int32) else (1 : Int32)) fun v12 => bd (fX8_flag v12 w10) fun v15 w13 => lt (zsI w13 74 31 ((zI w10 74 31) - v15)) fun w16 => some (c, w16)) (fun c' w' => uD w0 J S T H w' ∧ c' = c ∧ zI w' 74 30 = nI f2 ∧ zI w' 74 31 = nI b2) := by
      intro w c f2 b2 h1 h2 h3
      rw [if_pos (show ¬ nI 1 = 0 by decide), lt_e, g0, bd_s, h2, Int32.sub_zero, lt_e, if_neg (show ¬ ¬ nI 1 = 1 by decide), lt_e, g1, bd_s, show zI (zsI w 74 30 (nI f2)) 74 31 = zI w 74 31 from rfl, h3, nI_pred, lt_e]
      exact ok_r ⟨uD_30 (uD_30 h1 (.inl rfl)) (.inr rfl), rfl, rfl, rfl⟩
    by_cases c : b = 0
    · rw [if_neg (not_not_intro (by rw [c]; rfl)), two_d (by omega), lt_e, lt_e, if_pos c]
      have e31 : ∀ v, zI (zsI w 74 30 v) 74 30 = v := fun v => rfl
      rw [if_pos (show ¬ nI 1 = 0 by decide), pk_sub (by omega), lt_e, e31, pk_sub (by omega), lt_e]
      refine ok_m (tail _ _ (f + b - (f + b + 1) / 2) ((f + b + 1) / 2 - 1) (uD_30 (uD_30 h (.inl rfl)) (.inr rfl)) rfl (by rw [show (f + b + 1) / 2 - 1 + 1 = f + b - (f + b - (f + b + 1) / 2) by omega]; rfl)) (fun c' w' a => ⟨a.1, a.2.1, _, _, a.2.2.1, a.2.2.2, by omega, ?_⟩)
      rw [if_neg (show ¬ (1 : Nat) = 0 by decide), if_pos c]
    · rw [if_pos (nI_ne0 (by omega) (by omega)), if_neg c]
      refine ok_m (tail w 0 f (b - 1) h hf (by rw [show b - 1 + 1 = b by omega]; exact hb)) (fun c' w' a => ⟨a.1, a.2.1, _, _, a.2.2.1, a.2.2.2, by omega, ?_⟩)
      rw [if_neg (show ¬ (1 : Nat) = 0 by decide), if_neg c]
theorem begins_s {w0 : zX} (h : uD w0 J S T H w) {j : Nat} (hj : j < 5) : Ok (fX8_begins (nI j) w) (fun _ w' => uD w0 J S T H w' ∧ zI w' 74 30 = nI (sZ S (2 * j)) ∧ zI w' 74 31 = nI (sZ S (2 * j + 1))) := by
  have e := d_in2 hj
  rw [fX8_begins, e.1, zg_t, lt_e, e.2.1, zg_t, lt_e, e.2.2.1, e.2.2.2.1, uD_z h (by omega)]
  exact ok_r ⟨uD_30 (uD_30 h (.inl rfl)) (.inr rfl), rfl, (uD_z h (by omega))⟩
theorem drain_L8 {w0 : zX} {e : Nat} (he : e < 2) : ∀ n f b a N w, f + b = n → n ≤ 64 → n < N → uD w0 J S T H w → zI w 74 30 = nI f → zI w 74 31 = nI b → Ok (fX8_drainsBy_L7 (nI e) N (nI a) w) (fun c w' => uD w0 J S T H w' ∧ c = nI (a + dF n (if e = 0 then f else b))) := by
  intro n
  induction n with
  | zero =>
    intro f b a N w h0 h64 hN h hf hb
    obtain ⟨N, rfl⟩ : ∃ k, N = k + 1 := ⟨N - 1, by omega⟩
    rw [fX8_drainsBy_L7.eq_2, hf, hb, nI_add, h0, if_pos (show nI 0 ≤ 0 by decide)]
    exact ok_r ⟨h, rfl⟩
  | succ n ih =>
    intro f b a N w h0 h64 hN h hf hb
    obtain ⟨N, rfl⟩ : ∃ k, N = k + 1 := ⟨N - 1, by omega⟩
    rw [fX8_drainsBy_L7.eq_2, hf, hb, nI_add, if_neg (nI_nle (by omega) (by omega))]
    refine ok_b (costs_s h he hf hb (by omega) (by omega)) (fun c w1 a1 => ?_)
    obtain ⟨b1, rfl, f', b', b2, b3, b4, b5⟩ := a1
    rw [lt_e, nI_add]
    refine ok_m (ih f' b' _ N w1 (by omega) (by omega) (by omega) b1 b2 b3) (fun c w2 a2 => ⟨a2.1, a2.2.trans ?_⟩)
    have e3 : dF (n + 1) (if e = 0 then f else b) = (if (if e = 0 then f else b) = 0 then n + 1 else 0) + dF n ((if (if e = 0 then f else b) = 0 then (n + 1 + 1) / 2 else (if e = 0 then f else b)) - 1) := rfl
    rw [b5, e3, h0, Nat.add_assoc]
theorem drains_b (h : rW J S T w) (a : Int32) : Bq (fX7_drains a) (fX8_drains a) Eq w := by
  obtain ⟨hW, hS, hT, -, -⟩ := id h
  rcases ln a with hl | ⟨j, hj, rfl⟩
  · exact bq_x h (-1) (fun H hC => by rw [fX7_drains, lineAt_n w hl, bd_s, oc_n]) (fun w1 H hD => by rw [fX8_drains, lt_e, isLine_n _ hl, bd_s, ff])
  have hz := hS.1 j hj
  have hx : sZ S (2 * j) + sZ S (2 * j + 1) ≤ 64 := hz
  refine bx (if nI (dF (sZ S (2 * j) + sZ S (2 * j + 1)) (sZ S (2 * j))) ≤ nI (dF (sZ S (2 * j) + sZ S (2 * j + 1)) (sZ S (2 * j + 1))) then nI (dF (sZ S (2 * j) + sZ S (2 * j + 1)) (sZ S (2 * j))) else nI (dF (sZ S (2 * j) + sZ S (2 * j + 1)) (sZ S (2 * j + 1)))) h (fun H hC => ?_) (fun w1 H hD => ?_)
  · have d2 := drain7_s w (a := sZ S (2 * j + 1)) (b := sZ S (2 * j)) (by omega)
    rw [Nat.add_comm (sZ S (2 * j + 1)) (sZ S (2 * j))] at d2
    rw [fX7_drains, lineAt_s w hj, bd_s, oc_s, LN_0, LN_1, uC_z hC (by omega), uC_z hC (by omega), drain7_s w hx, bd_s, uC_z hC (by omega), uC_z hC (by omega), d2, bd_s, lt_e]
    refine ok_b (tell3_s hC _ _ _) (fun _ w3 a3 => ?_)
    by_cases c : nI (dF (sZ S (2 * j) + sZ S (2 * j + 1)) (sZ S (2 * j))) ≤ nI (dF (sZ S (2 * j) + sZ S (2 * j + 1)) (sZ S (2 * j + 1)))
    · rw [if_pos c, if_neg (show ¬ ¬ (0 : Int32) = 0 by decide), if_pos c]; exact ok_r ⟨rfl, a3⟩
    · rw [if_neg c, if_pos (show ¬ (1 : Int32) = 0 by decide), if_neg c]; exact ok_r ⟨rfl, a3⟩
  · have by_ : ∀ e w, e < 2 → uD (w1, False) J S T H w → Ok (fX8_drainsBy (nI j) (nI e) w) (fun c w' => uD (w1, False) J S T H w' ∧ c = nI (dF (sZ S (2 * j) + sZ S (2 * j + 1)) (if e = 0 then sZ S (2 * j) else sZ S (2 * j + 1)))) := by
      intro e w he h1
      rw [fX8_drainsBy]
      refine ok_b (begins_s h1 (show j < 5 by omega)) (fun _ w2 a2 => ?_)
      have := drain_L8 he _ _ _ 0 zFU w2 rfl hx (fuelN (by omega)) a2.1 a2.2.1 a2.2.2
      rw [Nat.zero_add] at this
      exact this
    rw [fX8_drains, lt_e, isLine_s _ hj, bd_s, tt]
    refine ok_b (by_ 0 _ (by decide) (uD_0 hD)) (fun c w2 a2 => ?_)
    obtain ⟨a2, rfl⟩ := a2
    refine ok_b (by_ 1 _ (by decide) a2) (fun c w3 a3 => ?_)
    obtain ⟨a3, rfl⟩ := a3
    rw [if_pos rfl, if_neg (show ¬ (1 : Nat) = 0 by decide), lt_e, lt_e]
    have hf : ∀ c : Int32, ∃ b, fX8_flag c (zsI w3 74 1 0) = some (b, zsI w3 74 1 0) := fun c => by
      rw [fX8_flag]
      by_cases q : c = 0
      · exact ⟨0, if_pos q⟩
      · exact ⟨1, if_neg q⟩
    obtain ⟨b, eb⟩ := hf (if nI (dF (sZ S (2 * j) + sZ S (2 * j + 1)) (sZ S (2 * j))) ≤ nI (dF (sZ S (2 * j) + sZ S (2 * j + 1)) (sZ S (2 * j + 1))) then 0 else 1)
    rw [eb, bd_s]
    refine ok_b (enters_s (n := 0) (uD_1 (v := 0) a3) rfl (by decide) _) (fun _ w4 a4 => ?_)
    refine ok_b (enters_s a4.1 a4.2 (by decide) _) (fun _ w5 a5 => ?_)
    refine ok_b (enters_s a5.1 a5.2 (by decide) _) (fun _ w6 a6 => ok_r ⟨?_, a6.1⟩)
    by_cases c : nI (dF (sZ S (2 * j) + sZ S (2 * j + 1)) (sZ S (2 * j))) ≤ nI (dF (sZ S (2 * j) + sZ S (2 * j + 1)) (sZ S (2 * j + 1)))
    · rw [if_neg (Int32.not_lt.mpr c), if_pos c]
    · rw [if_pos (Int32.not_le.mp c), if_neg c]
theorem would_b (h : rW J S T w) (a b : Int32) : Bq (fX7_would a b) (fX8_would a b) Eq w := by
  obtain ⟨hW, hS, hT, -, -⟩ := id h
  rcases ln a with hl | ⟨j, hj, rfl⟩
  · exact bq_x h (-1) (fun H hC => by rw [fX7_would, lineAt_n w hl, bd_s, oc_n]) (fun w1 H hD => by rw [fX8_would, lt_e, isLine_n _ hl, bd_s, ff])
  rcases en b with ⟨e7, e8⟩ | ⟨e, he, rfl, e7, e8⟩
  · exact bq_x h (-1) (fun H hC => by rw [fX7_would, lineAt_s w hj, bd_s, oc_s, e7, bd_s, ff]) (fun w1 H hD => by rw [fX8_would, lt_e, isLine_s _ hj, bd_s, tt, e8, bd_s, ff])
  have hz := hS.1 j hj
  have hN0 : aN S j = sZ S (2 * j) + sZ S (2 * j + 1) := rfl
  by_cases c : aN S j = 0
  · exact bq_x h (-2) (fun H hC => by rw [fX7_would, lineAt_s w hj, bd_s, oc_s, e7, bd_s, tt, size_s hC (by omega), bd_s, c, if_neg (show ¬ ¬ nI 0 = 0 by decide)]) (fun w1 H hD => by rw [fX8_would, lt_e, isLine_s _ hj, bd_s, tt, e8, bd_s, tt, sizeOf_s (uD_0 hD) (by omega), bd_s, c, if_neg (show ¬ ¬ nI 0 = 0 by decide)])
  refine bx (nI (if (if e = 0 then sZ S (2 * j) else sZ S (2 * j + 1)) = 0 then sZ S (2 * j) + sZ S (2 * j + 1) else 0)) h (fun H hC => ?_) (fun w1 H hD => ?_)
  · rw [fX7_would, lineAt_s w hj, bd_s, oc_s, e7, bd_s, tt, size_s hC (by omega), bd_s, if_pos (nI_ne0 (by omega) (by omega)), size_s hC (by omega), bd_s, LN_0, uC_z hC (by omega)]
    obtain ⟨v, ev⟩ := front_s w (nI (sZ S (2 * j))) (nI (aN S j)) (nI e)
    rw [ev, bd_s, size_s hC (by omega), bd_s]
    refine ok_b (tell2_s hC _ _) (fun _ w3 a3 => ?_)
    rw [size_s a3 (by omega), bd_s, uC_z a3 (by omega), fX4_cost, lt_e]
    rcases (show e = 0 ∨ e = 1 by omega) with rfl | rfl
    · rw [if_neg (show ¬ ¬ nI 0 = 0 by decide), if_pos rfl]
      by_cases d : sZ S (2 * j) = 0
      · rw [if_neg (not_not_intro (by rw [d]; rfl)), if_pos d, bd_s]; exact ok_r ⟨rfl, a3⟩
      · rw [if_pos (nI_ne0 (by omega) (by omega)), if_neg d, bd_s]; exact ok_r ⟨rfl, a3⟩
    · rw [if_pos (show ¬ nI 1 = 0 by decide), if_neg (show ¬ (1 : Nat) = 0 by decide), pk_sub (by omega), show aN S j - sZ S (2 * j) = sZ S (2 * j + 1) by omega]
      by_cases d : sZ S (2 * j + 1) = 0
      · rw [if_neg (not_not_intro (by rw [d]; rfl)), if_pos d, bd_s]; exact ok_r ⟨rfl, a3⟩
      · rw [if_pos (nI_ne0 (by omega) (by omega)), if_neg d, bd_s]; exact ok_r ⟨rfl, a3⟩
  · rw [fX8_would, lt_e, isLine_s _ hj, bd_s, tt, e8, bd_s, tt, sizeOf_s (uD_0 hD) (by omega), bd_s, if_pos (nI_ne0 (by omega) (by omega))]
    refine ok_b (begins_s (uD_0 hD) (show j < 5 by omega)) (fun _ w2 a2 => ?_)
    refine ok_b (costs_s a2.1 he a2.2.1 a2.2.2 (by omega) (by omega)) (fun c w3 a3 => ?_)
    obtain ⟨b1, rfl, -⟩ := a3
    rw [lt_e]
    refine ok_b (enters_s (n := 0) (uD_1 (v := 0) b1) rfl (by decide) _) (fun _ w4 a4 => ?_)
    refine ok_b (enters_s a4.1 a4.2 (by decide) _) (fun _ w5 a5 => ok_r ⟨rfl, a5.1⟩)
end A3
