set_option maxRecDepth 16384
/-- the mark of a CELL -/
def mk (S : aS) (k h : Nat) : Int32 := (sC S k h).2.2.2
/-- a CELL of that mark lies at that END and height of the LINE t -/
def hcD (S : aS) (t e h : Nat) (m : Int32) : Bool := decide (h < sZ S (2 * t + e)) && decide (mk S (2 * t + e) h = m)
/-- how many of the first n are so -/
def nW (f : Nat → Bool) : Nat → Nat
  | 0 => 0
  | n + 1 => nW f n + (if f n = true then 1 else 0)
/-- the LINES that hold the CELL of ITEM i of the LINE j -/
def shf (S : aS) (j i : Nat) : Nat → Bool := fun t => hcD S t (pK S j i % 2) (pH S j i) (mk S (pK S j i) (pH S j i))
def shI (S : aS) (j : Nat) : Nat → Nat × Nat
  | 0 => (0, 0)
  | i + 1 => ((shI S j i).1 + (if nW (shf S j i) j = 0 then 1 else 0), (shI S j i).2 + (if nW (shf S j i) j = 0 ∧ 1 < nW (shf S j i) 4 then 1 else 0))
def shA (S : aS) : Nat → Nat × Nat × Nat
  | 0 => (0, 0, 0)
  | j + 1 => ((shA S j).1 + (shI S j (aN S j)).1, (shA S j).2.1 + (shI S j (aN S j)).2, (shA S j).2.2 + aN S j)
theorem nW_l (f : Nat → Bool) : ∀ n, nW f n ≤ n := by
  intro n
  induction n with
  | zero => exact Nat.le_refl 0
  | succ n ih => unfold nW; split <;> omega
theorem nW_y {f : Nat → Bool} {n : Nat} (h : f n = true) : nW f (n + 1) = nW f n + 1 := by rw [nW, if_pos h]
theorem nW_n {f : Nat → Bool} {n : Nat} (h : f n = false) : nW f (n + 1) = nW f n := by rw [nW, if_neg (by rw [h]; decide), Nat.add_zero]
theorem shI_l (S : aS) (j : Nat) : ∀ i, (shI S j i).1 ≤ i ∧ (shI S j i).2 ≤ i := by
  intro i
  induction i with
  | zero => exact ⟨Nat.le_refl 0, Nat.le_refl 0⟩
  | succ i ih =>
    unfold shI
    dsimp only
    constructor <;> split <;> omega
theorem pKH_e {S : aS} {t e h : Nat} (he : e < 2) (hh : h < sZ S (2 * t + e)) : ∃ i, i < aN S t ∧ pK S t i = 2 * t + e ∧ pH S t i = h := by
  rcases (show e = 0 ∨ e = 1 by omega) with rfl | rfl
  · have hh : h < sZ S (2 * t) := hh
    refine ⟨sZ S (2 * t) - 1 - h, by unfold aN; omega, ?_, ?_⟩
    · unfold pK; rw [if_neg (by omega)]; rfl
    · unfold pH; rw [if_neg (by omega)]; omega
  · refine ⟨sZ S (2 * t) + h, by unfold aN; omega, ?_, ?_⟩
    · unfold pK; rw [if_pos (by omega)]
    · unfold pH; rw [if_pos (by omega)]; omega
theorem pK_2 {S : aS} {j i : Nat} : pK S j i = 2 * j + pK S j i % 2 := by unfold pK; split <;> omega
/-- by the numbers of the marks: the same END, the same height -/
theorem hc_m {S : aS} {M : Nat} (hm : mI S M) (hM : M < 2 ^ 31) {j i t : Nat} (hj : j < 5) (ht : t < 5) (hi : i < aN S j) : (∃ x, x < aN S t ∧ mk S (pK S t x) (pH S t x) = mk S (pK S j i) (pH S j i)) ↔ shf S j i t = true := by
  obtain ⟨-, l, h1, h2⟩ := hm
  have hp := pH_l hi
  have hk : pK S j i < 10 := pK_b hj
  unfold shf hcD
  rw [Bool.and_eq_true, decide_eq_true_iff, decide_eq_true_iff]
  constructor
  · rintro ⟨x, hx, e⟩
    have hpx := pH_l hx
    have hkx : pK S t x < 10 := pK_b ht
    have a1 := h1 _ _ hk hp
    have a2 := h1 _ _ hkx hpx
    have e2 : nI (l (pK S t x) (pH S t x)) = nI (l (pK S j i) (pH S j i)) := a2.1.symm.trans (e.trans a1.1)
    have e3 := (nI_eq (by omega) (by omega)).mp e2
    have e4 := h2 _ _ _ _ hkx hpx hk hp e3
    have e5 : pK S t x = 2 * t + pK S j i % 2 := by rw [← e4.1]; exact pK_2
    rw [e5, e4.2] at hpx e
    exact ⟨hpx, e⟩
  · rintro ⟨h3, e⟩
    obtain ⟨x, hx, e1, e2⟩ := pKH_e (Nat.mod_lt _ (by decide)) h3
    exact ⟨x, hx, by rw [e1, e2]; exact e⟩
section BH
variable {J : aJ} {S : aS} {T : aT} {w w1 w2 : zW} {H H' : Nat → Int32} {w0 : zX}
theorem hasCell_c (h : uC w0 J S T H w) (hS : sW J S) {t e y : Nat} (ht : t < 4) (he : e < 2) (hy : y < 64) (m : Int32) : fX1_hasCell (LN t) (nI e) (nI y) m w = some (hcD S t e y m, w) := by
  have hk : 2 * t + e < 10 := by omega
  have hb := sW_B hS (2 * t + e) hk
  rw [fX1_hasCell, LN_e he, bd_s, fX2_has, if_neg (nI_pos (by omega)), uC_z h hk]
  unfold hcD
  by_cases c : sZ S (2 * t + e) ≤ y
  · rw [if_pos (nI_le c (by omega)), bd_s, decide_eq_false (show ¬ y < sZ S (2 * t + e) by omega), Bool.false_and]
  · have hc := ((h.2.1 _ hk).2 y (by omega)).2.2.2
    rw [if_neg (fun q => c ((nI_leI (by omega) (by omega)).mp q)), ati_s w (zl_k _ hk).2.2.2 (show y < 64 from hy) (by decide), bd_s, hc, decide_eq_true (show y < sZ S (2 * t + e) by omega), Bool.true_and]
    by_cases d : (sC S (2 * t + e) y).2.2.2 = m
    · rw [if_neg (not_not_intro d), bd_s, decide_eq_true (show mk S (2 * t + e) y = m from d)]
    · rw [if_pos d, bd_s, decide_eq_false (show ¬ mk S (2 * t + e) y = m from d)]
theorem markOf_s (h : uC w0 J S T H w) (hS : sW J S) {j i : Nat} (hj : j < 4) (hi : i < aN S j) : fX1_markOf (LN j) (nI i) w = some (mk S (pK S j i) (pH S j i), w) := by
  have hz := hS.1 j hj
  have h0 : sZ S (2 * j) ≤ 64 := by unfold aN at hz; omega
  have hp := pH_l hi
  have hk : pK S j i < 10 := pK_b (by omega)
  have hq : sZ S (pK S j i) ≤ 64 := pK_64 hz
  rw [fX1_markOf, endOf_s h (by omega) h0 (by omega), bd_s, pile_s h (by omega) h0, bd_s, heightOf_s h (by omega) h0 (by omega), bd_s, ati_s w (zl_k _ hk).2.2.2 (show pH S j i < 64 by omega) (by decide), bd_s, ((h.2.1 _ hk).2 _ hp).2.2.2]
  rfl
theorem lines_L (h : uC w0 J S T H w) (hS : sW J S) {j i b : Nat} (hj : j < 4) (hi : i < aN S j) (hb : b ≤ 4) : ∀ m t N, t + m = b → m < N → fX7_linesWithCell_L6 (LN j) (nI i) (nI b) N (nI (nW (shf S j i) t)) (nI t) w = some (nI (nW (shf S j i) b), w) := by
  have hz := hS.1 j hj
  have h0 : sZ S (2 * j) ≤ 64 := by unfold aN at hz; omega
  have hp := pH_l hi
  have hq : sZ S (pK S j i) ≤ 64 := pK_64 hz
  intro m
  induction m with
  | zero =>
    intro t N ht hN
    obtain ⟨N, rfl⟩ : ∃ k, N = k + 1 := ⟨N - 1, by omega⟩
    rw [fX7_linesWithCell_L6.eq_2, if_pos (nI_le (by omega) (by omega)), show t = b by omega]
  | succ m ih =>
    intro t N ht hN
    obtain ⟨N, rfl⟩ : ∃ k, N = k + 1 := ⟨N - 1, by omega⟩
    have hc := hasCell_c h hS (show t < 4 by omega) (show pK S j i % 2 < 2 from Nat.mod_lt _ (by decide)) (show pH S j i < 64 by omega) (mk S (pK S j i) (pH S j i))
    rw [fX7_linesWithCell_L6.eq_2, if_neg (Int32.not_le.mpr (nI_lt (by omega) (by omega))), lineAt_s w (by omega), bd_s, oc_s, lt_e, lt_e, endOf_s h (by omega) h0 (by omega), bd_s, heightOf_s h (by omega) h0 (by omega), bd_s, markOf_s h hS hj hi, bd_s, end_k, hc, bd_s]
    have hc2 : hcD S t (pK S j i % 2) (pH S j i) (mk S (pK S j i) (pH S j i)) = shf S j i t := rfl
    rw [hc2]
    cases e : shf S j i t with
    | true =>
      rw [tt]
      dsimp only
      rw [lt_e, nI_1, nI_1, ← nW_y e]
      exact ih (t + 1) N (by omega) (by omega)
    | false =>
      rw [ff]
      dsimp only
      rw [lt_e, show (0 : Int32) = nI 0 from rfl, nI_add, Nat.add_zero, nI_1, ← nW_n e]
      exact ih (t + 1) N (by omega) (by omega)
theorem lines_s (h : uC w0 J S T H w) (hS : sW J S) {j i b : Nat} (hj : j < 4) (hi : i < aN S j) (hb : b ≤ 4) : fX7_linesWithCell (LN j) (nI i) (nI b) w = some (nI (nW (shf S j i) b), w) := by
  rw [fX7_linesWithCell]
  exact lines_L h hS hj hi hb b 0 zFU (by omega) (fuelN (by omega))
theorem sh7_47 (h : uC w0 J S T H w) (hS : sW J S) {j a1 a2 x3 : Nat} (hj : j < 4) {g : Int32 → Int32 → Int32 → Int32 → zW → Option (Int32 × zW)} : ∀ m i N, i + m = aN S j → m < N → fX7_shared_L47b (nI x3) (nI j) (LN j) (nI (aN S j)) g N (nI (a1 + (shI S j i).1)) (nI (a2 + (shI S j i).2)) (nI i) w = g (nI (a1 + (shI S j (aN S j)).1)) (nI (a2 + (shI S j (aN S j)).2)) (nI x3) (nI (j + 1)) w := by
  have hz := hS.1 j hj
  intro m
  induction m with
  | zero =>
    intro i N hi hN
    obtain ⟨N, rfl⟩ : ∃ k, N = k + 1 := ⟨N - 1, by omega⟩
    rw [fX7_shared_L47b.eq_2, if_pos (nI_le (by omega) (by omega)), nI_1, show i = aN S j by omega]
  | succ m ih =>
    intro i N hi hN
    obtain ⟨N, rfl⟩ : ∃ k, N = k + 1 := ⟨N - 1, by omega⟩
    have l4 := nW_l (shf S j i) 4
    have lj := nW_l (shf S j i) j
    rw [fX7_shared_L47b.eq_2, if_neg (Int32.not_le.mpr (nI_lt (by omega) (by omega))), show (4 : Int32) = nI 4 from rfl, lines_s h hS hj (by omega) (by omega), bd_s, lines_s h hS hj (by omega) (by omega), bd_s, lt_e, lt_e, lt_e, lt_e]
    have e1 : (if ¬ nI (nW (shf S j i) j) = (0 : Int32) then (0 : Int32) else (1 : Int32)) = nI (if nW (shf S j i) j = 0 then 1 else 0) := by
      by_cases c : nW (shf S j i) j = 0
      · rw [if_pos c, c]; rfl
      · rw [if_neg c, if_pos (nI_ne0 (by omega) (by omega))]; rfl
    have e2 : (if ¬ nI (nW (shf S j i) j) = (0 : Int32) then (0 : Int32) else if nI (nW (shf S j i) 4) ≤ (1 : Int32) then (0 : Int32) else (1 : Int32)) = nI (if nW (shf S j i) j = 0 ∧ 1 < nW (shf S j i) 4 then 1 else 0) := by
      by_cases c : nW (shf S j i) j = 0
      · rw [c, if_neg (show ¬ ¬ nI 0 = 0 by decide)]
        by_cases d : nW (shf S j i) 4 ≤ 1
        · rw [if_pos (show nI (nW (shf S j i) 4) ≤ 1 from (nI_leI (b := 1) (by omega) (by decide)).mpr d), if_neg (by omega)]; rfl
        · rw [if_neg (show ¬ nI (nW (shf S j i) 4) ≤ 1 from fun q => d ((nI_leI (b := 1) (by omega) (by decide)).mp q)), if_pos ⟨rfl, by omega⟩]; rfl
      · rw [if_pos (nI_ne0 (by omega) (by omega)), if_neg (fun q => c q.1)]; rfl
    rw [e1, e2, nI_add, nI_add, nI_1, Nat.add_assoc, Nat.add_assoc]
    exact ih (i + 1) N (by omega) (by omega)
theorem sh7_9 (h : uC w0 J S T H w) (hS : sW J S) : ∀ m j N, j + m = 4 → m < N → fX7_shared_L9 N (nI (shA S j).1) (nI (shA S j).2.1) (nI (shA S j).2.2) (nI j) w = bd (fX7_tell_ (nI (shA S 4).2.1).toInt64 (nI (shA S 4).2.2).toInt64 w) fun _ w2 => some (nI (shA S 4).1, w2) := by
  intro m
  induction m with
  | zero =>
    intro j N hj hN
    obtain ⟨N, rfl⟩ : ∃ k, N = k + 1 := ⟨N - 1, by omega⟩
    rw [show j = 4 by omega, fX7_shared_L9.eq_2, if_pos (show (4 : Int32) ≤ nI 4 by decide)]
  | succ m ih =>
    intro j N hj hN
    obtain ⟨N, rfl⟩ : ∃ k, N = k + 1 := ⟨N - 1, by omega⟩
    have hz := hS.1 j (by omega)
    rw [fX7_shared_L9.eq_2, if_neg (show ¬ (4 : Int32) ≤ nI j from Int32.not_le.mpr (nI_lt (b := 4) (by omega) (by decide))), lineAt_s w (by omega), bd_s, oc_s, lt_e, size_s h (by omega), bd_s]
    dsimp only
    rw [lt_e, nI_add]
    have e := sh7_47 (a1 := (shA S j).1) (a2 := (shA S j).2.1) (x3 := (shA S j).2.2 + aN S j) (g := fX7_shared_L9 N) h hS (show j < 4 by omega) (aN S j) 0 zFU (by omega) (fuelN (by omega))
    rw [show (shI S j 0).1 = 0 from rfl, show (shI S j 0).2 = 0 from rfl, Nat.add_zero, Nat.add_zero] at e
    exact e.trans (ih (j + 1) N (by omega) (by omega))
theorem shared_c (h : uC w0 J S T H w) (hS : sW J S) : fX7_shared w = bd (fX7_tell_ (nI (shA S 4).2.1).toInt64 (nI (shA S 4).2.2).toInt64 w) fun _ w2 => some (nI (shA S 4).1, w2) := by
  rw [fX7_shared]
  exact sh7_9 h hS 4 0 zFU (by omega) (fuelN (by omega))
theorem hasCell_rL (hS : sW J S) (h : uD w0 J S T H w) {j : Nat} (hj : j < 4) {c m0 : Int32} (hc : c + 1 = m0) : ∀ m i N, i + m = aN S j → m < N → (∀ x, x < i → mk S (pK S j x) (pH S j x) ≠ m0) → ∃ b : Bool, fX8_hasCell_L2 (nI j) c N (nI i) w = some (b, w) ∧ (b = true ↔ ∃ x, x < aN S j ∧ mk S (pK S j x) (pH S j x) = m0) := by
  have hz := hS.1 j hj
  intro m
  induction m with
  | zero =>
    intro i N hi hN hA
    obtain ⟨N, rfl⟩ : ∃ k, N = k + 1 := ⟨N - 1, by omega⟩
    rw [fX8_hasCell_L2.eq_2, sizeOf_s h (by omega), bd_s, if_pos (nI_le (by omega) (by omega))]
    refine ⟨false, rfl, ⟨fun q => Bool.noConfusion q, ?_⟩⟩
    rintro ⟨x, hx, e⟩
    exact absurd e (hA x (by omega))
  | succ m ih =>
    intro i N hi hN hA
    obtain ⟨N, rfl⟩ : ∃ k, N = k + 1 := ⟨N - 1, by omega⟩
    have hp := pH_l (show i < aN S j by omega)
    have hk : pK S j i < 10 := pK_b (by omega)
    have hq : sZ S (pK S j i) ≤ 64 := pK_64 hz
    have hcell := ((h.2.1 _ hk).2 _ hp).2.2.2
    rw [fX8_hasCell_L2.eq_2, sizeOf_s h (by omega), bd_s, if_neg (Int32.not_le.mpr (nI_lt (by omega) (by omega))), placeOf_s h (by omega) (by unfold aN at hz; omega) (by omega), bd_s, zin_t (show 64 * pK S j i + pH S j i < 640 by omega) (by decide), zg_t, nI_clamp (by omega)]
    by_cases q : zI w 84 (64 * pK S j i + pH S j i) = c
    · rw [if_neg (not_not_intro q)]
      refine ⟨true, rfl, ⟨fun _ => ⟨i, by omega, ?_⟩, fun _ => rfl⟩⟩
      rw [q, hc] at hcell
      exact hcell.symm
    · rw [if_pos q, nI_1]
      refine ih (i + 1) N (by omega) (by omega) (fun x hx => ?_)
      by_cases z : x = i
      · rw [z]
        intro e
        apply q
        have e2 : zI w 84 (64 * pK S j i + pH S j i) + 1 = c + 1 := hcell.trans (e.trans hc.symm)
        exact (Int32.add_left_inj 1).mp e2
      · exact hA x (by omega)
theorem hasCell_r (hS : sW J S) (h : uD w0 J S T H w) {M : Nat} (hm : mI S M) (hM : M < 2 ^ 31) {j i t : Nat} (hj : j < 4) (hi : i < aN S j) (ht : t < 4) : fX8_hasCell (nI t) (zI w 84 (64 * pK S j i + pH S j i)) w = some (shf S j i t, w) := by
  have hz := hS.1 t ht
  have hcell := ((h.2.1 _ (show pK S j i < 10 from pK_b (by omega))).2 _ (pH_l hi)).2.2.2
  rw [fX8_hasCell]
  obtain ⟨b, e, hb⟩ := hasCell_rL hS h ht (c := zI w 84 (64 * pK S j i + pH S j i)) (m0 := mk S (pK S j i) (pH S j i)) hcell (aN S t) 0 zFU (by omega) (fuelN (by omega)) (fun x hx => absurd hx (Nat.not_lt_zero x))
  have e2 := hb.trans (hc_m hm hM (show j < 5 by omega) (show t < 5 by omega) hi)
  have e3 : b = shf S j i t := by
    cases hs : shf S j i t with
    | true => exact e2.mpr hs
    | false =>
      cases b with
      | false => rfl
      | true => have := e2.mp rfl; rw [hs] at this; cases this
  rw [← e3]; exact e
/-- the other LINES alone -/
def shg (f : Nat → Bool) (j : Nat) : Nat → Bool := fun t => f t && decide (t ≠ j)
theorem shg_4 {f : Nat → Bool} {j : Nat} (hj : j < 4) (hf : f j = true) : nW f 4 = nW (shg f j) 4 + 1 := by
  rcases (show j = 0 ∨ j = 1 ∨ j = 2 ∨ j = 3 by omega) with rfl | rfl | rfl | rfl <;> simp [nW, shg, hf] <;> omega
theorem shf_j {j i : Nat} (hi : i < aN S j) : shf S j i j = true := by
  have hp := pH_l hi
  unfold shf hcD
  rw [← pK_2, decide_eq_true hp, decide_eq_true rfl]; rfl
theorem sh8_58 (hS : sW J S) (h : uD w0 J S T H w) {M : Nat} (hm : mI S M) (hM : M < 2 ^ 31) {j i a1 a2 a3 : Nat} (hj : j < 4) (hi : i < aN S j) {g : Int32 → Int32 → Int32 → Int32 → zW → Option (Int32 × zW)} : ∀ m t N, t + m = 4 → m < N → fX8_shared_L58 (nI a1) (nI a2) (nI a3) (nI j) (nI i) (zI w 84 (64 * pK S j i + pH S j i)) g N (if nW (shf S j i) (min t j) = 0 then 1 else 0) (if nW (shg (shf S j i) j) t = 0 then 0 else 1) (nI t) w = g (nI (a1 + (if nW (shf S j i) j = 0 then 1 else 0))) (nI (a2 + (if nW (shf S j i) j = 0 ∧ 1 < nW (shf S j i) 4 then 1 else 0))) (nI (a3 + 1)) (nI (i + 1)) w := by
  have hz := hS.1 j hj
  intro m
  induction m with
  | zero =>
    intro t N ht hN
    obtain ⟨N, rfl⟩ : ∃ k, N = k + 1 := ⟨N - 1, by omega⟩
    have ht4 : t = 4 := by omega
    subst ht4
    have h4 := shg_4 hj (shf_j hi)
    rw [fX8_shared_L58.eq_2, if_pos (show (4 : Int32) ≤ nI 4 by decide), show min 4 j = j by omega, nI_1, nI_1]
    by_cases c : nW (shf S j i) j = 0
    · rw [if_pos c, if_pos c, show fX8_flag (1 : Int32) w = some (1, w) from rfl, bd_s, lt_e, lt_e, if_neg (show ¬ (1 : Int32) = 0 by decide), nI_1]
      by_cases d : nW (shg (shf S j i) j) 4 = 0
      · rw [if_pos d, if_pos rfl, show fX8_flag (0 : Int32) w = some (0, w) from rfl, bd_s, lt_e, if_neg (show ¬ (nW (shf S j i) j = 0 ∧ 1 < nW (shf S j i) 4) by omega)]
        rw [show (0 : Int32) = nI 0 from rfl, nI_add]
      · rw [if_neg d, if_neg (show ¬ (1 : Int32) = 0 by decide), show fX8_flag (1 : Int32) w = some (1, w) from rfl, bd_s, lt_e, if_pos (show nW (shf S j i) j = 0 ∧ 1 < nW (shf S j i) 4 by omega), nI_1]
    · rw [if_neg c, if_neg c, show fX8_flag (0 : Int32) w = some (0, w) from rfl, bd_s, lt_e, lt_e, if_pos rfl, show fX8_flag (0 : Int32) w = some (0, w) from rfl, bd_s, lt_e, if_neg (show ¬ (nW (shf S j i) j = 0 ∧ 1 < nW (shf S j i) 4) from fun q => c q.1), show (0 : Int32) = nI 0 from rfl, nI_add, nI_add]
  | succ m ih =>
    intro t N ht hN
    obtain ⟨N, rfl⟩ : ∃ k, N = k + 1 := ⟨N - 1, by omega⟩
    have hc := hasCell_r hS h hm hM hj hi (show t < 4 by omega)
    have nx := ih (t + 1) N (by omega) (by omega)
    rw [fX8_shared_L58.eq_2, if_neg (show ¬ (4 : Int32) ≤ nI t from Int32.not_le.mpr (nI_lt (b := 4) (by omega) (by decide))), lt_e, lt_e]
    by_cases c : t = j
    · subst c
      have hg : shg (shf S t i) t t = false := by unfold shg; simp
      rw [show min (t + 1) t = t by omega, nW_n hg] at nx
      rw [if_pos rfl]
      dsimp only
      rw [lt_e, lt_e, nI_1, ← nx, show min t t = t by omega, if_pos rfl, if_pos rfl]
      congr 1
      · by_cases z : nW (shf S t i) t = 0
        · rw [if_pos z, if_neg (show ¬ (1 : Int32) = 0 by decide)]
        · rw [if_neg z, if_pos rfl]
      · by_cases z : nW (shg (shf S t i) t) t = 0
        · rw [if_pos z, if_neg (show ¬ ¬ (0 : Int32) = 0 by decide)]
        · rw [if_neg z, if_pos (show ¬ (1 : Int32) = 0 by decide)]
    · rw [if_neg (show ¬ nI t = nI j from fun q => c ((nI_eq (by omega) (by omega)).mp q)), hc, bd_s]
      have hgt : shg (shf S j i) j t = shf S j i t := by unfold shg; rw [decide_eq_true c, Bool.and_true]
      cases e : shf S j i t with
      | true =>
        rw [tt]
        dsimp only
        rw [lt_e, lt_e, nI_1, ← nx, nW_y (hgt.trans e), if_neg (show ¬ (1 : Int32) = 0 by decide), if_neg (show ¬ nW (shg (shf S j i) j) t + 1 = 0 by omega)]
        congr 1
        · by_cases d : t < j
          · rw [if_pos (nI_lt d (by omega)), show min (t + 1) j = t + 1 by omega, nW_y e, if_neg (show ¬ nW (shf S j i) t + 1 = 0 by omega)]
            split <;> rfl
          · rw [if_neg (fun q => d ((nI_ltI (by omega) (by omega)).mp q)), show min (t + 1) j = j by omega, show min t j = j by omega]
            by_cases z : nW (shf S j i) j = 0
            · rw [if_pos z, if_neg (show ¬ (1 : Int32) = 0 by decide)]
            · rw [if_neg z, if_pos rfl]
        · split <;> rfl
      | false =>
        rw [ff]
        dsimp only
        rw [lt_e, lt_e, nI_1, ← nx, nW_n (hgt.trans e), if_pos rfl, if_pos rfl]
        congr 1
        · have z2 : nW (shf S j i) (min (t + 1) j) = nW (shf S j i) (min t j) := by
            by_cases d : t < j
            · rw [show min (t + 1) j = t + 1 by omega, show min t j = t by omega, nW_n e]
            · rw [show min (t + 1) j = j by omega, show min t j = j by omega]
          rw [z2]
          by_cases z : nW (shf S j i) (min t j) = 0
          · rw [if_pos z, if_neg (show ¬ (1 : Int32) = 0 by decide)]
          · rw [if_neg z, if_pos rfl]
        · by_cases z : nW (shg (shf S j i) j) t = 0
          · rw [if_pos z, if_neg (show ¬ ¬ (0 : Int32) = 0 by decide)]
          · rw [if_neg z, if_pos (show ¬ (1 : Int32) = 0 by decide)]
theorem sh8_23 (hS : sW J S) (h : uD w0 J S T H w) {M : Nat} (hm : mI S M) (hM : M < 2 ^ 31) {j a1 a2 a3 : Nat} (hj : j < 4) {g : Int32 → Int32 → Int32 → Int32 → zW → Option (Int32 × zW)} : ∀ m i N, i + m = aN S j → m < N → fX8_shared_L23 (nI j) g N (nI (a1 + (shI S j i).1)) (nI (a2 + (shI S j i).2)) (nI (a3 + i)) (nI i) w = g (nI (a1 + (shI S j (aN S j)).1)) (nI (a2 + (shI S j (aN S j)).2)) (nI (a3 + aN S j)) (nI (j + 1)) w := by
  have hz := hS.1 j hj
  intro m
  induction m with
  | zero =>
    intro i N hi hN
    obtain ⟨N, rfl⟩ : ∃ k, N = k + 1 := ⟨N - 1, by omega⟩
    rw [fX8_shared_L23.eq_2, sizeOf_s h (by omega), bd_s, if_pos (nI_le (by omega) (by omega)), nI_1, show i = aN S j by omega]
  | succ m ih =>
    intro i N hi hN
    obtain ⟨N, rfl⟩ : ∃ k, N = k + 1 := ⟨N - 1, by omega⟩
    have hp := pH_l (show i < aN S j by omega)
    have hk : pK S j i < 10 := pK_b (by omega)
    have hq : sZ S (pK S j i) ≤ 64 := pK_64 hz
    rw [fX8_shared_L23.eq_2, sizeOf_s h (by omega), bd_s, if_neg (Int32.not_le.mpr (nI_lt (by omega) (by omega))), placeOf_s h (by omega) (by unfold aN at hz; omega) (by omega), bd_s, zin_t (show 64 * pK S j i + pH S j i < 640 by omega) (by decide), zg_t, lt_e, nI_clamp (show 64 * pK S j i + pH S j i < 2 ^ 31 by omega)]
    have e := sh8_58 (a1 := a1 + (shI S j i).1) (a2 := a2 + (shI S j i).2) (a3 := a3 + i) (g := fX8_shared_L23 (nI j) g N) hS h hm hM hj (show i < aN S j by omega) 4 0 zFU (by omega) (fuelN (by omega))
    rw [show min 0 j = 0 by omega, show nW (shf S j i) 0 = 0 from rfl, show nW (shg (shf S j i) j) 0 = 0 from rfl, if_pos rfl, if_pos rfl, Nat.add_assoc, Nat.add_assoc, Nat.add_assoc a3] at e
    exact e.trans (ih (i + 1) N (by omega) (by omega))
theorem sh8_14 (hS : sW J S) (h : uD w0 J S T H w) {M : Nat} (hm : mI S M) (hM : M < 2 ^ 31) : ∀ m j N, j + m = 4 → m < N → fX8_shared_L14 N (nI (shA S j).1) (nI (shA S j).2.1) (nI (shA S j).2.2) (nI j) w = lt (zsI w 74 1 (0 : Int32)) fun w3 => bd (fX8_enters (nI (shA S 4).2.1).toInt64 w3) fun _ w4 => bd (fX8_enters (nI (shA S 4).2.2).toInt64 w4) fun _ w7 => some (nI (shA S 4).1, w7) := by
  intro m
  induction m with
  | zero =>
    intro j N hj hN
    obtain ⟨N, rfl⟩ : ∃ k, N = k + 1 := ⟨N - 1, by omega⟩
    rw [show j = 4 by omega, fX8_shared_L14.eq_2, if_pos (show (4 : Int32) ≤ nI 4 by decide)]
  | succ m ih =>
    intro j N hj hN
    obtain ⟨N, rfl⟩ : ∃ k, N = k + 1 := ⟨N - 1, by omega⟩
    have hz := hS.1 j (by omega)
    rw [fX8_shared_L14.eq_2, if_neg (show ¬ (4 : Int32) ≤ nI j from Int32.not_le.mpr (nI_lt (b := 4) (by omega) (by decide)))]
    have e := sh8_23 (a1 := (shA S j).1) (a2 := (shA S j).2.1) (a3 := (shA S j).2.2) (g := fX8_shared_L14 N) hS h hm hM (show j < 4 by omega) (aN S j) 0 zFU (by omega) (fuelN (by omega))
    rw [show (shI S j 0).1 = 0 from rfl, show (shI S j 0).2 = 0 from rfl, Nat.add_zero, Nat.add_zero, Nat.add_zero] at e
    exact e.trans (ih (j + 1) N (by omega) (by omega))
theorem shared_b (h : rW J S T w) (hm : ∃ M, M < 2147483648 ∧ mI S M) : Bq S fX7_shared fX8_shared Eq w := by
  obtain ⟨hW, hS, hT, -, -⟩ := id h
  obtain ⟨M, hM, hm⟩ := hm
  refine bx_t (nI (shA S 4).1) [(nI (shA S 4).2.1).toInt64, (nI (shA S 4).2.2).toInt64] h (fun H hC => ?_) (fun w1 H hD => ?_)
  · rw [shared_c hC hS]
    exact ok_b (tell2_s hC _ _) (fun _ w3 a3 => ok_r ⟨rfl, a3⟩)
  · have h0 := uD_0 hD
    rw [fX8_shared, lt_e]
    have e := sh8_14 hS h0 hm hM 4 0 zFU (by omega) (fuelN (by omega))
    refine ok_e e ?_
    exact two_t h0 (fun w4 a4 => ok_r ⟨rfl, a4⟩)
/-- the CELLs of the LINE j that lie in the LINE t, too: among the first i -/
def nB (S : aS) (j t : Nat) : Nat → Nat
  | 0 => 0
  | i + 1 => nB S j t i + (if shf S j i t = true then 1 else 0)
theorem nB_l (S : aS) (j t : Nat) : ∀ i, nB S j t i ≤ i := by
  intro i
  induction i with
  | zero => exact Nat.le_refl 0
  | succ i ih => unfold nB; split <;> omega
theorem shw_L (h : uC w0 J S T H w) (hS : sW J S) {j t : Nat} (hj : j < 4) (ht : t < 4) : ∀ m i N, i + m = aN S j → m < N → fX1_cellsSharedWith_L4 (LN j) (LN t) N (nI (nB S j t i)) (nI i) w = some (nI (nB S j t (aN S j)), w) := by
  have hz := hS.1 j hj
  have h0 : sZ S (2 * j) ≤ 64 := by unfold aN at hz; omega
  intro m
  induction m with
  | zero =>
    intro i N hi hN
    obtain ⟨N, rfl⟩ : ∃ k, N = k + 1 := ⟨N - 1, by omega⟩
    rw [fX1_cellsSharedWith_L4.eq_2, size_s h (by omega), bd_s, if_pos (nI_le (by omega) (by omega)), show i = aN S j by omega]
  | succ m ih =>
    intro i N hi hN
    obtain ⟨N, rfl⟩ : ∃ k, N = k + 1 := ⟨N - 1, by omega⟩
    have hp := pH_l (show i < aN S j by omega)
    have hq : sZ S (pK S j i) ≤ 64 := pK_64 hz
    have hc := hasCell_c h hS ht (show pK S j i % 2 < 2 from Nat.mod_lt _ (by decide)) (show pH S j i < 64 by omega) (mk S (pK S j i) (pH S j i))
    have hc2 : hcD S t (pK S j i % 2) (pH S j i) (mk S (pK S j i) (pH S j i)) = shf S j i t := rfl
    rw [fX1_cellsSharedWith_L4.eq_2, size_s h (by omega), bd_s, if_neg (Int32.not_le.mpr (nI_lt (by omega) (by omega))), endOf_s h (by omega) h0 (by omega), bd_s, heightOf_s h (by omega) h0 (by omega), bd_s, markOf_s h hS hj (by omega), bd_s, end_k, hc, bd_s, hc2, lt_e, lt_e]
    have e : nB S j t (i + 1) = nB S j t i + (if shf S j i t = true then 1 else 0) := rfl
    have e2 : (if shf S j i t = true then (1 : Int32) else 0) = nI (if shf S j i t = true then 1 else 0) := by
      cases shf S j i t <;> rfl
    rw [e2, nI_add, nI_1, ← e]
    exact ih (i + 1) N (by omega) (by omega)
theorem shw_s (h : uC w0 J S T H w) (hS : sW J S) {j t : Nat} (hj : j < 4) (ht : t < 4) : fX1_cellsSharedWith (LN j) (LN t) w = some (nI (nB S j t (aN S j)), w) := by
  rw [fX1_cellsSharedWith]
  have := hS.1 j hj
  exact shw_L h hS hj ht (aN S j) 0 zFU (by omega) (fuelN (by omega))
end BH
