-- reading what was written
theorem zI_zsI (w : zW) (k j : Nat) (v : Int32) (a b : Nat) : zI (zsI w k j v) a b = if a = k ∧ b = j then v else zI w a b := rfl
theorem zI_zsL (w : zW) (k j : Nat) (v : Int64) (a b : Nat) : zI (zsL w k j v) a b = zI w a b := rfl
theorem zL_zsI (w : zW) (k j : Nat) (v : Int32) (a b : Nat) : zL (zsI w k j v) a b = zL w a b := rfl
theorem zL_zsL (w : zW) (k j : Nat) (v : Int64) (a b : Nat) : zL (zsL w k j v) a b = if a = k ∧ b = j then v else zL w a b := rfl
theorem zI_zsR (w : zW) (j t a b : Nat) : zI (zsR w j t) a b = zI w a b := rfl
theorem zL_zsR (w : zW) (j t a b : Nat) : zL (zsR w j t) a b = zL w a b := rfl
theorem bd_s {α β : Type} (a : α) (w : zW) (F : α → zW → Option β) : bd (some (a, w)) F = F a w := rfl
theorem oc_n {β : Type} (a : β) (f : Nat → β) : oc none a f = a := rfl
theorem oc_s {β : Type} (x : Nat) (a : β) (f : Nat → β) : oc (some x) a f = f x := rfl
theorem zg_t {α : Type} (x : Option α) : zg true x = x := rfl
theorem zin_n {a n : Nat} (ha : a < 2 ^ 31) : zin (nI a) n = decide (a < n) := by
  unfold zin
  rw [nI_toInt ha]
  by_cases h : a < n
  · rw [decide_eq_true h]; exact decide_eq_true ⟨by omega, by omega⟩
  · rw [decide_eq_false h]; exact decide_eq_false (fun q => h (by omega))
theorem zin_t {a n : Nat} (ha : a < n) (hn : n < 2 ^ 31) : zin (nI a) n = true := by rw [zin_n (by omega)]; exact decide_eq_true ha
theorem zin_ok {x : Int32} {n : Nat} (hn : n < 2 ^ 31) (h1 : ¬ x < 0) (h2 : ¬ nI n ≤ x) : zin x n = true := by
  rcases pk_ix x hn with h | h | ⟨j, hj, rfl⟩
  · exact absurd h h1
  · exact absurd h h2
  · exact zin_t hj hn
/-- some answer and world, of which P holds -/
def Ok {α : Type} (r : Option (α × zW)) (P : α → zW → Prop) : Prop := ∃ a w, r = some (a, w) ∧ P a w
theorem ok_r {α : Type} {P : α → zW → Prop} {a : α} {w : zW} (h : P a w) : Ok (some (a, w)) P := ⟨a, w, rfl, h⟩
theorem ok_b {α β : Type} {f : Option (α × zW)} {Q : α → zW → Prop} {F : α → zW → Option (β × zW)} {P : β → zW → Prop} (hf : Ok f Q) (h : ∀ a w, Q a w → Ok (F a w) P) : Ok (bd f F) P := by
  obtain ⟨a, w, e, q⟩ := hf
  rw [e]; exact h a w q
theorem ok_l {α β : Type} {x : α} {F : α → Option (β × zW)} {P : β → zW → Prop} (h : Ok (F x) P) : Ok (lt x F) P := h
theorem ok_g {β : Type} {b : Bool} {r : Option (β × zW)} {P : β → zW → Prop} (hb : b = true) (h : Ok r P) : Ok (zg b r) P := by subst hb; exact h
theorem ok_i {β : Type} {c : Prop} [Decidable c] {a b : Option (β × zW)} {P : β → zW → Prop} (h1 : c → Ok a P) (h2 : ¬ c → Ok b P) : Ok (if c then a else b) P := by
  by_cases h : c
  · rw [if_pos h]; exact h1 h
  · rw [if_neg h]; exact h2 h
theorem ok_m {α : Type} {r : Option (α × zW)} {P Q : α → zW → Prop} (h : Ok r P) (hPQ : ∀ a w, P a w → Q a w) : Ok r Q := by
  obtain ⟨a, w, e, q⟩ := h
  exact ⟨a, w, e, hPQ a w q⟩
theorem ok_e {α : Type} {r r2 : Option (α × zW)} {P : α → zW → Prop} (e : r = r2) (h : Ok r2 P) : Ok r P := e ▸ h
theorem zFU_s : zFU = 18446744073709551615 + 1 := rfl
-- the lines
def LN (j : Nat) : Nat := 7 + 11 * j
theorem zline_n {j : Nat} (h : j < 4) : zline (nI j) = LN j := by
  unfold zline
  rw [nI_clamp (by omega)]
  rcases (show j = 0 ∨ j = 1 ∨ j = 2 ∨ j = 3 by omega) with rfl | rfl | rfl | rfl <;> rfl
theorem lineAt_s (w : zW) {j : Nat} (h : j < 4) : fX7_lineAt (nI j) w = some (some (LN j), w) := by
  have h1 : ¬ nI j < 0 := nI_pos (by omega)
  have h2 : nI j < nI 4 := nI_lt h (by omega)
  simp only [fX7_lineAt, lt, if_neg h1, if_pos h2, zin_t h (by decide : 4 < 2 ^ 31), zg_t, zline_n h]
theorem lineAt_n (w : zW) {a : Int32} (h : a < 0 ∨ nI 4 ≤ a) : fX7_lineAt a w = some (none, w) := by
  by_cases h1 : a < 0
  · simp only [fX7_lineAt, lt, if_pos h1]
  · have h2 : ¬ a < nI 4 := by
      rcases h with h | h
      · exact absurd h h1
      · exact Int32.not_lt.mpr h
    simp only [fX7_lineAt, lt, if_neg h1, if_neg h2]
theorem in_s (w : zW) {a lo hi : Int64} (h1 : lo ≤ a) (h2 : a ≤ hi) : fX8_in a lo hi w = some (true, w) := by
  unfold fX8_in
  rw [if_neg (Int64.not_lt.mpr h1), if_neg (Int64.not_lt.mpr h2)]
theorem in_n (w : zW) {a lo hi : Int64} (h : a < lo ∨ hi < a) : fX8_in a lo hi w = some (false, w) := by
  unfold fX8_in
  by_cases h1 : a < lo
  · rw [if_pos h1]
  · rw [if_neg h1, if_pos (h.resolve_left h1)]
theorem isLine_s (w : zW) {j : Nat} (h : j < 4) : fX8_isLine (nI j) w = some (true, w) := by
  unfold fX8_isLine
  rw [in_s w (by rw [nI_l (by omega)]; exact (lN_le (a := 0) (by decide) (by omega)).mpr (by omega)) (by rw [nI_l (by omega)]; exact (lN_le (b := 3) (by omega) (by decide)).mpr (by omega)), bd_s]
theorem isLine_n (w : zW) {a : Int32} (h : a < 0 ∨ nI 4 ≤ a) : fX8_isLine a w = some (false, w) := by
  have h2 : a.toInt64 < 0 ∨ (3 : Int64) < a.toInt64 := by
    rcases h with h | h
    · left
      rw [Int64.lt_iff_toInt_lt, Int32.toInt_toInt64]
      exact Int32.lt_iff_toInt_lt.mp h
    · right
      rw [Int64.lt_iff_toInt_lt, Int32.toInt_toInt64]
      have := Int32.le_iff_toInt_le.mp h
      rw [nI_toInt (by decide)] at this
      show (3 : Int) < _
      omega
  unfold fX8_isLine
  rw [in_n w h2, bd_s]
