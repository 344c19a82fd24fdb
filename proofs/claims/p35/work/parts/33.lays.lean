set_option maxRecDepth 16384
theorem lt_e {α β : Type} (x : α) (f : α → β) : lt x f = f x := rfl
-- arrangements, by their numbers
def sel : Nat → Nat → Nat → Nat → Nat
  | 0, _, _, _ => 4
  | f + 1, m, q, p => if m / 2 ^ p % 2 = 1 then sel f m q (p + 1) else if q = 0 then p else sel f m (q - 1) (p + 1)
theorem and1 {n : Nat} (h : n < 2 ^ 31) : nI n &&& 1 = nI (n % 2) := pk_andN (m := 1) (by omega) 1 rfl
theorem bit4 {m p : Nat} (hm : m < 16) (hp : p < 4) : (nI m >>> (nI p &&& 31)) &&& 1 = nI (m / 2 ^ p % 2) := by
  rw [pk_shrN (by omega) _ p (shk p (by omega)), and1 (Nat.lt_of_le_of_lt (Nat.div_le_self _ _) (by omega))]
theorem flag_0 (w : zW) : fX8_flag 0 w = some (0, w) := rfl
theorem flag_1 (w : zW) : fX8_flag 1 w = some (1, w) := rfl
theorem L50_s {r1 : Nat} {x3 x4 x5 : Int32} {j : Int32 → Int32 → Int32 → Int32 → zW → Option (Unit × zW)} {m : Nat} (hm : m < 16) {w : zW} : ∀ f q p n, p + f = 4 → q < 5 → sel f m q p < 4 → f ≤ n → fX8_lays_L50 r1 (nI m) x3 x4 x5 j n (nI q) (nI p) w = zg (zin x5 (zlen r1)) (j (nI m ||| ((1 : Int32) <<< (nI (sel f m q p) &&& 31))) x3 x4 (x5 + 1) (zsI w r1 x5.toNatClampNeg (nI (sel f m q p)))) := by
  intro f
  induction f with
  | zero => intro q p n h1 h2 h3 h4; exact absurd h3 (Nat.lt_irrefl 4)
  | succ f ih =>
    intro q p n h1 h2 h3 h4
    obtain ⟨n, rfl⟩ : ∃ k, n = k + 1 := ⟨n - 1, by omega⟩
    rw [fX8_lays_L50.eq_2, lt_e, bit4 hm (show p < 4 by omega)]
    simp only [sel] at h3 ⊢
    by_cases c : m / 2 ^ p % 2 = 1
    · rw [if_pos c] at h3 ⊢
      rw [c, if_pos (show nI 1 = 1 from rfl), lt_e, if_pos (show ¬ nI 1 = 0 by decide), flag_0, bd_s, lt_e, nI_1, Int32.sub_zero]
      exact ih q (p + 1) n (by omega) h2 h3 (by omega)
    · rw [if_neg c] at h3 ⊢
      rw [show m / 2 ^ p % 2 = 0 by omega, if_neg (show ¬ nI 0 = 1 by decide)]
      by_cases c0 : q = 0
      · subst c0
        rw [if_pos rfl, if_pos (show nI 0 ≤ 0 by decide)]
        rfl
      · rw [if_neg c0] at h3 ⊢
        rw [if_neg (show ¬ nI q ≤ 0 from nI_nle (by omega) (by omega)), lt_e, if_neg (show ¬ ¬ nI 0 = 0 from not_not_intro rfl), flag_1, bd_s, lt_e, nI_1, show (1 : Int32) = nI 1 from rfl, pk_sub (by omega)]
        exact ih (q - 1) (p + 1) n (by omega) (by omega) h3 (by omega)
theorem or4 : ∀ m, m < 16 → ∀ p, p < 4 → nI m ||| ((1 : Int32) <<< (nI p &&& 31)) = nI (m ||| 2 ^ p) := by decide +kernel
/-- what has the arrangement number n at its four places -/
def a0F (n : Nat) : Nat := sel 4 0 (n / 6) 0
def a1F (n : Nat) : Nat := sel 4 (2 ^ a0F n) (n % 6 / 2) 0
def a2F (n : Nat) : Nat := sel 4 (2 ^ a0F n ||| 2 ^ a1F n) (n % 2) 0
def a3F (n : Nat) : Nat := sel 4 (2 ^ a0F n ||| 2 ^ a1F n ||| 2 ^ a2F n) 0 0
theorem aF_lt : ∀ n, n < 24 → a0F n < 4 ∧ a1F n < 4 ∧ a2F n < 4 ∧ a3F n < 4 ∧ 2 ^ a0F n < 16 ∧ (2 ^ a0F n ||| 2 ^ a1F n) < 16 ∧ (2 ^ a0F n ||| 2 ^ a1F n ||| 2 ^ a2F n) < 16 := by decide +kernel
theorem zlen_78 : zlen 78 = 4 := rfl
theorem zlen_79 : zlen 79 = 4 := rfl
theorem L11_s {r1 : Nat} (hr : zlen r1 = 4) {m t d k q e d2 : Nat} (hm : m < 16) (hk : k < 4) (hd : 0 < d) (hd2 : d < 2 ^ 31) (ht : t < 2 ^ 31) (hq : t / d = q) (he : t % d = e) (hs : sel 4 m q 0 < 4) (hq5 : q < 5) (hn : (2 ≤ k ∧ d2 = 1) ∨ (k < 2 ∧ d2 = d / (3 - k))) {n : Nat} {w : zW} : fX8_lays_L11 r1 (n + 1) (nI m) (nI t) (nI d) (nI k) w = fX8_lays_L11 r1 n (nI (m ||| 2 ^ sel 4 m q 0)) (nI e) (nI d2) (nI (k + 1)) (zsI w r1 k (nI (sel 4 m q 0))) := by
  have hz : ¬ nI d = 0 := nI_ne0 hd hd2
  rw [fX8_lays_L11.eq_2, if_neg (show ¬ (4 : Int32) ≤ nI k from Int32.not_le.mpr (nI_lt (b := 4) hk (by decide))), if_neg hz, lt_e, if_neg hz, lt_e, lt_e, pk_rem ht hd hd2, pk_div ht hd hd2, hq, he]
  have main : ∀ x4 : Int32, fX8_lays_L50 r1 (nI m) (nI e) x4 (nI k) (fX8_lays_L11 r1 n) zFU (nI q) 0 w = fX8_lays_L11 r1 n (nI (m ||| 2 ^ sel 4 m q 0)) (nI e) x4 (nI (k + 1)) (zsI w r1 k (nI (sel 4 m q 0))) := by
    intro x4
    rw [show (0 : Int32) = nI 0 from rfl, L50_s hm 4 q 0 zFU (by omega) hq5 hs (by rw [show zFU = 18446744073709551616 from rfl]; omega), hr, zin_t hk (by decide), zg_t, or4 m hm _ hs, nI_1, nI_clamp (by omega)]
  rcases hn with ⟨h2, rfl⟩ | ⟨h2, rfl⟩
  · rw [if_pos (show (2 : Int32) ≤ nI k from (nI_leI (a := 2) (by decide) (by omega)).mpr h2)]
    exact main 1
  · rw [if_neg (show ¬ (2 : Int32) ≤ nI k from Int32.not_le.mpr (nI_lt (b := 2) h2 (by decide))), show (3 : Int32) = nI 3 from rfl, pk_sub (by omega), if_neg (nI_ne0 (by omega) (by omega)), pk_div (by omega) (by omega) (by omega)]
    exact main _
theorem lays_s {r1 n : Nat} (hr : zlen r1 = 4) (hn : n < 24) (w : zW) : fX8_lays (nI n) r1 w = some ((), zsI (zsI (zsI (zsI w r1 0 (nI (a0F n))) r1 1 (nI (a1F n))) r1 2 (nI (a2F n))) r1 3 (nI (a3F n))) := by
  obtain ⟨h0, h1, h2, h3, m1, m2, m3⟩ := aF_lt n hn
  have e6 : (0 : Nat) ||| 2 ^ a0F n = 2 ^ a0F n := Nat.zero_or _
  unfold fX8_lays
  rw [show zFU = 18446744073709551611 + 1 + 1 + 1 + 1 + 1 from rfl, show (0 : Int32) = nI 0 from rfl, show (6 : Int32) = nI 6 from rfl]
  rw [L11_s hr (m := 0) (t := n) (d := 6) (k := 0) (q := n / 6) (e := n % 6) (d2 := 2) (by decide) (by decide) (by decide) (by decide) (by omega) rfl rfl h0 (by omega) (.inr ⟨by decide, rfl⟩)]
  rw [show sel 4 0 (n / 6) 0 = a0F n from rfl, e6, L11_s hr (m := 2 ^ a0F n) (t := n % 6) (d := 2) (k := 1) (q := n % 6 / 2) (e := n % 2) (d2 := 1) m1 (by decide) (by decide) (by decide) (by omega) rfl (by omega) h1 (by omega) (.inr ⟨by decide, rfl⟩)]
  rw [show sel 4 (2 ^ a0F n) (n % 6 / 2) 0 = a1F n from rfl, L11_s hr (m := 2 ^ a0F n ||| 2 ^ a1F n) (t := n % 2) (d := 1) (k := 2) (q := n % 2) (e := 0) (d2 := 1) m2 (by decide) (by decide) (by decide) (by omega) (Nat.div_one _) (Nat.mod_one _) h2 (by omega) (.inl ⟨by decide, rfl⟩)]
  rw [show sel 4 (2 ^ a0F n ||| 2 ^ a1F n) (n % 2) 0 = a2F n from rfl, L11_s hr (m := 2 ^ a0F n ||| 2 ^ a1F n ||| 2 ^ a2F n) (t := 0) (d := 1) (k := 3) (q := 0) (e := 0) (d2 := 1) m3 (by decide) (by decide) (by decide) (by omega) rfl rfl h3 (by omega) (.inl ⟨by decide, rfl⟩)]
  rw [fX8_lays_L11.eq_2, if_pos (by decide)]
  rfl
def cl (v : Nat → Nat) (k : Nat) : Nat → Nat → Nat
  | 0, _ => 0
  | f + 1, p => (if v p < v k then 1 else 0) + cl v k f (p + 1)
theorem cl_le (v : Nat → Nat) (k : Nat) : ∀ f p, cl v k f p ≤ f := by
  intro f
  induction f with
  | zero => intro p; exact Nat.le_refl _
  | succ f ih => intro p; have := ih (p + 1); simp only [cl]; split <;> omega
theorem flagC {c : Prop} [Decidable c] (w : zW) : fX8_flag (if c then (0 : Int32) else 1) w = some (nI (if c then 0 else 1), w) := by
  by_cases h : c
  · rw [if_pos h, if_pos h]; rfl
  · rw [if_neg h, if_neg h]; rfl
theorem L20_s {r0 : Nat} (hr : zlen r0 = 4) {x1 x2 : Int32} {k : Nat} (hk : k < 4) {j : Int32 → Int32 → Int32 → zW → Option (Int32 × zW)} {w : zW} {v : Nat → Nat} (hv : ∀ i, i < 4 → zI w r0 i = nI (v i) ∧ v i < 4) : ∀ f q p n, p + f = 4 → f < n → fX8_numberOf_L20 r0 x1 x2 (nI k) j n (nI q) (nI p) w = fX8_numberOf_L20 r0 x1 x2 (nI k) j (n - f) (nI (q + cl v k f p)) (nI 4) w := by
  intro f
  induction f with
  | zero => intro q p n h1 h3; rw [show p = 4 by omega]; rfl
  | succ f ih =>
    intro q p n h1 h3
    obtain ⟨n, rfl⟩ : ∃ k, n = k + 1 := ⟨n - 1, by omega⟩
    have hp : p < 4 := by omega
    rw [fX8_numberOf_L20.eq_2, if_neg (show ¬ (4 : Int32) ≤ nI p from Int32.not_le.mpr (nI_lt (b := 4) hp (by decide))), hr, zin_t hp (by decide), zg_t, zin_t hk (by decide), zg_t, nI_clamp (by omega), nI_clamp (by omega), (hv k hk).1, (hv p hp).1, lt_e, flagC, bd_s, lt_e, nI_add, nI_1]
    have := (hv k hk).2
    have := (hv p hp).2
    have e : (if nI (v k) ≤ nI (v p) then (0 : Nat) else 1) = if v p < v k then 1 else 0 := by
      by_cases c : v p < v k
      · rw [if_pos c, if_neg (fun q => Nat.not_le.mpr c ((nI_leI (by omega) (by omega)).mp q))]
      · rw [if_neg c, if_pos ((nI_leI (by omega) (by omega)).mpr (by omega))]
    rw [e]
    rw [ih _ _ n (by omega) (by omega), show n + 1 - (f + 1) = n - f by omega]
    simp only [cl]
    rw [Nat.add_assoc]
theorem L7_s {r0 : Nat} (hr : zlen r0 = 4) {v : Nat → Nat} {w : zW} (hv : ∀ i, i < 4 → zI w r0 i = nI (v i) ∧ v i < 4) {x1 d k d2 : Nat} (hk : k < 4) (hd : d < 2 ^ 31) (hn : (2 ≤ k ∧ d2 = 1) ∨ (k < 2 ∧ d2 = d / (3 - k))) {n : Nat} : fX8_numberOf_L7 r0 (n + 1) (nI x1) (nI d) (nI k) w = fX8_numberOf_L7 r0 n (nI (x1 + cl v k (3 - k) (k + 1) * d)) (nI d2) (nI (k + 1)) w := by
  rw [fX8_numberOf_L7.eq_2, if_neg (show ¬ (4 : Int32) ≤ nI k from Int32.not_le.mpr (nI_lt (b := 4) hk (by decide))), lt_e, nI_1, show (0 : Int32) = nI 0 from rfl]
  have hFU : zFU = 18446744073709551616 := rfl
  rw [L20_s hr hk hv (3 - k) 0 (k + 1) zFU (by omega) (by omega), show zFU - (3 - k) = (zFU - (3 - k) - 1) + 1 by omega, fX8_numberOf_L20.eq_2, if_pos (show (4 : Int32) ≤ nI 4 by decide), lt_e, lt_e, Nat.zero_add, pk_mul, nI_add]
  rcases hn with ⟨h2, rfl⟩ | ⟨h2, rfl⟩
  · rw [if_pos (show (2 : Int32) ≤ nI k from (nI_leI (a := 2) (by decide) (by omega)).mpr h2), nI_1]
    rfl
  · rw [if_neg (show ¬ (2 : Int32) ≤ nI k from Int32.not_le.mpr (nI_lt (b := 2) h2 (by decide))), show (3 : Int32) = nI 3 from rfl, pk_sub (by omega), if_neg (nI_ne0 (by omega) (by omega)), pk_div (by omega) (by omega) (by omega), nI_1]
/-- the number of an arrangement -/
def numF (v : Nat → Nat) : Nat := cl v 0 3 1 * 6 + cl v 1 2 2 * 2 + cl v 2 1 3
theorem numF_lt (v : Nat → Nat) : numF v < 24 := by
  have h1 := cl_le v 0 3 1
  have h2 := cl_le v 1 2 2
  have h3 := cl_le v 2 1 3
  unfold numF
  omega
theorem num_s {r0 : Nat} (hr : zlen r0 = 4) {v : Nat → Nat} {w : zW} (hv : ∀ i, i < 4 → zI w r0 i = nI (v i) ∧ v i < 4) : fX8_numberOf r0 w = some (nI (numF v), w) := by
  unfold fX8_numberOf
  rw [show zFU = 18446744073709551611 + 1 + 1 + 1 + 1 + 1 from rfl, show (0 : Int32) = nI 0 from rfl, show (6 : Int32) = nI 6 from rfl]
  rw [L7_s hr hv (k := 0) (d := 6) (d2 := 2) (by decide) (by decide) (.inr ⟨by decide, rfl⟩), L7_s hr hv (k := 1) (d := 2) (d2 := 1) (by decide) (by decide) (.inr ⟨by decide, rfl⟩), L7_s hr hv (k := 2) (d := 1) (d2 := 1) (by decide) (by decide) (.inl ⟨by decide, rfl⟩), L7_s hr hv (k := 3) (d := 1) (d2 := 1) (by decide) (by decide) (.inl ⟨by decide, rfl⟩), fX8_numberOf_L7.eq_2, if_pos (by decide)]
  unfold numF
  simp only [cl, Nat.zero_add, Nat.mul_one, Nat.add_zero, show 3 - 3 = 0 from rfl, show 3 - 0 = 3 from rfl, show 3 - 1 = 2 from rfl, show 3 - 2 = 1 from rfl]
theorem L22_s {k : Nat} (hk : k < 4) {j : Int32 → Int32 → zW → Option (Int32 × zW)} {w : zW} {v : Nat → Nat} (hv : ∀ i, i < 4 → zI w 78 i = nI (v i) ∧ v i < 4) : ∀ f q p n, p + f = 4 → f < n → fX8_leaps_L22 (nI k) j n (nI q) (nI p) w = j (nI (q + cl v k f p)) (nI (k + 1)) w := by
  intro f
  induction f with
  | zero =>
    intro q p n h1 h3
    obtain ⟨n, rfl⟩ : ∃ k, n = k + 1 := ⟨n - 1, by omega⟩
    rw [show p = 4 by omega, fX8_leaps_L22.eq_2, if_pos (show (4 : Int32) ≤ nI 4 by decide), nI_1]
    rfl
  | succ f ih =>
    intro q p n h1 h3
    obtain ⟨n, rfl⟩ : ∃ k, n = k + 1 := ⟨n - 1, by omega⟩
    have hp : p < 4 := by omega
    rw [fX8_leaps_L22.eq_2, if_neg (show ¬ (4 : Int32) ≤ nI p from Int32.not_le.mpr (nI_lt (b := 4) hp (by decide))), zin_t hk (by decide), zg_t, zin_t hp (by decide), zg_t, nI_clamp (by omega), nI_clamp (by omega), (hv k hk).1, (hv p hp).1, lt_e, flagC, bd_s, lt_e, nI_add, nI_1]
    have := (hv k hk).2
    have := (hv p hp).2
    have e : (if nI (v k) ≤ nI (v p) then (0 : Nat) else 1) = if v p < v k then 1 else 0 := by
      by_cases c : v p < v k
      · rw [if_pos c, if_neg (fun q => Nat.not_le.mpr c ((nI_leI (by omega) (by omega)).mp q))]
      · rw [if_neg c, if_pos ((nI_leI (by omega) (by omega)).mpr (by omega))]
    rw [e, ih _ _ n (by omega) (by omega)]
    simp only [cl]
    rw [Nat.add_assoc]
def vF (n i : Nat) : Nat := if i = 0 then a0F n else if i = 1 then a1F n else if i = 2 then a2F n else a3F n
theorem vF_lt {n : Nat} (hn : n < 24) (i : Nat) : vF n i < 4 := by
  obtain ⟨h0, h1, h2, h3, -⟩ := aF_lt n hn
  unfold vF
  split
  · exact h0
  · split
    · exact h1
    · split
      · exact h2
      · exact h3
/-- the world with the arrangement number n laid into the row r -/
def lay (w : zW) (r n : Nat) : zW := zsI (zsI (zsI (zsI w r 0 (nI (a0F n))) r 1 (nI (a1F n))) r 2 (nI (a2F n))) r 3 (nI (a3F n))
theorem lay_v {w : zW} {r n i : Nat} (hi : i < 4) : zI (lay w r n) r i = nI (vF n i) := by
  unfold lay vF
  rcases (show i = 0 ∨ i = 1 ∨ i = 2 ∨ i = 3 by omega) with rfl | rfl | rfl | rfl <;> simp [zI_zsI]
theorem lay_o {w : zW} {r n a b : Nat} (h : a ≠ r) : zI (lay w r n) a b = zI w a b := by
  unfold lay
  simp [zI_zsI, h]
theorem lay_q {w0 w : zW} {r n : Nat} (hr : r = 78 ∨ r = 79) (hQ : Qc w0 w) : Qc w0 (lay w r n) := by
  rcases hr with rfl | rfl <;> exact q_I (q_I (q_I (q_I hQ rfl) rfl) rfl) rfl
theorem lay_L {w : zW} {r n : Nat} : (lay w r n).2 = w.2 := rfl
def lpF (n : Nat) : Nat := cl (vF n) 0 3 1 + cl (vF n) 1 2 2 + cl (vF n) 2 1 3
theorem leaps_s {n : Nat} (hn : n < 24) (w : zW) : fX8_leaps (nI n) w = some (nI (lpF n), lay w 78 n) := by
  have hFU : zFU = 18446744073709551616 := rfl
  have hv : ∀ i, i < 4 → zI (lay w 78 n) 78 i = nI (vF n i) ∧ vF n i < 4 := fun i hi => ⟨lay_v hi, vF_lt hn i⟩
  unfold fX8_leaps
  rw [lays_s zlen_78 hn w, bd_s]
  show fX8_leaps_L12 zFU 0 0 (lay w 78 n) = _
  have st : ∀ m q k, k < 4 → fX8_leaps_L12 (m + 1) (nI q) (nI k) (lay w 78 n) = fX8_leaps_L12 m (nI (q + cl (vF n) k (3 - k) (k + 1))) (nI (k + 1)) (lay w 78 n) := by
    intro m q k hk
    rw [fX8_leaps_L12.eq_2, if_neg (show ¬ (4 : Int32) ≤ nI k from Int32.not_le.mpr (nI_lt (b := 4) hk (by decide))), lt_e, nI_1, L22_s hk hv (3 - k) q (k + 1) zFU (by omega) (by omega)]
  rw [show zFU = 18446744073709551611 + 1 + 1 + 1 + 1 + 1 from rfl, show (0 : Int32) = nI 0 from rfl, st _ _ 0 (by decide), st _ _ 1 (by decide), st _ _ 2 (by decide), st _ _ 3 (by decide), fX8_leaps_L12.eq_2, if_pos (by decide)]
  unfold lpF
  simp only [cl, Nat.zero_add, Nat.add_zero, show 3 - 3 = 0 from rfl, show 3 - 0 = 3 from rfl, show 3 - 1 = 2 from rfl, show 3 - 2 = 1 from rfl]
/-- the number of the arrangement that has at each place what the second has where the first says -/
def arF (a b : Nat) : Nat := numF (fun i => vF b (vF a i))
theorem arr_s {a b : Nat} (ha : a < 24) (hb : b < 24) (w : zW) : ∃ w', fX8_arrangedBy (nI a) (nI b) w = some (nI (arF a b), w') ∧ w'.2 = w.2 ∧ (∀ k j, k ≠ 78 → k ≠ 79 → k ≠ 80 → zI w' k j = zI w k j) := by
  let W := lay (lay w 78 a) 79 b
  have hW : W = lay (lay w 78 a) 79 b := rfl
  have h78 : ∀ i, i < 4 → zI W 78 i = nI (vF a i) := fun i hi => by rw [hW, lay_o (by decide), lay_v hi]
  have h79 : ∀ i, i < 4 → zI W 79 i = nI (vF b i) := fun i hi => by rw [hW, lay_v hi]
  let U := zsI (zsI (zsI (zsI W 80 0 (nI (vF b (vF a 0)))) 80 1 (nI (vF b (vF a 1)))) 80 2 (nI (vF b (vF a 2)))) 80 3 (nI (vF b (vF a 3)))
  have hU : U = zsI (zsI (zsI (zsI W 80 0 (nI (vF b (vF a 0)))) 80 1 (nI (vF b (vF a 1)))) 80 2 (nI (vF b (vF a 2)))) 80 3 (nI (vF b (vF a 3))) := rfl
  have st : ∀ m k w, k < 4 → zI w 78 k = nI (vF a k) → zI w 79 (vF a k) = nI (vF b (vF a k)) → fX8_arrangedBy_L18 (m + 1) (nI k) w = fX8_arrangedBy_L18 m (nI (k + 1)) (zsI w 80 k (nI (vF b (vF a k)))) := by
    intro m k w hk e1 e2
    have := vF_lt ha k
    rw [fX8_arrangedBy_L18.eq_2, if_neg (show ¬ (4 : Int32) ≤ nI k from Int32.not_le.mpr (nI_lt (b := 4) hk (by decide))), zin_t hk (by decide), zg_t, nI_clamp (by omega), e1, zin_t this (by decide), zg_t, zg_t, nI_clamp (by omega), e2, lt_e, nI_1]
  have hv : ∀ i, i < 4 → zI U 80 i = nI (vF b (vF a i)) ∧ vF b (vF a i) < 4 := by
    intro i hi
    refine ⟨?_, vF_lt hb _⟩
    rw [hU]
    rcases (show i = 0 ∨ i = 1 ∨ i = 2 ∨ i = 3 by omega) with rfl | rfl | rfl | rfl <;> simp [zI_zsI]
  refine ⟨U, ?_, rfl, fun k j n1 n2 n3 => ?_⟩
  · unfold fX8_arrangedBy
    rw [lays_s zlen_78 ha w, bd_s, lays_s zlen_79 hb, bd_s]
    show fX8_arrangedBy_L18 zFU 0 W = _
    rw [show zFU = 18446744073709551611 + 1 + 1 + 1 + 1 + 1 from rfl, show (0 : Int32) = nI 0 from rfl]
    have r78 : ∀ (w : zW) k j (x : Int32), zI (zsI w 80 k x) 78 j = zI w 78 j := fun w k j x => by rw [zI_zsI, if_neg (by omega)]
    have r79 : ∀ (w : zW) k j (x : Int32), zI (zsI w 80 k x) 79 j = zI w 79 j := fun w k j x => by rw [zI_zsI, if_neg (by omega)]
    rw [st _ 0 _ (by decide) (h78 0 (by decide)) (h79 _ (vF_lt ha 0)), st _ 1 _ (by decide) (by rw [r78, h78 1 (by decide)]) (by rw [r79, h79 _ (vF_lt ha 1)]), st _ 2 _ (by decide) (by rw [r78, r78, h78 2 (by decide)]) (by rw [r79, r79, h79 _ (vF_lt ha 2)]), st _ 3 _ (by decide) (by rw [r78, r78, r78, h78 3 (by decide)]) (by rw [r79, r79, r79, h79 _ (vF_lt ha 3)]), fX8_arrangedBy_L18.eq_2, if_pos (by decide)]
    rw [num_s rfl hv, bd_s]
    rfl
  · rw [hU]
    simp only [zI_zsI, show ¬ (k = 80 ∧ j = 0) from fun q => n3 q.1, show ¬ (k = 80 ∧ j = 1) from fun q => n3 q.1, show ¬ (k = 80 ∧ j = 2) from fun q => n3 q.1, show ¬ (k = 80 ∧ j = 3) from fun q => n3 q.1, if_false]
    rw [hW, lay_o n2, lay_o n1]
