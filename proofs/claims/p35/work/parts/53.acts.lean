set_option maxRecDepth 16384
-- ACTS told by a text of n signs s
abbrev isP (c : Nat) : Prop := c = 102 ∨ c = 98
abbrev isX (c : Nat) : Prop := c = 70 ∨ c = 66 ∨ c = 114
abbrev isD (s : Nat → Nat) (n p : Nat) : Prop := p < n ∧ 48 ≤ s p ∧ s p ≤ 57
/-- digits from p on, k at most; what they tell -/
def dG (s : Nat → Nat) (n : Nat) : Nat → Nat → Nat
  | 0, _ => 0
  | k + 1, p => if isD s n p then dG s n k (p + 1) + 1 else 0
def iV (s : Nat → Nat) : Nat → Nat → Nat → Nat
  | 0, _, v => v
  | k + 1, p, v => iV s k (p + 1) (10 * v + (s p - 48))
def iB (s : Nat → Nat) (n p : Nat) : Nat := iV s (dG s n 4 (p + 1)) (p + 1) 0
/-- the first sign from p on that can't stand -/
def wA (s : Nat → Nat) (n : Nat) : Nat → Nat → Option Nat
  | 0, _ => none
  | f + 1, p => if n ≤ p then none else if isP (s p) then (if dG s n 4 (p + 1) = 0 then some (p + 1) else wA s n f (p + 1 + dG s n 4 (p + 1))) else if isX (s p) ∨ s p = 32 then wA s n f (p + 1) else some p
/-- the ACTS of the signs from p on, m of them -/
def aL (s : Nat → Nat) (n : Nat) : Nat → Nat → List (Nat × Nat)
  | 0, _ => []
  | m + 1, p => if isP (s p) ∨ isX (s p) then (s p, iB s n p) :: aL s n m (p + 1) else aL s n m (p + 1)
section AC
variable {s : Nat → Nat} {n : Nat}
theorem dG_le : ∀ k p, dG s n k p ≤ k := by
  intro k
  induction k with
  | zero => intro p; exact Nat.le_refl 0
  | succ k ih =>
    intro p
    unfold dG
    split
    · have := ih (p + 1); omega
    · omega
theorem dG_in : ∀ k p x, x < dG s n k p → isD s n (p + x) := by
  intro k
  induction k with
  | zero => intro p x h; exact absurd h (Nat.not_lt_zero x)
  | succ k ih =>
    intro p x h
    unfold dG at h
    by_cases c : isD s n p
    · rw [if_pos c] at h
      cases x with
      | zero => exact c
      | succ x => have := ih (p + 1) x (by omega); rw [show p + (x + 1) = p + 1 + x by omega]; exact this
    · rw [if_neg c] at h; omega
theorem dG_out : ∀ k p, dG s n k p < k → ¬ isD s n (p + dG s n k p) := by
  intro k
  induction k with
  | zero => intro p h; omega
  | succ k ih =>
    intro p h
    by_cases c : isD s n p
    · have e : dG s n (k + 1) p = dG s n k (p + 1) + 1 := if_pos c
      rw [e] at h ⊢
      have := ih (p + 1) (by omega)
      rw [show p + (dG s n k (p + 1) + 1) = p + 1 + dG s n k (p + 1) by omega]; exact this
    · have e : dG s n (k + 1) p = 0 := if_neg c
      rw [e]; exact c
theorem wA_f : ∀ f p, n ≤ p + f → wA s n (f + 1) p = wA s n f p := by
  intro f
  induction f with
  | zero => intro p h; unfold wA; rw [if_pos (by omega)]
  | succ f ih =>
    intro p h
    refine Eq.trans (wA.eq_2 _ _ _ _) (Eq.trans ?_ (wA.eq_2 _ _ _ _).symm)
    rw [ih (p + 1) (by omega), ih (p + 1 + dG s n 4 (p + 1)) (by omega)]
def wW' (s : Nat → Nat) (n p : Nat) : Option Nat := wA s n n p
theorem wA_u {f p : Nat} (hp : p < n) : wW' s n p = if isP (s p) then (if dG s n 4 (p + 1) = 0 then some (p + 1) else wW' s n (p + 1 + dG s n 4 (p + 1))) else if isX (s p) ∨ s p = 32 then wW' s n (p + 1) else some p := by
  unfold wW'
  obtain ⟨f, hf⟩ : ∃ f, n = f + 1 := ⟨n - 1, by omega⟩
  have h1 : wA s n n p = wA s n (f + 1) p := by rw [← hf]
  have h2 : ∀ q, p < q → wA s n n q = wA s n f q := fun q hq => by
    have : wA s n n q = wA s n (f + 1) q := by rw [← hf]
    rw [this, wA_f f q (by omega)]
  rw [h1, wA.eq_2, if_neg (by omega), h2 (p + 1) (by omega), h2 (p + 1 + dG s n 4 (p + 1)) (by omega)]
theorem wA_n {p : Nat} (hp : n ≤ p) : wW' s n p = none := by
  unfold wW'
  cases n with
  | zero => rfl
  | succ n => rw [wA.eq_2, if_pos hp]
theorem aL_d : ∀ d m p, (∀ x, x < d → 48 ≤ s (p + x) ∧ s (p + x) ≤ 57) → d ≤ m → aL s n m p = aL s n (m - d) (p + d) := by
  intro d
  induction d with
  | zero => intro m p _ _; rfl
  | succ d ih =>
    intro m p h hm
    obtain ⟨m, rfl⟩ : ∃ k, m = k + 1 := ⟨m - 1, by omega⟩
    have h0 := h 0 (by omega)
    rw [Nat.add_zero] at h0
    rw [aL.eq_2, if_neg (by unfold isP isX; omega), ih m (p + 1) (fun x hx => by have := h (x + 1) (by omega); rw [show p + 1 + x = p + (x + 1) by omega]; exact this) (by omega), show m + 1 - (d + 1) = m - d by omega, show p + 1 + d = p + (d + 1) by omega]
theorem iV_l : ∀ k p v, (∀ x, x < k → 48 ≤ s (p + x) ∧ s (p + x) ≤ 57) → ∀ e, v < 10 ^ e → iV s k p v < 10 ^ (e + k) := by
  intro k
  induction k with
  | zero => intro p v _ e h; exact h
  | succ k ih =>
    intro p v h e he
    have h0 := h 0 (by omega)
    rw [Nat.add_zero] at h0
    have := ih (p + 1) (10 * v + (s p - 48)) (fun x hx => by have := h (x + 1) (by omega); rw [show p + 1 + x = p + (x + 1) by omega]; exact this) (e + 1) (by rw [Nat.pow_succ]; omega)
    rw [show e + (k + 1) = e + 1 + k by omega]
    exact this
theorem iB_l (p : Nat) : iB s n p < 10000 := by
  have h := iV_l (s := s) (dG s n 4 (p + 1)) (p + 1) 0 (fun x hx => (dG_in 4 (p + 1) x hx).2) 0 (by decide)
  have hd := dG_le (s := s) (n := n) 4 (p + 1)
  unfold iB
  refine Nat.lt_of_lt_of_le h ?_
  rw [Nat.zero_add]
  exact Nat.pow_le_pow_right (n := 10) (by decide) hd
theorem iV_s : ∀ k p v, iV s (k + 1) p v = 10 * iV s k p v + (s (p + k) - 48) := by
  intro k
  induction k with
  | zero => intro p v; rfl
  | succ k ih =>
    intro p v
    show iV s (k + 1) (p + 1) (10 * v + (s p - 48)) = 10 * iV s k (p + 1) (10 * v + (s p - 48)) + _
    rw [ih, show p + 1 + k = p + (k + 1) by omega]
end AC
-- what ACTS do
def xE (c : Nat) : Nat := if c = 102 ∨ c = 70 then 0 else 1
def xA (J : aJ) (j : Nat) (a : Nat × Nat) (S : aS) : Option aS := if a.1 = 114 then some (vS J j S) else if isP a.1 then (if aN S j < 64 then some (mS J (2 * j + xE a.1) a.2 S) else none) else if aN S j = 0 then none else some (tS J j (xE a.1) S)
def xL (J : aJ) (j : Nat) : List (Nat × Nat) → aS → Nat × aS
  | [], S => (0, S)
  | a :: r, S => match xA J j a S with
    | none => (0, S)
    | some S' => ((xL J j r S').1 + 1, (xL J j r S').2)
theorem nI_c {a : Nat} (b : Nat) (ha : a < 256) (hb : b < 256) : nI a = nI b ↔ a = b := nI_eq (by omega) (by omega)
section A7
variable {w0 : zX} {w : zW} {J : aJ} {S : aS} {T : aT} {H : Nat → Int32}
theorem signAt_s (h : uC w0 J S T H w) {p : Nat} (hp : p < 100) : fX5_signAt (nI p) w = some (nI (T.2 p), w) := by
  rw [fX5_signAt, ati_s w (show zlen 65 = 100 from rfl) hp (by decide), bd_s, h.2.2.2.1.2 p hp]
theorem isPut_s (h : uC w0 J S T H w) (hT : tW T) {p : Nat} (hp : p < 100) : fX5_isPut (nI p) w = some (decide (isP (T.2 p)), w) := by
  have h1 := nI_c (a := T.2 p) 102 (hT.2 p) (by decide)
  have h2 := nI_c (a := T.2 p) 98 (hT.2 p) (by decide)
  rw [fX5_isPut, signAt_s h hp, bd_s]
  by_cases c1 : T.2 p = 102
  · rw [if_pos (show nI (T.2 p) = 102 from h1.mpr c1), decide_eq_true (.inl c1)]
  · rw [if_neg (show ¬ nI (T.2 p) = 102 from fun q => c1 (h1.mp q))]
    by_cases c2 : T.2 p = 98
    · rw [if_neg (show ¬ ¬ nI (T.2 p) = 98 from not_not_intro (h2.mpr c2)), decide_eq_true (.inr c2)]
    · rw [if_pos (show ¬ nI (T.2 p) = 98 from fun q => c2 (h2.mp q)), decide_eq_false (fun q => q.elim c1 c2)]
theorem isAct_s (h : uC w0 J S T H w) (hT : tW T) {p : Nat} (hp : p < 100) : fX5_isAct (nI p) w = some (decide (isP (T.2 p) ∨ isX (T.2 p)), w) := by
  have h1 := nI_c (a := T.2 p) 102 (hT.2 p) (by decide)
  have h2 := nI_c (a := T.2 p) 98 (hT.2 p) (by decide)
  have h3 := nI_c (a := T.2 p) 70 (hT.2 p) (by decide)
  have h4 := nI_c (a := T.2 p) 66 (hT.2 p) (by decide)
  have h5 := nI_c (a := T.2 p) 114 (hT.2 p) (by decide)
  rw [fX5_isAct, signAt_s h hp, bd_s]
  by_cases c1 : T.2 p = 102
  · rw [if_pos (show nI (T.2 p) = 102 from h1.mpr c1), decide_eq_true (.inl (.inl c1))]
  · rw [if_neg (show ¬ nI (T.2 p) = 102 from fun q => c1 (h1.mp q))]
    by_cases c2 : T.2 p = 98
    · rw [if_pos (show nI (T.2 p) = 98 from h2.mpr c2), decide_eq_true (.inl (.inr c2))]
    · rw [if_neg (show ¬ nI (T.2 p) = 98 from fun q => c2 (h2.mp q))]
      by_cases c3 : T.2 p = 70
      · rw [if_pos (show nI (T.2 p) = 70 from h3.mpr c3), decide_eq_true (.inr (.inl c3))]
      · rw [if_neg (show ¬ nI (T.2 p) = 70 from fun q => c3 (h3.mp q))]
        by_cases c4 : T.2 p = 66
        · rw [if_pos (show nI (T.2 p) = 66 from h4.mpr c4), decide_eq_true (.inr (.inr (.inl c4)))]
        · rw [if_neg (show ¬ nI (T.2 p) = 66 from fun q => c4 (h4.mp q))]
          by_cases c5 : T.2 p = 114
          · rw [if_neg (show ¬ ¬ nI (T.2 p) = 114 from not_not_intro (h5.mpr c5)), decide_eq_true (.inr (.inr (.inr c5)))]
          · rw [if_pos (show ¬ nI (T.2 p) = 114 from fun q => c5 (h5.mp q)), decide_eq_false (fun q => q.elim (fun z => z.elim c1 c2) (fun z => z.elim c3 (fun y => y.elim c4 c5)))]
theorem isDigit_s (w : zW) {c : Nat} (hc : c < 256) : fX5_isDigit (nI c) w = some (decide (48 ≤ c ∧ c ≤ 57), w) := by
  rw [fX5_isDigit]
  by_cases c1 : c < 48
  · rw [if_pos (show nI c < 48 from nI_lt (b := 48) c1 (by decide)), decide_eq_false (by omega)]
  · rw [if_neg (show ¬ nI c < 48 from fun q => c1 ((nI_ltI (b := 48) (by omega) (by decide)).mp q))]
    by_cases c2 : 57 < c
    · rw [if_pos (show (57 : Int32) < nI c from nI_lt (a := 57) c2 (by omega)), decide_eq_false (by omega)]
    · rw [if_neg (show ¬ (57 : Int32) < nI c from fun q => c2 ((nI_ltI (a := 57) (by decide) (by omega)).mp q)), decide_eq_true (by omega)]
theorem digits_L (hT : tW T) (h : uC w0 J S T H w) {n q : Nat} (hn : n ≤ 100) (hq : q ≤ 100) : ∀ m k N, k + m = 4 → m < N → fX5_digitsFrom_L2 (nI q) (nI n) N (nI k) w = some (nI (k + dG T.2 n m (q + k)), w) := by
  intro m
  induction m with
  | zero =>
    intro k N hk hN
    obtain ⟨N, rfl⟩ : ∃ x, N = x + 1 := ⟨N - 1, by omega⟩
    rw [fX5_digitsFrom_L2.eq_2, if_pos (show (4 : Int32) ≤ nI k by rw [show k = 4 by omega]; decide)]; rfl
  | succ m ih =>
    intro k N hk hN
    obtain ⟨N, rfl⟩ : ∃ x, N = x + 1 := ⟨N - 1, by omega⟩
    rw [fX5_digitsFrom_L2.eq_2, if_neg (show ¬ (4 : Int32) ≤ nI k from Int32.not_le.mpr (nI_lt (b := 4) (by omega) (by decide))), nI_add]
    by_cases c : q + k < n
    · rw [if_neg (Int32.not_le.mpr (nI_lt c (by omega))), signAt_s h (by omega), bd_s, isDigit_s w (hT.2 _), bd_s]
      by_cases d : 48 ≤ T.2 (q + k) ∧ T.2 (q + k) ≤ 57
      · rw [decide_eq_true d, tt, nI_1, ih (k + 1) N (by omega) (by omega)]
        have e : dG T.2 n (m + 1) (q + k) = dG T.2 n m (q + k + 1) + 1 := if_pos ⟨c, d⟩
        rw [e, show k + 1 + dG T.2 n m (q + (k + 1)) = k + (dG T.2 n m (q + k + 1) + 1) by rw [show q + (k + 1) = q + k + 1 by omega]; omega]
      · rw [decide_eq_false d, ff]
        have e : dG T.2 n (m + 1) (q + k) = 0 := if_neg (fun z => d z.2)
        rw [e]; rfl
    · rw [if_pos (show nI n ≤ nI (q + k) from nI_le (by omega) (by omega))]
      have e : dG T.2 n (m + 1) (q + k) = 0 := if_neg (fun z => c z.1)
      rw [e]; rfl
theorem digits_s (hT : tW T) (h : uC w0 J S T H w) {n q : Nat} (hn : n ≤ 100) (hq : q ≤ 100) : fX5_digitsFrom (nI q) (nI n) w = some (nI (dG T.2 n 4 q), w) := by
  rw [fX5_digitsFrom]
  have := digits_L hT h hn hq 4 0 zFU (by omega) (by rw [show zFU = 18446744073709551616 from rfl]; omega)
  rw [Nat.zero_add, Nat.add_zero] at this
  exact this
theorem wrong_L (hT : tW T) (h : uC w0 J S T H w) : ∀ m p N, T.1 ≤ p + m → p ≤ T.1 → m < N → fX5_firstWrongInActs_L2 N (nI p) w = some (match wW' T.2 T.1 p with | none => (-1 : Int32) | some q => nI q, w) := by
  have hT1 := hT.1
  intro m
  induction m using Nat.strongRecOn with
  | _ m ih =>
    intro p N hm hp hN
    obtain ⟨N, rfl⟩ : ∃ x, N = x + 1 := ⟨N - 1, by omega⟩
    rw [fX5_firstWrongInActs_L2.eq_2, h.2.2.2.1.1]
    by_cases c : T.1 ≤ p
    · rw [if_pos (nI_le c (by omega)), wA_n c]
    · rw [if_neg (Int32.not_le.mpr (nI_lt (by omega) (by omega))), isPut_s h hT (by omega), bd_s, lt_e, isAct_s h hT (by omega), bd_s, lt_e, wA_u (f := 0) (by omega)]
      by_cases c1 : isP (T.2 p)
      · rw [decide_eq_true c1, decide_eq_true (.inl c1), tt, if_pos c1]
        dsimp only
        rw [lt_e, if_neg (show ¬ zb true = 0 by decide), nI_1, h.2.2.2.1.1, digits_s hT h (by omega) (by omega), bd_s]
        dsimp only
        rw [lt_e, if_neg (show ¬ zb true = 0 by decide)]
        have hd := dG_le (s := T.2) (n := T.1) 4 (p + 1)
        by_cases c2 : dG T.2 T.1 4 (p + 1) = 0
        · rw [c2, if_neg (show ¬ ¬ nI 0 = 0 by decide), if_pos rfl]
        · rw [if_pos (nI_ne0 (by omega) (by omega)), if_neg c2]
          dsimp only
          rw [lt_e, nI_add]
          have hlast := dG_in (s := T.2) (n := T.1) 4 (p + 1) (dG T.2 T.1 4 (p + 1) - 1) (by omega)
          refine ih (m - 1 - dG T.2 T.1 4 (p + 1)) (by omega) _ N (by omega) ?_ (by omega)
          have := hlast.1
          omega
      · rw [decide_eq_false c1, if_neg c1]
        by_cases c2 : isX (T.2 p)
        · rw [decide_eq_true (.inr c2), tt, if_pos (.inl c2)]
          dsimp only
          rw [lt_e, if_pos (show zb false = 0 from rfl)]
          dsimp only
          rw [lt_e, if_pos (show zb false = 0 from rfl)]
          dsimp only
          rw [lt_e, Int32.add_zero, nI_1]
          exact ih (m - 1) (by omega) (p + 1) N (by omega) (by omega) (by omega)
        · rw [decide_eq_false (fun q => q.elim c1 c2), ff, signAt_s h (by omega), bd_s]
          by_cases c3 : T.2 p = 32
          · rw [if_pos (show nI (T.2 p) = 32 by rw [c3]; rfl), if_pos (.inr c3)]
            dsimp only
            rw [lt_e, if_pos (show zb false = 0 from rfl)]
            dsimp only
            rw [lt_e, if_pos (show zb false = 0 from rfl)]
            dsimp only
            rw [lt_e, Int32.add_zero, nI_1]
            exact ih (m - 1) (by omega) (p + 1) N (by omega) (by omega) (by omega)
          · rw [if_neg (show ¬ nI (T.2 p) = 32 from fun q => c3 ((nI_c 32 (hT.2 p) (by decide)).mp q)), if_neg (fun q => q.elim c2 c3)]
theorem wrong_s (hT : tW T) (h : uC w0 J S T H w) : fX5_firstWrongInActs w = some (match wW' T.2 T.1 0 with | none => (-1 : Int32) | some q => nI q, w) := by
  have hT1 := hT.1
  rw [fX5_firstWrongInActs]
  exact wrong_L hT h T.1 0 zFU (by omega) (by omega) (by rw [show zFU = 18446744073709551616 from rfl]; omega)
theorem behind_L (hT : tW T) (h : uC w0 J S T H w) {p d : Nat} (hp : p + d < 100) (hdg : ∀ x, x < d → 48 ≤ T.2 (p + 1 + x) ∧ T.2 (p + 1 + x) ≤ 57) (hd4 : d ≤ 4) : ∀ m i N, i + m = d → m < N → fX5_itemBehind_L15 (nI p) (nI d) N (nI (iV T.2 i (p + 1) 0)) (nI (i + 1)) w = some (nI (iV T.2 d (p + 1) 0), w) := by
  intro m
  induction m with
  | zero =>
    intro i N hi hN
    obtain ⟨N, rfl⟩ : ∃ x, N = x + 1 := ⟨N - 1, by omega⟩
    rw [fX5_itemBehind_L15.eq_2, if_pos (nI_lt (by omega) (by omega)), show i = d by omega]
  | succ m ih =>
    intro i N hi hN
    obtain ⟨N, rfl⟩ : ∃ x, N = x + 1 := ⟨N - 1, by omega⟩
    have hx := hdg i (by omega)
    have hb := iV_l (s := T.2) i (p + 1) 0 (fun x hx => hdg x (by omega)) 0 (by decide)
    have hb2 : iV T.2 i (p + 1) 0 < 10 ^ 4 := Nat.lt_of_lt_of_le hb (by rw [Nat.zero_add]; exact Nat.pow_le_pow_right (by decide) (by omega))
    rw [fX5_itemBehind_L15.eq_2, if_neg (fun q => by have := (nI_ltI (by omega) (by omega)).mp q; omega), nI_add, signAt_s h (by omega), bd_s, lt_e, show (10 : Int32) = nI 10 from rfl, pk_mul, nI_add, show (48 : Int32) = nI 48 from rfl, show p + (i + 1) = p + 1 + i by omega, pk_sub (by omega), nI_1]
    have := ih (i + 1) N (by omega) (by omega)
    rw [iV_s, show 10 * iV T.2 i (p + 1) 0 + (T.2 (p + 1 + i) - 48) = iV T.2 i (p + 1) 0 * 10 + T.2 (p + 1 + i) - 48 by omega] at this
    exact this
theorem behind_s (hT : tW T) (h : uC w0 J S T H w) {n p : Nat} (hn : n ≤ 100) (hp : p < n) : fX5_itemBehind (nI p) (nI n) w = some (nI (iB T.2 n p), w) := by
  have hd := dG_le (s := T.2) (n := n) 4 (p + 1)
  rw [fX5_itemBehind, nI_1, digits_s hT h hn (by omega), bd_s]
  refine behind_L hT h ?_ (fun x hx => (dG_in 4 (p + 1) x hx).2) hd (dG T.2 n 4 (p + 1)) 0 zFU (by omega) (by rw [show zFU = 18446744073709551616 from rfl]; omega)
  by_cases c : dG T.2 n 4 (p + 1) = 0
  · omega
  · have := (dG_in (s := T.2) (n := n) 4 (p + 1) (dG T.2 n 4 (p + 1) - 1) (by omega)).1
    omega
end A7
