set_option maxRecDepth 16384
theorem og7 {w0 : zW} {S : Nat → Int64 × Int64} {v : Int32} (hS : Sz w0) (hf : ∀ w m, Qc w0 w → m < 128 → zL w 1 2 = (S m).1 → zL w 1 3 = (S m).2 → fX0_follow v w = some ((), zsL (zsL w 1 2 (S (m + 1)).1) 1 3 (S (m + 1)).2)) : ∀ n m w, m ≤ 128 → 128 < m + n → Qc w0 w → zL w 1 2 = (S m).1 → zL w 1 3 = (S m).2 → (∀ i, 1 ≤ i → i ≤ m → zL w 72 i = (S i).1 ∧ zL w 73 i = (S i).2) → NoRep S m → ∃ x w', Ord S x ∧ Qc w0 w' ∧ fX7_order_L18 v n (nI (m + 1)) w = some (x, w') := by
  intro n
  induction n with
  | zero => intro m w h1 h2; omega
  | succ n ih =>
    intro m w hm hn hw hp hq hr hno
    rw [fX7_order_L18.eq_2]
    by_cases hm8 : m = 128
    · subst hm8
      exact ⟨-2, w, .inl ⟨rfl, hno⟩, hw, by rw [if_pos (by decide)]⟩
    · have hlt : m < 128 := by omega
      rw [if_neg (show ¬ (128 : Int32) < nI (m + 1) from Int32.not_lt.mpr ((nI_leI (by omega) (by decide)).mpr (show m + 1 ≤ 128 by omega))), hf w m hw hlt hp hq, bd_s]
      have e1 : zL (zsL (zsL w 1 2 (S (m + 1)).1) 1 3 (S (m + 1)).2) 1 2 = (S (m + 1)).1 := rfl
      have e2 : ∀ w : zW, fX7_keepSum (nI (m + 1)) w = some ((), zsL (zsL w 72 (m + 1) (zL w 1 2)) 73 (m + 1) (zL (zsL w 72 (m + 1) (zL w 1 2)) 1 3)) := by
        intro w
        simp only [fX7_keepSum, set7 w _ zlen_72 (show m + 1 < 129 by omega) (by decide), bd_s, set7 _ _ zlen_73 (show m + 1 < 129 by omega) (by decide)]
      rw [e2, bd_s]
      generalize hW : zsL (zsL (zsL (zsL w 1 2 (S (m + 1)).1) 1 3 (S (m + 1)).2) 72 (m + 1) _) 73 (m + 1) _ = W
      have g1 : Qc w0 W := by rw [← hW]; exact q_L (q_L (q_L (q_L hw rfl) rfl) rfl) rfl
      have g2 : zL W 1 2 = (S (m + 1)).1 := by rw [← hW]; rfl
      have g3 : zL W 1 3 = (S (m + 1)).2 := by rw [← hW]; rfl
      have g4 : ∀ i, 1 ≤ i → i ≤ m + 1 → zL W 72 i = (S i).1 ∧ zL W 73 i = (S i).2 := by
        intro i i1 i2
        rw [← hW]
        by_cases hi : i = m + 1
        · subst hi
          constructor
          · simp [zL_zsL]
          · simp [zL_zsL]
        · have := hr i i1 (by omega)
          constructor
          · simp [zL_zsL, hi, this.1]
          · simp [zL_zsL, hi, this.2]
      obtain ⟨j, j1, j2, j3, j4, j5⟩ := fsl7 S (show m + 1 ≤ 128 by omega) g4 zFU 1 (Nat.le_refl 1) (by omega) (by have : zFU = 18446744073709551616 := rfl; omega)
      unfold fX7_firstSumLike
      rw [show (1 : Int32) = nI 1 from rfl, j5, bd_s]
      by_cases hj : j = m + 1
      · subst hj
        rw [if_pos (Int32.le_refl _), show nI (m + 1) + nI 1 = nI (m + 1 + 1) from nI_add _ _]
        refine ih (m + 1) W (by omega) (by omega) g1 g2 g3 g4 ?_
        intro k hk i i1 i2
        by_cases hkm : k = m + 1
        · subst hkm; exact j4 i i1 i2
        · exact hno k (by omega) i i1 i2
      · rw [if_neg (Int32.not_le.mpr (nI_lt (show j < m + 1 by omega) (by omega)))]
        obtain ⟨u, w', hw', hU⟩ := o7_tell (w0 := w0) (nI j).toInt64 hS g1
        exact ⟨nI (m + 1), w', .inr ⟨m + 1, by omega, rfl, hno, j, j1, by omega, j3⟩, hU, by rw [hw', bd_s]⟩
theorem fg8 (S : Nat → Int64 × Int64) {J : aJ} {S8 : aS} {T8 : aT} {H8 : Nat → Int32} {w0 : zX} {M : Nat} (hM : M ≤ 128) {x2 x4 : Int64} {g : Int32 → zW → Option (Int32 × zW)} {w : zW} (hQ : uD w0 J S8 T8 H8 w) (hp : zL w 74 11 = (S M).1) (hq : zL w 74 12 = (S M).2) (hr : ∀ i, 1 ≤ i → i ≤ M → zL w 81 i = (S i).1 ∧ zL w 82 i = (S i).2) : ∀ n k, 1 ≤ k → k ≤ M → M < k + n → (fX8_order_L106 x2 x4 (nI M) g n (nI k) w = g (nI (M + 1)) w ∧ ∀ i, k ≤ i → i < M → S i ≠ S M) ∨ (∃ j w', 1 ≤ j ∧ j < M ∧ S j = S M ∧ uD w0 J S8 T8 H8 w' ∧ fX8_order_L106 x2 x4 (nI M) g n (nI k) w = some (nI M, w')) := by
  intro n
  induction n with
  | zero => intro k h1 h2 h3; omega
  | succ n ih =>
    intro k h1 h2 h3
    by_cases hk : k = M
    · subst hk
      exact .inl ⟨by rw [fX8_order_L106.eq_2, if_pos (Int32.le_refl _), nI_s], fun i a b => by omega⟩
    · have hlt : k < M := by omega
      have e : fX8_order_L106 x2 x4 (nI M) g (n + 1) (nI k) w = if S k = S M then (lt (zsI w 74 1 (0 : Int32)) fun w22 => bd (fX8_enters (nI k).toInt64 w22) fun _ w23 => some (nI M, w23)) else fX8_order_L106 x2 x4 (nI M) g n (nI (k + 1)) w := by
        rw [fX8_order_L106.eq_2, if_neg (Int32.not_le.mpr (nI_lt hlt (by omega))), zin_t (show k < 129 by omega) (by decide), zg_t, zg_t, nI_clamp (by omega), (hr k h1 h2).1, (hr k h1 h2).2, hp, hq, nI_s]
        by_cases c1 : (S k).1 = (S M).1
        · by_cases c2 : (S k).2 = (S M).2
          · rw [if_pos (show S k = S M from Prod.ext c1 c2), if_neg (not_not_intro c1), if_neg (not_not_intro c2)]
          · rw [if_neg (show ¬ S k = S M from fun q => c2 (congrArg Prod.snd q)), if_neg (not_not_intro c1), if_pos c2]
        · rw [if_neg (show ¬ S k = S M from fun q => c1 (congrArg Prod.fst q)), if_pos c1]
      by_cases c : S k = S M
      · obtain ⟨_, w', hw', hD', -⟩ := enters_s (n := 0) (uD_1 (v := 0) hQ) rfl (by decide) (nI k).toInt64
        exact .inr ⟨k, w', h1, hlt, c, hD', by rw [e, if_pos c, lt_e, hw', bd_s]⟩
      · rcases ih (k + 1) (by omega) hlt (by omega) with ⟨a1, a2⟩ | ⟨j, w', a1, a2, a3, aQ, a4⟩
        · refine .inl ⟨by rw [e, if_neg c, a1], fun i b1 b2 => ?_⟩
          by_cases hi : i = k
          · subst hi; exact c
          · exact a2 i (by omega) b2
        · exact .inr ⟨j, w', a1, a2, a3, aQ, by rw [e, if_neg c, a4]⟩
theorem og8 {J : aJ} {S8 : aS} {T8 : aT} {H8 : Nat → Int32} {w0 : zX} {S : Nat → Int64 × Int64} {x2 x4 : Int64} (hf : ∀ w m, uD w0 J S8 T8 H8 w → 1 ≤ m → m < 128 → ∃ W, Nr w W ∧ fX8_join (S m).1 (S m).2 x2 x4 w = some ((), setS W (S (m + 1)).1 (S (m + 1)).2)) : ∀ n m w, 1 ≤ m → m ≤ 128 → 128 < m + n → uD w0 J S8 T8 H8 w → (∀ i, 1 ≤ i → i ≤ m → zL w 81 i = (S i).1 ∧ zL w 82 i = (S i).2) → NoRep S m → ∃ x w', Ord S x ∧ uD w0 J S8 T8 H8 w' ∧ fX8_order_L48 x2 x4 n (nI (m + 1)) w = some (x, w') := by
  intro n
  induction n with
  | zero => intro m w h1 h2; omega
  | succ n ih =>
    intro m w h1 hm hn hw hr hno
    rw [fX8_order_L48.eq_2]
    by_cases hm8 : m = 128
    · subst hm8
      exact ⟨-2, w, .inl ⟨rfl, hno⟩, hw, by rw [if_pos (by decide)]⟩
    · have hlt : m < 128 := by omega
      obtain ⟨V, hN, hV⟩ := hf w m hw h1 hlt
      rw [if_neg (show ¬ (128 : Int32) < nI (m + 1) from Int32.not_lt.mpr ((nI_leI (by omega) (by decide)).mpr (show m + 1 ≤ 128 by omega))), nI_m1, zin_t (show m < 129 by omega) (by decide), zg_t, zg_t, nI_clamp (by omega), (hr m h1 (by omega)).1, (hr m h1 (by omega)).2, hV, bd_s, zin_t (show m + 1 < 129 by omega) (by decide), zg_t, nI_clamp (by omega)]
      simp only [lt, zg_t]
      generalize hW : zsL (zsL (setS V (S (m + 1)).1 (S (m + 1)).2) 81 (m + 1) _) 82 (m + 1) _ = W
      have g1 : uD w0 J S8 T8 H8 W := by rw [← hW]; exact uD_L (uD_L (uD_S (uD_N hw hN)) (by unfold gD; omega)) (by unfold gD; omega)
      have hVL : ∀ k j, zL V k j = zL w k j := fun k j => by unfold zL; rw [hN.1]
      have g2 : zL W 74 11 = (S (m + 1)).1 := by rw [← hW]; rfl
      have g3 : zL W 74 12 = (S (m + 1)).2 := by rw [← hW]; rfl
      have g4 : ∀ i, 1 ≤ i → i ≤ m + 1 → zL W 81 i = (S i).1 ∧ zL W 82 i = (S i).2 := by
        intro i i1 i2
        rw [← hW]
        by_cases hi : i = m + 1
        · subst hi
          constructor
          · simp [zL_zsL, setS]
          · simp [zL_zsL, setS]
        · have := hr i i1 (by omega)
          constructor
          · simp [zL_zsL, setS, hi, hVL, this.1]
          · simp [zL_zsL, setS, hi, hVL, this.2]
      have hFU : zFU = 18446744073709551616 := rfl
      rcases fg8 S (show m + 1 ≤ 128 by omega) (x2 := x2) (x4 := x4) (g := fX8_order_L48 x2 x4 n) g1 g2 g3 g4 zFU 1 (Nat.le_refl 1) (by omega) (by omega) with ⟨a1, a2⟩ | ⟨j, w', a1, a2, a3, aQ, a4⟩
      · rw [show (1 : Int32) = nI 1 from rfl, a1]
        refine ih (m + 1) W (by omega) (by omega) (by omega) g1 g4 ?_
        intro k hk i i1 i2
        by_cases hkm : k = m + 1
        · subst hkm; exact a2 i i1 i2
        · exact hno k (by omega) i i1 i2
      · rw [show (1 : Int32) = nI 1 from rfl, a4]
        exact ⟨_, w', .inr ⟨m + 1, by omega, rfl, hno, j, a1, by omega, a3⟩, aQ, rfl⟩
theorem pg7 {w0 : zW} {v : Int32} {P D : Nat → Int64 × Int64} (h1 : ∀ w, Qc w0 w → fX0_start v w = some ((), zsL (zsL w 1 2 (P 1).1) 1 3 (P 1).2)) (hd : ∀ w n, Qc w0 w → 1 < n → n < 2 ^ 30 → fX0_join (P (n / 2)).1 (P (n / 2)).2 (P (n / 2)).1 (P (n / 2)).2 w = some ((), zsL (zsL w 1 2 (D n).1) 1 3 (D n).2)) (hfo : ∀ w n, Qc w0 w → 1 < n → n < 2 ^ 30 → n % 2 = 1 → zL w 1 2 = (D n).1 → zL w 1 3 = (D n).2 → fX0_follow v w = some ((), zsL (zsL w 1 2 (P n).1) 1 3 (P n).2)) (he : ∀ n, n % 2 = 0 → D n = P n) {N : Nat} (hN : N < 2 ^ 30) : ∀ n b w, b ≤ 31 → b < n → Qc w0 w → zL w 1 2 = (P (N / 2 ^ b)).1 → zL w 1 3 = (P (N / 2 ^ b)).2 → ∃ w', Qc w0 w' ∧ zL w' 1 2 = (P N).1 ∧ zL w' 1 3 = (P N).2 ∧ fX0_power_L10 v (nI N) n (nI (cn (N / 2 ^ b))) (nI b - 1) w = some (nI (cn N), w') := by
  intro n
  induction n with
  | zero => intro b w h1 h2; omega
  | succ n ih =>
    intro b w hb hn hw hp hq
    rw [fX0_power_L10.eq_2]
    cases b with
    | zero =>
      rw [Nat.pow_zero, Nat.div_one] at hp hq ⊢
      exact ⟨w, hw, hp, hq, by rw [if_pos (by decide)]⟩
    | succ b =>
      have hM : N / 2 ^ b < 2 ^ 30 := Nat.lt_of_le_of_lt (Nat.div_le_self _ _) hN
      have hh : N / 2 ^ (b + 1) = N / 2 ^ b / 2 := by rw [Nat.pow_succ, Nat.div_div_eq_div_mul]
      rw [nI_pred, if_neg (nI_pos (by omega)), pk_shrN (by omega) _ b (shk b (by omega)), show (-1 : Int32) = -1 from rfl, show nI b + -1 = nI b - 1 from (Int32.sub_eq_add_neg _ _).symm]
      rw [hh] at hp hq ⊢
      generalize hso : N / 2 ^ b = so at hp hq hM ⊢
      simp only [lt]
      by_cases c1 : so = 1
      · subst c1
        rw [if_neg (show ¬ ¬ nI 1 = 1 from not_not_intro rfl), h1 w hw, bd_s, cn_0 (show 1 / 2 ≤ 1 by decide)]
        have := ih b (zsL (zsL w 1 2 (P 1).1) 1 3 (P 1).2) (by omega) (by omega) (q_L (q_L hw rfl) rfl) (by rw [hso]; rfl) (by rw [hso]; rfl)
        rw [hso, cn_0 (Nat.le_refl 1)] at this
        exact this
      · rw [if_pos (show ¬ nI so = 1 from fun q => c1 ((nI_eq (by omega) (by decide)).mp q))]
        by_cases c0 : so ≤ 1
        · have c00 : so = 0 := by omega
          subst c00
          rw [if_pos (by decide)]
          have := ih b w (by omega) (by omega) hw (by rw [hso]; exact hp) (by rw [hso]; exact hq)
          rw [hso] at this
          exact this
        · rw [if_neg (show ¬ nI so ≤ 1 from fun q => c0 ((nI_leI (by omega) (by decide)).mp q)), hp, hq, hd w so hw (by omega) hM, bd_s, rem2 (by omega)]
          by_cases c2 : so % 2 = 1
          · rw [c2, if_neg (show ¬ ¬ nI 1 = 1 from not_not_intro rfl), hfo (zsL (zsL w 1 2 (D so).1) 1 3 (D so).2) so (q_L (q_L hw rfl) rfl) (by omega) hM c2 rfl rfl, bd_s]
            have := ih b (zsL (zsL (zsL (zsL w 1 2 (D so).1) 1 3 (D so).2) 1 2 (P so).1) 1 3 (P so).2) (by omega) (by omega) (q_L (q_L (q_L (q_L hw rfl) rfl) rfl) rfl) (by rw [hso]; rfl) (by rw [hso]; rfl)
            rw [hso, cn_s (n := so) (by omega) (by omega), c2] at this
            rw [nI_1, nI_1]
            exact this
          · have c3 : so % 2 = 0 := by omega
            rw [c3, if_pos (show ¬ nI 0 = 1 by decide), nI_1]
            have := ih b (zsL (zsL w 1 2 (D so).1) 1 3 (D so).2) (by omega) (by omega) (q_L (q_L hw rfl) rfl) (by rw [hso, ← he so c3]; rfl) (by rw [hso, ← he so c3]; rfl)
            rw [hso, cn_s (n := so) (by omega) (by omega), c3] at this
            exact this
theorem pg8 {J : aJ} {S8 : aS} {T8 : aT} {H8 : Nat → Int32} {w0 : zX} {v : Int32} {P D : Nat → Int64 × Int64} (h0 : ∀ w, uD w0 J S8 T8 H8 w → fX8_empty w = some ((), setS w (P 0).1 (P 0).2)) {e : Int64 × Int64} (h1 : ∀ w, uD w0 J S8 T8 H8 w → ∃ W, Nr w W ∧ fX8_element v w = some ((), setS W e.1 e.2)) (h1P : P 1 = e) (hd : ∀ w n, uD w0 J S8 T8 H8 w → 1 < n → n < 2 ^ 30 → ∃ W, Nr w W ∧ fX8_join (P (n / 2)).1 (P (n / 2)).2 (P (n / 2)).1 (P (n / 2)).2 w = some ((), setS W (D n).1 (D n).2)) (hfo : ∀ w n, uD w0 J S8 T8 H8 w → 1 < n → n < 2 ^ 30 → n % 2 = 1 → ∃ W, Nr w W ∧ fX8_join (D n).1 (D n).2 e.1 e.2 w = some ((), setS W (P n).1 (P n).2)) (he : ∀ n, n % 2 = 0 → D n = P n) : ∀ f n w, n < 2 ^ f → n < 2 ^ 30 → 0 < f → uD w0 J S8 T8 H8 w → ∃ w', uD w0 J S8 T8 H8 w' ∧ zI w' 74 1 = zI w 74 1 ∧ zL w' 74 11 = (P n).1 ∧ zL w' 74 12 = (P n).2 ∧ fX8_power f v (nI n) w = some (nI (cn n), w') := by
  have hNq : ∀ {w W : zW} {p q : Int64}, Nr w W → zI (setS W p q) 74 1 = zI w 74 1 := fun h => h.2 74 1 (by decide) (by decide) (by decide)
  intro f
  induction f with
  | zero => intro n w h1 h2 h3; omega
  | succ f ih =>
    intro n w hn hn2 hf hw
    rw [fX8_power.eq_2]
    simp only [lt]
    by_cases c0 : n = 0
    · subst c0
      rw [if_neg (show ¬ ¬ nI 0 = 0 from not_not_intro rfl), h0 w hw, bd_s]
      exact ⟨setS w (P 0).1 (P 0).2, uD_S hw, rfl, rfl, rfl, rfl⟩
    · rw [if_pos (show ¬ nI n = 0 from fun q => c0 ((nI_eq (by omega) (by decide)).mp q))]
      by_cases c1 : n = 1
      · subst c1
        obtain ⟨W, n1, e1⟩ := h1 w hw
        rw [if_neg (show ¬ ¬ nI 1 = 1 from not_not_intro rfl), e1, bd_s]
        exact ⟨setS W e.1 e.2, uD_S (uD_N hw n1), hNq n1, by rw [h1P]; rfl, by rw [h1P]; rfl, rfl⟩
      · rw [if_pos (show ¬ nI n = 1 from fun q => c1 ((nI_eq (by omega) (by decide)).mp q)), show nI n / 2 = nI (n / 2) from pk_div (d := 2) (by omega) (by decide) (by decide)]
        have hf0 : 0 < f := by
          rcases Nat.eq_zero_or_pos f with rfl | h
          · rw [show (2 : Nat) ^ (0 + 1) = 2 from rfl] at hn; omega
          · exact h
        obtain ⟨w1, k1, kT, k2, k3, k4⟩ := ih (n / 2) w (by rw [Nat.pow_succ] at hn; omega) (by omega) hf0 hw
        obtain ⟨W, n1, e1⟩ := hd w1 n k1 (by omega) hn2
        rw [k4, bd_s, k2, k3, e1, bd_s, show nI (n / 2) * 2 = nI (n / 2 * 2) from pk_mul _ _, pk_sub (by omega), show n - n / 2 * 2 = n % 2 by omega, cn_s (n := n) (by omega) (by omega)]
        have hQ2 : uD w0 J S8 T8 H8 (setS W (D n).1 (D n).2) := uD_S (uD_N k1 n1)
        by_cases c2 : n % 2 = 1
        · obtain ⟨X, n2, e2⟩ := h1 _ hQ2
          obtain ⟨Y, n3, e3⟩ := hfo (setS X e.1 e.2) n (uD_S (uD_N hQ2 n2)) (by omega) hn2 c2
          rw [c2, if_pos (show ¬ nI 1 = 0 by decide), e2, bd_s, setS_p, setS_q, setS_p, setS_q, e3, bd_s, nI_1, nI_1]
          exact ⟨setS Y (P n).1 (P n).2, uD_S (uD_N (uD_S (uD_N hQ2 n2)) n3), by rw [hNq n3, hNq n2, hNq n1, kT], rfl, rfl, rfl⟩
        · have c3 : n % 2 = 0 := by omega
          rw [c3, if_neg (show ¬ ¬ nI 0 = 0 from not_not_intro rfl), nI_1]
          exact ⟨setS W (D n).1 (D n).2, hQ2, by rw [hNq n1, kT], by rw [← he n c3]; rfl, by rw [← he n c3]; rfl, rfl⟩
theorem ug7 {w0 : zW} {a N : Nat} (hN : N ≤ 10000) {A B : Nat → Prop} [DecidablePred A] [DecidablePred B] (h1 : ∀ w u, Qc w0 w → u < N → ∃ w', Qc w0 w' ∧ fX0_undo (nI a) (nI u) w = some (decide (A u), w')) (h2 : ∀ w u, Qc w0 w → u < N → ∃ w', Qc w0 w' ∧ fX0_undo (nI u) (nI a) w = some (decide (B u), w')) (hb : ∀ u, u < 10000 → A u → B u → ∃ i, i < N ∧ A i ∧ B i) : ∀ n k w, k ≤ N → N < k + n → Qc w0 w → (∀ i, i < k → ¬ (A i ∧ B i)) → ∃ x w', Und (fun u => A u ∧ B u) x ∧ Qc w0 w' ∧ fX7_undoes_L19 (nI a) (nI N) n (nI k) w = some (x, w') := by
  intro n
  induction n with
  | zero => intro k w h1 h2; omega
  | succ n ih =>
    intro k w hk hn hw hno
    rw [fX7_undoes_L19.eq_2]
    by_cases c1 : k = N
    · subst c1
      refine ⟨-2, w, .inl ⟨rfl, fun u hu hU => ?_⟩, hw, by rw [if_pos (Int32.le_refl _)]⟩
      obtain ⟨i, i1, i2, i3⟩ := hb u hu hU.1 hU.2
      exact hno i i1 ⟨i2, i3⟩
    · have hlt : k < N := by omega
      have hgo : ∀ w, Qc w0 w → ¬ (A k ∧ B k) → ∃ x w', Und (fun u => A u ∧ B u) x ∧ Qc w0 w' ∧ fX7_undoes_L19 (nI a) (nI N) n (nI k + 1) w = some (x, w') := by
        intro w hw hnk
        rw [nI_1]
        refine ih (k + 1) w hlt (by omega) hw (fun i hi => ?_)
        by_cases e : i = k
        · subst e; exact hnk
        · exact hno i (by omega)
      obtain ⟨w1, k1, k2⟩ := h1 w k hw hlt
      rw [if_neg (Int32.not_le.mpr (nI_lt hlt (by omega))), k2, bd_s]
      simp only [lt]
      by_cases cA : A k
      · rw [decide_eq_true cA, if_pos rfl]
        obtain ⟨w2, k3, k4⟩ := h2 w1 k k1 hlt
        rw [k4, bd_s]
        by_cases cB : B k
        · rw [decide_eq_true cB, if_pos rfl]
          exact ⟨nI k, w2, .inr ⟨k, by omega, rfl, ⟨cA, cB⟩, fun i hi => hno i hi⟩, k3, rfl⟩
        · rw [decide_eq_false cB, if_neg Bool.false_ne_true]
          exact hgo w2 k3 (fun q => cB q.2)
      · rw [decide_eq_false cA, if_neg Bool.false_ne_true]
        exact hgo w1 k1 (fun q => cA q.1)
theorem ug8 {J : aJ} {S8 : aS} {T8 : aT} {H8 : Nat → Int32} {w0 : zX} {a : Nat} {x2 x4 : Int64} {A B : Nat → Prop} [DecidablePred A] [DecidablePred B] (h1 : ∀ w u, uD w0 J S8 T8 H8 w → u < 10000 → ∃ w', uD w0 J S8 T8 H8 w' ∧ fX8_joinsTwo (nI a) (nI u) w = some ((), w') ∧ (A u ↔ zL w' 74 11 = x2 ∧ zL w' 74 12 = x4)) (h2 : ∀ w u, uD w0 J S8 T8 H8 w → u < 10000 → ∃ w', uD w0 J S8 T8 H8 w' ∧ fX8_joinsTwo (nI u) (nI a) w = some ((), w') ∧ (B u ↔ zL w' 74 11 = x2 ∧ zL w' 74 12 = x4)) : ∀ n k w, k ≤ 10000 → 10000 < k + n → uD w0 J S8 T8 H8 w → (∀ i, i < k → ¬ (A i ∧ B i)) → ∃ x w', Und (fun u => A u ∧ B u) x ∧ uD w0 J S8 T8 H8 w' ∧ fX8_undoes_L32 (nI a) x2 x4 n (nI k) w = some (x, w') := by
  intro n
  induction n with
  | zero => intro k w h1 h2; omega
  | succ n ih =>
    intro k w hk hn hw hno
    rw [fX8_undoes_L32.eq_2]
    by_cases c1 : k = 10000
    · subst c1
      refine ⟨-2, w, .inl ⟨rfl, fun u hu hU => hno u hu hU⟩, hw, by rw [if_pos (by decide)]⟩
    · have hlt : k < 10000 := by omega
      have hgo : ∀ w, uD w0 J S8 T8 H8 w → ¬ (A k ∧ B k) → ∃ x w', Und (fun u => A u ∧ B u) x ∧ uD w0 J S8 T8 H8 w' ∧ fX8_undoes_L32 (nI a) x2 x4 n (nI k + 1) w = some (x, w') := by
        intro w hw hnk
        rw [nI_1]
        refine ih (k + 1) w hlt (by omega) hw (fun i hi => ?_)
        by_cases e : i = k
        · subst e; exact hnk
        · exact hno i (by omega)
      obtain ⟨w1, k1, k2, k3⟩ := h1 w k hw hlt
      rw [if_neg (show ¬ (9999 : Int32) < nI k from Int32.not_lt.mpr ((nI_leI (b := 9999) (by omega) (by decide)).mpr (by omega))), k2, bd_s]
      simp only [lt, if_true, if_neg (show ¬ (1 : Int32) = 0 by decide)]
      by_cases cp : zL w1 74 11 = x2
      · rw [if_neg (not_not_intro cp)]
        by_cases cq : zL w1 74 12 = x4
        · rw [if_neg (not_not_intro cq)]
          obtain ⟨w2, k4, k5, k6⟩ := h2 w1 k k1 hlt
          rw [k5, bd_s]
          by_cases dp : zL w2 74 11 = x2
          · rw [if_neg (not_not_intro dp)]
            by_cases dq : zL w2 74 12 = x4
            · rw [if_neg (not_not_intro dq)]
              exact ⟨nI k, w2, .inr ⟨k, by omega, rfl, ⟨k3.mpr ⟨cp, cq⟩, k6.mpr ⟨dp, dq⟩⟩, fun i hi => hno i hi⟩, k4, rfl⟩
            · rw [if_pos dq]
              exact hgo w2 k4 (fun q => dq (k6.mp q.2).2)
          · rw [if_pos dp]
            exact hgo w2 k4 (fun q => dp (k6.mp q.2).1)
        · rw [if_pos cq]
          exact hgo w1 k1 (fun q => cq (k3.mp q.1).2)
      · rw [if_pos cp]
        exact hgo w1 k1 (fun q => cp (k3.mp q.1).1)
theorem cJ_Q {J : aJ} {w w' : zW} (h : cJ J w) (q : Qc w w') : cJ J w' := by
  obtain ⟨a, b, c, d⟩ := h
  exact ⟨(q.1 1 0 rfl).trans a, (q.1 2 0 rfl).trans b, (q.1 2 1 rfl).trans c, fun i j hi hj => (q.1 3 _ rfl).trans (d i j hi hj)⟩
theorem qc_0 (w : zW) : Qc w w := q_0 w
theorem qc_C {w0 w : zW} {p q : Int64} (h : Qc w0 w) : Qc w0 (setC w p q) := q_L (q_L h rfl) rfl
def sO (J : aJ) (v : Nat) : Nat → aP
  | 0 => ao J
  | n + 1 => aj J (sO J v n) (ae J v)
theorem sO_V {J : aJ} (hW : jW J) {v : Nat} (hv : v < 10000) : ∀ n, aV J (sO J v n)
  | 0 => ao_V hW
  | n + 1 => aj_V hW (sO_V hW hv n) (ae_V hW hv)
theorem sO_1 {J : aJ} (hW : jW J) {v : Nat} (hv : v < 10000) : sO J v 1 = ae J v := (aj_oe hW hv).1
section BO
variable {J : aJ} {S : aS} {T : aT} {w w1 w2 : zW}
theorem order_b (h : rW J S T w) (a : Int32) : Bq (fX7_order a) (fX8_order a) Eq w := by
  obtain ⟨hW, hS, hT, ⟨H0, hC0⟩, -⟩ := id h
  have hc := hC0.1
  rcases im a with ⟨i7, i8⟩ | ⟨v, hv, rfl, i7, i8⟩
  · exact bq_x h (-1) (fun H hC => by rw [fX7_order, i7, bd_s, ff]) (fun w1 H hD => by rw [fX8_order, lt_e, i8, bd_s, ff])
  refine bh (Ord (sO J v)) (Ord (sO J v)) (fun x y a b => ord_u a b) h ?_ (fun w1 h1 => ?_)
  · obtain ⟨x, w', hx, hQ, e⟩ := og7 (w0 := w) (S := sO J v) (v := nI v) (rW_Sz h) (fun w2 m hQ _ hp hq => by
      have hV := sO_V hW hv m
      rw [c_follow hW (cJ_Q hc hQ) hv (by rw [hp, hq]; exact hV), hp, hq]; rfl) zFU 0 (setC w (opF (jK J) (jE J)) (oqF (jK J))) (Nat.zero_le _) (by unfold zFU; omega) (qc_C (qc_0 w)) rfl rfl (fun i i1 i2 => by omega) (fun k hk i i1 i2 => by omega)
    rw [fX7_order, i7, bd_s, tt, c_empty hW hc, bd_s]
    exact ⟨x, w', e, hx, rW_Q h hQ⟩
  · obtain ⟨-, -, -, -, H, hD⟩ := id h1
    have hD := uD_sf hD
    obtain ⟨W, hN, hE⟩ := el_s hW (uD_0 hD).1 hv
    have h2 := uD_S (p := epF (jK J) (jN J) v) (q := eqF (jK J) v) (uD_N (uD_0 hD) hN)
    rw [fX8_order, lt_e, i8, bd_s, tt, hE, bd_s, lt_e, lt_e, setS_p, setS_q, show zin (1 : Int32) 129 = true by decide, zg_t, lt_e, zg_t, lt_e, show (1 : Int32).toNatClampNeg = 1 from rfl]
    obtain ⟨x, w', hx, hQ, e⟩ := og8 (w0 := (w1, False)) (J := J) (S8 := S) (T8 := T) (H8 := H) (S := sO J v) (x2 := epF (jK J) (jN J) v) (x4 := eqF (jK J) v) (fun w2 m hQ _ _ => (jn_s hW hQ.1 (sO_V hW hv m) (ae_V hW hv)).1) zFU 1 _ (Nat.le_refl 1) (by decide) (by unfold zFU; omega) (uD_L (k := 82) (j := 1) (v := eqF (jK J) v) (uD_L (k := 81) (j := 1) (v := epF (jK J) (jN J) v) h2 (by unfold gD; omega)) (by unfold gD; omega)) (fun i i1 i2 => by
      have : i = 1 := by omega
      subst this
      rw [sO_1 hW hv]
      exact ⟨rfl, rfl⟩) (fun k hk i i1 i2 => by omega)
    exact ⟨x, w', e, hx, rW_D h1 hQ⟩
end BO
