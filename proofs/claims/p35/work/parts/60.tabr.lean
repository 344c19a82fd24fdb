set_option maxRecDepth 16384
def lw (s : Nat → Nat) (n : Nat) : Nat → Nat → Nat
  | 0, p => p
  | f + 1, p => if p < n ∧ 48 ≤ s p ∧ s p ≤ 52 then lw s n f (p + 1) else p
/-- the reference's TABLE that was read -/
def fr8 (s : Nat → Nat) (k : Nat) (w : zW) : Prop := zI w 74 27 = nI k ∧ ∀ a b, a < k → b < k → zI w 89 (k * a + b) = nI (tE s k a b)
section T8
variable {w0 : zX} {w : zW} {J : aJ} {S : aS} {T : aT} {H : Nat → Int32} {k : Nat} {s : Nat → Nat} {n : Nat}
theorem lw_u {m : Nat} (h5 : m ≤ 5) (h2 : m = 5 ∨ ¬ (m < n ∧ 48 ≤ s m ∧ s m ≤ 52)) : ∀ f p, p + f = 5 → p ≤ m → (∀ i, p ≤ i → i < m → i < n ∧ 48 ≤ s i ∧ s i ≤ 52) → lw s n f p = m := by
  intro f
  induction f with
  | zero => intro p h1 h3 _; show p = m; omega
  | succ f ih =>
    intro p h1 h3 h4
    unfold lw
    by_cases c : p = m
    · rw [c, if_neg (h2.resolve_left (by omega))]
    · rw [if_pos (h4 p (Nat.le_refl p) (by omega))]
      exact ih (p + 1) (by omega) (by omega) (fun i h5 h6 => h4 i (by omega) h6)
theorem lw_le : ∀ f p, lw s n f p ≤ p + f := by
  intro f
  induction f with
  | zero => intro p; exact Nat.le_refl p
  | succ f ih =>
    intro p
    unfold lw
    split
    · have := ih (p + 1); omega
    · omega
theorem gd_lw (h : gd s n k) : lw s n 5 0 = k := by
  obtain ⟨h0, h5, hN, hv, hs⟩ := id h
  have hn := gd_n h
  have hk := gd_m h
  refine lw_u h5 ?_ 5 0 (by omega) (Nat.zero_le k) (fun i h1 h2 => ?_)
  · by_cases c : k = 1
    · right; subst c; omega
    · have := hs 0 (by omega)
      rw [Nat.mul_zero, Nat.zero_add] at this
      right; omega
  · have := hv 0 i (by omega) h2
    rw [Nat.mul_zero, Nat.zero_add] at this
    omega
theorem uD_f (h : uD w0 J S T H w) {a b : Nat} {v : Int32} (ha : a = 89 ∨ (a = 74 ∧ (b = 27 ∨ b = 5))) : uD w0 J S T H (zsI w a b v) := uD_I h (by unfold fD; omega)
theorem wide_L (hT : tW T) (hn : n ≤ 100) {P : Bool → zW → Prop} (hj : ∀ w, uD w0 J S T H w → zI w 74 6 = nI n → zI w 74 5 = nI 0 → zI w 74 27 = nI (lw T.2 n 5 0) → Ok (if ¬ (zI w 74 27) = (0 : Int32) then fX8_readsTable_L70 zFU (0 : Int32) w else some (false, w)) P) : ∀ f p N w, p + f = 5 → f < N → uD w0 J S T H w → zI w 74 6 = nI n → zI w 74 5 = nI 0 → zI w 74 27 = nI p → lw T.2 n 5 0 = lw T.2 n f p → Ok (fX8_readsTable_L5 N w) P := by
  intro f
  induction f with
  | zero =>
    intro p N w hp hN h h6 h5 h27 hl
    obtain ⟨N, rfl⟩ : ∃ x, N = x + 1 := ⟨N - 1, by omega⟩
    rw [fX8_readsTable_L5.eq_2, lt_e, if_pos (by rw [h27, show p = 5 by omega]; decide)]
    exact hj w h h6 h5 (by rw [hl]; exact h27)
  | succ f ih =>
    intro p N w hp hN h h6 h5 h27 hl
    obtain ⟨N, rfl⟩ : ∃ x, N = x + 1 := ⟨N - 1, by omega⟩
    have hb := hT.2 p
    rw [fX8_readsTable_L5.eq_2, lt_e, if_neg (show ¬ (5 : Int32) ≤ zI w 74 27 by rw [h27]; exact Int32.not_le.mpr (nI_lt (b := 5) (by omega) (by decide)))]
    by_cases c : p < n
    · rw [if_neg (show ¬ zI w 74 6 ≤ zI w 74 27 by rw [h6, h27]; exact Int32.not_le.mpr (nI_lt c (by omega))), h27, zin_t (show p < 100 by omega) (by decide), zg_t, nI_clamp (by omega), uD_s h (by omega)]
      rcases inb (nI (T.2 p)) (lo := 48) (hi := 52) (by decide) (by decide) with ⟨h1, h2⟩ | ⟨h1, h1', h2⟩
      · have h3 : ∀ w, fX8_in (nI (T.2 p)).toInt64 48 52 w = some (false, w) := h2
        rw [h3, bd_s, ff]
        refine hj w h h6 h5 ?_
        rw [hl, h27]
        have hneg : ¬ (p < n ∧ 48 ≤ T.2 p ∧ T.2 p ≤ 52) := by
          intro z
          rcases h1 with y | y
          · have := (nI_ltI (by omega) (by decide)).mp y; omega
          · have := (nI_ltI (by decide) (by omega)).mp y; omega
        unfold lw
        rw [if_neg hneg]
      · have h3 : ∀ w, fX8_in (nI (T.2 p)).toInt64 48 52 w = some (true, w) := h2
        rw [h3, bd_s, tt, lt_e, h27, nI_1]
        have a1 : ¬ T.2 p < 48 := fun z => h1 (nI_lt z (by decide))
        have a2 : ¬ 52 < T.2 p := fun z => h1' (nI_lt z (by omega))
        refine ih (p + 1) N _ (by omega) (by omega) (uD_f h (.inr ⟨rfl, .inl rfl⟩)) h6 h5 rfl ?_
        rw [hl]
        exact if_pos ⟨c, by omega, by omega⟩
    · rw [if_pos (show zI w 74 6 ≤ zI w 74 27 by rw [h6, h27]; exact nI_le (by omega) (by omega))]
      refine hj w h h6 h5 ?_
      rw [hl, h27]
      unfold lw
      rw [if_neg (fun z => c z.1)]
theorem tm_i {r c : Nat} (hr : r < k) (hc : c < k) (h5 : k ≤ 5) : k * r + c < 25 := by
  have h1 : k * r ≤ k * (k - 1) := Nat.mul_le_mul_left _ (by omega)
  have h2 : k * (k - 1) ≤ 5 * 4 := Nat.mul_le_mul h5 (by omega)
  omega
theorem tm_n {r c r' c' : Nat} (hc : c < k) (hc' : c' < k) (h : k * r' + c' = k * r + c) : r' = r ∧ c' = c := by
  have hk : 0 < k := by omega
  have e1 : (k * r' + c') / k = r' := by rw [Nat.mul_add_div hk, Nat.div_eq_of_lt hc', Nat.add_zero]
  have e2 : (k * r + c) / k = r := by rw [Nat.mul_add_div hk, Nat.div_eq_of_lt hc, Nat.add_zero]
  have e3 : (k * r' + c') % k = c' := by rw [Nat.mul_add_mod, Nat.mod_eq_of_lt hc']
  have e4 : (k * r + c) % k = c := by rw [Nat.mul_add_mod, Nat.mod_eq_of_lt hc]
  rw [h] at e1 e3
  exact ⟨e1.symm.trans e2, e3.symm.trans e4⟩
/-- what the reading comes to -/
def rP (w0 : zX) (J : aJ) (S : aS) (T : aT) (H : Nat → Int32) (n k : Nat) (b : Bool) (w : zW) : Prop := uD w0 J S T H w ∧ ((b = true ∧ gd T.2 n k ∧ fr8 T.2 k w) ∨ (b = false ∧ ¬ gd T.2 n k))
theorem row_L (hT : tW T) (hn : n ≤ 100) (h1 : 1 ≤ k) (h5 : k ≤ 5) {r : Nat} (hr : r < k) {j : Int32 → zW → Option (Bool × zW)} (hS : ∀ r', r' < r → T.2 ((k + 1) * r' + k) = 47) (hj : ∀ w, uD w0 J S T H w → zI w 74 6 = nI n → zI w 74 5 = nI ((k + 1) * r + k) → (k + 1) * r + k ≤ n → zI w 74 27 = nI k → (∀ a b, a < r + 1 → b < k → 48 ≤ T.2 ((k + 1) * a + b) ∧ T.2 ((k + 1) * a + b) < 48 + k ∧ zI w 89 (k * a + b) = nI (tE T.2 k a b)) → Ok (j (nI (r + 1)) w) (rP w0 J S T H n k)) : ∀ m c N w, c + m = k → m < N → uD w0 J S T H w → zI w 74 6 = nI n → zI w 74 5 = nI ((k + 1) * r + c) → (k + 1) * r + c ≤ n → zI w 74 27 = nI k → (∀ a b, (a < r ∧ b < k) ∨ (a = r ∧ b < c) → 48 ≤ T.2 ((k + 1) * a + b) ∧ T.2 ((k + 1) * a + b) < 48 + k ∧ zI w 89 (k * a + b) = nI (tE T.2 k a b)) → Ok (fX8_readsTable_L95 (nI r) j N (nI c) w) (rP w0 J S T H n k) := by
  intro m
  induction m with
  | zero =>
    intro c N w hc hN h h6 hp hpn h27 hA
    obtain ⟨N, rfl⟩ : ∃ x, N = x + 1 := ⟨N - 1, by omega⟩
    rw [fX8_readsTable_L95.eq_2, h27, if_pos (nI_le (by omega) (by omega)), nI_1]
    rw [show c = k by omega] at hp hpn
    exact hj w h h6 hp hpn h27 (fun a b ha hb => hA a b (by omega))
  | succ m ih =>
    intro c N w hc hN h h6 hp hpn h27 hA
    obtain ⟨N, rfl⟩ : ∃ x, N = x + 1 := ⟨N - 1, by omega⟩
    have hck : c < k := by omega
    have hb := hT.2 ((k + 1) * r + c)
    rw [fX8_readsTable_L95.eq_2, h27, if_neg (Int32.not_le.mpr (nI_lt hck (by omega))), isDigit8_s h hT hn hpn h6 hp, bd_s]
    have gdv : gd T.2 n k → isD T.2 n ((k + 1) * r + c) ∧ T.2 ((k + 1) * r + c) < 48 + k := fun g => by
      have hv := g.2.2.2.1 r c hr hck
      have hn2 := gd_n g
      have hr2 := ps_r hr
      exact ⟨⟨by omega, by omega, by omega⟩, hv.2⟩
    by_cases d : isD T.2 n ((k + 1) * r + c)
    · have d1 := d.1
      have d2 := d.2.1
      rw [decide_eq_true d, tt, hp, zin_t (show (k + 1) * r + c < 100 by omega) (by decide), zg_t, nI_clamp (by omega), uD_s h (by omega), show (48 : Int32) = nI 48 from rfl, pk_sub d2, h27]
      by_cases c2 : T.2 ((k + 1) * r + c) - 48 < k
      · rw [if_pos (nI_lt c2 (by omega)), zg_t, pk_mul, nI_add, zin_t (tm_i hr hck h5) (by decide), zg_t, lt_e, nI_clamp (by have := tm_i hr hck h5; omega)]
        have e5 : ∀ v, zI (zsI w 89 (k * r + c) v) 74 5 = nI ((k + 1) * r + c) := fun v => hp
        rw [e5, nI_1, lt_e, nI_1]
        refine ih (c + 1) N _ (by omega) (by omega) (uD_f (uD_f h (.inl rfl)) (.inr ⟨rfl, .inr rfl⟩)) h6 rfl (show (k + 1) * r + (c + 1) ≤ n by omega) h27 (fun a b hab => ?_)
        rw [zI_zsI, if_neg (by omega), zI_zsI]
        by_cases z : a = r ∧ b = c
        · rw [z.1, z.2, if_pos ⟨rfl, rfl⟩]
          exact ⟨d2, by omega, rfl⟩
        · rw [if_neg (fun y => z (tm_n hck (by omega) y.2))]
          exact hA a b (by omega)
      · rw [if_neg (fun q => c2 ((nI_ltI (by omega) (by omega)).mp q))]
        exact ok_r ⟨h, .inr ⟨rfl, fun g => c2 (by have := (gdv g).2; omega)⟩⟩
    · rw [decide_eq_false d, ff]
      exact ok_r ⟨h, .inr ⟨rfl, fun g => d (gdv g).1⟩⟩
theorem takesSign_s (h : uD w0 J S T H w) (hT : tW T) (hn : n ≤ 100) {p : Nat} (hp : p ≤ n) (h6 : zI w 74 6 = nI n) (h5 : zI w 74 5 = nI p) (h27 : zI w 74 27 = nI k) : Ok (fX8_takesSign 47 w) (fun b w' => uD w0 J S T H w' ∧ zI w' 74 6 = nI n ∧ zI w' 74 27 = nI k ∧ (∀ i, zI w' 89 i = zI w 89 i) ∧ ((b = true ∧ p < n ∧ T.2 p = 47 ∧ zI w' 74 5 = nI (p + 1)) ∨ (b = false ∧ ¬ (p < n ∧ T.2 p = 47)))) := by
  rw [fX8_takesSign, lt_e, lt_e, h6, h5]
  have no : ¬ (p < n ∧ T.2 p = 47) → Ok (bd (fX8_flag (0 : Int32) w) fun v5 w3 => lt (zsI w3 74 5 ((zI w 74 5) + v5)) fun w6 => some (zvb (0 : Int32), w6)) (fun b w' => uD w0 J S T H w' ∧ zI w' 74 6 = nI n ∧ zI w' 74 27 = nI k ∧ (∀ i, zI w' 89 i = zI w 89 i) ∧ ((b = true ∧ p < n ∧ T.2 p = 47 ∧ zI w' 74 5 = nI (p + 1)) ∨ (b = false ∧ ¬ (p < n ∧ T.2 p = 47)))) := by
    intro q
    rw [show fX8_flag 0 w = some (0, w) from rfl, bd_s, lt_e]
    exact ok_r ⟨uD_f h (.inr ⟨rfl, .inr rfl⟩), h6, h27, fun i => rfl, .inr ⟨by decide, q⟩⟩
  by_cases c : p < n
  · rw [if_neg (Int32.not_le.mpr (nI_lt c (by omega))), zin_t (show p < 100 by omega) (by decide), zg_t, nI_clamp (by omega), uD_s h (by omega)]
    by_cases d : T.2 p = 47
    · rw [if_neg (show ¬ ¬ nI (T.2 p) = 47 from not_not_intro (by rw [d]; rfl))]
      dsimp only
      rw [show fX8_flag 1 w = some (1, w) from rfl, bd_s, h5, nI_1, lt_e]
      exact ok_r ⟨uD_f h (.inr ⟨rfl, .inr rfl⟩), h6, h27, fun i => rfl, .inl ⟨by decide, c, d, rfl⟩⟩
    · rw [if_pos (show ¬ nI (T.2 p) = 47 from fun q => d ((nI_c 47 (hT.2 p) (by decide)).mp q))]
      exact no (fun z => d z.2)
  · rw [if_pos (nI_le (by omega) (by omega))]
    exact no (fun z => c z.1)
theorem rows_L (hT : tW T) (hn : n ≤ 100) (h1 : 1 ≤ k) (h5 : k ≤ 5) : ∀ m r N w, r + m = k → m < N → uD w0 J S T H w → zI w 74 6 = nI n → (r = 0 ∧ zI w 74 5 = nI 0 ∨ 1 ≤ r ∧ zI w 74 5 = nI ((k + 1) * (r - 1) + k) ∧ (k + 1) * (r - 1) + k ≤ n) → zI w 74 27 = nI k → (∀ a b, a < r → b < k → 48 ≤ T.2 ((k + 1) * a + b) ∧ T.2 ((k + 1) * a + b) < 48 + k ∧ zI w 89 (k * a + b) = nI (tE T.2 k a b)) → (∀ r', r' + 1 < r → T.2 ((k + 1) * r' + k) = 47) → Ok (fX8_readsTable_L70 N (nI r) w) (rP w0 J S T H n k) := by
  intro m
  induction m with
  | zero =>
    intro r N w hr hN h h6 hp h27 hA hS
    obtain ⟨N, rfl⟩ : ∃ x, N = x + 1 := ⟨N - 1, by omega⟩
    obtain rfl : r = k := by omega
    have hp2 := hp.resolve_left (by omega)
    have hL := ps_l h1
    rw [fX8_readsTable_L70.eq_2, h27, if_pos (Int32.le_refl _), h6, hp2.2.1]
    by_cases c : (r + 1) * (r - 1) + r = n
    · rw [if_neg (not_not_intro (by rw [c]))]
      exact ok_r ⟨h, .inl ⟨rfl, ⟨h1, h5, by omega, fun a b ha hb => ⟨(hA a b ha hb).1, (hA a b ha hb).2.1⟩, hS⟩, h27, fun a b ha hb => (hA a b ha hb).2.2⟩⟩
    · rw [if_pos (fun q => c ((nI_eq (by omega) (by omega)).mp q))]
      exact ok_r ⟨h, .inr ⟨rfl, fun g => c (gd_n g).symm⟩⟩
  | succ m ih =>
    intro r N w hr hN h h6 hp h27 hA hS
    obtain ⟨N, rfl⟩ : ∃ x, N = x + 1 := ⟨N - 1, by omega⟩
    have hrk : r < k := by omega
    have go : ∀ w, uD w0 J S T H w → zI w 74 6 = nI n → zI w 74 5 = nI ((k + 1) * r + 0) → (k + 1) * r ≤ n → zI w 74 27 = nI k → (∀ a b, a < r → b < k → 48 ≤ T.2 ((k + 1) * a + b) ∧ T.2 ((k + 1) * a + b) < 48 + k ∧ zI w 89 (k * a + b) = nI (tE T.2 k a b)) → (∀ r', r' < r → T.2 ((k + 1) * r' + k) = 47) → Ok (fX8_readsTable_L95 (nI r) (fX8_readsTable_L70 N) zFU (0 : Int32) w) (rP w0 J S T H n k) := by
      intro w h h6 h5p hpn h27 hA hS2
      refine row_L hT hn h1 h5 hrk hS2 (fun w1 a1 a2 a3 a4 a5 a6 => ?_) k 0 zFU w (by omega) (by rw [show zFU = 18446744073709551616 from rfl]; omega) h h6 h5p hpn h27 (fun a b hab => hA a b (by omega) (by omega))
      exact ih (r + 1) N w1 (by omega) (by omega) a1 a2 (.inr ⟨by omega, a3, a4⟩) a5 a6 (fun r' hr' => hS2 r' (by omega))
    rw [fX8_readsTable_L70.eq_2, h27, if_neg (Int32.not_le.mpr (nI_lt hrk (by omega))), lt_e]
    rcases hp with ⟨r0, hp⟩ | ⟨r1, hp, hpn⟩
    · subst r0
      rw [if_pos (show nI 0 ≤ 0 by decide)]
      exact go w h h6 hp (by rw [Nat.mul_zero]; exact Nat.zero_le n) h27 hA (fun r' hr' => absurd hr' (Nat.not_lt_zero r'))
    · rw [if_neg (nI_nle (by omega) (by omega))]
      refine ok_b (takesSign_s h hT hn hpn h6 hp h27) (fun b w1 a1 => ?_)
      obtain ⟨b1, b2, b3, b4, ⟨rfl, c1, c2, c3⟩ | ⟨rfl, c1⟩⟩ := a1
      · have e : (k + 1) * (r - 1) + k + 1 = (k + 1) * r := by
          obtain ⟨x, rfl⟩ : ∃ x, r = x + 1 := ⟨r - 1, by omega⟩
          show (k + 1) * x + k + 1 = (k + 1) * (x + 1)
          rw [Nat.mul_succ]; omega
        rw [tt]
        rw [e] at c3
        refine go w1 b1 b2 c3 (by omega) b3 (fun a b ha hb => by rw [b4]; exact hA a b ha hb) (fun r' hr' => ?_)
        by_cases z : r' = r - 1
        · rw [z]; exact c2
        · exact hS r' (by omega)
      · rw [ff]
        refine ok_r ⟨b1, .inr ⟨rfl, fun g => c1 ?_⟩⟩
        have := g.2.2.2.2 (r - 1) (by omega)
        have hn2 := gd_n g
        have hr2 : (k + 1) * (r - 1 + 1) ≤ (k + 1) * (k - 1) := Nat.mul_le_mul_left _ (by omega)
        rw [Nat.mul_succ] at hr2
        exact ⟨by omega, this⟩
theorem readsT_s (h : uD w0 J S T H w) (hT : tW T) (hn : n ≤ 100) (h6 : zI w 74 6 = nI n) (h5 : zI w 74 5 = nI 0) : Ok (fX8_readsTable w) (fun b w' => uD w0 J S T H w' ∧ ((b = true ∧ gd T.2 n (lw T.2 n 5 0) ∧ fr8 T.2 (lw T.2 n 5 0) w') ∨ (b = false ∧ ∀ k, ¬ gd T.2 n k))) := by
  rw [fX8_readsTable, lt_e]
  have hl := lw_le (s := T.2) (n := n) 5 0
  refine wide_L hT hn (fun w1 a1 a2 a3 a4 => ?_) 5 0 zFU _ (by omega) (by rw [show zFU = 18446744073709551616 from rfl]; omega) (uD_f h (.inr ⟨rfl, .inl rfl⟩)) h6 h5 rfl rfl
  by_cases c : lw T.2 n 5 0 = 0
  · rw [a4, c, if_neg (show ¬ ¬ nI 0 = 0 by decide)]
    refine ok_r ⟨a1, .inr ⟨rfl, fun k g => ?_⟩⟩
    have := gd_lw g
    have := g.1
    omega
  · rw [a4, if_pos (nI_ne0 (by omega) (by omega))]
    refine ok_m (rows_L hT hn (show 1 ≤ lw T.2 n 5 0 by omega) (by omega) (lw T.2 n 5 0) 0 zFU w1 (by omega) (by rw [show zFU = 18446744073709551616 from rfl]; omega) a1 a2 (.inl ⟨rfl, a3⟩) a4 (fun a b ha _ => absurd ha (Nat.not_lt_zero a)) (fun r' hr' => absurd hr' (Nat.not_lt_zero _))) (fun b w2 b1 => ?_)
    obtain ⟨c1, c2 | ⟨c2, c3⟩⟩ := b1
    · exact ⟨c1, .inl c2⟩
    · refine ⟨c1, .inr ⟨c2, fun k g => ?_⟩⟩
      have := gd_lw g
      rw [this] at c3
      exact c3 g
end T8
