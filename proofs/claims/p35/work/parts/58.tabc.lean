set_option maxRecDepth 16384
-- THE TEXT as a TABLE of m by m
def gd (s : Nat → Nat) (n m : Nat) : Prop := 1 ≤ m ∧ m ≤ 5 ∧ n + 1 = m * (m + 1) ∧ (∀ r c, r < m → c < m → 48 ≤ s ((m + 1) * r + c) ∧ s ((m + 1) * r + c) < 48 + m) ∧ ∀ r, r + 1 < m → s ((m + 1) * r + m) = 47
def fR (s : Nat → Nat) (n : Nat) : Nat → Nat → Nat
  | 0, p => p
  | k + 1, p => if n ≤ p then p else if s p = 47 then p else fR s n k (p + 1)
abbrev fT (s : Nat → Nat) (n m p : Nat) : Prop := 1 ≤ m ∧ if p % (m + 1) < m then p % (m + 1) < 5 ∧ p < n ∧ 48 ≤ s p ∧ s p < 48 + (if 5 < m then 5 else m) else if p / (m + 1) = m - 1 then n ≤ p else p < n ∧ s p = 47
section GD
variable {s : Nat → Nat} {n m : Nat}
theorem fR_p : ∀ k p, p ≤ n → n ≤ p + k → p ≤ fR s n k p ∧ fR s n k p ≤ n ∧ (∀ i, p ≤ i → i < fR s n k p → s i ≠ 47) ∧ (fR s n k p = n ∨ s (fR s n k p) = 47) := by
  intro k
  induction k with
  | zero => intro p h1 h2; exact ⟨Nat.le_refl p, h1, fun i h3 h4 => absurd h4 (Nat.not_lt.mpr h3), .inl (by show p = n; omega)⟩
  | succ k ih =>
    intro p h1 h2
    unfold fR
    by_cases c : n ≤ p
    · rw [if_pos c]; exact ⟨Nat.le_refl p, h1, fun i h3 h4 => absurd h4 (Nat.not_lt.mpr h3), .inl (by omega)⟩
    · rw [if_neg c]
      by_cases d : s p = 47
      · rw [if_pos d]; exact ⟨Nat.le_refl p, h1, fun i h3 h4 => absurd h4 (Nat.not_lt.mpr h3), .inr d⟩
      · rw [if_neg d]
        obtain ⟨a1, a2, a3, a4⟩ := ih (p + 1) (by omega) (by omega)
        refine ⟨by omega, a2, fun i h3 h4 => ?_, a4⟩
        by_cases e : i = p
        · rw [e]; exact d
        · exact a3 i (by omega) h4
theorem fR_u (h1 : m ≤ n) (h2 : ∀ i, i < m → s i ≠ 47) (h3 : m = n ∨ s m = 47) : fR s n n 0 = m := by
  obtain ⟨a1, a2, a3, a4⟩ := fR_p (s := s) n 0 (Nat.zero_le n) (by omega)
  rcases Nat.lt_trichotomy (fR s n n 0) m with c | c | c
  · rcases a4 with q | q
    · omega
    · exact absurd q (h2 _ c)
  · exact c
  · rcases h3 with q | q
    · omega
    · exact absurd q (a3 m (Nat.zero_le m) c)
theorem ps_m {r c : Nat} (hc : c ≤ m) : ((m + 1) * r + c) % (m + 1) = c ∧ ((m + 1) * r + c) / (m + 1) = r := by
  constructor
  · rw [Nat.mul_add_mod, Nat.mod_eq_of_lt (by omega)]
  · rw [Nat.mul_add_div (by omega), Nat.div_eq_of_lt (by omega), Nat.add_zero]
theorem ps_l (h0 : 1 ≤ m) : (m + 1) * (m - 1) + m + 1 = m * (m + 1) := by
  obtain ⟨k, rfl⟩ : ∃ k, m = k + 1 := ⟨m - 1, by omega⟩
  show (k + 1 + 1) * k + (k + 1) + 1 = (k + 1) * (k + 1 + 1)
  rw [Nat.mul_comm (k + 1) (k + 1 + 1), Nat.mul_succ]; omega
theorem ps_r {r : Nat} (hr : r < m) : (m + 1) * r ≤ (m + 1) * (m - 1) := Nat.mul_le_mul_left _ (by omega)
theorem gd_of (hm : m ≤ n) (h : ∀ q, q ≤ n → fT s n m q) : gd s n m := by
  have h0 := (h 0 (Nat.zero_le n)).1
  have h5 : m ≤ 5 := by
    by_cases c : m ≤ 5
    · exact c
    · have := (h 5 (by omega)).2
      rw [Nat.mod_eq_of_lt (show 5 < m + 1 by omega), if_pos (by omega)] at this
      omega
  have hL := ps_l h0
  have hn : n = (m + 1) * (m - 1) + m := by
    have hn1 : (m + 1) * (m - 1) + m ≤ n := by
      by_cases c : (m + 1) * (m - 1) + m ≤ n
      · exact c
      · exfalso
        have hq := (h n (Nat.le_refl n)).2
        have hd := Nat.div_add_mod n (m + 1)
        by_cases c1 : n % (m + 1) < m
        · rw [if_pos c1] at hq; omega
        · rw [if_neg c1] at hq
          by_cases c2 : n / (m + 1) = m - 1
          · rw [c2] at hd; omega
          · rw [if_neg c2] at hq; omega
    have hq := (h _ hn1).2
    rw [(ps_m (r := m - 1) (Nat.le_refl m)).1, (ps_m (r := m - 1) (Nat.le_refl m)).2, if_neg (by omega), if_pos rfl] at hq
    omega
  refine ⟨h0, h5, by omega, fun r c hr hc => ?_, fun r hr => ?_⟩
  · have hr2 := ps_r hr
    have hq := (h ((m + 1) * r + c) (by omega)).2
    rw [(ps_m (r := r) (show c ≤ m by omega)).1, if_pos hc, if_neg (show ¬ 5 < m by omega)] at hq
    exact hq.2.2
  · have hr2 : (m + 1) * (r + 1) ≤ (m + 1) * (m - 1) := Nat.mul_le_mul_left _ (by omega)
    rw [Nat.mul_succ] at hr2
    have hq := (h ((m + 1) * r + m) (by omega)).2
    rw [(ps_m (r := r) (Nat.le_refl m)).1, (ps_m (r := r) (Nat.le_refl m)).2, if_neg (by omega), if_neg (by omega)] at hq
    exact hq.2
theorem gd_n (h : gd s n m) : n = (m + 1) * (m - 1) + m := by
  have := ps_l h.1
  have := h.2.2.1
  omega
theorem gd_fT (h : gd s n m) : ∀ q, q ≤ n → fT s n m q := by
  obtain ⟨h0, h5, hN, hv, hs⟩ := id h
  have hn := gd_n h
  intro q hq
  refine ⟨h0, ?_⟩
  have hd := Nat.div_add_mod q (m + 1)
  have hm := Nat.mod_lt q (show 0 < m + 1 by omega)
  have hr : q / (m + 1) < m := by
    by_cases c : q / (m + 1) < m
    · exact c
    · exfalso
      have : (m + 1) * m ≤ (m + 1) * (q / (m + 1)) := Nat.mul_le_mul_left _ (by omega)
      rw [Nat.mul_comm (m + 1) m] at this
      omega
  have hr2 := ps_r hr
  by_cases c1 : q % (m + 1) < m
  · rw [if_pos c1, if_neg (show ¬ 5 < m by omega)]
    have := hv _ _ hr c1
    rw [hd] at this
    exact ⟨by omega, by omega, this.1, this.2⟩
  · rw [if_neg c1]
    by_cases c2 : q / (m + 1) = m - 1
    · rw [if_pos c2]
      rw [c2] at hd; omega
    · rw [if_neg c2]
      have h3 := hs (q / (m + 1)) (by omega)
      rw [show (m + 1) * (q / (m + 1)) + m = q by omega] at h3
      have hr3 : (m + 1) * (q / (m + 1) + 1) ≤ (m + 1) * (m - 1) := Nat.mul_le_mul_left _ (by omega)
      rw [Nat.mul_succ] at hr3
      exact ⟨by omega, h3⟩
theorem gd_m (h : gd s n m) : m ≤ n := by have := gd_n h; omega
theorem gd_fR (h : gd s n m) : fR s n n 0 = m := by
  obtain ⟨h0, h5, hN, hv, hs⟩ := id h
  have hn := gd_n h
  refine fR_u (gd_m h) (fun i hi => ?_) ?_
  · have := hv 0 i (by omega) hi
    rw [Nat.mul_zero, Nat.zero_add] at this
    omega
  · by_cases c : m = 1
    · left; subst c; exact hn.symm
    · right
      have := hs 0 (by omega)
      rw [Nat.mul_zero, Nat.zero_add] at this
      exact this
end GD
section TC
variable {w0 : zX} {w : zW} {J : aJ} {S : aS} {T : aT} {H : Nat → Int32}
theorem firstRow_L (h : uC w0 J S T H w) (hT : tW T) : ∀ k p N, T.1 ≤ p + k → p ≤ T.1 → k < N → fX5_firstRow_L2 N (nI p) w = some (nI (fR T.2 T.1 k p), w) := by
  have hT1 := hT.1
  intro k
  induction k with
  | zero =>
    intro p N h1 h2 hN
    obtain ⟨N, rfl⟩ : ∃ x, N = x + 1 := ⟨N - 1, by omega⟩
    rw [fX5_firstRow_L2.eq_2, h.2.2.2.1.1, if_pos (nI_le (by omega) (by omega))]; rfl
  | succ k ih =>
    intro p N h1 h2 hN
    obtain ⟨N, rfl⟩ : ∃ x, N = x + 1 := ⟨N - 1, by omega⟩
    rw [fX5_firstRow_L2.eq_2, h.2.2.2.1.1]
    unfold fR
    by_cases c : T.1 ≤ p
    · rw [if_pos (nI_le c (by omega)), if_pos c]
    · rw [if_neg (Int32.not_le.mpr (nI_lt (by omega) (by omega))), if_neg c, ati_s w (show zlen 65 = 100 from rfl) (show p < 100 by omega) (by decide), bd_s, h.2.2.2.1.2 p (by omega)]
      by_cases d : T.2 p = 47
      · rw [if_pos (show nI (T.2 p) = 47 by rw [d]; rfl), if_pos d]
      · rw [if_neg (show ¬ nI (T.2 p) = 47 from fun q => d ((nI_c 47 (hT.2 p) (by decide)).mp q)), if_neg d, nI_1]
        exact ih (p + 1) N (by omega) (by omega) (by omega)
theorem firstRow_s (h : uC w0 J S T H w) (hT : tW T) : fX5_firstRow w = some (nI (fR T.2 T.1 T.1 0), w) :=
  firstRow_L h hT T.1 0 zFU (by omega) (Nat.zero_le _) (by have := hT.1; rw [show zFU = 18446744073709551616 from rfl]; omega)
theorem behind5_s (h : uC w0 J S T H w) (hT : tW T) {p : Nat} (hp : p ≤ T.1) : fX5_signOrBehind (nI p) w = some (if p < T.1 then nI (T.2 p) else -1, w) := by
  have hT1 := hT.1
  rw [fX5_signOrBehind, h.2.2.2.1.1]
  by_cases c : p < T.1
  · rw [if_neg (Int32.not_le.mpr (nI_lt c (by omega))), if_pos c, ati_s w (show zlen 65 = 100 from rfl) (show p < 100 by omega) (by decide), bd_s, h.2.2.2.1.2 p (by omega)]
  · rw [if_pos (nI_le (by omega) (by omega)), if_neg c]
theorem fits_s (h : uC w0 J S T H w) (hT : tW T) {m p : Nat} (hp : p ≤ T.1) (hm : m ≤ T.1) : fX5_fitsTable (nI p) (nI m) w = some (decide (fT T.2 T.1 m p), w) := by
  have hT1 := hT.1
  have hb := hT.2 p
  rw [fX5_fitsTable]
  by_cases c0 : 1 ≤ m
  · rw [if_pos (show (1 : Int32) ≤ nI m from (nI_leI (a := 1) (by decide) (by omega)).mpr c0), nI_1, if_neg (nI_ne0 (show 0 < m + 1 by omega) (by omega)), lt_e, if_neg (nI_ne0 (show 0 < m + 1 by omega) (by omega)), lt_e, pk_rem (a := p) (d := m + 1) (by omega) (by omega) (by omega), pk_div (a := p) (d := m + 1) (by omega) (by omega) (by omega), behind5_s h hT hp, bd_s]
    have hmod := Nat.mod_lt p (show 0 < m + 1 by omega)
    have hdiv := Nat.div_le_self p (m + 1)
    by_cases c1 : p % (m + 1) < m
    · rw [if_neg (Int32.not_le.mpr (nI_lt c1 (by omega)))]
      by_cases c5 : 5 ≤ p % (m + 1)
      · rw [if_pos (show (5 : Int32) ≤ nI (p % (m + 1)) from (nI_leI (a := 5) (by decide) (by omega)).mpr c5), decide_eq_false]
        intro q; have := q.2; rw [if_pos c1] at this; omega
      · rw [if_neg (show ¬ (5 : Int32) ≤ nI (p % (m + 1)) from fun q => c5 ((nI_leI (a := 5) (by decide) (by omega)).mp q))]
        have e5 : (48 : Int32) + (if (5 : Int32) < nI m then (5 : Int32) else nI m) = nI (48 + (if 5 < m then 5 else m)) := by
          by_cases z : 5 < m
          · rw [if_pos (show (5 : Int32) < nI m from nI_lt (a := 5) z (by omega)), if_pos z]; rfl
          · rw [if_neg (show ¬ (5 : Int32) < nI m from fun q => z ((nI_ltI (a := 5) (by decide) (by omega)).mp q)), if_neg z, show (48 : Int32) = nI 48 from rfl, nI_add]
        rw [e5]
        by_cases c2 : p < T.1
        · rw [if_pos c2]
          have hk : (if 5 < m then 5 else m) ≤ 5 := by split <;> omega
          by_cases c3 : T.2 p < 48
          · rw [if_pos (show nI (T.2 p) < 48 from nI_lt (b := 48) c3 (by decide)), decide_eq_false]
            intro q; have := q.2; rw [if_pos c1] at this; omega
          · rw [if_neg (show ¬ nI (T.2 p) < 48 from fun q => c3 ((nI_ltI (b := 48) (by omega) (by decide)).mp q))]
            by_cases c4 : 48 + (if 5 < m then 5 else m) ≤ T.2 p
            · rw [if_pos (nI_le c4 (by omega)), decide_eq_false]
              intro q; have := q.2; rw [if_pos c1] at this; omega
            · rw [if_neg (fun q => c4 ((nI_leI (by omega) (by omega)).mp q)), decide_eq_true]
              refine ⟨c0, ?_⟩
              rw [if_pos c1]; exact ⟨by omega, c2, by omega, by omega⟩
        · rw [if_neg c2, if_pos (show (-1 : Int32) < 48 by decide), decide_eq_false]
          intro q; have := q.2; rw [if_pos c1] at this; omega
    · rw [if_pos (nI_le (by omega) (by omega))]
      have e1 : nI m - 1 = nI (m - 1) := by rw [show (1 : Int32) = nI 1 from rfl, pk_sub c0]
      rw [e1]
      by_cases c2 : p / (m + 1) = m - 1
      · rw [if_neg (show ¬ ¬ nI (p / (m + 1)) = nI (m - 1) from not_not_intro (by rw [c2]))]
        by_cases c3 : p < T.1
        · rw [if_pos c3, if_pos (show ¬ nI (T.2 p) = -1 from fun q => nI_pos (n := T.2 p) (by omega) (by rw [q]; decide)), decide_eq_false]
          intro q; have := q.2; rw [if_neg c1, if_pos c2] at this; omega
        · rw [if_neg c3, if_neg (show ¬ ¬ (-1 : Int32) = -1 by decide), decide_eq_true]
          refine ⟨c0, ?_⟩
          rw [if_neg c1, if_pos c2]; omega
      · rw [if_pos (show ¬ nI (p / (m + 1)) = nI (m - 1) from fun q => c2 ((nI_eq (by omega) (by omega)).mp q))]
        by_cases c3 : p < T.1
        · rw [if_pos c3]
          by_cases c4 : T.2 p = 47
          · rw [if_neg (show ¬ ¬ nI (T.2 p) = 47 from not_not_intro (by rw [c4]; rfl)), decide_eq_true]
            refine ⟨c0, ?_⟩
            rw [if_neg c1, if_neg c2]; exact ⟨c3, c4⟩
          · rw [if_pos (show ¬ nI (T.2 p) = 47 from fun q => c4 ((nI_c 47 hb (by decide)).mp q)), decide_eq_false]
            intro q; have := q.2; rw [if_neg c1, if_neg c2] at this; exact c4 this.2
        · rw [if_neg c3, if_pos (show ¬ (-1 : Int32) = 47 by decide), decide_eq_false]
          intro q; have := q.2; rw [if_neg c1, if_neg c2] at this; omega
  · rw [if_neg (show ¬ (1 : Int32) ≤ nI m from fun q => c0 ((nI_leI (a := 1) (by decide) (by omega)).mp q)), decide_eq_false (fun q => c0 q.1)]
theorem wrongT_L (h : uC w0 J S T H w) (hT : tW T) {m : Nat} (hm : m ≤ T.1) : ∀ k p N, p + k = T.1 + 1 → k < N → ∃ v, fX5_firstWrongInTable_L7 (nI m) N (nI p) w = some (v, w) ∧ (v = -1 ↔ ∀ q, p ≤ q → q ≤ T.1 → fT T.2 T.1 m q) := by
  have hT1 := hT.1
  intro k
  induction k with
  | zero =>
    intro p N h1 hN
    obtain ⟨N, rfl⟩ : ∃ x, N = x + 1 := ⟨N - 1, by omega⟩
    refine ⟨-1, ?_, fun _ q h1 h2 => by omega, fun _ => rfl⟩
    rw [fX5_firstWrongInTable_L7.eq_2, h.2.2.2.1.1, if_pos (nI_lt (by omega) (by omega))]
  | succ k ih =>
    intro p N h1 hN
    obtain ⟨N, rfl⟩ : ∃ x, N = x + 1 := ⟨N - 1, by omega⟩
    rw [fX5_firstWrongInTable_L7.eq_2, h.2.2.2.1.1, if_neg (fun q => by have := (nI_ltI (by omega) (by omega)).mp q; omega), fits_s h hT (by omega) hm, bd_s]
    by_cases c : fT T.2 T.1 m p
    · rw [decide_eq_true c, tt, nI_1]
      obtain ⟨v, e, hv⟩ := ih (p + 1) N (by omega) (by omega)
      refine ⟨v, e, fun q x h1 h2 => ?_, fun q => hv.mpr (fun x h1 h2 => q x (by omega) h2)⟩
      by_cases z : x = p
      · rw [z]; exact c
      · exact hv.mp q x (by omega) h2
    · rw [decide_eq_false c, ff]
      exact ⟨nI p, rfl, fun q => absurd (show nI p < 0 by rw [q]; decide) (nI_pos (by omega)), fun q => absurd (q p (Nat.le_refl p) (by omega)) c⟩
theorem wrongT_s (h : uC w0 J S T H w) (hT : tW T) : ∃ v, fX5_firstWrongInTable w = some (v, w) ∧ (v = -1 ↔ gd T.2 T.1 (fR T.2 T.1 T.1 0)) := by
  have hT1 := hT.1
  have hr := (fR_p (s := T.2) T.1 0 (Nat.zero_le T.1) (by omega)).2.1
  obtain ⟨v, e, hv⟩ := wrongT_L h hT hr (T.1 + 1) 0 zFU (by omega) (by rw [show zFU = 18446744073709551616 from rfl]; omega)
  refine ⟨v, ?_, fun q => gd_of hr (fun x hx => hv.mp q x (Nat.zero_le x) hx), fun q => hv.mpr (fun x _ hx => gd_fT q x hx)⟩
  rw [fX5_firstWrongInTable, firstRow_s h hT, bd_s]
  exact e
end TC
