set_option maxRecDepth 16384
section R8
variable {w0 : zX} {w : zW} {J : aJ} {S : aS} {T : aT} {H : Nat → Int32} {n : Nat}
/-- the ACTS that were read lie in the rows 90, 91 -/
def aR (pre : List (Nat × Nat)) (w : zW) : Prop := ∀ i (h : i < pre.length), zI w 90 i = nI (pre[i]).1 ∧ (isP (pre[i]).1 → zI w 91 i = nI (pre[i]).2)
theorem uD_5 (h : uD w0 J S T H w) {k : Nat} {v : Int32} (hk : k = 5 ∨ k = 6 ∨ k = 0) : uD w0 J S T H (zsI w 74 k v) := uD_I h (by unfold fD; omega)
theorem uD_9 (hq : ¬ w0.2) (h : uD w0 J S T H w) {k i : Nat} {v : Int32} (hk : k = 90 ∨ k = 91) : uD w0 J S T H (zsI w k i v) := by
  obtain ⟨a, b, c, d, e, f, g⟩ := h
  have hI : ∀ x y, x ≠ k → zI (zsI w k i v) x y = zI w x y := fun x y hx => by rw [zI_zsI, if_neg (fun q => hx q.1)]
  refine ⟨⟨?_, ?_, ?_, fun i j hi hj => ?_⟩, fun k hk => ⟨?_, fun x hx => ⟨?_, ((b k hk).2 x hx).2.1, ((b k hk).2 x hx).2.2.1, ?_⟩⟩, ⟨?_, ?_⟩, ⟨?_, fun i hi => ?_⟩, fun i => ?_, fun x y hx => ⟨?_, ?_⟩, g.1, g.2.elim (fun t q => ⟨t, q.1, (hI 74 1 (by omega)).trans q.2⟩)⟩
  · rw [hI _ _ (by omega)]; exact a.1
  · rw [hI _ _ (by omega)]; exact a.2.1
  · rw [hI _ _ (by omega)]; exact a.2.2.1
  · rw [hI _ _ (by omega)]; exact a.2.2.2 i j hi hj
  · rw [hI _ _ (by omega)]; exact (b k hk).1
  · rw [hI _ _ (by omega)]; exact ((b k hk).2 x hx).1
  · rw [hI _ _ (by omega)]; exact ((b k hk).2 x hx).2.2.2
  · rw [hI _ _ (by omega)]; exact c.1
  · rw [hI _ _ (by omega)]; exact c.2
  · rw [hI _ _ (by omega)]; exact d.1
  · rw [hI _ _ (by omega)]; exact d.2 i hi
  · rw [hI _ _ (by omega)]; exact e i
  · rcases hx with hx | hx
    · rw [hI _ _ (by omega)]; exact (f x y (.inl hx)).1
    · exact absurd hx.2 hq
  · exact (f x y hx).2
theorem uD_s (h : uD w0 J S T H w) {i : Nat} (hi : i < 100) : zI w 76 i = nI (T.2 i) := h.2.2.2.1.2 i hi
theorem isDigit8_s (h : uD w0 J S T H w) (hT : tW T) {p : Nat} (hn : n ≤ 100) (hp : p ≤ n) (h6 : zI w 74 6 = nI n) (h5 : zI w 74 5 = nI p) : fX8_isDigit w = some (decide (isD T.2 n p), w) := by
  rw [fX8_isDigit, h6, h5]
  by_cases c : p < n
  · rw [if_neg (Int32.not_le.mpr (nI_lt c (by omega))), zin_t (show p < 100 by omega) (by decide), zg_t, nI_clamp (by omega), uD_s h (by omega)]
    have hb := hT.2 p
    rcases inb (nI (T.2 p)) (lo := 48) (hi := 57) (by decide) (by decide) with ⟨h1, h2⟩ | ⟨h1, h1', h2⟩
    · have h3 : ∀ w, fX8_in (nI (T.2 p)).toInt64 48 57 w = some (false, w) := h2
      rw [h3, bd_s, ff, decide_eq_false]
      intro q
      rcases h1 with z | z
      · have := (nI_ltI (by omega) (by decide)).mp z; omega
      · have := (nI_ltI (by decide) (by omega)).mp z; omega
    · have h3 : ∀ w, fX8_in (nI (T.2 p)).toInt64 48 57 w = some (true, w) := h2
      rw [h3, bd_s, tt, decide_eq_true]
      have a1 : ¬ T.2 p < 48 := fun z => h1 (nI_lt z (by decide))
      have a2 : ¬ 57 < T.2 p := fun z => h1' (nI_lt z (by omega))
      exact ⟨c, by omega, by omega⟩
  · rw [if_pos (nI_le (by omega) (by omega)), decide_eq_false (fun q => c q.1)]
theorem passes_L (hn : n ≤ 100) {A B : Nat → Int32} : ∀ m p N w, p + m = n → m < N → uD w0 J S T H w → zI w 74 6 = nI n → zI w 74 5 = nI p → (∀ i, zI w 90 i = A i ∧ zI w 91 i = B i) → tW T → Ok (fX8_passes_L0 N w) (fun _ w' => uD w0 J S T H w' ∧ zI w' 74 6 = nI n ∧ (∀ i, zI w' 90 i = A i ∧ zI w' 91 i = B i) ∧ ∃ p', p ≤ p' ∧ p' ≤ n ∧ zI w' 74 5 = nI p' ∧ (p' = n ∨ T.2 p' ≠ 32) ∧ wW' T.2 n p = wW' T.2 n p' ∧ aL T.2 n (n - p) p = aL T.2 n (n - p') p') := by
  intro m
  induction m with
  | zero =>
    intro p N w hm hN h h6 h5 hAB hT
    obtain ⟨N, rfl⟩ : ∃ k, N = k + 1 := ⟨N - 1, by omega⟩
    rw [fX8_passes_L0.eq_2, h6, h5, if_pos (nI_le (by omega) (by omega))]
    exact ok_r ⟨h, h6, hAB, p, Nat.le_refl p, by omega, h5, .inl (by omega), rfl, rfl⟩
  | succ m ih =>
    intro p N w hm hN h h6 h5 hAB hT
    obtain ⟨N, rfl⟩ : ∃ k, N = k + 1 := ⟨N - 1, by omega⟩
    rw [fX8_passes_L0.eq_2, h6, h5, if_neg (Int32.not_le.mpr (nI_lt (by omega) (by omega))), zin_t (show p < 100 by omega) (by decide), zg_t, nI_clamp (by omega), uD_s h (by omega)]
    by_cases c : T.2 p = 32
    · rw [if_neg (show ¬ ¬ nI (T.2 p) = 32 from not_not_intro (by rw [c]; rfl)), lt_e, nI_1]
      refine ok_m (ih (p + 1) N _ (by omega) (by omega) (uD_5 h (.inl rfl)) h6 rfl hAB hT) (fun _ w' a => ?_)
      obtain ⟨a1, a2, a3, p', b1, b2, b3, b4, b5, b6⟩ := a
      refine ⟨a1, a2, a3, p', by omega, b2, b3, b4, ?_, ?_⟩
      · rw [wA_u (f := 0) (by omega), if_neg (by unfold isP; omega), if_pos (.inr c)]; exact b5
      · have e : aL T.2 n (n - p) p = aL T.2 n (n - (p + 1)) (p + 1) := by
          rw [show n - p = (n - (p + 1)) + 1 by omega]
          exact if_neg (by unfold isP isX; omega)
        rw [e]; exact b6
    · rw [if_pos (show ¬ nI (T.2 p) = 32 from fun q => c ((nI_c 32 (hT.2 p) (by decide)).mp q))]
      exact ok_r ⟨h, h6, hAB, p, Nat.le_refl p, by omega, h5, .inr c, rfl, rfl⟩
theorem act_L81 (hq : ¬ w0.2) (hn : n ≤ 100) (hT : tW T) {k q : Nat} (hk : k < 100) : ∀ m c N w, c + m = 4 → m < N → q + c ≤ n → (∀ x, x < c → 48 ≤ T.2 (q + x) ∧ T.2 (q + x) ≤ 57) → uD w0 J S T H w → zI w 74 6 = nI n → zI w 74 5 = nI (q + c) → Ok (fX8_readsAct_L81 (nI k) N (nI (iV T.2 c q 0)) (nI c) w) (fun b w' => uD w0 J S T H w' ∧ zI w' 74 6 = nI n ∧ zI w' 74 5 = nI (q + (c + dG T.2 n m (q + c))) ∧ zI w' 91 k = nI (iV T.2 (c + dG T.2 n m (q + c)) q 0) ∧ (∀ i, i ≠ k → zI w' 91 i = zI w 91 i) ∧ (∀ i, zI w' 90 i = zI w 90 i) ∧ b = decide (0 < c + dG T.2 n m (q + c) ∧ ¬ isD T.2 n (q + (c + dG T.2 n m (q + c))))) := by
  have fin : ∀ c w, c ≤ 4 → q + c ≤ n → uD w0 J S T H w → zI w 74 6 = nI n → zI w 74 5 = nI (q + c) → Ok (zg (zin (nI k) 100) <| lt (zsI w 91 (nI k).toNatClampNeg (nI (iV T.2 c q 0))) fun w13 => if nI c ≤ (0 : Int32) then some (false, w13) else bd (fX8_isDigit w13) fun b17 w15 => if b17 = true then some (false, w15) else some (true, w15)) (fun b w' => uD w0 J S T H w' ∧ zI w' 74 6 = nI n ∧ zI w' 74 5 = nI (q + c) ∧ zI w' 91 k = nI (iV T.2 c q 0) ∧ (∀ i, i ≠ k → zI w' 91 i = zI w 91 i) ∧ (∀ i, zI w' 90 i = zI w 90 i) ∧ b = decide (0 < c ∧ ¬ isD T.2 n (q + c))) := by
    intro c w hc hqc h h6 h5
    have a1 := uD_9 hq h (k := 91) (i := k) (v := nI (iV T.2 c q 0)) (.inr rfl)
    have o1 : ∀ i, i ≠ k → zI (zsI w 91 k (nI (iV T.2 c q 0))) 91 i = zI w 91 i := fun i hi => by rw [zI_zsI, if_neg (fun z => hi z.2)]
    have o2 : zI (zsI w 91 k (nI (iV T.2 c q 0))) 91 k = nI (iV T.2 c q 0) := by rw [zI_zsI, if_pos ⟨rfl, rfl⟩]
    rw [zin_t hk (by decide), zg_t, lt_e, nI_clamp (by omega)]
    by_cases c0 : c = 0
    · subst c0
      rw [if_pos (show nI 0 ≤ 0 by decide)]
      exact ok_r ⟨a1, h6, h5, o2, o1, fun i => rfl, (decide_eq_false (fun z => Nat.lt_irrefl 0 z.1)).symm⟩
    · rw [if_neg (nI_nle (by omega) (by omega)), isDigit8_s a1 hT hn hqc h6 h5, bd_s]
      by_cases d : isD T.2 n (q + c)
      · rw [decide_eq_true d, tt]
        exact ok_r ⟨a1, h6, h5, o2, o1, fun i => rfl, (decide_eq_false (fun z => z.2 d)).symm⟩
      · rw [decide_eq_false d, ff]
        exact ok_r ⟨a1, h6, h5, o2, o1, fun i => rfl, (decide_eq_true ⟨by omega, d⟩).symm⟩
  intro m
  induction m with
  | zero =>
    intro c N w hm hN hqc hdg h h6 h5
    obtain ⟨N, rfl⟩ : ∃ k, N = k + 1 := ⟨N - 1, by omega⟩
    rw [fX8_readsAct_L81.eq_2, isDigit8_s h hT hn hqc h6 h5, bd_s, lt_e]
    have e : dG T.2 n 0 (q + c) = 0 := rfl
    rw [e, Nat.add_zero]
    by_cases d : isD T.2 n (q + c)
    · rw [decide_eq_true d, tt, if_pos (show (4 : Int32) ≤ nI c by rw [show c = 4 by omega]; decide)]
      exact fin c w (by omega) hqc h h6 h5
    · rw [decide_eq_false d, ff]
      exact fin c w (by omega) hqc h h6 h5
  | succ m ih =>
    intro c N w hm hN hqc hdg h h6 h5
    obtain ⟨N, rfl⟩ : ∃ k, N = k + 1 := ⟨N - 1, by omega⟩
    rw [fX8_readsAct_L81.eq_2, isDigit8_s h hT hn hqc h6 h5, bd_s, lt_e]
    by_cases d : isD T.2 n (q + c)
    · have hb := iV_l (s := T.2) c q 0 hdg 0 (by decide)
      have hb2 : iV T.2 c q 0 < 10 ^ 4 := Nat.lt_of_lt_of_le hb (by rw [Nat.zero_add]; exact Nat.pow_le_pow_right (by decide) (by omega))
      have e : dG T.2 n (m + 1) (q + c) = dG T.2 n m (q + c + 1) + 1 := if_pos d
      have d1 := d.1
      have d2 := d.2.1
      rw [decide_eq_true d, tt, if_neg (show ¬ (4 : Int32) ≤ nI c from Int32.not_le.mpr (nI_lt (b := 4) (by omega) (by decide))), h5, zin_t (show q + c < 100 by omega) (by decide), zg_t, lt_e, lt_e, nI_clamp (by omega), uD_s h (by omega), show (10 : Int32) = nI 10 from rfl, pk_mul, nI_add, show (48 : Int32) = nI 48 from rfl, pk_sub (by omega), nI_1, nI_1]
      have := ih (c + 1) N (zsI w 74 5 (nI (q + c + 1))) (by omega) (by omega) (by omega) (fun x hx => by
        by_cases z : x = c
        · rw [z]; exact d.2
        · exact hdg x (by omega)) (uD_5 h (.inl rfl)) h6 rfl
      rw [iV_s, show 10 * iV T.2 c q 0 + (T.2 (q + c) - 48) = 10 * iV T.2 c q 0 + T.2 (q + c) - 48 by omega, show q + (c + 1) = q + c + 1 by omega, show c + 1 + dG T.2 n m (q + c + 1) = c + (dG T.2 n m (q + c + 1) + 1) by omega] at this
      rw [e]
      exact this
    · have e : dG T.2 n (m + 1) (q + c) = 0 := if_neg d
      rw [decide_eq_false d, ff, e, Nat.add_zero]
      exact fin c w (by omega) hqc h h6 h5
end R8
