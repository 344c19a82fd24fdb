set_option maxRecDepth 16384
section R3
variable {w0 : zX} {w : zW} {J : aJ} {S : aS} {T : aT} {H : Nat → Int32} {j : Nat}
theorem par2 {k : Nat} (hk : k < 10) : nI k - nI k / (2 : Int32) * (2 : Int32) = nI (k % 2) := remN (D := 2) (d := 2) rfl (by omega) (by decide) (by decide)
theorem makes_s (hW : jW J) (h : uD w0 J S T H w) (hb : zB S) {k v : Nat} (hk : k < 10) (hv : v < 10000) (hs : sZ S k < 64) (hV : kV J S k) : Ok (fX8_makes (nI k) (nI v) w) (fun _ w' => uD w0 J (mS J k v S) T H w') := by
  have hz := uD_z h hk
  obtain ⟨W, hN, hE⟩ := el_s hW h.1 hv
  have h1 : uD w0 J S T H W := uD_N h hN
  have h2 : uD w0 J S T H (setS W (epF (jK J) (jN J) v) (eqF (jK J) v)) := uD_S h1
  have hz2 := uD_z h2 hk
  have hm : mS J k v S = pS k (v, (mP J S k v).1, (mP J S k v).2, sM S + 1) S := rfl
  rw [fX8_makes, zin_t hk (by decide), zg_t, nI_clamp (by omega), hz]
  rw [show fX8_place (nI k) (nI (sZ S k)) w = some (nI (64 * k + sZ S k), w) by rw [fX8_place, show (64 : Int32) = nI 64 from rfl, pk_mul, nI_add], bd_s, hE, bd_s, zg_t, lt_e, hz2, hm]
  by_cases c : sZ S k = 0
  · rw [if_pos (by rw [c]; exact Int32.le_refl _)]
    have e : mP J S k v = ae J v := if_pos c
    rw [e]
    have := mk8_end (v := v) h1 hb hk hs (epF (jK J) (jN J) v) (eqF (jK J) v)
    rw [nI_clamp (show k < 2 ^ 31 by omega), zin_t hk (by decide)] at this
    exact this
  · have h3 := (h2.2.1 k hk).2 (sZ S k - 1) (by omega)
    have hi : nI (64 * k + sZ S k) - 1 = nI (64 * k + (sZ S k - 1)) := by
      rw [show (1 : Int32) = nI 1 from rfl, pk_sub (by omega), show 64 * k + sZ S k - 1 = 64 * k + (sZ S k - 1) by omega]
    rw [if_neg (nI_nle (by omega) (by omega)), hi, zin_t (show 64 * k + (sZ S k - 1) < 640 by omega) (by decide), zg_t, lt_e, zg_t, lt_e, nI_clamp (show 64 * k + (sZ S k - 1) < 2 ^ 31 by omega), h3.2.1, h3.2.2.1, par2 hk, setS_p, setS_q]
    have hc := (hV (sZ S k - 1) (by omega)).2
    have hp : mP J S k v = if k % 2 = 0 then aj J (ae J v) (cP (sC S k (sZ S k - 1))) else aj J (cP (sC S k (sZ S k - 1))) (ae J v) := if_neg c
    rw [hp]
    by_cases d : k % 2 = 0
    · rw [if_pos d, d, if_neg (show ¬ ¬ nI 0 = 0 from not_not_intro rfl)]
      obtain ⟨W2, hN2, hE2⟩ := (jn_s hW h2.1 (val_e hW hv) hc).1
      rw [show (sC S k (sZ S k - 1)).2.1 = (cP (sC S k (sZ S k - 1))).1 from rfl, show (sC S k (sZ S k - 1)).2.2.1 = (cP (sC S k (sZ S k - 1))).2 from rfl, hE2, bd_s]
      have := mk8_end (v := v) (uD_N h2 hN2) hb hk hs (aj J (ae J v) (cP (sC S k (sZ S k - 1)))).1 (aj J (ae J v) (cP (sC S k (sZ S k - 1)))).2
      rw [nI_clamp (show k < 2 ^ 31 by omega), zin_t hk (by decide)] at this
      exact this
    · rw [if_neg d, show k % 2 = 1 by omega, if_pos (show ¬ nI 1 = 0 by decide)]
      obtain ⟨W2, hN2, hE2⟩ := (jn_s hW h2.1 hc (val_e hW hv)).1
      rw [show (sC S k (sZ S k - 1)).2.1 = (cP (sC S k (sZ S k - 1))).1 from rfl, show (sC S k (sZ S k - 1)).2.2.1 = (cP (sC S k (sZ S k - 1))).2 from rfl, hE2, bd_s]
      have := mk8_end (v := v) (uD_N h2 hN2) hb hk hs (aj J (cP (sC S k (sZ S k - 1))) (ae J v)).1 (aj J (cP (sC S k (sZ S k - 1))) (ae J v)).2
      rw [nI_clamp (show k < 2 ^ 31 by omega), zin_t hk (by decide)] at this
      exact this
theorem d_in2 (hj : j < 5) : zin ((2 : Int32) * nI j) 10 = true ∧ zin ((2 : Int32) * nI j + 1) 10 = true ∧ ((2 : Int32) * nI j).toNatClampNeg = 2 * j ∧ ((2 : Int32) * nI j + 1).toNatClampNeg = 2 * j + 1 ∧ (2 : Int32) * nI j = nI (2 * j) ∧ (2 : Int32) * nI j + 1 = nI (2 * j + 1) := by
  have e : (2 : Int32) * nI j = nI (2 * j) := pk_mul 2 j
  rw [e, nI_1]
  exact ⟨zin_t (by omega) (by decide), zin_t (by omega) (by decide), nI_clamp (by omega), nI_clamp (by omega), rfl, rfl⟩
theorem sizeOf_s (h : uD w0 J S T H w) (hj : j < 5) : fX8_sizeOf (nI j) w = some (nI (aN S j), w) := by
  have e := d_in2 hj
  rw [fX8_sizeOf, e.1, zg_t, e.2.1, zg_t, e.2.2.1, e.2.2.2.1, uD_z h (by omega), uD_z h (by omega), nI_add]; rfl
theorem placeOf_s (h : uD w0 J S T H w) (hj : j < 5) (hz : sZ S (2 * j) ≤ 64) {i : Nat} (hi : i < 2 ^ 31) : fX8_placeOf (nI j) (nI i) w = some (nI (64 * pK S j i + pH S j i), w) := by
  have e := d_in2 hj
  rw [fX8_placeOf, e.1, zg_t, e.2.2.1, uD_z h (by omega), e.2.2.2.2.2, e.2.2.2.2.1, lt_e]
  unfold pK pH
  by_cases c : sZ S (2 * j) ≤ i
  · rw [if_pos ((nI_leI (by omega) hi).mpr c), if_pos c, if_pos c, fX8_place, bd_s, pk_sub c, show (64 : Int32) = nI 64 from rfl, pk_mul, nI_add]
  · rw [if_neg (fun q => c ((nI_leI (by omega) hi).mp q)), if_neg c, if_neg c, fX8_place, bd_s, show (1 : Int32) = nI 1 from rfl, pk_sub (by omega), pk_sub (by omega), show (64 : Int32) = nI 64 from rfl, pk_mul, nI_add]
theorem itemAt8_s (h : uD w0 J S T H w) (hj : j < 5) (hz : aN S j ≤ 64) {i : Nat} (hi : i < aN S j) : fX8_itemAt (nI j) (nI i) w = some (nI (aI S j i), w) := by
  have h0 : sZ S (2 * j) ≤ 64 := by unfold aN at hz; omega
  have hp := pH_l hi
  have hk : pK S j i < 10 := pK_b hj
  have hq : sZ S (pK S j i) ≤ 64 := pK_64 hz
  rw [fX8_itemAt, placeOf_s h hj h0 (by omega), bd_s, zin_t (show 64 * pK S j i + pH S j i < 640 by omega) (by decide), zg_t, nI_clamp (by omega), ((h.2.1 _ hk).2 _ hp).1]
  rfl
theorem items_L (hj : j < 5) (hz : aN S j ≤ 64) : ∀ m N i w, i + m = aN S j → m < N → uD w0 J S T (hH (aI S j) i H) w → Ok (fX8_takesItems_L8 (nI j) (nI (aN S j)) N (nI i) w) (fun a w' => a = nI (aN S j) ∧ uD w0 J S T (hH (aI S j) (aN S j) H) w') := by
  intro m
  induction m with
  | zero =>
    intro N i w hm hN h
    obtain ⟨N, rfl⟩ : ∃ k, N = k + 1 := ⟨N - 1, by omega⟩
    rw [fX8_takesItems_L8.eq_2, if_pos (by rw [show aN S j = i by omega]; exact Int32.le_refl _)]
    exact ok_r ⟨rfl, by rw [show aN S j = i by omega]; exact h⟩
  | succ m ih =>
    intro N i w hm hN h
    obtain ⟨N, rfl⟩ : ∃ k, N = k + 1 := ⟨N - 1, by omega⟩
    rw [fX8_takesItems_L8.eq_2, if_neg (Int32.not_le.mpr (nI_lt (by omega) (by omega))), itemAt8_s h hj hz (by omega), bd_s, zin_t (show i < 65 by omega) (by decide), zg_t, lt_e, nI_clamp (by omega), nI_1]
    exact ih N (i + 1) _ (by omega) (by omega) (hH_s ▸ uD_88 h)
theorem items_s (h : uD w0 J S T H w) (hj : j < 5) (hz : aN S j ≤ 64) : Ok (fX8_takesItems (nI j) w) (fun a w' => a = nI (aN S j) ∧ uD w0 J S T (hH (aI S j) (aN S j) H) w') := by
  rw [fX8_takesItems, sizeOf_s h hj, bd_s]
  exact items_L hj hz (aN S j) zFU 0 w (by omega) (by rw [show zFU = 18446744073709551616 from rfl]; omega) (by rw [hH_0]; exact h)
theorem uD_Z (h : uD w0 J S T H w) {k n : Nat} (hk : k < 10) (hn : n ≤ sZ S k) : uD w0 J (zS k n S) T H (zsI w 83 k (nI n)) := by
  obtain ⟨a, b, c, d, e, f, g⟩ := h
  refine ⟨a, fun i hi => ⟨?_, fun x hx => ?_⟩, c, d, e, fun i j hi => ⟨?_, (f i j hi).2⟩, g⟩
  · by_cases q : i = k
    · subst q; rw [zI_zsI, if_pos ⟨rfl, rfl⟩, zS_z]
    · rw [zI_zsI, if_neg (fun z => q z.2), zS_zo q]; exact (b i hi).1
  · refine (b i hi).2 x ?_
    by_cases q : i = k
    · subst q; rw [zS_z] at hx; omega
    · rw [zS_zo q] at hx; exact hx
  · rw [zI_zsI, if_neg (by omega)]; exact (f i j hi).1
theorem zB_z {k n : Nat} (hb : zB S) (hn : n ≤ 64) : zB (zS k n S) := fun a ha => by
  by_cases q : a = k
  · subst q; rw [zS_z]; exact hn
  · rw [zS_zo q]; exact hb a ha
theorem zB_q {k m : Nat} {g : Nat → Nat} (hb : zB S) (hn : sZ S k + m ≤ 64) : zB (qS J k g m S) := fun a ha => by
  by_cases q : a = k
  · subst q; rw [qS_z]; exact hn
  · rw [qS_zo q]; exact hb a ha
theorem lays_L57 (hW : jW J) (hj : j < 5) {g : Nat → Nat} {fr n f : Nat} (hn : n ≤ 64) (hfn : f ≤ n) (hf : fr + n ≤ 64) (hH : ∀ i, i < n → H (fr + i) = nI (g i) ∧ g i < 10000) (hz : sZ S (2 * j + 1) = 0) (hb : zB S) : ∀ m N i w, i + m = n → f ≤ i → m < N → uD w0 J (qS J (2 * j + 1) (fun x => g (f + x)) (i - f) S) T H w → Ok (fX8_lays__L57 (nI j) (nI fr) (nI n) N (nI i) w) (fun _ w' => uD w0 J (qS J (2 * j + 1) (fun x => g (f + x)) (n - f) S) T H w') := by
  intro m
  induction m with
  | zero =>
    intro N i w hm hi hN h
    obtain ⟨N, rfl⟩ : ∃ k, N = k + 1 := ⟨N - 1, by omega⟩
    rw [fX8_lays__L57.eq_2, show i = n by omega, if_pos (Int32.le_refl _)]
    exact ok_r (by rw [← show i = n by omega]; exact h)
  | succ m ih =>
    intro N i w hm hi hN h
    obtain ⟨N, rfl⟩ : ∃ k, N = k + 1 := ⟨N - 1, by omega⟩
    rw [fX8_lays__L57.eq_2, if_neg (Int32.not_le.mpr (nI_lt (by omega) (by omega))), nI_add, zin_t (show fr + i < 65 by omega) (by decide), zg_t, nI_clamp (by omega), h.2.2.2.2.1, (hH i (by omega)).1, (d_in2 hj).2.2.2.2.2]
    have hV0 : kV J S (2 * j + 1) := fun x hx => absurd hx (by omega)
    refine ok_b (makes_s hW h (zB_q hb (by omega)) (k := 2 * j + 1) (v := g i) (by omega) (hH i (by omega)).2 (by rw [qS_z]; omega) (qS_V hW hV0 _ (fun x hx => (hH (f + x) (by omega)).2))) (fun _ w' h' => ?_)
    rw [nI_1]
    refine ih N (i + 1) w' (by omega) (by omega) (by omega) ?_
    rw [show i + 1 - f = (i - f) + 1 by omega]
    show uD w0 J (mS J (2 * j + 1) (g (f + (i - f))) _) T H w'
    rw [show f + (i - f) = i by omega]; exact h'
theorem lays_L26 (hW : jW J) (hj : j < 5) {g : Nat → Nat} {fr n f : Nat} (hn : n ≤ 64) (hfn : f ≤ n) (hf : fr + n ≤ 64) (hH : ∀ i, i < n → H (fr + i) = nI (g i) ∧ g i < 10000) (hz0 : sZ S (2 * j) = 0) (hz : sZ S (2 * j + 1) = 0) (hb : zB S) : ∀ r N w, r ≤ f → r < N → uD w0 J (qS J (2 * j) (fun x => g (f - 1 - x)) (f - r) S) T H w → Ok (fX8_lays__L26 (nI j) (nI fr) (nI n) (nI f) N (nI r - 1) w) (fun _ w' => uD w0 J (qS J (2 * j + 1) (fun x => g (f + x)) (n - f) (qS J (2 * j) (fun x => g (f - 1 - x)) f S)) T H w') := by
  intro r
  induction r with
  | zero =>
    intro N w hr hN h
    obtain ⟨N, rfl⟩ : ∃ k, N = k + 1 := ⟨N - 1, by omega⟩
    rw [fX8_lays__L26.eq_2, if_pos (show nI 0 - 1 < 0 by decide)]
    refine lays_L57 hW hj hn hfn hf hH (by rw [qS_zo (by omega)]; exact hz) (zB_q hb (by omega)) (n - f) zFU f w (by omega) (Nat.le_refl f) (by rw [show zFU = 18446744073709551616 from rfl]; omega) ?_
    rw [show f - f = 0 by omega]; exact h
  | succ r ih =>
    intro N w hr hN h
    obtain ⟨N, rfl⟩ : ∃ k, N = k + 1 := ⟨N - 1, by omega⟩
    rw [fX8_lays__L26.eq_2, nI_pred, if_neg (nI_pos (by omega)), nI_add, zin_t (show fr + r < 65 by omega) (by decide), zg_t, nI_clamp (by omega), h.2.2.2.2.1, (hH r (by omega)).1, (d_in2 hj).2.2.2.2.1]
    have hV0 : kV J S (2 * j) := fun x hx => absurd hx (by omega)
    refine ok_b (makes_s hW h (zB_q hb (by omega)) (k := 2 * j) (v := g r) (by omega) (hH r (by omega)).2 (by rw [qS_z]; omega) (qS_V hW hV0 _ (fun x hx => (hH (f - 1 - x) (by omega)).2))) (fun _ w' h' => ?_)
    rw [← Int32.sub_eq_add_neg]
    refine ih N w' (by omega) (by omega) ?_
    rw [show f - r = (f - (r + 1)) + 1 by omega]
    show uD w0 J (mS J (2 * j) (g (f - 1 - (f - (r + 1)))) _) T H w'
    rw [show f - 1 - (f - (r + 1)) = r by omega]; exact h'
theorem lay8_s (hW : jW J) (h : uD w0 J S T H w) (hb : zB S) (hj : j < 5) {g : Nat → Nat} {fr n f : Nat} (hn : n ≤ 64) (hfn : f ≤ n) (hf : fr + n ≤ 64) (hH : ∀ i, i < n → H (fr + i) = nI (g i) ∧ g i < 10000) : Ok (fX8_lays_ (nI j) (nI fr) (nI n) (nI f) w) (fun _ w' => uD w0 J (lS J j g f n S) T H w') := by
  have e := d_in2 hj
  rw [fX8_lays_, e.1, zg_t, lt_e, e.2.1, zg_t, lt_e, lt_e, e.2.2.1, e.2.2.2.1]
  have h2 := uD_Z h (k := 2 * j) (n := 0) (by omega) (by omega)
  have h3 := uD_Z h2 (k := 2 * j + 1) (n := 0) (by omega) (by omega)
  refine lays_L26 hW hj hn hfn hf hH ?_ ?_ (zB_z (zB_z hb (by omega)) (by omega)) f zFU _ (Nat.le_refl f) (by rw [show zFU = 18446744073709551616 from rfl]; omega) ?_
  · rw [zS_zo (by omega), zS_z]
  · rw [zS_z]
  · rw [show f - f = 0 by omega]; exact h3
theorem lS_B {g : Nat → Nat} {f n : Nat} (hb : zB S) (hn : n ≤ 64) (hf : f ≤ n) : zB (lS J j g f n S) := fun a ha => by
  by_cases h0 : a = 2 * j
  · subst h0; rw [lS_z0]; omega
  · by_cases h1 : a = 2 * j + 1
    · subst h1; rw [lS_z1]; omega
    · rw [lS_zo h0 h1]; exact hb a ha
theorem all8_L (hW : jW J) (hb : zB S) (hz : ∀ j, j < 4 → aN S j ≤ 64) (hI : ∀ a, a < 8 → kI S a) : ∀ m N i w, i + m = 4 → m < N → (∃ H', uD w0 J (rL J i S) T H' w) → Ok (fX8_laysAll_L2 N (nI i) w) (fun _ w' => ∃ H', uD w0 J (rL J 4 S) T H' w') := by
  intro m
  induction m with
  | zero =>
    intro N i w hm hN h
    obtain ⟨N, rfl⟩ : ∃ k, N = k + 1 := ⟨N - 1, by omega⟩
    rw [fX8_laysAll_L2.eq_2, show i = 4 by omega, if_pos (show (4 : Int32) ≤ nI 4 by decide)]
    exact ok_r (by rw [← show i = 4 by omega]; exact h)
  | succ m ih =>
    intro N i w hm hN h
    obtain ⟨N, rfl⟩ : ∃ k, N = k + 1 := ⟨N - 1, by omega⟩
    obtain ⟨H', h⟩ := h
    have hj : i < 5 := by omega
    have hz' : aN (rL J i S) i ≤ 64 := by rw [rL_n]; exact hz i (by omega)
    have h0 : kI (rL J i S) (2 * i) := rL_I i (by omega) (hI _ (by omega))
    have h1 : kI (rL J i S) (2 * i + 1) := rL_I i (by omega) (hI _ (by omega))
    have e := d_in2 hj
    rw [fX8_laysAll_L2.eq_2, if_neg (show ¬ (4 : Int32) ≤ nI i from Int32.not_le.mpr (nI_lt (b := 4) (by omega) (by decide))), e.1, zg_t, lt_e, e.2.2.1, uD_z h (by omega)]
    refine ok_b (items_s h hj hz') (fun a w1 a1 => ?_)
    obtain ⟨rfl, a1⟩ := a1
    refine ok_b (lay8_s hW a1 (fun a ha => by rw [rL_z]; exact hb a ha) hj (g := aI (rL J i S) i) (fr := 0) hz' (by unfold aN; omega) (by omega) (fun x hx => ⟨by rw [Nat.zero_add]; exact hH_a hx, aI_l h0 h1 hx⟩)) (fun _ w2 a2 => ?_)
    rw [nI_1]
    exact ih N (i + 1) w2 (by omega) (by omega) ⟨_, a2⟩
theorem all8_s (hW : jW J) (h : uD w0 J S T H w) (hb : zB S) (hz : ∀ j, j < 4 → aN S j ≤ 64) (hI : ∀ a, a < 8 → kI S a) : Ok (fX8_laysAll w) (fun _ w' => ∃ H', uD w0 J (rL J 4 S) T H' w') :=
  all8_L hW hb hz hI 4 zFU 0 w (by omega) (by rw [show zFU = 18446744073709551616 from rfl]; omega) ⟨H, h⟩
end R3
