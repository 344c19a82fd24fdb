set_option maxRecDepth 16384
theorem LN_e {j b : Nat} (hb : b < 2) (w : zW) : fX1_pile (LN j) (nI b) w = some (oP (2 * j + b), w) := by
  rcases (show b = 0 ∨ b = 1 by omega) with rfl | rfl
  · rw [fX1_pile, if_neg (show ¬ ¬ nI 0 = 0 from not_not_intro rfl), LN_0]; rfl
  · rw [fX1_pile, if_pos (show ¬ nI 1 = 0 by decide), LN_1]
section CS
variable {w0 : zX} {w : zW} {J : aJ} {S : aS} {T : aT} {H : Nat → Int32} {j : Nat}
theorem uC_z (h : uC w0 J S T H w) {k : Nat} (hk : k < 10) : zI w (oP k) 0 = nI (sZ S k) := (h.2.1 k hk).1
theorem size_s (h : uC w0 J S T H w) (hj : j < 5) : fX1_size (LN j) w = some (nI (aN S j), w) := by
  rw [fX1_size, LN_0, LN_1, uC_z h (by omega), uC_z h (by omega), nI_add]; rfl
theorem endOf_s (h : uC w0 J S T H w) (hj : j < 5) (hz : sZ S (2 * j) ≤ 64) {i : Nat} (hi : i < 2 ^ 31) : fX1_endOf (LN j) (nI i) w = some (nI (if sZ S (2 * j) ≤ i then 1 else 0), w) := by
  rw [fX1_endOf, LN_0, uC_z h (by omega)]
  by_cases c : sZ S (2 * j) ≤ i
  · rw [if_pos ((nI_leI (by omega) hi).mpr c), if_pos c]; rfl
  · rw [if_neg (fun q => c ((nI_leI (by omega) hi).mp q)), if_neg c]; rfl
theorem heightOf_s (h : uC w0 J S T H w) (hj : j < 5) (hz : sZ S (2 * j) ≤ 64) {i : Nat} (hi : i < 2 ^ 31) : fX1_heightOf (LN j) (nI i) w = some (nI (pH S j i), w) := by
  rw [fX1_heightOf, LN_0, uC_z h (by omega)]
  unfold pH
  by_cases c : sZ S (2 * j) ≤ i
  · rw [if_pos ((nI_leI (by omega) hi).mpr c), if_pos c, pk_sub c]
  · rw [if_neg (fun q => c ((nI_leI (by omega) hi).mp q)), if_neg c, show (1 : Int32) = nI 1 from rfl, pk_sub (by omega), pk_sub (by omega)]
theorem pK_e {i : Nat} : pK S j i = 2 * j + (if sZ S (2 * j) ≤ i then 1 else 0) := by
  unfold pK
  by_cases c : sZ S (2 * j) ≤ i
  · rw [if_pos c, if_pos c]
  · rw [if_neg c, if_neg c]; rfl
theorem pile_s (h : uC w0 J S T H w) (hj : j < 5) (hz : sZ S (2 * j) ≤ 64) {i : Nat} : fX1_pile (LN j) (nI (if sZ S (2 * j) ≤ i then 1 else 0)) w = some (oP (pK S j i), w) := by
  rw [LN_e (by split <;> omega), pK_e]
theorem pH_l {i : Nat} (hi : i < aN S j) : pH S j i < sZ S (pK S j i) := by
  unfold aN at hi
  unfold pH pK
  by_cases c : sZ S (2 * j) ≤ i
  · rw [if_pos c, if_pos c]; omega
  · rw [if_neg c, if_neg c]; omega
theorem pK_b {i : Nat} (hj : j < 5) : pK S j i < 10 := by
  unfold pK
  split <;> omega
theorem pK_64 {i : Nat} (hz : aN S j ≤ 64) : sZ S (pK S j i) ≤ 64 := by
  unfold aN at hz
  unfold pK
  split <;> omega
theorem itemAt_s (h : uC w0 J S T H w) (hj : j < 5) (hz : aN S j ≤ 64) {i : Nat} (hi : i < aN S j) : fX1_itemAt (LN j) (nI i) w = some (nI (aI S j i), w) := by
  have h0 : sZ S (2 * j) ≤ 64 := by unfold aN at hz; omega
  have hp := pH_l hi
  have hk : pK S j i < 10 := pK_b hj
  have hq : sZ S (pK S j i) ≤ 64 := pK_64 hz
  rw [fX1_itemAt, endOf_s h hj h0 (by omega), bd_s, pile_s h hj h0, bd_s, heightOf_s h hj h0 (by omega), bd_s, ati_s w (zl_k _ hk).1 (by omega) (by decide), bd_s, ((h.2.1 _ hk).2 _ hp).1]
  rfl
/-- what is held behind hold, turn -/
def hH (g : Nat → Nat) (n : Nat) (H : Nat → Int32) : Nat → Int32 := fun x => if x < n then nI (g x) else H x
theorem hH_s {g : Nat → Nat} {n : Nat} {H : Nat → Int32} : (fun i => if i = n then nI (g n) else hH g n H i) = hH g (n + 1) H := by
  funext i
  unfold hH
  by_cases c : i = n
  · subst c; rw [if_pos rfl, if_pos (Nat.lt_succ_self i)]
  · rw [if_neg c]
    by_cases d : i < n
    · rw [if_pos d, if_pos (by omega)]
    · rw [if_neg d, if_neg (by omega)]
theorem hH_0 {g : Nat → Nat} {H : Nat → Int32} : hH g 0 H = H := by
  funext i
  exact if_neg (Nat.not_lt_zero i)
theorem hH_a {g : Nat → Nat} {n i : Nat} {H : Nat → Int32} (h : i < n) : hH g n H i = nI (g i) := if_pos h
theorem hold_L (hj : j < 5) (hz : aN S j ≤ 64) : ∀ m n i w, i + m = aN S j → m < n → uC w0 J S T (hH (aI S j) i H) w → Ok (fX6_hold_L2 (LN j) n (nI i) w) (fun _ w' => uC w0 J S T (hH (aI S j) (aN S j) H) w') := by
  intro m
  induction m with
  | zero =>
    intro n i w hm hn h
    obtain ⟨n, rfl⟩ : ∃ k, n = k + 1 := ⟨n - 1, by omega⟩
    rw [fX6_hold_L2.eq_2, size_s h hj, bd_s, if_pos (by rw [show aN S j = i by omega]; exact Int32.le_refl _)]
    exact ok_r (by rw [show aN S j = i by omega]; exact h)
  | succ m ih =>
    intro n i w hm hn h
    obtain ⟨n, rfl⟩ : ∃ k, n = k + 1 := ⟨n - 1, by omega⟩
    rw [fX6_hold_L2.eq_2, size_s h hj, bd_s, if_neg (Int32.not_le.mpr (nI_lt (by omega) (by omega))), itemAt_s h hj hz (by omega), bd_s, seti_s w _ zl_5 (by omega) (by decide), bd_s, nI_1]
    exact ih n (i + 1) _ (by omega) (by omega) (hH_s ▸ uC_5 h)
theorem hold_s (h : uC w0 J S T H w) (hj : j < 5) (hz : aN S j ≤ 64) : Ok (fX6_hold (LN j) w) (fun _ w' => uC w0 J S T (hH (aI S j) (aN S j) H) w') :=
  hold_L hj hz (aN S j) zFU 0 w (by omega) (by rw [show zFU = 18446744073709551616 from rfl]; omega) (by rw [hH_0]; exact h)
/-- a STACK's size changes -/
theorem uC_Z (h : uC w0 J S T H w) {k n : Nat} (hk : k < 10) (hn : n ≤ sZ S k) : uC w0 J (zS k n S) T H (zsI w (oP k) 0 (nI n)) := by
  obtain ⟨a, b, c, d, e, f⟩ := h
  have ho := oP_b k hk
  have hI : ∀ x y, x ≠ oP k ∨ y ≠ 0 → zI (zsI w (oP k) 0 (nI n)) x y = zI w x y := fun x y hx => by rw [zI_zsI, if_neg (by omega)]
  refine ⟨⟨?_, ?_, ?_, fun i j hi hj => ?_⟩, fun i hi => ?_, ⟨?_, ?_⟩, ⟨?_, fun i hi => ?_⟩, fun i => ?_, fun i j hi => ⟨?_, ?_⟩, f.2⟩
  · rw [hI _ _ (by omega)]; exact a.1
  · rw [hI _ _ (by omega)]; exact a.2.1
  · rw [hI _ _ (by omega)]; exact a.2.2.1
  · rw [hI _ _ (by omega)]; exact a.2.2.2 i j hi hj
  · have hoi := oP_b i hi
    have hd : ∀ t, 1 ≤ t → t ≤ 4 → oP i + t ≠ oP k := fun t h1 h2 => by
      by_cases q : i = k
      · subst q; omega
      · have := oP_n q; omega
    by_cases q : i = k
    · subst q
      refine ⟨by rw [zI_zsI, if_pos ⟨rfl, rfl⟩, zS_z], fun x hx => ?_⟩
      rw [zS_z] at hx
      have hb := (b i hi).2 x (by omega)
      exact ⟨by rw [hI _ _ (.inl (hd 1 (by omega) (by omega)))]; exact hb.1, hb.2.1, hb.2.2.1, by rw [hI _ _ (.inl (hd 4 (by omega) (by omega)))]; exact hb.2.2.2⟩
    · refine ⟨by rw [hI _ _ (.inl (by have := oP_n q; omega)), zS_zo q]; exact (b i hi).1, fun x hx => ?_⟩
      rw [zS_zo q] at hx
      have hb := (b i hi).2 x hx
      exact ⟨by rw [hI _ _ (.inl (hd 1 (by omega) (by omega)))]; exact hb.1, hb.2.1, hb.2.2.1, by rw [hI _ _ (.inl (hd 4 (by omega) (by omega)))]; exact hb.2.2.2⟩
  · rw [hI _ _ (by omega)]; exact c.1
  · rw [hI _ _ (by omega)]; exact c.2
  · rw [hI _ _ (by omega)]; exact d.1
  · rw [hI _ _ (by omega)]; exact d.2 i hi
  · rw [hI _ _ (by omega)]; exact e i
  · rw [hI _ _ (by omega)]; exact (f.1 i j hi).1
  · exact (f.1 i j hi).2
theorem lay_L57 (hW : jW J) (hj : j < 5) {g : Nat → Nat} {fr n f : Nat} (hn : n ≤ 64) (hfn : f ≤ n) (hf : fr + n ≤ 64) (hH : ∀ i, i < n → H (fr + i) = nI (g i) ∧ g i < 10000) (hz : sZ S (2 * j + 1) = 0) : ∀ m N i w, i + m = n → f ≤ i → m < N → uC w0 J (qS J (2 * j + 1) (fun x => g (f + x)) (i - f) S) T H w → Ok (fX6_lay_L57 (LN j) (nI fr) (nI n) N (nI i) w) (fun _ w' => uC w0 J (qS J (2 * j + 1) (fun x => g (f + x)) (n - f) S) T H w') := by
  intro m
  induction m with
  | zero =>
    intro N i w hm hi hN h
    obtain ⟨N, rfl⟩ : ∃ k, N = k + 1 := ⟨N - 1, by omega⟩
    rw [fX6_lay_L57.eq_2, show i = n by omega, if_pos (Int32.le_refl _)]
    exact ok_r (by rw [← show i = n by omega]; exact h)
  | succ m ih =>
    intro N i w hm hi hN h
    obtain ⟨N, rfl⟩ : ∃ k, N = k + 1 := ⟨N - 1, by omega⟩
    rw [fX6_lay_L57.eq_2, if_neg (Int32.not_le.mpr (nI_lt (by omega) (by omega))), nI_add, ati_s w zl_5 (by omega) (by decide), bd_s, h.2.2.2.2.1, (hH i (by omega)).1, LN_1]
    have hV0 : kV J S (2 * j + 1) := fun x hx => absurd hx (by omega)
    refine ok_b (make_s hW h (k := 2 * j + 1) (v := g i) (by omega) (by rw [show (2 * j + 1) % 2 = 1 by omega]; rfl) (hH i (by omega)).2 (by rw [qS_z]; omega) (qS_V hW hV0 _ (fun x hx => (hH (f + x) (by omega)).2))) (fun _ w' h' => ?_)
    rw [nI_1]
    refine ih N (i + 1) w' (by omega) (by omega) (by omega) ?_
    rw [show i + 1 - f = (i - f) + 1 by omega]
    show uC w0 J (mS J (2 * j + 1) (g (f + (i - f))) _) T H w'
    rw [show f + (i - f) = i by omega]; exact h'
theorem lay_L22 (hW : jW J) (hj : j < 5) {g : Nat → Nat} {fr n f : Nat} (hn : n ≤ 64) (hfn : f ≤ n) (hf : fr + n ≤ 64) (hH : ∀ i, i < n → H (fr + i) = nI (g i) ∧ g i < 10000) (hz0 : sZ S (2 * j) = 0) (hz : sZ S (2 * j + 1) = 0) : ∀ r N w, r ≤ f → r < N → uC w0 J (qS J (2 * j) (fun x => g (f - 1 - x)) (f - r) S) T H w → Ok (fX6_lay_L22 (LN j) (nI fr) (nI n) (nI f) N (nI r - 1) w) (fun _ w' => uC w0 J (qS J (2 * j + 1) (fun x => g (f + x)) (n - f) (qS J (2 * j) (fun x => g (f - 1 - x)) f S)) T H w') := by
  intro r
  induction r with
  | zero =>
    intro N w hr hN h
    obtain ⟨N, rfl⟩ : ∃ k, N = k + 1 := ⟨N - 1, by omega⟩
    rw [fX6_lay_L22.eq_2, if_pos (show nI 0 - 1 < 0 by decide)]
    refine lay_L57 hW hj hn hfn hf hH (by rw [qS_zo (by omega)]; exact hz) (n - f) zFU f w (by omega) (Nat.le_refl f) (by rw [show zFU = 18446744073709551616 from rfl]; omega) ?_
    rw [show f - f = 0 by omega]; exact h
  | succ r ih =>
    intro N w hr hN h
    obtain ⟨N, rfl⟩ : ∃ k, N = k + 1 := ⟨N - 1, by omega⟩
    rw [fX6_lay_L22.eq_2, nI_pred, if_neg (nI_pos (by omega)), nI_add, ati_s w zl_5 (by omega) (by decide), bd_s, h.2.2.2.2.1, (hH r (by omega)).1, LN_0]
    have hV0 : kV J S (2 * j) := fun x hx => absurd hx (by omega)
    refine ok_b (make_s hW h (k := 2 * j) (v := g r) (by omega) (by rw [show (2 * j) % 2 = 0 by omega]; rfl) (hH r (by omega)).2 (by rw [qS_z]; omega) (qS_V hW hV0 _ (fun x hx => (hH (f - 1 - x) (by omega)).2))) (fun _ w' h' => ?_)
    rw [← Int32.sub_eq_add_neg]
    refine ih N w' (by omega) (by omega) ?_
    rw [show f - r = (f - (r + 1)) + 1 by omega]
    show uC w0 J (mS J (2 * j) (g (f - 1 - (f - (r + 1)))) _) T H w'
    rw [show f - 1 - (f - (r + 1)) = r by omega]; exact h'
theorem lay_s (hW : jW J) (h : uC w0 J S T H w) (hj : j < 5) {g : Nat → Nat} {fr n f : Nat} (hn : n ≤ 64) (hfn : f ≤ n) (hf : fr + n ≤ 64) (hH : ∀ i, i < n → H (fr + i) = nI (g i) ∧ g i < 10000) : Ok (fX6_lay (LN j) (nI fr) (nI n) (nI f) w) (fun _ w' => uC w0 J (lS J j g f n S) T H w') := by
  rw [fX6_lay, lt_e, lt_e, lt_e, LN_0, LN_1]
  have h2 := uC_Z h (k := 2 * j) (n := 0) (by omega) (by omega)
  have h3 := uC_Z h2 (k := 2 * j + 1) (n := 0) (by omega) (by omega)
  refine lay_L22 hW hj hn hfn hf hH ?_ ?_ f zFU _ (Nat.le_refl f) (by rw [show zFU = 18446744073709551616 from rfl]; omega) ?_
  · rw [zS_zo (by omega), zS_z]
  · rw [zS_z]
  · rw [show f - f = 0 by omega]; exact h3
end CS
