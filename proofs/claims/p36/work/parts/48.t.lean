set_option maxRecDepth 16384
theorem ao_b {J : aJ} (hW : jW J) : bV J 0 (ao J) := by
  refine ⟨ao_V hW, fun e => ?_, fun e => ?_, fun e => ?_⟩
  · rw [ao_k e]; exact ⟨1, 0, by decide, by decide, rfl⟩
  · rw [ao_k e]; exact ⟨0, 0, by decide, by decide, rfl⟩
  · rw [ao_k e]; exact ⟨0, 0, by decide, by decide, rfl⟩
section ST
variable {J : aJ} {S : aS} {j : Nat}
theorem sF_b (hW : jW J) {a : Nat} : ∀ m, m ≤ 1000 → (∀ i, i < m → aI S j (a + i) < 10000) → bV J (10 * m) (sF J S j a m) := by
  intro m
  induction m with
  | zero => intro _ _; exact ao_b hW
  | succ m ih =>
    intro hm h
    have := aj_b hW (ih (by omega) fun i hi => h i (by omega)) (ae_b hW (h m (by omega))) (by omega)
    rw [show 10 * (m + 1) = 10 * m + 10 by omega]
    exact this
theorem sF_w {a m : Nat} : sF J S j a (m + 1) = aj J (sF J S j a m) (ae J (aI S j (a + m))) := rfl
theorem sF_cons (hW : jW J) {a : Nat} : ∀ m, m ≤ 100 → (∀ i, i < m + 2 → aI S j (a + i) < 10000) → aj J (ae J (aI S j a)) (sF J S j (a + 1) (m + 1)) = sF J S j a (m + 2) := by
  intro m
  induction m with
  | zero =>
    intro _ h
    have h0 : aI S j a < 10000 := h 0 (by omega)
    have h1 : aI S j (a + 1) < 10000 := h 1 (by omega)
    rw [sF_1 hW h1, sF_w, sF_1 hW h0]
  | succ m ih =>
    intro hm h
    have h0 : aI S j a < 10000 := h 0 (by omega)
    have hs : ∀ i, i < m + 1 → aI S j (a + 1 + i) < 10000 := fun i hi => by rw [Nat.add_assoc]; exact h (1 + i) (by omega)
    have hl : aI S j (a + 1 + (m + 1)) < 10000 := by rw [Nat.add_assoc]; exact h (1 + (m + 1)) (by omega)
    rw [sF_w, ← aj_as hW (ae_b hW h0) (sF_b hW (m + 1) (by omega) hs) (ae_b hW hl) (by omega), ih (by omega) (fun i hi => h i (by omega)), show a + 1 + (m + 1) = a + (m + 2) by omega]
    rfl
theorem sF_cat (hW : jW J) {a n : Nat} (hn : n ≤ 64) : ∀ m, m ≤ 64 → (∀ i, i < n + m + 1 → aI S j (a + i) < 10000) → aj J (sF J S j a n) (sF J S j (a + n) (m + 1)) = sF J S j a (n + m + 1) := by
  intro m
  induction m with
  | zero =>
    intro _ h
    rw [sF_1 hW (h n (by omega))]
    rfl
  | succ m ih =>
    intro hm h
    have hs : ∀ i, i < m + 1 → aI S j (a + n + i) < 10000 := fun i hi => by rw [Nat.add_assoc]; exact h (n + i) (by omega)
    have hl : aI S j (a + n + (m + 1)) < 10000 := by rw [Nat.add_assoc]; exact h (n + (m + 1)) (by omega)
    rw [sF_w, ← aj_as hW (sF_b hW n (by omega) (fun i hi => h i (by omega))) (sF_b hW (m + 1) (by omega) hs) (ae_b hW hl) (by omega), ih (by omega) (fun i hi => h i (by omega)), show a + n + (m + 1) = a + (n + m + 1) by omega]
    rfl
theorem aI_f' {i : Nat} (h : i < sZ S (2 * j)) : aI S j i = (sC S (2 * j) (sZ S (2 * j) - 1 - i)).1 := by
  unfold aI pK pH
  rw [if_neg (by omega), if_neg (by omega)]
theorem aI_k' {i : Nat} (h : sZ S (2 * j) ≤ i) : aI S j i = (sC S (2 * j + 1) (i - sZ S (2 * j))).1 := by
  unfold aI pK pH
  rw [if_pos h, if_pos h]
theorem cF_back (hW : jW J) (h1 : kV J S (2 * j + 1)) : ∀ x, x < sZ S (2 * j + 1) → cP (sC S (2 * j + 1) x) = sF J S j (sZ S (2 * j)) (x + 1) := by
  intro x
  induction x with
  | zero =>
    intro hx
    have h := h1 0 hx
    have e : aI S j (sZ S (2 * j)) = (sC S (2 * j + 1) 0).1 := by rw [aI_k' (Nat.le_refl _), Nat.sub_self]
    rw [sF_1 hW (by rw [e]; exact h.1), e, h.2.2]
    exact if_pos rfl
  | succ x ih =>
    intro hx
    have h := h1 (x + 1) hx
    have e : aI S j (sZ S (2 * j) + (x + 1)) = (sC S (2 * j + 1) (x + 1)).1 := by rw [aI_k' (Nat.le_add_right _ _), Nat.add_sub_cancel_left]
    rw [sF_w, e, ← ih (by omega), h.2.2]
    unfold lP
    rw [if_neg (by omega), if_neg (by omega), Nat.add_sub_cancel]
theorem cF_front (hW : jW J) (h0 : kV J S (2 * j)) (hz : sZ S (2 * j) ≤ 64) : ∀ x, x < sZ S (2 * j) → cP (sC S (2 * j) x) = sF J S j (sZ S (2 * j) - 1 - x) (x + 1) := by
  intro x
  induction x with
  | zero =>
    intro hx
    have h := h0 0 hx
    have e : aI S j (sZ S (2 * j) - 1 - 0) = (sC S (2 * j) 0).1 := by rw [aI_f' (by omega), show sZ S (2 * j) - 1 - (sZ S (2 * j) - 1 - 0) = 0 by omega]
    rw [sF_1 hW (by rw [e]; exact h.1), e, h.2.2]
    exact if_pos rfl
  | succ x ih =>
    intro hx
    have h := h0 (x + 1) hx
    have e : aI S j (sZ S (2 * j) - 1 - (x + 1)) = (sC S (2 * j) (x + 1)).1 := by rw [aI_f' (by omega), show sZ S (2 * j) - 1 - (sZ S (2 * j) - 1 - (x + 1)) = x + 1 by omega]
    have hI : ∀ i, i < sZ S (2 * j) → aI S j i < 10000 := fun i hi => by rw [aI_f' hi]; exact (h0 _ (by omega)).1
    have hs := sF_cons (S := S) (j := j) hW (a := sZ S (2 * j) - 1 - (x + 1)) x (by omega) (fun i hi => hI _ (by omega))
    rw [show sZ S (2 * j) - 1 - (x + 1) + 1 = sZ S (2 * j) - 1 - x by omega, ← ih (by omega), e] at hs
    rw [← hs, h.2.2]
    unfold lP
    rw [if_neg (by omega), if_pos (by omega), Nat.add_sub_cancel]
/-- both STACKS' tops come to the SUMMARY of all -/
theorem yF_s (hW : jW J) (h0 : kV J S (2 * j)) (h1 : kV J S (2 * j + 1)) (hz : aN S j ≤ 64) : yF J S j = sF J S j 0 (aN S j) := by
  unfold aN at hz ⊢
  unfold yF
  by_cases c0 : sZ S (2 * j) = 0
  · rw [if_pos c0]
    by_cases c1 : sZ S (2 * j + 1) = 0
    · rw [if_pos c1, c0, c1]; rfl
    · rw [if_neg c1, cF_back hW h1 _ (by omega), c0, show sZ S (2 * j + 1) - 1 + 1 = 0 + sZ S (2 * j + 1) by omega]
  · rw [if_neg c0]
    by_cases c1 : sZ S (2 * j + 1) = 0
    · rw [if_pos c1, cF_front hW h0 (by omega) _ (by omega), c1, show sZ S (2 * j) - 1 - (sZ S (2 * j) - 1) = 0 by omega, show sZ S (2 * j) - 1 + 1 = sZ S (2 * j) + 0 by omega]
    · have hI : ∀ i, i < sZ S (2 * j) + sZ S (2 * j + 1) → aI S j i < 10000 := fun i hi => aI_l (kV_I h0) (kV_I h1) hi
      rw [if_neg c1, cF_front hW h0 (by omega) _ (by omega), cF_back hW h1 _ (by omega), show sZ S (2 * j) - 1 - (sZ S (2 * j) - 1) = 0 by omega, show sZ S (2 * j) - 1 + 1 = sZ S (2 * j) by omega]
      have := sF_cat (S := S) (j := j) hW (a := 0) (n := sZ S (2 * j)) (by omega) (sZ S (2 * j + 1) - 1) (by omega) (fun i hi => by rw [Nat.zero_add]; exact hI i (by omega))
      rw [Nat.zero_add, show sZ S (2 * j) + (sZ S (2 * j + 1) - 1) + 1 = sZ S (2 * j) + sZ S (2 * j + 1) by omega] at this
      exact this
variable {w0 : zX} {w : zW} {T : aT} {H : Nat → Int32}
theorem entersSum_s {L : List Int64} (hW : jW J) (h : uD w0 J (rT L S) T H w) (hb : zB S) (hj : j < 5) (h0 : kV J S (2 * j)) (h1 : kV J S (2 * j + 1)) (hz : aN S j ≤ 64) (hl : L.length < 127) : Ok (fX8_entersSummary (nI j) w) (fun _ w' => uD w0 J (rT (L ++ [(sF J S j 0 (aN S j)).1] ++ [(sF J S j 0 (aN S j)).2]) S) T H w') := by
  rw [fX8_entersSummary]
  refine ok_b (summary_s (S := rT L S) hW h hb hj h0 h1) (fun _ w1 a1 => ?_)
  have ey : yF J (rT L S) j = sF J S j 0 (aN S j) := yF_s hW h0 h1 hz
  rw [a1.2.2.1, ey]
  refine ok_b (enters_s a1.1 (by omega) _) (fun _ w2 a2 => ?_)
  rw [a2.2.1 74 12 (by decide), a1.2.2.2, ey]
  exact ok_b (enters_s a2.1 (by rw [List.length_append]; show L.length + 1 < 128; omega) _) (fun _ w3 a3 => ok_r a3.1)
end ST
section SR
variable {w0 : zX} {w : zW} {J : aJ} {S : aS} {T : aT} {H : Nat → Int32} {L : List Int64} {j : Nat}
theorem size_r (h : uC w0 J (rT L S) T H w) (hj : j < 5) : fX1_size (LN j) w = some (nI (aN S j), w) := size_s (S := rT L S) h hj
theorem sizeOf_r (h : uD w0 J (rT L S) T H w) (hj : j < 5) : fX8_sizeOf (nI j) w = some (nI (aN S j), w) := sizeOf_s (S := rT L S) h hj
theorem sumUp_r (hW : jW J) (h : uC w0 J (rT L S) T H w) (hj : j < 5) (hz : aN S j ≤ 64) (hI : ∀ i, i < aN S j → aI S j i < 10000) {a b : Nat} (ha : a ≤ b) (hb : b ≤ aN S j) : Ok (fX7_sumUp (LN j) (nI a) (nI b) w) (fun _ w' => uC w0 J (rT L S) T H w' ∧ zL w' 1 2 = (sF J S j a (b - a)).1 ∧ zL w' 1 3 = (sF J S j a (b - a)).2) :=
  have e : ∀ m, sF J (rT L S) j a m = sF J S j a m := fun m => by
    induction m with
    | zero => rfl
    | succ m ih => show aj J (sF J (rT L S) j a m) (ae J (aI S j (a + m))) = aj J (sF J S j a m) (ae J (aI S j (a + m))); rw [ih]
  ok_m (sumUp_s (S := rT L S) hW h hj hz hI ha hb) (fun _ _ q => by rw [e] at q; exact q)
theorem sums_r (hW : jW J) (h : uD w0 J (rT L S) T H w) (hj : j < 5) (hz : aN S j ≤ 64) (hI : ∀ i, i < aN S j → aI S j i < 10000) {a n : Nat} (hb : a + n ≤ aN S j) : Ok (fX8_sums (nI j) (nI a) (nI n) w) (fun _ w' => uD w0 J (rT L S) T H w' ∧ zL w' 74 11 = (sF J S j a n).1 ∧ zL w' 74 12 = (sF J S j a n).2) :=
  have e : ∀ m, sF J (rT L S) j a m = sF J S j a m := fun m => by
    induction m with
    | zero => rfl
    | succ m ih => show aj J (sF J (rT L S) j a m) (ae J (aI S j (a + m))) = aj J (sF J S j a m) (ae J (aI S j (a + m))); rw [ih]
  ok_m (sums_s (S := rT L S) hW h hj hz hI hb) (fun _ _ q => by rw [e] at q; exact ⟨q.1, q.2.2⟩)
/-- told anew: p, q -/
theorem two_s {β : Type} {K : zW → Option (β × zW)} {P : β → zW → Prop} {p q : Int64} (h : uD w0 J S T H w) (hp : zL w 74 11 = p) (hq : zL w 74 12 = q) (hK : ∀ w', uD w0 J (rT [p, q] S) T H w' → Ok (K w') P) : Ok (lt (zsI w 74 1 (0 : Int32)) fun w3 => bd (fX8_enters (zL w3 74 11) w3) fun _ w4 => bd (fX8_enters (zL w4 74 12) w4) fun _ w5 => K w5) P := by
  rw [lt_e, show zL (zsI w 74 1 0) 74 11 = p from hp]
  refine ok_b (enters_s (L := []) (uD_1 h) (by decide) _) (fun _ w4 a4 => ?_)
  rw [a4.2.1 74 12 (by decide), show zL (zsI w 74 1 0) 74 12 = q from hq]
  exact ok_b (enters_s a4.1 (show 1 < 128 by decide) _) (fun _ w5 a5 => hK w5 a5.1)
/-- told anew: two numbers at hand -/
theorem two_t {β : Type} {K : zW → Option (β × zW)} {P : β → zW → Prop} {p q : Int64} (h : uD w0 J S T H w) (hK : ∀ w', uD w0 J (rT [p, q] S) T H w' → Ok (K w') P) : Ok (lt (zsI w 74 1 (0 : Int32)) fun w3 => bd (fX8_enters p w3) fun _ w4 => bd (fX8_enters q w4) fun _ w5 => K w5) P := by
  rw [lt_e]
  refine ok_b (enters_s (L := []) (uD_1 h) (by decide) _) (fun _ w4 a4 => ?_)
  exact ok_b (enters_s a4.1 (show 1 < 128 by decide) _) (fun _ w5 a5 => hK w5 a5.1)
end SR
