set_option maxRecDepth 16384
def sW (J : aJ) (S : aS) : Prop := (∀ j, j < 4 → aN S j ≤ 64) ∧ (∀ k, k < 8 → kV J S k) ∧ aN S 4 = 0
def tW (T : aT) : Prop := T.1 ≤ 100 ∧ ∀ i, T.2 i < 256
def rW (J : aJ) (S : aS) (T : aT) (w : zW) : Prop := jW J ∧ sW J S ∧ tW T ∧ (∃ H, uC (w, False) J S T H w) ∧ ∃ H, uD (w, False) J S T H w
/-- both answer, P of the answers, and the states stay alike -/
def Bq {α β : Type} (f : zW → Option (α × zW)) (g : zW → Option (β × zW)) (P : α → β → Prop) (w : zW) : Prop := ∃ x y w1 w2, f w = some (x, w1) ∧ g w1 = some (y, w2) ∧ P x y ∧ ∃ J S T, rW J S T w2
section BW
variable {J J' : aJ} {S S' : aS} {T T' : aT} {w w1 w2 : zW} {H H' : Nat → Int32}
theorem uD_m (h : uD (w, False) J S T H w) (hC : uC (w, False) J' S' T' H' w1) : uD (w1, False) J S T H w1 := by
  obtain ⟨a, b, c, d, e, f, g⟩ := h
  have hI : ∀ k j, 74 ≤ k → zI w1 k j = zI w k j := fun k j hk => (hC.2.2.2.2.2.1 k j hk).1
  have hL : ∀ k j, 74 ≤ k → zL w1 k j = zL w k j := fun k j hk => (hC.2.2.2.2.2.1 k j hk).2
  refine ⟨⟨?_, ?_, ?_, fun i j hi hj => ?_⟩, fun k hk => ⟨?_, fun x hx => ⟨?_, ?_, ?_, ?_⟩⟩, ⟨?_, ?_⟩, ⟨?_, fun i hi => ?_⟩, fun i => ?_, fun k j hk => ⟨rfl, rfl⟩, rfl, g.2.elim (fun t q => ⟨t, q.1, (hI 74 1 (by omega)).trans q.2⟩)⟩
  · rw [hI _ _ (by omega)]; exact a.1
  · rw [hI _ _ (by omega)]; exact a.2.1
  · rw [hI _ _ (by omega)]; exact a.2.2.1
  · rw [hI _ _ (by omega)]; exact a.2.2.2 i j hi hj
  · rw [hI _ _ (by omega)]; exact (b k hk).1
  · rw [hI _ _ (by omega)]; exact ((b k hk).2 x hx).1
  · rw [hL _ _ (by omega)]; exact ((b k hk).2 x hx).2.1
  · rw [hL _ _ (by omega)]; exact ((b k hk).2 x hx).2.2.1
  · rw [hI _ _ (by omega)]; exact ((b k hk).2 x hx).2.2.2
  · rw [hI _ _ (by omega)]; exact c.1
  · rw [hI _ _ (by omega)]; exact c.2
  · rw [hI _ _ (by omega)]; exact d.1
  · rw [hI _ _ (by omega)]; exact d.2 i hi
  · rw [hI _ _ (by omega)]; exact e i
theorem uC_m (h : uC (w, False) J S T H w1) (hD : uD (w1, False) J' S' T' H' w2) : uC (w2, False) J S T H w2 := by
  obtain ⟨a, b, c, d, e, f⟩ := h
  have hI : ∀ k j, k < 74 → zI w2 k j = zI w1 k j := fun k j hk => (hD.2.2.2.2.2.1 k j (.inl hk)).1
  have hL : ∀ k j, k < 74 → zL w2 k j = zL w1 k j := fun k j hk => (hD.2.2.2.2.2.1 k j (.inl hk)).2
  refine ⟨⟨?_, ?_, ?_, fun i j hi hj => ?_⟩, fun k hk => ⟨?_, fun x hx => ⟨?_, ?_, ?_, ?_⟩⟩, ⟨?_, ?_⟩, ⟨?_, fun i hi => ?_⟩, fun i => ?_, fun k j hk => ⟨rfl, rfl⟩, PR_e f.2 hD.2.2.2.2.2.2.1⟩
  · rw [hI _ _ (by omega)]; exact a.1
  · rw [hI _ _ (by omega)]; exact a.2.1
  · rw [hI _ _ (by omega)]; exact a.2.2.1
  · rw [hI _ _ (by omega)]; exact a.2.2.2 i j hi hj
  · rw [hI _ _ (by unfold oP; omega)]; exact (b k hk).1
  · rw [hI _ _ (by unfold oP; omega)]; exact ((b k hk).2 x hx).1
  · rw [hL _ _ (by unfold oP; omega)]; exact ((b k hk).2 x hx).2.1
  · rw [hL _ _ (by unfold oP; omega)]; exact ((b k hk).2 x hx).2.2.1
  · rw [hI _ _ (by unfold oP; omega)]; exact ((b k hk).2 x hx).2.2.2
  · rw [hI _ _ (by omega)]; exact c.1
  · rw [hI _ _ (by omega)]; exact c.2
  · rw [hI _ _ (by omega)]; exact d.1
  · rw [hI _ _ (by omega)]; exact d.2 i hi
  · rw [hI _ _ (by omega)]; exact e i
/-- what a call comes to, on both sides -/
theorem bq {α β : Type} {f : zW → Option (α × zW)} {g : zW → Option (β × zW)} {P : α → β → Prop} (h : rW J S T w) (J' : aJ) (S' : aS) (T' : aT) (hJ : jW J') (hS : sW J' S') (hT : tW T') (A : α → Prop) (B : β → Prop) (hP : ∀ x y, A x → B y → P x y) (hf : ∀ H, uC (w, False) J S T H w → Ok (f w) (fun a w1 => A a ∧ ∃ H', uC (w, False) J' S' T' H' w1)) (hg : ∀ w1 H, uD (w1, False) J S T H w1 → Ok (g w1) (fun a w2 => B a ∧ ∃ H', uD (w1, False) J' S' T' H' w2)) : Bq f g P w := by
  obtain ⟨-, -, -, ⟨H, hC⟩, H2, hD⟩ := h
  obtain ⟨a, w1, e1, ha, H', hC1⟩ := hf H hC
  obtain ⟨b, w2, e2, hb, H3, hD2⟩ := hg w1 H2 (uD_m hD hC1)
  refine ⟨a, b, w1, w2, e1, e2, hP a b ha hb, J', S', T', hJ, hS, hT, ⟨H', uC_m hC1 hD2⟩, H3, ?_⟩
  obtain ⟨q1, q2, q3, q4, q5, q6, q7⟩ := hD2
  exact ⟨q1, q2, q3, q4, q5, fun k j _ => ⟨rfl, rfl⟩, rfl, q7.2⟩
theorem uD_0 {x0 : zX} (h : uD x0 J S T H w1) : uD x0 J S T H (zsI w1 74 0 0) := uD_I h (by unfold fD; omega)
theorem uD_1 {x0 : zX} {v : Int32} (h : uD x0 J S T H w1) (hv : v = 0 := by rfl) : uD x0 J S T H (zsI w1 74 1 v) := by
  subst hv; exact uD_c (n := 0) h (by decide)
/-- both answer x, and no more -/
theorem bq_x {α : Type} {f g : zW → Option (α × zW)} (h : rW J S T w) (x : α) (hf : ∀ H, uC (w, False) J S T H w → f w = some (x, w)) (hg : ∀ w1 H, uD (w1, False) J S T H w1 → g w1 = some (x, zsI w1 74 0 0)) : Bq f g Eq w :=
  bq h J S T h.1 h.2.1 h.2.2.1 (· = x) (· = x) (fun _ _ a b => a.trans b.symm) (fun H hC => by rw [hf H hC]; exact ok_r ⟨rfl, H, hC⟩) (fun w1 H hD => by rw [hg w1 H hD]; exact ok_r ⟨rfl, H, uD_0 hD⟩)
/-- both answer x -/
theorem bq_e {α : Type} {f g : zW → Option (α × zW)} (h : rW J S T w) (J' : aJ) (S' : aS) (T' : aT) (hJ : jW J') (hS : sW J' S') (hT : tW T') (x : α) (hf : ∀ H, uC (w, False) J S T H w → Ok (f w) (fun a w1 => a = x ∧ ∃ H', uC (w, False) J' S' T' H' w1)) (hg : ∀ w1 H, uD (w1, False) J S T H w1 → Ok (g w1) (fun a w2 => a = x ∧ ∃ H', uD (w1, False) J' S' T' H' w2)) : Bq f g Eq w :=
  bq h J' S' T' hJ hS hT (· = x) (· = x) (fun _ _ a b => a.trans b.symm) hf hg
end BW
theorem ln (a : Int32) : (a < 0 ∨ nI 4 ≤ a) ∨ ∃ j, j < 4 ∧ a = nI j := by
  rcases pk_ix a (n := 4) (by decide) with h | h | h
  · exact .inl (.inl h)
  · exact .inl (.inr h)
  · exact .inr h
theorem en (a : Int32) : ((∀ w, fX7_isEnd a w = some (false, w)) ∧ ∀ w, fX8_isEnd a w = some (false, w)) ∨ ∃ e, e < 2 ∧ a = nI e ∧ (∀ w, fX7_isEnd a w = some (true, w)) ∧ ∀ w, fX8_isEnd a w = some (true, w) := by
  rcases ed a with rfl | rfl | h
  · exact .inr ⟨0, by decide, rfl, fun w => rfl, fun w => rfl⟩
  · exact .inr ⟨1, by decide, rfl, fun w => rfl, fun w => rfl⟩
  · exact .inl h
theorem im (a : Int32) : ((∀ w, fX7_isItem a w = some (false, w)) ∧ ∀ w, fX8_isItem a w = some (false, w)) ∨ ∃ v, v < 10000 ∧ a = nI v ∧ (∀ w, fX7_isItem a w = some (true, w)) ∧ ∀ w, fX8_isItem a w = some (true, w) := by
  rcases itm a with ⟨-, h1, h2⟩ | ⟨h1, h2, h3, h4⟩
  · exact .inl ⟨h1, h2⟩
  · right
    rcases i01 (n := 9999) (by decide) h2 with q | ⟨j, hj, e⟩
    · exact absurd q h1
    · exact ⟨j, by omega, e, h3, h4⟩
theorem ff {α : Type} {a b : α} : (if false = true then a else b) = b := if_neg Bool.false_ne_true
theorem tt {α : Type} {a b : α} : (if true = true then a else b) = a := if_pos rfl
theorem sW_B {J : aJ} {S : aS} (h : sW J S) : zB S := fun a ha => by
  have h4 : sZ S 8 + sZ S 9 = 0 := h.2.2
  by_cases c : a < 8
  · have := h.1 (a / 2) (by omega)
    unfold aN at this
    rcases (show a = 2 * (a / 2) ∨ a = 2 * (a / 2) + 1 by omega) with e | e
    · rw [e]; omega
    · rw [e]; omega
  · rcases (show a = 8 ∨ a = 9 by omega) with rfl | rfl
    · omega
    · omega
theorem sW_V {J : aJ} {S : aS} (h : sW J S) {k : Nat} (hk : k < 10) : kV J S k := by
  by_cases c : k < 8
  · exact h.2.1 k c
  · have h4 : sZ S 8 + sZ S 9 = 0 := h.2.2
    intro x hx
    rcases (show k = 8 ∨ k = 9 by omega) with rfl | rfl
    · omega
    · omega
theorem sW_n {J : aJ} {S : aS} (h : sW J S) {j : Nat} (hj : j < 5) : aN S j ≤ 64 := by
  by_cases c : j < 4
  · exact h.1 j c
  · rw [show j = 4 by omega, h.2.2]; omega
/-- a state that is alike but for the STACKS of the LINE j -/
theorem sW_l {J : aJ} {S S' : aS} (h : sW J S) {j : Nat} (hj : j < 4) (hz : ∀ a, a ≠ 2 * j → a ≠ 2 * j + 1 → sZ S' a = sZ S a) (hc : ∀ a, a ≠ 2 * j → a ≠ 2 * j + 1 → ∀ x, sC S' a x = sC S a x) (h0 : kV J S' (2 * j)) (h1 : kV J S' (2 * j + 1)) (hn : aN S' j ≤ 64) : sW J S' := by
  refine ⟨fun i hi => ?_, fun k hk => ?_, ?_⟩
  · by_cases c : i = j
    · rw [c]; exact hn
    · unfold aN; rw [hz _ (by omega) (by omega), hz _ (by omega) (by omega)]; exact h.1 i hi
  · by_cases c0 : k = 2 * j
    · rw [c0]; exact h0
    · by_cases c1 : k = 2 * j + 1
      · rw [c1]; exact h1
      · intro x hx
        rw [hz k c0 c1] at hx
        rw [hc k c0 c1]; exact h.2.1 k hk x hx
  · unfold aN; rw [hz _ (by omega) (by omega), hz _ (by omega) (by omega)]; exact h.2.2
theorem lN_n {S : aS} {J : aJ} {j f n : Nat} {g : Nat → Nat} (hf : f ≤ n) : aN (lS J j g f n S) j = n := by
  unfold aN; rw [lS_z0, lS_z1]; omega
