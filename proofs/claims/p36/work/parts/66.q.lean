set_option maxRecDepth 16384
section Q6
variable {J : aJ} {S : aS} {T : aT} {w w1 w2 : zW} {H H' : Nat → Int32}
theorem cI_b {k j : Nat} (h : 7 ≤ k) (h2 : k ≤ 61) : cI k j = true ∧ cL k j = true := by
  have e1 : Nat.ble 7 k = true := Nat.ble_eq.mpr h
  have e2 : Nat.ble k 61 = true := Nat.ble_eq.mpr h2
  unfold cI cL
  rw [e1, e2]
  simp
theorem cI_83 {j : Nat} (h : j < 10) : cI 83 j = true := by
  rcases (show j = 0 ∨ j = 1 ∨ j = 2 ∨ j = 3 ∨ j = 4 ∨ j = 5 ∨ j = 6 ∨ j = 7 ∨ j = 8 ∨ j = 9 by omega) with rfl | rfl | rfl | rfl | rfl | rfl | rfl | rfl | rfl | rfl <;> rfl
theorem cI_8 {j : Nat} (h : j ≤ 511) : cI 84 j = true ∧ cI 85 j = true ∧ cL 86 j = true ∧ cL 87 j = true := by
  have e : Nat.ble j 511 = true := Nat.ble_eq.mpr h
  unfold cI cL
  rw [e]
  exact ⟨rfl, rfl, rfl, rfl⟩
theorem rW_Q (h : rW J S T w) (q : Qc w w1) : rW J S T w1 := by
  obtain ⟨hW, hS, hT, ⟨H, c1, c2, c3, c4, c5, c6⟩, H2, d1, d2, d3, d4, d5, d6, d7⟩ := id h
  have hb := sW_B hS
  have h0 : sZ S 8 + sZ S 9 = 0 := hS.2.2
  refine ⟨hW, hS, hT, ⟨zI w1 5, ⟨?_, ?_, ?_, fun i j hi hj => ?_⟩, fun k hk => ⟨?_, fun x hx => ⟨?_, ?_, ?_, ?_⟩⟩, ⟨?_, ?_, ?_, c3.2.2.2.1, fun i v hv => ?_⟩, ⟨?_, fun i hi => ?_⟩, fun i => rfl, fun k j hk => ⟨rfl, rfl⟩, q.2.2 c6.2⟩, zI w1 88, ⟨?_, ?_, ?_, fun i j hi hj => ?_⟩, fun k hk => ⟨?_, fun x hx => ?_⟩, ⟨?_, ?_, ?_, d3.2.2.2.1, fun i v hv => ?_⟩, ⟨?_, fun i hi => ?_⟩, fun i => rfl, fun k j hk => ⟨rfl, rfl⟩, rfl⟩
  · rw [q.1 1 0 rfl]; exact c1.1
  · rw [q.1 2 0 rfl]; exact c1.2.1
  · rw [q.1 2 1 rfl]; exact c1.2.2.1
  · rw [q.1 3 _ rfl]; exact c1.2.2.2 i j hi hj
  · rw [q.1 _ _ (cI_b (by unfold oP; omega) (by unfold oP; omega)).1]; exact (c2 k hk).1
  · rw [q.1 _ _ (cI_b (by unfold oP; omega) (by unfold oP; omega)).1]; exact ((c2 k hk).2 x hx).1
  · rw [q.2.1 _ _ (cI_b (by unfold oP; omega) (by unfold oP; omega)).2]; exact ((c2 k hk).2 x hx).2.1
  · rw [q.2.1 _ _ (cI_b (by unfold oP; omega) (by unfold oP; omega)).2]; exact ((c2 k hk).2 x hx).2.2.1
  · rw [q.1 _ _ (cI_b (by unfold oP; omega) (by unfold oP; omega)).1]; exact ((c2 k hk).2 x hx).2.2.2
  · rw [q.1 4 1 rfl]; exact c3.1
  · rw [q.1 4 2 rfl]; exact c3.2.1
  · rw [q.1 0 8 rfl]; exact c3.2.2.1
  · rw [q.2.1 71 i rfl]; exact c3.2.2.2.2 i v hv
  · rw [q.1 64 0 rfl]; exact c4.1
  · rw [q.1 65 i rfl]; exact c4.2 i hi
  · rw [q.1 74 7 rfl]; exact d1.1
  · rw [q.1 74 8 rfl]; exact d1.2.1
  · rw [q.1 74 9 rfl]; exact d1.2.2.1
  · rw [q.1 77 _ rfl]; exact d1.2.2.2 i j hi hj
  · rw [q.1 83 k (cI_83 hk)]; exact (d2 k hk).1
  · have hk8 : k < 8 := by
      by_cases z : k < 8
      · exact z
      · rcases (show k = 8 ∨ k = 9 by omega) with rfl | rfl <;> omega
    have := hb k hk
    have e := cI_8 (j := 64 * k + x) (by omega)
    have z := (d2 k hk).2 x hx
    rw [q.1 85 _ e.2.1, q.2.1 86 _ e.2.2.1, q.2.1 87 _ e.2.2.2, q.1 84 _ e.1]; exact z
  · rw [q.1 74 23 rfl]; exact d3.1
  · rw [q.1 74 24 rfl]; exact d3.2.1
  · rw [q.1 74 1 rfl]; exact d3.2.2.1
  · rw [q.2.1 75 i rfl]; exact d3.2.2.2.2 i v hv
  · rw [q.1 74 4 rfl]; exact d4.1
  · rw [q.1 76 i rfl]; exact d4.2 i hi
theorem rW_Sz (h : rW J S T w) : Sz w := by
  obtain ⟨hW, hS, hT, ⟨H, hC⟩, -⟩ := id h
  intro x hx
  obtain ⟨j, hj, rfl⟩ : ∃ j, j < 4 ∧ x = LN j := by
    rcases hx with rfl | rfl | rfl | rfl
    · exact ⟨0, by decide, rfl⟩
    · exact ⟨1, by decide, rfl⟩
    · exact ⟨2, by decide, rfl⟩
    · exact ⟨3, by decide, rfl⟩
  have hz := hS.1 j hj
  have hx2 : sZ S (2 * j) + sZ S (2 * j + 1) ≤ 64 := hz
  unfold szF
  rw [LN_0, LN_1, uC_z hC (by omega), uC_z hC (by omega), nI_add, nI_clamp (by omega)]
  exact ⟨rfl, hx2⟩
theorem flag_t (c : Int32) (w : zW) : ∃ b, fX8_flag c w = some (b, w) := by
  rw [fX8_flag]
  by_cases q : c = 0
  · exact ⟨0, if_pos q⟩
  · exact ⟨1, if_neg q⟩
/-- the class has told L, the reference not yet -/
def rM (J : aJ) (S : aS) (L : List Int64) (T : aT) (w : zW) : Prop := (∃ H, uC (w, False) J (rT L S) T H w) ∧ ∃ H, uD (w, False) J S T H w
theorem rM_0 (h : rW J S T w) : rM J S (sR S) T w := ⟨h.2.2.2.1, h.2.2.2.2⟩
theorem tell_m1 (h : rW J S T w) (a : Int64) : ∃ w', fX7_tell a w = some ((), w') ∧ rM J S [a] T w' := by
  obtain ⟨hW, hS, hT, ⟨H, hC⟩, H2, hD⟩ := h
  obtain ⟨_, w', e, h1⟩ := tell1_s hC a
  exact ⟨w', e, ⟨H, uC_sf h1⟩, H2, uD_m hD h1⟩
theorem tell_m2 (h : rW J S T w) (a b : Int64) : ∃ w', fX7_tell_ a b w = some ((), w') ∧ rM J S [a, b] T w' := by
  obtain ⟨hW, hS, hT, ⟨H, hC⟩, H2, hD⟩ := h
  obtain ⟨_, w', e, h1⟩ := tell2_s hC a b
  exact ⟨w', e, ⟨H, uC_sf h1⟩, H2, uD_m hD h1⟩
/-- a question, by its halves, the class's by what it leaves as it was -/
theorem bh_m {α β : Type} {f : zW → Option (α × zW)} {g : zW → Option (β × zW)} {P : α → β → Prop} (A : α → List Int64 → Prop) (B : β → List Int64 → Prop) (hP : ∀ x y L M, A x L → B y M → P x y ∧ L = M) (h : rW J S T w) (hf : Ok (f w) (fun a w1 => ∃ L, A a L ∧ rM J S L T w1)) (hg : ∀ w1 H, uD (w1, False) J S T H w1 → Ok (g w1) (fun b w2 => ∃ M, B b M ∧ uD (w1, False) J (rT M S) T H w2)) : Bq S f g P w := by
  obtain ⟨hW, hS, hT, -, -⟩ := h
  obtain ⟨a, w1, e1, L, ha, ⟨H, h1⟩, H2, hD⟩ := hf
  obtain ⟨b, w2, e2, M, hb, h2⟩ := hg w1 H2 hD
  obtain ⟨p, rfl⟩ := hP a b L M ha hb
  exact ⟨a, b, w1, w2, e1, e2, p, J, rT L S, T, ⟨hW, hS, hT, ⟨H, uC_m h1 h2⟩, H2, uD_sf h2⟩, mL_0⟩
end Q6
