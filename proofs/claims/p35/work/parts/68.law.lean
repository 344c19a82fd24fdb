def Rw (w : zW) : Prop := ∃ J S T, rW J S T w
abbrev Lz (r : Option (Unit × zW)) : Prop := ∃ w, r = some ((), w)
theorem lz_g {b : Bool} {r : Option (Unit × zW)} (hb : b = true) (h : Lz r) : Lz (zg b r) := by subst hb; exact h
theorem lz_i {c : Prop} [Decidable c] {a b : Option (Unit × zW)} (h1 : c → Lz a) (h2 : ¬ c → Lz b) : Lz (if c then a else b) := by
  by_cases q : c
  · rw [if_pos q]; exact h1 q
  · rw [if_neg q]; exact h2 q
theorem lz_l {v : zW → Option (Unit × zW)} {f : (zW → Option (Unit × zW)) → Option (Unit × zW)} (hv : ∀ w, Rw w → Lz (v w)) (hf : ∀ j, (∀ w, Rw w → Lz (j w)) → Lz (f j)) : Lz (lt v f) := hf v hv
section LZ
variable {α β : Type} {f : zW → Option (α × zW)} {g : zW → Option (β × zW)} {P : α → β → Prop} {w : zW} {b1 b2 b3 : Bool} {K : α → zW → β → zW → Option (Unit × zW)}
theorem lz_0 (hB : Bq f g P w) (hK : ∀ x w1 y w2, P x y → Rw w2 → Lz (K x w1 y w2)) : Lz (bd (f w) fun x w1 => bd (g w1) fun y w2 => K x w1 y w2) := by
  obtain ⟨x, y, w1, w2, e1, e2, hP, hR⟩ := hB
  rw [e1]
  show Lz (bd (g w1) _)
  rw [e2]
  exact hK x w1 y w2 hP hR
theorem lz_1 (h1 : b1 = true) (hB : Bq f g P w) (hK : ∀ x w1 y w2, P x y → Rw w2 → Lz (K x w1 y w2)) : Lz (bd (f w) fun x w1 => zg b1 <| bd (g w1) fun y w2 => K x w1 y w2) := by
  subst h1; exact lz_0 hB hK
theorem lz_2 (h1 : b1 = true) (h2 : b2 = true) (hB : Bq f g P w) (hK : ∀ x w1 y w2, P x y → Rw w2 → Lz (K x w1 y w2)) : Lz (bd (f w) fun x w1 => zg b1 <| zg b2 <| bd (g w1) fun y w2 => K x w1 y w2) := by
  subst h1; subst h2; exact lz_0 hB hK
theorem lz_3 (h1 : b1 = true) (h2 : b2 = true) (h3 : b3 = true) (hB : Bq f g P w) (hK : ∀ x w1 y w2, P x y → Rw w2 → Lz (K x w1 y w2)) : Lz (bd (f w) fun x w1 => zg b1 <| zg b2 <| zg b3 <| bd (g w1) fun y w2 => K x w1 y w2) := by
  subst h1; subst h2; subst h3; exact lz_0 hB hK
end LZ
theorem zin_q {i L : Nat} (hi : i < L) (hL : L ≤ 2048) : zin (nI i) L = true := by
  unfold zin
  rw [nI_toInt (by omega)]
  exact decide_eq_true ⟨by omega, by omega⟩
theorem zin_4 {k L : Nat} (hk : 4 * k + 4 ≤ L) (hL : L ≤ 2048) : zin (nI (4 * k)) L = true ∧ zin (nI (4 * k) + (1 : Int32)) L = true ∧ zin (nI (4 * k) + (2 : Int32)) L = true ∧ zin (nI (4 * k) + (3 : Int32)) L = true := by
  refine ⟨zin_q (by omega) hL, ?_, ?_, ?_⟩
  · rw [show (1 : Int32) = nI 1 from rfl, nI_add]; exact zin_q (by omega) hL
  · rw [show (2 : Int32) = nI 2 from rfl, nI_add]; exact zin_q (by omega) hL
  · rw [show (3 : Int32) = nI 3 from rfl, nI_add]; exact zin_q (by omega) hL
theorem rw_0 : Rw zw0 := by
  refine ⟨(0, 1, 0, fun _ _ => 0), (fun _ => 0, fun _ _ => (0, 0, 0, 0), 0, 0), (0, fun _ => 0), ?_, ?_, ?_, ⟨fun _ => 0, ?_⟩, ⟨fun _ => 0, ?_⟩⟩
  · refine ⟨by decide, by decide, by decide, by decide, fun i j hi hj => by show 0 < 1; decide, fun i hi => ?_⟩
    have : i = 0 := by
      have : i < 1 := hi
      omega
    subst this; exact ⟨rfl, rfl⟩
  · exact ⟨fun j hj => Nat.zero_le _, fun k hk x hx => absurd hx (Nat.not_lt_zero _), rfl⟩
  · exact ⟨Nat.zero_le _, fun i => show 0 < 256 by decide⟩
  · refine ⟨⟨rfl, rfl, rfl, fun i j hi hj => rfl⟩, fun k hk => ⟨?_, fun x hx => absurd hx (Nat.not_lt_zero _)⟩, ⟨rfl, rfl⟩, ⟨rfl, fun i hi => rfl⟩, fun i => rfl, fun k j hk => ⟨rfl, rfl⟩, .inl ⟨rfl, rfl, rfl, rfl⟩⟩
    rcases (show k = 0 ∨ k = 1 ∨ k = 2 ∨ k = 3 ∨ k = 4 ∨ k = 5 ∨ k = 6 ∨ k = 7 ∨ k = 8 ∨ k = 9 by omega) with rfl | rfl | rfl | rfl | rfl | rfl | rfl | rfl | rfl | rfl <;> rfl
  · refine ⟨⟨rfl, rfl, rfl, fun i j hi hj => rfl⟩, fun k hk => ⟨rfl, fun x hx => absurd hx (Nat.not_lt_zero _)⟩, ⟨rfl, rfl⟩, ⟨rfl, fun i hi => rfl⟩, fun i => rfl, fun k j hk => ⟨rfl, rfl⟩, rfl, 0, by decide, rfl⟩
