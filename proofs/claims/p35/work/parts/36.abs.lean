set_option maxRecDepth 16384
-- a CELL: ITEM, p, q, mark; STACKS: sizes, CELLS; WORK, rebuilt; THE TEXT
abbrev aC : Type := Nat × Int64 × Int64 × Int32
abbrev aS : Type := (Nat → Nat) × (Nat → Nat → aC) × Int32 × Int32
def sZ (S : aS) : Nat → Nat := S.1
def sC (S : aS) : Nat → Nat → aC := S.2.1
def sM (S : aS) : Int32 := S.2.2.1
def sB (S : aS) : Int32 := S.2.2.2
abbrev aT : Type := Nat × (Nat → Nat)
abbrev zX : Type := zW × Prop
/-- the reference has not told too many -/
def tB (w : zW) : Prop := ∃ t, t ≤ 160 ∧ zI w 74 1 = nI t
def oP (k : Nat) : Nat := 8 + 5 * k + k / 2
/-- a STACK of the class at o; the reference's STACK k -/
def cK (o n : Nat) (f : Nat → aC) (w : zW) : Prop := zI w o 0 = nI n ∧ ∀ h, h < n → zI w (o + 1) h = nI (f h).1 ∧ zL w (o + 2) h = (f h).2.1 ∧ zL w (o + 3) h = (f h).2.2.1 ∧ zI w (o + 4) h = (f h).2.2.2
def dK (k n : Nat) (f : Nat → aC) (w : zW) : Prop := zI w 83 k = nI n ∧ ∀ h, h < n → zI w 85 (64 * k + h) = nI (f h).1 ∧ zL w 86 (64 * k + h) = (f h).2.1 ∧ zL w 87 (64 * k + h) = (f h).2.2.1 ∧ zI w 84 (64 * k + h) + 1 = (f h).2.2.2
/-- the class's state; H: what it holds; the reference's part is as in w0 -/
def uC (w0 : zX) (J : aJ) (S : aS) (T : aT) (H : Nat → Int32) (w : zW) : Prop := cJ J w ∧ (∀ k, k < 10 → cK (oP k) (sZ S k) (sC S k) w) ∧ (zI w 4 1 = sM S ∧ zI w 4 2 = sB S) ∧ (zI w 64 0 = nI T.1 ∧ ∀ i, i < 100 → zI w 65 i = nI (T.2 i)) ∧ (∀ i, zI w 5 i = H i) ∧ (∀ k j, 74 ≤ k → zI w k j = zI w0.1 k j ∧ zL w k j = zL w0.1 k j) ∧ PR w
def uD (w0 : zX) (J : aJ) (S : aS) (T : aT) (H : Nat → Int32) (w : zW) : Prop := dJ J w ∧ (∀ k, k < 10 → dK k (sZ S k) (sC S k) w) ∧ (zI w 74 23 = sM S ∧ zI w 74 24 = sB S) ∧ (zI w 74 4 = nI T.1 ∧ ∀ i, i < 100 → zI w 76 i = nI (T.2 i)) ∧ (∀ i, zI w 88 i = H i) ∧ (∀ k j, k < 74 ∨ ((k = 90 ∨ k = 91) ∧ w0.2) → zI w k j = zI w0.1 k j ∧ zL w k j = zL w0.1 k j) ∧ w.2.2 = w0.1.2.2 ∧ tB w
/-- the cells that these read -/
def fC (k j : Nat) : Prop := (k = 1 ∧ j = 0) ∨ (k = 2 ∧ j ≤ 1) ∨ k = 3 ∨ (k = 4 ∧ (j = 1 ∨ j = 2)) ∨ k = 5 ∨ (8 ≤ k ∧ k ≤ 61) ∨ k = 64 ∨ k = 65 ∨ 74 ≤ k
def fD (k j : Nat) : Prop := k < 74 ∨ (k = 74 ∧ (j = 1 ∨ j = 4 ∨ j = 7 ∨ j = 8 ∨ j = 9 ∨ j = 23 ∨ j = 24)) ∨ k = 76 ∨ k = 77 ∨ k = 83 ∨ k = 84 ∨ k = 85 ∨ k = 88 ∨ k = 90 ∨ k = 91
def gC (k : Nat) : Prop := (8 ≤ k ∧ k ≤ 61) ∨ 74 ≤ k
def gD (k : Nat) : Prop := k < 74 ∨ k = 86 ∨ k = 87 ∨ k = 90 ∨ k = 91
theorem uC_g {w0 : zX} {w w' : zW} {J : aJ} {S : aS} {T : aT} {H : Nat → Int32} (h : uC w0 J S T H w) (h1 : ∀ k j, fC k j → zI w' k j = zI w k j) (h2 : ∀ k j, gC k → zL w' k j = zL w k j) (h3 : w'.2.2 = w.2.2) : uC w0 J S T H w' := by
  obtain ⟨a, b, c, d, e, f⟩ := h
  refine ⟨⟨?_, ?_, ?_, fun i j hi hj => ?_⟩, fun k hk => ⟨?_, fun x hx => ⟨?_, ?_, ?_, ?_⟩⟩, ⟨?_, ?_⟩, ⟨?_, fun i hi => ?_⟩, fun i => ?_, fun k j hk => ⟨?_, ?_⟩, PR_e f.2 h3⟩
  · rw [h1 _ _ (by unfold fC; omega)]; exact a.1
  · rw [h1 _ _ (by unfold fC; omega)]; exact a.2.1
  · rw [h1 _ _ (by unfold fC; omega)]; exact a.2.2.1
  · rw [h1 _ _ (by unfold fC; omega)]; exact a.2.2.2 i j hi hj
  · rw [h1 _ _ (by unfold fC oP; omega)]; exact (b k hk).1
  · rw [h1 _ _ (by unfold fC oP; omega)]; exact ((b k hk).2 x hx).1
  · rw [h2 _ _ (by unfold gC oP; omega)]; exact ((b k hk).2 x hx).2.1
  · rw [h2 _ _ (by unfold gC oP; omega)]; exact ((b k hk).2 x hx).2.2.1
  · rw [h1 _ _ (by unfold fC oP; omega)]; exact ((b k hk).2 x hx).2.2.2
  · rw [h1 _ _ (by unfold fC; omega)]; exact c.1
  · rw [h1 _ _ (by unfold fC; omega)]; exact c.2
  · rw [h1 _ _ (by unfold fC; omega)]; exact d.1
  · rw [h1 _ _ (by unfold fC; omega)]; exact d.2 i hi
  · rw [h1 _ _ (by unfold fC; omega)]; exact e i
  · rw [h1 _ _ (by unfold fC; omega)]; exact (f.1 k j hk).1
  · rw [h2 _ _ (by unfold gC; omega)]; exact (f.1 k j hk).2
theorem uD_g {w0 : zX} {w w' : zW} {J : aJ} {S : aS} {T : aT} {H : Nat → Int32} (h : uD w0 J S T H w) (h1 : ∀ k j, fD k j → zI w' k j = zI w k j) (h2 : ∀ k j, gD k → zL w' k j = zL w k j) (h3 : w'.2.2 = w.2.2) : uD w0 J S T H w' := by
  obtain ⟨a, b, c, d, e, f, g⟩ := h
  refine ⟨⟨?_, ?_, ?_, fun i j hi hj => ?_⟩, fun k hk => ⟨?_, fun x hx => ⟨?_, ?_, ?_, ?_⟩⟩, ⟨?_, ?_⟩, ⟨?_, fun i hi => ?_⟩, fun i => ?_, fun k j hk => ⟨?_, ?_⟩, ?_⟩
  · rw [h1 _ _ (by unfold fD; omega)]; exact a.1
  · rw [h1 _ _ (by unfold fD; omega)]; exact a.2.1
  · rw [h1 _ _ (by unfold fD; omega)]; exact a.2.2.1
  · rw [h1 _ _ (by unfold fD; omega)]; exact a.2.2.2 i j hi hj
  · rw [h1 _ _ (by unfold fD; omega)]; exact (b k hk).1
  · rw [h1 _ _ (by unfold fD; omega)]; exact ((b k hk).2 x hx).1
  · rw [h2 _ _ (by unfold gD; omega)]; exact ((b k hk).2 x hx).2.1
  · rw [h2 _ _ (by unfold gD; omega)]; exact ((b k hk).2 x hx).2.2.1
  · rw [h1 _ _ (by unfold fD; omega)]; exact ((b k hk).2 x hx).2.2.2
  · rw [h1 _ _ (by unfold fD; omega)]; exact c.1
  · rw [h1 _ _ (by unfold fD; omega)]; exact c.2
  · rw [h1 _ _ (by unfold fD; omega)]; exact d.1
  · rw [h1 _ _ (by unfold fD; omega)]; exact d.2 i hi
  · rw [h1 _ _ (by unfold fD; omega)]; exact e i
  · rw [h1 _ _ (by unfold fD; omega)]; exact (f k j hk).1
  · rw [h2 _ _ (by unfold gD; omega)]; exact (f k j hk).2
  · obtain ⟨g1, t, g2, g3⟩ := g
    exact ⟨h3.trans g1, t, g2, (h1 _ _ (by unfold fD; omega)).trans g3⟩
section UW
variable {w0 : zX} {w : zW} {J : aJ} {S : aS} {T : aT} {H : Nat → Int32} {k j : Nat}
theorem uC_I {v : Int32} (h : uC w0 J S T H w) (hf : ¬ fC k j) : uC w0 J S T H (zsI w k j v) := by
  refine uC_g h (fun a b hab => ?_) (fun a b _ => rfl) rfl
  rw [zI_zsI, if_neg (fun e => hf (by rw [← e.1, ← e.2]; exact hab))]
theorem uC_L {v : Int64} (h : uC w0 J S T H w) (hf : ¬ gC k) : uC w0 J S T H (zsL w k j v) := by
  refine uC_g h (fun a b _ => rfl) (fun a b hab => ?_) rfl
  rw [zL_zsL, if_neg (fun e => hf (by rw [← e.1]; exact hab))]
theorem uD_I {v : Int32} (h : uD w0 J S T H w) (hf : ¬ fD k j) : uD w0 J S T H (zsI w k j v) := by
  refine uD_g h (fun a b hab => ?_) (fun a b _ => rfl) rfl
  rw [zI_zsI, if_neg (fun e => hf (by rw [← e.1, ← e.2]; exact hab))]
theorem uD_L {v : Int64} (h : uD w0 J S T H w) (hf : ¬ gD k) : uD w0 J S T H (zsL w k j v) := by
  refine uD_g h (fun a b _ => rfl) (fun a b hab => ?_) rfl
  rw [zL_zsL, if_neg (fun e => hf (by rw [← e.1]; exact hab))]
theorem uC_C {p q : Int64} (h : uC w0 J S T H w) : uC w0 J S T H (setC w p q) := uC_L (uC_L h (by unfold gC; omega)) (by unfold gC; omega)
theorem uD_S {p q : Int64} (h : uD w0 J S T H w) : uD w0 J S T H (setS w p q) := uD_L (uD_L h (by unfold gD; omega)) (by unfold gD; omega)
theorem uD_N {W : zW} (h : uD w0 J S T H w) (hn : Nr w W) : uD w0 J S T H W := uD_g h (fun a b hab => hn.2 a b (by unfold fD at hab; omega) (by unfold fD at hab; omega) (by unfold fD at hab; omega)) (fun a b _ => by unfold zL; rw [hn.1]) (by rw [hn.1])
/-- what is held changes -/
theorem uC_5 {v : Int32} (h : uC w0 J S T H w) : uC w0 J S T (fun i => if i = j then v else H i) (zsI w 5 j v) := by
  have h2 : uC w0 J S T (zI (zsI w 5 j v) 5) (zsI w 5 j v) := by
    obtain ⟨a, b, c, d, e, f⟩ := h
    refine ⟨⟨a.1, a.2.1, a.2.2.1, a.2.2.2⟩, fun k hk => ⟨?_, fun x hx => ⟨?_, ((b k hk).2 x hx).2.1, ((b k hk).2 x hx).2.2.1, ?_⟩⟩, c, d, fun i => rfl, fun k i hk => ⟨?_, (f.1 k i hk).2⟩, f.2⟩
    · rw [zI_zsI, if_neg (by unfold oP; omega)]; exact (b k hk).1
    · rw [zI_zsI, if_neg (by unfold oP; omega)]; exact ((b k hk).2 x hx).1
    · rw [zI_zsI, if_neg (by unfold oP; omega)]; exact ((b k hk).2 x hx).2.2.2
    · rw [zI_zsI, if_neg (by omega)]; exact (f.1 k i hk).1
  have e : zI (zsI w 5 j v) 5 = fun i => if i = j then v else H i := by
    funext i
    rw [zI_zsI]
    by_cases c : i = j
    · rw [if_pos ⟨rfl, c⟩, if_pos c]
    · rw [if_neg (fun q => c q.2), if_neg c]; exact h.2.2.2.2.1 i
  rw [← e]; exact h2
theorem uD_88 {v : Int32} (h : uD w0 J S T H w) : uD w0 J S T (fun i => if i = j then v else H i) (zsI w 88 j v) := by
  have h2 : uD w0 J S T (zI (zsI w 88 j v) 88) (zsI w 88 j v) := by
    obtain ⟨a, b, c, d, e, f, g⟩ := h
    refine ⟨a, b, c, d, fun i => rfl, fun k i hk => ⟨?_, (f k i hk).2⟩, g⟩
    rw [zI_zsI, if_neg (by omega)]; exact (f k i hk).1
  have e : zI (zsI w 88 j v) 88 = fun i => if i = j then v else H i := by
    funext i
    rw [zI_zsI]
    by_cases c : i = j
    · rw [if_pos ⟨rfl, c⟩, if_pos c]
    · rw [if_neg (fun q => c q.2), if_neg c]; exact h.2.2.2.2.1 i
  rw [← e]; exact h2
end UW
