set_option maxRecDepth 16384
set_option maxRecDepth 16384
-- the cells that the state lies in
def cI (k j : Nat) : Bool := (k == 1 && j == 0) || k == 2 || k == 3 || (k == 4 && (j == 1 || j == 2)) || (Nat.ble 7 k && Nat.ble k 61) || k == 64 || k == 65 || (k == 74 && (j == 1 || j == 4 || j == 7 || j == 8 || j == 9 || j == 23 || j == 24)) || k == 76 || k == 77 || (k == 83 && Nat.ble j 9) || ((k == 84 || k == 85) && Nat.ble j 511)
def cL (k j : Nat) : Bool := (Nat.ble 7 k && Nat.ble k 61) || ((k == 86 || k == 87) && Nat.ble j 511)
/-- the Takings' rows are apart -/
def PR (w : zW) : Prop := (zR w 0 = 67 ∧ zR w 1 = 68 ∧ zR w 2 = 69 ∧ zR w 3 = 70) ∨ (zR w 0 = 69 ∧ zR w 1 = 70 ∧ zR w 2 = 67 ∧ zR w 3 = 68)
theorem PR_e {w w' : zW} (h : PR w) (e : w'.2.2 = w.2.2) : PR w' := by
  have : ∀ j, zR w' j = zR w j := fun j => by unfold zR; rw [e]
  unfold PR
  rw [this 0, this 1, this 2, this 3]; exact h
/-- the state is as it was -/
def Qc (w0 w : zW) : Prop := (∀ k j, cI k j = true → zI w k j = zI w0 k j) ∧ (∀ k j, cL k j = true → zL w k j = zL w0 k j) ∧ (PR w0 → PR w)
theorem q_0 (w : zW) : Qc w w := ⟨fun _ _ _ => rfl, fun _ _ _ => rfl, id⟩
theorem q_I {w0 w : zW} {k j : Nat} {v : Int32} (h : Qc w0 w) (hc : cI k j = false) : Qc w0 (zsI w k j v) := by
  refine ⟨fun a b hab => ?_, fun a b hab => ?_, h.2.2⟩
  · rw [zI_zsI]
    by_cases e : a = k ∧ b = j
    · rw [e.1, e.2, hc] at hab; cases hab
    · rw [if_neg e]; exact h.1 a b hab
  · rw [zL_zsI]; exact h.2.1 a b hab
theorem q_L {w0 w : zW} {k j : Nat} {v : Int64} (h : Qc w0 w) (hc : cL k j = false) : Qc w0 (zsL w k j v) := by
  refine ⟨fun a b hab => ?_, fun a b hab => ?_, h.2.2⟩
  · rw [zI_zsL]; exact h.1 a b hab
  · rw [zL_zsL]
    by_cases e : a = k ∧ b = j
    · rw [e.1, e.2, hc] at hab; cases hab
    · rw [if_neg e]; exact h.2.1 a b hab
theorem cI_f {k : Nat} (h : k = 0 ∨ k = 5 ∨ (66 ≤ k ∧ k ≤ 73) ∨ k = 75 ∨ (78 ≤ k ∧ k ≤ 82) ∨ 88 ≤ k) (j : Nat) : cI k j = false := by
  rcases h with rfl | rfl | ⟨h1, h2⟩ | rfl | ⟨h1, h2⟩ | h
  · rfl
  · rfl
  · rcases (show k = 66 ∨ k = 67 ∨ k = 68 ∨ k = 69 ∨ k = 70 ∨ k = 71 ∨ k = 72 ∨ k = 73 by omega) with rfl | rfl | rfl | rfl | rfl | rfl | rfl | rfl <;> rfl
  · rfl
  · rcases (show k = 78 ∨ k = 79 ∨ k = 80 ∨ k = 81 ∨ k = 82 by omega) with rfl | rfl | rfl | rfl | rfl <;> rfl
  · simp only [cI, Bool.or_eq_false_iff, Bool.and_eq_false_iff, beq_eq_false_iff_ne, ne_eq]
    simp only [← Bool.not_eq_true, Nat.ble_eq]
    omega
theorem ok_jn {γ β : Type} (C : γ → Prop) {f : γ} {g : γ → Option (β × zW)} {P : β → zW → Prop} (h1 : C f) (h2 : ∀ j, C j → Ok (g j) P) : Ok (lt f g) P := h2 f h1
theorem ok_o {β : Type} {o : Option Nat} {a : Option (β × zW)} {f : Nat → Option (β × zW)} {P : β → zW → Prop} (h1 : o = none → Ok a P) (h2 : ∀ l, o = some l → Ok (f l) P) : Ok (oc o a f) P := by
  cases o with
  | none => exact h1 rfl
  | some l => exact h2 l rfl
theorem i32_lt (i : Int32) : i.toInt < 2147483648 := i.toInt_lt
theorem i32_le (i : Int32) : -2147483648 ≤ i.toInt := i.le_toInt
theorem i32_1 {i : Int32} (h : i.toInt < 2147483647) : (i + 1).toInt = i.toInt + 1 := by
  have h1 := i32_le i
  rw [Int32.toInt_add, show (1 : Int32).toInt = 1 from rfl, Int.bmod_eq_of_le (by omega) (by omega)]
theorem i32_m1 {i : Int32} (h : -2147483648 < i.toInt) : (i + -1).toInt = i.toInt - 1 := by
  have h1 := i32_lt i
  rw [Int32.toInt_add, show (-1 : Int32).toInt = -1 from rfl, Int.bmod_eq_of_le (by omega) (by omega)]
  omega
/-- the measure of a loop upward -/
def Up (i : Int32) (n : Nat) : Prop := 2147483648 - i.toInt < n
theorem up_0 {i : Int32} (h : Up i 0) : False := by
  have := i32_lt i
  unfold Up at h
  omega
theorem up_z (i : Int32) : Up i zFU := by
  have := i32_le i
  unfold Up
  rw [show zFU = 18446744073709551616 from rfl]
  omega
theorem up_lt {i b : Int32} {n : Nat} (hm : Up i (n + 1)) (h : i < b) : Up (i + 1) n := by
  have h1 := Int32.lt_iff_toInt_lt.mp h
  have h2 := i32_lt b
  unfold Up at hm ⊢
  rw [i32_1 (by omega)]
  omega
theorem up_n {i b : Int32} {n : Nat} (hm : Up i (n + 1)) (h : ¬ b ≤ i) : Up (i + 1) n := up_lt hm (Int32.not_le.mp h)
theorem up_le {i b : Int32} {n : Nat} (hm : Up i (n + 1)) (hb : b ≤ 1000000) (h : ¬ b < i) : Up (i + 1) n := by
  have h1 := Int32.le_iff_toInt_le.mp (Int32.not_lt.mp h)
  have h2 := Int32.le_iff_toInt_le.mp hb
  rw [show (1000000 : Int32).toInt = 1000000 from rfl] at h2
  unfold Up at hm ⊢
  rw [i32_1 (by omega)]
  omega
/-- the measure of a loop downward -/
def Dn (i : Int32) (n : Nat) : Prop := (i.toInt + 1).toNat < n
theorem dn_0 {i : Int32} (h : Dn i 0) : False := Nat.not_lt_zero _ h
theorem dn_z (i : Int32) : Dn i zFU := by
  have := i32_lt i
  unfold Dn
  rw [show zFU = 18446744073709551616 from rfl]
  omega
theorem dn_0s {i : Int32} {n : Nat} (hm : Dn i (n + 1)) (h : ¬ i < 0) : Dn (i + -1) n := by
  have h1 := Int32.le_iff_toInt_le.mp (Int32.not_lt.mp h)
  rw [show (0 : Int32).toInt = 0 from rfl] at h1
  unfold Dn at hm ⊢
  rw [i32_m1 (by omega)]
  omega
theorem dn_1s {i : Int32} {n : Nat} (hm : Dn i (n + 1)) (h : ¬ i ≤ 0) : Dn (i + -1) n := dn_0s hm (fun q => h (Int32.le_of_lt q))
/-- a LINE's object -/
def isLn (h : Nat) : Prop := h = 7 ∨ h = 18 ∨ h = 29 ∨ h = 40
def szF (w : zW) (h : Nat) : Nat := (zI w (h + 1) 0 + zI w (h + 6) 0).toNatClampNeg
/-- the sizes of the LINES -/
def Sz (w : zW) : Prop := ∀ h, isLn h → zI w (h + 1) 0 + zI w (h + 6) 0 = nI (szF w h) ∧ szF w h ≤ 64
theorem ln_c {h : Nat} (hl : isLn h) : cI (h + 1) 0 = true ∧ cI (h + 6) 0 = true := by
  rcases hl with rfl | rfl | rfl | rfl <;> exact ⟨rfl, rfl⟩
theorem o1_size {w0 w : zW} {h : Nat} (hS : Sz w0) (hl : isLn h) (hQ : Qc w0 w) : Ok (fX1_size h w) (fun a w' => a = nI (szF w0 h) ∧ Qc w0 w') := by
  refine ⟨nI (szF w0 h), w, ?_, rfl, hQ⟩
  have e : fX1_size h w = some (zI w (h + 1) 0 + zI w (h + 6) 0, w) := rfl
  rw [e, hQ.1 _ _ (ln_c hl).1, hQ.1 _ _ (ln_c hl).2, (hS h hl).1]
theorem nol {l : Nat} {P : Prop} (q : (none : Option Nat) = some l) : P := nomatch q
theorem sol {a l : Nat} (q : some a = some l) : l = a := (Option.some.inj q).symm
theorem o7_lineAt {w0 w : zW} (a : Int32) (hQ : Qc w0 w) : Ok (fX7_lineAt a w) (fun o w' => (∀ l, o = some l → isLn l) ∧ Qc w0 w') := by
  rcases lin a with h | h
  · exact ⟨none, w, lineAt_n w h, And.intro (fun _ q => nol q) hQ⟩
  · rcases h with rfl | rfl | rfl | rfl
    · exact ⟨some 7, w, rfl, And.intro (fun _ q => .inl (sol q)) hQ⟩
    · exact ⟨some 18, w, rfl, And.intro (fun _ q => .inr (.inl (sol q))) hQ⟩
    · exact ⟨some 29, w, rfl, And.intro (fun _ q => .inr (.inr (.inl (sol q)))) hQ⟩
    · exact ⟨some 40, w, rfl, And.intro (fun _ q => .inr (.inr (.inr (sol q)))) hQ⟩
theorem zSh_lt : ∀ q ∈ zSh, q.2 < 2 ^ 31 := by decide +kernel
theorem zlen_lt (r : Nat) : zlen r < 2 ^ 31 := by
  unfold zlen zsh
  rw [List.getD_eq_getElem?_getD]
  cases e : zSh[r]? with
  | none => decide
  | some q => exact zSh_lt q (List.mem_of_getElem? e)
theorem zR_c (w : zW) (j i : Nat) : cI (zR w j) i = false := by
  refine cI_f ?_ i
  have := zR_or w j
  omega
