set_option maxRecDepth 16384
def cP (c : aC) : aP := (c.2.1, c.2.2.1)
def mP (J : aJ) (S : aS) (k v : Nat) : aP := if sZ S k = 0 then ae J v else if k % 2 = 0 then aj J (ae J v) (cP (sC S k (sZ S k - 1))) else aj J (cP (sC S k (sZ S k - 1))) (ae J v)
/-- a CELL upon a STACK -/
def pS (k : Nat) (c : aC) (S : aS) : aS := (fun a => if a = k then sZ S k + 1 else sZ S a, fun a h => if a = k ∧ h = sZ S k then c else sC S a h, sM S + 1, sB S)
def mS (J : aJ) (k v : Nat) (S : aS) : aS := pS k (v, (mP J S k v).1, (mP J S k v).2, sM S + 1) S
/-- many, one behind another -/
def qS (J : aJ) (k : Nat) (g : Nat → Nat) : Nat → aS → aS
  | 0, S => S
  | m + 1, S => mS J k (g m) (qS J k g m S)
def zS (k n : Nat) (S : aS) : aS := (fun a => if a = k then n else sZ S a, S.2)
def lS (J : aJ) (j : Nat) (g : Nat → Nat) (f n : Nat) (S : aS) : aS := qS J (2 * j + 1) (fun x => g (f + x)) (n - f) (qS J (2 * j) (fun x => g (f - 1 - x)) f (zS (2 * j + 1) 0 (zS (2 * j) 0 S)))
def pK (S : aS) (j i : Nat) : Nat := if sZ S (2 * j) ≤ i then 2 * j + 1 else 2 * j
def pH (S : aS) (j i : Nat) : Nat := if sZ S (2 * j) ≤ i then i - sZ S (2 * j) else sZ S (2 * j) - 1 - i
def aI (S : aS) (j i : Nat) : Nat := (sC S (pK S j i) (pH S j i)).1
def aN (S : aS) (j : Nat) : Nat := sZ S (2 * j) + sZ S (2 * j + 1)
def kV (J : aJ) (S : aS) (k : Nat) : Prop := ∀ h, h < sZ S k → (sC S k h).1 < 10000 ∧ aV J (cP (sC S k h))
def kI (S : aS) (k : Nat) : Prop := ∀ h, h < sZ S k → (sC S k h).1 < 10000
theorem kV_I {J : aJ} {S : aS} {k : Nat} (h : kV J S k) : kI S k := fun x hx => (h x hx).1
theorem mP_V {J : aJ} (hW : jW J) {S : aS} {k v : Nat} (hv : v < 10000) (hV : kV J S k) : aV J (mP J S k v) := by
  unfold mP
  by_cases c : sZ S k = 0
  · rw [if_pos c]; exact ae_V hW hv
  · rw [if_neg c]
    have h := (hV (sZ S k - 1) (by omega)).2
    by_cases d : k % 2 = 0
    · rw [if_pos d]; exact aj_V hW (ae_V hW hv) h
    · rw [if_neg d]; exact aj_V hW h (ae_V hW hv)
section PS
variable {J : aJ} {S : aS} {k : Nat} {c : aC} {v : Nat}
theorem pS_z : sZ (pS k c S) k = sZ S k + 1 := if_pos rfl
theorem pS_zo {a : Nat} (h : a ≠ k) : sZ (pS k c S) a = sZ S a := if_neg h
theorem pS_c : sC (pS k c S) k (sZ S k) = c := if_pos ⟨rfl, rfl⟩
theorem pS_co {a h : Nat} (n : a ≠ k ∨ h ≠ sZ S k) : sC (pS k c S) a h = sC S a h := if_neg (fun q => n.elim (fun z => z q.1) (fun z => z q.2))
theorem mS_z : sZ (mS J k v S) k = sZ S k + 1 := pS_z
theorem mS_zo {a : Nat} (h : a ≠ k) : sZ (mS J k v S) a = sZ S a := pS_zo h
theorem mS_co {a h : Nat} (n : a ≠ k ∨ h ≠ sZ S k) : sC (mS J k v S) a h = sC S a h := pS_co n
theorem mS_V (hW : jW J) (hv : v < 10000) (hV : kV J S k) : kV J (mS J k v S) k := by
  intro h hh
  rw [mS_z] at hh
  by_cases e : h = sZ S k
  · subst e
    rw [show sC (mS J k v S) k (sZ S k) = _ from pS_c]
    exact ⟨hv, mP_V hW hv hV⟩
  · rw [mS_co (.inr e)]; exact hV h (by omega)
theorem mS_Vo {a : Nat} (h : a ≠ k) (hV : kV J S a) : kV J (mS J k v S) a := by
  intro x hx
  rw [mS_zo h] at hx
  rw [mS_co (.inl h)]; exact hV x hx
theorem mS_Io {a : Nat} (h : a ≠ k) (hV : kI S a) : kI (mS J k v S) a := by
  intro x hx
  rw [mS_zo h] at hx
  rw [mS_co (.inl h)]; exact hV x hx
variable {g : Nat → Nat}
theorem qS_z (m : Nat) : sZ (qS J k g m S) k = sZ S k + m := by
  induction m with
  | zero => rfl
  | succ m ih => show sZ (mS J k (g m) _) k = _; rw [mS_z, ih]; omega
theorem qS_zo {a : Nat} (h : a ≠ k) (m : Nat) : sZ (qS J k g m S) a = sZ S a := by
  induction m with
  | zero => rfl
  | succ m ih => show sZ (mS J k (g m) _) a = _; rw [mS_zo h, ih]
theorem qS_co {a h : Nat} (m : Nat) (n : a ≠ k ∨ h < sZ S k) : sC (qS J k g m S) a h = sC S a h := by
  induction m with
  | zero => rfl
  | succ m ih => show sC (mS J k (g m) _) a h = _; rw [mS_co (n.elim .inl (fun z => .inr (by rw [qS_z]; omega))), ih]
theorem qS_V (hW : jW J) (hV : kV J S k) (m : Nat) (hg : ∀ i, i < m → g i < 10000) : kV J (qS J k g m S) k := by
  induction m with
  | zero => exact hV
  | succ m ih => exact mS_V hW (hg m (by omega)) (ih fun i hi => hg i (by omega))
theorem qS_Vo {a : Nat} (h : a ≠ k) (hV : kV J S a) (m : Nat) : kV J (qS J k g m S) a := by
  induction m with
  | zero => exact hV
  | succ m ih => exact mS_Vo h ih
theorem qS_Io {a : Nat} (h : a ≠ k) (hV : kI S a) (m : Nat) : kI (qS J k g m S) a := by
  induction m with
  | zero => exact hV
  | succ m ih => exact mS_Io h ih
theorem qS_e {g' : Nat → Nat} (m : Nat) (h : ∀ i, i < m → g i = g' i) : qS J k g m S = qS J k g' m S := by
  induction m with
  | zero => rfl
  | succ m ih => show mS J k (g m) (qS J k g m S) = mS J k (g' m) (qS J k g' m S); rw [ih (fun i hi => h i (by omega)), h m (by omega)]
theorem zS_z {n : Nat} : sZ (zS k n S) k = n := if_pos rfl
theorem zS_zo {a n : Nat} (h : a ≠ k) : sZ (zS k n S) a = sZ S a := if_neg h
theorem zS_0V : kV J (zS k 0 S) k := fun h hh => absurd (show h < 0 by rw [zS_z] at hh; exact hh) (Nat.not_lt_zero h)
theorem zS_Vo {a n : Nat} (h : a ≠ k) (hV : kV J S a) : kV J (zS k n S) a := fun x hx => hV x (by rw [zS_zo h] at hx; exact hx)
theorem zS_Io {a n : Nat} (h : a ≠ k) (hV : kI S a) : kI (zS k n S) a := fun x hx => hV x (by rw [zS_zo h] at hx; exact hx)
theorem zS_Vl {n : Nat} (hn : n ≤ sZ S k) (hV : kV J S k) : kV J (zS k n S) k := fun x hx => hV x (by rw [zS_z] at hx; omega)
end PS
section LS
variable {J : aJ} {S : aS} {j f n : Nat} {g : Nat → Nat}
theorem lS_z0 : sZ (lS J j g f n S) (2 * j) = f := by
  unfold lS
  rw [qS_zo (by omega), qS_z, zS_zo (by omega), zS_z]; omega
theorem lS_z1 : sZ (lS J j g f n S) (2 * j + 1) = n - f := by
  unfold lS
  rw [qS_z, qS_zo (by omega), zS_z]; omega
theorem lS_zo {a : Nat} (h0 : a ≠ 2 * j) (h1 : a ≠ 2 * j + 1) : sZ (lS J j g f n S) a = sZ S a := by
  unfold lS
  rw [qS_zo h1, qS_zo h0, zS_zo h1, zS_zo h0]
theorem lS_co {a h : Nat} (h0 : a ≠ 2 * j) (h1 : a ≠ 2 * j + 1) : sC (lS J j g f n S) a h = sC S a h := by
  unfold lS
  rw [qS_co _ (.inl h1), qS_co _ (.inl h0)]; rfl
theorem lS_V0 (hW : jW J) (hf : f ≤ n) (hg : ∀ i, i < n → g i < 10000) : kV J (lS J j g f n S) (2 * j) := by
  unfold lS
  exact qS_Vo (by omega) (qS_V hW (zS_Vo (by omega) zS_0V) f (fun i hi => hg _ (by omega))) _
theorem lS_V1 (hW : jW J) (hg : ∀ i, i < n → g i < 10000) : kV J (lS J j g f n S) (2 * j + 1) := by
  unfold lS
  exact qS_V hW (qS_Vo (by omega) zS_0V _) _ (fun i hi => hg _ (by omega))
theorem lS_Vo {a : Nat} (h0 : a ≠ 2 * j) (h1 : a ≠ 2 * j + 1) (hV : kV J S a) : kV J (lS J j g f n S) a := by
  unfold lS
  exact qS_Vo h1 (qS_Vo h0 (zS_Vo h1 (zS_Vo h0 hV)) _) _
theorem lS_Io {a : Nat} (h0 : a ≠ 2 * j) (h1 : a ≠ 2 * j + 1) (hV : kI S a) : kI (lS J j g f n S) a := by
  unfold lS
  exact qS_Io h1 (qS_Io h0 (zS_Io h1 (zS_Io h0 hV)) _) _
theorem lS_e {g' : Nat → Nat} (hf : f ≤ n) (h : ∀ i, i < n → g i = g' i) : lS J j g f n S = lS J j g' f n S := by
  unfold lS
  rw [qS_e (g' := fun x => g' (f - 1 - x)) f (fun i hi => h _ (by omega)), qS_e (g' := fun x => g' (f + x)) (n - f) (fun i hi => h _ (by omega))]
end LS
