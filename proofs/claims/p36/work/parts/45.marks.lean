set_option maxRecDepth 16384
/-- each mark has a number up to M, made so far; CELLs with one number lie at one END, at one height -/
def mI (S : aS) (M : Nat) : Prop := sM S = nI M ∧ ∃ l : Nat → Nat → Nat, (∀ k h, k < 10 → h < sZ S k → (sC S k h).2.2.2 = nI (l k h) ∧ l k h ≤ M) ∧ ∀ k h k2 h2, k < 10 → h < sZ S k → k2 < 10 → h2 < sZ S k2 → l k h = l k2 h2 → k % 2 = k2 % 2 ∧ h = h2
/-- from S to S2 with n made at most -/
def mL (S S2 : aS) (n : Nat) : Prop := ∀ M, mI S M → ∃ M2, M2 ≤ M + n ∧ mI S2 M2
section ML
variable {J : aJ} {S S1 S2 : aS}
theorem mL_0 {n : Nat} : mL S S n := fun M h => ⟨M, Nat.le_add_right _ _, h⟩
theorem mL_t {a b : Nat} (h : mL S S1 a) (g : mL S1 S2 b) : mL S S2 (a + b) := fun M m => by
  obtain ⟨M1, l1, m1⟩ := h M m
  obtain ⟨M2, l2, m2⟩ := g M1 m1
  exact ⟨M2, by omega, m2⟩
theorem mL_w {a b : Nat} (h : mL S S1 a) (l : a ≤ b) : mL S S1 b := fun M m => by
  obtain ⟨M1, l1, m1⟩ := h M m
  exact ⟨M1, by omega, m1⟩
theorem mL_z {k n : Nat} (hn : n ≤ sZ S k) : mL S (zS k n S) 0 := fun M m => by
  obtain ⟨e, l, h1, h2⟩ := m
  have hz : ∀ a x, x < sZ (zS k n S) a → x < sZ S a := fun a x hx => by
    have hx2 : x < (if a = k then n else sZ S a) := hx
    by_cases c : a = k
    · rw [if_pos c] at hx2; rw [c]; omega
    · rw [if_neg c] at hx2; exact hx2
  exact ⟨M, Nat.le_refl _, e, l, fun a x ha hx => h1 a x ha (hz a x hx), fun a x b y ha hx hb hy q => h2 a x b y ha (hz a x hx) hb (hz b y hy) q⟩
theorem mL_b : mL S (bS S) 0 := fun M m => ⟨M, Nat.le_refl _, m⟩
theorem mL_p {k v : Nat} : mL S (mS J k v S) 1 := fun M m => by
  obtain ⟨e, l, h1, h2⟩ := m
  have eZ : ∀ a, sZ (mS J k v S) a = if a = k then sZ S k + 1 else sZ S a := fun a => rfl
  have eC : ∀ a x, sC (mS J k v S) a x = if a = k ∧ x = sZ S k then (v, (mP J S k v).1, (mP J S k v).2, sM S + 1) else sC S a x := fun a x => rfl
  have hz : ∀ a x, x < sZ (mS J k v S) a → (a = k ∧ x = sZ S k) ∨ (¬ (a = k ∧ x = sZ S k) ∧ x < sZ S a) := fun a x hx => by
    rw [eZ] at hx
    by_cases c : a = k
    · rw [if_pos c] at hx
      by_cases d : x = sZ S k
      · exact .inl ⟨c, d⟩
      · exact .inr ⟨fun q => d q.2, by rw [c]; omega⟩
    · rw [if_neg c] at hx
      exact .inr ⟨fun q => c q.1, hx⟩
  have eM : sM (mS J k v S) = nI (M + 1) := by
    show sM S + 1 = _
    rw [e, nI_1]
  refine ⟨M + 1, Nat.le_refl _, eM, fun a x => if a = k ∧ x = sZ S k then M + 1 else l a x, fun a x ha hx => ?_, fun a x b y ha hx hb hy q => ?_⟩
  · rw [eC]
    dsimp only
    rcases hz a x hx with c | ⟨c, d⟩
    · rw [if_pos c, if_pos c]
      exact ⟨by show sM S + 1 = _; rw [e, nI_1], Nat.le_refl _⟩
    · rw [if_neg c, if_neg c]
      have := h1 a x ha d
      exact ⟨this.1, by omega⟩
  · dsimp only at q
    rcases hz a x hx with c | ⟨c, d⟩ <;> rcases hz b y hy with c2 | ⟨c2, d2⟩
    · exact ⟨by rw [c.1, c2.1], by rw [c.2, c2.2]⟩
    · rw [if_pos c, if_neg c2] at q
      have := (h1 b y hb d2).2; omega
    · rw [if_neg c, if_pos c2] at q
      have := (h1 a x ha d).2; omega
    · rw [if_neg c, if_neg c2] at q
      exact h2 a x b y ha d hb d2 q
theorem mL_q {k : Nat} {g : Nat → Nat} : ∀ n, mL S (qS J k g n S) n := by
  intro n
  induction n with
  | zero => exact mL_0
  | succ n ih => exact mL_t ih mL_p
theorem mL_l {j f n : Nat} {g : Nat → Nat} (hf : f ≤ n) : mL S (lS J j g f n S) n := by
  have h := mL_t (mL_t (mL_t (mL_z (S := S) (k := 2 * j) (n := 0) (Nat.zero_le _)) (mL_z (k := 2 * j + 1) (n := 0) (Nat.zero_le _))) (mL_q (J := J) (k := 2 * j) (g := fun x => g (f - 1 - x)) f)) (mL_q (J := J) (k := 2 * j + 1) (g := fun x => g (f + x)) (n - f))
  exact mL_w h (by omega)
theorem mL_r (h : ∀ j, j < 5 → aN S j ≤ 64) : ∀ i, i ≤ 5 → mL S (rL J i S) (64 * i) := by
  intro i
  induction i with
  | zero => intro _; exact mL_0
  | succ i ih =>
    intro hi
    have hn : aN (rL J i S) i = aN S i := rL_n i i
    have hl : aN (rL J i S) i ≤ 64 := by rw [hn]; exact h i (by omega)
    have h2 : mL (rL J i S) (rS J i (rL J i S)) (aN (rL J i S) i) := mL_l (Nat.le_add_right _ _)
    exact mL_w (mL_t (ih (by omega)) h2) (by omega)
theorem mL_T {j e : Nat} (he : e < 2) (hz : aN S j ≤ 64) : mL S (tS J j e S) 64 := by
  have h1 : mL S (tR J j e S) 64 := by
    unfold tR
    by_cases c : sZ S (2 * j + e) = 0
    · rw [if_pos c]
      refine mL_w (mL_t (mL_l (S := S) (J := J) (j := j) (g := aI S j) (f := hF (aN S j) e) (n := aN S j) ?_) mL_b) (by omega)
      unfold hF; split <;> omega
    · rw [if_neg c]; exact mL_0
  exact mL_w (mL_t h1 (mL_z (Nat.sub_le _ _))) (by omega)
theorem mL_c {k fr : Nat} (hk : k % 2 = fr % 2) (hf : fr < 10) : mL S (cS k fr S) 0 := fun M m => by
  obtain ⟨e, l, h1, h2⟩ := m
  have eZ : ∀ a, sZ (cS k fr S) a = if a = k then sZ S fr else sZ S a := fun a => rfl
  have eC : ∀ a x, sC (cS k fr S) a x = if a = k ∧ x < sZ S fr then sC S fr x else sC S a x := fun a x => rfl
  have hz : ∀ a x, x < sZ (cS k fr S) a → (a = k ∧ x < sZ S fr) ∨ (a ≠ k ∧ x < sZ S a) := fun a x hx => by
    rw [eZ] at hx
    by_cases c : a = k
    · rw [if_pos c] at hx; exact .inl ⟨c, hx⟩
    · rw [if_neg c] at hx; exact .inr ⟨c, hx⟩
  refine ⟨M, Nat.le_refl _, e, fun a x => if a = k then l fr x else l a x, fun a x ha hx => ?_, fun a x b y ha hx hb hy q => ?_⟩
  · rw [eC]
    dsimp only
    rcases hz a x hx with c | ⟨c, d⟩
    · rw [if_pos c, if_pos c.1]; exact h1 fr x hf c.2
    · rw [if_neg (fun z => c z.1), if_neg c]; exact h1 a x ha d
  · dsimp only at q
    rcases hz a x hx with c | ⟨c, d⟩ <;> rcases hz b y hy with c2 | ⟨c2, d2⟩
    · rw [if_pos c.1, if_pos c2.1] at q
      exact ⟨by rw [c.1, c2.1], (h2 fr x fr y hf c.2 hf c2.2 q).2⟩
    · rw [if_pos c.1, if_neg c2] at q
      have := h2 fr x b y hf c.2 hb d2 q
      exact ⟨by rw [c.1, hk]; exact this.1, this.2⟩
    · rw [if_neg c, if_pos c2.1] at q
      have := h2 a x fr y ha d hf c2.2 q
      exact ⟨by rw [c2.1, hk]; exact this.1, this.2⟩
    · rw [if_neg c, if_neg c2] at q
      exact h2 a x b y ha d hb d2 q
theorem mL_B {j t : Nat} (ht : t < 5) : mL S (bL j t S) 0 := mL_t (mL_c (S := S) (k := 2 * j) (fr := 2 * t) (by omega) (by omega)) (mL_c (k := 2 * j + 1) (fr := 2 * t + 1) (by omega) (by omega))
theorem mL_P {j k t : Nat} : mL S (sP J j k t S) (k + aN S j) := by
  unfold sP
  refine mL_w (mL_t (mL_l (S := S) (J := J) (j := j) (g := aI S j) (f := (k + 1) / 2) (n := k) (by omega)) (mL_l (j := t) (g := fun i => aI S j (k + i)) (f := (aN S j - k + 1) / 2) (n := aN S j - k) (by omega))) (by omega)
theorem mL_v {j : Nat} : mL S (vS J j S) (aN S j) := mL_l (Nat.le_add_left _ _)
theorem mL_Q {k st m : Nat} {g : Nat → Nat} (h : st ≤ sZ S k) : mL S (qS J k g m (zS k st S)) m := mL_w (mL_t (mL_z h) (mL_q m)) (by omega)
end ML
