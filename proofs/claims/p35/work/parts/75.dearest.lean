set_option maxRecDepth 16384
/-- a taking at the END e with f of N in front: the front behind it; its cost -/
def tkF (e f N : Nat) : Nat := if e = 0 then (if f = 0 then (N + 1) / 2 else f) - 1 else N - 1 - ((if N - f = 0 then (N + 1) / 2 else N - f) - 1)
def tkC (e f N : Nat) : Nat := if (if e = 0 then f else N - f) = 0 then N else 0
/-- behind k takings at the ENDs that b says: the front, the cost of all -/
def tkD (f0 N0 : Nat) (b : Nat → Nat) : Nat → Nat × Nat
  | 0 => (f0, 0)
  | k + 1 => (tkF (b k) (tkD f0 N0 b k).1 (N0 - k), (tkD f0 N0 b k).2 + tkC (b k) (tkD f0 N0 b k).1 (N0 - k))
def tkR (f0 N0 k f v : Nat) : Prop := ∃ b : Nat → Nat, (∀ i, b i < 2) ∧ tkD f0 N0 b k = (f, v)
theorem tkF_l {e f N : Nat} (hN : 1 ≤ N) (hf : f ≤ N) : tkF e f N ≤ N - 1 := by
  unfold tkF
  split
  · split <;> omega
  · omega
theorem tkC_l {e f N : Nat} : tkC e f N ≤ N := by
  unfold tkC
  split <;> split <;> omega
theorem tkD_c {f0 N0 : Nat} {b c : Nat → Nat} : ∀ k, (∀ i, i < k → b i = c i) → tkD f0 N0 b k = tkD f0 N0 c k := by
  intro k
  induction k with
  | zero => intro _; rfl
  | succ k ih =>
    intro h
    rw [tkD, tkD, ih (fun i hi => h i (by omega)), h k (Nat.lt_succ_self k)]
theorem tkD_l {f0 N0 : Nat} {b : Nat → Nat} (hf : f0 ≤ N0) : ∀ k, k ≤ N0 → (tkD f0 N0 b k).1 ≤ N0 - k := by
  intro k
  induction k with
  | zero => intro _; exact hf
  | succ k ih =>
    intro h
    have h1 := ih (by omega)
    have h2 := tkF_l (e := b k) (show 1 ≤ N0 - k by omega) h1
    rw [tkD]
    show tkF (b k) (tkD f0 N0 b k).1 (N0 - k) ≤ _
    omega
theorem tkD_v {f0 N0 : Nat} {b : Nat → Nat} (hN : N0 ≤ 64) : ∀ k, (tkD f0 N0 b k).2 ≤ 64 * k := by
  intro k
  induction k with
  | zero => exact Nat.zero_le _
  | succ k ih =>
    have h1 := tkC_l (e := b k) (f := (tkD f0 N0 b k).1) (N := N0 - k)
    rw [tkD]
    show (tkD f0 N0 b k).2 + tkC (b k) (tkD f0 N0 b k).1 (N0 - k) ≤ _
    omega
theorem tkR_l {f0 N0 k f v : Nat} (hf : f0 ≤ N0) (hk : k ≤ N0) (h : tkR f0 N0 k f v) : f ≤ N0 - k := by
  obtain ⟨b, -, e⟩ := h
  have := tkD_l (b := b) hf k hk
  rw [e] at this; exact this
theorem tkR_v {f0 N0 k f v : Nat} (hN : N0 ≤ 64) (h : tkR f0 N0 k f v) : v ≤ 64 * k := by
  obtain ⟨b, -, e⟩ := h
  have := tkD_v (f0 := f0) (b := b) hN k
  rw [e] at this; exact this
theorem tkR_0 {f0 N0 f v : Nat} : tkR f0 N0 0 f v ↔ f = f0 ∧ v = 0 := by
  constructor
  · rintro ⟨b, -, e⟩
    exact ⟨(congrArg Prod.fst e).symm, (congrArg Prod.snd e).symm⟩
  · rintro ⟨rfl, rfl⟩
    exact ⟨fun _ => 0, fun _ => (show 0 < 2 by decide), rfl⟩
theorem tkR_s {f0 N0 k f2 v2 : Nat} : tkR f0 N0 (k + 1) f2 v2 ↔ ∃ f v e, e < 2 ∧ tkR f0 N0 k f v ∧ f2 = tkF e f (N0 - k) ∧ v2 = v + tkC e f (N0 - k) := by
  constructor
  · rintro ⟨b, hb, h⟩
    rw [tkD] at h
    exact ⟨(tkD f0 N0 b k).1, (tkD f0 N0 b k).2, b k, hb k, ⟨b, hb, rfl⟩, (congrArg Prod.fst h).symm, (congrArg Prod.snd h).symm⟩
  · rintro ⟨f, v, e, he, ⟨b, hb, h⟩, rfl, rfl⟩
    refine ⟨fun i => if i = k then e else b i, fun i => ?_, ?_⟩
    · by_cases c : i = k
      · show (if i = k then e else b i) < 2
        rw [if_pos c]; exact he
      · show (if i = k then e else b i) < 2
        rw [if_neg c]; exact hb i
    · have e1 : tkD f0 N0 (fun i => if i = k then e else b i) k = (f, v) := by
        rw [← h]; exact tkD_c k (fun i hi => if_neg (by omega))
      rw [tkD, e1]
      show (tkF (if k = k then e else b k) f (N0 - k), v + tkC (if k = k then e else b k) f (N0 - k)) = _
      rw [if_pos rfl]
/-- c is the greatest of those, or -1 where there is none -/
def tkB (c : Int32) (P : Nat → Prop) : Prop := (c = -1 ∧ ∀ v, ¬ P v) ∨ ∃ v, c = nI v ∧ P v ∧ ∀ u, P u → u ≤ v
theorem tkB_u {a b : Int32} {P Q : Nat → Prop} (ha : tkB a P) (hb : tkB b Q) (h : ∀ v, P v ↔ Q v) : a = b := by
  rcases ha with ⟨rfl, n⟩ | ⟨v, rfl, p, m⟩ <;> rcases hb with ⟨rfl, n2⟩ | ⟨u, rfl, p2, m2⟩
  · rfl
  · exact absurd ((h u).mpr p2) (n u)
  · exact absurd ((h v).mp p) (n2 v)
  · rw [Nat.le_antisymm (m2 v ((h v).mp p)) (m u ((h u).mpr p2))]
theorem tkB_w {c : Int32} {P Q : Nat → Prop} (h : tkB c P) (h1 : ∀ v, P v → Q v) (h2 : ∀ v, Q v → ∃ u, P u ∧ v ≤ u) : tkB c Q := by
  rcases h with ⟨rfl, n⟩ | ⟨v, rfl, p, m⟩
  · exact .inl ⟨rfl, fun v q => by obtain ⟨u, hu, -⟩ := h2 v q; exact n u hu⟩
  · exact .inr ⟨v, rfl, h1 v p, fun u q => by obtain ⟨x, hx, hl⟩ := h2 u q; exact Nat.le_trans hl (m x hx)⟩
theorem tkB_m {m c : Int32} {P Q : Nat → Prop} (hm : tkB m P) (hc : tkB c Q) (hb : ∀ v, P v ∨ Q v → v < 2 ^ 31) : tkB (if m < c then c else m) (fun v => P v ∨ Q v) := by
  have hl : ∀ u, u < 2 ^ 31 → (-1 : Int32) < nI u := fun u hu => Int32.lt_of_lt_of_le (show (-1 : Int32) < 0 by decide) (nI_pos' hu)
  rcases hm with ⟨rfl, n⟩ | ⟨v, rfl, p, l⟩ <;> rcases hc with ⟨rfl, n2⟩ | ⟨u, rfl, p2, l2⟩
  · rw [if_neg (by decide)]
    exact .inl ⟨rfl, fun v q => q.elim (n v) (n2 v)⟩
  · rw [if_pos (hl u (hb u (.inr p2)))]
    exact .inr ⟨u, rfl, .inr p2, fun x q => q.elim (fun z => absurd z (n x)) (l2 x)⟩
  · rw [if_neg (Int32.not_lt.mpr (Int32.le_of_lt (hl v (hb v (.inl p)))))]
    exact .inr ⟨v, rfl, .inl p, fun x q => q.elim (l x) (fun z => absurd z (n2 x))⟩
  · have h1 := hb v (.inl p)
    have h2 := hb u (.inr p2)
    by_cases g : v < u
    · rw [if_pos (nI_lt g h2)]
      exact .inr ⟨u, rfl, .inr p2, fun x q => q.elim (fun z => Nat.le_trans (l x z) (Nat.le_of_lt g)) (l2 x)⟩
    · rw [if_neg (fun z => g ((nI_ltI h1 h2).mp z))]
      exact .inr ⟨v, rfl, .inl p, fun x q => q.elim (l x) (fun z => Nat.le_trans (l2 x z) (Nat.not_lt.mp g))⟩
theorem tkB_1 {v : Nat} : tkB (nI v) (fun u => u = v) := .inr ⟨v, rfl, rfl, fun u hu => by rw [hu]; exact Nat.le_refl _⟩
theorem tkM : ∀ n (b : Nat → Nat), (∀ i, b i < 2) → ∃ i, i < 2 ^ n ∧ ∀ k, k < n → i / 2 ^ k % 2 = b k := by
  intro n
  induction n with
  | zero => intro b _; exact ⟨0, by decide, fun k hk => absurd hk (Nat.not_lt_zero k)⟩
  | succ n ih =>
    intro b hb
    obtain ⟨i, hi, h⟩ := ih (fun k => b (k + 1)) (fun k => hb (k + 1))
    have h0 := hb 0
    refine ⟨b 0 + 2 * i, by rw [Nat.pow_succ]; omega, fun k hk => ?_⟩
    cases k with
    | zero => rw [Nat.pow_zero, Nat.div_one]; omega
    | succ k =>
      rw [Nat.pow_succ, Nat.mul_comm (2 ^ k) 2, ← Nat.div_div_eq_div_mul, show (b 0 + 2 * i) / 2 = i by omega]
      exact h k (by omega)
theorem zlR (w : zW) (j : Nat) : zlen (zR w j) = 65 := by
  have := zR_b w j
  rcases (show zR w j = 67 ∨ zR w j = 68 ∨ zR w j = 69 ∨ zR w j = 70 by omega) with e | e | e | e <;> rw [e] <;> rfl
theorem PR_n {w : zW} (h : PR w) : zR w 0 ≠ zR w 1 ∧ zR w 0 ≠ zR w 2 ∧ zR w 0 ≠ zR w 3 ∧ zR w 2 ≠ zR w 3 := by
  rcases h with ⟨a, b, c, d⟩ | ⟨a, b, c, d⟩ <;> rw [a, b, c, d] <;> decide
theorem forget_L {r : Nat} (hr : zlen r = 65) : ∀ m i N w, i + m = 65 → m < N → (∀ j, j < i → zI w r j = -1) → ∃ w', fX4_forget_L2 r N (nI i) w = some ((), w') ∧ w'.2 = w.2 ∧ (∀ k j, k ≠ r → zI w' k j = zI w k j) ∧ ∀ j, j < 65 → zI w' r j = -1 := by
  intro m
  induction m with
  | zero =>
    intro i N w hi hN h
    obtain ⟨N, rfl⟩ : ∃ k, N = k + 1 := ⟨N - 1, by omega⟩
    rw [fX4_forget_L2.eq_2, hr, if_pos (nI_le (by omega) (by omega))]
    exact ⟨w, rfl, rfl, fun _ _ _ => rfl, fun j hj => h j (by omega)⟩
  | succ m ih =>
    intro i N w hi hN h
    obtain ⟨N, rfl⟩ : ∃ k, N = k + 1 := ⟨N - 1, by omega⟩
    rw [fX4_forget_L2.eq_2, hr, if_neg (Int32.not_le.mpr (nI_lt (by omega) (by omega))), zin_t (show i < 65 by omega) (by decide), zg_t, lt_e, nI_1, nI_clamp (by omega)]
    obtain ⟨w', e, e2, e3, e4⟩ := ih (i + 1) N (zsI w r i (-1)) (by omega) (by omega) (fun j hj => by
      rw [zI_zsI]
      by_cases c : j = i
      · rw [if_pos ⟨rfl, c⟩]
      · rw [if_neg (fun q => c q.2)]; exact h j (by omega))
    exact ⟨w', e, e2, fun k j hk => by rw [e3 k j hk, zI_zsI, if_neg (fun q => hk q.1)], e4⟩
theorem forget_s (w : zW) {r : Nat} (hr : zlen r = 65) : ∃ w', fX4_forget r w = some ((), w') ∧ w'.2 = w.2 ∧ (∀ k j, k ≠ r → zI w' k j = zI w k j) ∧ ∀ j, j < 65 → zI w' r j = -1 := by
  rw [fX4_forget]
  exact forget_L hr 65 0 zFU w (by omega) (fuelN (by omega)) (fun j hj => absurd hj (Nat.not_lt_zero j))
theorem frontB_s (w : zW) {e f N : Nat} (hN1 : 1 ≤ N) (hN : N ≤ 64) (hf : f ≤ N) (he : e < 2) : fX4_frontBehind (nI f) (nI N) (nI e) w = some (nI (tkF e f N), w) := by
  rw [fX4_frontBehind, lt_e, lt_e]
  unfold tkF
  rcases (show e = 0 ∨ e = 1 by omega) with rfl | rfl
  · have hc : (if ¬ nI 0 = (0 : Int32) then nI N - nI f else nI f) = nI f := if_neg (by decide)
    rw [hc, if_pos rfl]
    by_cases c : f = 0
    · rw [if_neg (not_not_intro (show nI f = 0 by rw [c]; rfl)), two_d (by omega)]
      dsimp only
      rw [lt_e, if_neg (show ¬ ¬ nI 0 = 0 by decide), if_pos c, show (1 : Int32) = nI 1 from rfl, pk_sub (by omega)]
    · rw [if_pos (nI_ne0 (by omega) (by omega))]
      dsimp only
      rw [lt_e, if_neg (show ¬ ¬ nI 0 = 0 by decide), if_neg c, show (1 : Int32) = nI 1 from rfl, pk_sub (by omega)]
  · have hc : (if ¬ nI 1 = (0 : Int32) then nI N - nI f else nI f) = nI (N - f) := by rw [if_pos (by decide), pk_sub hf]
    rw [hc, if_neg (show ¬ (1 : Nat) = 0 by decide)]
    by_cases c : N - f = 0
    · rw [if_neg (not_not_intro (show nI (N - f) = 0 by rw [c]; rfl)), two_d (by omega)]
      dsimp only
      rw [lt_e, if_pos (show ¬ nI 1 = 0 by decide), if_pos c, show (1 : Int32) = nI 1 from rfl, pk_sub (show 1 ≤ N by omega), pk_sub (show 1 ≤ (N + 1) / 2 by omega), pk_sub (by omega)]
    · rw [if_pos (nI_ne0 (by omega) (by omega))]
      dsimp only
      rw [lt_e, if_pos (show ¬ nI 1 = 0 by decide), if_neg c, show (1 : Int32) = nI 1 from rfl, pk_sub (show 1 ≤ N by omega), pk_sub (show 1 ≤ N - f by omega), pk_sub (by omega)]
theorem cost4_s (w : zW) {e f N : Nat} (hN : N ≤ 64) (hf : f ≤ N) (he : e < 2) : fX4_cost (nI f) (nI N) (nI e) w = some (nI (tkC e f N), w) := by
  rw [fX4_cost, lt_e]
  unfold tkC
  rcases (show e = 0 ∨ e = 1 by omega) with rfl | rfl
  · have hc : (if ¬ nI 0 = (0 : Int32) then nI N - nI f else nI f) = nI f := if_neg (by decide)
    rw [hc, if_pos (show (0 : Nat) = 0 from rfl)]
    by_cases c : f = 0
    · rw [if_neg (not_not_intro (show nI f = 0 by rw [c]; rfl)), if_pos c]
    · rw [if_pos (nI_ne0 (by omega) (by omega)), if_neg c]; rfl
  · have hc : (if ¬ nI 1 = (0 : Int32) then nI N - nI f else nI f) = nI (N - f) := by rw [if_pos (by decide), pk_sub hf]
    rw [hc, if_neg (show ¬ (1 : Nat) = 0 by decide)]
    by_cases c : N - f = 0
    · rw [if_neg (not_not_intro (show nI (N - f) = 0 by rw [c]; rfl)), if_pos c]
    · rw [if_pos (nI_ne0 (by omega) (by omega)), if_neg c]; rfl
theorem offer_s {w : zW} (hP : PR w) {e f N v : Nat} {x3 : Int32} (hN1 : 1 ≤ N) (hN : N ≤ 64) (hf : f ≤ N) (he : e < 2) (hv : zI w (zR w 0) f = nI v) : ∃ w', fX4_offer (nI f) (nI N) x3 (nI e) w = some ((), w') ∧ w'.2 = w.2 ∧ (∀ k j, k ≠ zR w 2 → k ≠ zR w 3 → zI w' k j = zI w k j) ∧ (∀ j, j ≠ tkF e f N → zI w' (zR w 2) j = zI w (zR w 2) j) ∧ zI w' (zR w 2) (tkF e f N) = (if zI w (zR w 2) (tkF e f N) < nI (v + tkC e f N) then nI (v + tkC e f N) else zI w (zR w 2) (tkF e f N)) := by
  have hg := tkF_l (e := e) hN1 hf
  have ht : tkF e f N < 65 := by omega
  have h23 := (PR_n hP).2.2.2
  rw [fX4_offer, frontB_s w hN1 hN hf he, bd_s, ati_s w (zlR w 0) (show f < 65 by omega) (by decide), bd_s, hv, cost4_s w hN hf he, bd_s, lt_e, nI_add, ati_s w (zlR w 1) (show f < 65 by omega) (by decide), bd_s, lt_e, ati_s w (zlR w 2) ht (by decide), bd_s, lt_e]
  have hj : ∀ x y, (bd (fX7_set (zR w 2) (nI (tkF e f N)) x w) fun _ w19 => bd (fX7_set (zR w19 3) (nI (tkF e f N)) y w19) fun _ w22 => some ((), w22)) = some ((), zsI (zsI w (zR w 2) (tkF e f N) x) (zR w 3) (tkF e f N) y) := by
    intro x y
    rw [seti_s w x (zlR w 2) ht (by decide), bd_s, seti_s _ y (zlR _ 3) ht (by decide), bd_s]; rfl
  have hr : ∀ x y, ((zsI (zsI w (zR w 2) (tkF e f N) x) (zR w 3) (tkF e f N) y).2 = w.2 ∧ (∀ k j, k ≠ zR w 2 → k ≠ zR w 3 → zI (zsI (zsI w (zR w 2) (tkF e f N) x) (zR w 3) (tkF e f N) y) k j = zI w k j) ∧ (∀ j, j ≠ tkF e f N → zI (zsI (zsI w (zR w 2) (tkF e f N) x) (zR w 3) (tkF e f N) y) (zR w 2) j = zI w (zR w 2) j) ∧ zI (zsI (zsI w (zR w 2) (tkF e f N) x) (zR w 3) (tkF e f N) y) (zR w 2) (tkF e f N) = x) := by
    intro x y
    refine ⟨rfl, fun k j h2 h3 => ?_, fun j hj => ?_, ?_⟩
    · rw [zI_zsI, if_neg (fun q => h3 q.1), zI_zsI, if_neg (fun q => h2 q.1)]
    · rw [zI_zsI, if_neg (fun q => h23 q.1), zI_zsI, if_neg (fun q => hj q.2)]
    · rw [zI_zsI, if_neg (fun q => h23 q.1), zI_zsI, if_pos ⟨rfl, rfl⟩]
  by_cases c : zI w (zR w 2) (tkF e f N) < nI (v + tkC e f N)
  · rw [if_pos c, if_pos c]
    obtain ⟨a1, a2, a3, a4⟩ := hr (nI (v + tkC e f N)) (zI w (zR w 1) f ||| nI e <<< (x3 &&& 31))
    exact ⟨_, hj _ _, a1, a2, a3, a4⟩
  · rw [if_neg c, if_neg c, ati_s w (zlR w 2) ht (by decide), bd_s]
    by_cases d : nI (v + tkC e f N) = zI w (zR w 2) (tkF e f N)
    · rw [if_neg (not_not_intro d), ati_s w (zlR w 3) ht (by decide), bd_s]
      by_cases g : zI w (zR w 3) (tkF e f N) ≤ zI w (zR w 1) f ||| nI e <<< (x3 &&& 31)
      · rw [if_pos g]
        exact ⟨w, rfl, rfl, fun _ _ _ _ => rfl, fun _ _ => rfl, rfl⟩
      · rw [if_neg g]
        obtain ⟨a1, a2, a3, a4⟩ := hr (nI (v + tkC e f N)) (zI w (zR w 1) f ||| nI e <<< (x3 &&& 31))
        exact ⟨_, hj _ _, a1, a2, a3, a4.trans d⟩
    · rw [if_pos d]
      exact ⟨w, rfl, rfl, fun _ _ _ _ => rfl, fun _ _ => rfl, rfl⟩
theorem offer_b {w : zW} (hP : PR w) {e f N v : Nat} {x3 : Int32} (hN1 : 1 ≤ N) (hN : N ≤ 64) (hf : f ≤ N) (he : e < 2) (hv : zI w (zR w 0) f = nI v) (hvl : v ≤ 10000) {P : Nat → Nat → Prop} (hl : ∀ g u, P g u → u ≤ 20000) (ht : ∀ g, g ≤ 64 → tkB (zI w (zR w 2) g) (P g)) : ∃ w', fX4_offer (nI f) (nI N) x3 (nI e) w = some ((), w') ∧ w'.2 = w.2 ∧ (∀ k j, k ≠ zR w 2 → k ≠ zR w 3 → zI w' k j = zI w k j) ∧ ∀ g, g ≤ 64 → tkB (zI w' (zR w 2) g) (fun u => P g u ∨ (g = tkF e f N ∧ u = v + tkC e f N)) := by
  obtain ⟨w', e1, e2, e3, e4, e5⟩ := offer_s hP (x3 := x3) hN1 hN hf he hv
  have hC := tkC_l (e := e) (f := f) (N := N)
  refine ⟨w', e1, e2, e3, fun g hg => ?_⟩
  by_cases c : g = tkF e f N
  · rw [c, e5]
    rw [c] at hg
    refine tkB_w (tkB_m (ht _ hg) (tkB_1 (v := v + tkC e f N)) (fun u q => ?_)) (fun u q => q.elim .inl (fun z => .inr ⟨rfl, z⟩)) (fun u q => ⟨u, q.elim .inl (fun z => .inr z.2), Nat.le_refl u⟩)
    rcases q with q | q
    · have := hl _ _ q; omega
    · rw [q]; omega
  · rw [e4 g c]
    exact tkB_w (ht g hg) (fun u q => .inl q) (fun u q => ⟨u, q.elim id (fun z => absurd z.1 c), Nat.le_refl u⟩)
def tkI (f0 N0 k i g u : Nat) : Prop := ∃ f v e, f < i ∧ e < 2 ∧ tkR f0 N0 k f v ∧ g = tkF e f (N0 - k) ∧ u = v + tkC e f (N0 - k)
theorem q_RI {wb w w' : zW} (hQ : Qc wb w) (e2 : w'.2 = w.2) (h : ∀ k j, k < 66 ∨ 70 < k → zI w' k j = zI w k j) : Qc wb w' := by
  refine ⟨fun k j hk => ?_, fun k j hk => ?_, fun h => PR_e (hQ.2.2 h) (by rw [e2])⟩
  · rw [h k j ?_]; exact hQ.1 k j hk
    by_cases c : k < 66 ∨ 70 < k
    · exact c
    · rw [cI_f (.inr (.inr (.inl (by omega))))] at hk; cases hk
  · show zL w' k j = _
    unfold zL; rw [e2]; exact hQ.2.1 k j hk
section DE
variable {wb : zW} {f0 N0 : Nat}
theorem seek_44 {k : Nat} {x3 : Int32} (hk : k < N0) (hk12 : k < 12) (hN0 : N0 ≤ 64) (hf0 : f0 ≤ N0) {g : Int32 → zW → Option (Unit × zW)} {P : Unit → zW → Prop} (hg : ∀ w, Qc wb w → PR w → (∀ f, f ≤ 64 → tkB (zI w (zR w 0) f) (tkR f0 N0 (k + 1) f)) → Ok (g (nI (k + 1)) w) P) : ∀ m i M w, i + m = N0 - k + 1 → m < M → Qc wb w → PR w → (∀ f, f ≤ 64 → tkB (zI w (zR w 0) f) (tkR f0 N0 k f)) → (∀ f, f ≤ 64 → tkB (zI w (zR w 2) f) (tkI f0 N0 k i f)) → Ok (fX4_seek_L44 (nI N0) x3 (nI k) g M (nI i) w) P := by
  intro m
  induction m with
  | zero =>
    intro i M w hi hM hQ hP h0 h2
    obtain ⟨M, rfl⟩ : ∃ k, M = k + 1 := ⟨M - 1, by omega⟩
    have s := swW_R w
    have hQ2 := swW_Q hQ
    have hP2 : PR (swW w) := (swW_Q (q_0 w)).2.2 hP
    rw [fX4_seek_L44.eq_2, pk_sub (by omega), if_pos (nI_lt (by omega) (by omega)), swap_s, bd_s, nI_1]
    refine hg _ hQ2 hP2 (fun f hf => ?_)
    rw [s.1]
    refine tkB_w (h2 f hf) (fun u q => ?_) (fun u q => ⟨u, ?_, Nat.le_refl u⟩)
    · obtain ⟨f1, v, e, -, a⟩ := q
      exact tkR_s.mpr ⟨f1, v, e, a⟩
    · obtain ⟨f1, v, e, a1, a2, a3⟩ := tkR_s.mp q
      exact ⟨f1, v, e, by have := tkR_l hf0 (by omega) a2; omega, a1, a2, a3⟩
  | succ m ih =>
    intro i M w hi hM hQ hP h0 h2
    obtain ⟨M, rfl⟩ : ∃ k, M = k + 1 := ⟨M - 1, by omega⟩
    rw [fX4_seek_L44.eq_2, pk_sub (by omega), if_neg (fun q => by have := (nI_ltI (by omega) (by omega)).mp q; omega), ati_s w (zlR w 0) (show i < 65 by omega) (by decide), bd_s, lt_e]
    rcases h0 i (by omega) with ⟨hm, hn⟩ | ⟨v, hv, hr, hx⟩
    · rw [if_pos hm, nI_1]
      refine ih (i + 1) M w (by omega) (by omega) hQ hP h0 (fun f hf => tkB_w (h2 f hf) (fun u q => ?_) (fun u q => ⟨u, ?_, Nat.le_refl u⟩))
      · obtain ⟨f1, v, e, a0, a⟩ := q
        exact ⟨f1, v, e, by omega, a⟩
      · obtain ⟨f1, v, e, a0, a1, a2, a3⟩ := q
        by_cases c : f1 = i
        · rw [c] at a2; exact absurd a2 (hn v)
        · exact ⟨f1, v, e, by omega, a1, a2, a3⟩
    · have hvl := tkR_v hN0 hr
      have n := PR_n hP
      have b := zR_b w
      rw [if_neg (show ¬ zI w (zR w 0) i = -1 by rw [hv]; exact fun q => nI_pos (n := v) (by omega) (by rw [q]; decide))]
      have bI : ∀ g u, tkI f0 N0 k i g u → u ≤ 1600 := by
        rintro g u ⟨f1, v1, e, -, -, a2, -, rfl⟩
        have := tkR_v hN0 a2
        have := tkC_l (e := e) (f := f1) (N := N0 - k)
        omega
      obtain ⟨w1, e1, q1, k1, t1⟩ := offer_b hP (x3 := nI k) (e := 0) (f := i) (N := N0 - k) (v := v) (by omega) (by omega) (by omega) (by decide) hv (by omega) (fun g u q => by have := bI g u q; omega) h2
      have z1 : ∀ j, zR w1 j = zR w j := fun j => by unfold zR; rw [q1]
      have hP1 : PR w1 := PR_e hP (by rw [q1])
      have hv1 : zI w1 (zR w1 0) i = nI v := by rw [z1, k1 _ _ n.2.1 n.2.2.1]; exact hv
      have hQ1 : Qc wb w1 := q_RI hQ q1 (fun x y hxy => k1 x y (by have := b 2; omega) (by have := b 3; omega))
      obtain ⟨w2, e2, q2, k2, t2⟩ := offer_b hP1 (x3 := nI k) (e := 1) (f := i) (N := N0 - k) (v := v) (by omega) (by omega) (by omega) (by decide) hv1 (by omega) (P := fun g u => tkI f0 N0 k i g u ∨ (g = tkF 0 i (N0 - k) ∧ u = v + tkC 0 i (N0 - k))) (fun g u q => by
        rcases q with q | q
        · have := bI g u q; omega
        · have := tkC_l (e := 0) (f := i) (N := N0 - k); omega) (fun g hg => by rw [z1]; exact t1 g hg)
      have z2 : ∀ j, zR w2 j = zR w j := fun j => by unfold zR; rw [q2, q1]
      have hP2 : PR w2 := PR_e hP1 (by rw [q2])
      have hQ2 : Qc wb w2 := q_RI hQ1 q2 (fun x y hxy => k2 x y (by rw [z1]; have := b 2; omega) (by rw [z1]; have := b 3; omega))
      have e1' : fX4_offer (nI i) (nI (N0 - k)) (nI k) (0 : Int32) w = some ((), w1) := e1
      have e2' : fX4_offer (nI i) (nI (N0 - k)) (nI k) (1 : Int32) w1 = some ((), w2) := e2
      rw [e1', bd_s, e2', bd_s, nI_1]
      refine ih (i + 1) M w2 (by omega) (by omega) hQ2 hP2 (fun f hf => ?_) (fun f hf => ?_)
      · rw [z2, k2 _ _ (by rw [z1]; exact n.2.1) (by rw [z1]; exact n.2.2.1), k1 _ _ n.2.1 n.2.2.1]; exact h0 f hf
      · have t := t2 f hf
        rw [z1] at t
        rw [z2]
        refine tkB_w t (fun u q => ?_) (fun u q => ?_)
        · rcases q with (⟨f1, v1, e, a0, a⟩ | ⟨a, a2⟩) | ⟨a, a2⟩
          · exact ⟨f1, v1, e, by omega, a⟩
          · exact ⟨i, v, 0, by omega, by decide, hr, a, a2⟩
          · exact ⟨i, v, 1, by omega, by decide, hr, a, a2⟩
        · obtain ⟨f1, v1, e, a0, a1, a2, a3, a4⟩ := q
          by_cases c : f1 = i
          · rw [c] at a2 a3 a4
            have hle := hx v1 a2
            rcases (show e = 0 ∨ e = 1 by omega) with rfl | rfl
            · exact ⟨v + tkC 0 i (N0 - k), .inl (.inr ⟨a3, rfl⟩), by omega⟩
            · exact ⟨v + tkC 1 i (N0 - k), .inr ⟨a3, rfl⟩, by omega⟩
          · exact ⟨u, .inl (.inl ⟨f1, v1, e, by omega, a1, a2, a3, a4⟩), Nat.le_refl u⟩
theorem choose_L {n x : Nat} (hn : n ≤ 12) (hx : x ≤ 64) (hN0 : N0 ≤ 64) : ∀ m i M w, i + m = x + 1 → m < M → Qc wb w → PR w → (∀ f, f ≤ 64 → tkB (zI w (zR w 0) f) (tkR f0 N0 n f)) → tkB (zI w 66 4) (fun v => ∃ f, f < i ∧ tkR f0 N0 n f v) → Ok (fX4_choose_L12 (nI x) M (nI i) w) (fun _ w' => Qc wb w' ∧ tkB (zI w' 66 4) (fun v => ∃ f, f < x + 1 ∧ tkR f0 N0 n f v)) := by
  intro m
  induction m with
  | zero =>
    intro i M w hi hM hQ hP h0 h4
    obtain ⟨M, rfl⟩ : ∃ k, M = k + 1 := ⟨M - 1, by omega⟩
    rw [fX4_choose_L12.eq_2, if_pos (nI_lt (by omega) (by omega))]
    exact ok_r ⟨hQ, by rw [show x + 1 = i by omega]; exact h4⟩
  | succ m ih =>
    intro i M w hi hM hQ hP h0 h4
    obtain ⟨M, rfl⟩ : ∃ k, M = k + 1 := ⟨M - 1, by omega⟩
    have b := zR_b w
    have hm := tkB_m h4 (h0 i (by omega)) (fun u q => by
      rcases q with ⟨f, -, q⟩ | q
      · have := tkR_v hN0 q; omega
      · have := tkR_v hN0 q; omega)
    have hm2 : tkB (if zI w 66 4 < zI w (zR w 0) i then zI w (zR w 0) i else zI w 66 4) (fun v => ∃ f, f < i + 1 ∧ tkR f0 N0 n f v) := by
      refine tkB_w hm (fun u q => ?_) (fun u q => ⟨u, ?_, Nat.le_refl u⟩)
      · rcases q with ⟨f, a, q⟩ | q
        · exact ⟨f, by omega, q⟩
        · exact ⟨i, by omega, q⟩
      · obtain ⟨f, a, q⟩ := q
        by_cases c : f = i
        · rw [c] at q; exact .inr q
        · exact .inl ⟨f, by omega, q⟩
    rw [fX4_choose_L12.eq_2, if_neg (fun q => by have := (nI_ltI (by omega) (by omega)).mp q; omega), ati_s w (zlR w 0) (show i < 65 by omega) (by decide), bd_s, lt_e, lt_e]
    have J8 : tkB (zI w (zR w 0) i) (fun v => ∃ f, f < i + 1 ∧ tkR f0 N0 n f v) → Ok (lt (zsI w 66 4 (zI w (zR w 0) i)) fun w9 => bd (fX7_at (zR w9 1) (nI i) w9) fun v12 w10 => lt (zsI w10 66 5 v12) fun w13 => fX4_choose_L12 (nI x) M (nI i + (1 : Int32)) w13) (fun _ w' => Qc wb w' ∧ tkB (zI w' 66 4) (fun v => ∃ f, f < x + 1 ∧ tkR f0 N0 n f v)) := by
      intro h5
      rw [lt_e, ati_s _ (zlR _ 1) (show i < 65 by omega) (by decide), bd_s, lt_e, nI_1]
      refine ih (i + 1) M _ (by omega) (by omega) (q_I (q_I hQ (cI_f (.inr (.inr (.inl (by omega)))) _)) (cI_f (.inr (.inr (.inl (by omega)))) _)) hP (fun f hf => ?_) ?_
      · have e : zI (zsI (zsI w 66 4 (zI w (zR w 0) i)) 66 5 (zI (zsI w 66 4 (zI w (zR w 0) i)) (zR (zsI w 66 4 (zI w (zR w 0) i)) 1) i)) (zR w 0) f = zI w (zR w 0) f := by
          rw [zI_zsI, if_neg (fun q => by have := b 0; omega), zI_zsI, if_neg (fun q => by have := b 0; omega)]
        exact e ▸ h0 f hf
      · rw [zI_zsI, if_neg (by omega), zI_zsI, if_pos ⟨rfl, rfl⟩]; exact h5
    by_cases c : zI w 66 4 < zI w (zR w 0) i
    · rw [if_pos c] at hm2 ⊢
      exact J8 hm2
    · rw [if_neg c] at hm2 ⊢
      by_cases d : zI w (zR w 0) i = zI w 66 4
      · rw [if_neg (not_not_intro d), ati_s w (zlR w 1) (show i < 65 by omega) (by decide), bd_s]
        refine ok_i (fun _ => ?_) (fun _ => J8 (by rw [d]; exact hm2))
        rw [nI_1]; exact ih (i + 1) M w (by omega) (by omega) hQ hP h0 hm2
      · rw [if_pos d, nI_1]; exact ih (i + 1) M w (by omega) (by omega) hQ hP h0 hm2
theorem seek_28 {n : Nat} (hn : n ≤ 12) (hnN : n ≤ N0) (hN0 : N0 ≤ 64) (hf0 : f0 ≤ N0) : ∀ m k M w, k + m = n → m < M → Qc wb w → PR w → (∀ f, f ≤ 64 → tkB (zI w (zR w 0) f) (tkR f0 N0 k f)) → Ok (fX4_seek_L28 (nI N0) (nI n) M (nI k) w) (fun _ w' => Qc wb w' ∧ tkB (zI w' 66 4) (fun v => ∃ f, tkR f0 N0 n f v)) := by
  intro m
  induction m with
  | zero =>
    intro k M w hk hM hQ hP h0
    obtain ⟨M, rfl⟩ : ∃ k, M = k + 1 := ⟨M - 1, by omega⟩
    have ek : k = n := by omega
    subst ek
    have b := zR_b w
    rw [fX4_seek_L28.eq_2, if_pos (nI_le (by omega) (by omega)), pk_sub hnN, fX4_choose, lt_e, lt_e]
    refine ok_b (choose_L (f0 := f0) (N0 := N0) hn (show N0 - k ≤ 64 by omega) hN0 (N0 - k + 1) 0 zFU _ (by omega) (fuelN (by omega)) (q_I (q_I hQ (cI_f (.inr (.inr (.inl (by omega)))) _)) (cI_f (.inr (.inr (.inl (by omega)))) _)) hP (fun f hf => ?_) ?_) (fun _ w2 a2 => ok_r ⟨a2.1, tkB_w a2.2 (fun u q => ?_) (fun u q => ⟨u, ?_, Nat.le_refl u⟩)⟩)
    · have e : zI (zsI (zsI w 66 4 (-1)) 66 5 0) (zR w 0) f = zI w (zR w 0) f := by
        rw [zI_zsI, if_neg (fun q => by have := b 0; omega), zI_zsI, if_neg (fun q => by have := b 0; omega)]
      exact e ▸ h0 f hf
    · exact .inl ⟨rfl, fun v q => by obtain ⟨f, a, -⟩ := q; omega⟩
    · obtain ⟨f, -, q⟩ := q; exact ⟨f, q⟩
    · obtain ⟨f, q⟩ := q
      exact ⟨f, by have := tkR_l hf0 hnN q; omega, q⟩
  | succ m ih =>
    intro k M w hk hM hQ hP h0
    obtain ⟨M, rfl⟩ : ∃ k, M = k + 1 := ⟨M - 1, by omega⟩
    have b := zR_b w
    have n2 := PR_n hP
    obtain ⟨w1, e1, q1, k1, t1⟩ := forget_s w (zlR w 2)
    have z1 : ∀ j, zR w1 j = zR w j := fun j => by unfold zR; rw [q1]
    rw [fX4_seek_L28.eq_2, if_neg (Int32.not_le.mpr (nI_lt (by omega) (by omega))), e1, bd_s]
    refine seek_44 (by omega) (by omega) hN0 hf0 (fun w2 b1 b2 b3 => ih (k + 1) M w2 (by omega) (by omega) b1 b2 b3) (N0 - k + 1) 0 zFU w1 (by omega) (fuelN (by omega)) (q_RI hQ q1 (fun x y hxy => k1 x y (by have := b 2; omega))) (PR_e hP (by rw [q1])) (fun f hf => ?_) (fun f hf => ?_)
    · rw [z1, k1 _ _ n2.2.1]; exact h0 f hf
    · rw [z1]
      exact .inl ⟨t1 f (by omega), fun v q => by obtain ⟨f1, v1, e, a, -⟩ := q; omega⟩
theorem seek_s {w : zW} {n : Nat} (hP : PR w) (hn : n ≤ 12) (hnN : n ≤ N0) (hN0 : N0 ≤ 64) (hf0 : f0 ≤ N0) : Ok (fX4_seek (nI f0) (nI N0) (nI n) w) (fun _ w' => Qc w w' ∧ tkB (zI w' 66 4) (fun v => ∃ f, tkR f0 N0 n f v)) := by
  have b := zR_b w
  have n2 := PR_n hP
  obtain ⟨w1, e1, q1, k1, t1⟩ := forget_s w (zlR w 0)
  have z1 : ∀ j, zR w1 j = zR w j := fun j => by unfold zR; rw [q1]
  rw [fX4_seek, e1, bd_s, seti_s w1 0 (zlR w1 0) (show f0 < 65 by omega) (by decide), bd_s, seti_s _ 0 (zlR _ 1) (show f0 < 65 by omega) (by decide), bd_s]
  have z3 : ∀ j, zR (zsI w1 (zR w1 0) f0 0) j = zR w j := z1
  rw [z3 1, z1 0]
  refine seek_28 hn hnN hN0 hf0 n 0 zFU _ (by omega) (fuelN (by omega)) (q_RI (q_0 w) q1 (fun x y hxy => ?_)) (PR_e hP (by show w1.2.2 = _; rw [q1])) (fun f hf => ?_)
  · rw [zI_zsI, if_neg (fun q => by have := b 1; omega), zI_zsI, if_neg (fun q => by have := b 0; omega), k1 x y (by have := b 0; omega)]
  · have z4 : zR (zsI (zsI w1 (zR w 0) f0 0) (zR w 1) f0 0) 0 = zR w 0 := z1 0
    rw [z4, zI_zsI, if_neg (fun q => n2.1 q.1), zI_zsI]
    by_cases c : f = f0
    · rw [if_pos ⟨rfl, c⟩]
      exact .inr ⟨0, rfl, tkR_0.mpr ⟨c, rfl⟩, fun u q => by rw [(tkR_0.mp q).2]; exact Nat.le_refl 0⟩
    · rw [if_neg (fun q => c q.2), t1 f (by omega)]
      exact .inl ⟨rfl, fun v q => c (tkR_0.mp q).1⟩
end DE
section DF
variable {J : aJ} {S : aS} {T : aT} {w w1 w2 : zW} {H H' : Nat → Int32} {w0 : zX}
def bitF (i k : Nat) : Nat := i / 2 ^ k % 2
theorem bitF_l (i k : Nat) : bitF i k < 2 := Nat.mod_lt _ (by decide)
theorem dear_r65 {f0 N0 n i : Nat} {x1 x3 x4 : Int32} (hn : n ≤ 12) (hnN : n ≤ N0) (hN0 : N0 ≤ 64) (hf0 : f0 ≤ N0) (hi : i < 2 ^ 12) {g : Int32 → Int32 → Int32 → zW → Option (Int32 × zW)} {P : Int32 → zW → Prop} (hg : ∀ a w, uD w0 J S T H w → Ok (g a (if x4 < nI (tkD f0 N0 (bitF i) n).2 then nI (tkD f0 N0 (bitF i) n).2 else x4) (nI (i + 1)) w) P) : ∀ m k N w b, k + m = n → m < N → uD w0 J S T H w → zI w 74 30 = nI (tkD f0 N0 (bitF i) k).1 → zI w 74 31 = nI b → (tkD f0 N0 (bitF i) k).1 + b = N0 - k → Ok (fX8_dearest_L65 x1 (nI n) x3 x4 (nI i) g N (nI (tkD f0 N0 (bitF i) k).2) (nI k) w) P := by
  intro m
  induction m with
  | zero =>
    intro k N w b hk hN h hf hb hs
    obtain ⟨N, rfl⟩ : ∃ k, N = k + 1 := ⟨N - 1, by omega⟩
    have ek : k = n := by omega
    subst ek
    rw [fX8_dearest_L65.eq_2, if_pos (nI_le (by omega) (by omega)), lt_e, nI_1]
    by_cases c : nI (tkD f0 N0 (bitF i) k).2 ≤ x4
    · rw [if_pos c]
      have := hg x3 w h
      rw [if_neg (Int32.not_lt.mpr c)] at this; exact this
    · rw [if_neg c]
      have := hg (nI i) w h
      rw [if_pos (Int32.not_le.mp c)] at this; exact this
  | succ m ih =>
    intro k N w b hk hN h hf hb hs
    obtain ⟨N, rfl⟩ : ∃ k, N = k + 1 := ⟨N - 1, by omega⟩
    have e1 : (nI i >>> (nI k &&& 31)) &&& (1 : Int32) = nI (bitF i k) := by
      rw [pk_shrN (by omega) _ k (shk k (by omega)), pk_andN (Nat.lt_of_le_of_lt (Nat.div_le_self _ _) (by omega)) 1 (by decide)]; rfl
    have hl := tkD_l (b := bitF i) hf0 k (by omega)
    rw [fX8_dearest_L65.eq_2, if_neg (Int32.not_le.mpr (nI_lt (by omega) (by omega))), e1]
    refine ok_b (costs_s h (bitF_l i k) hf hb (by omega) (by omega)) (fun c w1 a1 => ?_)
    obtain ⟨b1, rfl, f', b', b2, b3, b4, b5⟩ := a1
    have hB : b = N0 - k - (tkD f0 N0 (bitF i) k).1 := by omega
    have ec : (if (if bitF i k = 0 then (tkD f0 N0 (bitF i) k).1 else b) = 0 then (tkD f0 N0 (bitF i) k).1 + b else 0) = tkC (bitF i k) (tkD f0 N0 (bitF i) k).1 (N0 - k) := by
      unfold tkC
      rw [hs, hB]
    have ef : f' = (tkD f0 N0 (bitF i) (k + 1)).1 := by
      rw [tkD]
      show f' = tkF (bitF i k) (tkD f0 N0 (bitF i) k).1 (N0 - k)
      unfold tkF
      have hbl := bitF_l i k
      by_cases z : bitF i k = 0
      · rw [if_pos z] at b5 ⊢
        rw [if_pos z] at b5
        rw [b5, hs]
      · rw [if_neg z] at b5 ⊢
        rw [if_neg z] at b5
        rw [hs] at b5 b4
        rw [← hB, ← b5]; omega
    rw [ec, lt_e, nI_add, nI_1]
    have e2 : (tkD f0 N0 (bitF i) k).2 + tkC (bitF i k) (tkD f0 N0 (bitF i) k).1 (N0 - k) = (tkD f0 N0 (bitF i) (k + 1)).2 := rfl
    rw [e2]
    exact ih (k + 1) N w1 b' (by omega) (by omega) b1 (by rw [← ef]; exact b2) b3 (by rw [← ef]; omega)
theorem dear_r46 (hS : sW J S) {j n : Nat} (hj : j < 4) (hn : n ≤ 12) (hnn : n ≤ aN S j) : ∀ m i N (x3 x4 : Int32) w, i + m = 2 ^ n → m < N → uD w0 J S T H w → tkB x4 (fun v => ∃ x, x < i ∧ (tkD (sZ S (2 * j)) (aN S j) (bitF x) n).2 = v) → Ok (fX8_dearest_L46 (nI j) (nI n) N x3 x4 (nI i) w) (fun a w' => uD w0 J S T H w' ∧ tkB a (fun v => ∃ x, x < 2 ^ n ∧ (tkD (sZ S (2 * j)) (aN S j) (bitF x) n).2 = v)) := by
  have hz := hS.1 j hj
  have hf : sZ S (2 * j) ≤ aN S j := Nat.le_add_right _ _
  have hp : 2 ^ n ≤ 2 ^ 12 := Nat.pow_le_pow_right (by decide) hn
  have es : (1 : Int32) <<< (nI n &&& 31) = nI (2 ^ n) := by
    have := pk_shlN (n := 1) (nI n &&& 31) n (shk n (by omega)) (by omega)
    rw [Nat.one_mul] at this
    exact this
  intro m
  induction m with
  | zero =>
    intro i N x3 x4 w hi hN h hb
    obtain ⟨N, rfl⟩ : ∃ k, N = k + 1 := ⟨N - 1, by omega⟩
    rw [fX8_dearest_L46.eq_2, es, if_pos (nI_le (by omega) (by omega)), lt_e]
    exact ok_b (enters_s (n := 0) (uD_1 (v := 0) h) rfl (by decide) _) (fun _ w4 a4 => ok_r ⟨a4.1, by rw [show 2 ^ n = i by omega]; exact hb⟩)
  | succ m ih =>
    intro i N x3 x4 w hi hN h hb
    obtain ⟨N, rfl⟩ : ∃ k, N = k + 1 := ⟨N - 1, by omega⟩
    rw [fX8_dearest_L46.eq_2, es, if_neg (Int32.not_le.mpr (nI_lt (by omega) (by omega)))]
    refine ok_b (begins_s h (show j < 5 by omega)) (fun _ w2 a2 => ?_)
    refine dear_r65 (f0 := sZ S (2 * j)) (N0 := aN S j) (i := i) hn hnn hz hf (by omega) (fun a w h => ih (i + 1) N a _ w (by omega) (by omega) h ?_) n 0 zFU w2 (sZ S (2 * j + 1)) (by omega) (fuelN (by omega)) a2.1 a2.2.1 a2.2.2 rfl
    refine tkB_w (tkB_m hb (tkB_1 (v := (tkD (sZ S (2 * j)) (aN S j) (bitF i) n).2)) (fun u q => ?_)) (fun u q => ?_) (fun u q => ⟨u, ?_, Nat.le_refl u⟩)
    · rcases q with ⟨x, -, q⟩ | q
      · have := tkD_v (f0 := sZ S (2 * j)) (b := bitF x) hz n; omega
      · have := tkD_v (f0 := sZ S (2 * j)) (b := bitF i) hz n; omega
    · rcases q with ⟨x, a, q⟩ | q
      · exact ⟨x, by omega, q⟩
      · exact ⟨i, by omega, q.symm⟩
    · obtain ⟨x, a, q⟩ := q
      by_cases c : x = i
      · rw [c] at q; exact .inr q.symm
      · exact .inl ⟨x, by omega, q⟩
theorem dearest_b (h : rW J S T w) (a b : Int32) : Bq (fX7_dearest a b) (fX8_dearest a b) Eq w := by
  obtain ⟨hW, hS, hT, ⟨H0, hC0⟩, -⟩ := id h
  have hC0 := uC_sf hC0
  rcases ln a with hl | ⟨j, hj, rfl⟩
  · exact bq_x h (-1) (fun H hC => by rw [fX7_dearest, lineAt_n w hl, bd_s, oc_n]) (fun w1 H hD => by rw [fX8_dearest, lt_e, isLine_n _ hl, bd_s, ff])
  have hz := hS.1 j hj
  rcases inb b (lo := 1) (hi := 12) (by decide) (by decide) with ⟨h1, h2⟩ | ⟨h1, h1', h2⟩
  · have h3 : ∀ w, fX8_in b.toInt64 1 12 w = some (false, w) := h2
    refine bq_x h (-1) (fun H hC => ?_) (fun w1 H hD => by rw [fX8_dearest, lt_e, isLine_s _ hj, bd_s, tt, h3, bd_s, ff])
    rw [fX7_dearest, lineAt_s w hj, bd_s, oc_s]
    by_cases c : b < 1
    · rw [if_pos c]
    · rw [if_neg c]
      rcases h1 with z | z
      · exact absurd z c
      · rw [if_neg (show ¬ b ≤ 12 from Int32.not_le.mpr z)]
  have h3 : ∀ w, fX8_in b.toInt64 1 12 w = some (true, w) := h2
  obtain ⟨n, hn, rfl⟩ : ∃ n, n ≤ 12 ∧ b = nI n := by
    rcases i01 (n := 12) (by decide) h1' with q | q
    · exact absurd (Int32.lt_of_lt_of_le q (by decide)) h1
    · exact q
  have hp : 2 ^ n ≤ 2 ^ 12 := Nat.pow_le_pow_right (by decide) hn
  by_cases c : n ≤ aN S j
  · have hf : sZ S (2 * j) ≤ aN S j := Nat.le_add_right _ _
    refine bh (fun a => tkB a (fun v => ∃ f, tkR (sZ S (2 * j)) (aN S j) n f v)) (fun a => tkB a (fun v => ∃ x, x < 2 ^ n ∧ (tkD (sZ S (2 * j)) (aN S j) (bitF x) n).2 = v)) (fun x y a b => tkB_u a b (fun v => ⟨fun q => ?_, fun q => ?_⟩)) h ?_ (fun w1 h1 => ?_)
    · obtain ⟨f, bb, hb, e⟩ := q
      obtain ⟨i, hi, hk⟩ := tkM n bb hb
      refine ⟨i, hi, ?_⟩
      rw [tkD_c (b := bitF i) (c := bb) n (fun k hk2 => hk k hk2), e]
    · obtain ⟨x, -, e⟩ := q
      exact ⟨(tkD (sZ S (2 * j)) (aN S j) (bitF x) n).1, bitF x, bitF_l x, by rw [← e]⟩
    · rw [fX7_dearest, lineAt_s w hj, bd_s, oc_s, if_neg (show ¬ nI n < 1 from h1), if_pos (show nI n ≤ 12 from Int32.not_lt.mp h1'), size_s hC0 (by omega), bd_s, if_pos (nI_le c (by omega)), size_s hC0 (by omega), bd_s, LN_0, uC_z hC0 (by omega)]
      refine ok_b (seek_s hC0.2.2.2.2.2.2 hn c hz hf) (fun _ w2 a2 => ?_)
      have et : fX7_tell (zI w2 66 5).toInt64 w2 = some ((), zsI (zsL (zsI w2 0 8 0) 71 0 (zI w2 66 5).toInt64) 0 8 1) := rfl
      rw [et, bd_s]
      refine ok_r ⟨?_, rW_Q h (q_I (q_L (q_I a2.1 rfl) rfl) rfl)⟩
      exact a2.2
    · obtain ⟨-, -, -, -, H, hD⟩ := id h1
      have hD := uD_sf hD
      rw [fX8_dearest, lt_e, isLine_s _ hj, bd_s, tt, h3, bd_s, tt, sizeOf_s (uD_0 hD) (by omega), bd_s, if_pos (nI_le c (by omega))]
      refine ok_m (dear_r46 hS hj hn c (2 ^ n) 0 zFU 0 (-1) _ (by omega) (fuelN (by omega)) (uD_0 hD) (.inl ⟨rfl, fun v q => by obtain ⟨x, hx, -⟩ := q; omega⟩)) (fun _ _ q => ⟨q.2, rW_D h1 q.1⟩)
  · have hcn : ¬ nI n ≤ nI (aN S j) := fun q => c ((nI_leI (by omega) (by omega)).mp q)
    refine bq_x h (-2) (fun H hC => ?_) (fun w1 H hD => ?_)
    · rw [fX7_dearest, lineAt_s w hj, bd_s, oc_s, if_neg (show ¬ nI n < 1 from h1), if_pos (show nI n ≤ 12 from Int32.not_lt.mp h1'), size_s hC (by omega), bd_s, if_neg hcn]
    · rw [fX8_dearest, lt_e, isLine_s _ hj, bd_s, tt, h3, bd_s, tt, sizeOf_s (uD_0 hD) (by omega), bd_s, if_neg hcn]
end DF
