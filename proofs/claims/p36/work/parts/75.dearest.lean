set_option maxRecDepth 16384
theorem zR_s (w : zW) (j i : Nat) (t : Nat) (h : 67 ≤ t) (h2 : t ≤ 70) : zR (zsR w j t) i = if i = j then t else zR w i := by
  unfold zR zsR
  by_cases c : i = j
  · rw [if_pos c]
    show 67 + (if i = j then t + 1 else w.2.2 i) % 4 = t
    rw [if_pos c]; omega
  · rw [if_neg c]
    show 67 + (if i = j then t + 1 else w.2.2 i) % 4 = _
    rw [if_neg c]
theorem zR_b (w : zW) (j : Nat) : 67 ≤ zR w j ∧ zR w j ≤ 70 := by unfold zR; omega
def swW (w : zW) : zW := zsR (zsR (zsR (zsR w 0 (zR w 2)) 1 (zR w 3)) 2 (zR w 0)) 3 (zR w 1)
theorem swW_R (w : zW) : zR (swW w) 0 = zR w 2 ∧ zR (swW w) 1 = zR w 3 ∧ zR (swW w) 2 = zR w 0 ∧ zR (swW w) 3 = zR w 1 := by
  have b := zR_b w
  unfold swW
  refine ⟨?_, ?_, ?_, ?_⟩ <;> simp [zR_s, b]
theorem swap_s (w : zW) : fX4_swap w = some ((), swW w) := by
  have b := zR_b w
  have e : zR (zsR w 0 (zR w 2)) 3 = zR w 3 := by rw [zR_s w 0 3 _ (b 2).1 (b 2).2, if_neg (by decide)]
  rw [fX4_swap, lt_e, lt_e, lt_e, lt_e, e]; rfl
theorem swW_Q {w0 w : zW} (hQ : Qc w0 w) : Qc w0 (swW w) := by
  refine ⟨hQ.1, hQ.2.1, fun h => ?_⟩
  have q := hQ.2.2 h
  have e := swW_R w
  unfold PR
  rw [e.1, e.2.1, e.2.2.1, e.2.2.2]
  rcases q with ⟨a, b, c, d⟩ | ⟨a, b, c, d⟩
  · exact .inr ⟨c, d, a, b⟩
  · exact .inl ⟨c, d, a, b⟩
/-- the cost of a taking at the END e with f of N in front -/
def tkC (e f N : Nat) : Nat := if (if e = 0 then f else N - f) = 0 then N else 0
/-- behind k takings at the ENDs that b says: the front, the cost of all -/
def tkD (f0 N0 : Nat) (b : Nat → Nat) : Nat → Nat × Nat
  | 0 => (f0, 0)
  | k + 1 => (tkF (b k) (tkD f0 N0 b k).1 (N0 - k), (tkD f0 N0 b k).2 + tkC (b k) (tkD f0 N0 b k).1 (N0 - k))
/-- the mask of the first k ENDs -/
def bM (b : Nat → Nat) : Nat → Nat
  | 0 => 0
  | k + 1 => bM b k + b k * 2 ^ k
def bitF (i k : Nat) : Nat := i / 2 ^ k % 2
theorem bitF_l (i k : Nat) : bitF i k < 2 := Nat.mod_lt _ (by decide)
theorem bM_l {b : Nat → Nat} (hb : ∀ i, b i < 2) : ∀ k, bM b k < 2 ^ k := by
  intro k
  induction k with
  | zero => exact Nat.one_pos
  | succ k ih =>
    have h := hb k
    rw [bM, Nat.pow_succ]
    rcases (show b k = 0 ∨ b k = 1 by omega) with e | e
    · rw [e]; omega
    · rw [e]; omega
theorem bM_c {b c : Nat → Nat} : ∀ k, (∀ i, i < k → b i = c i) → bM b k = bM c k := by
  intro k
  induction k with
  | zero => intro _; rfl
  | succ k ih => intro h; rw [bM, bM, ih (fun i hi => h i (by omega)), h k (Nat.lt_succ_self k)]
theorem bM_b {m : Nat} : ∀ k, bM (bitF m) k = m % 2 ^ k := by
  intro k
  induction k with
  | zero => rw [Nat.pow_zero, Nat.mod_one]; rfl
  | succ k ih =>
    rw [bM, ih]
    unfold bitF
    have h := Nat.mod_mul (x := m) (a := 2 ^ k) (b := 2)
    rw [Nat.pow_succ, h, Nat.mul_comm]
theorem bit_M {b : Nat → Nat} (hb : ∀ i, b i < 2) : ∀ k i, i < k → bitF (bM b k) i = b i := by
  intro k
  induction k with
  | zero => intro i hi; omega
  | succ k ih =>
    intro i hi
    have hl := bM_l hb k
    rw [bM]
    by_cases c : i = k
    · subst c
      unfold bitF
      rw [Nat.add_mul_div_right _ _ (Nat.two_pow_pos i), Nat.div_eq_of_lt hl, Nat.zero_add]
      exact Nat.mod_eq_of_lt (hb i)
    · have h := ih i (by omega)
      rw [← h]
      unfold bitF
      obtain ⟨d, rfl⟩ : ∃ d, k = i + 1 + d := ⟨k - (i + 1), by omega⟩
      have e : b (i + 1 + d) * 2 ^ (i + 1 + d) = (2 * (b (i + 1 + d) * 2 ^ d)) * 2 ^ i := by
        rw [show i + 1 + d = i + (d + 1) by omega, Nat.pow_add, Nat.pow_succ]
        rw [Nat.mul_comm (2 ^ d) 2, Nat.mul_comm (2 ^ i), ← Nat.mul_assoc, ← Nat.mul_assoc, Nat.mul_comm (b (i + (d + 1))) 2, Nat.mul_assoc 2]
      rw [e, Nat.add_mul_div_right _ _ (Nat.two_pow_pos i), Nat.add_mul_mod_self_left]
def tkR (f0 N0 k f v m : Nat) : Prop := ∃ b : Nat → Nat, (∀ i, b i < 2) ∧ tkD f0 N0 b k = (f, v) ∧ m = bM b k
theorem tkC_l {e f N : Nat} : tkC e f N ≤ N := by
  unfold tkC
  split <;> split <;> omega
theorem tkD_c {f0 N0 : Nat} {b c : Nat → Nat} : ∀ k, (∀ i, i < k → b i = c i) → tkD f0 N0 b k = tkD f0 N0 c k := by
  intro k
  induction k with
  | zero => intro _; rfl
  | succ k ih =>
    intro h
    rw [tkD, tkD, ih (fun i hi => h i (by omega)), h k (Nat.lt_succ_self k)]
theorem tkD_l {f0 N0 : Nat} {b : Nat → Nat} (hf : f0 ≤ N0) : ∀ k, k ≤ N0 → (tkD f0 N0 b k).1 ≤ N0 - k := by
  intro k
  induction k with
  | zero => intro _; exact hf
  | succ k ih =>
    intro h
    have h1 := ih (by omega)
    have h2 := tkF_l (e := b k) (show 1 ≤ N0 - k by omega) h1
    rw [tkD]
    show tkF (b k) (tkD f0 N0 b k).1 (N0 - k) ≤ _
    omega
theorem tkD_v {f0 N0 : Nat} {b : Nat → Nat} (hN : N0 ≤ 64) : ∀ k, (tkD f0 N0 b k).2 ≤ 64 * k := by
  intro k
  induction k with
  | zero => exact Nat.zero_le _
  | succ k ih =>
    have h1 := tkC_l (e := b k) (f := (tkD f0 N0 b k).1) (N := N0 - k)
    rw [tkD]
    show (tkD f0 N0 b k).2 + tkC (b k) (tkD f0 N0 b k).1 (N0 - k) ≤ _
    omega
theorem tkR_l {f0 N0 k f v m : Nat} (hf : f0 ≤ N0) (hk : k ≤ N0) (h : tkR f0 N0 k f v m) : f ≤ N0 - k := by
  obtain ⟨b, -, e, -⟩ := h
  have := tkD_l (b := b) hf k hk
  rw [e] at this; exact this
theorem tkR_v {f0 N0 k f v m : Nat} (hN : N0 ≤ 64) (h : tkR f0 N0 k f v m) : v ≤ 64 * k ∧ m < 2 ^ k := by
  obtain ⟨b, hb, e, rfl⟩ := h
  have := tkD_v (f0 := f0) (b := b) hN k
  rw [e] at this; exact ⟨this, bM_l hb k⟩
theorem tkR_0 {f0 N0 f v m : Nat} : tkR f0 N0 0 f v m ↔ f = f0 ∧ v = 0 ∧ m = 0 := by
  constructor
  · rintro ⟨b, -, e, rfl⟩
    exact ⟨(congrArg Prod.fst e).symm, (congrArg Prod.snd e).symm, rfl⟩
  · rintro ⟨rfl, rfl, rfl⟩
    exact ⟨fun _ => 0, fun _ => (show 0 < 2 by decide), rfl, rfl⟩
theorem tkR_s {f0 N0 k f2 v2 m2 : Nat} : tkR f0 N0 (k + 1) f2 v2 m2 ↔ ∃ f v m e, e < 2 ∧ tkR f0 N0 k f v m ∧ f2 = tkF e f (N0 - k) ∧ v2 = v + tkC e f (N0 - k) ∧ m2 = m + e * 2 ^ k := by
  constructor
  · rintro ⟨b, hb, h, rfl⟩
    rw [tkD] at h
    exact ⟨(tkD f0 N0 b k).1, (tkD f0 N0 b k).2, bM b k, b k, hb k, ⟨b, hb, rfl, rfl⟩, (congrArg Prod.fst h).symm, (congrArg Prod.snd h).symm, rfl⟩
  · rintro ⟨f, v, m, e, he, ⟨b, hb, h, rfl⟩, rfl, rfl, rfl⟩
    refine ⟨fun i => if i = k then e else b i, fun i => ?_, ?_, ?_⟩
    · by_cases c : i = k
      · show (if i = k then e else b i) < 2
        rw [if_pos c]; exact he
      · show (if i = k then e else b i) < 2
        rw [if_neg c]; exact hb i
    · have e1 : tkD f0 N0 (fun i => if i = k then e else b i) k = (f, v) := by
        rw [← h]; exact tkD_c k (fun i hi => if_neg (by omega))
      rw [tkD, e1]
      show (tkF (if k = k then e else b k) f (N0 - k), v + tkC (if k = k then e else b k) f (N0 - k)) = _
      rw [if_pos rfl]
    · have e1 : bM (fun i => if i = k then e else b i) k = bM b k := bM_c k (fun i hi => if_neg (by omega))
      rw [bM, e1]
      show _ = bM b k + (if k = k then e else b k) * 2 ^ k
      rw [if_pos rfl]
/-- (u, l) is as good as (v, m), or better: dearer, or as dear by a lesser mask -/
def dm (u l v m : Nat) : Prop := v < u ∨ (v = u ∧ l ≤ m)
theorem dm_r (v m : Nat) : dm v m v m := .inr ⟨rfl, Nat.le_refl m⟩
theorem dm_t {a b c d e f : Nat} (h : dm a b c d) (g : dm c d e f) : dm a b e f := by unfold dm at *; omega
/-- c, d are the best of those; c is -1 where there is none -/
def tkB (c d : Int32) (P : Nat → Nat → Prop) : Prop := (c = -1 ∧ ∀ v m, ¬ P v m) ∨ ∃ v m, c = nI v ∧ d = nI m ∧ P v m ∧ ∀ u l, P u l → dm v m u l
theorem tkB_u {a b x y : Int32} {P Q : Nat → Nat → Prop} (ha : tkB a x P) (hb : tkB b y Q) (h : ∀ v m, P v m ↔ Q v m) (he : ∃ v m, P v m) : a = b ∧ x = y := by
  rcases ha with ⟨rfl, n⟩ | ⟨v, m, rfl, rfl, p, l⟩
  · obtain ⟨v, m, p⟩ := he; exact absurd p (n v m)
  · rcases hb with ⟨rfl, n2⟩ | ⟨u, k, rfl, rfl, p2, l2⟩
    · exact absurd ((h v m).mp p) (n2 v m)
    · have h1 := l u k ((h u k).mpr p2)
      have h2 := l2 v m ((h v m).mp p)
      unfold dm at h1 h2
      rw [show v = u by omega, show m = k by omega]
      exact ⟨rfl, rfl⟩
theorem tkB_w {c d : Int32} {P Q : Nat → Nat → Prop} (h : tkB c d P) (h1 : ∀ v m, P v m → Q v m) (h2 : ∀ v m, Q v m → ∃ u l, P u l ∧ dm u l v m) : tkB c d Q := by
  rcases h with ⟨rfl, n⟩ | ⟨v, m, rfl, rfl, p, l⟩
  · exact .inl ⟨rfl, fun v m q => by obtain ⟨u, k, hu, -⟩ := h2 v m q; exact n u k hu⟩
  · exact .inr ⟨v, m, rfl, rfl, h1 v m p, fun u k q => by obtain ⟨x, y, hx, hl⟩ := h2 u k q; exact dm_t (l x y hx) hl⟩
/-- a new one is offered -/
theorem tkB_m {c d : Int32} {v m : Nat} {P : Nat → Nat → Prop} (h : tkB c d P) (hv : v < 2 ^ 31) (hm : m < 2 ^ 31) (hb : ∀ u l, P u l → u < 2 ^ 31 ∧ l < 2 ^ 31) : (c < nI v → tkB (nI v) (nI m) (fun u l => P u l ∨ (u = v ∧ l = m))) ∧ (¬ c < nI v → nI v = c → nI m < d → tkB (nI v) (nI m) (fun u l => P u l ∨ (u = v ∧ l = m))) ∧ (¬ c < nI v → ¬ (nI v = c ∧ nI m < d) → tkB c d (fun u l => P u l ∨ (u = v ∧ l = m))) := by
  have hl : (-1 : Int32) < nI v := Int32.lt_of_lt_of_le (show (-1 : Int32) < 0 by decide) (nI_pos' hv)
  rcases h with ⟨rfl, n⟩ | ⟨u, k, rfl, rfl, p, l⟩
  · refine ⟨fun _ => .inr ⟨v, m, rfl, rfl, .inr ⟨rfl, rfl⟩, fun x y q => ?_⟩, fun q => absurd hl q, fun q => absurd hl q⟩
    rcases q with q | ⟨rfl, rfl⟩
    · exact absurd q (n x y)
    · exact dm_r _ _
  · have hu := (hb u k p).1
    have hk := (hb u k p).2
    refine ⟨fun q => .inr ⟨v, m, rfl, rfl, .inr ⟨rfl, rfl⟩, fun x y z => ?_⟩, fun q e g => .inr ⟨v, m, rfl, rfl, .inr ⟨rfl, rfl⟩, fun x y z => ?_⟩, fun q g => .inr ⟨u, k, rfl, rfl, .inl p, fun x y z => ?_⟩⟩
    · have h1 := (nI_ltI hu hv).mp q
      rcases z with z | ⟨rfl, rfl⟩
      · exact dm_t (.inl h1) (l x y z)
      · exact dm_r _ _
    · have h1 := (nI_eq hv hu).mp e
      have h2 := (nI_ltI hm hk).mp g
      rcases z with z | ⟨rfl, rfl⟩
      · exact dm_t (.inr ⟨h1.symm, Nat.le_of_lt h2⟩) (l x y z)
      · exact dm_r _ _
    · rcases z with z | ⟨rfl, rfl⟩
      · exact l x y z
      · have h1 : ¬ u < x := fun z => q ((nI_ltI hu hv).mpr z)
        by_cases e : x = u
        · have h2 : ¬ y < k := fun z => g ⟨by rw [e], (nI_ltI hm hk).mpr z⟩
          exact .inr ⟨e, by omega⟩
        · exact .inl (by omega)
theorem zlR (w : zW) (j : Nat) : zlen (zR w j) = 65 := by
  have := zR_b w j
  rcases (show zR w j = 67 ∨ zR w j = 68 ∨ zR w j = 69 ∨ zR w j = 70 by omega) with e | e | e | e <;> rw [e] <;> rfl
theorem PR_n {w : zW} (h : PR w) : zR w 0 ≠ zR w 1 ∧ zR w 0 ≠ zR w 2 ∧ zR w 0 ≠ zR w 3 ∧ zR w 2 ≠ zR w 3 := by
  rcases h with ⟨a, b, c, d⟩ | ⟨a, b, c, d⟩ <;> rw [a, b, c, d] <;> decide
theorem PR_3 {w : zW} (h : PR w) : zR w 1 ≠ zR w 2 ∧ zR w 1 ≠ zR w 3 := by
  rcases h with ⟨a, b, c, d⟩ | ⟨a, b, c, d⟩ <;> rw [b, c, d] <;> decide
theorem forget_L {r : Nat} (hr : zlen r = 65) : ∀ m i N w, i + m = 65 → m < N → (∀ j, j < i → zI w r j = -1) → ∃ w', fX4_forget_L2 r N (nI i) w = some ((), w') ∧ w'.2 = w.2 ∧ (∀ k j, k ≠ r → zI w' k j = zI w k j) ∧ ∀ j, j < 65 → zI w' r j = -1 := by
  intro m
  induction m with
  | zero =>
    intro i N w hi hN h
    obtain ⟨N, rfl⟩ : ∃ k, N = k + 1 := ⟨N - 1, by omega⟩
    rw [fX4_forget_L2.eq_2, hr, if_pos (nI_le (by omega) (by omega))]
    exact ⟨w, rfl, rfl, fun _ _ _ => rfl, fun j hj => h j (by omega)⟩
  | succ m ih =>
    intro i N w hi hN h
    obtain ⟨N, rfl⟩ : ∃ k, N = k + 1 := ⟨N - 1, by omega⟩
    rw [fX4_forget_L2.eq_2, hr, if_neg (Int32.not_le.mpr (nI_lt (by omega) (by omega))), zin_t (show i < 65 by omega) (by decide), zg_t, lt_e, nI_1, nI_clamp (by omega)]
    obtain ⟨w', e, e2, e3, e4⟩ := ih (i + 1) N (zsI w r i (-1)) (by omega) (by omega) (fun j hj => by
      rw [zI_zsI]
      by_cases c : j = i
      · rw [if_pos ⟨rfl, c⟩]
      · rw [if_neg (fun q => c q.2)]; exact h j (by omega))
    exact ⟨w', e, e2, fun k j hk => by rw [e3 k j hk, zI_zsI, if_neg (fun q => hk q.1)], e4⟩
theorem forget_s (w : zW) {r : Nat} (hr : zlen r = 65) : ∃ w', fX4_forget r w = some ((), w') ∧ w'.2 = w.2 ∧ (∀ k j, k ≠ r → zI w' k j = zI w k j) ∧ ∀ j, j < 65 → zI w' r j = -1 := by
  rw [fX4_forget]
  exact forget_L hr 65 0 zFU w (by omega) (fuelN (by omega)) (fun j hj => absurd hj (Nat.not_lt_zero j))
theorem cost4_s (w : zW) {e f N : Nat} (hN : N ≤ 64) (hf : f ≤ N) (he : e < 2) : fX4_cost (nI f) (nI N) (nI e) w = some (nI (tkC e f N), w) := by
  rw [fX4_cost, lt_e]
  unfold tkC
  rcases (show e = 0 ∨ e = 1 by omega) with rfl | rfl
  · have hc : (if ¬ nI 0 = (0 : Int32) then nI N - nI f else nI f) = nI f := if_neg (by decide)
    rw [hc, if_pos (show (0 : Nat) = 0 from rfl)]
    by_cases c : f = 0
    · rw [if_neg (not_not_intro (show nI f = 0 by rw [c]; rfl)), if_pos c]
    · rw [if_pos (nI_ne0 (by omega) (by omega)), if_neg c]; rfl
  · have hc : (if ¬ nI 1 = (0 : Int32) then nI N - nI f else nI f) = nI (N - f) := by rw [if_pos (by decide), pk_sub hf]
    rw [hc, if_neg (show ¬ (1 : Nat) = 0 by decide)]
    by_cases c : N - f = 0
    · rw [if_neg (not_not_intro (show nI (N - f) = 0 by rw [c]; rfl)), if_pos c]
    · rw [if_pos (nI_ne0 (by omega) (by omega)), if_neg c]; rfl
theorem nI_or (a b : Nat) : nI a ||| nI b = nI (a ||| b) := by
  apply Int32.toBitVec_inj.1
  show BitVec.ofNat 32 a ||| BitVec.ofNat 32 b = BitVec.ofNat 32 (a ||| b)
  apply BitVec.eq_of_getLsbD_eq
  intro i hi
  simp [hi]
theorem mask_s {m e k : Nat} (he : e < 2) (hk : k < 12) (hm : m < 2 ^ k) : nI m ||| nI e <<< (nI k &&& 31) = nI (m + e * 2 ^ k) := by
  have hp : 2 ^ k ≤ 2 ^ 12 := Nat.pow_le_pow_right (by decide) (by omega)
  rcases (show e = 0 ∨ e = 1 by omega) with rfl | rfl
  · have h0 : nI 0 <<< (nI k &&& 31) = nI (0 * 2 ^ k) := pk_shlN (nI k &&& 31) k (shk k (by omega)) (by omega)
    rw [h0, Nat.zero_mul, nI_or, Nat.or_zero, Nat.add_zero]
  · have h0 : nI 1 <<< (nI k &&& 31) = nI (1 * 2 ^ k) := pk_shlN (nI k &&& 31) k (shk k (by omega)) (by omega)
    have h1 := Nat.two_pow_add_eq_or_of_lt hm 1
    rw [Nat.mul_one] at h1
    rw [h0, Nat.one_mul, nI_or, Nat.or_comm, ← h1, Nat.add_comm]
theorem offer_s {w : zW} (hP : PR w) {e f N v m k : Nat} (hN1 : 1 ≤ N) (hN : N ≤ 64) (hf : f ≤ N) (he : e < 2) (hk : k < 12) (hm : m < 2 ^ k) (hv : zI w (zR w 0) f = nI v) (hv2 : zI w (zR w 1) f = nI m) (hvl : v ≤ 10000) {P : Nat → Nat → Nat → Prop} (hl : ∀ g u l, P g u l → u ≤ 20000 ∧ l < 2 ^ 13) (ht : ∀ g, g ≤ 64 → tkB (zI w (zR w 2) g) (zI w (zR w 3) g) (P g)) : ∃ w', fX4_offer (nI f) (nI N) (nI k) (nI e) w = some ((), w') ∧ w'.2 = w.2 ∧ (∀ k j, k ≠ zR w 2 → k ≠ zR w 3 → zI w' k j = zI w k j) ∧ ∀ g, g ≤ 64 → tkB (zI w' (zR w 2) g) (zI w' (zR w 3) g) (fun u l => P g u l ∨ (g = tkF e f N ∧ u = v + tkC e f N ∧ l = m + e * 2 ^ k)) := by
  have hg := tkF_l (e := e) hN1 hf
  have ht5 : tkF e f N < 65 := by omega
  have h23 := (PR_n hP).2.2.2
  have hC := tkC_l (e := e) (f := f) (N := N)
  have hp : 2 ^ k ≤ 2 ^ 11 := Nat.pow_le_pow_right (by decide) (by omega)
  have hm2 : m + e * 2 ^ k < 2 ^ 13 := by
    rcases (show e = 0 ∨ e = 1 by omega) with rfl | rfl <;> omega
  have hB := tkB_m (ht (tkF e f N) (by omega)) (v := v + tkC e f N) (m := m + e * 2 ^ k) (by omega) (by omega) (fun u l q => by have := hl _ u l q; omega)
  rw [fX4_offer, frontB_s w hN1 hN hf he, bd_s, ati_s w (zlR w 0) (show f < 65 by omega) (by decide), bd_s, hv, cost4_s w hN hf he, bd_s, lt_e, nI_add, ati_s w (zlR w 1) (show f < 65 by omega) (by decide), bd_s, lt_e, hv2, mask_s he hk hm, ati_s w (zlR w 2) ht5 (by decide), bd_s, lt_e]
  have hj : ∀ x y, (bd (fX7_set (zR w 2) (nI (tkF e f N)) x w) fun _ w19 => bd (fX7_set (zR w19 3) (nI (tkF e f N)) y w19) fun _ w22 => some ((), w22)) = some ((), zsI (zsI w (zR w 2) (tkF e f N) x) (zR w 3) (tkF e f N) y) := by
    intro x y
    rw [seti_s w x (zlR w 2) ht5 (by decide), bd_s, seti_s _ y (zlR _ 3) ht5 (by decide), bd_s]; rfl
  have upd : tkB (nI (v + tkC e f N)) (nI (m + e * 2 ^ k)) (fun u l => P (tkF e f N) u l ∨ (u = v + tkC e f N ∧ l = m + e * 2 ^ k)) → ∃ w', some ((), zsI (zsI w (zR w 2) (tkF e f N) (nI (v + tkC e f N))) (zR w 3) (tkF e f N) (nI (m + e * 2 ^ k))) = some ((), w') ∧ w'.2 = w.2 ∧ (∀ k j, k ≠ zR w 2 → k ≠ zR w 3 → zI w' k j = zI w k j) ∧ ∀ g, g ≤ 64 → tkB (zI w' (zR w 2) g) (zI w' (zR w 3) g) (fun u l => P g u l ∨ (g = tkF e f N ∧ u = v + tkC e f N ∧ l = m + e * 2 ^ k)) := by
    intro hT
    refine ⟨_, rfl, rfl, fun k j h2 h3 => ?_, fun g hg => ?_⟩
    · rw [zI_zsI, if_neg (fun q => h3 q.1), zI_zsI, if_neg (fun q => h2 q.1)]
    · have e2 : zI (zsI (zsI w (zR w 2) (tkF e f N) (nI (v + tkC e f N))) (zR w 3) (tkF e f N) (nI (m + e * 2 ^ k))) (zR w 2) g = if g = tkF e f N then nI (v + tkC e f N) else zI w (zR w 2) g := by
        rw [zI_zsI, if_neg (fun q => h23 q.1), zI_zsI]
        by_cases c : g = tkF e f N
        · rw [if_pos ⟨rfl, c⟩, if_pos c]
        · rw [if_neg (fun q => c q.2), if_neg c]
      have e3 : zI (zsI (zsI w (zR w 2) (tkF e f N) (nI (v + tkC e f N))) (zR w 3) (tkF e f N) (nI (m + e * 2 ^ k))) (zR w 3) g = if g = tkF e f N then nI (m + e * 2 ^ k) else zI w (zR w 3) g := by
        rw [zI_zsI]
        by_cases c : g = tkF e f N
        · rw [if_pos ⟨rfl, c⟩, if_pos c]
        · rw [if_neg (fun q => c q.2), if_neg c, zI_zsI, if_neg (fun q => h23 q.1.symm)]
      rw [e2, e3]
      by_cases c : g = tkF e f N
      · rw [if_pos c, if_pos c, c]
        exact tkB_w hT (fun u l q => q.elim .inl (fun z => .inr ⟨rfl, z⟩)) (fun u l q => ⟨u, l, q.elim .inl (fun z => .inr z.2), dm_r u l⟩)
      · rw [if_neg c, if_neg c]
        exact tkB_w (ht g hg) (fun u l q => .inl q) (fun u l q => ⟨u, l, q.elim id (fun z => absurd z.1 c), dm_r u l⟩)
  have non : tkB (zI w (zR w 2) (tkF e f N)) (zI w (zR w 3) (tkF e f N)) (fun u l => P (tkF e f N) u l ∨ (u = v + tkC e f N ∧ l = m + e * 2 ^ k)) → ∃ w', some ((), w) = some ((), w') ∧ w'.2 = w.2 ∧ (∀ k j, k ≠ zR w 2 → k ≠ zR w 3 → zI w' k j = zI w k j) ∧ ∀ g, g ≤ 64 → tkB (zI w' (zR w 2) g) (zI w' (zR w 3) g) (fun u l => P g u l ∨ (g = tkF e f N ∧ u = v + tkC e f N ∧ l = m + e * 2 ^ k)) := by
    intro hT
    refine ⟨w, rfl, rfl, fun _ _ _ _ => rfl, fun g hg => ?_⟩
    by_cases c : g = tkF e f N
    · rw [c]
      exact tkB_w hT (fun u l q => q.elim .inl (fun z => .inr ⟨rfl, z⟩)) (fun u l q => ⟨u, l, q.elim .inl (fun z => .inr z.2), dm_r u l⟩)
    · exact tkB_w (ht g hg) (fun u l q => .inl q) (fun u l q => ⟨u, l, q.elim id (fun z => absurd z.1 c), dm_r u l⟩)
  by_cases c : zI w (zR w 2) (tkF e f N) < nI (v + tkC e f N)
  · rw [if_pos c]
    dsimp only
    rw [hj]
    exact upd (hB.1 c)
  · rw [if_neg c, ati_s w (zlR w 2) ht5 (by decide), bd_s]
    by_cases d : nI (v + tkC e f N) = zI w (zR w 2) (tkF e f N)
    · rw [if_neg (not_not_intro d), ati_s w (zlR w 3) ht5 (by decide), bd_s]
      by_cases g : zI w (zR w 3) (tkF e f N) ≤ nI (m + e * 2 ^ k)
      · rw [if_pos g]
        exact non (hB.2.2 c (fun z => absurd z.2 (Int32.not_lt.mpr g)))
      · rw [if_neg g]
        dsimp only
        rw [hj]
        exact upd (hB.2.1 c d (Int32.not_le.mp g))
    · rw [if_pos d]
      exact non (hB.2.2 c (fun z => d z.1))
def tkI (f0 N0 k i g u l : Nat) : Prop := ∃ f v m e, f < i ∧ e < 2 ∧ tkR f0 N0 k f v m ∧ g = tkF e f (N0 - k) ∧ u = v + tkC e f (N0 - k) ∧ l = m + e * 2 ^ k
theorem q_RI {wb w w' : zW} (hQ : Qc wb w) (e2 : w'.2 = w.2) (h : ∀ k j, k < 66 ∨ 70 < k → zI w' k j = zI w k j) : Qc wb w' := by
  refine ⟨fun k j hk => ?_, fun k j hk => ?_, fun h => PR_e (hQ.2.2 h) (by rw [e2])⟩
  · rw [h k j ?_]; exact hQ.1 k j hk
    by_cases c : k < 66 ∨ 70 < k
    · exact c
    · rw [cI_f (.inr (.inr (.inl (by omega))))] at hk; cases hk
  · show zL w' k j = _
    unfold zL; rw [e2]; exact hQ.2.1 k j hk
section DE
variable {wb : zW} {f0 N0 : Nat}
theorem seek_44 {k : Nat} (hk : k < N0) (hk12 : k < 12) (hN0 : N0 ≤ 64) (hf0 : f0 ≤ N0) {x3 : Int32} {g : Int32 → zW → Option (Unit × zW)} {P : Unit → zW → Prop} (hg : ∀ w, Qc wb w → PR w → (∀ f, f ≤ 64 → tkB (zI w (zR w 0) f) (zI w (zR w 1) f) (tkR f0 N0 (k + 1) f)) → Ok (g (nI (k + 1)) w) P) : ∀ m i M w, i + m = N0 - k + 1 → m < M → Qc wb w → PR w → (∀ f, f ≤ 64 → tkB (zI w (zR w 0) f) (zI w (zR w 1) f) (tkR f0 N0 k f)) → (∀ f, f ≤ 64 → tkB (zI w (zR w 2) f) (zI w (zR w 3) f) (tkI f0 N0 k i f)) → Ok (fX4_seek_L44 (nI N0) x3 (nI k) g M (nI i) w) P := by
  have hp : 2 ^ k ≤ 2 ^ 11 := Nat.pow_le_pow_right (by decide) (by omega)
  intro m
  induction m with
  | zero =>
    intro i M w hi hM hQ hP h0 h2
    obtain ⟨M, rfl⟩ : ∃ k, M = k + 1 := ⟨M - 1, by omega⟩
    have s := swW_R w
    have hQ2 := swW_Q hQ
    have hP2 : PR (swW w) := (swW_Q (q_0 w)).2.2 hP
    rw [fX4_seek_L44.eq_2, pk_sub (by omega), if_pos (nI_lt (by omega) (by omega)), swap_s, bd_s, nI_1]
    refine hg _ hQ2 hP2 (fun f hf => ?_)
    rw [s.1, s.2.1]
    refine tkB_w (h2 f hf) (fun u l q => ?_) (fun u l q => ⟨u, l, ?_, dm_r u l⟩)
    · obtain ⟨f1, v, m, e, -, a⟩ := q
      exact tkR_s.mpr ⟨f1, v, m, e, a⟩
    · obtain ⟨f1, v, m, e, a1, a2, a3⟩ := tkR_s.mp q
      exact ⟨f1, v, m, e, by have := tkR_l hf0 (by omega) a2; omega, a1, a2, a3⟩
  | succ m ih =>
    intro i M w hi hM hQ hP h0 h2
    obtain ⟨M, rfl⟩ : ∃ k, M = k + 1 := ⟨M - 1, by omega⟩
    rw [fX4_seek_L44.eq_2, pk_sub (by omega), if_neg (fun q => by have := (nI_ltI (by omega) (by omega)).mp q; omega), ati_s w (zlR w 0) (show i < 65 by omega) (by decide), bd_s, lt_e]
    rcases h0 i (by omega) with ⟨hm, hn⟩ | ⟨v, mm, hv, hv2, hr, hx⟩
    · rw [if_pos hm, nI_1]
      refine ih (i + 1) M w (by omega) (by omega) hQ hP h0 (fun f hf => tkB_w (h2 f hf) (fun u l q => ?_) (fun u l q => ⟨u, l, ?_, dm_r u l⟩))
      · obtain ⟨f1, v, m1, e, a0, a⟩ := q
        exact ⟨f1, v, m1, e, by omega, a⟩
      · obtain ⟨f1, v, m1, e, a0, a1, a2, a3⟩ := q
        by_cases c : f1 = i
        · rw [c] at a2; exact absurd a2 (hn v m1)
        · exact ⟨f1, v, m1, e, by omega, a1, a2, a3⟩
    · have hvl := tkR_v hN0 hr
      have n := PR_n hP
      have b := zR_b w
      rw [if_neg (show ¬ zI w (zR w 0) i = -1 by rw [hv]; exact fun q => nI_pos (n := v) (by omega) (by rw [q]; decide))]
      have bI : ∀ g u l, tkI f0 N0 k i g u l → u ≤ 1600 ∧ l < 2 ^ 12 := by
        rintro g u l ⟨f1, v1, m1, e, -, he, a2, -, rfl, rfl⟩
        have := tkR_v hN0 a2
        have := tkC_l (e := e) (f := f1) (N := N0 - k)
        rcases (show e = 0 ∨ e = 1 by omega) with rfl | rfl <;> omega
      obtain ⟨w1, e1, q1, k1, t1⟩ := offer_s hP (e := 0) (f := i) (N := N0 - k) (v := v) (m := mm) (k := k) (by omega) (by omega) (by omega) (by decide) hk12 hvl.2 hv hv2 (by omega) (fun g u l q => by have := bI g u l q; omega) h2
      have z1 : ∀ j, zR w1 j = zR w j := fun j => by unfold zR; rw [q1]
      have hP1 : PR w1 := PR_e hP (by rw [q1])
      have n3 := PR_3 hP
      have hv1 : zI w1 (zR w1 0) i = nI v := by rw [z1, k1 _ _ n.2.1 n.2.2.1]; exact hv
      have hv3 : zI w1 (zR w1 1) i = nI mm := by rw [z1, k1 _ _ n3.1 n3.2]; exact hv2
      have hQ1 : Qc wb w1 := q_RI hQ q1 (fun x y hxy => k1 x y (by have := b 2; omega) (by have := b 3; omega))
      obtain ⟨w2, e2, q2, k2, t2⟩ := offer_s hP1 (e := 1) (f := i) (N := N0 - k) (v := v) (m := mm) (k := k) (by omega) (by omega) (by omega) (by decide) hk12 hvl.2 hv1 hv3 (by omega) (P := fun g u l => tkI f0 N0 k i g u l ∨ (g = tkF 0 i (N0 - k) ∧ u = v + tkC 0 i (N0 - k) ∧ l = mm + 0 * 2 ^ k)) (fun g u l q => by
        rcases q with q | q
        · have := bI g u l q; omega
        · have := tkC_l (e := 0) (f := i) (N := N0 - k); omega) (fun g hg => by rw [z1, z1]; exact t1 g hg)
      have z2 : ∀ j, zR w2 j = zR w j := fun j => by unfold zR; rw [q2, q1]
      have hP2 : PR w2 := PR_e hP1 (by rw [q2])
      have hQ2 : Qc wb w2 := q_RI hQ1 q2 (fun x y hxy => k2 x y (by rw [z1]; have := b 2; omega) (by rw [z1]; have := b 3; omega))
      have e1' : fX4_offer (nI i) (nI (N0 - k)) (nI k) (0 : Int32) w = some ((), w1) := e1
      have e2' : fX4_offer (nI i) (nI (N0 - k)) (nI k) (1 : Int32) w1 = some ((), w2) := e2
      rw [e1', bd_s, e2', bd_s, nI_1]
      refine ih (i + 1) M w2 (by omega) (by omega) hQ2 hP2 (fun f hf => ?_) (fun f hf => ?_)
      · rw [z2, z2, k2 _ _ (by rw [z1]; exact n.2.1) (by rw [z1]; exact n.2.2.1), k1 _ _ n.2.1 n.2.2.1, k2 _ _ (by rw [z1]; exact n3.1) (by rw [z1]; exact n3.2), k1 _ _ n3.1 n3.2]; exact h0 f hf
      · have t := t2 f hf
        rw [z1, z1] at t
        rw [z2, z2]
        refine tkB_w t (fun u l q => ?_) (fun u l q => ?_)
        · rcases q with (⟨f1, v1, m1, e, a0, a⟩ | ⟨a, a2, a3⟩) | ⟨a, a2, a3⟩
          · exact ⟨f1, v1, m1, e, by omega, a⟩
          · exact ⟨i, v, mm, 0, by omega, by decide, hr, a, a2, a3⟩
          · exact ⟨i, v, mm, 1, by omega, by decide, hr, a, a2, a3⟩
        · obtain ⟨f1, v1, m1, e, a0, a1, a2, a3, a4, a5⟩ := q
          by_cases c : f1 = i
          · rw [c] at a2 a3 a4
            have hle := hx v1 m1 a2
            have hd : ∀ x y, dm (v + x) (mm + y) (v1 + x) (m1 + y) := fun x y => by unfold dm at *; omega
            rw [a4, a5]
            rcases (show e = 0 ∨ e = 1 by omega) with rfl | rfl
            · exact ⟨v + tkC 0 i (N0 - k), mm + 0 * 2 ^ k, .inl (.inr ⟨a3, rfl, rfl⟩), hd _ _⟩
            · exact ⟨v + tkC 1 i (N0 - k), mm + 1 * 2 ^ k, .inr ⟨a3, rfl, rfl⟩, hd _ _⟩
          · exact ⟨u, l, .inl (.inl ⟨f1, v1, m1, e, by omega, a1, a2, a3, a4, a5⟩), dm_r u l⟩
theorem choose_L {n x : Nat} (hn : n ≤ 12) (hx : x ≤ 64) (hN0 : N0 ≤ 64) : ∀ m i M w, i + m = x + 1 → m < M → Qc wb w → PR w → (∀ f, f ≤ 64 → tkB (zI w (zR w 0) f) (zI w (zR w 1) f) (tkR f0 N0 n f)) → tkB (zI w 66 4) (zI w 66 5) (fun v l => ∃ f, f < i ∧ tkR f0 N0 n f v l) → Ok (fX4_choose_L12 (nI x) M (nI i) w) (fun _ w' => Qc wb w' ∧ tkB (zI w' 66 4) (zI w' 66 5) (fun v l => ∃ f, f < x + 1 ∧ tkR f0 N0 n f v l)) := by
  have hp : 2 ^ n ≤ 2 ^ 12 := Nat.pow_le_pow_right (by decide) hn
  intro m
  induction m with
  | zero =>
    intro i M w hi hM hQ hP h0 h4
    obtain ⟨M, rfl⟩ : ∃ k, M = k + 1 := ⟨M - 1, by omega⟩
    rw [fX4_choose_L12.eq_2, if_pos (nI_lt (by omega) (by omega))]
    exact ok_r ⟨hQ, by rw [show x + 1 = i by omega]; exact h4⟩
  | succ m ih =>
    intro i M w hi hM hQ hP h0 h4
    obtain ⟨M, rfl⟩ : ∃ k, M = k + 1 := ⟨M - 1, by omega⟩
    have b := zR_b w
    rw [fX4_choose_L12.eq_2, if_neg (fun q => by have := (nI_ltI (by omega) (by omega)).mp q; omega), ati_s w (zlR w 0) (show i < 65 by omega) (by decide), bd_s, lt_e, lt_e]
    have J8 : tkB (zI w (zR w 0) i) (zI w (zR w 1) i) (fun v l => ∃ f, f < i + 1 ∧ tkR f0 N0 n f v l) → Ok (lt (zsI w 66 4 (zI w (zR w 0) i)) fun w9 => bd (fX7_at (zR w9 1) (nI i) w9) fun v12 w10 => lt (zsI w10 66 5 v12) fun w13 => fX4_choose_L12 (nI x) M (nI i + (1 : Int32)) w13) (fun _ w' => Qc wb w' ∧ tkB (zI w' 66 4) (zI w' 66 5) (fun v l => ∃ f, f < x + 1 ∧ tkR f0 N0 n f v l)) := by
      intro h5
      have e9 : zI (zsI w 66 4 (zI w (zR w 0) i)) (zR (zsI w 66 4 (zI w (zR w 0) i)) 1) i = zI w (zR w 1) i := by
        show zI (zsI w 66 4 (zI w (zR w 0) i)) (zR w 1) i = _
        rw [zI_zsI, if_neg (fun q => by have := b 1; omega)]
      rw [lt_e, ati_s _ (zlR _ 1) (show i < 65 by omega) (by decide), bd_s, e9, lt_e, nI_1]
      have ek : ∀ r f, r ≠ 66 → zI (zsI (zsI w 66 4 (zI w (zR w 0) i)) 66 5 (zI w (zR w 1) i)) r f = zI w r f := fun r f hr => by
        rw [zI_zsI, if_neg (fun q => hr q.1), zI_zsI, if_neg (fun q => hr q.1)]
      refine ih (i + 1) M _ (by omega) (by omega) (q_I (q_I hQ (cI_f (.inr (.inr (.inl (by omega)))) _)) (cI_f (.inr (.inr (.inl (by omega)))) _)) hP (fun f hf => ?_) ?_
      · show tkB (zI _ (zR w 0) f) (zI _ (zR w 1) f) _
        rw [ek _ _ (by have := b 0; omega), ek _ _ (by have := b 1; omega)]; exact h0 f hf
      · rw [zI_zsI, if_neg (by omega), zI_zsI, if_pos ⟨rfl, rfl⟩, zI_zsI, if_pos ⟨rfl, rfl⟩]; exact h5
    have nxt : tkB (zI w 66 4) (zI w 66 5) (fun v l => ∃ f, f < i + 1 ∧ tkR f0 N0 n f v l) → Ok (fX4_choose_L12 (nI x) M (nI i + (1 : Int32)) w) (fun _ w' => Qc wb w' ∧ tkB (zI w' 66 4) (zI w' 66 5) (fun v l => ∃ f, f < x + 1 ∧ tkR f0 N0 n f v l)) := by
      intro h5
      rw [nI_1]; exact ih (i + 1) M w (by omega) (by omega) hQ hP h0 h5
    have bnd : ∀ u l, (∃ f, f < i ∧ tkR f0 N0 n f u l) → u < 2 ^ 31 ∧ l < 2 ^ 31 := fun u l q => by
      obtain ⟨f, -, q⟩ := q
      have := tkR_v hN0 q; omega
    rcases h0 i (by omega) with ⟨hc, hn0⟩ | ⟨v, mm, hv, hv2, hr, hxx⟩
    · -- none there
      have same : tkB (zI w 66 4) (zI w 66 5) (fun v l => ∃ f, f < i + 1 ∧ tkR f0 N0 n f v l) := tkB_w h4 (fun u l q => by obtain ⟨f, a, q⟩ := q; exact ⟨f, by omega, q⟩) (fun u l q => by
        obtain ⟨f, a, q⟩ := q
        by_cases c : f = i
        · rw [c] at q; exact absurd q (hn0 u l)
        · exact ⟨u, l, ⟨f, by omega, q⟩, dm_r u l⟩)
      rw [hc]
      have nlt : ¬ zI w 66 4 < -1 := by
        rcases h4 with ⟨e, -⟩ | ⟨u, l, e, -, q, -⟩
        · rw [e]; decide
        · rw [e]
          have := (bnd u l q).1
          exact fun z => nI_pos (n := u) (by omega) (Int32.lt_trans z (by decide))
      rw [if_neg nlt]
      by_cases d : (-1 : Int32) = zI w 66 4
      · rw [if_neg (not_not_intro d), ati_s w (zlR w 1) (show i < 65 by omega) (by decide), bd_s]
        have e4 : ∀ d, tkB (zI w 66 4) d (fun v l => ∃ f, f < i + 1 ∧ tkR f0 N0 n f v l) := fun d2 => by
          rcases same with ⟨e, q⟩ | ⟨u, l, e, -, ⟨f, a, q⟩, -⟩
          · exact .inl ⟨e, q⟩
          · have := (tkR_v hN0 q).1
            exact absurd (show nI u < 0 by rw [← e, ← d]; decide) (nI_pos (by omega))
        refine ok_i (fun _ => nxt same) (fun _ => ?_)
        have := J8
        rw [hc] at this
        refine this ?_
        rw [d]; exact e4 _
      · rw [if_pos d]; exact nxt same
    · have hvl := tkR_v hN0 hr
      have hB := tkB_m h4 (v := v) (m := mm) (by omega) (by omega) bnd
      have conv : ∀ c d, tkB c d (fun u l => (∃ f, f < i ∧ tkR f0 N0 n f u l) ∨ (u = v ∧ l = mm)) → tkB c d (fun v l => ∃ f, f < i + 1 ∧ tkR f0 N0 n f v l) := fun c d h => tkB_w h (fun u l q => by
        rcases q with ⟨f, a, q⟩ | ⟨rfl, rfl⟩
        · exact ⟨f, by omega, q⟩
        · exact ⟨i, by omega, hr⟩) (fun u l q => by
        obtain ⟨f, a, q⟩ := q
        by_cases c : f = i
        · rw [c] at q; exact ⟨v, mm, .inr ⟨rfl, rfl⟩, hxx u l q⟩
        · exact ⟨u, l, .inl ⟨f, by omega, q⟩, dm_r u l⟩)
      rw [hv, hv2] at J8
      rw [hv]
      by_cases c : zI w 66 4 < nI v
      · rw [if_pos c]; exact J8 (conv _ _ (hB.1 c))
      · rw [if_neg c]
        by_cases d : nI v = zI w 66 4
        · rw [if_neg (not_not_intro d), ati_s w (zlR w 1) (show i < 65 by omega) (by decide), bd_s, hv2]
          by_cases g : zI w 66 5 ≤ nI mm
          · rw [if_pos g]; exact nxt (conv _ _ (hB.2.2 c (fun z => absurd z.2 (Int32.not_lt.mpr g))))
          · rw [if_neg g]; exact J8 (conv _ _ (hB.2.1 c d (Int32.not_le.mp g)))
        · rw [if_pos d]; exact nxt (conv _ _ (hB.2.2 c (fun z => d z.1)))
theorem seek_28 {n : Nat} (hn : n ≤ 12) (hnN : n ≤ N0) (hN0 : N0 ≤ 64) (hf0 : f0 ≤ N0) : ∀ m k M w, k + m = n → m < M → Qc wb w → PR w → (∀ f, f ≤ 64 → tkB (zI w (zR w 0) f) (zI w (zR w 1) f) (tkR f0 N0 k f)) → Ok (fX4_seek_L28 (nI N0) (nI n) M (nI k) w) (fun _ w' => Qc wb w' ∧ tkB (zI w' 66 4) (zI w' 66 5) (fun v l => ∃ f, tkR f0 N0 n f v l)) := by
  intro m
  induction m with
  | zero =>
    intro k M w hk hM hQ hP h0
    obtain ⟨M, rfl⟩ : ∃ k, M = k + 1 := ⟨M - 1, by omega⟩
    have ek : k = n := by omega
    subst ek
    have b := zR_b w
    rw [fX4_seek_L28.eq_2, if_pos (nI_le (by omega) (by omega)), pk_sub hnN, fX4_choose, lt_e, lt_e]
    refine ok_b (choose_L (f0 := f0) (N0 := N0) hn (show N0 - k ≤ 64 by omega) hN0 (N0 - k + 1) 0 zFU _ (by omega) (fuelN (by omega)) (q_I (q_I hQ (cI_f (.inr (.inr (.inl (by omega)))) _)) (cI_f (.inr (.inr (.inl (by omega)))) _)) hP (fun f hf => ?_) ?_) (fun _ w2 a2 => ok_r ⟨a2.1, tkB_w a2.2 (fun u l q => ?_) (fun u l q => ⟨u, l, ?_, dm_r u l⟩)⟩)
    · have ek : ∀ r f, r ≠ 66 → zI (zsI (zsI w 66 4 (-1)) 66 5 0) r f = zI w r f := fun r f hr => by
        rw [zI_zsI, if_neg (fun q => hr q.1), zI_zsI, if_neg (fun q => hr q.1)]
      show tkB (zI _ (zR w 0) f) (zI _ (zR w 1) f) _
      rw [ek _ _ (by have := b 0; omega), ek _ _ (by have := b 1; omega)]; exact h0 f hf
    · exact .inl ⟨rfl, fun v l q => by obtain ⟨f, a, -⟩ := q; omega⟩
    · obtain ⟨f, -, q⟩ := q; exact ⟨f, q⟩
    · obtain ⟨f, q⟩ := q
      exact ⟨f, by have := tkR_l hf0 hnN q; omega, q⟩
  | succ m ih =>
    intro k M w hk hM hQ hP h0
    obtain ⟨M, rfl⟩ : ∃ k, M = k + 1 := ⟨M - 1, by omega⟩
    have b := zR_b w
    have n2 := PR_n hP
    obtain ⟨w1, e1, q1, k1, t1⟩ := forget_s w (zlR w 2)
    have z1 : ∀ j, zR w1 j = zR w j := fun j => by unfold zR; rw [q1]
    rw [fX4_seek_L28.eq_2, if_neg (Int32.not_le.mpr (nI_lt (by omega) (by omega))), e1, bd_s]
    refine seek_44 (by omega) (by omega) hN0 hf0 (fun w2 b1 b2 b3 => ih (k + 1) M w2 (by omega) (by omega) b1 b2 b3) (N0 - k + 1) 0 zFU w1 (by omega) (fuelN (by omega)) (q_RI hQ q1 (fun x y hxy => k1 x y (by have := b 2; omega))) (PR_e hP (by rw [q1])) (fun f hf => ?_) (fun f hf => ?_)
    · rw [z1, z1, k1 _ _ n2.2.1, k1 _ _ (PR_3 hP).1]; exact h0 f hf
    · rw [z1, z1]
      exact .inl ⟨t1 f (by omega), fun v l q => by obtain ⟨f1, v1, m1, e, a, -⟩ := q; omega⟩
theorem seek_s {w : zW} {n : Nat} (hP : PR w) (hn : n ≤ 12) (hnN : n ≤ N0) (hN0 : N0 ≤ 64) (hf0 : f0 ≤ N0) : Ok (fX4_seek (nI f0) (nI N0) (nI n) w) (fun _ w' => Qc w w' ∧ tkB (zI w' 66 4) (zI w' 66 5) (fun v l => ∃ f, tkR f0 N0 n f v l)) := by
  have b := zR_b w
  have n2 := PR_n hP
  obtain ⟨w1, e1, q1, k1, t1⟩ := forget_s w (zlR w 0)
  have z1 : ∀ j, zR w1 j = zR w j := fun j => by unfold zR; rw [q1]
  rw [fX4_seek, e1, bd_s, seti_s w1 0 (zlR w1 0) (show f0 < 65 by omega) (by decide), bd_s, seti_s _ 0 (zlR _ 1) (show f0 < 65 by omega) (by decide), bd_s]
  have z3 : ∀ j, zR (zsI w1 (zR w1 0) f0 0) j = zR w j := z1
  rw [z3 1, z1 0]
  refine seek_28 hn hnN hN0 hf0 n 0 zFU _ (by omega) (fuelN (by omega)) (q_RI (q_0 w) q1 (fun x y hxy => ?_)) (PR_e hP (by show w1.2.2 = _; rw [q1])) (fun f hf => ?_)
  · rw [zI_zsI, if_neg (fun q => by have := b 1; omega), zI_zsI, if_neg (fun q => by have := b 0; omega), k1 x y (by have := b 0; omega)]
  · have z4 : zR (zsI (zsI w1 (zR w 0) f0 0) (zR w 1) f0 0) 0 = zR w 0 := z1 0
    have z5 : zR (zsI (zsI w1 (zR w 0) f0 0) (zR w 1) f0 0) 1 = zR w 1 := z1 1
    rw [z4, z5, zI_zsI, if_neg (fun q => n2.1 q.1), zI_zsI, zI_zsI]
    by_cases c : f = f0
    · rw [if_pos ⟨rfl, c⟩, if_pos ⟨rfl, c⟩]
      refine .inr ⟨0, 0, rfl, rfl, tkR_0.mpr ⟨c, rfl, rfl⟩, fun u l q => ?_⟩
      obtain ⟨-, rfl, rfl⟩ := tkR_0.mp q
      exact dm_r 0 0
    · rw [if_neg (fun q => c q.2), t1 f (by omega)]
      exact .inl ⟨rfl, fun v l q => c (tkR_0.mp q).1⟩
end DE
section DF
variable {J : aJ} {S : aS} {T : aT} {w w1 w2 : zW} {H H' : Nat → Int32} {w0 : zX}
theorem dear_r65 {f0 N0 n i : Nat} {x1 x3 x4 : Int32} (hn : n ≤ 12) (hnN : n ≤ N0) (hN0 : N0 ≤ 64) (hf0 : f0 ≤ N0) (hi : i < 2 ^ 12) {g : Int32 → Int32 → Int32 → zW → Option (Int32 × zW)} {P : Int32 → zW → Prop} (hg : ∀ w, uD w0 J S T H w → Ok (g (if x4 < nI (tkD f0 N0 (bitF i) n).2 then nI i else x3) (if x4 < nI (tkD f0 N0 (bitF i) n).2 then nI (tkD f0 N0 (bitF i) n).2 else x4) (nI (i + 1)) w) P) : ∀ m k N w b, k + m = n → m < N → uD w0 J S T H w → zI w 74 30 = nI (tkD f0 N0 (bitF i) k).1 → zI w 74 31 = nI b → (tkD f0 N0 (bitF i) k).1 + b = N0 - k → Ok (fX8_dearest_L65 x1 (nI n) x3 x4 (nI i) g N (nI (tkD f0 N0 (bitF i) k).2) (nI k) w) P := by
  intro m
  induction m with
  | zero =>
    intro k N w b hk hN h hf hb hs
    obtain ⟨N, rfl⟩ : ∃ k, N = k + 1 := ⟨N - 1, by omega⟩
    have ek : k = n := by omega
    subst ek
    rw [fX8_dearest_L65.eq_2, if_pos (nI_le (by omega) (by omega)), lt_e, nI_1]
    have := hg w h
    by_cases c : nI (tkD f0 N0 (bitF i) k).2 ≤ x4
    · rw [if_pos c]
      rw [if_neg (Int32.not_lt.mpr c), if_neg (Int32.not_lt.mpr c)] at this; exact this
    · rw [if_neg c]
      rw [if_pos (Int32.not_le.mp c), if_pos (Int32.not_le.mp c)] at this; exact this
  | succ m ih =>
    intro k N w b hk hN h hf hb hs
    obtain ⟨N, rfl⟩ : ∃ k, N = k + 1 := ⟨N - 1, by omega⟩
    have e1 : (nI i >>> (nI k &&& 31)) &&& (1 : Int32) = nI (bitF i k) := by
      rw [pk_shrN (by omega) _ k (shk k (by omega)), pk_andN (Nat.lt_of_le_of_lt (Nat.div_le_self _ _) (by omega)) 1 (by decide)]; rfl
    have hl := tkD_l (b := bitF i) hf0 k (by omega)
    rw [fX8_dearest_L65.eq_2, if_neg (Int32.not_le.mpr (nI_lt (by omega) (by omega))), e1]
    refine ok_b (costs_s h (bitF_l i k) hf hb (by omega) (by omega)) (fun c w1 a1 => ?_)
    obtain ⟨b1, rfl, f', b', b2, b3, b4, b5⟩ := a1
    have hB : b = N0 - k - (tkD f0 N0 (bitF i) k).1 := by omega
    have ec : (if (if bitF i k = 0 then (tkD f0 N0 (bitF i) k).1 else b) = 0 then (tkD f0 N0 (bitF i) k).1 + b else 0) = tkC (bitF i k) (tkD f0 N0 (bitF i) k).1 (N0 - k) := by
      unfold tkC
      rw [hs, hB]
    have ef : f' = (tkD f0 N0 (bitF i) (k + 1)).1 := by
      rw [tkD]
      show f' = tkF (bitF i k) (tkD f0 N0 (bitF i) k).1 (N0 - k)
      unfold tkF
      have hbl := bitF_l i k
      by_cases z : bitF i k = 0
      · rw [if_pos z] at b5 ⊢
        rw [if_pos z] at b5
        rw [b5, hs]
      · rw [if_neg z] at b5 ⊢
        rw [if_neg z] at b5
        rw [hs] at b5 b4
        rw [← hB, ← b5]; omega
    rw [ec, lt_e, nI_add, nI_1]
    have e2 : (tkD f0 N0 (bitF i) k).2 + tkC (bitF i k) (tkD f0 N0 (bitF i) k).1 (N0 - k) = (tkD f0 N0 (bitF i) (k + 1)).2 := rfl
    rw [e2]
    exact ih (k + 1) N w1 b' (by omega) (by omega) b1 (by rw [← ef]; exact b2) b3 (by rw [← ef]; omega)
theorem dear_r46 (hS : sW J S) {j n : Nat} (hj : j < 4) (hn : n ≤ 12) (hnn : n ≤ aN S j) : ∀ m i N (x3 x4 : Int32) w, i + m = 2 ^ n → m < N → uD w0 J S T H w → tkB x4 x3 (fun v l => l < i ∧ (tkD (sZ S (2 * j)) (aN S j) (bitF l) n).2 = v) → Ok (fX8_dearest_L46 (nI j) (nI n) N x3 x4 (nI i) w) (fun a w' => ∃ d : Int32, uD w0 J (rT [d.toInt64] S) T H w' ∧ tkB a d (fun v l => l < 2 ^ n ∧ (tkD (sZ S (2 * j)) (aN S j) (bitF l) n).2 = v)) := by
  have hz := hS.1 j hj
  have hf : sZ S (2 * j) ≤ aN S j := Nat.le_add_right _ _
  have hp : 2 ^ n ≤ 2 ^ 12 := Nat.pow_le_pow_right (by decide) hn
  have es : (1 : Int32) <<< (nI n &&& 31) = nI (2 ^ n) := by
    have := pk_shlN (n := 1) (nI n &&& 31) n (shk n (by omega)) (by omega)
    rw [Nat.one_mul] at this
    exact this
  intro m
  induction m with
  | zero =>
    intro i N x3 x4 w hi hN h hb
    obtain ⟨N, rfl⟩ : ∃ k, N = k + 1 := ⟨N - 1, by omega⟩
    rw [fX8_dearest_L46.eq_2, es, if_pos (nI_le (by omega) (by omega)), lt_e]
    exact ok_b (enters_s (L := []) (uD_1 h) (by decide) _) (fun _ w4 a4 => ok_r ⟨x3, a4.1, by rw [show 2 ^ n = i by omega]; exact hb⟩)
  | succ m ih =>
    intro i N x3 x4 w hi hN h hb
    obtain ⟨N, rfl⟩ : ∃ k, N = k + 1 := ⟨N - 1, by omega⟩
    rw [fX8_dearest_L46.eq_2, es, if_neg (Int32.not_le.mpr (nI_lt (by omega) (by omega)))]
    refine ok_b (begins_s h (show j < 5 by omega)) (fun _ w2 a2 => ?_)
    refine dear_r65 (f0 := sZ S (2 * j)) (N0 := aN S j) (i := i) hn hnn hz hf (by omega) (fun w h => ih (i + 1) N _ _ w (by omega) (by omega) h ?_) n 0 zFU w2 (sZ S (2 * j + 1)) (by omega) (fuelN (by omega)) a2.1 a2.2.1 a2.2.2 rfl
    have hV := tkD_v (f0 := sZ S (2 * j)) (b := bitF i) hz n
    have hB := tkB_m hb (v := (tkD (sZ S (2 * j)) (aN S j) (bitF i) n).2) (m := i) (by omega) (by omega) (fun u l q => by
      obtain ⟨q1, q2⟩ := q
      have := tkD_v (f0 := sZ S (2 * j)) (b := bitF l) hz n
      omega)
    have conv : ∀ c d, tkB c d (fun u l => (l < i ∧ (tkD (sZ S (2 * j)) (aN S j) (bitF l) n).2 = u) ∨ (u = (tkD (sZ S (2 * j)) (aN S j) (bitF i) n).2 ∧ l = i)) → tkB c d (fun v l => l < i + 1 ∧ (tkD (sZ S (2 * j)) (aN S j) (bitF l) n).2 = v) := fun c d h => tkB_w h (fun u l q => by
      rcases q with ⟨a, q⟩ | ⟨rfl, rfl⟩
      · exact ⟨by omega, q⟩
      · exact ⟨by omega, rfl⟩) (fun u l q => by
      obtain ⟨a, q⟩ := q
      refine ⟨u, l, ?_, dm_r u l⟩
      by_cases c : l = i
      · rw [c] at q; exact .inr ⟨q.symm, c⟩
      · exact .inl ⟨by omega, q⟩)
    by_cases c : x4 < nI (tkD (sZ S (2 * j)) (aN S j) (bitF i) n).2
    · rw [if_pos c, if_pos c]; exact conv _ _ (hB.1 c)
    · rw [if_neg c, if_neg c]
      refine conv _ _ (hB.2.2 c (fun z => ?_))
      rcases hb with ⟨rfl, -⟩ | ⟨u, l, -, rfl, ⟨p, -⟩, -⟩
      · exact c (Int32.lt_of_lt_of_le (show (-1 : Int32) < 0 by decide) (nI_pos' (by omega)))
      · have := (nI_ltI (by omega) (by omega)).mp z.2; omega
theorem dearest_b (h : rW J S T w) (a b : Int32) : Bq S (fX7_dearest a b) (fX8_dearest a b) Eq w := by
  obtain ⟨hW, hS, hT, ⟨H0, hC0⟩, -⟩ := id h
  have hC0 := uC_sf hC0
  rcases ln a with hl | ⟨j, hj, rfl⟩
  · exact bq_x h (-1) (fun H hC => by rw [fX7_dearest, lineAt_n w hl, bd_s, oc_n]) (fun w1 H hD => by rw [fX8_dearest, lt_e, isLine_n _ hl, bd_s, ff])
  have hz := hS.1 j hj
  rcases inb b (lo := 1) (hi := 12) (by decide) (by decide) with ⟨h1, h2⟩ | ⟨h1, h1', h2⟩
  · have h3 : ∀ w, fX8_in b.toInt64 1 12 w = some (false, w) := h2
    refine bq_x h (-1) (fun H hC => ?_) (fun w1 H hD => by rw [fX8_dearest, lt_e, isLine_s _ hj, bd_s, tt, h3, bd_s, ff])
    rw [fX7_dearest, lineAt_s w hj, bd_s, oc_s]
    by_cases c : b < 1
    · rw [if_pos c]
    · rw [if_neg c]
      rcases h1 with z | z
      · exact absurd z c
      · rw [if_neg (show ¬ b ≤ 12 from Int32.not_le.mpr z)]
  have h3 : ∀ w, fX8_in b.toInt64 1 12 w = some (true, w) := h2
  obtain ⟨n, hn, rfl⟩ : ∃ n, n ≤ 12 ∧ b = nI n := by
    rcases i01 (n := 12) (by decide) h1' with q | q
    · exact absurd (Int32.lt_of_lt_of_le q (by decide)) h1
    · exact q
  have hp : 2 ^ n ≤ 2 ^ 12 := Nat.pow_le_pow_right (by decide) hn
  by_cases c : n ≤ aN S j
  · have hf : sZ S (2 * j) ≤ aN S j := Nat.le_add_right _ _
    refine bh_m (fun a L => ∃ d : Int32, L = [d.toInt64] ∧ tkB a d (fun v l => ∃ f, tkR (sZ S (2 * j)) (aN S j) n f v l)) (fun a L => ∃ d : Int32, L = [d.toInt64] ∧ tkB a d (fun v l => l < 2 ^ n ∧ (tkD (sZ S (2 * j)) (aN S j) (bitF l) n).2 = v)) (fun x y L M a b => ?_) h ?_ (fun w1 H hD => ?_)
    · obtain ⟨d, rfl, a⟩ := a
      obtain ⟨e, rfl, b⟩ := b
      have u := tkB_u a b (fun v l => ⟨fun q => ?_, fun q => ?_⟩) ⟨(tkD (sZ S (2 * j)) (aN S j) (fun _ => 0) n).2, bM (fun _ => 0) n, (tkD (sZ S (2 * j)) (aN S j) (fun _ => 0) n).1, fun _ => 0, fun _ => (show 0 < 2 by decide), rfl, rfl⟩
      · rw [u.1, u.2]; exact ⟨rfl, rfl⟩
      · obtain ⟨f, bb, hb, e, rfl⟩ := q
        refine ⟨bM_l hb n, ?_⟩
        rw [tkD_c (b := bitF (bM bb n)) (c := bb) n (fun k hk2 => bit_M hb n k hk2), e]
      · obtain ⟨q1, q2⟩ := q
        exact ⟨(tkD (sZ S (2 * j)) (aN S j) (bitF l) n).1, bitF l, bitF_l l, by rw [← q2], by rw [bM_b, Nat.mod_eq_of_lt q1]⟩
    · rw [fX7_dearest, lineAt_s w hj, bd_s, oc_s, if_neg (show ¬ nI n < 1 from h1), if_pos (show nI n ≤ 12 from Int32.not_lt.mp h1'), size_s hC0 (by omega), bd_s, if_pos (nI_le c (by omega)), size_s hC0 (by omega), bd_s, LN_0, uC_z hC0 (by omega)]
      refine ok_b (seek_s hC0.2.2.2.2.2.2 hn c hz hf) (fun _ w2 a2 => ?_)
      obtain ⟨w3, e3, h3⟩ := tell_m1 (rW_Q h a2.1) (zI w2 66 5).toInt64
      have k3 : zI w3 66 4 = zI w2 66 4 := by
        have e4 : fX7_tell (zI w2 66 5).toInt64 w2 = some ((), zsI (zsL (zsI w2 0 8 0) 71 0 (zI w2 66 5).toInt64) 0 8 1) := rfl
        rw [e4] at e3
        have e5 : zsI (zsL (zsI w2 0 8 0) 71 0 (zI w2 66 5).toInt64) 0 8 1 = w3 := congrArg Prod.snd (Option.some.inj e3)
        rw [← e5]; rfl
      rw [e3, bd_s, k3]
      exact ok_r ⟨_, ⟨zI w2 66 5, rfl, a2.2⟩, h3⟩
    · rw [fX8_dearest, lt_e, isLine_s _ hj, bd_s, tt, h3, bd_s, tt, sizeOf_s (uD_0 hD) (by omega), bd_s, if_pos (nI_le c (by omega))]
      refine ok_m (dear_r46 hS hj hn c (2 ^ n) 0 zFU 0 (-1) _ (by omega) (fuelN (by omega)) (uD_0 hD) (.inl ⟨rfl, fun v l q => by obtain ⟨q1, -⟩ := q; omega⟩)) (fun _ _ q => ?_)
      obtain ⟨d, q1, q2⟩ := q
      exact ⟨_, ⟨d, rfl, q2⟩, q1⟩
  · have hcn : ¬ nI n ≤ nI (aN S j) := fun q => c ((nI_leI (by omega) (by omega)).mp q)
    refine bq_x h (-2) (fun H hC => ?_) (fun w1 H hD => ?_)
    · rw [fX7_dearest, lineAt_s w hj, bd_s, oc_s, if_neg (show ¬ nI n < 1 from h1), if_pos (show nI n ≤ 12 from Int32.not_lt.mp h1'), size_s hC (by omega), bd_s, if_neg hcn]
    · rw [fX8_dearest, lt_e, isLine_s _ hj, bd_s, tt, h3, bd_s, tt, sizeOf_s (uD_0 hD) (by omega), bd_s, if_neg hcn]
end DF
