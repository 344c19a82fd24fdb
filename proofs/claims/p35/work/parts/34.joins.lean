set_option maxRecDepth 16384
-- the RULE and its TABLE: kind, n, NEUTRAL one, entries
abbrev aJ : Type := Nat × Nat × Nat × (Nat → Nat → Nat)
def jK (J : aJ) : Nat := J.1
def jN (J : aJ) : Nat := J.2.1
def jE (J : aJ) : Nat := J.2.2.1
def jT (J : aJ) : Nat → Nat → Nat := J.2.2.2
def jW (J : aJ) : Prop := jK J ≤ 7 ∧ 1 ≤ jN J ∧ jN J ≤ 5 ∧ jE J < jN J ∧ (∀ i j, i < jN J → j < jN J → jT J i j < jN J) ∧ ∀ i, i < jN J → jT J (jE J) i = i ∧ jT J i (jE J) = i
/-- the reference's, the class's -/
def dJ (J : aJ) (w : zW) : Prop := zI w 74 7 = nI (jK J) ∧ zI w 74 8 = nI (jN J) ∧ zI w 74 9 = nI (jE J) ∧ ∀ i j, i < jN J → j < jN J → zI w 77 (jN J * i + j) = nI (jT J i j)
def cJ (J : aJ) (w : zW) : Prop := zI w 1 0 = nI (jK J) ∧ zI w 2 0 = nI (jN J) ∧ zI w 2 1 = nI (jE J) ∧ ∀ i j, i < jN J → j < jN J → zI w 3 (5 * i + j) = nI (jT J i j)
/-- a p that the rule can join -/
def Val (J : aJ) (p q : Int64) : Prop := (jK J = 6 → (p = -1 ∧ q = -1) ∨ (0 ≤ p ∧ 0 ≤ q)) ∧ (jK J = 2 → ∃ i, i < 10000 ∧ p = lN i) ∧ (jK J = 5 → ∃ i, i < 24 ∧ p = lN i) ∧ (jK J = 7 → ∃ i, i < jN J ∧ p = lN i)
/-- but for the rows where arrangements are laid, as it was -/
def Nr (w W : zW) : Prop := W.2 = w.2 ∧ ∀ k j, k ≠ 78 → k ≠ 79 → k ≠ 80 → zI W k j = zI w k j
theorem nr_0 (w : zW) : Nr w w := ⟨rfl, fun _ _ _ _ _ => rfl⟩
def setS (w : zW) (p q : Int64) : zW := zsL (zsL w 74 11 p) 74 12 q
theorem setS_p (w : zW) (p q : Int64) : zL (setS w p q) 74 11 = p := rfl
theorem setS_q (w : zW) (p q : Int64) : zL (setS w p q) 74 12 = q := rfl
theorem is_s (w : zW) (p q : Int64) : fX8_is p q w = some ((), setS w p q) := rfl
/-- the ELEMENT of an ITEM by the rule r (wide n) -/
def epF (r n v : Nat) : Int64 := if r = 3 then lN (v / 101 % 101) else if r = 4 then (if v % 2 = 0 then 0 else lN (v / 2 % 10)) else if r = 5 then lN (v % 24) else if r = 7 then lN (v % n) else lN v
def eqF (r v : Nat) : Int64 := if r = 0 then 1 else if r = 3 then lN (v % 101) else if r = 4 then (if v % 2 = 0 then lN (v / 2 % 10) else 0) else if r = 5 then lN (lpF (v % 24) % 2) else if r = 7 then 0 else lN v
def opF (r e : Nat) : Int64 := if r = 1 then 10000 else if r = 3 then 1 else if r = 6 then -1 else if r = 7 then lN e else 0
def oqF (r : Nat) : Int64 := if r = 1 ∨ r = 6 then -1 else 0
theorem lpF_lt : ∀ n, n < 24 → lpF n < 7 := by decide +kernel
theorem remN {a d : Nat} {D : Int32} (hD : D = nI d) (ha : a < 2 ^ 31) (h0 : 0 < d) (hd : d < 2 ^ 31) : nI a - nI a / D * D = nI (a % d) := by subst hD; exact pk_rem ha h0 hd
theorem divN {a d : Nat} {D : Int32} (hD : D = nI d) (ha : a < 2 ^ 31) (h0 : 0 < d) (hd : d < 2 ^ 31) : nI a / D = nI (a / d) := by subst hD; exact pk_div ha h0 hd
theorem el_s {J : aJ} {w : zW} (hW : jW J) (hD : dJ J w) {v : Nat} (hv : v < 10000) : ∃ W, Nr w W ∧ fX8_element (nI v) w = some ((), setS W (epF (jK J) (jN J) v) (eqF (jK J) v)) := by
  have hk := hD.1
  have h7 := hW.1
  have hl : (nI v).toInt64 = lN v := nI_l (by omega)
  rw [fX8_element, hk]
  rcases (show jK J = 0 ∨ jK J = 1 ∨ jK J = 2 ∨ jK J = 3 ∨ jK J = 4 ∨ jK J = 5 ∨ jK J = 6 ∨ jK J = 7 by omega) with e | e | e | e | e | e | e | e <;> rw [e]
  · rw [if_pos (show nI 0 = 0 from rfl), is_s, bd_s, hl]
    exact ⟨w, nr_0 w, rfl⟩
  · rw [if_neg (show ¬ nI 1 = 0 by decide), if_pos (show nI 1 = 1 from rfl), is_s, bd_s, hl]
    exact ⟨w, nr_0 w, rfl⟩
  · rw [if_neg (show ¬ nI 2 = 0 by decide), if_neg (show ¬ nI 2 = 1 by decide), if_pos (show nI 2 = 2 from rfl), is_s, bd_s, hl]
    exact ⟨w, nr_0 w, rfl⟩
  · rw [if_neg (show ¬ nI 3 = 0 by decide), if_neg (show ¬ nI 3 = 1 by decide), if_neg (show ¬ nI 3 = 2 by decide), if_pos (show nI 3 = 3 from rfl), is_s, bd_s, remN (a := v) (D := 101) (d := 101) rfl (by omega) (by decide) (by decide), divN (D := 101) (d := 101) rfl (by omega) (by decide) (by decide), remN (a := v / 101) (D := 101) (d := 101) rfl (by omega) (by decide) (by decide), nI_l (by omega), nI_l (by omega)]
    exact ⟨w, nr_0 w, rfl⟩
  · rw [if_neg (show ¬ nI 4 = 0 by decide), if_neg (show ¬ nI 4 = 1 by decide), if_neg (show ¬ nI 4 = 2 by decide), if_neg (show ¬ nI 4 = 3 by decide), if_pos (show nI 4 = 4 from rfl), lt_e, remN (D := 2) (d := 2) rfl (by omega) (by decide) (by decide), divN (D := 2) (d := 2) rfl (by omega) (by decide) (by decide), remN (D := 10) (d := 10) rfl (by omega) (by decide) (by decide), nI_l (by omega)]
    refine ⟨w, nr_0 w, ?_⟩
    rcases (show v % 2 = 0 ∨ v % 2 = 1 by omega) with c | c
    · rw [c, if_neg (show ¬ ¬ nI 0 = 0 from not_not_intro rfl)]
      dsimp only
      rw [lt_e, if_neg (show ¬ ¬ nI 0 = 0 from not_not_intro rfl)]
      dsimp only
      rw [is_s, bd_s]
      unfold epF eqF
      rw [if_neg (by decide), if_pos rfl, if_pos c, if_neg (by decide), if_neg (by decide), if_pos rfl, if_pos c]
    · rw [c, if_pos (show ¬ nI 1 = 0 by decide)]
      dsimp only
      rw [lt_e, if_pos (show ¬ nI 1 = 0 by decide)]
      dsimp only
      rw [is_s, bd_s]
      unfold epF eqF
      rw [if_neg (by decide), if_pos rfl, if_neg (by omega), if_neg (by decide), if_neg (by decide), if_pos rfl, if_neg (by omega)]
  · have h24 : v % 24 < 24 := Nat.mod_lt _ (by decide)
    have := lpF_lt _ h24
    rw [if_neg (show ¬ nI 5 = 0 by decide), if_neg (show ¬ nI 5 = 1 by decide), if_neg (show ¬ nI 5 = 2 by decide), if_neg (show ¬ nI 5 = 3 by decide), if_neg (show ¬ nI 5 = 4 by decide), if_pos (show nI 5 = 5 from rfl), remN (D := 24) (d := 24) rfl (by omega) (by decide) (by decide), leaps_s h24, bd_s, remN (D := 2) (d := 2) rfl (by omega) (by decide) (by decide), is_s, bd_s, nI_l (by omega), nI_l (by omega)]
    exact ⟨lay w 78 (v % 24), ⟨rfl, fun k j n1 n2 n3 => lay_o n1⟩, rfl⟩
  · rw [if_neg (show ¬ nI 6 = 0 by decide), if_neg (show ¬ nI 6 = 1 by decide), if_neg (show ¬ nI 6 = 2 by decide), if_neg (show ¬ nI 6 = 3 by decide), if_neg (show ¬ nI 6 = 4 by decide), if_neg (show ¬ nI 6 = 5 by decide), if_pos (show nI 6 = 6 from rfl), is_s, bd_s, hl]
    exact ⟨w, nr_0 w, rfl⟩
  · have h1 := hW.2.1
    have h5 := hW.2.2.1
    have := Nat.mod_lt v h1
    rw [if_neg (show ¬ nI 7 = 0 by decide), if_neg (show ¬ nI 7 = 1 by decide), if_neg (show ¬ nI 7 = 2 by decide), if_neg (show ¬ nI 7 = 3 by decide), if_neg (show ¬ nI 7 = 4 by decide), if_neg (show ¬ nI 7 = 5 by decide), if_neg (show ¬ nI 7 = 6 by decide), if_pos (show nI 7 = 7 from rfl), hD.2.1, if_neg (nI_ne0 h1 (by omega)), pk_rem (by omega) h1 (by omega), is_s, bd_s, nI_l (by omega)]
    exact ⟨w, nr_0 w, rfl⟩
theorem em_s {J : aJ} {w : zW} (hW : jW J) (hD : dJ J w) : fX8_empty w = some ((), setS w (opF (jK J) (jE J)) (oqF (jK J))) := by
  have hk := hD.1
  have h7 := hW.1
  have h5 := hW.2.2.1
  have hn := hW.2.2.2.1
  rw [fX8_empty, hk]
  rcases (show jK J = 0 ∨ jK J = 1 ∨ jK J = 2 ∨ jK J = 3 ∨ jK J = 4 ∨ jK J = 5 ∨ jK J = 6 ∨ jK J = 7 by omega) with e | e | e | e | e | e | e | e <;> rw [e]
  · rfl
  · rfl
  · rfl
  · rfl
  · rfl
  · rfl
  · rfl
  · rw [if_neg (show ¬ nI 7 = 1 by decide), if_neg (show ¬ nI 7 = 2 by decide), if_neg (show ¬ nI 7 = 3 by decide), if_neg (show ¬ nI 7 = 4 by decide), if_neg (show ¬ nI 7 = 5 by decide), if_neg (show ¬ nI 7 = 6 by decide), if_pos (show nI 7 = 7 from rfl), hD.2.2.1, is_s, bd_s, nI_l (by omega)]
    rfl
theorem lN_ne0 {b : Nat} (h0 : 0 < b) (hb : b < 2 ^ 63) : ¬ lN b = 0 := fun q => by
  have := (pk_lEQ hb (by decide : 0 < 2 ^ 63)).mp q
  omega
theorem common_s {w : zW} : ∀ n a b, b < n → a < 2 ^ 63 → b < 2 ^ 63 → fX8_common_L6 n (lN a) (lN b) w = some (lN (Nat.gcd a b), w) := by
  intro n
  induction n with
  | zero => intro a b h; omega
  | succ n ih =>
    intro a b h ha hb
    rw [fX8_common_L6.eq_2]
    by_cases c : b = 0
    · subst c
      rw [if_pos (show lN 0 = 0 from rfl), Nat.gcd_zero_right]
    · have h0 : 0 < b := by omega
      rw [if_neg (lN_ne0 h0 hb), if_neg (lN_ne0 h0 hb), lt_e, pk_lRem ha h0 hb, ih b (a % b) (by have := Nat.mod_lt a h0; omega) hb (by have := Nat.mod_lt a h0; omega), Nat.gcd_comm b, Nat.gcd_comm a b, ← Nat.gcd_rec b a]
/-- what two SUMMARIES come to by the rule J -/
def jpF (J : aJ) (p r : Int64) (q t : Int64) : Int64 :=
  if jK J = 0 then p + r else if jK J = 1 then (if r < p then r else p) else if jK J = 2 then lN (Nat.gcd p.toNatClampNeg r.toNatClampNeg)
  else if jK J = 3 then p * r - p * r / 101 * 101 else if jK J = 4 then p + r - (if r < q then r else q)
  else if jK J = 5 then lN (arF p.toNatClampNeg r.toNatClampNeg) else if jK J = 6 then (if 0 ≤ p then p else r)
  else lN (jT J p.toNatClampNeg r.toNatClampNeg)
def jqF (J : aJ) (p r : Int64) (q t : Int64) : Int64 :=
  if jK J = 0 then q + t else if jK J = 1 then (if t < q then q else t) else if jK J = 2 then q ^^^ t
  else if jK J = 3 then r * q + t - (r * q + t) / 101 * 101 else if jK J = 4 then q + t - (if r < q then r else q)
  else if jK J = 5 then q + t - (q + t) / 2 * 2 else if jK J = 6 then (if 0 ≤ t then t else q)
  else 0
theorem jp6 {J : aJ} {p r q t : Int64} (e : jK J = 6) : jpF J p r q t = if 0 ≤ p then p else r := by
  unfold jpF
  rw [if_neg (by omega), if_neg (by omega), if_neg (by omega), if_neg (by omega), if_neg (by omega), if_neg (by omega), if_pos e]
theorem jq6 {J : aJ} {p r q t : Int64} (e : jK J = 6) : jqF J p r q t = if 0 ≤ t then t else q := by
  unfold jqF
  rw [if_neg (by omega), if_neg (by omega), if_neg (by omega), if_neg (by omega), if_neg (by omega), if_neg (by omega), if_pos e]
theorem lN_cl {n : Nat} (h : n < 2 ^ 63) : (lN n).toNatClampNeg = n := by
  show (lN n).toInt.toNat = n
  rw [pk_lT h]; rfl
theorem lN_i32 {n : Nat} (h : n < 2 ^ 31) : (lN n).toInt32 = nI n := by
  rw [← nI_l h, Int32.toInt32_toInt64]
theorem jn_s {J : aJ} {w : zW} (hW : jW J) (hD : dJ J w) {p r q t : Int64} (hp : Val J p q) (hr : Val J r t) : (∃ W, Nr w W ∧ fX8_join p q r t w = some ((), setS W (jpF J p r q t) (jqF J p r q t))) ∧ Val J (jpF J p r q t) (jqF J p r q t) := by
  have hk := hD.1
  have h7 := hW.1
  have h1 := hW.2.1
  have h5 := hW.2.2.1
  rw [fX8_join, hk]
  unfold jpF jqF
  have hV : ∀ x y : Int64, jK J ≠ 2 → jK J ≠ 5 → jK J ≠ 6 → jK J ≠ 7 → Val J x y := fun x y n2 n5 n6 n7 => ⟨fun q => absurd q n6, fun q => absurd q n2, fun q => absurd q n5, fun q => absurd q n7⟩
  rcases (show jK J = 0 ∨ jK J = 1 ∨ jK J = 2 ∨ jK J = 3 ∨ jK J = 4 ∨ jK J = 5 ∨ jK J = 6 ∨ jK J = 7 by omega) with e | e | e | e | e | e | e | e
  · refine ⟨⟨w, nr_0 w, ?_⟩, hV _ _ (by omega) (by omega) (by omega) (by omega)⟩
    rw [e, if_pos (show nI 0 = 0 from rfl), is_s, bd_s]; rfl
  · refine ⟨⟨w, nr_0 w, ?_⟩, hV _ _ (by omega) (by omega) (by omega) (by omega)⟩
    rw [e, if_neg (show ¬ nI 1 = 0 by decide), if_pos (show nI 1 = 1 from rfl), is_s, bd_s]; rfl
  · obtain ⟨i, hi, rfl⟩ := hp.2.1 e
    obtain ⟨j, hj, rfl⟩ := hr.2.1 e
    have hg : Nat.gcd i j < 10000 := by
      rcases Nat.eq_zero_or_pos i with rfl | h0
      · rw [Nat.gcd_zero_left]; exact hj
      · have := Nat.gcd_le_left j h0; omega
    refine ⟨⟨w, nr_0 w, ?_⟩, ?_⟩
    · rw [e, if_neg (show ¬ nI 2 = 0 by decide), if_neg (show ¬ nI 2 = 1 by decide), if_pos (show nI 2 = 2 from rfl), fX8_common, common_s zFU i j (by rw [show zFU = 18446744073709551616 from rfl]; omega) (by omega) (by omega), bd_s, is_s, bd_s, lN_cl (by omega), lN_cl (by omega)]
      rfl
    · rw [if_neg (by omega), if_neg (by omega), if_pos e, lN_cl (by omega), lN_cl (by omega)]
      exact ⟨fun q => by omega, fun _ => ⟨_, hg, rfl⟩, fun q => by omega, fun q => by omega⟩
  · refine ⟨⟨w, nr_0 w, ?_⟩, hV _ _ (by omega) (by omega) (by omega) (by omega)⟩
    rw [e, if_neg (show ¬ nI 3 = 0 by decide), if_neg (show ¬ nI 3 = 1 by decide), if_neg (show ¬ nI 3 = 2 by decide), if_pos (show nI 3 = 3 from rfl), is_s, bd_s]; rfl
  · refine ⟨⟨w, nr_0 w, ?_⟩, hV _ _ (by omega) (by omega) (by omega) (by omega)⟩
    rw [e, if_neg (show ¬ nI 4 = 0 by decide), if_neg (show ¬ nI 4 = 1 by decide), if_neg (show ¬ nI 4 = 2 by decide), if_neg (show ¬ nI 4 = 3 by decide), if_pos (show nI 4 = 4 from rfl), lt_e, is_s, bd_s]; rfl
  · obtain ⟨i, hi, rfl⟩ := hp.2.2.1 e
    obtain ⟨j, hj, rfl⟩ := hr.2.2.1 e
    have ha : arF i j < 24 := numF_lt _
    obtain ⟨W, e1, e2, e3⟩ := arr_s hi hj w
    refine ⟨⟨W, ⟨e2, e3⟩, ?_⟩, ?_⟩
    · rw [e, if_neg (show ¬ nI 5 = 0 by decide), if_neg (show ¬ nI 5 = 1 by decide), if_neg (show ¬ nI 5 = 2 by decide), if_neg (show ¬ nI 5 = 3 by decide), if_neg (show ¬ nI 5 = 4 by decide), if_pos (show nI 5 = 5 from rfl), lN_i32 (by omega), lN_i32 (by omega), e1, bd_s, is_s, bd_s, nI_l (by omega), lN_cl (by omega), lN_cl (by omega)]
      rfl
    · rw [if_neg (by omega), if_neg (by omega), if_neg (by omega), if_neg (by omega), if_neg (by omega), if_pos e, lN_cl (by omega), lN_cl (by omega)]
      exact ⟨fun q => by omega, fun q => by omega, fun _ => ⟨_, ha, rfl⟩, fun q => by omega⟩
  · refine ⟨⟨w, nr_0 w, ?_⟩, ?_⟩
    rotate_left
    · show Val J (jpF J p r q t) (jqF J p r q t)
      rw [jp6 e, jq6 e]
      refine ⟨fun _ => ?_, fun q => by omega, fun q => by omega, fun q => by omega⟩
      rcases hp.1 e with ⟨rfl, rfl⟩ | ⟨p0, q0⟩ <;> rcases hr.1 e with ⟨rfl, rfl⟩ | ⟨r0, t0⟩
      · exact .inl ⟨rfl, rfl⟩
      · rw [if_neg (show ¬ (0 : Int64) ≤ -1 by decide), if_pos t0]; exact .inr ⟨r0, t0⟩
      · rw [if_pos p0, if_neg (show ¬ (0 : Int64) ≤ -1 by decide)]; exact .inr ⟨p0, q0⟩
      · rw [if_pos p0, if_pos t0]; exact .inr ⟨p0, t0⟩
    rw [e, if_neg (show ¬ nI 6 = 0 by decide), if_neg (show ¬ nI 6 = 1 by decide), if_neg (show ¬ nI 6 = 2 by decide), if_neg (show ¬ nI 6 = 3 by decide), if_neg (show ¬ nI 6 = 4 by decide), if_neg (show ¬ nI 6 = 5 by decide), if_pos (show nI 6 = 6 from rfl)]
    by_cases c1 : (0 : Int64) ≤ p <;> by_cases c2 : (0 : Int64) ≤ t
    · rw [if_pos c1, if_pos c2, is_s, bd_s, if_pos c1, if_pos c2]; rfl
    · rw [if_pos c1, if_neg c2, is_s, bd_s, if_pos c1, if_neg c2]; rfl
    · rw [if_neg c1, if_pos c2, is_s, bd_s, if_neg c1, if_pos c2]; rfl
    · rw [if_neg c1, if_neg c2, is_s, bd_s, if_neg c1, if_neg c2]; rfl
  · obtain ⟨i, hi, rfl⟩ := hp.2.2.2 e
    obtain ⟨j, hj, rfl⟩ := hr.2.2.2 e
    have hL := hW.2.2.2.2.1 i j hi hj
    have ht := hD.2.2.2 i j hi hj
    have hb : jN J * i + j < 25 := by
      have : jN J * i ≤ 5 * 4 := Nat.mul_le_mul h5 (by omega)
      omega
    refine ⟨⟨w, nr_0 w, ?_⟩, ?_⟩
    · rw [e, if_neg (show ¬ nI 7 = 0 by decide), if_neg (show ¬ nI 7 = 1 by decide), if_neg (show ¬ nI 7 = 2 by decide), if_neg (show ¬ nI 7 = 3 by decide), if_neg (show ¬ nI 7 = 4 by decide), if_neg (show ¬ nI 7 = 5 by decide), if_neg (show ¬ nI 7 = 6 by decide), hD.2.1, lN_i32 (by omega), lN_i32 (by omega), pk_mul, nI_add, zin_t hb (by decide), zg_t, nI_clamp (by omega), ht, is_s, bd_s, nI_l (by omega), lN_cl (by omega), lN_cl (by omega)]
      rfl
    · rw [if_neg (by omega), if_neg (by omega), if_neg (by omega), if_neg (by omega), if_neg (by omega), if_neg (by omega), if_neg (by omega), lN_cl (by omega), lN_cl (by omega)]
      exact ⟨fun q => by omega, fun q => by omega, fun q => by omega, fun _ => ⟨_, hL, rfl⟩⟩
theorem val_e {J : aJ} (hW : jW J) {v : Nat} (hv : v < 10000) : Val J (epF (jK J) (jN J) v) (eqF (jK J) v) := by
  refine ⟨fun e => ?_, fun e => ?_, fun e => ?_, fun e => ?_⟩
  · rw [e]
    have h : (0 : Int64) ≤ lN v := (lN_le (a := 0) (by decide) (by omega)).mpr (by omega)
    exact .inr ⟨h, h⟩
  · exact ⟨v, hv, by rw [e]; rfl⟩
  · exact ⟨v % 24, Nat.mod_lt _ (by decide), by rw [e]; rfl⟩
  · exact ⟨v % jN J, Nat.mod_lt _ hW.2.1, by rw [e]; rfl⟩
theorem val_o {J : aJ} (hW : jW J) : Val J (opF (jK J) (jE J)) (oqF (jK J)) := by
  refine ⟨fun e => ?_, fun e => ?_, fun e => ?_, fun e => ?_⟩
  · rw [e]; exact .inl ⟨rfl, rfl⟩
  · exact ⟨0, by decide, by rw [e]; rfl⟩
  · exact ⟨0, by decide, by rw [e]; rfl⟩
  · exact ⟨jE J, hW.2.2.2.1, by rw [e]; rfl⟩
theorem c_ep {J : aJ} {w : zW} (hW : jW J) (hJ : cJ J w) {v : Nat} (hv : v < 10000) : fX0_elementP (nI v) w = some (epF (jK J) (jN J) v, w) := by
  have hk := hJ.1
  have h7 := hW.1
  have h1 := hW.2.1
  have h5 := hW.2.2.1
  have hl : (nI v).toInt64 = lN v := nI_l (by omega)
  rw [fX0_elementP, hk]
  rcases (show jK J = 0 ∨ jK J = 1 ∨ jK J = 2 ∨ jK J = 3 ∨ jK J = 4 ∨ jK J = 5 ∨ jK J = 6 ∨ jK J = 7 by omega) with e | e | e | e | e | e | e | e <;> rw [e]
  · rw [hl]; rfl
  · rw [hl]; rfl
  · rw [hl]; rfl
  · rw [if_pos (show nI 3 = 3 from rfl), divN (D := 101) (d := 101) rfl (by omega) (by decide) (by decide), remN (a := v / 101) (D := 101) (d := 101) rfl (by omega) (by decide) (by decide), nI_l (by omega)]
    rfl
  · rw [if_neg (show ¬ nI 4 = 3 by decide), if_pos (show nI 4 = 4 from rfl), remN (a := v) (D := 2) (d := 2) rfl (by omega) (by decide) (by decide), divN (D := 2) (d := 2) rfl (by omega) (by decide) (by decide), remN (a := v / 2) (D := 10) (d := 10) rfl (by omega) (by decide) (by decide), nI_l (by omega)]
    show _ = some ((if v % 2 = 0 then (0 : Int64) else lN (v / 2 % 10)), w)
    rcases (show v % 2 = 0 ∨ v % 2 = 1 by omega) with c | c
    · rw [c, if_neg (show ¬ ¬ nI 0 = 0 from not_not_intro rfl), if_pos rfl]
    · rw [c, if_pos (show ¬ nI 1 = 0 by decide), if_neg (show ¬ (1 : Nat) = 0 by decide)]
  · rw [if_neg (show ¬ nI 5 = 3 by decide), if_neg (show ¬ nI 5 = 4 by decide), if_pos (show nI 5 = 5 from rfl), remN (a := v) (D := 24) (d := 24) rfl (by omega) (by decide) (by decide), nI_l (by omega)]
    rfl
  · rw [if_neg (show ¬ nI 6 = 3 by decide), if_neg (show ¬ nI 6 = 4 by decide), if_neg (show ¬ nI 6 = 5 by decide), if_pos (show nI 6 = 6 from rfl), hl]
    rfl
  · have hm := Nat.mod_lt v h1
    rw [if_neg (show ¬ nI 7 = 3 by decide), if_neg (show ¬ nI 7 = 4 by decide), if_neg (show ¬ nI 7 = 5 by decide), if_neg (show ¬ nI 7 = 6 by decide), if_pos (show nI 7 = 7 from rfl), fX3_kindOf, hJ.2.1, if_pos (show (1 : Int32) ≤ nI (jN J) from (nI_leI (a := 1) (by decide) (by omega)).mpr h1), if_neg (nI_ne0 h1 (by omega)), pk_rem (by omega) h1 (by omega), bd_s, nI_l (by omega)]
    rfl
theorem c_oe {J : aJ} {w : zW} (hW : jW J) (hJ : cJ J w) : fX0_emptyP w = some (opF (jK J) (jE J), w) ∧ fX0_emptyQ w = some (oqF (jK J), w) := by
  have hk := hJ.1
  have h7 := hW.1
  have h5 := hW.2.2.1
  have hn := hW.2.2.2.1
  rw [fX0_emptyP, fX0_emptyQ, hk, lt_e]
  rcases (show jK J = 0 ∨ jK J = 1 ∨ jK J = 2 ∨ jK J = 3 ∨ jK J = 4 ∨ jK J = 5 ∨ jK J = 6 ∨ jK J = 7 by omega) with e | e | e | e | e | e | e | e <;> rw [e]
  · exact ⟨rfl, rfl⟩
  · exact ⟨rfl, rfl⟩
  · exact ⟨rfl, rfl⟩
  · exact ⟨rfl, rfl⟩
  · exact ⟨rfl, rfl⟩
  · exact ⟨rfl, rfl⟩
  · exact ⟨rfl, rfl⟩
  · refine ⟨?_, rfl⟩
    rw [if_neg (show ¬ nI 7 = 1 by decide), if_neg (show ¬ nI 7 = 2 by decide), if_neg (show ¬ nI 7 = 3 by decide), if_neg (show ¬ nI 7 = 4 by decide), if_neg (show ¬ nI 7 = 5 by decide), if_neg (show ¬ nI 7 = 6 by decide), if_pos (show nI 7 = 7 from rfl), hJ.2.2.1, nI_l (by omega)]
    rfl
/-- the answer alone, the world put in its place -/
def pm (w : zW) (r : Option (Int32 × zW)) : Option (Int32 × zW) := r.map (fun q => (q.1, w))
theorem pm_s {w v : zW} {a : Int32} : pm w (some (a, v)) = some (a, w) := rfl
theorem lp11_p {x0 x2 : Int32} {j j0 : Int32 → Int32 → zW → Option (Int32 × zW)} {w : zW} (hj : ∀ a b, j a b w = pm w (j0 a b zw0)) : ∀ n x1 x3, fX0_leaps_L11 x0 x2 j n x1 x3 w = pm w (fX0_leaps_L11 x0 x2 j0 n x1 x3 zw0) := by
  intro n
  induction n with
  | zero => intro x1 x3; rfl
  | succ n ih =>
    intro x1 x3
    rw [fX0_leaps_L11.eq_2, fX0_leaps_L11.eq_2]
    by_cases c : x2 ≤ x3
    · rw [if_pos c, if_pos c]; exact hj _ _
    · rw [if_neg c, if_neg c, lt_e, lt_e, lt_e, lt_e]; exact ih _ _
theorem lp4_p {x0 : Int32} {w : zW} : ∀ n x1 x2, fX0_leaps_L4 x0 n x1 x2 w = pm w (fX0_leaps_L4 x0 n x1 x2 zw0) := by
  intro n
  induction n with
  | zero => intro x1 x2; rfl
  | succ n ih =>
    intro x1 x2
    rw [fX0_leaps_L4.eq_2, fX0_leaps_L4.eq_2]
    by_cases c : 4 ≤ x2
    · rw [if_pos c, if_pos c]; rfl
    · rw [if_neg c, if_neg c]; exact lp11_p (fun a b => ih a b) _ _ _
theorem lp_k : ∀ n, n < 24 → (fX0_leaps (zarr.getD n 0) zw0).map (·.1) = some (nI (lpF n)) := by decide +kernel
theorem pm_of {w : zW} {r s : Option (Int32 × zW)} {a : Int32} (h : r = pm w s) (hk : s.map (·.1) = some a) : r = some (a, w) := by
  cases s with
  | none => cases hk
  | some q =>
    rw [h]
    have : q.1 = a := Option.some.inj hk
    show some (q.1, w) = _
    rw [this]
theorem c_leaps {n : Nat} (hn : n < 24) (w : zW) : fX0_leaps (zarr.getD n 0) w = some (nI (lpF n), w) := pm_of (lp4_p _ _ _) (lp_k n hn)
theorem ar42_p {x2 : Int32} {w : zW} : ∀ n x3, fX0_arranged_L42 x2 n x3 w = pm w (fX0_arranged_L42 x2 n x3 zw0) := by
  intro n
  induction n with
  | zero => intro x3; rfl
  | succ n ih =>
    intro x3
    rw [fX0_arranged_L42.eq_2, fX0_arranged_L42.eq_2]
    by_cases c : 24 ≤ x3
    · rw [if_pos c, if_pos c]; rfl
    · rw [if_neg c, if_neg c]
      cases zin x3 24 with
      | false => rfl
      | true =>
        rw [zg_t, zg_t]
        by_cases d : ¬ zarr.getD x3.toNatClampNeg 0 = x2
        · rw [if_pos d, if_pos d]; exact ih _
        · rw [if_neg d, if_neg d]; rfl
theorem ar4_p {x0 x1 : Int32} {w : zW} : ∀ n x2 x3, fX0_arranged_L4 x0 x1 n x2 x3 w = pm w (fX0_arranged_L4 x0 x1 n x2 x3 zw0) := by
  intro n
  induction n with
  | zero => intro x2 x3; rfl
  | succ n ih =>
    intro x2 x3
    rw [fX0_arranged_L4.eq_2, fX0_arranged_L4.eq_2]
    by_cases c : x3 < 0
    · rw [if_pos c, if_pos c]; exact ar42_p _ _
    · rw [if_neg c, if_neg c, lt_e, lt_e, lt_e, lt_e]; exact ih _ _
theorem ar_k : ∀ a, a < 24 → ∀ b, b < 24 → (fX0_arranged (zarr.getD a 0) (zarr.getD b 0) zw0).map (·.1) = some (nI (arF a b)) := by decide +kernel
theorem c_arranged {a b : Nat} (ha : a < 24) (hb : b < 24) (w : zW) : fX0_arranged (zarr.getD a 0) (zarr.getD b 0) w = some (nI (arF a b), w) := pm_of (ar4_p _ _ _) (ar_k a ha b hb)
theorem c_arrangement {n : Nat} (hn : n < 24) (w : zW) : fX0_arrangement (nI n) w = some (zarr.getD n 0, w) := by
  rw [fX0_arrangement, if_neg (nI_pos (by omega)), if_pos (show nI n < 24 from nI_lt (b := 24) hn (by decide)), zin_t hn (by decide), zg_t, nI_clamp (by omega)]
theorem gd_s {w : zW} : ∀ n a b k i, b < 2 ^ k → i + 2 * k < 100 → 2 * k < n → a < 2 ^ 62 → b < 2 ^ 62 → fX0_greatestDivisor_L9 n (lN a) (lN b) (nI i) w = some (lN (Nat.gcd a b), w) := by
  intro n
  induction n using Nat.strongRecOn with
  | _ n ih =>
    intro a b k i hb hi hn ha hb2
    obtain ⟨n, rfl⟩ : ∃ m, n = m + 1 := ⟨n - 1, by omega⟩
    rw [fX0_greatestDivisor_L9.eq_2, if_neg (show ¬ (100 : Int32) ≤ nI i from Int32.not_le.mpr (nI_lt (b := 100) (by omega) (by decide)))]
    by_cases c : b = 0
    · subst c
      rw [if_pos (show lN 0 = 0 from rfl), Nat.gcd_zero_right]
    · have h0 : 0 < b := by omega
      obtain ⟨k, rfl⟩ : ∃ m, k = m + 1 := ⟨k - 1, by
        have : k ≠ 0 := by rintro rfl; rw [Nat.pow_zero] at hb; omega
        omega⟩
      have hr : a % b < b := Nat.mod_lt a h0
      rw [if_neg (lN_ne0 h0 (by omega)), if_neg (lN_ne0 h0 (by omega)), lt_e, pk_lRem (by omega) h0 (by omega), nI_1]
      have hg : Nat.gcd a b = Nat.gcd b (a % b) := by rw [Nat.gcd_comm b, Nat.gcd_comm a b, ← Nat.gcd_rec b a]
      obtain ⟨n, rfl⟩ : ∃ m, n = m + 1 := ⟨n - 1, by omega⟩
      rw [fX0_greatestDivisor_L9.eq_2, if_neg (show ¬ (100 : Int32) ≤ nI (i + 1) from Int32.not_le.mpr (nI_lt (b := 100) (by omega) (by decide)))]
      by_cases c2 : a % b = 0
      · rw [c2] at hg ⊢
        rw [if_pos (show lN 0 = 0 from rfl), hg, Nat.gcd_zero_right]
      · have h02 : 0 < a % b := by omega
        rw [if_neg (lN_ne0 h02 (by omega)), if_neg (lN_ne0 h02 (by omega)), lt_e, pk_lRem (by omega) h02 (by omega), nI_1]
        have hr2 : b % (a % b) < 2 ^ k := by
          have h1 := Nat.mod_lt b h02
          rw [Nat.pow_succ] at hb
          by_cases d : a % b ≤ 2 ^ k
          · omega
          · have : b % (a % b) = b - a % b := by
              rw [Nat.mod_eq_sub_mod (by omega), Nat.mod_eq_of_lt (by omega)]
            omega
        have hg2 : Nat.gcd a b = Nat.gcd (a % b) (b % (a % b)) := by rw [hg, Nat.gcd_comm (a % b), Nat.gcd_comm b (a % b), ← Nat.gcd_rec (a % b) b]
        rw [hg2]
        exact ih n (by omega) (a % b) (b % (a % b)) k (i + 1 + 1) hr2 (by omega) (by omega) (by omega) (by have := Nat.mod_lt b h02; omega)
theorem c_gcd {a b : Nat} (ha : a < 10000) (hb : b < 10000) (w : zW) : fX0_greatestDivisor (lN a) (lN b) w = some (lN (Nat.gcd a b), w) := by
  unfold fX0_greatestDivisor
  exact gd_s zFU a b 14 0 (by omega) (by decide) (by rw [show zFU = 18446744073709551616 from rfl]; omega) (by omega) (by omega)
def setC (w : zW) (p q : Int64) : zW := zsL (zsL w 1 2 p) 1 3 q
theorem sw_s (w : zW) (p q : Int64) : fX0_startWith p q w = some ((), setC w p q) := rfl
theorem c_eq {J : aJ} {w : zW} (hW : jW J) (hJ : cJ J w) {v : Nat} (hv : v < 10000) : fX0_elementQ (nI v) w = some (eqF (jK J) v, w) := by
  have hk := hJ.1
  have h7 := hW.1
  have hl : (nI v).toInt64 = lN v := nI_l (by omega)
  rw [fX0_elementQ, hk]
  rcases (show jK J = 0 ∨ jK J = 1 ∨ jK J = 2 ∨ jK J = 3 ∨ jK J = 4 ∨ jK J = 5 ∨ jK J = 6 ∨ jK J = 7 by omega) with e | e | e | e | e | e | e | e <;> rw [e]
  · rfl
  · rw [hl]; rfl
  · rw [hl]; rfl
  · rw [if_neg (show ¬ nI 3 = 0 by decide), if_neg (show ¬ nI 3 = 1 by decide), if_neg (show ¬ nI 3 = 2 by decide), if_pos (show nI 3 = 3 from rfl), remN (a := v) (D := 101) (d := 101) rfl (by omega) (by decide) (by decide), nI_l (by omega)]
    rfl
  · rw [if_neg (show ¬ nI 4 = 0 by decide), if_neg (show ¬ nI 4 = 1 by decide), if_neg (show ¬ nI 4 = 2 by decide), if_neg (show ¬ nI 4 = 3 by decide), if_pos (show nI 4 = 4 from rfl), remN (a := v) (D := 2) (d := 2) rfl (by omega) (by decide) (by decide), divN (D := 2) (d := 2) rfl (by omega) (by decide) (by decide), remN (a := v / 2) (D := 10) (d := 10) rfl (by omega) (by decide) (by decide), nI_l (by omega)]
    show _ = some ((if v % 2 = 0 then lN (v / 2 % 10) else (0 : Int64)), w)
    rcases (show v % 2 = 0 ∨ v % 2 = 1 by omega) with c | c
    · rw [c, if_neg (show ¬ ¬ nI 0 = 0 from not_not_intro rfl), if_pos rfl]
    · rw [c, if_pos (show ¬ nI 1 = 0 by decide), if_neg (show ¬ (1 : Nat) = 0 by decide)]
  · have h24 : v % 24 < 24 := Nat.mod_lt _ (by decide)
    have := lpF_lt _ h24
    rw [if_neg (show ¬ nI 5 = 0 by decide), if_neg (show ¬ nI 5 = 1 by decide), if_neg (show ¬ nI 5 = 2 by decide), if_neg (show ¬ nI 5 = 3 by decide), if_neg (show ¬ nI 5 = 4 by decide), if_pos (show nI 5 = 5 from rfl), remN (a := v) (D := 24) (d := 24) rfl (by omega) (by decide) (by decide), c_arrangement h24, bd_s, c_leaps h24, bd_s, remN (D := 2) (d := 2) rfl (by omega) (by decide) (by decide), nI_l (by omega)]
    rfl
  · rw [if_neg (show ¬ nI 6 = 0 by decide), if_neg (show ¬ nI 6 = 1 by decide), if_neg (show ¬ nI 6 = 2 by decide), if_neg (show ¬ nI 6 = 3 by decide), if_neg (show ¬ nI 6 = 4 by decide), if_neg (show ¬ nI 6 = 5 by decide), if_pos (show nI 6 = 6 from rfl), hl]
    rfl
  · rfl
theorem c_start {J : aJ} {w : zW} (hW : jW J) (hJ : cJ J w) {v : Nat} (hv : v < 10000) : fX0_start (nI v) w = some ((), setC w (epF (jK J) (jN J) v) (eqF (jK J) v)) := by
  rw [fX0_start, c_ep hW hJ hv, bd_s, c_eq hW hJ hv, bd_s, sw_s, bd_s]
theorem c_empty {J : aJ} {w : zW} (hW : jW J) (hJ : cJ J w) : fX0_startEmpty w = some ((), setC w (opF (jK J) (jE J)) (oqF (jK J))) := by
  have h := c_oe hW hJ
  rw [fX0_startEmpty, h.1, bd_s, h.2, bd_s, sw_s, bd_s]
theorem c_entry {J : aJ} {w : zW} (hW : jW J) (hJ : cJ J w) {i j : Nat} (hi : i < jN J) (hj : j < jN J) : fX3_entry 2 (nI i) (nI j) w = some (nI (jT J i j), w) := by
  have h5 := hW.2.2.1
  rw [fX3_entry, if_neg (nI_pos (by omega)), if_neg (show ¬ (5 : Int32) ≤ nI i from Int32.not_le.mpr (nI_lt (b := 5) (by omega) (by decide))), if_neg (nI_pos (by omega)), if_pos (show nI j < 5 from nI_lt (b := 5) (by omega) (by decide)), lt_e, show (5 : Int32) = nI 5 from rfl, pk_mul, nI_add, if_neg (Int32.not_le.mpr (nI_lt (by omega) (by decide))), zin_t (by omega) (by decide), zg_t, nI_clamp (by omega), show i * 5 + j = 5 * i + j by omega, hJ.2.2.2 i j hi hj]
theorem c_join {J : aJ} {w : zW} (hW : jW J) (hJ : cJ J w) {p r q t : Int64} (hp : Val J p q) (hr : Val J r t) : fX0_join p q r t w = some ((), setC w (jpF J p r q t) (jqF J p r q t)) := by
  have hk := hJ.1
  have h7 := hW.1
  have h1 := hW.2.1
  have h5 := hW.2.2.1
  rw [fX0_join, hk]
  unfold jpF jqF
  rcases (show jK J = 0 ∨ jK J = 1 ∨ jK J = 2 ∨ jK J = 3 ∨ jK J = 4 ∨ jK J = 5 ∨ jK J = 6 ∨ jK J = 7 by omega) with e | e | e | e | e | e | e | e
  · rw [e, if_pos (show nI 0 = 0 from rfl), sw_s, bd_s]; rfl
  · rw [e, if_neg (show ¬ nI 1 = 0 by decide), if_pos (show nI 1 = 1 from rfl), sw_s, bd_s]; rfl
  · obtain ⟨i, hi, rfl⟩ := hp.2.1 e
    obtain ⟨j, hj, rfl⟩ := hr.2.1 e
    rw [e, if_neg (show ¬ nI 2 = 0 by decide), if_neg (show ¬ nI 2 = 1 by decide), if_pos (show nI 2 = 2 from rfl), c_gcd hi hj, bd_s, sw_s, bd_s, lN_cl (by omega), lN_cl (by omega)]
    rfl
  · rw [e, if_neg (show ¬ nI 3 = 0 by decide), if_neg (show ¬ nI 3 = 1 by decide), if_neg (show ¬ nI 3 = 2 by decide), if_pos (show nI 3 = 3 from rfl), sw_s, bd_s]; rfl
  · rw [e, if_neg (show ¬ nI 4 = 0 by decide), if_neg (show ¬ nI 4 = 1 by decide), if_neg (show ¬ nI 4 = 2 by decide), if_neg (show ¬ nI 4 = 3 by decide), if_pos (show nI 4 = 4 from rfl), lt_e, sw_s, bd_s]; rfl
  · obtain ⟨i, hi, rfl⟩ := hp.2.2.1 e
    obtain ⟨j, hj, rfl⟩ := hr.2.2.1 e
    have ha : arF i j < 24 := numF_lt _
    rw [e, if_neg (show ¬ nI 5 = 0 by decide), if_neg (show ¬ nI 5 = 1 by decide), if_neg (show ¬ nI 5 = 2 by decide), if_neg (show ¬ nI 5 = 3 by decide), if_neg (show ¬ nI 5 = 4 by decide), if_pos (show nI 5 = 5 from rfl), lN_i32 (by omega), lN_i32 (by omega), c_arrangement hi, bd_s, c_arrangement hj, bd_s, c_arranged hi hj, bd_s, sw_s, bd_s, nI_l (by omega), lN_cl (by omega), lN_cl (by omega)]
    rfl
  · show _ = some ((), setC w (jpF J p r q t) (jqF J p r q t))
    rw [jp6 e, jq6 e]
    rw [e, if_neg (show ¬ nI 6 = 0 by decide), if_neg (show ¬ nI 6 = 1 by decide), if_neg (show ¬ nI 6 = 2 by decide), if_neg (show ¬ nI 6 = 3 by decide), if_neg (show ¬ nI 6 = 4 by decide), if_neg (show ¬ nI 6 = 5 by decide), if_pos (show nI 6 = 6 from rfl)]
    have hn : ∀ x : Int64, 0 ≤ x → ¬ x = -1 := fun x h q => absurd (q ▸ h : (0 : Int64) ≤ -1) (by decide)
    have hm : ¬ (0 : Int64) ≤ -1 := by decide
    rcases hp.1 e with ⟨rfl, rfl⟩ | ⟨p0, q0⟩ <;> rcases hr.1 e with ⟨rfl, rfl⟩ | ⟨r0, t0⟩
    · rfl
    · rw [if_neg (show ¬ ¬ (-1 : Int64) = -1 from not_not_intro rfl), if_pos (hn _ r0), sw_s, bd_s, if_neg hm, if_pos t0]
    · rw [if_pos (hn _ p0), if_neg (show ¬ ¬ (-1 : Int64) = -1 from not_not_intro rfl), sw_s, bd_s, if_pos p0, if_neg hm]
    · rw [if_pos (hn _ p0), if_pos (hn _ r0), sw_s, bd_s, if_pos p0, if_pos t0]
  · obtain ⟨i, hi, rfl⟩ := hp.2.2.2 e
    obtain ⟨j, hj, rfl⟩ := hr.2.2.2 e
    have ht := hW.2.2.2.2.1 i j hi hj
    rw [e, if_neg (show ¬ nI 7 = 0 by decide), if_neg (show ¬ nI 7 = 1 by decide), if_neg (show ¬ nI 7 = 2 by decide), if_neg (show ¬ nI 7 = 3 by decide), if_neg (show ¬ nI 7 = 4 by decide), if_neg (show ¬ nI 7 = 5 by decide), if_neg (show ¬ nI 7 = 6 by decide), lN_i32 (by omega), lN_i32 (by omega), c_entry hW hJ hi hj, bd_s, sw_s, bd_s, nI_l (by omega), lN_cl (by omega), lN_cl (by omega)]
    rfl
theorem c_follow {J : aJ} {w : zW} (hW : jW J) (hJ : cJ J w) {v : Nat} (hv : v < 10000) (hp : Val J (zL w 1 2) (zL w 1 3)) : fX0_follow (nI v) w = some ((), setC w (jpF J (zL w 1 2) (epF (jK J) (jN J) v) (zL w 1 3) (eqF (jK J) v)) (jqF J (zL w 1 2) (epF (jK J) (jN J) v) (zL w 1 3) (eqF (jK J) v))) := by
  rw [fX0_follow, c_ep hW hJ hv, bd_s, c_eq hW hJ hv, bd_s, c_join hW hJ hp (val_e hW hv), bd_s]
