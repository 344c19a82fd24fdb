set_option maxRecDepth 16384
theorem lN_a (a b : Nat) : lN a + lN b = lN (a + b) := (Int64.ofNat_add a b).symm
theorem lN_m (a b : Nat) : lN a * lN b = lN (a * b) := (Int64.ofNat_mul a b).symm
theorem lN_s {a b : Nat} (h : b ≤ a) : lN a - lN b = lN (a - b) := by
  have e : lN a = lN (a - b) + lN b := by rw [lN_a, Nat.sub_add_cancel h]
  rw [e, Int64.add_sub_cancel]
theorem lN_e {a b : Nat} (h : a = b) : lN a = lN b := by rw [h]
theorem gcd_l {i j : Nat} (hi : i < 10000) (hj : j < 10000) : Nat.gcd i j < 10000 := by
  rcases Nat.eq_zero_or_pos i with rfl | h
  · rw [Nat.gcd_zero_left]; exact hj
  · exact Nat.lt_of_le_of_lt (Nat.gcd_le_left j h) hi
-- a SUMMARY, and how great its numbers are
def bV (J : aJ) (n : Nat) (a : aP) : Prop := aV J a ∧ (jK J = 3 → ∃ x y, x < 101 ∧ y < 101 ∧ a = (lN x, lN y)) ∧ (jK J = 4 → ∃ x y, x ≤ n ∧ y ≤ n ∧ a = (lN x, lN y)) ∧ (jK J = 5 → ∃ x y, x < 24 ∧ y < 2 ∧ a = (lN x, lN y))
theorem bV_0 {J : aJ} {n : Nat} {a : aP} (h : aV J a) (h3 : jK J ≠ 3) (h4 : jK J ≠ 4) (h5 : jK J ≠ 5) : bV J n a := ⟨h, fun q => absurd q h3, fun q => absurd q h4, fun q => absurd q h5⟩
theorem ae_b {J : aJ} (hW : jW J) {v : Nat} (hv : v < 10000) : bV J 10 (ae J v) := by
  refine ⟨ae_V hW hv, fun e => ?_, fun e => ?_, fun e => ?_⟩
  · rw [ae_k e]; exact ⟨v / 101 % 101, v % 101, Nat.mod_lt _ (by decide), Nat.mod_lt _ (by decide), rfl⟩
  · rw [ae_k e]
    have h := Nat.mod_lt (v / 2) (show 10 > 0 by decide)
    by_cases c : v % 2 = 0
    · refine ⟨0, v / 2 % 10, by omega, by omega, ?_⟩
      show ((if v % 2 = 0 then (0 : Int64) else lN (v / 2 % 10)), (if v % 2 = 0 then lN (v / 2 % 10) else (0 : Int64))) = _
      rw [if_pos c, if_pos c]; rfl
    · refine ⟨v / 2 % 10, 0, by omega, by omega, ?_⟩
      show ((if v % 2 = 0 then (0 : Int64) else lN (v / 2 % 10)), (if v % 2 = 0 then lN (v / 2 % 10) else (0 : Int64))) = _
      rw [if_neg c, if_neg c]; rfl
  · rw [ae_k e]; exact ⟨v % 24, lpF (v % 24) % 2, Nat.mod_lt _ (by decide), Nat.mod_lt _ (by decide), rfl⟩
theorem aj_3n {J : aJ} (e : jK J = 3) {x y z t : Nat} (hx : x < 101) (hy : y < 101) (hz : z < 101) (ht : t < 101) : aj J (lN x, lN y) (lN z, lN t) = (lN (x * z % 101), lN ((z * y + t) % 101)) := by
  rw [aj_3 e]
  have h1 : x * z ≤ 100 * 100 := Nat.mul_le_mul (by omega) (by omega)
  have h2 : z * y ≤ 100 * 100 := Nat.mul_le_mul (by omega) (by omega)
  show (lN x * lN z - lN x * lN z / 101 * 101, lN z * lN y + lN t - (lN z * lN y + lN t) / 101 * 101) = _
  rw [lN_m, lN_m, lN_a, show (101 : Int64) = lN 101 from rfl, pk_lRem (by omega) (by decide) (by decide), pk_lRem (by omega) (by decide) (by decide)]
def mn (x y : Nat) : Nat := if x < y then x else y
theorem mn_l (x y : Nat) : mn x y ≤ x ∧ mn x y ≤ y := by unfold mn; split <;> omega
theorem aj_4n {J : aJ} (e : jK J = 4) {x y z t : Nat} (hy : y < 2 ^ 60) (hz : z < 2 ^ 60) : aj J (lN x, lN y) (lN z, lN t) = (lN (x + z - mn z y), lN (y + t - mn z y)) := by
  rw [aj_4 e]
  have h1 : (if lN z < lN y then lN z else lN y) = lN (mn z y) := by
    unfold mn
    by_cases c : z < y
    · rw [if_pos c, if_pos ((pk_lLT (by omega) (by omega)).mpr c)]
    · rw [if_neg c, if_neg (fun q => c ((pk_lLT (by omega) (by omega)).mp q))]
  have h2 := mn_l z y
  show (lN x + lN z - (if lN z < lN y then lN z else lN y), lN y + lN t - (if lN z < lN y then lN z else lN y)) = _
  rw [h1, lN_a, lN_a, lN_s (by omega), lN_s (by omega)]
theorem aj_5n {J : aJ} (e : jK J = 5) {x y z t : Nat} (hx : x < 24) (hy : y < 2) (hz : z < 24) (ht : t < 2) : aj J (lN x, lN y) (lN z, lN t) = (lN (arF x z), lN ((y + t) % 2)) := by
  rw [aj_5 e]
  show (lN (arF (lN x).toNatClampNeg (lN z).toNatClampNeg), lN y + lN t - (lN y + lN t) / 2 * 2) = _
  rw [lN_cl (by omega), lN_cl (by omega), lN_a, show (2 : Int64) = lN 2 from rfl, pk_lRem (by omega) (by decide) (by decide)]
theorem aj_b {J : aJ} (hW : jW J) {n m : Nat} {a b : aP} (ha : bV J n a) (hb : bV J m b) (hn : n + m < 2 ^ 60) : bV J (n + m) (aj J a b) := by
  refine ⟨aj_V hW ha.1 hb.1, fun e => ?_, fun e => ?_, fun e => ?_⟩
  · obtain ⟨x, y, hx, hy, rfl⟩ := ha.2.1 e
    obtain ⟨z, t, hz, ht, rfl⟩ := hb.2.1 e
    exact ⟨_, _, Nat.mod_lt _ (by decide), Nat.mod_lt _ (by decide), aj_3n e hx hy hz ht⟩
  · obtain ⟨x, y, hx, hy, rfl⟩ := ha.2.2.1 e
    obtain ⟨z, t, hz, ht, rfl⟩ := hb.2.2.1 e
    exact ⟨_, _, by omega, by omega, aj_4n e (by omega) (by omega)⟩
  · obtain ⟨x, y, hx, hy, rfl⟩ := ha.2.2.2 e
    obtain ⟨z, t, hz, ht, rfl⟩ := hb.2.2.2 e
    exact ⟨_, _, numF_lt _, Nat.mod_lt _ (by decide), aj_5n e hx hy hz ht⟩
theorem cl_c {v u : Nat → Nat} (h : ∀ i, i < 4 → v i = u i) {k : Nat} (hk : k < 4) : ∀ f p, p + f ≤ 4 → cl v k f p = cl u k f p := by
  intro f
  induction f with
  | zero => intro p _; rfl
  | succ f ih =>
    intro p hp
    unfold cl
    rw [ih (p + 1) (by omega), h p (by omega), h k hk]
theorem numF_c {v u : Nat → Nat} (h : ∀ i, i < 4 → v i = u i) : numF v = numF u := by
  unfold numF
  rw [cl_c h (by decide) 3 1 (by decide), cl_c h (by decide) 2 2 (by decide), cl_c h (by decide) 1 3 (by decide)]
theorem vF_ar : ∀ a, a < 24 → ∀ b, b < 24 → ∀ i, i < 4 → vF (arF a b) i = vF b (vF a i) := by decide +kernel
theorem arF_a {a b c : Nat} (ha : a < 24) (hb : b < 24) (hc : c < 24) : arF (arF a b) c = arF a (arF b c) := by
  unfold arF
  refine numF_c (fun i hi => ?_)
  have e1 : vF (numF (fun i => vF b (vF a i))) i = vF b (vF a i) := vF_ar a ha b hb i hi
  have e2 : vF (numF (fun i => vF c (vF b i))) (vF a i) = vF c (vF b (vF a i)) := vF_ar b hb c hc (vF a i) (vF_lt ha i)
  show vF c (vF (numF (fun i => vF b (vF a i))) i) = vF (numF (fun i => vF c (vF b i))) (vF a i)
  rw [e1, e2]
/-- joined in any grouping -/
theorem aj_as {J : aJ} (hW : jW J) {n m k : Nat} {a b c : aP} (ha : bV J n a) (hb : bV J m b) (hc : bV J k c) (hn : n + m + k < 2 ^ 59) : aj J (aj J a b) c = aj J a (aj J b c) := by
  have hA := hW.2.2.2.2.2.2
  rcases kd8 hW with e | e | e | e | e | e | e | e
  · rw [aj_0 e, aj_0 e, aj_0 e, aj_0 e]
    exact Prod.ext (Int64.add_assoc _ _ _) (Int64.add_assoc _ _ _)
  · rw [aj_1 e, aj_1 e, aj_1 e, aj_1 e]
    obtain ⟨a1, a2⟩ := a
    obtain ⟨b1, b2⟩ := b
    obtain ⟨c1, c2⟩ := c
    refine Prod.ext ?_ ?_
    · show (if c1 < (if b1 < a1 then b1 else a1) then c1 else (if b1 < a1 then b1 else a1)) = if (if c1 < b1 then c1 else b1) < a1 then (if c1 < b1 then c1 else b1) else a1
      by_cases h1 : b1 < a1
      · rw [if_pos h1]
        by_cases h2 : c1 < b1
        · rw [if_pos h2, if_pos (Int64.lt_trans h2 h1)]
        · rw [if_neg h2, if_pos h1]
      · rw [if_neg h1]
        by_cases h2 : c1 < b1
        · rw [if_pos h2]
        · rw [if_neg h2, if_neg h1, if_neg (Int64.not_lt.mpr (Int64.le_trans (Int64.not_lt.mp h1) (Int64.not_lt.mp h2)))]
    · show (if c2 < (if b2 < a2 then a2 else b2) then (if b2 < a2 then a2 else b2) else c2) = if (if c2 < b2 then b2 else c2) < a2 then a2 else (if c2 < b2 then b2 else c2)
      by_cases h1 : b2 < a2
      · rw [if_pos h1]
        by_cases h2 : c2 < b2
        · rw [if_pos h2, if_pos h1, if_pos (Int64.lt_trans h2 h1)]
        · rw [if_neg h2]
      · rw [if_neg h1]
        by_cases h2 : c2 < b2
        · rw [if_pos h2, if_neg h1]
        · rw [if_neg h2, if_neg (Int64.not_lt.mpr (Int64.le_trans (Int64.not_lt.mp h1) (Int64.not_lt.mp h2)))]
  · obtain ⟨a1, a2⟩ := a
    obtain ⟨b1, b2⟩ := b
    obtain ⟨c1, c2⟩ := c
    obtain ⟨x, hx, rfl⟩ := ha.1.2.1 e
    obtain ⟨y, hy, rfl⟩ := hb.1.2.1 e
    obtain ⟨z, hz, rfl⟩ := hc.1.2.1 e
    have g1 := gcd_l hx hy
    have g2 := gcd_l hy hz
    rw [aj_2 e, aj_2 e, aj_2 e, aj_2 e]
    refine Prod.ext ?_ (Int64.xor_assoc _ _ _)
    show lN (Nat.gcd (lN (Nat.gcd (lN x).toNatClampNeg (lN y).toNatClampNeg)).toNatClampNeg (lN z).toNatClampNeg) = lN (Nat.gcd (lN x).toNatClampNeg (lN (Nat.gcd (lN y).toNatClampNeg (lN z).toNatClampNeg)).toNatClampNeg)
    rw [lN_cl (show x < 2 ^ 63 by omega), lN_cl (show y < 2 ^ 63 by omega), lN_cl (show z < 2 ^ 63 by omega), lN_cl (show Nat.gcd x y < 2 ^ 63 by omega), lN_cl (show Nat.gcd y z < 2 ^ 63 by omega), Nat.gcd_assoc]
  · obtain ⟨x1, y1, hx1, hy1, rfl⟩ := ha.2.1 e
    obtain ⟨x2, y2, hx2, hy2, rfl⟩ := hb.2.1 e
    obtain ⟨x3, y3, hx3, hy3, rfl⟩ := hc.2.1 e
    have m : ∀ x : Nat, x % 101 < 101 := fun x => Nat.mod_lt _ (by decide)
    rw [aj_3n e hx1 hy1 hx2 hy2, aj_3n e hx2 hy2 hx3 hy3, aj_3n e (m _) (m _) hx3 hy3, aj_3n e hx1 hy1 (m _) (m _)]
    refine Prod.ext (lN_e ?_) (lN_e ?_)
    · rw [Nat.mod_mul_mod, Nat.mul_mod_mod, Nat.mul_assoc]
    · rw [← Nat.mod_add_mod (x3 * ((x2 * y1 + y2) % 101)), Nat.mul_mod_mod, Nat.mod_add_mod, Nat.add_mod_mod, ← Nat.mod_add_mod (x2 * x3 % 101 * y1), Nat.mod_mul_mod, Nat.mod_add_mod, Nat.mul_add, Nat.add_assoc, Nat.mul_comm x2 x3, Nat.mul_assoc]
  · obtain ⟨x1, y1, hx1, hy1, rfl⟩ := ha.2.2.1 e
    obtain ⟨x2, y2, hx2, hy2, rfl⟩ := hb.2.2.1 e
    obtain ⟨x3, y3, hx3, hy3, rfl⟩ := hc.2.2.1 e
    rw [aj_4n e (by omega) (by omega), aj_4n e (by omega) (by omega), aj_4n e (by omega) (by omega), aj_4n e (by omega) (by omega)]
    refine Prod.ext (lN_e ?_) (lN_e ?_)
    · unfold mn; split <;> split <;> split <;> split <;> omega
    · unfold mn; split <;> split <;> split <;> split <;> omega
  · obtain ⟨x1, y1, hx1, hy1, rfl⟩ := ha.2.2.2 e
    obtain ⟨x2, y2, hx2, hy2, rfl⟩ := hb.2.2.2 e
    obtain ⟨x3, y3, hx3, hy3, rfl⟩ := hc.2.2.2 e
    have m : ∀ x : Nat, x % 2 < 2 := fun x => Nat.mod_lt _ (by decide)
    have l : ∀ x y, arF x y < 24 := fun x y => numF_lt _
    rw [aj_5n e hx1 hy1 hx2 hy2, aj_5n e hx2 hy2 hx3 hy3, aj_5n e (l _ _) (m _) hx3 hy3, aj_5n e hx1 hy1 (l _ _) (m _)]
    exact Prod.ext (lN_e (arF_a hx1 hx2 hx3)) (lN_e (by omega))
  · rw [aj_6 e, aj_6 e, aj_6 e, aj_6 e]
    refine Prod.ext ?_ ?_
    · show (if 0 ≤ (if 0 ≤ a.1 then a.1 else b.1) then (if 0 ≤ a.1 then a.1 else b.1) else c.1) = if 0 ≤ a.1 then a.1 else (if 0 ≤ b.1 then b.1 else c.1)
      by_cases h1 : 0 ≤ a.1
      · rw [if_pos h1, if_pos h1, if_pos h1]
      · rw [if_neg h1, if_neg h1]
    · show (if 0 ≤ c.2 then c.2 else (if 0 ≤ b.2 then b.2 else a.2)) = if 0 ≤ (if 0 ≤ c.2 then c.2 else b.2) then (if 0 ≤ c.2 then c.2 else b.2) else a.2
      by_cases h1 : 0 ≤ c.2
      · rw [if_pos h1, if_pos h1, if_pos h1]
      · rw [if_neg h1, if_neg h1]
  · obtain ⟨a1, a2⟩ := a
    obtain ⟨b1, b2⟩ := b
    obtain ⟨c1, c2⟩ := c
    obtain ⟨x, hx, rfl⟩ := ha.1.2.2.2 e
    obtain ⟨y, hy, rfl⟩ := hb.1.2.2.2 e
    obtain ⟨z, hz, rfl⟩ := hc.1.2.2.2 e
    have h5 := hW.2.2.1
    have t1 := hW.2.2.2.2.1 x y hx hy
    have t2 := hW.2.2.2.2.1 y z hy hz
    rw [aj_7 e, aj_7 e, aj_7 e, aj_7 e]
    refine Prod.ext ?_ rfl
    show lN (jT J (lN (jT J (lN x).toNatClampNeg (lN y).toNatClampNeg)).toNatClampNeg (lN z).toNatClampNeg) = lN (jT J (lN x).toNatClampNeg (lN (jT J (lN y).toNatClampNeg (lN z).toNatClampNeg)).toNatClampNeg)
    rw [lN_cl (show x < 2 ^ 63 by omega), lN_cl (show y < 2 ^ 63 by omega), lN_cl (show z < 2 ^ 63 by omega), lN_cl (show jT J x y < 2 ^ 63 by omega), lN_cl (show jT J y z < 2 ^ 63 by omega), hA x y z hx hy hz]
