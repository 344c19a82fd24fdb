set_option maxRecDepth 16384
theorem i01 {a : Int32} {n : Nat} (hn : n < 2 ^ 31) (h : ¬ nI n < a) : a < 0 ∨ ∃ j, j ≤ n ∧ a = nI j := by
  rcases pk_ix a (n := n) hn with q | q | ⟨j, hj, e⟩
  · exact .inl q
  · exact .inr ⟨n, Nat.le_refl n, Int32.le_antisymm (Int32.not_lt.mp h) q⟩
  · exact .inr ⟨j, by omega, e⟩
-- two SUMMARIES joined, an ELEMENT, EMPTY
abbrev aP : Type := Int64 × Int64
def aj (J : aJ) (a b : aP) : aP := (jpF J a.1 b.1 a.2 b.2, jqF J a.1 b.1 a.2 b.2)
def ae (J : aJ) (v : Nat) : aP := (epF (jK J) (jN J) v, eqF (jK J) v)
def ao (J : aJ) : aP := (opF (jK J) (jE J), oqF (jK J))
def aV (J : aJ) (a : aP) : Prop := Val J a.1 a.2
theorem lN_00 : (0 : Int64) = lN 0 := rfl
theorem lN_11 : (1 : Int64) = lN 1 := rfl
theorem arF_0l : ∀ i, i < 24 → arF 0 i = i := by decide +kernel
theorem arF_0r : ∀ i, i < 24 → arF i 0 = i := by decide +kernel
theorem lN_0le {n : Nat} (h : n < 2 ^ 31) : (0 : Int64) ≤ lN n := (lN_le (a := 0) (by decide) h).mpr (Nat.zero_le _)
theorem kd8 {J : aJ} (hW : jW J) : jK J = 0 ∨ jK J = 1 ∨ jK J = 2 ∨ jK J = 3 ∨ jK J = 4 ∨ jK J = 5 ∨ jK J = 6 ∨ jK J = 7 := by
  have := hW.1
  omega
theorem aj_0 {J : aJ} (e : jK J = 0) (a b : aP) : aj J a b = (a.1 + b.1, a.2 + b.2) := by
  unfold aj jpF jqF; rw [e]; rfl
theorem aj_1 {J : aJ} (e : jK J = 1) (a b : aP) : aj J a b = (if b.1 < a.1 then b.1 else a.1, if b.2 < a.2 then a.2 else b.2) := by
  unfold aj jpF jqF; rw [e]; rfl
theorem aj_2 {J : aJ} (e : jK J = 2) (a b : aP) : aj J a b = (lN (Nat.gcd a.1.toNatClampNeg b.1.toNatClampNeg), a.2 ^^^ b.2) := by
  unfold aj jpF jqF; rw [e]; rfl
theorem aj_3 {J : aJ} (e : jK J = 3) (a b : aP) : aj J a b = (a.1 * b.1 - a.1 * b.1 / 101 * 101, b.1 * a.2 + b.2 - (b.1 * a.2 + b.2) / 101 * 101) := by
  unfold aj jpF jqF; rw [e]; rfl
theorem aj_4 {J : aJ} (e : jK J = 4) (a b : aP) : aj J a b = (a.1 + b.1 - (if b.1 < a.2 then b.1 else a.2), a.2 + b.2 - (if b.1 < a.2 then b.1 else a.2)) := by
  unfold aj jpF jqF; rw [e]; rfl
theorem aj_5 {J : aJ} (e : jK J = 5) (a b : aP) : aj J a b = (lN (arF a.1.toNatClampNeg b.1.toNatClampNeg), a.2 + b.2 - (a.2 + b.2) / 2 * 2) := by
  unfold aj jpF jqF; rw [e]; rfl
theorem aj_6 {J : aJ} (e : jK J = 6) (a b : aP) : aj J a b = (if 0 ≤ a.1 then a.1 else b.1, if 0 ≤ b.2 then b.2 else a.2) := by
  unfold aj; rw [jp6 e, jq6 e]
theorem aj_7 {J : aJ} (e : jK J = 7) (a b : aP) : aj J a b = (lN (jT J a.1.toNatClampNeg b.1.toNatClampNeg), 0) := by
  unfold aj jpF jqF; rw [e]; rfl
theorem ae_k {J : aJ} {k : Nat} (e : jK J = k) (v : Nat) : ae J v = (epF k (jN J) v, eqF k v) := by unfold ae; rw [e]
theorem ao_k {J : aJ} {k : Nat} (e : jK J = k) : ao J = (opF k (jE J), oqF k) := by unfold ao; rw [e]
/-- EMPTY ahead of an ELEMENT, and behind it -/
theorem aj_oe {J : aJ} (hW : jW J) {v : Nat} (hv : v < 10000) : aj J (ao J) (ae J v) = ae J v ∧ aj J (ae J v) (ao J) = ae J v := by
  rcases kd8 hW with e | e | e | e | e | e | e | e
  · rw [aj_0 e, aj_0 e, ae_k e, ao_k e]
    show ((0 : Int64) + lN v, (0 : Int64) + 1) = (lN v, 1) ∧ (lN v + (0 : Int64), (1 : Int64) + 0) = (lN v, 1)
    rw [Int64.zero_add, Int64.add_zero]
    exact ⟨rfl, rfl⟩
  · rw [aj_1 e, aj_1 e, ae_k e, ao_k e]
    have h1 : lN v < (10000 : Int64) := (lN_lt (b := 10000) (by omega) (by decide)).mpr hv
    have h2 : ¬ lN v < (-1 : Int64) := Int64.not_lt.mpr (Int64.le_trans (show (-1 : Int64) ≤ 0 by decide) (lN_0le (by omega)))
    have h3 : ¬ (10000 : Int64) < lN v := Int64.not_lt.mpr (Int64.le_of_lt h1)
    have h4 : (-1 : Int64) < lN v := Int64.lt_of_lt_of_le (show (-1 : Int64) < 0 by decide) (lN_0le (by omega))
    show (if lN v < (10000 : Int64) then lN v else 10000, if lN v < (-1 : Int64) then (-1 : Int64) else lN v) = (lN v, lN v) ∧ (if (10000 : Int64) < lN v then (10000 : Int64) else lN v, if (-1 : Int64) < lN v then lN v else (-1 : Int64)) = (lN v, lN v)
    rw [if_pos h1, if_neg h2, if_neg h3, if_pos h4]
    exact ⟨rfl, rfl⟩
  · rw [aj_2 e, aj_2 e, ae_k e, ao_k e]
    show (lN (Nat.gcd 0 (lN v).toNatClampNeg), (0 : Int64) ^^^ lN v) = (lN v, lN v) ∧ (lN (Nat.gcd (lN v).toNatClampNeg 0), lN v ^^^ (0 : Int64)) = (lN v, lN v)
    rw [lN_cl (by omega), Nat.gcd_zero_left, Nat.gcd_zero_right, Int64.zero_xor, Int64.xor_zero]
    exact ⟨rfl, rfl⟩
  · rw [aj_3 e, aj_3 e, ae_k e, ao_k e]
    have h1 : v / 101 % 101 < 101 := Nat.mod_lt _ (by decide)
    have h2 : v % 101 < 101 := Nat.mod_lt _ (by decide)
    show ((1 : Int64) * lN (v / 101 % 101) - (1 : Int64) * lN (v / 101 % 101) / 101 * 101, lN (v / 101 % 101) * 0 + lN (v % 101) - (lN (v / 101 % 101) * 0 + lN (v % 101)) / 101 * 101) = (lN (v / 101 % 101), lN (v % 101)) ∧ (lN (v / 101 % 101) * (1 : Int64) - lN (v / 101 % 101) * (1 : Int64) / 101 * 101, (1 : Int64) * lN (v % 101) + 0 - ((1 : Int64) * lN (v % 101) + 0) / 101 * 101) = (lN (v / 101 % 101), lN (v % 101))
    rw [Int64.one_mul, Int64.mul_one, Int64.one_mul, Int64.add_zero, Int64.mul_zero, Int64.zero_add, show (101 : Int64) = lN 101 from rfl, pk_lRem (by omega) (by decide) (by decide), pk_lRem (by omega) (by decide) (by decide), Nat.mod_eq_of_lt h1, Nat.mod_eq_of_lt h2]
    exact ⟨rfl, rfl⟩
  · rw [aj_4 e, aj_4 e, ae_k e, ao_k e]
    have hp : ∃ a, a < 10 ∧ epF 4 (jN J) v = lN a := by
      unfold epF
      rw [if_neg (by decide), if_pos rfl]
      by_cases c : v % 2 = 0
      · exact ⟨0, by decide, by rw [if_pos c]; rfl⟩
      · exact ⟨v / 2 % 10, Nat.mod_lt _ (by decide), by rw [if_neg c]⟩
    have hq : ∃ a, a < 10 ∧ eqF 4 v = lN a := by
      unfold eqF
      rw [if_neg (by decide), if_neg (by decide), if_pos rfl]
      by_cases c : v % 2 = 0
      · exact ⟨v / 2 % 10, Nat.mod_lt _ (by decide), by rw [if_pos c]⟩
      · exact ⟨0, by decide, by rw [if_neg c]; rfl⟩
    obtain ⟨a, ha, ea⟩ := hp
    obtain ⟨b, hb, eb⟩ := hq
    rw [ea, eb]
    have h1 : ¬ lN a < (0 : Int64) := Int64.not_lt.mpr (lN_0le (by omega))
    have h2 : (if (0 : Int64) < lN b then (0 : Int64) else lN b) = 0 := by
      by_cases c : (0 : Int64) < lN b
      · rw [if_pos c]
      · rw [if_neg c]; exact Int64.le_antisymm (Int64.not_lt.mp c) (lN_0le (by omega))
    show ((0 : Int64) + lN a - (if lN a < (0 : Int64) then lN a else 0), (0 : Int64) + lN b - (if lN a < (0 : Int64) then lN a else 0)) = (lN a, lN b) ∧ (lN a + 0 - (if (0 : Int64) < lN b then (0 : Int64) else lN b), lN b + 0 - (if (0 : Int64) < lN b then (0 : Int64) else lN b)) = (lN a, lN b)
    rw [if_neg h1, h2, Int64.zero_add, Int64.zero_add, Int64.add_zero, Int64.add_zero, Int64.sub_zero, Int64.sub_zero]
    exact ⟨rfl, rfl⟩
  · rw [aj_5 e, aj_5 e, ae_k e, ao_k e]
    have h1 : v % 24 < 24 := Nat.mod_lt _ (by decide)
    have h2 : lpF (v % 24) % 2 < 2 := Nat.mod_lt _ (by decide)
    show (lN (arF 0 (lN (v % 24)).toNatClampNeg), (0 : Int64) + lN (lpF (v % 24) % 2) - ((0 : Int64) + lN (lpF (v % 24) % 2)) / 2 * 2) = (lN (v % 24), lN (lpF (v % 24) % 2)) ∧ (lN (arF (lN (v % 24)).toNatClampNeg 0), lN (lpF (v % 24) % 2) + 0 - (lN (lpF (v % 24) % 2) + 0) / 2 * 2) = (lN (v % 24), lN (lpF (v % 24) % 2))
    rw [lN_cl (by omega), arF_0l _ h1, arF_0r _ h1, Int64.zero_add, Int64.add_zero, show (2 : Int64) = lN 2 from rfl, pk_lRem (by omega) (by decide) (by decide), Nat.mod_eq_of_lt h2]
    exact ⟨rfl, rfl⟩
  · rw [aj_6 e, aj_6 e, ae_k e, ao_k e]
    show (if (0 : Int64) ≤ -1 then (-1 : Int64) else lN v, if (0 : Int64) ≤ lN v then lN v else (-1 : Int64)) = (lN v, lN v) ∧ (if (0 : Int64) ≤ lN v then lN v else (-1 : Int64), if (0 : Int64) ≤ -1 then (-1 : Int64) else lN v) = (lN v, lN v)
    rw [if_neg (show ¬ (0 : Int64) ≤ -1 by decide), if_pos (lN_0le (by omega))]
    exact ⟨rfl, rfl⟩
  · rw [aj_7 e, aj_7 e, ae_k e, ao_k e]
    have h1 := hW.2.1
    have h5 := hW.2.2.1
    have hm := Nat.mod_lt v h1
    have hn := hW.2.2.2.1
    have h := hW.2.2.2.2.2 _ hm
    show (lN (jT J (lN (jE J)).toNatClampNeg (lN (v % jN J)).toNatClampNeg), (0 : Int64)) = (lN (v % jN J), 0) ∧ (lN (jT J (lN (v % jN J)).toNatClampNeg (lN (jE J)).toNatClampNeg), (0 : Int64)) = (lN (v % jN J), 0)
    rw [lN_cl (by omega), lN_cl (by omega), h.1, h.2]
    exact ⟨rfl, rfl⟩
theorem ae_V {J : aJ} (hW : jW J) {v : Nat} (hv : v < 10000) : aV J (ae J v) := val_e hW hv
theorem ao_V {J : aJ} (hW : jW J) : aV J (ao J) := val_o hW
theorem aj_V {J : aJ} (hW : jW J) {a b : aP} (ha : aV J a) (hb : aV J b) : aV J (aj J a b) := by
  have hD : ∃ w, dJ J w := by
    refine ⟨(fun k j => if k = 74 then if j = 7 then nI (jK J) else if j = 8 then nI (jN J) else nI (jE J) else nI (jT J (j / jN J) (j % jN J)), fun _ _ => 0, fun j => j), rfl, rfl, rfl, fun i j _ hj => ?_⟩
    show nI (jT J ((jN J * i + j) / jN J) ((jN J * i + j) % jN J)) = nI (jT J i j)
    rw [Nat.mul_add_div hW.2.1, Nat.div_eq_of_lt hj, Nat.add_zero, Nat.mul_add_mod, Nat.mod_eq_of_lt hj]
  obtain ⟨w, hD⟩ := hD
  exact (jn_s hW hD ha hb).2
