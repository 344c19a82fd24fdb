set_option maxRecDepth 16384
/-- SUMMARY of m ITEMS of the LINE j from number a on -/
def sF (J : aJ) (S : aS) (j a : Nat) : Nat → aP
  | 0 => ao J
  | m + 1 => aj J (sF J S j a m) (ae J (aI S j (a + m)))
section SU
variable {w0 : zX} {w : zW} {J : aJ} {S : aS} {T : aT} {H : Nat → Int32} {j : Nat}
theorem sF_V (hW : jW J) {a m : Nat} (h : ∀ i, i < m → aI S j (a + i) < 10000) : aV J (sF J S j a m) := by
  induction m with
  | zero => exact ao_V hW
  | succ m ih => exact aj_V hW (ih fun i hi => h i (by omega)) (ae_V hW (h m (by omega)))
theorem sF_1 (hW : jW J) {a : Nat} (h : aI S j a < 10000) : sF J S j a 1 = ae J (aI S j a) := (aj_oe hW h).1
theorem zIw_C {k i : Nat} {p q : Int64} : zI (setC w p q) k i = zI w k i := rfl
theorem sumUp_L (hW : jW J) (hj : j < 5) (hz : aN S j ≤ 64) (hI : ∀ i, i < aN S j → aI S j i < 10000) {a b : Nat} (hb : b ≤ aN S j) : ∀ m N i w, i + m = b → a ≤ i → m < N → uC w0 J S T H w → zL w 1 2 = (sF J S j a (i - a)).1 → zL w 1 3 = (sF J S j a (i - a)).2 → Ok (fX7_sumUp_L10 (LN j) (nI b) N (nI i) w) (fun _ w' => uC w0 J S T H w' ∧ zL w' 1 2 = (sF J S j a (b - a)).1 ∧ zL w' 1 3 = (sF J S j a (b - a)).2) := by
  intro m
  induction m with
  | zero =>
    intro N i w hm hi hN h hp hq
    obtain ⟨N, rfl⟩ : ∃ k, N = k + 1 := ⟨N - 1, by omega⟩
    rw [fX7_sumUp_L10.eq_2, show i = b by omega, if_pos (Int32.le_refl _)]
    exact ok_r (by rw [← show i = b by omega]; exact ⟨h, hp, hq⟩)
  | succ m ih =>
    intro N i w hm hi hN h hp hq
    obtain ⟨N, rfl⟩ : ∃ k, N = k + 1 := ⟨N - 1, by omega⟩
    have hv := hI i (by omega)
    have hV := sF_V hW (J := J) (S := S) (j := j) (a := a) (m := i - a) (fun x hx => hI _ (by omega))
    rw [fX7_sumUp_L10.eq_2, if_neg (Int32.not_le.mpr (nI_lt (by omega) (by omega))), itemAt_s h hj hz (by omega), bd_s, c_follow hW h.1 hv (by rw [hp, hq]; exact hV), bd_s, nI_1]
    have hs : sF J S j a (i + 1 - a) = aj J (sF J S j a (i - a)) (ae J (aI S j i)) := by
      rw [show i + 1 - a = (i - a) + 1 by omega]
      show aj J _ (ae J (aI S j (a + (i - a)))) = _
      rw [show a + (i - a) = i by omega]
    refine ih N (i + 1) _ (by omega) (by omega) (by omega) (uC_C h) ?_ ?_
    · rw [hs, hp, hq]; rfl
    · rw [hs, hp, hq]; rfl
theorem sumUp_s (hW : jW J) (h : uC w0 J S T H w) (hj : j < 5) (hz : aN S j ≤ 64) (hI : ∀ i, i < aN S j → aI S j i < 10000) {a b : Nat} (ha : a ≤ b) (hb : b ≤ aN S j) : Ok (fX7_sumUp (LN j) (nI a) (nI b) w) (fun _ w' => uC w0 J S T H w' ∧ zL w' 1 2 = (sF J S j a (b - a)).1 ∧ zL w' 1 3 = (sF J S j a (b - a)).2) := by
  rw [fX7_sumUp, c_empty hW h.1, bd_s]
  exact sumUp_L hW hj hz hI hb (b - a) zFU a _ (by omega) (Nat.le_refl a) (by rw [show zFU = 18446744073709551616 from rfl]; omega) (uC_C h) (by rw [show a - a = 0 by omega]; rfl) (by rw [show a - a = 0 by omega]; rfl)
theorem nr_I {W : zW} (hN : Nr w W) {k i : Nat} (h : k < 78 ∨ 80 < k) : zI W k i = zI w k i := hN.2 k i (by omega) (by omega) (by omega)
theorem sums_L (hW : jW J) (hj : j < 5) (hz : aN S j ≤ 64) (hI : ∀ i, i < aN S j → aI S j i < 10000) {a n : Nat} {c : Int32} (hb : a + n ≤ aN S j) : ∀ m N i w, i + m = n → m < N → uD w0 J S T H w → zI w 74 1 = c → Ok (fX8_sums_L19 (nI j) (nI a) (nI n) N (sF J S j a i).1 (sF J S j a i).2 (nI i) w) (fun _ w' => uD w0 J S T H w' ∧ zI w' 74 1 = c ∧ zL w' 74 11 = (sF J S j a n).1 ∧ zL w' 74 12 = (sF J S j a n).2) := by
  intro m
  induction m with
  | zero =>
    intro N i w hm hN h hc
    obtain ⟨N, rfl⟩ : ∃ k, N = k + 1 := ⟨N - 1, by omega⟩
    rw [fX8_sums_L19.eq_2, show i = n by omega, if_pos (Int32.le_refl _), is_s, bd_s]
    exact ok_r ⟨uD_S h, hc, rfl, rfl⟩
  | succ m ih =>
    intro N i w hm hN h hc
    obtain ⟨N, rfl⟩ : ∃ k, N = k + 1 := ⟨N - 1, by omega⟩
    have hv := hI (a + i) (by omega)
    have hV := sF_V hW (J := J) (S := S) (j := j) (a := a) (m := i) (fun x hx => hI _ (by omega))
    obtain ⟨W, hN1, hE⟩ := el_s hW h.1 hv
    have h2 : uD w0 J S T H (setS W (epF (jK J) (jN J) (aI S j (a + i))) (eqF (jK J) (aI S j (a + i)))) := uD_S (uD_N h hN1)
    have hc2 : zI (setS W (epF (jK J) (jN J) (aI S j (a + i))) (eqF (jK J) (aI S j (a + i)))) 74 1 = c := by
      rw [← hc]; exact nr_I hN1 (by omega)
    rw [fX8_sums_L19.eq_2, if_neg (Int32.not_le.mpr (nI_lt (by omega) (by omega))), nI_add, itemAt8_s h hj hz (by omega), bd_s, hE, bd_s, lt_e]
    by_cases c0 : i = 0
    · subst c0
      rw [if_pos (show nI 0 ≤ 0 by decide)]
      dsimp only
      rw [lt_e, lt_e, setS_p, setS_q]
      have e : sF J S j a 1 = ae J (aI S j (a + 0)) := sF_1 hW hv
      have := ih N 1 _ (by omega) (by omega) h2 hc2
      rw [e] at this
      exact this
    · obtain ⟨W2, hN2, hE2⟩ := (jn_s hW h2.1 hV (val_e hW hv)).1
      rw [if_neg (nI_nle (by omega) (by omega)), setS_p, setS_q, hE2, bd_s]
      dsimp only
      rw [lt_e, lt_e, setS_p, setS_q, nI_1]
      exact ih N (i + 1) _ (by omega) (by omega) (uD_S (uD_N h2 hN2)) (by rw [← hc2]; exact nr_I hN2 (by omega))
theorem sums_s (hW : jW J) (h : uD w0 J S T H w) (hj : j < 5) (hz : aN S j ≤ 64) (hI : ∀ i, i < aN S j → aI S j i < 10000) {a n : Nat} (hb : a + n ≤ aN S j) : Ok (fX8_sums (nI j) (nI a) (nI n) w) (fun _ w' => uD w0 J S T H w' ∧ zI w' 74 1 = zI w 74 1 ∧ zL w' 74 11 = (sF J S j a n).1 ∧ zL w' 74 12 = (sF J S j a n).2) := by
  rw [fX8_sums, em_s hW h.1, bd_s, lt_e, lt_e, setS_p, setS_q]
  exact sums_L hW hj hz hI hb n zFU 0 _ (by omega) (by rw [show zFU = 18446744073709551616 from rfl]; omega) (uD_S h) rfl
/-- SUMMARY of a LINE out of its STACKS -/
def yF (J : aJ) (S : aS) (j : Nat) : aP := if sZ S (2 * j) = 0 then (if sZ S (2 * j + 1) = 0 then ao J else cP (sC S (2 * j + 1) (sZ S (2 * j + 1) - 1))) else if sZ S (2 * j + 1) = 0 then cP (sC S (2 * j) (sZ S (2 * j) - 1)) else aj J (cP (sC S (2 * j) (sZ S (2 * j) - 1))) (cP (sC S (2 * j + 1) (sZ S (2 * j + 1) - 1)))
theorem summary_s (hW : jW J) (h : uD w0 J S T H w) (hb : zB S) (hj : j < 5) (h0 : kV J S (2 * j)) (h1 : kV J S (2 * j + 1)) : Ok (fX8_summary (nI j) w) (fun _ w' => uD w0 J S T H w' ∧ zI w' 74 1 = zI w 74 1 ∧ zL w' 74 11 = (yF J S j).1 ∧ zL w' 74 12 = (yF J S j).2) := by
  have e := d_in2 hj
  have hz0 := hb (2 * j) (by omega)
  have hz1 := hb (2 * j + 1) (by omega)
  have u0 := uD_z h (k := 2 * j) (by omega)
  have u1 := uD_z h (k := 2 * j + 1) (by omega)
  rw [fX8_summary, e.1, zg_t, lt_e, e.2.1, zg_t, lt_e, e.2.2.1, e.2.2.2.1, u0, u1, e.2.2.2.2.2, e.2.2.2.2.1, fX8_place, bd_s, fX8_place, bd_s, lt_e]
  have hi : ∀ k n, n ≤ 64 → n ≠ 0 → (64 : Int32) * nI k + (nI n - 1) = nI (64 * k + (n - 1)) := fun k n hn h0 => by
    rw [(show nI n - 1 = nI (n - 1) by rw [show (1 : Int32) = nI 1 from rfl, pk_sub (by omega)]), show (64 : Int32) = nI 64 from rfl, pk_mul, nI_add]
  by_cases c0 : sZ S (2 * j) = 0
  · by_cases c1 : sZ S (2 * j + 1) = 0
    · rw [c0, c1, if_neg (show ¬ ¬ nI 0 = 0 by decide), if_neg (show ¬ ¬ nI 0 = 0 by decide), em_s hW h.1, bd_s]
      refine ok_r ⟨uD_S h, rfl, ?_, ?_⟩ <;> (unfold yF; rw [if_pos c0, if_pos c1]; rfl)
    · have hc := (h.2.1 _ (show 2 * j + 1 < 10 by omega)).2 (sZ S (2 * j + 1) - 1) (by omega)
      rw [c0, if_neg (show ¬ ¬ nI 0 = 0 by decide), if_pos (nI_ne0 (by omega) (by omega))]
      dsimp only
      rw [if_neg (show ¬ ¬ nI 0 = 0 by decide), hi _ _ hz1 c1, zin_t (show 64 * (2 * j + 1) + (sZ S (2 * j + 1) - 1) < 640 by omega) (by decide), zg_t, zg_t, nI_clamp (by omega), hc.2.1, hc.2.2.1, is_s, bd_s]
      refine ok_r ⟨uD_S h, rfl, ?_, ?_⟩ <;> (unfold yF; rw [if_pos c0, if_neg c1]; rfl)
  · have hc0 := (h.2.1 _ (show 2 * j < 10 by omega)).2 (sZ S (2 * j) - 1) (by omega)
    rw [if_pos (nI_ne0 (show 0 < sZ S (2 * j) by omega) (by omega))]
    dsimp only
    rw [if_pos (nI_ne0 (show 0 < sZ S (2 * j) by omega) (by omega))]
    by_cases c1 : sZ S (2 * j + 1) = 0
    · rw [c1, if_neg (show ¬ ¬ nI 0 = 0 by decide), hi _ _ hz0 c0, zin_t (show 64 * (2 * j) + (sZ S (2 * j) - 1) < 640 by omega) (by decide), zg_t, zg_t, nI_clamp (by omega), hc0.2.1, hc0.2.2.1, is_s, bd_s]
      refine ok_r ⟨uD_S h, rfl, ?_, ?_⟩ <;> (unfold yF; rw [if_neg c0, if_pos c1]; rfl)
    · have hc1 := (h.2.1 _ (show 2 * j + 1 < 10 by omega)).2 (sZ S (2 * j + 1) - 1) (by omega)
      obtain ⟨W2, hN2, hE2⟩ := (jn_s hW h.1 (h0 _ (show sZ S (2 * j) - 1 < _ by omega)).2 (h1 _ (show sZ S (2 * j + 1) - 1 < _ by omega)).2).1
      rw [if_pos (nI_ne0 (by omega) (by omega)), hi _ _ hz0 c0, hi _ _ hz1 c1, zin_t (show 64 * (2 * j) + (sZ S (2 * j) - 1) < 640 by omega) (by decide), zin_t (show 64 * (2 * j + 1) + (sZ S (2 * j + 1) - 1) < 640 by omega) (by decide), zg_t, zg_t, zg_t, zg_t, nI_clamp (show 64 * (2 * j) + (sZ S (2 * j) - 1) < 2 ^ 31 by omega), nI_clamp (show 64 * (2 * j + 1) + (sZ S (2 * j + 1) - 1) < 2 ^ 31 by omega), hc0.2.1, hc0.2.2.1, hc1.2.1, hc1.2.2.1]
      refine ok_b ⟨(), _, hE2, rfl⟩ (fun _ w3 (a3 : w3 = _) => ?_)
      subst a3
      refine ok_r ⟨uD_S (uD_N h hN2), nr_I hN2 (by omega), ?_, ?_⟩ <;> (unfold yF; rw [if_neg c0, if_neg c1]; rfl)
theorem entersSum_s (hW : jW J) (h : uD w0 J S T H w) (hb : zB S) (hj : j < 5) (h0 : kV J S (2 * j)) (h1 : kV J S (2 * j + 1)) {n : Nat} (hn : zI w 74 1 = nI n) (hl : n < 158) : Ok (fX8_entersSummary (nI j) w) (fun _ w' => uD w0 J S T H w' ∧ zI w' 74 1 = nI (n + 2)) := by
  rw [fX8_entersSummary]
  refine ok_b (summary_s hW h hb hj h0 h1) (fun _ w1 a1 => ?_)
  refine ok_b (enters_s a1.1 (a1.2.1.trans hn) (by omega) _) (fun _ w2 a2 => ?_)
  refine ok_b (enters_s a2.1 a2.2 (by omega) _) (fun _ w3 a3 => ok_r a3)
end SU
