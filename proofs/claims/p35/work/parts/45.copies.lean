set_option maxRecDepth 16384
section CP
variable {w0 : zX} {w : zW} {J : aJ} {S : aS} {T : aT} {H : Nat → Int32}
/-- the four cells of a CELL written -/
def wW (w : zW) (d : Nat) (m : Int32) (v : Int32) (p q : Int64) : zW := zsL (zsL (zsI (zsI w 84 d m) 85 d v) 86 d p) 87 d q
theorem wW_I (w : zW) (d : Nat) (m v : Int32) (p q : Int64) (a b : Nat) : zI (wW w d m v p q) a b = if a = 85 ∧ b = d then v else if a = 84 ∧ b = d then m else zI w a b := rfl
theorem wW_L (w : zW) (d : Nat) (m v : Int32) (p q : Int64) (a b : Nat) : zL (wW w d m v p q) a b = if a = 87 ∧ b = d then q else if a = 86 ∧ b = d then p else zL w a b := rfl
theorem cp_step {ds sr i : Nat} (hd : ds < 10) (hs : sr < 10) (hne : sr ≠ ds) (hi : i < sZ S sr) (hb : zB S) (h : uD w0 J (cX ds sr i S) T H (zsI w 83 ds (nI i))) : uD w0 J (cX ds sr (i + 1) S) T H (zsI (wW w (64 * ds + i) (zI w 84 (64 * sr + i)) (zI w 85 (64 * sr + i)) (zL w 86 (64 * sr + i)) (zL w 87 (64 * sr + i))) 83 ds (nI (i + 1))) := by
  have hsz := hb sr hs
  have hc := (h.2.1 sr hs).2 i (by rw [cX_zo hne]; exact hi)
  rw [cX_co hne] at hc
  have hB : zB (cX ds sr i S) := fun a ha => by
    by_cases q : a = ds
    · subst q; rw [cX_z]; omega
    · rw [cX_zo q]; exact hb a ha
  have h2 := uD_q (v := (sC S sr i).1) (p := (sC S sr i).2.1) (q := (sC S sr i).2.2.1) h (zI w 84 (64 * sr + i)) (zI w 74 23) hd (by rw [cX_z]; omega) hB
  have hm : zI w 84 (64 * sr + i) + 1 = (sC S sr i).2.2.2 := hc.2.2.2
  have hM : zI w 74 23 = sM (cX ds sr i S) := h.2.2.1.1
  rw [hm, hM, cX_z] at h2
  have e : pM ds ((sC S sr i).1, (sC S sr i).2.1, (sC S sr i).2.2.1, (sC S sr i).2.2.2) (sM (cX ds sr i S)) (cX ds sr i S) = cX ds sr (i + 1) S := cX_s
  rw [e] at h2
  have hv : zI w 85 (64 * sr + i) = nI (sC S sr i).1 := hc.1
  have hp : zL w 86 (64 * sr + i) = (sC S sr i).2.1 := hc.2.1
  have hq : zL w 87 (64 * sr + i) = (sC S sr i).2.2.1 := hc.2.2.1
  rw [hv, hp, hq]
  refine uD_g h2 (fun a b _ => ?_) (fun a b _ => ?_) rfl
  · rw [zI_zsI, hW_I, wW_I]
    by_cases c1 : a = 83 ∧ b = ds
    · rw [if_pos c1, if_pos c1]
    · rw [if_neg c1, if_neg c1]
      by_cases c2 : a = 74 ∧ b = 23
      · rw [if_pos c2, if_neg (by omega), if_neg (by omega), c2.1, c2.2]; exact hM
      · rw [if_neg c2]
        by_cases c3 : a = 85 ∧ b = 64 * ds + i
        · rw [if_pos c3, if_neg (by omega), if_pos c3]
        · rw [if_neg c3]
          by_cases c4 : a = 84 ∧ b = 64 * ds + i
          · rw [if_pos c4, if_pos c4]
          · rw [if_neg c4, if_neg c4, if_neg c3, zI_zsI, if_neg c1]
  · rw [hW_L, zL_zsI, wW_L, zL_zsI]
theorem cp_L (hb : zB S) {t j e : Nat} (ht : t < 5) (hj : j < 5) (he : e < 2) (hne : t ≠ j) {g : Int32 → zW → Option (Unit × zW)} {P : Unit → zW → Prop} (hg : ∀ w, uD w0 J (cS (2 * j + e) (2 * t + e) S) T H w → Ok (g (nI (e + 1)) w) P) : ∀ m N i w, i + m = sZ S (2 * t + e) → m < N → uD w0 J (cX (2 * j + e) (2 * t + e) i S) T H (zsI w 83 (2 * j + e) (nI i)) → zI w 83 (2 * j + e) = nI (sZ S (2 * t + e)) → Ok (fX8_copiesTo_L30 (nI t) (nI j) (nI e) g N (nI i) w) P := by
  have ix1 := idx2 ht he
  have ix2 := idx2 hj he
  have hz := hb (2 * t + e) (by omega)
  intro m
  induction m with
  | zero =>
    intro N i w hm hN h hs
    obtain ⟨N, rfl⟩ : ∃ k, N = k + 1 := ⟨N - 1, by omega⟩
    have hsr := uD_z h (k := 2 * t + e) (by omega)
    rw [zI_zsI, if_neg (by omega), cX_zo (by omega)] at hsr
    rw [fX8_copiesTo_L30.eq_2, ix1.1, ix1.2.1, zg_t, ix1.2.2, hsr, if_pos (by rw [show i = sZ S (2 * t + e) by omega]; exact Int32.le_refl _), nI_1]
    refine hg w ?_
    unfold cS
    rw [show sZ S (2 * t + e) = i by omega] at hs ⊢
    refine uD_g h (fun a b _ => ?_) (fun a b _ => rfl) rfl
    rw [zI_zsI]
    by_cases c : a = 83 ∧ b = 2 * j + e
    · rw [if_pos c, c.1, c.2, hs]
    · rw [if_neg c]
  | succ m ih =>
    intro N i w hm hN h hs
    obtain ⟨N, rfl⟩ : ∃ k, N = k + 1 := ⟨N - 1, by omega⟩
    have hsr := uD_z h (k := 2 * t + e) (by omega)
    rw [zI_zsI, if_neg (by omega), cX_zo (by omega)] at hsr
    have p1 : fX8_place (nI (2 * t + e)) (nI i) w = some (nI (64 * (2 * t + e) + i), w) := by rw [fX8_place, show (64 : Int32) = nI 64 from rfl, pk_mul, nI_add]
    have p2 : fX8_place (nI (2 * j + e)) (nI i) w = some (nI (64 * (2 * j + e) + i), w) := by rw [fX8_place, show (64 : Int32) = nI 64 from rfl, pk_mul, nI_add]
    rw [fX8_copiesTo_L30.eq_2, ix1.1, ix1.2.1, zg_t, ix1.2.2, hsr, if_neg (Int32.not_le.mpr (nI_lt (by omega) (by omega))), p1, bd_s, ix2.1, p2, bd_s, zin_t (show 64 * (2 * t + e) + i < 640 by omega) (by decide), zin_t (show 64 * (2 * j + e) + i < 640 by omega) (by decide), zg_t, zg_t, lt_e, zg_t, zg_t, lt_e, zg_t, zg_t, lt_e, zg_t, zg_t, lt_e, nI_clamp (show 64 * (2 * t + e) + i < 2 ^ 31 by omega), nI_clamp (show 64 * (2 * j + e) + i < 2 ^ 31 by omega), nI_1]
    have h2 := cp_step (show 2 * j + e < 10 by omega) (show 2 * t + e < 10 by omega) (by omega) (by omega) hb h
    refine ih N (i + 1) _ (by omega) (by omega) ?_ ?_
    · have e1 : ∀ v, zI (zsI w 84 (64 * (2 * j + e) + i) v) 85 (64 * (2 * t + e) + i) = zI w 85 (64 * (2 * t + e) + i) := fun v => by rw [zI_zsI, if_neg (by omega)]
      have e2 : ∀ v u, zL (zsI (zsI w 84 (64 * (2 * j + e) + i) v) 85 (64 * (2 * j + e) + i) u) 86 (64 * (2 * t + e) + i) = zL w 86 (64 * (2 * t + e) + i) := fun v u => rfl
      have e3 : ∀ v u p, zL (zsL (zsI (zsI w 84 (64 * (2 * j + e) + i) v) 85 (64 * (2 * j + e) + i) u) 86 (64 * (2 * j + e) + i) p) 87 (64 * (2 * t + e) + i) = zL w 87 (64 * (2 * t + e) + i) := fun v u p => by rw [zL_zsL, if_neg (by omega)]; rfl
      rw [e1, e2, e3]
      exact h2
    · exact hs
theorem copiesTo_n (h : uD w0 J S T H w) (hb : zB S) {t j : Nat} (ht : t < 5) (hj : j < 5) (hne : t ≠ j) : ∀ N, 3 ≤ N → Ok (fX8_copiesTo_L2 (nI t) (nI j) N (nI 0) w) (fun _ w' => uD w0 J (bL j t S) T H w') := by
  intro N hN
  obtain ⟨N, rfl⟩ : ∃ k, N = k + 1 + 1 + 1 := ⟨N - 3, by omega⟩
  have one : ∀ (S : aS) (w : zW) (e N : Nat) (P : Unit → zW → Prop), e < 2 → zB S → uD w0 J S T H w → (∀ w, uD w0 J (cS (2 * j + e) (2 * t + e) S) T H w → Ok (fX8_copiesTo_L2 (nI t) (nI j) N (nI (e + 1)) w) P) → Ok (fX8_copiesTo_L2 (nI t) (nI j) (N + 1) (nI e) w) P := by
    intro S w e N P he hb h k
    have ix1 := idx2 ht he
    have ix2 := idx2 hj he
    have hsr := uD_z h (k := 2 * t + e) (by omega)
    rw [fX8_copiesTo_L2.eq_2, if_neg (show ¬ (2 : Int32) ≤ nI e from Int32.not_le.mpr (nI_lt (b := 2) he (by decide))), ix1.1, ix2.1, ix1.2.1, zg_t, ix2.2.1, zg_t, lt_e, ix1.2.2, ix2.2.2, hsr]
    refine cp_L hb ht hj he hne k (sZ S (2 * t + e)) zFU 0 _ (by omega) (by have := hb (2 * t + e) (by omega); rw [show zFU = 18446744073709551616 from rfl]; omega) ?_ (by rw [zI_zsI, if_pos ⟨rfl, rfl⟩])
    rw [cX_0]
    refine uD_g (uD_Z h (k := 2 * j + e) (n := 0) (by omega) (Nat.zero_le _)) (fun a b _ => ?_) (fun a b _ => rfl) rfl
    rw [zI_zsI, zI_zsI]
    by_cases c : a = 83 ∧ b = 2 * j + e
    · rw [if_pos c, zI_zsI, if_pos c]
    · rw [if_neg c, if_neg c, zI_zsI, if_neg c]
  refine one S w 0 _ _ (by decide) hb h (fun w1 a1 => ?_)
  refine one _ w1 1 _ _ (by decide) ?_ a1 (fun w2 a2 => ?_)
  · intro a ha
    by_cases q : a = 2 * j + 0
    · subst q; rw [show sZ (cS (2 * j + 0) (2 * t + 0) S) (2 * j + 0) = _ from cX_z]; exact hb _ (by omega)
    · rw [show sZ (cS (2 * j + 0) (2 * t + 0) S) a = _ from cX_zo q]; exact hb a ha
  · rw [fX8_copiesTo_L2.eq_2, if_pos (show (2 : Int32) ≤ nI (1 + 1) by decide)]
    exact ok_r a2
theorem copiesTo_s (h : uD w0 J S T H w) (hb : zB S) {t j : Nat} (ht : t < 5) (hj : j < 5) (hne : t ≠ j) : Ok (fX8_copiesTo (nI t) (nI j) w) (fun _ w' => uD w0 J (bL j t S) T H w') := by
  rw [fX8_copiesTo]
  exact copiesTo_n h hb ht hj hne zFU (by rw [show zFU = 18446744073709551616 from rfl]; omega)
end CP
