set_option maxRecDepth 16384
/-- none of the SUMMARIES ahead of k is k's; how many of the first k are so -/
def fU (S : Nat → aP) (k : Nat) : Prop := ∀ i, 1 ≤ i → i < k → S i ≠ S k
noncomputable def uN (S : Nat → aP) : Nat → Nat
  | 0 => 0
  | k + 1 => uN S k + (@ite Nat (fU S (k + 1)) (Classical.propDecidable _) 1 0)
theorem uN_y {S : Nat → aP} {k : Nat} (h : fU S (k + 1)) : uN S (k + 1) = uN S k + 1 := by rw [uN, if_pos h]
theorem uN_n {S : Nat → aP} {k : Nat} (h : ¬ fU S (k + 1)) : uN S (k + 1) = uN S k := by rw [uN, if_neg h, Nat.add_zero]
theorem uN_l {S : Nat → aP} : ∀ k, uN S k ≤ k := by
  intro k
  induction k with
  | zero => exact Nat.le_refl 0
  | succ k ih =>
    by_cases c : fU S (k + 1)
    · rw [uN_y c]; omega
    · rw [uN_n c]; omega
theorem sij_t {w : zW} {i : Nat} (hi : i < 129) (p q : Int64) : ∃ b, fX7_sumIsJust (nI i) p q w = some (b, w) := by
  rw [fX7_sumIsJust, at7 w zlen_72 hi (by decide), bd_s]
  by_cases c : zL w 72 i = p
  · rw [if_neg (not_not_intro c), at7 w zlen_73 hi (by decide), bd_s]
    by_cases d : zL w 73 i = q
    · rw [if_neg (not_not_intro d)]; exact ⟨_, rfl⟩
    · rw [if_pos d]; exact ⟨_, rfl⟩
  · rw [if_pos c]; exact ⟨_, rfl⟩
theorem sumsLike_t {w : zW} {k n : Nat} (hk : k < 129) (hn : n < 129) : ∀ m i N (a : Int32), i + m = n + 1 → m < N → ∃ v, fX7_sumsLike_L5 (nI k) (nI n) N a (nI i) w = some (v, w) := by
  intro m
  induction m with
  | zero =>
    intro i N a hi hN
    obtain ⟨N, rfl⟩ : ∃ k, N = k + 1 := ⟨N - 1, by omega⟩
    rw [fX7_sumsLike_L5.eq_2, if_pos (nI_lt (by omega) (by omega))]; exact ⟨_, rfl⟩
  | succ m ih =>
    intro i N a hi hN
    obtain ⟨N, rfl⟩ : ∃ k, N = k + 1 := ⟨N - 1, by omega⟩
    rw [fX7_sumsLike_L5.eq_2, if_neg (fun q => by have := (nI_ltI (by omega) (by omega)).mp q; omega), at7 w zlen_72 hk (by decide), bd_s, at7 w zlen_73 hk (by decide), bd_s]
    obtain ⟨b, eb⟩ := sij_t (w := w) (show i < 129 by omega) (zL w 72 k) (zL w 73 k)
    rw [eb, bd_s, lt_e]
    cases b with
    | true => rw [tt, nI_1]; exact ih (i + 1) N _ (by omega) (by omega)
    | false => rw [ff, nI_1]; exact ih (i + 1) N _ (by omega) (by omega)
theorem setS_k {w W : zW} (hN : Nr w W) {p q : Int64} {k i : Nat} (hk : k ≠ 74) : zL (setS W p q) k i = zL w k i := by
  unfold setS
  rw [zL_zsL, if_neg (by omega), zL_zsL, if_neg (by omega)]
  unfold zL; rw [hN.1]
section SU2
variable {w0 : zX} {w : zW} {J : aJ} {S : aS} {T : aT} {H : Nat → Int32} {j : Nat}
theorem sums_L2 {wb : zW} (hW : jW J) (hj : j < 5) (hz : aN S j ≤ 64) (hI : ∀ i, i < aN S j → aI S j i < 10000) {a n : Nat} (hb : a + n ≤ aN S j) : ∀ m N i w, i + m = n → m < N → uD w0 J S T H w → (∀ k i, k ≠ 74 → zL w k i = zL wb k i) → Ok (fX8_sums_L19 (nI j) (nI a) (nI n) N (sF J S j a i).1 (sF J S j a i).2 (nI i) w) (fun _ w' => uD w0 J S T H w' ∧ (∀ k i, k ≠ 74 → zL w' k i = zL wb k i) ∧ zL w' 74 11 = (sF J S j a n).1 ∧ zL w' 74 12 = (sF J S j a n).2) := by
  intro m
  induction m with
  | zero =>
    intro N i w hm hN h hc
    obtain ⟨N, rfl⟩ : ∃ k, N = k + 1 := ⟨N - 1, by omega⟩
    rw [fX8_sums_L19.eq_2, show i = n by omega, if_pos (Int32.le_refl _), is_s, bd_s]
    exact ok_r ⟨uD_S h, fun k i hk => (setS_k (nr_0 w) hk).trans (hc k i hk), rfl, rfl⟩
  | succ m ih =>
    intro N i w hm hN h hc
    obtain ⟨N, rfl⟩ : ∃ k, N = k + 1 := ⟨N - 1, by omega⟩
    have hv := hI (a + i) (by omega)
    have hV := sF_V hW (J := J) (S := S) (j := j) (a := a) (m := i) (fun x hx => hI _ (by omega))
    obtain ⟨W, hN1, hE⟩ := el_s hW h.1 hv
    have h2 : uD w0 J S T H (setS W (epF (jK J) (jN J) (aI S j (a + i))) (eqF (jK J) (aI S j (a + i)))) := uD_S (uD_N h hN1)
    have hc2 : ∀ k x, k ≠ 74 → zL (setS W (epF (jK J) (jN J) (aI S j (a + i))) (eqF (jK J) (aI S j (a + i)))) k x = zL wb k x := fun k x hk => (setS_k hN1 hk).trans (hc k x hk)
    rw [fX8_sums_L19.eq_2, if_neg (Int32.not_le.mpr (nI_lt (by omega) (by omega))), nI_add, itemAt8_s h hj hz (by omega), bd_s, hE, bd_s, lt_e]
    by_cases c0 : i = 0
    · subst c0
      rw [if_pos (show nI 0 ≤ 0 by decide)]
      dsimp only
      rw [lt_e, lt_e, setS_p, setS_q]
      have e : sF J S j a 1 = ae J (aI S j (a + 0)) := sF_1 hW hv
      have := ih N 1 _ (by omega) (by omega) h2 hc2
      rw [e] at this
      exact this
    · obtain ⟨W2, hN2, hE2⟩ := (jn_s hW h2.1 hV (val_e hW hv)).1
      rw [if_neg (nI_nle (by omega) (by omega)), setS_p, setS_q, hE2, bd_s]
      dsimp only
      rw [lt_e, lt_e, setS_p, setS_q, nI_1]
      exact ih N (i + 1) _ (by omega) (by omega) (uD_S (uD_N h2 hN2)) (fun k x hk => (setS_k hN2 hk).trans (hc2 k x hk))
theorem sums_s2 (hW : jW J) (h : uD w0 J S T H w) (hj : j < 5) (hz : aN S j ≤ 64) (hI : ∀ i, i < aN S j → aI S j i < 10000) {a n : Nat} (hb : a + n ≤ aN S j) : Ok (fX8_sums (nI j) (nI a) (nI n) w) (fun _ w' => uD w0 J S T H w' ∧ (∀ k i, k ≠ 74 → zL w' k i = zL w k i) ∧ zL w' 74 11 = (sF J S j a n).1 ∧ zL w' 74 12 = (sF J S j a n).2) := by
  rw [fX8_sums, em_s hW h.1, bd_s, lt_e, lt_e, setS_p, setS_q]
  exact sums_L2 hW hj hz hI hb n zFU 0 _ (by omega) (by rw [show zFU = 18446744073709551616 from rfl]; omega) (uD_S h) (fun k i hk => setS_k (nr_0 w) hk)
end SU2
section BU
variable {J : aJ} {S : aS} {T : aT} {w w1 w2 : zW} {H H' : Nat → Int32} {w0 : zX}
/-- the SUMMARIES of the first ITEMS -/
def sQ (J : aJ) (S : aS) (j : Nat) : Nat → aP := fun i => sF J S j 0 i
theorem firsts_L (hW : jW J) (hS : sW J S) {j : Nat} (hj : j < 4) : ∀ m i N w, i + m = aN S j + 1 → 1 ≤ i → m < N → uC w0 J S T H w → zL w 1 2 = (sQ J S j (i - 1)).1 → zL w 1 3 = (sQ J S j (i - 1)).2 → (∀ x, 1 ≤ x → x < i → zL w 72 x = (sQ J S j x).1 ∧ zL w 73 x = (sQ J S j x).2) → Ok (fX7_sumFirsts_L9 (LN j) N (nI i) w) (fun _ w' => uC w0 J S T H w' ∧ ∀ x, 1 ≤ x → x ≤ aN S j → zL w' 72 x = (sQ J S j x).1 ∧ zL w' 73 x = (sQ J S j x).2) := by
  have hz := hS.1 j hj
  intro m
  induction m with
  | zero =>
    intro i N w hi hi1 hN h hp hq hr
    obtain ⟨N, rfl⟩ : ∃ k, N = k + 1 := ⟨N - 1, by omega⟩
    rw [fX7_sumFirsts_L9.eq_2, size_s h (by omega), bd_s, if_pos (nI_lt (by omega) (by omega))]
    exact ok_r ⟨h, fun x x1 x2 => hr x x1 (by omega)⟩
  | succ m ih =>
    intro i N w hi hi1 hN h hp hq hr
    obtain ⟨N, rfl⟩ : ∃ k, N = k + 1 := ⟨N - 1, by omega⟩
    obtain ⟨i, rfl⟩ : ∃ k, i = k + 1 := ⟨i - 1, by omega⟩
    rw [Nat.add_sub_cancel] at hp hq
    have hv := sI hS hj (show i < aN S j by omega)
    have hV := sF_V hW (J := J) (S := S) (j := j) (a := 0) (m := i) (fun x hx => sI hS hj (by omega))
    have hs : sQ J S j (i + 1) = aj J (sQ J S j i) (ae J (aI S j i)) := by
      show aj J (sF J S j 0 i) (ae J (aI S j (0 + i))) = _
      rw [Nat.zero_add]; rfl
    rw [fX7_sumFirsts_L9.eq_2, size_s h (by omega), bd_s, if_neg (fun z => by have := (nI_ltI (by omega) (by omega)).mp z; omega), nI_pred, itemAt_s h (by omega) hz (by omega), bd_s]
    refine ok_b ⟨(), _, c_follow hW h.1 hv (by rw [hp, hq]; exact hV), rfl⟩ (fun _ w2 (e2 : w2 = _) => ?_)
    have e3 : w2 = setC w (sQ J S j (i + 1)).1 (sQ J S j (i + 1)).2 := by rw [e2, hp, hq, hs]; rfl
    have p2 : zL w2 1 2 = (sQ J S j (i + 1)).1 := by rw [e3]; rfl
    have q2 : zL w2 1 3 = (sQ J S j (i + 1)).2 := by rw [e3]; rfl
    have r2 : ∀ x, zL w2 72 x = zL w 72 x ∧ zL w2 73 x = zL w 73 x := fun x => by rw [e3]; exact ⟨rfl, rfl⟩
    have h2 : uC w0 J S T H w2 := by rw [e3]; exact uC_C h
    clear e2 e3
    refine ok_b (keep_s h2 (show i + 1 < 129 by omega) p2 q2) (fun _ w3 a3 => ?_)
    rw [nI_1]
    refine ih (i + 1 + 1) N w3 (by omega) (by omega) (by omega) a3.1 a3.2.1 a3.2.2.1 (fun x x1 x2 => ?_)
    by_cases c : x = i + 1
    · rw [c]; exact ⟨a3.2.2.2.1, a3.2.2.2.2.1⟩
    · rw [(a3.2.2.2.2.2 x c).1, (a3.2.2.2.2.2 x c).2, (r2 x).1, (r2 x).2]; exact hr x x1 (by omega)
theorem firsts_s (hW : jW J) (hS : sW J S) {j : Nat} (hj : j < 4) (h : uC w0 J S T H w) : Ok (fX7_sumFirsts (LN j) w) (fun _ w' => uC w0 J S T H w' ∧ ∀ x, 1 ≤ x → x ≤ aN S j → zL w' 72 x = (sQ J S j x).1 ∧ zL w' 73 x = (sQ J S j x).2) := by
  have hz := hS.1 j hj
  rw [fX7_sumFirsts, c_empty hW h.1, bd_s]
  exact firsts_L hW hS hj (aN S j) 1 zFU _ (by omega) (Nat.le_refl 1) (fuelN (by omega)) (uC_C h) rfl rfl (fun x x1 x2 => by omega)
theorem unlike_c (hW : jW J) (hS : sW J S) {j : Nat} (hj : j < 4) (hr : ∀ x, 1 ≤ x → x ≤ aN S j → zL w 72 x = (sQ J S j x).1 ∧ zL w 73 x = (sQ J S j x).2) (h : uC w0 J S T H w) : ∀ m i N b (x4 : Int32), i + m = aN S j + 1 → 1 ≤ i → m < N → b ≤ 64 → Ok (fX7_unlike_L28 (LN j) N (nI (uN (sQ J S j) (i - 1))) x4 (nI b) (nI i) w) (fun a w' => a = nI (uN (sQ J S j) (aN S j)) ∧ uC w0 J S T H w') := by
  have hz := hS.1 j hj
  intro m
  induction m with
  | zero =>
    intro i N b x4 hi hi1 hN hb
    obtain ⟨N, rfl⟩ : ∃ k, N = k + 1 := ⟨N - 1, by omega⟩
    have h1 : uC w0 J S T H (zsI w 0 8 0) := uC_I h (by unfold fC; omega)
    rw [fX7_unlike_L28.eq_2, size_s h (by omega), bd_s, if_pos (nI_lt (by omega) (by omega)), lt_e, show i - 1 = aN S j by omega]
    refine ok_i (fun _ => ok_r ⟨rfl, h1⟩) (fun _ => ?_)
    rw [at7 _ zlen_72 (show b < 129 by omega) (by decide), bd_s, at7 _ zlen_73 (show b < 129 by omega) (by decide), bd_s]
    exact ok_b (tell3_s h1 _ _ _) (fun _ w3 a3 => ok_r ⟨rfl, a3⟩)
  | succ m ih =>
    intro i N b x4 hi hi1 hN hb
    obtain ⟨N, rfl⟩ : ∃ k, N = k + 1 := ⟨N - 1, by omega⟩
    obtain ⟨x, j1, j2, j3, j4, j5⟩ := fsl7 (sQ J S j) (show i ≤ 128 by omega) (fun y y1 y2 => hr y y1 (by omega)) zFU 1 (Nat.le_refl 1) (by omega) (by have : zFU = 18446744073709551616 := rfl; omega)
    have e5 : fX7_firstSumLike (nI i) w = some (nI x, w) := by rw [fX7_firstSumLike]; exact j5
    rw [fX7_unlike_L28.eq_2, size_s h (by omega), bd_s, if_neg (fun z => by have := (nI_ltI (by omega) (by omega)).mp z; omega), e5, bd_s, lt_e]
    obtain ⟨i, rfl⟩ : ∃ k, i = k + 1 := ⟨i - 1, by omega⟩
    rw [Nat.add_sub_cancel]
    by_cases c : x = i + 1
    · rw [if_neg (not_not_intro (by rw [c])), size_s h (by omega), bd_s]
      obtain ⟨v, ev⟩ := sumsLike_t (w := w) (k := i + 1) (n := aN S j) (by omega) (by omega) (aN S j - i) (i + 1) zFU 0 (by omega) (fuelN (by omega))
      have ev2 : fX7_sumsLike (nI (i + 1)) (nI (aN S j)) w = some (v, w) := by rw [fX7_sumsLike]; exact ev
      rw [ev2, bd_s, lt_e, lt_e, nI_1, nI_1]
      have hf : fU (sQ J S j) (i + 1) := fun y y1 y2 => j4 y y1 (by omega)
      rw [← uN_y hf]
      by_cases d : v ≤ x4
      · rw [if_pos d]; exact ih (i + 1 + 1) N b _ (by omega) (by omega) (by omega) hb
      · rw [if_neg d]; exact ih (i + 1 + 1) N (i + 1) _ (by omega) (by omega) (by omega) (by omega)
    · have hf : ¬ fU (sQ J S j) (i + 1) := fun z => z x j1 (by omega) j3
      rw [if_pos (show ¬ nI x = nI (i + 1) from fun q => c ((nI_eq (by omega) (by omega)).mp q)), nI_1, ← uN_n hf]
      exact ih (i + 1 + 1) N b _ (by omega) (by omega) (by omega) hb
theorem unlike_r86 {Q : Nat → aP} {n k b : Nat} {x3 x5 : Int32} (hn : n ≤ 64) (hk1 : 1 ≤ k) (hk : k ≤ n) (hr : ∀ x, 1 ≤ x → x ≤ n → zL w 81 x = (Q x).1 ∧ zL w 82 x = (Q x).2) {g : Int32 → Int32 → Int32 → Int32 → zW → Option (Int32 × zW)} {P : Int32 → zW → Prop} (h1 : fU Q k → ∀ v b', b' = b ∨ b' = k → Ok (g (x3 + 1) (nI b') v (nI (k + 1)) w) P) (h0 : ¬ fU Q k → ∀ v b', b' = b ∨ b' = k → Ok (g (x3 + 0) (nI b') v (nI (k + 1)) w) P) : ∀ m i N (x7 x8 : Int32), i + m = n + 1 → 1 ≤ i → m < N → ((x8 = 1 ∧ ∀ x, 1 ≤ x → x < i → x < k → Q x ≠ Q k) ∨ (x8 = 0 ∧ ∃ x, 1 ≤ x ∧ x < k ∧ Q x = Q k)) → Ok (fX8_unlike_L86 (nI n) x3 (nI b) x5 (nI k) g N x7 x8 (nI i) w) P := by
  intro m
  induction m with
  | zero =>
    intro i N x7 x8 hi hi1 hN hx
    obtain ⟨N, rfl⟩ : ∃ k, N = k + 1 := ⟨N - 1, by omega⟩
    rw [fX8_unlike_L86.eq_2, if_pos (nI_lt (by omega) (by omega))]
    rcases hx with ⟨rfl, hx⟩ | ⟨rfl, x, x1, x2, x3⟩
    · have hf : fU Q k := fun x x1 x2 => hx x x1 (by omega) x2
      rw [show fX8_flag 1 w = some (1, w) from rfl, bd_s, lt_e, lt_e, lt_e, nI_1]
      by_cases z : x7 ≤ x5
      · rw [if_pos z]; exact h1 hf _ b (.inl rfl)
      · rw [if_neg z]; exact h1 hf _ k (.inr rfl)
    · have hf : ¬ fU Q k := fun z => z x x1 x2 x3
      rw [show fX8_flag 0 w = some (0, w) from rfl, bd_s, lt_e, lt_e, lt_e, nI_1]
      by_cases z : x7 ≤ x5
      · rw [if_pos z]; exact h0 hf _ b (.inl rfl)
      · rw [if_neg z]; exact h0 hf _ k (.inr rfl)
  | succ m ih =>
    intro i N x7 x8 hi hi1 hN hx
    obtain ⟨N, rfl⟩ : ∃ k, N = k + 1 := ⟨N - 1, by omega⟩
    rw [fX8_unlike_L86.eq_2, if_neg (fun q => by have := (nI_ltI (by omega) (by omega)).mp q; omega), zin_t (show i < 129 by omega) (by decide), zg_t, zin_t (show k < 129 by omega) (by decide), zg_t, zg_t, zg_t, nI_clamp (show i < 2 ^ 31 by omega), nI_clamp (show k < 2 ^ 31 by omega), (hr i hi1 (by omega)).1, (hr k hk1 hk).1, (hr i hi1 (by omega)).2, (hr k hk1 hk).2]
    have skip : Q i ≠ Q k → Ok (bd (fX8_flag (0 : Int32) w) fun v33 w31 => lt (x7 + v33) fun v34 => lt (if x8 = (0 : Int32) then (0 : Int32) else if (0 : Int32) = (0 : Int32) then (1 : Int32) else if nI i < nI k then (0 : Int32) else (1 : Int32)) fun v38 => fX8_unlike_L86 (nI n) x3 (nI b) x5 (nI k) g N v34 v38 (nI i + (1 : Int32)) w31) P := by
      intro hne
      rw [show fX8_flag 0 w = some (0, w) from rfl, bd_s, lt_e, lt_e, nI_1]
      refine ih (i + 1) N _ _ (by omega) (by omega) (by omega) ?_
      rcases hx with ⟨rfl, hx⟩ | ⟨rfl, hx⟩
      · refine .inl ⟨rfl, fun x x1 x2 x3 => ?_⟩
        by_cases c : x = i
        · rw [c]; exact hne
        · exact hx x x1 (by omega) x3
      · exact .inr ⟨rfl, hx⟩
    refine ok_i (fun c => skip (fun q => c (congrArg Prod.fst q))) (fun c => ok_i (fun d => skip (fun q => d (congrArg Prod.snd q))) (fun d => ?_))
    have he : Q i = Q k := Prod.ext (Decidable.not_not.mp c) (Decidable.not_not.mp d)
    rw [show fX8_flag 1 w = some (1, w) from rfl, bd_s, lt_e, lt_e, nI_1]
    refine ih (i + 1) N _ _ (by omega) (by omega) (by omega) ?_
    rcases hx with ⟨rfl, hx⟩ | ⟨rfl, hx⟩
    · rw [if_neg (show ¬ (1 : Int32) = 0 by decide), if_neg (show ¬ (1 : Int32) = 0 by decide)]
      by_cases c2 : i < k
      · rw [if_pos (nI_lt c2 (by omega))]; exact .inr ⟨rfl, i, hi1, c2, he⟩
      · rw [if_neg (fun q => by have := (nI_ltI (by omega) (by omega)).mp q; omega)]
        exact .inl ⟨rfl, fun x x1 x2 x3 => hx x x1 (by omega) x3⟩
    · rw [if_pos rfl]; exact .inr ⟨rfl, hx⟩
theorem unlike_r71 {Q : Nat → aP} {n : Nat} (hn : n ≤ 64) (h : uD w0 J S T H w) (hr : ∀ x, 1 ≤ x → x ≤ n → zL w 81 x = (Q x).1 ∧ zL w 82 x = (Q x).2) : ∀ m k N (x5 : Int32) (b : Nat), k + m = n + 1 → 1 ≤ k → b ≤ 64 → m < N → Ok (fX8_unlike_L71 (nI n) N (nI (uN Q (k - 1))) (nI b) x5 (nI k) w) (fun a w' => a = nI (uN Q n) ∧ uD w0 J S T H w') := by
  intro m
  induction m with
  | zero =>
    intro k N x5 b hk hk1 hb hN
    obtain ⟨N, rfl⟩ : ∃ k, N = k + 1 := ⟨N - 1, by omega⟩
    rw [fX8_unlike_L71.eq_2, if_pos (nI_lt (by omega) (by omega)), lt_e, show k - 1 = n by omega]
    refine ok_i (fun _ => ok_r ⟨rfl, uD_1 h⟩) (fun _ => ?_)
    rw [zin_t (show b < 129 by omega) (by decide), zg_t]
    refine ok_b (enters_s (n := 0) (uD_1 (v := 0) h) rfl (by decide) _) (fun _ w1 a1 => ?_)
    rw [zg_t]
    refine ok_b (enters_s a1.1 a1.2 (by decide) _) (fun _ w2 a2 => ?_)
    refine ok_b (enters_s a2.1 a2.2 (by decide) _) (fun _ w3 a3 => ok_r ⟨rfl, a3.1⟩)
  | succ m ih =>
    intro k N x5 b hk hk1 hb hN
    obtain ⟨N, rfl⟩ : ∃ k, N = k + 1 := ⟨N - 1, by omega⟩
    obtain ⟨k, rfl⟩ : ∃ i, k = i + 1 := ⟨k - 1, by omega⟩
    rw [fX8_unlike_L71.eq_2, if_neg (fun q => by have := (nI_ltI (by omega) (by omega)).mp q; omega), Nat.add_sub_cancel]
    refine unlike_r86 hn (by omega) (by omega) hr (fun hf v b' hb' => ?_) (fun hf v b' hb' => ?_) n 1 zFU _ _ (by omega) (Nat.le_refl 1) (fuelN (by omega)) (.inl ⟨rfl, fun x x1 x2 _ => by omega⟩)
    · rw [nI_1, ← uN_y hf]; exact ih (k + 1 + 1) N v b' (by omega) (by omega) (by omega) (by omega)
    · rw [Int32.add_zero, ← uN_n hf]; exact ih (k + 1 + 1) N v b' (by omega) (by omega) (by omega) (by omega)
theorem unlike_r22 (hW : jW J) (hS : sW J S) {j : Nat} (hj : j < 4) : ∀ m k N w, k + m = aN S j + 1 → 1 ≤ k → m < N → uD w0 J S T H w → (∀ x, 1 ≤ x → x < k → zL w 81 x = (sQ J S j x).1 ∧ zL w 82 x = (sQ J S j x).2) → Ok (fX8_unlike_L22 (nI j) (nI (aN S j)) N (nI k) w) (fun a w' => a = nI (uN (sQ J S j) (aN S j)) ∧ uD w0 J S T H w') := by
  have hz := hS.1 j hj
  intro m
  induction m with
  | zero =>
    intro k N w hk hk1 hN h hr
    obtain ⟨N, rfl⟩ : ∃ k, N = k + 1 := ⟨N - 1, by omega⟩
    rw [fX8_unlike_L22.eq_2, if_pos (nI_lt (by omega) (by omega))]
    exact unlike_r71 hz h (fun x x1 x2 => hr x x1 (by omega)) (aN S j) 1 zFU 0 0 (by omega) (Nat.le_refl 1) (by omega) (fuelN (by omega))
  | succ m ih =>
    intro k N w hk hk1 hN h hr
    obtain ⟨N, rfl⟩ : ∃ k, N = k + 1 := ⟨N - 1, by omega⟩
    rw [fX8_unlike_L22.eq_2, if_neg (fun q => by have := (nI_ltI (by omega) (by omega)).mp q; omega)]
    refine ok_b (sums_s2 hW h (a := 0) (n := k) (j := j) (by omega) hz (fun x hx => sI hS hj hx) (by omega)) (fun _ w2 a2 => ?_)
    rw [zin_t (show k < 129 by omega) (by decide), zg_t, lt_e, zg_t, lt_e, nI_1, nI_clamp (by omega)]
    have e12 : zL (zsL w2 81 k (zL w2 74 11)) 74 12 = zL w2 74 12 := rfl
    refine ih (k + 1) N _ (by omega) (by omega) (by omega) (uD_L (uD_L a2.1 (by unfold gD; omega)) (by unfold gD; omega)) (fun x x1 x2 => ?_)
    rw [e12]
    by_cases c : x = k
    · rw [c]
      constructor
      · rw [zL_zsL, if_neg (by omega), zL_zsL, if_pos ⟨rfl, rfl⟩]; exact a2.2.2.1
      · rw [zL_zsL, if_pos ⟨rfl, rfl⟩]; exact a2.2.2.2
    · have := hr x x1 (by omega)
      constructor
      · rw [zL_zsL, if_neg (by omega), zL_zsL, if_neg (by omega), a2.2.1 _ _ (by omega)]; exact this.1
      · rw [zL_zsL, if_neg (by omega), zL_zsL, if_neg (by omega), a2.2.1 _ _ (by omega)]; exact this.2
theorem unlike_b (h : rW J S T w) (a : Int32) : Bq (fX7_unlike a) (fX8_unlike a) Eq w := by
  obtain ⟨hW, hS, hT, -, -⟩ := id h
  rcases ln a with hl | ⟨j, hj, rfl⟩
  · exact bq_x h (-1) (fun H hC => by rw [fX7_unlike, lineAt_n w hl, bd_s, oc_n]) (fun w1 H hD => by rw [fX8_unlike, lt_e, isLine_n _ hl, bd_s, ff])
  have hz := hS.1 j hj
  refine bx (nI (uN (sQ J S j) (aN S j))) h (fun H hC => ?_) (fun w1 H hD => ?_)
  · rw [fX7_unlike, lineAt_s w hj, bd_s, oc_s]
    refine ok_b (firsts_s hW hS hj hC) (fun _ w2 a2 => ?_)
    exact unlike_c hW hS hj a2.2 a2.1 (aN S j) 1 zFU 0 0 (by omega) (Nat.le_refl 1) (fuelN (by omega)) (by omega)
  · rw [fX8_unlike, lt_e, isLine_s _ hj, bd_s, tt, sizeOf_s (uD_0 hD) (by omega), bd_s]
    exact unlike_r22 hW hS hj (aN S j) 1 zFU _ (by omega) (Nat.le_refl 1) (fuelN (by omega)) (uD_0 hD) (fun x x1 x2 => by omega)
end BU
