set_option maxRecDepth 16384
def Al (r : Option (Int32 × zW)) (f : zW → Option (Int32 × zW)) : Prop := ∃ x w w', r = some (x, w) ∧ f w = some (x, w')
def ck (r : Option (Int32 × zW)) (f : zW → Option (Int32 × zW)) : Bool := match r with
  | none => false
  | some q => match f q.2 with
    | none => false
    | some q2 => decide (q.1 = q2.1)
theorem al_c {r : Option (Int32 × zW)} {f : zW → Option (Int32 × zW)} (h : ck r f = true) : Al r f := by
  unfold ck at h
  cases r with
  | none => cases h
  | some q =>
    obtain ⟨x, w⟩ := q
    dsimp only at h
    cases e : f w with
    | none => rw [e] at h; cases h
    | some q2 =>
      rw [e] at h
      obtain ⟨y, w'⟩ := q2
      have : x = y := of_decide_eq_true h
      subst this
      exact ⟨x, w, w', rfl, e⟩
theorem al_w {x : Int32} {r : Option (Int32 × zW)} {w w' : zW} {f : zW → Option (Int32 × zW)} (h : r = some (x, w)) (h2 : f w = some (x, w')) : Al r f := ⟨x, w, w', h, h2⟩
theorem al_e {r r2 : Option (Int32 × zW)} {f f2 : zW → Option (Int32 × zW)} (h : r = r2) (h2 : ∀ w, f w = f2 w) (a : Al r2 f2) : Al r f := by
  rw [h, funext h2]; exact a
/-- a LINE or none -/
theorem lin (a : Int32) : (a < 0 ∨ nI 4 ≤ a) ∨ a = 0 ∨ a = 1 ∨ a = 2 ∨ a = 3 := by
  rcases pk_ix a (n := 4) (by decide) with h | h | ⟨j, hj, rfl⟩
  · exact .inl (.inl h)
  · exact .inl (.inr h)
  · rcases (show j = 0 ∨ j = 1 ∨ j = 2 ∨ j = 3 by omega) with rfl | rfl | rfl | rfl
    · exact .inr (.inl rfl)
    · exact .inr (.inr (.inl rfl))
    · exact .inr (.inr (.inr (.inl rfl)))
    · exact .inr (.inr (.inr (.inr rfl)))
theorem toI64_lt {a : Int32} {n : Nat} (hn : n < 2 ^ 31) : a.toInt64 < lN n ↔ a < nI n := by
  rw [Int64.lt_iff_toInt_lt, Int32.lt_iff_toInt_lt, Int32.toInt_toInt64, nI_toInt hn, lN_toInt (by omega)]
theorem lt_toI64 {a : Int32} {n : Nat} (hn : n < 2 ^ 31) : lN n < a.toInt64 ↔ nI n < a := by
  rw [Int64.lt_iff_toInt_lt, Int32.lt_iff_toInt_lt, Int32.toInt_toInt64, nI_toInt hn, lN_toInt (by omega)]
/-- in its bounds or not, for class and reference -/
theorem inb (a : Int32) {lo hi : Nat} (h1 : lo < 2 ^ 31) (h2 : hi < 2 ^ 31) : ((a < nI lo ∨ nI hi < a) ∧ ∀ w, fX8_in a.toInt64 (lN lo) (lN hi) w = some (false, w)) ∨ (¬ a < nI lo ∧ ¬ nI hi < a ∧ ∀ w, fX8_in a.toInt64 (lN lo) (lN hi) w = some (true, w)) := by
  by_cases c1 : a < nI lo
  · exact .inl ⟨.inl c1, fun w => in_n w (.inl ((toI64_lt h1).mpr c1))⟩
  · by_cases c2 : nI hi < a
    · exact .inl ⟨.inr c2, fun w => in_n w (.inr ((lt_toI64 h2).mpr c2))⟩
    · refine .inr ⟨c1, c2, fun w => in_s w ?_ ?_⟩
      · exact Int64.not_lt.mp (fun q => c1 ((toI64_lt h1).mp q))
      · exact Int64.not_lt.mp (fun q => c2 ((lt_toI64 h2).mp q))
theorem ed (a : Int32) : a = 0 ∨ a = 1 ∨ (∀ w, fX7_isEnd a w = some (false, w)) ∧ ∀ w, fX8_isEnd a w = some (false, w) := by
  by_cases c0 : a = 0
  · exact .inl c0
  by_cases c1 : a = 1
  · exact .inr (.inl c1)
  refine .inr (.inr ⟨fun w => by unfold fX7_isEnd; rw [if_neg c0, if_pos c1], ?_⟩)
  rcases inb a (lo := 0) (hi := 1) (by decide) (by decide) with ⟨-, h⟩ | ⟨h1, h2, -⟩
  · intro w
    unfold fX8_isEnd
    have := h w
    rw [show (0 : Int64) = lN 0 from rfl, show (1 : Int64) = lN 1 from rfl, this, bd_s]
  · exfalso
    rcases pk_ix a (n := 2) (by decide) with h | h | ⟨j, hj, rfl⟩
    · exact h1 h
    · apply h2
      have e := Int32.le_iff_toInt_le.mp h
      rw [nI_toInt (by decide)] at e
      rw [Int32.lt_iff_toInt_lt, nI_toInt (by decide)]
      omega
    · rcases (show j = 0 ∨ j = 1 by omega) with rfl | rfl
      · exact c0 rfl
      · exact c1 rfl
theorem itm (a : Int32) : ((a < 0 ∨ 9999 < a) ∧ (∀ w, fX7_isItem a w = some (false, w)) ∧ ∀ w, fX8_isItem a w = some (false, w)) ∨ (¬ a < 0 ∧ ¬ 9999 < a ∧ (∀ w, fX7_isItem a w = some (true, w)) ∧ ∀ w, fX8_isItem a w = some (true, w)) := by
  rcases inb a (lo := 0) (hi := 9999) (by decide) (by decide) with ⟨c, h⟩ | ⟨h1, h2, h⟩
  · refine .inl ⟨c, fun w => ?_, fun w => ?_⟩
    · unfold fX7_isItem
      by_cases c1 : a < 0
      · rw [if_pos c1]
      · rw [if_neg c1, if_pos (show (9999 : Int32) < a from c.resolve_left c1)]
    · unfold fX8_isItem
      have := h w
      rw [show (0 : Int64) = lN 0 from rfl, show (9999 : Int64) = lN 9999 from rfl, this, bd_s]
  · refine .inr ⟨h1, h2, fun w => ?_, fun w => ?_⟩
    · unfold fX7_isItem
      rw [if_neg (show ¬ a < 0 from h1), if_neg (show ¬ 9999 < a from h2)]
    · unfold fX8_isItem
      have := h w
      rw [show (0 : Int64) = lN 0 from rfl, show (9999 : Int64) = lN 9999 from rfl, this, bd_s]
def NoRep (S : Nat → Int64 × Int64) (m : Nat) : Prop := ∀ k, k ≤ m → ∀ j, 1 ≤ j → j < k → S j ≠ S k
/-- the answer of order: the first n whose SUMMARY came before -/
def Ord (S : Nat → Int64 × Int64) (x : Int32) : Prop := (x = -2 ∧ NoRep S 128) ∨ ∃ k, k ≤ 128 ∧ x = nI k ∧ NoRep S (k - 1) ∧ ∃ j, 1 ≤ j ∧ j < k ∧ S j = S k
theorem ord_u {S : Nat → Int64 × Int64} {x y : Int32} (hx : Ord S x) (hy : Ord S y) : x = y := by
  rcases hx with ⟨rfl, nx⟩ | ⟨k, hk, rfl, nx, j, j1, j2, j3⟩ <;> rcases hy with ⟨rfl, ny⟩ | ⟨k', hk', rfl, ny, j', j1', j2', j3'⟩
  · rfl
  · exact absurd j3' (nx k' hk' j' j1' j2')
  · exact absurd j3 (ny k hk j j1 j2)
  · rcases Nat.lt_trichotomy k k' with h | h | h
    · exact absurd j3 (ny k (by omega) j j1 j2)
    · rw [h]
    · exact absurd j3' (nx k' (by omega) j' j1' j2')
theorem zlen_72 : zlen 72 = 129 := rfl
theorem zlen_73 : zlen 73 = 129 := rfl
theorem at7 (w : zW) {r len j : Nat} (hl : zlen r = len) (hj : j < len) (hn : len < 2 ^ 31) : fX7_at_ r (nI j) w = some (zL w r j, w) := by
  subst hl
  simp only [fX7_at_, lt, if_neg (nI_pos (show j < 2 ^ 31 by omega)), if_pos (nI_lt hj hn), zin_t hj hn, zg_t, nI_clamp (show j < 2 ^ 31 by omega)]
theorem set7 (w : zW) {r len j : Nat} (v : Int64) (hl : zlen r = len) (hj : j < len) (hn : len < 2 ^ 31) : fX7_set_ r (nI j) v w = some ((), zsL w r j v) := by
  subst hl
  simp only [fX7_set_, lt, if_neg (nI_pos (show j < 2 ^ 31 by omega)), if_neg (Int32.not_le.mpr (nI_lt hj hn)), zin_t hj hn, zg_t, nI_clamp (show j < 2 ^ 31 by omega)]
theorem fsl7 (S : Nat → Int64 × Int64) {M : Nat} (hM : M ≤ 128) {w : zW} (hr : ∀ i, 1 ≤ i → i ≤ M → zL w 72 i = (S i).1 ∧ zL w 73 i = (S i).2) : ∀ n k, 1 ≤ k → k ≤ M → M < k + n → ∃ j, k ≤ j ∧ j ≤ M ∧ S j = S M ∧ (∀ i, k ≤ i → i < j → S i ≠ S M) ∧ fX7_firstSumLike_L2 (nI M) n (nI k) w = some (nI j, w) := by
  intro n
  induction n with
  | zero => intro k h1 h2 h3; omega
  | succ n ih =>
    intro k h1 h2 h3
    by_cases hk : k = M
    · subst hk
      exact ⟨k, Nat.le_refl _, Nat.le_refl _, rfl, fun i a b => by omega, by rw [fX7_firstSumLike_L2.eq_2, if_pos (Int32.le_refl _)]⟩
    · have hlt : k < M := by omega
      have e : fX7_firstSumLike_L2 (nI M) (n + 1) (nI k) w = if S k = S M then some (nI k, w) else fX7_firstSumLike_L2 (nI M) n (nI (k + 1)) w := by
        rw [fX7_firstSumLike_L2.eq_2, if_neg (Int32.not_le.mpr (nI_lt hlt (by omega))), at7 w zlen_72 (show M < 129 by omega) (by decide), bd_s, at7 w zlen_73 (show M < 129 by omega) (by decide), bd_s, (hr M (by omega) (by omega)).1, (hr M (by omega) (by omega)).2]
        simp only [fX7_sumIsJust, at7 w zlen_72 (show k < 129 by omega) (by decide), at7 w zlen_73 (show k < 129 by omega) (by decide), bd_s, (hr k h1 h2).1, (hr k h1 h2).2]
        have e1 : nI k + 1 = nI (k + 1) := by rw [show (1 : Int32) = nI 1 from rfl, nI_add]
        by_cases c1 : (S k).1 = (S M).1
        · by_cases c2 : (S k).2 = (S M).2
          · rw [if_pos (Prod.ext c1 c2)]
            simp only [c1, c2, not_true, if_false, bd_s, if_true]
          · rw [if_neg (show ¬ S k = S M from fun q => c2 (congrArg Prod.snd q))]
            simp only [c1, c2, not_true, not_false_eq_true, if_false, if_true, bd_s, Bool.false_eq_true, e1]
        · rw [if_neg (show ¬ S k = S M from fun q => c1 (congrArg Prod.fst q))]
          simp only [c1, not_false_eq_true, if_true, bd_s, Bool.false_eq_true, if_false, e1]
      by_cases c : S k = S M
      · exact ⟨k, Nat.le_refl _, h2, c, fun i a b => by omega, by rw [e, if_pos c]⟩
      · obtain ⟨j, a1, a2, a3, a4, a5⟩ := ih (k + 1) (by omega) hlt (by omega)
        refine ⟨j, by omega, a2, a3, fun i b1 b2 => ?_, by rw [e, if_neg c, a5]⟩
        by_cases hi : i = k
        · subst hi; exact c
        · exact a4 i (by omega) b2

theorem nI_s (k : Nat) : nI k + 1 = nI (k + 1) := by rw [show (1 : Int32) = nI 1 from rfl, nI_add]
theorem nI_m1 (k : Nat) : nI (k + 1) - 1 = nI k := by rw [← nI_s, Int32.add_sub_cancel]
theorem tell_ok (a : Int64) (w : zW) : ∃ w', fX7_tell a w = some ((), w') ∧ ∀ k j, 74 ≤ k → w'.1 k j = w.1 k j := by
  refine ⟨zsI (zsL (zsI w 0 8 0) 71 0 a) 0 8 (0 + 1), rfl, fun k j h => ?_⟩
  show zI (zsI (zsL (zsI w 0 8 0) 71 0 a) 0 8 (0 + 1)) k j = zI w k j
  rw [zI_zsI, if_neg (by omega), zI_zsL, zI_zsI, if_neg (by omega)]
theorem ol7 {c : Nat → Nat → Int32} {S : Nat → Int64 × Int64} {v : Int32} (hf : ∀ w m, w.1 = c → m < 128 → zL w 1 2 = (S m).1 → zL w 1 3 = (S m).2 → fX0_follow v w = some ((), zsL (zsL w 1 2 (S (m + 1)).1) 1 3 (S (m + 1)).2)) : ∀ n m w, m ≤ 128 → 128 < m + n → w.1 = c → zL w 1 2 = (S m).1 → zL w 1 3 = (S m).2 → (∀ i, 1 ≤ i → i ≤ m → zL w 72 i = (S i).1 ∧ zL w 73 i = (S i).2) → NoRep S m → ∃ x w', Ord S x ∧ (∀ k j, 74 ≤ k → w'.1 k j = c k j) ∧ fX7_order_L18 v n (nI (m + 1)) w = some (x, w') := by
  intro n
  induction n with
  | zero => intro m w h1 h2; omega
  | succ n ih =>
    intro m w hm hn hw hp hq hr hno
    rw [fX7_order_L18.eq_2]
    by_cases hm8 : m = 128
    · subst hm8
      exact ⟨-2, w, .inl ⟨rfl, hno⟩, fun k j _ => by rw [hw], by rw [if_pos (by decide)]⟩
    · have hlt : m < 128 := by omega
      rw [if_neg (show ¬ (128 : Int32) < nI (m + 1) from Int32.not_lt.mpr ((nI_leI (by omega) (by decide)).mpr (show m + 1 ≤ 128 by omega))), hf w m hw hlt hp hq, bd_s]
      have e1 : zL (zsL (zsL w 1 2 (S (m + 1)).1) 1 3 (S (m + 1)).2) 1 2 = (S (m + 1)).1 := rfl
      have e2 : ∀ w : zW, fX7_keepSum (nI (m + 1)) w = some ((), zsL (zsL w 72 (m + 1) (zL w 1 2)) 73 (m + 1) (zL (zsL w 72 (m + 1) (zL w 1 2)) 1 3)) := by
        intro w
        simp only [fX7_keepSum, set7 w _ zlen_72 (show m + 1 < 129 by omega) (by decide), bd_s, set7 _ _ zlen_73 (show m + 1 < 129 by omega) (by decide)]
      rw [e2, bd_s]
      generalize hW : zsL (zsL (zsL (zsL w 1 2 (S (m + 1)).1) 1 3 (S (m + 1)).2) 72 (m + 1) _) 73 (m + 1) _ = W
      have g1 : W.1 = c := by rw [← hW]; exact hw
      have g2 : zL W 1 2 = (S (m + 1)).1 := by rw [← hW]; rfl
      have g3 : zL W 1 3 = (S (m + 1)).2 := by rw [← hW]; rfl
      have g4 : ∀ i, 1 ≤ i → i ≤ m + 1 → zL W 72 i = (S i).1 ∧ zL W 73 i = (S i).2 := by
        intro i i1 i2
        rw [← hW]
        by_cases hi : i = m + 1
        · subst hi
          constructor
          · simp [zL_zsL]
          · simp [zL_zsL]
        · have := hr i i1 (by omega)
          constructor
          · simp [zL_zsL, hi, this.1]
          · simp [zL_zsL, hi, this.2]
      obtain ⟨j, j1, j2, j3, j4, j5⟩ := fsl7 S (show m + 1 ≤ 128 by omega) g4 zFU 1 (Nat.le_refl 1) (by omega) (by have : zFU = 18446744073709551616 := rfl; omega)
      unfold fX7_firstSumLike
      rw [show (1 : Int32) = nI 1 from rfl, j5, bd_s]
      by_cases hj : j = m + 1
      · subst hj
        rw [if_pos (Int32.le_refl _), show nI (m + 1) + nI 1 = nI (m + 1 + 1) from nI_add _ _]
        refine ih (m + 1) W (by omega) (by omega) g1 g2 g3 g4 ?_
        intro k hk i i1 i2
        by_cases hkm : k = m + 1
        · subst hkm; exact j4 i i1 i2
        · exact hno k (by omega) i i1 i2
      · rw [if_neg (Int32.not_le.mpr (nI_lt (show j < m + 1 by omega) (by omega)))]
        obtain ⟨w', hw', hU⟩ := tell_ok (nI j).toInt64 W
        exact ⟨nI (m + 1), w', .inr ⟨m + 1, by omega, rfl, hno, j, j1, by omega, j3⟩, fun k i hk => by rw [hU k i hk, g1], by rw [hw', bd_s]⟩
theorem ent_ok (a : Int64) (w : zW) (h : zI w 74 1 = 0) : ∃ w', fX8_enters a w = some ((), w') := by
  unfold fX8_enters
  rw [h]
  exact ⟨_, rfl⟩
theorem fs8 (S : Nat → Int64 × Int64) {M : Nat} (hM : M ≤ 128) {x2 x4 : Int64} {g : Int32 → zW → Option (Int32 × zW)} {w : zW} (hp : zL w 74 11 = (S M).1) (hq : zL w 74 12 = (S M).2) (hr : ∀ i, 1 ≤ i → i ≤ M → zL w 81 i = (S i).1 ∧ zL w 82 i = (S i).2) : ∀ n k, 1 ≤ k → k ≤ M → M < k + n → (fX8_order_L106 x2 x4 (nI M) g n (nI k) w = g (nI (M + 1)) w ∧ ∀ i, k ≤ i → i < M → S i ≠ S M) ∨ (∃ j w', 1 ≤ j ∧ j < M ∧ S j = S M ∧ fX8_order_L106 x2 x4 (nI M) g n (nI k) w = some (nI M, w')) := by
  intro n
  induction n with
  | zero => intro k h1 h2 h3; omega
  | succ n ih =>
    intro k h1 h2 h3
    by_cases hk : k = M
    · subst hk
      exact .inl ⟨by rw [fX8_order_L106.eq_2, if_pos (Int32.le_refl _), nI_s], fun i a b => by omega⟩
    · have hlt : k < M := by omega
      have e : fX8_order_L106 x2 x4 (nI M) g (n + 1) (nI k) w = if S k = S M then (lt (zsI w 74 1 (0 : Int32)) fun w22 => bd (fX8_enters (nI k).toInt64 w22) fun _ w23 => some (nI M, w23)) else fX8_order_L106 x2 x4 (nI M) g n (nI (k + 1)) w := by
        rw [fX8_order_L106.eq_2, if_neg (Int32.not_le.mpr (nI_lt hlt (by omega))), zin_t (show k < 129 by omega) (by decide), zg_t, zg_t, nI_clamp (by omega), (hr k h1 h2).1, (hr k h1 h2).2, hp, hq, nI_s]
        by_cases c1 : (S k).1 = (S M).1
        · by_cases c2 : (S k).2 = (S M).2
          · rw [if_pos (show S k = S M from Prod.ext c1 c2), if_neg (not_not_intro c1), if_neg (not_not_intro c2)]
          · rw [if_neg (show ¬ S k = S M from fun q => c2 (congrArg Prod.snd q)), if_neg (not_not_intro c1), if_pos c2]
        · rw [if_neg (show ¬ S k = S M from fun q => c1 (congrArg Prod.fst q)), if_pos c1]
      by_cases c : S k = S M
      · obtain ⟨w', hw'⟩ := ent_ok (nI k).toInt64 (zsI w 74 1 0) rfl
        exact .inr ⟨k, w', h1, hlt, c, by rw [e, if_pos c]; simp only [lt, hw', bd_s]⟩
      · rcases ih (k + 1) (by omega) hlt (by omega) with ⟨a1, a2⟩ | ⟨j, w', a1, a2, a3, a4⟩
        · refine .inl ⟨by rw [e, if_neg c, a1], fun i b1 b2 => ?_⟩
          by_cases hi : i = k
          · subst hi; exact c
          · exact a2 i (by omega) b2
        · exact .inr ⟨j, w', a1, a2, a3, by rw [e, if_neg c, a4]⟩
theorem ol8 {c : Nat → Nat → Int32} {S : Nat → Int64 × Int64} {x2 x4 : Int64} (hf : ∀ w m, w.1 = c → 1 ≤ m → m < 128 → fX8_join (S m).1 (S m).2 x2 x4 w = some ((), zsL (zsL w 74 11 (S (m + 1)).1) 74 12 (S (m + 1)).2)) : ∀ n m w, 1 ≤ m → m ≤ 128 → 128 < m + n → w.1 = c → (∀ i, 1 ≤ i → i ≤ m → zL w 81 i = (S i).1 ∧ zL w 82 i = (S i).2) → NoRep S m → ∃ x w', Ord S x ∧ fX8_order_L48 x2 x4 n (nI (m + 1)) w = some (x, w') := by
  intro n
  induction n with
  | zero => intro m w h1 h2; omega
  | succ n ih =>
    intro m w h1 hm hn hw hr hno
    rw [fX8_order_L48.eq_2]
    by_cases hm8 : m = 128
    · subst hm8
      exact ⟨-2, w, .inl ⟨rfl, hno⟩, by rw [if_pos (by decide)]⟩
    · have hlt : m < 128 := by omega
      rw [if_neg (show ¬ (128 : Int32) < nI (m + 1) from Int32.not_lt.mpr ((nI_leI (by omega) (by decide)).mpr (show m + 1 ≤ 128 by omega))), nI_m1, zin_t (show m < 129 by omega) (by decide), zg_t, zg_t, nI_clamp (by omega), (hr m h1 (by omega)).1, (hr m h1 (by omega)).2, hf w m hw h1 hlt, bd_s, zin_t (show m + 1 < 129 by omega) (by decide), zg_t, nI_clamp (by omega)]
      simp only [lt, zg_t]
      generalize hW : zsL (zsL (zsL (zsL w 74 11 (S (m + 1)).1) 74 12 (S (m + 1)).2) 81 (m + 1) _) 82 (m + 1) _ = W
      have g1 : W.1 = c := by rw [← hW]; exact hw
      have g2 : zL W 74 11 = (S (m + 1)).1 := by rw [← hW]; rfl
      have g3 : zL W 74 12 = (S (m + 1)).2 := by rw [← hW]; rfl
      have g4 : ∀ i, 1 ≤ i → i ≤ m + 1 → zL W 81 i = (S i).1 ∧ zL W 82 i = (S i).2 := by
        intro i i1 i2
        rw [← hW]
        by_cases hi : i = m + 1
        · subst hi
          constructor
          · simp [zL_zsL]
          · simp [zL_zsL]
        · have := hr i i1 (by omega)
          constructor
          · simp [zL_zsL, hi, this.1]
          · simp [zL_zsL, hi, this.2]
      have hFU : zFU = 18446744073709551616 := rfl
      rcases fs8 S (show m + 1 ≤ 128 by omega) (x2 := x2) (x4 := x4) (g := fX8_order_L48 x2 x4 n) g2 g3 g4 zFU 1 (Nat.le_refl 1) (by omega) (by omega) with ⟨a1, a2⟩ | ⟨j, w', a1, a2, a3, a4⟩
      · rw [show (1 : Int32) = nI 1 from rfl, a1]
        refine ih (m + 1) W (by omega) (by omega) (by omega) g1 g4 ?_
        intro k hk i i1 i2
        by_cases hkm : k = m + 1
        · subst hkm; exact a2 i i1 i2
        · exact hno k (by omega) i i1 i2
      · rw [show (1 : Int32) = nI 1 from rfl, a4]
        exact ⟨_, w', .inr ⟨m + 1, by omega, rfl, hno, j, a1, by omega, a3⟩, rfl⟩
/-- how often ELEMENTS are JOINED on the way to n of them, by halves -/
def cnt : Nat → Nat → Nat
  | 0, _ => 0
  | f + 1, n => if n ≤ 1 then 0 else cnt f (n / 2) + 1 + n % 2
theorem cnt_f : ∀ f n, n < 2 ^ f → ∀ g, f ≤ g → cnt g n = cnt f n := by
  intro f
  induction f with
  | zero => intro n h g hg; cases g with
    | zero => rfl
    | succ g => simp only [cnt]; rw [if_pos (by omega)]
  | succ f ih =>
    intro n h g hg
    cases g with
    | zero => omega
    | succ g =>
      simp only [cnt]
      split
      · rfl
      · rw [ih (n / 2) (by rw [Nat.pow_succ] at h; omega) g (by omega)]
def cn (n : Nat) : Nat := cnt 31 n
theorem cn_s {n : Nat} (h : 1 < n) (hn : n < 2 ^ 31) : cn n = cn (n / 2) + 1 + n % 2 := by
  unfold cn
  rw [cnt, if_neg (by omega), cnt_f 30 (n / 2) (by omega) 31 (by omega)]
theorem cn_0 {n : Nat} (h : n ≤ 1) : cn n = 0 := by
  unfold cn
  rw [cnt, if_pos h]
theorem shk : ∀ b, b < 31 → ((nI b &&& 31).toBitVec.smod 32).toNat = b := by decide +kernel
theorem rem2 {n : Nat} (hn : n < 2 ^ 31) : nI n - nI n / (2 : Int32) * (2 : Int32) = nI (n % 2) := pk_rem (d := 2) hn (by decide) (by decide)
theorem pw7 {c : Nat → Nat → Int32} {v : Int32} {P D : Nat → Int64 × Int64} (h1 : ∀ w, w.1 = c → fX0_start v w = some ((), zsL (zsL w 1 2 (P 1).1) 1 3 (P 1).2)) (hd : ∀ w n, w.1 = c → 1 < n → n < 2 ^ 30 → fX0_join (P (n / 2)).1 (P (n / 2)).2 (P (n / 2)).1 (P (n / 2)).2 w = some ((), zsL (zsL w 1 2 (D n).1) 1 3 (D n).2)) (hfo : ∀ w n, w.1 = c → 1 < n → n < 2 ^ 30 → n % 2 = 1 → zL w 1 2 = (D n).1 → zL w 1 3 = (D n).2 → fX0_follow v w = some ((), zsL (zsL w 1 2 (P n).1) 1 3 (P n).2)) (he : ∀ n, n % 2 = 0 → D n = P n) {N : Nat} (hN : N < 2 ^ 30) : ∀ n b w, b ≤ 31 → b < n → w.1 = c → zL w 1 2 = (P (N / 2 ^ b)).1 → zL w 1 3 = (P (N / 2 ^ b)).2 → ∃ w', w'.1 = c ∧ zL w' 1 2 = (P N).1 ∧ zL w' 1 3 = (P N).2 ∧ fX0_power_L10 v (nI N) n (nI (cn (N / 2 ^ b))) (nI b - 1) w = some (nI (cn N), w') := by
  intro n
  induction n with
  | zero => intro b w h1 h2; omega
  | succ n ih =>
    intro b w hb hn hw hp hq
    rw [fX0_power_L10.eq_2]
    cases b with
    | zero =>
      rw [Nat.pow_zero, Nat.div_one] at hp hq ⊢
      exact ⟨w, hw, hp, hq, by rw [if_pos (by decide)]⟩
    | succ b =>
      have hM : N / 2 ^ b < 2 ^ 30 := Nat.lt_of_le_of_lt (Nat.div_le_self _ _) hN
      have hh : N / 2 ^ (b + 1) = N / 2 ^ b / 2 := by rw [Nat.pow_succ, Nat.div_div_eq_div_mul]
      rw [nI_pred, if_neg (nI_pos (by omega)), pk_shrN (by omega) _ b (shk b (by omega)), show (-1 : Int32) = -1 from rfl, show nI b + -1 = nI b - 1 from (Int32.sub_eq_add_neg _ _).symm]
      rw [hh] at hp hq ⊢
      generalize hso : N / 2 ^ b = so at hp hq hM ⊢
      simp only [lt]
      by_cases c1 : so = 1
      · subst c1
        rw [if_neg (show ¬ ¬ nI 1 = 1 from not_not_intro rfl), h1 w hw, bd_s, cn_0 (show 1 / 2 ≤ 1 by decide)]
        have := ih b (zsL (zsL w 1 2 (P 1).1) 1 3 (P 1).2) (by omega) (by omega) hw (by rw [hso]; rfl) (by rw [hso]; rfl)
        rw [hso, cn_0 (Nat.le_refl 1)] at this
        exact this
      · rw [if_pos (show ¬ nI so = 1 from fun q => c1 ((nI_eq (by omega) (by decide)).mp q))]
        by_cases c0 : so ≤ 1
        · have c00 : so = 0 := by omega
          subst c00
          rw [if_pos (by decide)]
          have := ih b w (by omega) (by omega) hw (by rw [hso]; exact hp) (by rw [hso]; exact hq)
          rw [hso] at this
          exact this
        · rw [if_neg (show ¬ nI so ≤ 1 from fun q => c0 ((nI_leI (by omega) (by decide)).mp q)), hp, hq, hd w so hw (by omega) hM, bd_s, rem2 (by omega)]
          by_cases c2 : so % 2 = 1
          · rw [c2, if_neg (show ¬ ¬ nI 1 = 1 from not_not_intro rfl), hfo (zsL (zsL w 1 2 (D so).1) 1 3 (D so).2) so hw (by omega) hM c2 rfl rfl, bd_s]
            have := ih b (zsL (zsL (zsL (zsL w 1 2 (D so).1) 1 3 (D so).2) 1 2 (P so).1) 1 3 (P so).2) (by omega) (by omega) hw (by rw [hso]; rfl) (by rw [hso]; rfl)
            rw [hso, cn_s (n := so) (by omega) (by omega), c2] at this
            rw [nI_1, nI_1]
            exact this
          · have c3 : so % 2 = 0 := by omega
            rw [c3, if_pos (show ¬ nI 0 = 1 by decide), nI_1]
            have := ih b (zsL (zsL w 1 2 (D so).1) 1 3 (D so).2) (by omega) (by omega) hw (by rw [hso, ← he so c3]; rfl) (by rw [hso, ← he so c3]; rfl)
            rw [hso, cn_s (n := so) (by omega) (by omega), c3] at this
            exact this
theorem pw8 {c : Nat → Nat → Int32} {v : Int32} {P D : Nat → Int64 × Int64} (h0 : ∀ w, w.1 = c → fX8_empty w = some ((), zsL (zsL w 74 11 (P 0).1) 74 12 (P 0).2)) {e : Int64 × Int64} (h1 : ∀ w, w.1 = c → fX8_element v w = some ((), zsL (zsL w 74 11 e.1) 74 12 e.2)) (h1P : P 1 = e) (hd : ∀ w n, w.1 = c → 1 < n → n < 2 ^ 30 → fX8_join (P (n / 2)).1 (P (n / 2)).2 (P (n / 2)).1 (P (n / 2)).2 w = some ((), zsL (zsL w 74 11 (D n).1) 74 12 (D n).2)) (hfo : ∀ w n, w.1 = c → 1 < n → n < 2 ^ 30 → n % 2 = 1 → fX8_join (D n).1 (D n).2 e.1 e.2 w = some ((), zsL (zsL w 74 11 (P n).1) 74 12 (P n).2)) (he : ∀ n, n % 2 = 0 → D n = P n) : ∀ f n w, n < 2 ^ f → n < 2 ^ 30 → 0 < f → w.1 = c → ∃ w', w'.1 = c ∧ zL w' 74 11 = (P n).1 ∧ zL w' 74 12 = (P n).2 ∧ fX8_power f v (nI n) w = some (nI (cn n), w') := by
  intro f
  induction f with
  | zero => intro n w h1 h2 h3; omega
  | succ f ih =>
    intro n w hn hn2 hf hw
    rw [fX8_power.eq_2]
    simp only [lt]
    by_cases c0 : n = 0
    · subst c0
      rw [if_neg (show ¬ ¬ nI 0 = 0 from not_not_intro rfl), h0 w hw, bd_s]
      exact ⟨zsL (zsL w 74 11 (P 0).1) 74 12 (P 0).2, hw, rfl, rfl, rfl⟩
    · rw [if_pos (show ¬ nI n = 0 from fun q => c0 ((nI_eq (by omega) (by decide)).mp q))]
      by_cases c1 : n = 1
      · subst c1
        rw [if_neg (show ¬ ¬ nI 1 = 1 from not_not_intro rfl), h1 w hw, bd_s]
        exact ⟨zsL (zsL w 74 11 e.1) 74 12 e.2, hw, by rw [h1P]; rfl, by rw [h1P]; rfl, rfl⟩
      · rw [if_pos (show ¬ nI n = 1 from fun q => c1 ((nI_eq (by omega) (by decide)).mp q)), show nI n / 2 = nI (n / 2) from pk_div (d := 2) (by omega) (by decide) (by decide)]
        have hf0 : 0 < f := by
          rcases Nat.eq_zero_or_pos f with rfl | h
          · rw [show (2 : Nat) ^ (0 + 1) = 2 from rfl] at hn; omega
          · exact h
        obtain ⟨w1, k1, k2, k3, k4⟩ := ih (n / 2) w (by rw [Nat.pow_succ] at hn; omega) (by omega) hf0 hw
        rw [k4, bd_s, k2, k3, hd w1 n k1 (by omega) hn2, bd_s, show nI (n / 2) * 2 = nI (n / 2 * 2) from pk_mul _ _, pk_sub (by omega), show n - n / 2 * 2 = n % 2 by omega, cn_s (n := n) (by omega) (by omega)]
        by_cases c2 : n % 2 = 1
        · rw [c2, if_pos (show ¬ nI 1 = 0 by decide), h1 _ (by exact k1), bd_s]
          rw [show zL (zsL (zsL w1 74 11 (D n).1) 74 12 (D n).2) 74 11 = (D n).1 from rfl, show zL (zsL (zsL w1 74 11 (D n).1) 74 12 (D n).2) 74 12 = (D n).2 from rfl, show ∀ w, zL (zsL (zsL w 74 11 e.1) 74 12 e.2) 74 11 = e.1 from fun _ => rfl, show ∀ w, zL (zsL (zsL w 74 11 e.1) 74 12 e.2) 74 12 = e.2 from fun _ => rfl, hfo _ n (by exact k1) (by omega) hn2 c2, bd_s, nI_1, nI_1]
          exact ⟨zsL (zsL (zsL (zsL (zsL (zsL w1 74 11 (D n).1) 74 12 (D n).2) 74 11 e.1) 74 12 e.2) 74 11 (P n).1) 74 12 (P n).2, k1, rfl, rfl, rfl⟩
        · have c3 : n % 2 = 0 := by omega
          rw [c3, if_neg (show ¬ ¬ nI 0 = 0 from not_not_intro rfl), nI_1]
          exact ⟨zsL (zsL w1 74 11 (D n).1) 74 12 (D n).2, k1, by rw [← he n c3]; rfl, by rw [← he n c3]; rfl, rfl⟩

/-- the answer of undoes: the first u that comes to EMPTY on both sides -/
def Und (U : Nat → Prop) (x : Int32) : Prop := (x = -2 ∧ ∀ u, u < 10000 → ¬ U u) ∨ ∃ u, u < 10000 ∧ x = nI u ∧ U u ∧ ∀ i, i < u → ¬ U i
theorem und_u {U : Nat → Prop} {x y : Int32} (hx : Und U x) (hy : Und U y) : x = y := by
  rcases hx with ⟨rfl, nx⟩ | ⟨k, hk, rfl, k1, k2⟩ <;> rcases hy with ⟨rfl, ny⟩ | ⟨k', hk', rfl, k1', k2'⟩
  · rfl
  · exact absurd k1' (nx k' hk')
  · exact absurd k1 (ny k hk)
  · rcases Nat.lt_trichotomy k k' with h | h | h
    · exact absurd k1 (k2' k h)
    · rw [h]
    · exact absurd k1' (k2 k' h)
theorem un7 {c : Nat → Nat → Int32} {a N : Nat} (hN : N ≤ 10000) {A B : Nat → Prop} [DecidablePred A] [DecidablePred B] (h1 : ∀ w u, w.1 = c → u < N → ∃ w', w'.1 = c ∧ fX0_undo (nI a) (nI u) w = some (decide (A u), w')) (h2 : ∀ w u, w.1 = c → u < N → ∃ w', w'.1 = c ∧ fX0_undo (nI u) (nI a) w = some (decide (B u), w')) (hb : ∀ u, u < 10000 → A u → B u → ∃ i, i < N ∧ A i ∧ B i) : ∀ n k w, k ≤ N → N < k + n → w.1 = c → (∀ i, i < k → ¬ (A i ∧ B i)) → ∃ x w', Und (fun u => A u ∧ B u) x ∧ w'.1 = c ∧ fX7_undoes_L19 (nI a) (nI N) n (nI k) w = some (x, w') := by
  intro n
  induction n with
  | zero => intro k w h1 h2; omega
  | succ n ih =>
    intro k w hk hn hw hno
    rw [fX7_undoes_L19.eq_2]
    by_cases c1 : k = N
    · subst c1
      refine ⟨-2, w, .inl ⟨rfl, fun u hu hU => ?_⟩, hw, by rw [if_pos (Int32.le_refl _)]⟩
      obtain ⟨i, i1, i2, i3⟩ := hb u hu hU.1 hU.2
      exact hno i i1 ⟨i2, i3⟩
    · have hlt : k < N := by omega
      have hgo : ∀ w, w.1 = c → ¬ (A k ∧ B k) → ∃ x w', Und (fun u => A u ∧ B u) x ∧ w'.1 = c ∧ fX7_undoes_L19 (nI a) (nI N) n (nI k + 1) w = some (x, w') := by
        intro w hw hnk
        rw [nI_1]
        refine ih (k + 1) w hlt (by omega) hw (fun i hi => ?_)
        by_cases e : i = k
        · subst e; exact hnk
        · exact hno i (by omega)
      obtain ⟨w1, k1, k2⟩ := h1 w k hw hlt
      rw [if_neg (Int32.not_le.mpr (nI_lt hlt (by omega))), k2, bd_s]
      simp only [lt]
      by_cases cA : A k
      · rw [decide_eq_true cA, if_pos rfl]
        obtain ⟨w2, k3, k4⟩ := h2 w1 k k1 hlt
        rw [k4, bd_s]
        by_cases cB : B k
        · rw [decide_eq_true cB, if_pos rfl]
          exact ⟨nI k, w2, .inr ⟨k, by omega, rfl, ⟨cA, cB⟩, fun i hi => hno i hi⟩, k3, rfl⟩
        · rw [decide_eq_false cB, if_neg Bool.false_ne_true]
          exact hgo w2 k3 (fun q => cB q.2)
      · rw [decide_eq_false cA, if_neg Bool.false_ne_true]
        exact hgo w1 k1 (fun q => cA q.1)
theorem un8 {c : Nat → Nat → Int32} {a : Nat} {x2 x4 : Int64} {A B : Nat → Prop} [DecidablePred A] [DecidablePred B] (h1 : ∀ w u, w.1 = c → u < 10000 → ∃ w', w'.1 = c ∧ fX8_joinsTwo (nI a) (nI u) w = some ((), w') ∧ (A u ↔ zL w' 74 11 = x2 ∧ zL w' 74 12 = x4)) (h2 : ∀ w u, w.1 = c → u < 10000 → ∃ w', w'.1 = c ∧ fX8_joinsTwo (nI u) (nI a) w = some ((), w') ∧ (B u ↔ zL w' 74 11 = x2 ∧ zL w' 74 12 = x4)) : ∀ n k w, k ≤ 10000 → 10000 < k + n → w.1 = c → (∀ i, i < k → ¬ (A i ∧ B i)) → ∃ x w', Und (fun u => A u ∧ B u) x ∧ w'.1 = c ∧ fX8_undoes_L32 (nI a) x2 x4 n (nI k) w = some (x, w') := by
  intro n
  induction n with
  | zero => intro k w h1 h2; omega
  | succ n ih =>
    intro k w hk hn hw hno
    rw [fX8_undoes_L32.eq_2]
    by_cases c1 : k = 10000
    · subst c1
      refine ⟨-2, w, .inl ⟨rfl, fun u hu hU => hno u hu hU⟩, hw, by rw [if_pos (by decide)]⟩
    · have hlt : k < 10000 := by omega
      have hgo : ∀ w, w.1 = c → ¬ (A k ∧ B k) → ∃ x w', Und (fun u => A u ∧ B u) x ∧ w'.1 = c ∧ fX8_undoes_L32 (nI a) x2 x4 n (nI k + 1) w = some (x, w') := by
        intro w hw hnk
        rw [nI_1]
        refine ih (k + 1) w hlt (by omega) hw (fun i hi => ?_)
        by_cases e : i = k
        · subst e; exact hnk
        · exact hno i (by omega)
      obtain ⟨w1, k1, k2, k3⟩ := h1 w k hw hlt
      rw [if_neg (show ¬ (9999 : Int32) < nI k from Int32.not_lt.mpr ((nI_leI (b := 9999) (by omega) (by decide)).mpr (by omega))), k2, bd_s]
      simp only [lt, if_true, if_neg (show ¬ (1 : Int32) = 0 by decide)]
      by_cases cp : zL w1 74 11 = x2
      · rw [if_neg (not_not_intro cp)]
        by_cases cq : zL w1 74 12 = x4
        · rw [if_neg (not_not_intro cq)]
          obtain ⟨w2, k4, k5, k6⟩ := h2 w1 k k1 hlt
          rw [k5, bd_s]
          by_cases dp : zL w2 74 11 = x2
          · rw [if_neg (not_not_intro dp)]
            by_cases dq : zL w2 74 12 = x4
            · rw [if_neg (not_not_intro dq)]
              exact ⟨nI k, w2, .inr ⟨k, by omega, rfl, ⟨k3.mpr ⟨cp, cq⟩, k6.mpr ⟨dp, dq⟩⟩, fun i hi => hno i hi⟩, k4, rfl⟩
            · rw [if_pos dq]
              exact hgo w2 k4 (fun q => dq (k6.mp q.2).2)
          · rw [if_pos dp]
            exact hgo w2 k4 (fun q => dp (k6.mp q.2).1)
        · rw [if_pos cq]
          exact hgo w1 k1 (fun q => cq (k3.mp q.1).2)
      · rw [if_pos cp]
        exact hgo w1 k1 (fun q => cp (k3.mp q.1).1)
