set_option maxRecDepth 16384
/-- i ITEMS go from the LINE s (by its FRONT), (by its END e) upon the STACK k -/
def jS (J : aJ) (s e k : Nat) : Nat → aS → aS
  | 0, S => S
  | i + 1, S => mS J k (tI J s e (jS J s e k i S)) (tS J s e (jS J s e k i S))
section K2
variable {J : aJ} {S : aS} {T : aT} {w : zW}
theorem zB_n (h : ∀ j, j < 5 → aN S j ≤ 64) : zB S := fun a ha => by
  have := h (a / 2) (by omega)
  unfold aN at this
  rcases (show a = 2 * (a / 2) ∨ a = 2 * (a / 2) + 1 by omega) with e | e
  · rw [e]; omega
  · rw [e]; omega
theorem mS_n {j e v : Nat} (he : e < 2) : aN (mS J (2 * j + e) v S) j = aN S j + 1 ∧ ∀ i, i ≠ j → aN (mS J (2 * j + e) v S) i = aN S i := by
  unfold aN
  constructor
  · rcases (show e = 0 ∨ e = 1 by omega) with rfl | rfl
    · show sZ (mS J (2 * j) v S) (2 * j) + sZ (mS J (2 * j) v S) (2 * j + 1) = _
      rw [mS_z, mS_zo (by omega)]; omega
    · rw [mS_z, mS_zo (by omega)]; omega
  · intro i hi
    rw [mS_zo (by omega), mS_zo (by omega)]
theorem mS_Va (hW : jW J) {k v : Nat} (hv : v < 10000) (h : ∀ a, a < 10 → kV J S a) (hk : k < 10) : ∀ a, a < 10 → kV J (mS J k v S) a := fun a ha => by
  by_cases c : a = k
  · rw [c]; exact mS_V hW hv (h k hk)
  · exact mS_Vo c (h a ha)
/-- from the spare LINE upon the BACK of the LINE j -/
theorem jS_P (hW : jW J) (h : ∀ a, a < 10 → kV J S a) {j : Nat} (hj : j < 4) : ∀ i, i ≤ aN S 4 → (∀ a, a < 10 → kV J (jS J 4 0 (2 * j + 1) i S) a) ∧ aN (jS J 4 0 (2 * j + 1) i S) 4 = aN S 4 - i ∧ aN (jS J 4 0 (2 * j + 1) i S) j = aN S j + i ∧ ∀ l, l ≠ 4 → l ≠ j → aN (jS J 4 0 (2 * j + 1) i S) l = aN S l := by
  intro i
  induction i with
  | zero => intro _; exact ⟨h, rfl, rfl, fun _ _ _ => rfl⟩
  | succ i ih =>
    intro hi
    obtain ⟨h1, h2, h3, h4⟩ := ih (by omega)
    have hn : 0 < aN (jS J 4 0 (2 * j + 1) i S) 4 := by omega
    have ht : tI J 4 0 (jS J 4 0 (2 * j + 1) i S) < 10000 := tI_l hW h1 (by omega) (by omega) hn
    have hm := mS_n (J := J) (S := tS J 4 0 (jS J 4 0 (2 * j + 1) i S)) (j := j) (e := 1) (v := tI J 4 0 (jS J 4 0 (2 * j + 1) i S)) (by decide)
    refine ⟨mS_Va hW ht (fun a ha => tS_V hW h1 (by omega) ha) (by omega), ?_, ?_, fun l l4 lj => ?_⟩
    · show aN (mS J (2 * j + 1) _ _) 4 = _
      rw [hm.2 4 (by omega), tS_n (by decide) hn]; omega
    · show aN (mS J (2 * j + 1) _ _) j = _
      rw [hm.1, tS_no (by decide) (by omega)]; omega
    · show aN (mS J (2 * j + 1) _ _) l = _
      rw [hm.2 l lj, tS_no (by decide) l4]; exact h4 l l4 lj
theorem jS_B (hW : jW J) (h : ∀ a, a < 10 → kV J S a) {j : Nat} (hj : j < 4) (hn : ∀ l, l < 4 → aN S l ≤ 64) (h4 : aN S j + aN S 4 ≤ 64) {i : Nat} (hi : i ≤ aN S 4) : zB (jS J 4 0 (2 * j + 1) i S) := by
  obtain ⟨h1, h2, h3, h5⟩ := jS_P hW h hj i hi
  refine zB_n fun l hl => ?_
  by_cases c4 : l = 4
  · rw [c4, h2]; omega
  · by_cases cj : l = j
    · rw [cj, h3]; omega
    · rw [h5 l c4 cj]; exact hn l (by omega)
theorem joins_L7 (hW : jW J) (h : ∀ a, a < 10 → kV J S a) {j : Nat} (hj : j < 4) (hn : ∀ l, l < 4 → aN S l ≤ 64) (h4 : aN S j + aN S 4 ≤ 64) {w0 : zX} {x : Int32} : ∀ m N i w, i + m = aN S 4 → m < N → (∃ H, uC w0 J (jS J 4 0 (2 * j + 1) i S) T H w) → Ok (fX7_joins_L67 (LN j) (nI (aN S 4)) x N (nI i) w) (fun a w' => a = nI (aN S j + aN S 4) ∧ ∃ H, uC w0 J (jS J 4 0 (2 * j + 1) (aN S 4) S) T H w') := by
  intro m
  induction m with
  | zero =>
    intro N i w hm hN h7
    obtain ⟨N, rfl⟩ : ∃ k, N = k + 1 := ⟨N - 1, by omega⟩
    obtain ⟨H, h7⟩ := h7
    obtain ⟨h1, h2, h3, h5⟩ := jS_P hW h hj i (by omega)
    rw [fX7_joins_L67.eq_2, show aN S 4 = i by omega, if_pos (Int32.le_refl _)]
    refine ok_b (tell1_s h7 _) (fun _ w2 a2 => ?_)
    rw [size_s a2 (by omega), bd_s, h3]
    exact ok_r ⟨rfl, H, a2⟩
  | succ m ih =>
    intro N i w hm hN h7
    obtain ⟨N, rfl⟩ : ∃ k, N = k + 1 := ⟨N - 1, by omega⟩
    obtain ⟨H, h7⟩ := h7
    obtain ⟨h1, h2, h3, h5⟩ := jS_P hW h hj i (by omega)
    have hp : 0 < aN (jS J 4 0 (2 * j + 1) i S) 4 := by omega
    rw [fX7_joins_L67.eq_2, if_neg (Int32.not_le.mpr (nI_lt (by omega) (by omega)))]
    refine ok_b (take_s hW h7 (j := 4) (e := 0) (by decide) (by decide) (by omega) hp (h1 8 (by decide)) (h1 9 (by decide))) (fun a w2 a2 => ?_)
    obtain ⟨rfl, H2, a2⟩ := a2
    refine ok_b (put_s hW a2 (j := j) (e := 1) (by omega) (by decide) (tI_l hW h1 (by omega) (by omega) hp) ?_ (tS_V hW h1 (by omega) (by omega))) (fun _ w3 a3 => ?_)
    · have := tS_no (J := J) (S := jS J 4 0 (2 * j + 1) i S) (e := 0) (show (0 : Nat) < 2 by decide) (show j ≠ 4 by omega)
      rw [h3] at this
      unfold aN at this h4 hm
      omega
    · rw [nI_1]
      exact ih N (i + 1) w3 (by omega) (by omega) ⟨_, a3⟩
theorem joins_L8 (hW : jW J) (h : ∀ a, a < 10 → kV J S a) {j : Nat} (hj : j < 4) (hn : ∀ l, l < 4 → aN S l ≤ 64) (h4 : aN S j + aN S 4 ≤ 64) {w0 : zX} {x : Int32} : ∀ m N i w, i + m = aN S 4 → m < N → (∃ H, uD w0 J (jS J 4 0 (2 * j + 1) i S) T H w) → Ok (fX8_joins_L51 (nI j) x N w) (fun a w' => a = nI (aN S j + aN S 4) ∧ ∃ H, uD w0 J (jS J 4 0 (2 * j + 1) (aN S 4) S) T H w') := by
  intro m
  induction m with
  | zero =>
    intro N i w hm hN h7
    obtain ⟨N, rfl⟩ : ∃ k, N = k + 1 := ⟨N - 1, by omega⟩
    obtain ⟨H, h7⟩ := h7
    obtain ⟨h1, h2, h3, h5⟩ := jS_P hW h hj i (by omega)
    rw [fX8_joins_L51.eq_2, show (4 : Int32) = nI 4 from rfl, sizeOf_s h7 (by decide), bd_s, h2, if_pos (by rw [show aN S 4 - i = 0 by omega]; decide), sizeOf_s h7 (by omega), bd_s, h3]
    refine ok_b (tellsWork_s h7 _ _) (fun a w2 a2 => ?_)
    refine ok_r ⟨a2.1.trans (by rw [show i = aN S 4 by omega]), H, ?_⟩
    rw [show aN S 4 = i by omega]; exact a2.2
  | succ m ih =>
    intro N i w hm hN h7
    obtain ⟨N, rfl⟩ : ∃ k, N = k + 1 := ⟨N - 1, by omega⟩
    obtain ⟨H, h7⟩ := h7
    obtain ⟨h1, h2, h3, h5⟩ := jS_P hW h hj i (by omega)
    have hp : 0 < aN (jS J 4 0 (2 * j + 1) i S) 4 := by omega
    have hB := jS_B hW h hj hn h4 (i := i) (by omega)
    rw [fX8_joins_L51.eq_2, show (4 : Int32) = nI 4 from rfl, sizeOf_s h7 (by decide), bd_s, if_neg (nI_nle hp (by omega)), (d_in2 (show j < 5 by omega)).2.2.2.2.2]
    refine ok_b (takesOne_s hW h7 hB (j := 4) (e := 0) (by decide) (by decide) (by omega) hp (h1 8 (by decide)) (h1 9 (by decide))) (fun a w2 a2 => ?_)
    obtain ⟨rfl, H2, a2⟩ := a2
    have hB2 : zB (tS J 4 0 (jS J 4 0 (2 * j + 1) i S)) := zB_n fun l hl => by
      by_cases c4 : l = 4
      · rw [c4, tS_n (by decide) hp]; omega
      · rw [tS_no (by decide) c4]
        have := hB (2 * l) (by omega)
        by_cases cj : l = j
        · rw [cj, h3]; omega
        · rw [h5 l c4 cj]; exact hn l (by omega)
    refine ok_b (makes_s hW a2 hB2 (k := 2 * j + 1) (by omega) (tI_l hW h1 (by omega) (by omega) hp) ?_ (tS_V hW h1 (by omega) (by omega))) (fun _ w3 a3 => ?_)
    · have := tS_no (J := J) (S := jS J 4 0 (2 * j + 1) i S) (e := 0) (show (0 : Nat) < 2 by decide) (show j ≠ 4 by omega)
      rw [h3] at this
      unfold aN at this h4 hm
      omega
    · exact ih N (i + 1) w3 (by omega) (by omega) ⟨_, a3⟩
theorem joins_b (h : rW J S T w) (a b : Int32) : Bq (fX7_joins a b) (fX8_joins a b) Eq w := by
  obtain ⟨hW, hS, hT, -, -⟩ := id h
  rcases ln a with hl | ⟨j, hj, rfl⟩
  · rcases ln b with hl2 | ⟨t, ht, rfl⟩
    · exact bq_x h (-1) (fun H hC => by rw [fX7_joins, lineAt_n w hl, bd_s, oc_n, lineAt_n w hl2, bd_s, oc_n]) (fun w1 H hD => by rw [fX8_joins, lt_e, isLine_n _ hl, bd_s, ff])
    · exact bq_x h (-1) (fun H hC => by rw [fX7_joins, lineAt_n w hl, bd_s, oc_n, lineAt_s w ht, bd_s, oc_s]) (fun w1 H hD => by rw [fX8_joins, lt_e, isLine_n _ hl, bd_s, ff])
  rcases ln b with hl2 | ⟨t, ht, rfl⟩
  · exact bq_x h (-1) (fun H hC => by rw [fX7_joins, lineAt_s w hj, bd_s, oc_s, lineAt_n w hl2, bd_s, oc_n]) (fun w1 H hD => by rw [fX8_joins, lt_e, isLine_s _ hj, bd_s, tt, isLine_n _ hl2, bd_s, ff])
  have hz := hS.1 j hj
  have hzt := hS.1 t ht
  by_cases c : aN S j + aN S t ≤ 64
  · have hle : nI (aN S j) + nI (aN S t) ≤ 64 := by rw [nI_add]; exact (nI_leI (b := 64) (by omega) (by decide)).mpr c
    have hb := bL_z (S := S) (j := 4) (t := t) (by omega)
    have hk : ∀ a, a < 10 → kV J S a := fun a ha => sW_V hS ha
    have hk2 : ∀ a, a < 10 → kV J (bL 4 t S) a := fun a ha => bL_V (by omega) (by omega) (by omega) hk ha
    have h4 : aN (bL 4 t S) j + aN (bL 4 t S) 4 ≤ 64 := by rw [hb.1, hb.2 j (by omega)]; exact c
    have hn : ∀ l, l < 4 → aN (bL 4 t S) l ≤ 64 := fun l hl => by rw [hb.2 l (by omega)]; exact hS.1 l hl
    obtain ⟨h1, h2, h3, h5⟩ := jS_P hW hk2 hj (aN (bL 4 t S) 4) (Nat.le_refl _)
    refine bq_e h J (jS J 4 0 (2 * j + 1) (aN (bL 4 t S) 4) (bL 4 t S)) T hW ⟨fun l hl => ?_, fun k hk => h1 k (by omega), by rw [h2]; omega⟩ hT (nI (aN (bL 4 t S) j + aN (bL 4 t S) 4)) (fun H hC => ?_) (fun w1 H hD => ?_)
    · by_cases cj : l = j
      · rw [cj, h3]; exact h4
      · rw [h5 l (by omega) cj]; exact hn l hl
    · rw [fX7_joins, lineAt_s w hj, bd_s, oc_s, lineAt_s w ht, bd_s, oc_s, size_s hC (by omega), bd_s, size_s hC (by omega), bd_s, if_pos hle, lt_e]
      refine ok_b (become_s hC (j := 4) (t := t) (by omega) (by omega) (by omega) hzt) (fun _ w2 a2 => ?_)
      rw [show aN S t = aN (bL 4 t S) 4 from hb.1.symm]
      exact joins_L7 hW hk2 hj hn h4 (aN (bL 4 t S) 4) zFU 0 w2 (by omega) (by rw [show zFU = 18446744073709551616 from rfl]; omega) ⟨H, a2⟩
    · rw [fX8_joins, lt_e, isLine_s _ hj, bd_s, tt, isLine_s _ ht, bd_s, tt, sizeOf_s (uD_0 hD) (by omega), bd_s, sizeOf_s (uD_0 hD) (by omega), bd_s, if_pos hle, lt_e]
      refine ok_b (copiesTo_s (j := 4) (uD_0 hD) (sW_B hS) (by omega) (by omega) (by omega)) (fun _ w2 a2 => ?_)
      exact joins_L8 hW hk2 hj hn h4 (aN (bL 4 t S) 4) zFU 0 w2 (by omega) (by rw [show zFU = 18446744073709551616 from rfl]; omega) ⟨H, a2⟩
  · have hle : ¬ nI (aN S j) + nI (aN S t) ≤ 64 := by rw [nI_add]; exact fun q => c ((nI_leI (b := 64) (by omega) (by decide)).mp q)
    exact bq_x h (-3) (fun H hC => by rw [fX7_joins, lineAt_s w hj, bd_s, oc_s, lineAt_s w ht, bd_s, oc_s, size_s hC (by omega), bd_s, size_s hC (by omega), bd_s, if_neg hle]) (fun w1 H hD => by rw [fX8_joins, lt_e, isLine_s _ hj, bd_s, tt, isLine_s _ ht, bd_s, tt, sizeOf_s (uD_0 hD) (by omega), bd_s, sizeOf_s (uD_0 hD) (by omega), bd_s, if_neg hle])
/-- from an END of a LINE upon its other one -/
theorem xS_P (hW : jW J) (h : sW J S) {j e : Nat} (hj : j < 4) (he : e < 2) (hn : 0 < aN S j) : ∀ i, sW J (jS J j e (2 * j + (1 - e)) i S) ∧ aN (jS J j e (2 * j + (1 - e)) i S) j = aN S j := by
  intro i
  induction i with
  | zero => exact ⟨h, rfl⟩
  | succ i ih =>
    have hp : 0 < aN (jS J j e (2 * j + (1 - e)) i S) j := by omega
    have hk : ∀ a, a < 10 → kV J (jS J j e (2 * j + (1 - e)) i S) a := fun a ha => sW_V ih.1 ha
    have ht := tS_n (J := J) he hp
    have hw := tS_W hW ih.1 hj he hp
    have := ih.1.1 j hj
    have hm := mS_W hW hw hj (e := 1 - e) (v := tI J j e (jS J j e (2 * j + (1 - e)) i S)) (by omega) (tI_l hW hk (by omega) he hp) (by omega)
    refine ⟨hm.1, ?_⟩
    show aN (mS J (2 * j + (1 - e)) _ _) j = _
    rw [hm.2, ht]; omega
theorem shifts_L7 (hW : jW J) (h : sW J S) {j e n : Nat} (hj : j < 4) (he : e < 2) (hn : 0 < aN S j) {w0 : zX} (x : Int32) (hnn : n < 2 ^ 31) : ∀ m N i w, i + m = n → m < N → (∃ H, uC w0 J (jS J j e (2 * j + (1 - e)) i S) T H w) → Ok (fX7_shifts_L55 (nI e) (nI n) (LN j) x N (nI i) w) (fun a w' => a = sM (jS J j e (2 * j + (1 - e)) n S) - x ∧ ∃ H, uC w0 J (jS J j e (2 * j + (1 - e)) n S) T H w') := by
  intro m
  induction m with
  | zero =>
    intro N i w hm hN h7
    obtain ⟨N, rfl⟩ : ∃ k, N = k + 1 := ⟨N - 1, by omega⟩
    obtain ⟨H, h7⟩ := h7
    obtain ⟨h1, h2⟩ := xS_P hW h hj he hn i
    have hin : i = n := by omega
    rw [hin] at h1 h2 h7
    rw [fX7_shifts_L55.eq_2, hin, if_pos (Int32.le_refl _), size_s h7 (by omega), bd_s]
    refine ok_b (sumUp_s hW h7 (a := 0) (by omega) (h1.1 j hj) (fun x hx => sI h1 hj hx) (Nat.zero_le _) (Nat.le_refl _)) (fun _ w2 a2 => ?_)
    refine ok_b (tell2_s a2.1 _ _) (fun _ w3 a3 => ok_r ⟨?_, H, a3⟩)
    rw [a3.2.2.1.1]
  | succ m ih =>
    intro N i w hm hN h7
    obtain ⟨N, rfl⟩ : ∃ k, N = k + 1 := ⟨N - 1, by omega⟩
    obtain ⟨H, h7⟩ := h7
    obtain ⟨h1, h2⟩ := xS_P hW h hj he hn i
    have hk : ∀ a, a < 10 → kV J (jS J j e (2 * j + (1 - e)) i S) a := fun a ha => sW_V h1 ha
    have hp : 0 < aN (jS J j e (2 * j + (1 - e)) i S) j := by omega
    have hl := h1.1 j hj
    rw [fX7_shifts_L55.eq_2, if_neg (Int32.not_le.mpr (nI_lt (by omega) (by omega)))]
    refine ok_b (take_s hW h7 (j := j) (by omega) he hl hp (hk _ (by omega)) (hk _ (by omega))) (fun a w2 a2 => ?_)
    obtain ⟨rfl, H2, a2⟩ := a2
    rw [show (1 : Int32) = nI 1 from rfl, pk_sub (by omega)]
    refine ok_b (put_s hW a2 (j := j) (e := 1 - e) (by omega) (by omega) (tI_l hW hk (by omega) he hp) ?_ (tS_V hW hk (by omega) (by omega))) (fun _ w3 a3 => ?_)
    · have := tS_n (J := J) he hp
      unfold aN at this hl hp
      rcases (show e = 0 ∨ e = 1 by omega) with rfl | rfl
      · show sZ _ (2 * j + 1) < 64; omega
      · show sZ _ (2 * j) < 64; omega
    · rw [nI_add]
      exact ih N (i + 1) w3 (by omega) (by omega) ⟨_, a3⟩
theorem shifts_L8 (hW : jW J) (h : sW J S) {j e n : Nat} (hj : j < 4) (he : e < 2) (hn : 0 < aN S j) {w0 : zX} (x : Int32) (hnn : n < 2 ^ 31) : ∀ m N i w, i + m = n → m < N → (∃ H, uD w0 J (jS J j e (2 * j + (1 - e)) i S) T H w) → Ok (fX8_shifts_L53 (nI j) (nI e) (nI n) x N (nI i) w) (fun a w' => a = sM (jS J j e (2 * j + (1 - e)) n S) - x ∧ ∃ H, uD w0 J (jS J j e (2 * j + (1 - e)) n S) T H w') := by
  intro m
  induction m with
  | zero =>
    intro N i w hm hN h7
    obtain ⟨N, rfl⟩ : ∃ k, N = k + 1 := ⟨N - 1, by omega⟩
    obtain ⟨H, h7⟩ := h7
    obtain ⟨h1, h2⟩ := xS_P hW h hj he hn i
    have hin : i = n := by omega
    rw [hin] at h1 h2 h7
    rw [fX8_shifts_L53.eq_2, hin, if_pos (Int32.le_refl _), lt_e]
    refine ok_b (entersSum_s (n := 0) hW (uD_1 (v := 0) h7) (sW_B h1) (by omega) (sW_V h1 (by omega)) (sW_V h1 (by omega)) rfl (by decide)) (fun _ w2 a2 => ok_r ⟨?_, H, a2.1⟩)
    rw [a2.1.2.2.1.1]
  | succ m ih =>
    intro N i w hm hN h7
    obtain ⟨N, rfl⟩ : ∃ k, N = k + 1 := ⟨N - 1, by omega⟩
    obtain ⟨H, h7⟩ := h7
    obtain ⟨h1, h2⟩ := xS_P hW h hj he hn i
    have hk : ∀ a, a < 10 → kV J (jS J j e (2 * j + (1 - e)) i S) a := fun a ha => sW_V h1 ha
    have hp : 0 < aN (jS J j e (2 * j + (1 - e)) i S) j := by omega
    have hl := h1.1 j hj
    have hw := tS_W hW h1 hj he hp
    rw [fX8_shifts_L53.eq_2, if_neg (Int32.not_le.mpr (nI_lt (by omega) (by omega)))]
    refine ok_b (takesOne_s hW h7 (sW_B h1) (j := j) (by omega) he hl hp (hk _ (by omega)) (hk _ (by omega))) (fun a w2 a2 => ?_)
    obtain ⟨rfl, H2, a2⟩ := a2
    rw [(d_in2 (show j < 5 by omega)).2.2.2.2.2, pk_sub (by omega), show 2 * j + 1 - e = 2 * j + (1 - e) by omega]
    refine ok_b (makes_s hW a2 (sW_B hw) (k := 2 * j + (1 - e)) (by omega) (tI_l hW hk (by omega) he hp) ?_ (tS_V hW hk (by omega) (by omega))) (fun _ w3 a3 => ?_)
    · have := tS_n (J := J) he hp
      unfold aN at this hl hp
      rcases (show e = 0 ∨ e = 1 by omega) with rfl | rfl
      · show sZ _ (2 * j + 1) < 64; omega
      · show sZ _ (2 * j) < 64; omega
    · rw [nI_1]
      exact ih N (i + 1) w3 (by omega) (by omega) ⟨_, a3⟩
theorem shifts_b (h : rW J S T w) (a b c : Int32) : Bq (fX7_shifts a b c) (fX8_shifts a b c) Eq w := by
  obtain ⟨hW, hS, hT, -, -⟩ := id h
  rcases ln a with hl | ⟨j, hj, rfl⟩
  · exact bq_x h (-1) (fun H hC => by rw [fX7_shifts, lineAt_n w hl, bd_s, oc_n]) (fun w1 H hD => by rw [fX8_shifts, lt_e, isLine_n _ hl, bd_s, ff])
  rcases en b with ⟨e7, e8⟩ | ⟨e, he, rfl, e7, e8⟩
  · exact bq_x h (-1) (fun H hC => by rw [fX7_shifts, lineAt_s w hj, bd_s, oc_s, e7, bd_s, ff]) (fun w1 H hD => by rw [fX8_shifts, lt_e, isLine_s _ hj, bd_s, tt, e8, bd_s, ff])
  rcases inb c (lo := 1) (hi := 64) (by decide) (by decide) with ⟨h1, h2⟩ | ⟨h1, h1', h2⟩
  · have h3 : ∀ w, fX8_in c.toInt64 1 64 w = some (false, w) := h2
    refine bq_x h (-1) (fun H hC => ?_) (fun w1 H hD => by rw [fX8_shifts, lt_e, isLine_s _ hj, bd_s, tt, e8, bd_s, tt, h3, bd_s, ff])
    rw [fX7_shifts, lineAt_s w hj, bd_s, oc_s, e7, bd_s, tt]
    by_cases q : c < 1
    · rw [if_pos q]
    · rw [if_neg q, if_neg (Int32.not_le.mpr (show (64 : Int32) < c from h1.resolve_left q))]
  have h3 : ∀ w, fX8_in c.toInt64 1 64 w = some (true, w) := h2
  have hc1 : ¬ c < 1 := h1
  have hc2 : c ≤ 64 := Int32.not_lt.mp h1'
  obtain ⟨n, hn, rfl⟩ : ∃ n, n ≤ 64 ∧ c = nI n := by
    rcases i01 (n := 64) (by decide) h1' with q | q
    · exact absurd (Int32.lt_of_lt_of_le q (by decide)) hc1
    · exact q
  have hz := hS.1 j hj
  by_cases c0 : aN S j = 0
  · exact bq_x h (-2) (fun H hC => by rw [fX7_shifts, lineAt_s w hj, bd_s, oc_s, e7, bd_s, tt, if_neg hc1, if_pos hc2, size_s hC (by omega), bd_s, c0, if_neg (show ¬ ¬ nI 0 = 0 by decide)]) (fun w1 H hD => by rw [fX8_shifts, lt_e, isLine_s _ hj, bd_s, tt, e8, bd_s, tt, h3, bd_s, tt, sizeOf_s (uD_0 hD) (by omega), bd_s, c0, if_neg (show ¬ ¬ nI 0 = 0 by decide)])
  · refine bq_e h J (jS J j e (2 * j + (1 - e)) n S) T hW (xS_P hW hS hj he (by omega) n).1 hT (sM (jS J j e (2 * j + (1 - e)) n S) - sM S) (fun H hC => ?_) (fun w1 H hD => ?_)
    · rw [fX7_shifts, lineAt_s w hj, bd_s, oc_s, e7, bd_s, tt, if_neg hc1, if_pos hc2, size_s hC (by omega), bd_s, if_pos (nI_ne0 (by omega) (by omega)), lt_e, hC.2.2.1.1]
      exact shifts_L7 hW hS hj he (by omega) _ (by omega) n zFU 0 w (by omega) (by rw [show zFU = 18446744073709551616 from rfl]; omega) ⟨H, hC⟩
    · have hD0 := uD_0 hD
      rw [fX8_shifts, lt_e, isLine_s _ hj, bd_s, tt, e8, bd_s, tt, h3, bd_s, tt, sizeOf_s hD0 (by omega), bd_s, if_pos (nI_ne0 (by omega) (by omega)), lt_e, hD0.2.2.1.1]
      exact shifts_L8 hW hS hj he (by omega) _ (by omega) n zFU 0 _ (by omega) (by rw [show zFU = 18446744073709551616 from rfl]; omega) ⟨H, hD0⟩
end K2
