set_option maxRecDepth 16384
def oN : Option Nat → Nat
  | none => 0
  | some _ => 1
section R4
variable {J : aJ} {S : aS} {k fr : Nat}
theorem cX_0 : cX k fr 0 S = zS k 0 S := by
  unfold cX zS
  refine Prod.ext rfl (Prod.ext ?_ rfl)
  funext a h
  exact if_neg (fun q => Nat.not_lt_zero _ q.2)
theorem cX_z {i : Nat} : sZ (cX k fr i S) k = i := if_pos rfl
theorem cX_zo {i a : Nat} (h : a ≠ k) : sZ (cX k fr i S) a = sZ S a := if_neg h
theorem cX_c {i h : Nat} (hh : h < i) : sC (cX k fr i S) k h = sC S fr h := if_pos ⟨rfl, hh⟩
theorem cX_co {i a h : Nat} (n : a ≠ k) : sC (cX k fr i S) a h = sC S a h := if_neg (fun q => n q.1)
theorem cX_s {i : Nat} : pQ k (sC S fr i) (cX k fr i S) = cX k fr (i + 1) S := by
  refine Prod.ext ?_ (Prod.ext ?_ rfl)
  · funext a
    show (if a = k then sZ (cX k fr i S) k + 1 else sZ (cX k fr i S) a) = if a = k then i + 1 else sZ S a
    by_cases c : a = k
    · rw [if_pos c, if_pos c, cX_z]
    · rw [if_neg c, if_neg c, cX_zo c]
  · funext a h
    show (if a = k ∧ h = sZ (cX k fr i S) k then sC S fr i else sC (cX k fr i S) a h) = if a = k ∧ h < i + 1 then sC S fr h else sC S a h
    rw [cX_z]
    by_cases c : a = k
    · subst c
      by_cases d : h = i
      · subst d; rw [if_pos ⟨rfl, rfl⟩, if_pos ⟨rfl, by omega⟩]
      · rw [if_neg (fun q => d q.2)]
        by_cases e : h < i
        · rw [cX_c e, if_pos ⟨rfl, by omega⟩]
        · rw [if_neg (fun q => by omega)]; exact if_neg (fun q => e q.2)
    · rw [if_neg (fun q => c q.1), if_neg (fun q => c q.1), cX_co c]
theorem cS_V (hV : kV J S fr) : kV J (cS k fr S) k := by
  intro h hh
  rw [show sZ (cS k fr S) k = sZ S fr from cX_z] at hh
  rw [show sC (cS k fr S) k h = sC S fr h from cX_c hh]; exact hV h hh
theorem cS_Vo {a : Nat} (n : a ≠ k) (hV : kV J S a) : kV J (cS k fr S) a := by
  intro h hh
  rw [show sZ (cS k fr S) a = sZ S a from cX_zo n] at hh
  rw [show sC (cS k fr S) a h = sC S a h from cX_co n]; exact hV h hh
variable {w0 : zX} {w : zW} {T : aT} {H : Nat → Int32}
theorem become_L (hk : k < 10) (hf : fr < 10) (hne : fr ≠ k) (hz : sZ S fr ≤ 64) : ∀ m N i w, i + m = sZ S fr → m < N → uC w0 J (cX k fr i S) T H w → Ok (fX2_become_L7 (oP k) (oP fr) N (nI i) w) (fun _ w' => uC w0 J (cS k fr S) T H w') := by
  intro m
  induction m with
  | zero =>
    intro N i w hm hN h
    obtain ⟨N, rfl⟩ : ∃ k, N = k + 1 := ⟨N - 1, by omega⟩
    rw [fX2_become_L7.eq_2, uC_z h hf, cX_zo hne, if_pos (by rw [show i = sZ S fr by omega]; exact Int32.le_refl _)]
    refine ok_r ?_
    unfold cS
    rw [← show i = sZ S fr by omega]; exact h
  | succ m ih =>
    intro N i w hm hN h
    obtain ⟨N, rfl⟩ : ∃ k, N = k + 1 := ⟨N - 1, by omega⟩
    have hl := zl_k fr hf
    have hb := (h.2.1 fr hf).2 i (by rw [cX_zo hne]; omega)
    rw [cX_co hne] at hb
    have hzk := uC_z h hk
    rw [cX_z] at hzk
    have h2 := uC_q (v := (sC S fr i).1) (p := (sC S fr i).2.1) (q := (sC S fr i).2.2.1) h hk (by rw [cX_z]; omega) (sC S fr i).2.2.2
    rw [cX_z] at h2
    rw [fX2_become_L7.eq_2, uC_z h hf, cX_zo hne, if_neg (Int32.not_le.mpr (nI_lt (by omega) (by omega))), ati_s w hl.1 (by omega) (by decide), bd_s, at7 w hl.2.1 (by omega) (by decide), bd_s, at7 w hl.2.2.1 (by omega) (by decide), bd_s, ati_s w hl.2.2.2 (by omega) (by decide), bd_s, hb.1, hb.2.1, hb.2.2.1, hb.2.2.2, grow_s hk (by omega) hzk, bd_s, nI_1]
    refine ih N (i + 1) _ (by omega) (by omega) ?_
    rw [← cX_s]; exact h2
theorem become2_s (h : uC w0 J S T H w) (hk : k < 10) (hf : fr < 10) (hne : fr ≠ k) (hz : sZ S fr ≤ 64) : Ok (fX2_become (oP k) (oP fr) w) (fun _ w' => uC w0 J (cS k fr S) T H w') := by
  rw [fX2_become, lt_e]
  exact become_L hk hf hne hz (sZ S fr) zFU 0 _ (by omega) (by rw [show zFU = 18446744073709551616 from rfl]; omega) (by rw [cX_0]; exact uC_Z h hk (Nat.zero_le _))
theorem become_s (h : uC w0 J S T H w) {j t : Nat} (hj : j < 5) (ht : t < 5) (hne : t ≠ j) (hz : aN S t ≤ 64) : Ok (fX1_become (LN j) (LN t) w) (fun _ w' => uC w0 J (bL j t S) T H w') := by
  unfold aN at hz
  rw [fX1_become, LN_0, LN_0, LN_1, LN_1]
  refine ok_b (become2_s h (by omega) (by omega) (by omega) (by omega)) (fun _ w1 a1 => ?_)
  refine ok_b (become2_s a1 (k := 2 * j + 1) (fr := 2 * t + 1) (by omega) (by omega) (by omega) ?_) (fun _ w2 a2 => ok_r a2)
  rw [show sZ (cS (2 * j) (2 * t) S) (2 * t + 1) = _ from cX_zo (by omega)]; omega
theorem remake_L68 (hW : jW J) {e : Int32} {g : Nat → Nat} {n : Nat} (hk : k < 10) (he : e = nI (k % 2)) (hV : kV J S k) (hz : sZ S k + n ≤ 64) (hg : ∀ i, i < n → H i = nI (g i) ∧ g i < 10000) : ∀ m N i w, i + m = n → m < N → uC w0 J (qS J k g i S) T H w → Ok (fX6_remake_L68 (oP k) e (nI n) N (nI i) w) (fun _ w' => uC w0 J (qS J k g n S) T H w') := by
  intro m
  induction m with
  | zero =>
    intro N i w hm hN h
    obtain ⟨N, rfl⟩ : ∃ k, N = k + 1 := ⟨N - 1, by omega⟩
    rw [fX6_remake_L68.eq_2, show i = n by omega, if_pos (Int32.le_refl _)]
    exact ok_r (by rw [← show i = n by omega]; exact h)
  | succ m ih =>
    intro N i w hm hN h
    obtain ⟨N, rfl⟩ : ∃ k, N = k + 1 := ⟨N - 1, by omega⟩
    rw [fX6_remake_L68.eq_2, if_neg (Int32.not_le.mpr (nI_lt (by omega) (by omega))), ati_s w zl_5 (by omega) (by decide), bd_s, h.2.2.2.2.1, (hg i (by omega)).1]
    refine ok_b (make_s hW h hk he (hg i (by omega)).2 (by rw [qS_z]; omega) (qS_V hW hV _ (fun x hx => (hg x (by omega)).2))) (fun _ w' h' => ?_)
    rw [nI_1]
    exact ih N (i + 1) w' (by omega) (by omega) h'
theorem remake_L12 (hW : jW J) {e iv : Int32} {st hg : Nat} {ov : Option Nat} (hk : k < 10) (he : e = nI (k % 2)) (hV : kV J S k) (hst : st ≤ sZ S k) (hhg : hg ≤ sZ S k) (h64 : sZ S k ≤ 64) (hz : st + oN ov + (sZ S k - hg) ≤ 64) (hov : (ov = none ∧ iv = -1) ∨ ∃ v, ov = some v ∧ iv = nI v ∧ v < 10000) : ∀ m N i w (H : Nat → Int32), i + m = sZ S k - hg → m < N → (∀ x, x < i → H x = nI (sC S k (hg + x)).1) → uC w0 J S T H w → Ok (fX6_remake_L12 (oP k) e (nI st) iv (nI hg) (nI (sZ S k - hg)) N (nI i) w) (fun _ w' => ∃ H', uC w0 J (eS J k st ov hg S) T H' w') := by
  intro m
  induction m with
  | zero =>
    intro N i w H hm hN hH h
    obtain ⟨N, rfl⟩ : ∃ k, N = k + 1 := ⟨N - 1, by omega⟩
    rw [fX6_remake_L12.eq_2, show i = sZ S k - hg by omega, if_pos (Int32.le_refl _), lt_e, lt_e]
    have a1 := uC_Z h hk hst
    have hgx : ∀ x, x < sZ S k - hg → H x = nI (sC S k (hg + x)).1 ∧ (sC S k (hg + x)).1 < 10000 := fun x hx => ⟨hH x (by omega), (hV _ (by omega)).1⟩
    have hV1 : kV J (zS k st S) k := zS_Vl hst hV
    have fin : ∀ S2 w2, uC w0 J S2 T H w2 → kV J S2 k → sZ S2 k + (sZ S k - hg) ≤ 64 → Ok (fX6_remake_L68 (oP k) e (nI (sZ S k - hg)) zFU (0 : Int32) w2) (fun _ w' => uC w0 J (qS J k (fun x => (sC S k (hg + x)).1) (sZ S k - hg) S2) T H w') := fun S2 w2 a2 v2 z2 =>
      remake_L68 hW hk he v2 z2 hgx (sZ S k - hg) zFU 0 w2 (by omega) (by rw [show zFU = 18446744073709551616 from rfl]; omega) a2
    rcases hov with ⟨rfl, rfl⟩ | ⟨v, rfl, rfl, hv⟩
    · rw [if_pos rfl]
      exact ok_m (fin _ _ a1 hV1 (by rw [zS_z]; unfold oN at hz; omega)) (fun _ w' a => ⟨_, a⟩)
    · rw [show oN (some v) = 1 from rfl] at hz
      rw [if_neg (fun q => nI_pos (n := v) (by omega) (by rw [q]; decide))]
      refine ok_b (make_s hW a1 hk he hv (by rw [zS_z]; omega) hV1) (fun _ w2 a2 => ?_)
      exact ok_m (fin _ _ a2 (mS_V hW hv hV1) (by rw [mS_z, zS_z]; omega)) (fun _ w' a => ⟨_, a⟩)
  | succ m ih =>
    intro N i w H hm hN hH h
    obtain ⟨N, rfl⟩ : ∃ k, N = k + 1 := ⟨N - 1, by omega⟩
    rw [fX6_remake_L12.eq_2, if_neg (Int32.not_le.mpr (nI_lt (by omega) (by omega))), nI_add, ati_s w (zl_k k hk).1 (by omega) (by decide), bd_s, seti_s w _ zl_5 (by omega) (by decide), bd_s, nI_1]
    refine ih N (i + 1) _ _ (by omega) (by omega) (fun x hx => ?_) (uC_5 h)
    by_cases c : x = i
    · rw [if_pos c, c]; exact ((h.2.1 k hk).2 _ (by omega)).1
    · rw [if_neg c]; exact hH x (by omega)
theorem remake_s (hW : jW J) (h : uC w0 J S T H w) {e iv : Int32} {st hg : Nat} {ov : Option Nat} (hk : k < 10) (he : e = nI (k % 2)) (hV : kV J S k) (hst : st ≤ sZ S k) (hhg : hg ≤ sZ S k) (h64 : sZ S k ≤ 64) (hz : st + oN ov + (sZ S k - hg) ≤ 64) (hov : (ov = none ∧ iv = -1) ∨ ∃ v, ov = some v ∧ iv = nI v ∧ v < 10000) : Ok (fX6_remake (oP k) e (nI st) iv (nI hg) w) (fun _ w' => ∃ H', uC w0 J (eS J k st ov hg S) T H' w') := by
  rw [fX6_remake, uC_z h hk, lt_e, pk_sub hhg]
  exact remake_L12 hW hk he hV hst hhg h64 hz hov (sZ S k - hg) zFU 0 w H (by omega) (by rw [show zFU = 18446744073709551616 from rfl]; omega) (fun x hx => absurd hx (Nat.not_lt_zero x)) h
end R4
section TL
variable {w0 : zX} {w : zW} {J : aJ} {S : aS} {T : aT} {H : Nat → Int32}
theorem uC_t {k j : Nat} {v : Int32} (h : uC w0 J S T H w) (hk : k = 0 ∨ k = 66) : uC w0 J S T H (zsI w k j v) := uC_I h (by unfold fC; omega)
theorem tellMore_s (h : uC w0 J S T H w) (a : Int64) : Ok (fX7_tellMore a w) (fun _ w' => uC w0 J S T H w') := by
  rw [fX7_tellMore]
  refine ok_i (fun _ => ok_r h) (fun h1 => ok_i (fun _ => ok_r h) (fun h2 => ok_g (zin_ok (by decide) h1 h2) (ok_r (uC_t (uC_L h (by unfold gC; omega)) (.inl rfl)))))
theorem tell1_s (h : uC w0 J S T H w) (a : Int64) : Ok (fX7_tell a w) (fun _ w' => uC w0 J S T H w') := by
  rw [fX7_tell, lt_e]
  exact ok_b (tellMore_s (uC_t h (.inl rfl)) a) (fun _ w1 a1 => ok_r a1)
theorem tell2_s (h : uC w0 J S T H w) (a b : Int64) : Ok (fX7_tell_ a b w) (fun _ w' => uC w0 J S T H w') := by
  rw [fX7_tell_]
  exact ok_b (tell1_s h a) (fun _ w1 a1 => ok_b (tellMore_s a1 b) (fun _ w1 a1 => ok_r a1))
theorem tell3_s (h : uC w0 J S T H w) (a b c : Int64) : Ok (fX7_tell__ a b c w) (fun _ w' => uC w0 J S T H w') := by
  rw [fX7_tell__]
  exact ok_b (tell2_s h a b) (fun _ w1 a1 => ok_b (tellMore_s a1 c) (fun _ w1 a1 => ok_r a1))
theorem tell4_s (h : uC w0 J S T H w) (a b c d : Int64) : Ok (fX7_tell___ a b c d w) (fun _ w' => uC w0 J S T H w') := by
  rw [fX7_tell___]
  exact ok_b (tell3_s h a b c) (fun _ w1 a1 => ok_b (tellMore_s a1 d) (fun _ w1 a1 => ok_r a1))
end TL
