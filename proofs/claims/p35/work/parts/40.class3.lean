set_option maxRecDepth 16384
def rS (J : aJ) (j : Nat) (S : aS) : aS := lS J j (aI S j) (sZ S (2 * j)) (aN S j) S
def rL (J : aJ) : Nat → aS → aS
  | 0, S => S
  | i + 1, S => rS J i (rL J i S)
def hF (n e : Nat) : Nat := if e = 0 then (n + 1) / 2 else n - (n + 1) / 2
def tR (J : aJ) (j e : Nat) (S : aS) : aS := if sZ S (2 * j + e) = 0 then bS (lS J j (aI S j) (hF (aN S j) e) (aN S j) S) else S
def tS (J : aJ) (j e : Nat) (S : aS) : aS := zS (2 * j + e) (sZ (tR J j e S) (2 * j + e) - 1) (tR J j e S)
def tI (J : aJ) (j e : Nat) (S : aS) : Nat := (sC (tR J j e S) (2 * j + e) (sZ (tR J j e S) (2 * j + e) - 1)).1
def sP (J : aJ) (j k t : Nat) (S : aS) : aS := lS J t (fun i => aI S j (k + i)) ((aN S j - k + 1) / 2) (aN S j - k) (lS J j (aI S j) ((k + 1) / 2) k S)
def vS (J : aJ) (j : Nat) (S : aS) : aS := lS J j (fun x => aI S j (aN S j - 1 - x)) (sZ S (2 * j + 1)) (aN S j) S
def eS (J : aJ) (k stay : Nat) (ov : Option Nat) (hg : Nat) (S : aS) : aS := qS J k (fun x => (sC S k (hg + x)).1) (sZ S k - hg) (match ov with | none => zS k stay S | some v => mS J k v (zS k stay S))
def cX (k fr i : Nat) (S : aS) : aS := (fun a => if a = k then i else sZ S a, fun a h => if a = k ∧ h < i then sC S fr h else sC S a h, S.2.2)
def cS (k fr : Nat) (S : aS) : aS := cX k fr (sZ S fr) S
def bL (j t : Nat) (S : aS) : aS := cS (2 * j + 1) (2 * t + 1) (cS (2 * j) (2 * t) S)
section IT
variable {S : aS} {j : Nat}
theorem aI_l (h0 : kI S (2 * j)) (h1 : kI S (2 * j + 1)) {i : Nat} (hi : i < aN S j) : aI S j i < 10000 := by
  have hp := pH_l hi
  unfold aI
  unfold pK at hp ⊢
  by_cases c : sZ S (2 * j) ≤ i
  · rw [if_pos c] at hp ⊢; exact h1 _ hp
  · rw [if_neg c] at hp ⊢; exact h0 _ hp
theorem rS_z {J : aJ} (a : Nat) : sZ (rS J j S) a = sZ S a := by
  unfold rS
  by_cases h0 : a = 2 * j
  · subst h0; exact lS_z0
  · by_cases h1 : a = 2 * j + 1
    · subst h1; rw [lS_z1]; unfold aN; omega
    · exact lS_zo h0 h1
theorem rL_z {J : aJ} (i a : Nat) : sZ (rL J i S) a = sZ S a := by
  induction i with
  | zero => rfl
  | succ i ih => show sZ (rS J i (rL J i S)) a = _; rw [rS_z, ih]
theorem rL_n {J : aJ} (i j : Nat) : aN (rL J i S) j = aN S j := by unfold aN; rw [rL_z, rL_z]
theorem rL_I {J : aJ} {a : Nat} (i : Nat) (h : 2 * i ≤ a) (hI : kI S a) : kI (rL J i S) a := by
  induction i with
  | zero => exact hI
  | succ i ih => exact lS_Io (by omega) (by omega) (ih (by omega))
theorem rL_V {J : aJ} (hW : jW J) {i a : Nat} (h : a < 2 * i) (hI : ∀ a, a < 2 * i → kI S a) : kV J (rL J i S) a := by
  induction i with
  | zero => omega
  | succ i ih =>
    show kV J (rS J i (rL J i S)) a
    have h0 : kI (rL J i S) (2 * i) := rL_I i (by omega) (hI _ (by omega))
    have h1 : kI (rL J i S) (2 * i + 1) := rL_I i (by omega) (hI _ (by omega))
    by_cases c : a < 2 * i
    · exact lS_Vo (by omega) (by omega) (ih c (fun b hb => hI b (by omega)))
    · rcases (show a = 2 * i ∨ a = 2 * i + 1 by omega) with rfl | rfl
      · exact lS_V0 hW (by unfold aN; omega) (fun x hx => aI_l h0 h1 hx)
      · exact lS_V1 hW (fun x hx => aI_l h0 h1 hx)
end IT
section C3
variable {w0 : zX} {w : zW} {J : aJ} {S : aS} {T : aT} {H : Nat → Int32} {j : Nat}
theorem put_s (hW : jW J) (h : uC w0 J S T H w) (hj : j < 5) {e v : Nat} (he : e < 2) (hv : v < 10000) (hs : sZ S (2 * j + e) < 64) (hV : kV J S (2 * j + e)) : Ok (fX6_put (LN j) (nI e) (nI v) w) (fun _ w' => uC w0 J (mS J (2 * j + e) v S) T H w') := by
  rw [fX6_put, LN_e he, bd_s]
  exact ok_b (make_s hW h (by omega) (by rw [show (2 * j + e) % 2 = e by omega]) hv hs hV) (fun _ w' h' => ok_r h')
theorem lies_s (hW : jW J) (h : uC w0 J S T H w) (hj : j < 5) (hz : aN S j ≤ 64) (h0 : kI S (2 * j)) (h1 : kI S (2 * j + 1)) : Ok (fX6_layAsItLies (LN j) w) (fun _ w' => ∃ H', uC w0 J (rS J j S) T H' w') := by
  rw [fX6_layAsItLies]
  refine ok_b (hold_s h hj hz) (fun _ w1 a1 => ?_)
  rw [size_s a1 hj, bd_s, LN_0, uC_z a1 (by omega)]
  refine ok_b (lay_s hW a1 hj (g := aI S j) (fr := 0) hz (by unfold aN; omega) (by omega) (fun i hi => ⟨by rw [Nat.zero_add]; exact hH_a hi, aI_l h0 h1 hi⟩)) (fun _ w2 a2 => ok_r ⟨_, a2⟩)
theorem lineAt_m (w : zW) {j : Nat} (hj : j < 4) : fX7_lineAt (nI j) w = some (some (LN j), w) := lineAt_s w hj
theorem all_L (hW : jW J) (hz : ∀ j, j < 4 → aN S j ≤ 64) (hI : ∀ a, a < 8 → kI S a) : ∀ m N i w, i + m = 4 → m < N → (∃ H', uC w0 J (rL J i S) T H' w) → Ok (fX7_layAllAnew_L2 N (nI i) w) (fun _ w' => ∃ H', uC w0 J (rL J 4 S) T H' w') := by
  intro m
  induction m with
  | zero =>
    intro N i w hm hN h
    obtain ⟨N, rfl⟩ : ∃ k, N = k + 1 := ⟨N - 1, by omega⟩
    rw [fX7_layAllAnew_L2.eq_2, show i = 4 by omega, if_pos (Int32.le_refl _)]
    exact ok_r (by rw [← show i = 4 by omega]; exact h)
  | succ m ih =>
    intro N i w hm hN h
    obtain ⟨N, rfl⟩ : ∃ k, N = k + 1 := ⟨N - 1, by omega⟩
    obtain ⟨H', h⟩ := h
    rw [fX7_layAllAnew_L2.eq_2, if_neg (Int32.not_le.mpr (nI_lt (by omega) (by decide))), lineAt_m w (by omega), bd_s, oc_s, lt_e]
    refine ok_b (lies_s hW h (by omega) (by rw [rL_n]; exact hz i (by omega)) (rL_I i (by omega) (hI _ (by omega))) (rL_I i (by omega) (hI _ (by omega)))) (fun _ w1 a1 => ?_)
    rw [nI_1]
    exact ih N (i + 1) w1 (by omega) (by omega) a1
theorem all_s (hW : jW J) (h : uC w0 J S T H w) (hz : ∀ j, j < 4 → aN S j ≤ 64) (hI : ∀ a, a < 8 → kI S a) : Ok (fX7_layAllAnew w) (fun _ w' => ∃ H', uC w0 J (rL J 4 S) T H' w') :=
  all_L hW hz hI 4 zFU 0 w (by omega) (by rw [show zFU = 18446744073709551616 from rfl]; omega) ⟨H, h⟩
theorem tR_z (e : Nat) (he : e < 2) (hn : 0 < aN S j) : 0 < sZ (tR J j e S) (2 * j + e) ∧ aN (tR J j e S) j = aN S j := by
  unfold tR
  by_cases c : sZ S (2 * j + e) = 0
  · rw [if_pos c]
    have hf : hF (aN S j) e ≤ aN S j := by unfold hF; split <;> omega
    have hN : aN (bS (lS J j (aI S j) (hF (aN S j) e) (aN S j) S)) j = aN S j := by
      show sZ (lS J j (aI S j) (hF (aN S j) e) (aN S j) S) (2 * j) + sZ (lS J j (aI S j) (hF (aN S j) e) (aN S j) S) (2 * j + 1) = _
      rw [lS_z0, lS_z1]; omega
    refine ⟨?_, hN⟩
    show 0 < sZ (lS J j (aI S j) (hF (aN S j) e) (aN S j) S) (2 * j + e)
    rcases (show e = 0 ∨ e = 1 by omega) with rfl | rfl
    · rw [show 2 * j + 0 = 2 * j from rfl, lS_z0]; unfold hF; rw [if_pos rfl]; omega
    · rw [lS_z1]; unfold hF; rw [if_neg (by omega)]; omega
  · rw [if_neg c]; exact ⟨by omega, rfl⟩
theorem tR_V (hW : jW J) {e : Nat} (h0 : kV J S (2 * j)) (h1 : kV J S (2 * j + 1)) : kV J (tR J j e S) (2 * j) ∧ kV J (tR J j e S) (2 * j + 1) := by
  unfold tR
  by_cases c : sZ S (2 * j + e) = 0
  · rw [if_pos c]
    have hf : hF (aN S j) e ≤ aN S j := by unfold hF; split <;> omega
    exact ⟨fun x hx => lS_V0 hW hf (fun i hi => aI_l (kV_I h0) (kV_I h1) hi) x hx, fun x hx => lS_V1 hW (fun i hi => aI_l (kV_I h0) (kV_I h1) hi) x hx⟩
  · rw [if_neg c]; exact ⟨h0, h1⟩
theorem tR_o {e a : Nat} (h0 : a ≠ 2 * j) (h1 : a ≠ 2 * j + 1) : sZ (tR J j e S) a = sZ S a ∧ ∀ h, sC (tR J j e S) a h = sC S a h := by
  unfold tR
  by_cases c : sZ S (2 * j + e) = 0
  · rw [if_pos c]; exact ⟨lS_zo h0 h1, fun h => lS_co h0 h1⟩
  · rw [if_neg c]; exact ⟨rfl, fun _ => rfl⟩
theorem two_d {n : Nat} (h : n < 2 ^ 30) : (nI n + 1) / (2 : Int32) = nI ((n + 1) / 2) := by rw [nI_1]; exact divN (D := 2) (d := 2) rfl (by omega) (by decide) (by decide)
theorem take_s (hW : jW J) (h : uC w0 J S T H w) (hj : j < 5) {e : Nat} (he : e < 2) (hz : aN S j ≤ 64) (hn : 0 < aN S j) (h0 : kV J S (2 * j)) (h1 : kV J S (2 * j + 1)) : Ok (fX6_take (LN j) (nI e) w) (fun a w' => a = nI (tI J j e S) ∧ ∃ H', uC w0 J (tS J j e S) T H' w') := by
  have hk : 2 * j + e < 10 := by omega
  rw [fX6_take, LN_e he, bd_s, size_s h hj, bd_s, lt_e, uC_z h hk]
  -- the top goes
  have top : ∀ w1 H1, uC w0 J (tR J j e S) T H1 w1 → Ok (if ¬ zI w1 (oP (2 * j + e)) 0 = 0 then lt (zsI w1 (oP (2 * j + e)) 0 (zI w1 (oP (2 * j + e)) 0 - 1)) fun w9 => bd (fX7_at (oP (2 * j + e) + 1) (zI w9 (oP (2 * j + e)) 0) w9) fun v12 w10 => some (v12, w10) else some ((-1 : Int32), w1)) (fun a w' => a = nI (tI J j e S) ∧ ∃ H', uC w0 J (tS J j e S) T H' w') := by
    intro w1 H1 a1
    have ht := tR_z (J := J) (S := S) (j := j) e he hn
    have hl : sZ (tR J j e S) (2 * j + e) ≤ 64 := by
      have h2 := ht.2
      unfold aN at h2 hz
      rcases (show e = 0 ∨ e = 1 by omega) with rfl | rfl
      · show sZ (tR J j 0 S) (2 * j) ≤ 64; omega
      · omega
    have hz1 := uC_z a1 hk
    generalize hgm : sZ (tR J j e S) (2 * j + e) = m at *
    obtain ⟨m, rfl⟩ : ∃ x, m = x + 1 := ⟨m - 1, by omega⟩
    have a2 := uC_Z a1 (k := 2 * j + e) (n := m) hk (by omega)
    rw [hz1, if_pos (nI_ne0 (by omega) (by omega)), lt_e, nI_pred, zI_zsI, if_pos ⟨rfl, rfl⟩, ati_s _ (zl_k _ hk).1 (by omega) (by decide), bd_s]
    have hc := ((a1.2.1 _ hk).2 m (by omega)).1
    refine ok_r ⟨?_, H1, ?_⟩
    · rw [zI_zsI, if_neg (by omega), hc]; unfold tI; rw [hgm]; rfl
    · unfold tS; rw [hgm]; exact a2
  by_cases c : sZ S (2 * j + e) = 0
  · rw [c, if_neg (show ¬ ¬ nI 0 = 0 from not_not_intro rfl), if_neg (show ¬ nI (aN S j) ≤ 0 from nI_nle hn (by omega)), lt_e, two_d (by omega)]
    refine ok_b (hold_s h hj hz) (fun _ w1 a1 => ?_)
    have hf : hF (aN S j) e ≤ aN S j := by unfold hF; split <;> omega
    have he2 : (if ¬ nI e = (0 : Int32) then nI (aN S j) - nI ((aN S j + 1) / 2) else nI ((aN S j + 1) / 2)) = nI (hF (aN S j) e) := by
      unfold hF
      rcases (show e = 0 ∨ e = 1 by omega) with rfl | rfl
      · rw [if_neg (show ¬ ¬ nI 0 = 0 from not_not_intro rfl), if_pos rfl]
      · rw [if_pos (show ¬ nI 1 = 0 by decide), if_neg (by omega), pk_sub (by omega)]
    rw [lt_e, he2]
    refine ok_b (lay_s hW a1 hj (g := aI S j) (fr := 0) hz hf (by omega) (fun i hi => ⟨by rw [Nat.zero_add]; exact hH_a hi, aI_l (kV_I h0) (kV_I h1) hi⟩)) (fun _ w2 a2 => ?_)
    rw [lt_e]
    refine top _ (hH (aI S j) (aN S j) H) ?_
    unfold tR
    rw [if_pos c]
    exact uC_B a2
  · rw [if_pos (nI_ne0 (by omega) (by unfold aN at hz; rcases (show e = 0 ∨ e = 1 by omega) with rfl | rfl <;> (first | omega | (show sZ S (2 * j) < _; omega))))]
    refine top _ H ?_
    unfold tR
    rw [if_neg c]; exact h
theorem split_s (hW : jW J) (h : uC w0 J S T H w) (hj : j < 5) {t k : Nat} (ht : t < 5) (hne : t ≠ j) (hk : k ≤ aN S j) (hz : aN S j ≤ 64) (h0 : kI S (2 * j)) (h1 : kI S (2 * j + 1)) : Ok (fX6_split (LN j) (nI k) (LN t) w) (fun _ w' => ∃ H', uC w0 J (sP J j k t S) T H' w') := by
  rw [fX6_split, size_s h hj, bd_s, lt_e, pk_sub hk, two_d (by omega), two_d (by omega)]
  refine ok_b (hold_s h hj hz) (fun _ w1 a1 => ?_)
  refine ok_b (lay_s hW a1 hj (g := aI S j) (fr := 0) (by omega) (by omega) (by omega) (fun i hi => ⟨by rw [Nat.zero_add]; exact hH_a (by omega), aI_l h0 h1 (by omega)⟩)) (fun _ w2 a2 => ?_)
  refine ok_b (lay_s hW a2 ht (g := fun i => aI S j (k + i)) (fr := k) (by omega) (by omega) (by omega) (fun i hi => ⟨hH_a (by omega), aI_l h0 h1 (by omega)⟩)) (fun _ w3 a3 => ok_r ⟨_, a3⟩)
theorem turn_L (hW : jW J) (hj : j < 5) (hz : aN S j ≤ 64) (h0 : kI S (2 * j)) (h1 : kI S (2 * j + 1)) : ∀ m N i w (H : Nat → Int32), i + m = aN S j → m < N → (∀ x, aN S j ≤ x + i → x < aN S j → H x = nI (aI S j (aN S j - 1 - x))) → uC w0 J S T H w → Ok (fX6_turn_L7 (LN j) (nI (aN S j)) N (nI i) w) (fun _ w' => ∃ H', uC w0 J (vS J j S) T H' w') := by
  intro m
  induction m with
  | zero =>
    intro N i w H hm hN hH h
    obtain ⟨N, rfl⟩ : ∃ k, N = k + 1 := ⟨N - 1, by omega⟩
    rw [fX6_turn_L7.eq_2, show i = aN S j by omega, if_pos (Int32.le_refl _), LN_1, uC_z h (by omega)]
    refine ok_b (lay_s hW h hj (g := fun x => aI S j (aN S j - 1 - x)) (fr := 0) hz (by unfold aN; omega) (by omega) (fun i hi => ⟨by rw [Nat.zero_add]; exact hH _ (by omega) hi, aI_l h0 h1 (by omega)⟩)) (fun _ w2 a2 => ok_r ⟨_, a2⟩)
  | succ m ih =>
    intro N i w H hm hN hH h
    obtain ⟨N, rfl⟩ : ∃ k, N = k + 1 := ⟨N - 1, by omega⟩
    rw [fX6_turn_L7.eq_2, if_neg (Int32.not_le.mpr (nI_lt (by omega) (by omega))), itemAt_s h hj hz (by omega), bd_s, show (1 : Int32) = nI 1 from rfl, pk_sub (by omega), pk_sub (by omega), seti_s w _ zl_5 (by omega) (by decide), bd_s, nI_add]
    refine ih N (i + 1) _ _ (by omega) (by omega) (fun x hx hx2 => ?_) (uC_5 h)
    by_cases c : x = aN S j - 1 - i
    · rw [if_pos c, c, show aN S j - 1 - (aN S j - 1 - i) = i by omega]
    · rw [if_neg c]; exact hH x (by omega) hx2
theorem turn_s (hW : jW J) (h : uC w0 J S T H w) (hj : j < 5) (hz : aN S j ≤ 64) (h0 : kI S (2 * j)) (h1 : kI S (2 * j + 1)) : Ok (fX6_turn (LN j) w) (fun _ w' => ∃ H', uC w0 J (vS J j S) T H' w') := by
  rw [fX6_turn, size_s h hj, bd_s]
  exact turn_L hW hj hz h0 h1 (aN S j) zFU 0 w H (by omega) (by rw [show zFU = 18446744073709551616 from rfl]; omega) (fun x hx hx2 => by omega) h
end C3
