set_option maxRecDepth 16384
section K3
variable {J : aJ} {S : aS} {T : aT} {w : zW}
theorem qS_1 {k m : Nat} {g : Nat → Nat} : qS J k g (m + 1) S = qS J k (fun x => g (x + 1)) m (mS J k (g 0) S) := by
  induction m with
  | zero => rfl
  | succ m ih => show mS J k (g (m + 1)) (qS J k g (m + 1) S) = mS J k (g (m + 1)) (qS J k (fun x => g (x + 1)) m (mS J k (g 0) S)); rw [ih]
/-- one new ITEM, then others -/
theorem eS_s {k st hg v n : Nat} {g : Nat → Nat} (hn : n = sZ S k - hg + 1) (h0 : g 0 = v) (hg1 : ∀ x, x < sZ S k - hg → g (x + 1) = (sC S k (hg + x)).1) : eS J k st (some v) hg S = qS J k g n (zS k st S) := by
  rw [hn, qS_1, h0]
  exact (qS_e _ hg1).symm
theorem eS_0 {k st hg n : Nat} {g : Nat → Nat} (hn : n = sZ S k - hg) (hg1 : ∀ x, x < sZ S k - hg → g x = (sC S k (hg + x)).1) : eS J k st none hg S = qS J k g n (zS k st S) := by
  rw [hn]
  exact (qS_e _ hg1).symm
theorem qz_W (hW : jW J) (h : sW J S) {j e st m : Nat} {g : Nat → Nat} (hj : j < 4) (he : e < 2) (hst : st ≤ sZ S (2 * j + e)) (hg : ∀ x, x < m → g x < 10000) (hn : aN S j - sZ S (2 * j + e) + st + m ≤ 64) : sW J (qS J (2 * j + e) g m (zS (2 * j + e) st S)) ∧ aN (qS J (2 * j + e) g m (zS (2 * j + e) st S)) j = aN S j - sZ S (2 * j + e) + st + m := by
  have hN : aN (qS J (2 * j + e) g m (zS (2 * j + e) st S)) j = aN S j - sZ S (2 * j + e) + st + m := by
    unfold aN
    rcases (show e = 0 ∨ e = 1 by omega) with rfl | rfl
    · show sZ (qS J (2 * j) g m (zS (2 * j) st S)) (2 * j) + sZ (qS J (2 * j) g m (zS (2 * j) st S)) (2 * j + 1) = sZ S (2 * j) + sZ S (2 * j + 1) - sZ S (2 * j) + st + m
      rw [qS_z, zS_z, qS_zo (by omega), zS_zo (by omega)]; omega
    · rw [qS_z, zS_z, qS_zo (by omega), zS_zo (by omega)]; omega
  refine ⟨sW_l h hj (fun a h0 h1 => by rw [qS_zo (by omega), zS_zo (by omega)]) (fun a h0 h1 x => by rw [qS_co _ (.inl (by omega))]; rfl) ?_ ?_ (by omega), hN⟩
  · rcases (show e = 0 ∨ e = 1 by omega) with rfl | rfl
    · exact qS_V hW (zS_Vl hst (h.2.1 (2 * j) (by omega))) m hg
    · exact qS_Vo (by omega) (zS_Vo (by omega) (h.2.1 (2 * j) (by omega))) m
  · rcases (show e = 0 ∨ e = 1 by omega) with rfl | rfl
    · exact qS_Vo (by omega) (zS_Vo (by omega) (h.2.1 (2 * j + 1) (by omega))) m
    · exact qS_V hW (zS_Vl hst (h.2.1 (2 * j + 1) (by omega))) m hg
theorem aI_f {j i : Nat} (h : i < sZ S (2 * j)) : aI S j i = (sC S (2 * j) (sZ S (2 * j) - 1 - i)).1 := by
  unfold aI pK pH
  rw [if_neg (by omega), if_neg (by omega)]
theorem aI_k {j i : Nat} (h : sZ S (2 * j) ≤ i) : aI S j i = (sC S (2 * j + 1) (i - sZ S (2 * j))).1 := by
  unfold aI pK pH
  rw [if_pos h, if_pos h]
theorem isAt_b {w0 : zX} {H : Nat → Int32} {j : Nat} (h : uD w0 J S T H w) (hj : j < 5) (hz : aN S j ≤ 64) (a : Int32) : ((a < 0 ∨ nI (aN S j) ≤ a) ∧ fX8_isAt (nI j) a w = some (false, w)) ∨ ∃ i, i < aN S j ∧ a = nI i ∧ fX8_isAt (nI j) a w = some (true, w) := by
  have e := sizeOf_s h hj
  rcases pk_ix a (n := aN S j) (by omega) with q | q | ⟨i, hi, rfl⟩
  · refine .inl ⟨.inl q, ?_⟩
    rw [fX8_isAt, e, bd_s, in_n w (.inl (show a.toInt64 < 0 from (toI64_lt (n := 0) (by decide)).mpr q)), bd_s]
  · refine .inl ⟨.inr q, ?_⟩
    have : (nI (aN S j) - 1).toInt64 < a.toInt64 := by
      have h2 := Int32.le_iff_toInt_le.mp q
      rw [nI_toInt (by omega)] at h2
      rw [Int64.lt_iff_toInt_lt, Int32.toInt_toInt64, Int32.toInt_toInt64, show (1 : Int32) = nI 1 from rfl, pk_sub_toInt (by omega) (by decide)]
      omega
    rw [fX8_isAt, e, bd_s, in_n w (.inr this), bd_s]
  · refine .inr ⟨i, hi, rfl, ?_⟩
    have h1 : (0 : Int64) ≤ (nI i).toInt64 := by
      rw [nI_l (by omega)]
      exact lN_0le (by omega)
    have h2 : (nI i).toInt64 ≤ (nI (aN S j) - 1).toInt64 := by
      rw [show (1 : Int32) = nI 1 from rfl, pk_sub (by omega), nI_l (by omega), nI_l (by omega)]
      exact (lN_le (by omega) (by omega)).mpr (by omega)
    rw [fX8_isAt, e, bd_s, in_s w h1 h2, bd_s]
/-- the front of the class's changes, slips, drops -/
theorem end_k {j i : Nat} : (nI (if sZ S (2 * j) ≤ i then 1 else 0)) = nI (pK S j i % 2) := by
  rw [pK_e]
  by_cases c : sZ S (2 * j) ≤ i
  · rw [if_pos c, show (2 * j + 1) % 2 = 1 by omega]
  · rw [if_neg c, show (2 * j + 0) % 2 = 0 by omega]
theorem pK_n {j i : Nat} : sZ S (pK S j i) ≤ aN S j := by
  unfold pK aN
  split <;> omega
theorem changes_b (h : rW J S T w) (a b c : Int32) : Bq (fX7_changes a b c) (fX8_changes a b c) Eq w := by
  obtain ⟨hW, hS, hT, ⟨H0, hC0⟩, H1, hD1⟩ := id h
  rcases ln a with hl | ⟨j, hj, rfl⟩
  · exact bq_x h (-1) (fun H hC => by rw [fX7_changes, lineAt_n w hl, bd_s, oc_n]) (fun w1 H hD => by rw [fX8_changes, lt_e, isLine_n _ hl, bd_s, ff])
  rcases im c with ⟨i7, i8⟩ | ⟨v, hv, rfl, i7, i8⟩
  · exact bq_x h (-1) (fun H hC => by rw [fX7_changes, lineAt_s w hj, bd_s, oc_s, i7, bd_s, ff]) (fun w1 H hD => by rw [fX8_changes, lt_e, isLine_s _ hj, bd_s, tt, i8, bd_s, ff])
  have hz := hS.1 j hj
  have hI : ∀ i, i < aN S j → aI S j i < 10000 := fun i hi => sI hS hj hi
  rcases pk_ix b (n := aN S j) (by omega) with q | q | ⟨i, hi, rfl⟩
  · refine bq_x h (-2) (fun H hC => by rw [fX7_changes, lineAt_s w hj, bd_s, oc_s, i7, bd_s, tt, if_pos q]) (fun w1 H hD => ?_)
    rcases isAt_b (uD_0 hD) (show j < 5 by omega) hz b with ⟨-, e⟩ | ⟨i, hi, rfl, e⟩
    · rw [fX8_changes, lt_e, isLine_s _ hj, bd_s, tt, i8, bd_s, tt, e, bd_s, ff]
    · exact absurd q (nI_pos (by omega))
  · refine bq_x h (-2) (fun H hC => ?_) (fun w1 H hD => ?_)
    · by_cases q0 : b < 0
      · rw [fX7_changes, lineAt_s w hj, bd_s, oc_s, i7, bd_s, tt, if_pos q0]
      · rw [fX7_changes, lineAt_s w hj, bd_s, oc_s, i7, bd_s, tt, if_neg q0, size_s hC (by omega), bd_s, if_neg (Int32.not_lt.mpr q)]
    rcases isAt_b (uD_0 hD) (show j < 5 by omega) hz b with ⟨-, e⟩ | ⟨i, hi, rfl, e⟩
    · rw [fX8_changes, lt_e, isLine_s _ hj, bd_s, tt, i8, bd_s, tt, e, bd_s, ff]
    · exact absurd (nI_lt hi (by omega)) (Int32.not_lt.mpr q)
  have e8 : ∀ {w0 w H}, uD w0 J S T H w → fX8_isAt (nI j) (nI i) w = some (true, w) := by
    intro w0 w H hD
    rcases isAt_b hD (show j < 5 by omega) hz (nI i) with ⟨q | q, -⟩ | ⟨_, _, _, e⟩
    · exact absurd q (nI_pos (by omega))
    · exact absurd (nI_lt hi (by omega)) (Int32.not_lt.mpr q)
    · exact e
  have hf : sZ S (2 * j) ≤ 64 := by unfold aN at hz; omega
  by_cases c : aI S j i = v
  · exact bq_x h (-4) (fun H hC => by rw [fX7_changes, lineAt_s w hj, bd_s, oc_s, i7, bd_s, tt, if_neg (nI_pos (by omega)), size_s hC (by omega), bd_s, if_pos (nI_lt hi (by omega)), itemAt_s hC (by omega) hz hi, bd_s, c, if_neg (not_not_intro rfl)]) (fun w1 H hD => by rw [fX8_changes, lt_e, isLine_s _ hj, bd_s, tt, i8, bd_s, tt, e8 (uD_0 hD), bd_s, tt, itemAt8_s (uD_0 hD) (by omega) hz hi, bd_s, c, if_neg (not_not_intro rfl)])
  have hne : ¬ nI (aI S j i) = nI v := fun q => c ((nI_eq (by have := hI i hi; omega) (by omega)).mp q)
  have hpH := pH_l hi
  have hpn := pK_n (S := S) (j := j) (i := i)
  have hkV : kV J S (pK S j i) := sW_V hS (pK_b (by omega))
  have hcls : ∀ H, uC (w, False) J S T H w → Ok (fX7_changes (nI j) (nI i) (nI v) w) (fun a w1 => a = nI (aI S j i) ∧ ∃ H', uC (w, False) J (eS J (pK S j i) (pH S j i) (some v) (pH S j i + 1) S) T H' w1) := by
    intro H hC
    rw [fX7_changes, lineAt_s w hj, bd_s, oc_s, i7, bd_s, tt, if_neg (nI_pos (by omega)), size_s hC (by omega), bd_s, if_pos (nI_lt hi (by omega)), itemAt_s hC (by omega) hz hi, bd_s, if_pos hne, lt_e, endOf_s hC (by omega) hf (by omega), bd_s, heightOf_s hC (by omega) hf (by omega), bd_s, pile_s hC (by omega) hf, bd_s, nI_1]
    refine ok_b (remake_s hW hC (ov := some v) (pK_b (by omega)) end_k hkV (by omega) (by omega) (by omega) (by rw [show oN (some v) = 1 from rfl]; omega) (.inr ⟨v, rfl, rfl, hv⟩)) (fun _ w2 a2 => ?_)
    obtain ⟨H', a2⟩ := a2
    exact ok_b (tell1_s a2 _) (fun _ w3 a3 => ok_r ⟨rfl, H', a3⟩)
  have e5 := d_in2 (show j < 5 by omega)
  by_cases cf : sZ S (2 * j) ≤ i
  · have hg : ∀ x, (fun x => if x = i then v else aI S j x) (i + x) < 10000 ∨ aN S j ≤ i + x := fun x => by
      by_cases q : i + x < aN S j
      · left; show (if i + x = i then v else aI S j (i + x)) < 10000
        split
        · exact hv
        · exact hI _ q
      · right; omega
    have hpk : pK S j i = 2 * j + 1 := if_pos cf
    have hph : pH S j i = i - sZ S (2 * j) := if_pos cf
    have hs1 : sZ S (2 * j + 1) = aN S j - sZ S (2 * j) := by unfold aN; omega
    rw [hpk, hph] at hcls
    rw [eS_s (n := aN S j - i) (g := fun x => (fun x => if x = i then v else aI S j x) (i + x)) (by omega) (if_pos rfl) (fun x hx => by
      show (if i + (x + 1) = i then v else aI S j (i + (x + 1))) = _
      rw [if_neg (by omega), aI_k (by omega), show i + (x + 1) - sZ S (2 * j) = i - sZ S (2 * j) + 1 + x by omega])] at hcls
    refine bq_e h J _ T hW (qz_W hW hS hj (e := 1) (by decide) (by omega) (fun x hx => (hg x).resolve_right (by omega)) (by omega)).1 hT (nI (aI S j i)) hcls (fun w1 H hD => ?_)
    have hD0 := uD_0 hD
    rw [fX8_changes, lt_e, isLine_s _ hj, bd_s, tt, i8, bd_s, tt, e8 hD0, bd_s, tt, itemAt8_s hD0 (by omega) hz hi, bd_s, if_pos hne, lt_e]
    refine ok_b (items_s hD0 (by omega) hz) (fun x w2 a2 => ?_)
    obtain ⟨rfl, a2⟩ := a2
    rw [e5.1, zg_t, lt_e, e5.2.2.1, uD_z a2 (by omega), zin_t (show i < 65 by omega) (by decide), zg_t, lt_e, nI_clamp (show i < 2 ^ 31 by omega), lt_e, if_pos ((nI_leI (by omega) (by omega)).mpr cf), e5.2.1, zg_t, lt_e, e5.2.2.2.1, pk_sub cf]
    dsimp only
    rw [if_pos ((nI_leI (by omega) (by omega)).mpr cf), lt_e]
    have a3 := uD_Z (uD_88 (j := i) (v := nI v) a2) (k := 2 * j + 1) (n := i - sZ S (2 * j)) (by omega) (by omega)
    refine ok_b (again1_s hW a3 (zB_z (sW_B hS) (by omega)) (g := fun x => if x = i then v else aI S j x) (n := aN S j) (a := i) (by omega) (zS_Vl (by omega) (sW_V hS (by omega))) (by omega) (by omega) (by rw [zS_z]; omega) (fun x hx1 hx2 => ?_)) (fun _ w3 a4 => ?_)
    · by_cases q : x = i
      · rw [if_pos q, if_pos q]; exact ⟨rfl, hv⟩
      · rw [if_neg q, if_neg q]; exact ⟨hH_a hx2, hI x hx2⟩
    · refine ok_b (tellsWork_s a4 _ _) (fun x w4 a5 => ok_r ⟨a5.1, _, a5.2⟩)
  · have hpk : pK S j i = 2 * j := if_neg cf
    have hph : pH S j i = sZ S (2 * j) - 1 - i := if_neg cf
    have hg : ∀ x, x < i + 1 → (if i + 1 - 1 - x = i then v else aI S j (i + 1 - 1 - x)) < 10000 := fun x hx => by
      split
      · exact hv
      · exact hI _ (by omega)
    rw [hpk, hph] at hcls
    rw [eS_s (n := i + 1) (g := fun x => (fun x => if x = i then v else aI S j x) (i + 1 - 1 - x)) (by omega) (if_pos (by omega)) (fun x hx => by
      show (if i + 1 - 1 - (x + 1) = i then v else aI S j (i + 1 - 1 - (x + 1))) = _
      rw [if_neg (by omega), aI_f (by omega), show sZ S (2 * j) - 1 - (i + 1 - 1 - (x + 1)) = sZ S (2 * j) - 1 - i + 1 + x by omega])] at hcls
    have hN0 : aN S j = sZ S (2 * j) + sZ S (2 * j + 1) := rfl
    refine bq_e h J _ T hW (qz_W hW hS hj (e := 0) (by decide) (show sZ S (2 * j) - 1 - i ≤ sZ S (2 * j) by omega) hg (show aN S j - sZ S (2 * j) + _ + _ ≤ 64 by omega)).1 hT (nI (aI S j i)) hcls (fun w1 H hD => ?_)
    have hD0 := uD_0 hD
    rw [fX8_changes, lt_e, isLine_s _ hj, bd_s, tt, i8, bd_s, tt, e8 hD0, bd_s, tt, itemAt8_s hD0 (by omega) hz hi, bd_s, if_pos hne, lt_e]
    refine ok_b (items_s hD0 (by omega) hz) (fun x w2 a2 => ?_)
    obtain ⟨rfl, a2⟩ := a2
    rw [e5.1, zg_t, lt_e, e5.2.2.1, uD_z a2 (by omega), zin_t (show i < 65 by omega) (by decide), zg_t, lt_e, nI_clamp (show i < 2 ^ 31 by omega), lt_e, if_neg (fun q => cf ((nI_leI (by omega) (by omega)).mp q)), zg_t, lt_e, show nI (sZ S (2 * j)) - 1 - nI i = nI (sZ S (2 * j) - 1 - i) by rw [show (1 : Int32) = nI 1 from rfl, pk_sub (by omega), pk_sub (by omega)]]
    dsimp only
    rw [if_neg (fun q => cf ((nI_leI (by omega) (by omega)).mp q)), lt_e]
    have a3 := uD_Z (uD_88 (j := i) (v := nI v) a2) (k := 2 * j) (n := sZ S (2 * j) - 1 - i) (by omega) (by omega)
    rw [show nI i = nI (i + 1) - 1 from (nI_pred i).symm]
    refine ok_b (again0_s hW a3 (zB_z (sW_B hS) (by omega)) (g := fun x => if x = i then v else aI S j x) (a := i + 1) (by omega) _ (zS_Vl (by omega) (sW_V hS (by omega))) (by omega) (by rw [zS_z]; omega) (fun x hx => ?_)) (fun _ w3 a4 => ?_)
    · by_cases q : x = i
      · rw [if_pos q, if_pos q]; exact ⟨rfl, hv⟩
      · rw [if_neg q, if_neg q]; exact ⟨hH_a (by omega), hI x (by omega)⟩
    · refine ok_b (tellsWork_s a4 _ _) (fun x w4 a5 => ok_r ⟨a5.1, _, a5.2⟩)
end K3
