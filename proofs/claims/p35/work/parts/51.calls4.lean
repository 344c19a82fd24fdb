set_option maxRecDepth 16384
section K4
variable {J : aJ} {S : aS} {T : aT} {w : zW}
theorem slips_L (hW : jW J) (hS : sW J S) {j i v : Nat} (hj : j < 4) (hi : i ≤ aN S j) (hn : aN S j < 64) (hv : v < 10000) {w0 : zX} {x5 : Int32} (P : Int32 → zW → Prop) (hP : ∀ (H : Nat → Int32) w, (∀ x, x ≤ aN S j → H x = nI (if x < i then aI S j x else if x = i then v else aI S j (x - 1))) → uD w0 J S T H w → Ok (lt (zI w 83 (2 * j)) fun v24 => lt (fun (w25 : zW) =>
        lt (if v24 ≤ nI i then (0 : Int32) else (1 : Int32)) fun v27 =>
        bd (fX8_makesAgain (nI j) v27 (nI i) (nI (aN S j) + (1 : Int32)) w25) fun _ w28 =>
        bd (fX8_tellsWork x5 (nI (aN S j) + (1 : Int32)) w28) fun v33 w31 =>
        some (v33, w31)) fun j25 =>
      if v24 ≤ nI i then
        zg (zin (((2 : Int32) * nI j) + (1 : Int32)) 10) <| lt (zsI w 83 (((2 : Int32) * nI j) + (1 : Int32)).toNatClampNeg (nI i - v24)) fun w35 =>
        j25 w35
      else
      zg (zin ((2 : Int32) * nI j) 10) <| lt (zsI w 83 ((2 : Int32) * nI j).toNatClampNeg (v24 - nI i)) fun w36 =>
      j25 w36) P) : ∀ m N w (H : Nat → Int32), i + m ≤ aN S j → m < N → (∀ x, (x < i + m → H x = nI (aI S j x)) ∧ (i + m < x → x ≤ aN S j → H x = nI (aI S j (x - 1)))) → uD w0 J S T H w → Ok (fX8_slips_L69 (nI j) (nI i) (nI v) (nI (aN S j)) x5 N (nI (i + m)) w) P := by
  have e5 := d_in2 (show j < 5 by omega)
  intro m
  induction m with
  | zero =>
    intro N w H hm hN hH h
    obtain ⟨N, rfl⟩ : ∃ k, N = k + 1 := ⟨N - 1, by omega⟩
    rw [fX8_slips_L69.eq_2, Nat.add_zero, if_pos (Int32.le_refl _), zin_t (show i < 65 by omega) (by decide), zg_t, lt_e, nI_clamp (show i < 2 ^ 31 by omega), e5.1, zg_t, e5.2.2.1]
    have h2 := uD_88 (j := i) (v := nI v) h
    have := hP _ _ (fun x hx => ?_) h2
    · rw [e5.1, e5.2.2.1] at this; exact this
    · by_cases c : x = i
      · rw [if_pos c, if_neg (by omega), if_pos c]
      · rw [if_neg c]
        by_cases d : x < i
        · rw [if_pos d]; exact (hH x).1 (by omega)
        · rw [if_neg d, if_neg c]; exact (hH x).2 (by omega) hx
  | succ m ih =>
    intro N w H hm hN hH h
    obtain ⟨N, rfl⟩ : ∃ k, N = k + 1 := ⟨N - 1, by omega⟩
    rw [fX8_slips_L69.eq_2, if_neg (Int32.not_le.mpr (nI_lt (by omega) (by omega))), show i + (m + 1) = (i + m) + 1 by omega, pk_m1, nI_pred, zin_t (show i + m < 65 by omega) (by decide), zg_t, zin_t (show i + m + 1 < 65 by omega) (by decide), zg_t, lt_e, nI_clamp (show i + m < 2 ^ 31 by omega), nI_clamp (show i + m + 1 < 2 ^ 31 by omega), h.2.2.2.2.1, (hH (i + m)).1 (by omega)]
    refine ih N _ _ (by omega) (by omega) (fun x => ⟨fun hx => ?_, fun hx hx2 => ?_⟩) (uD_88 h)
    · rw [if_neg (by omega)]; exact (hH x).1 (by omega)
    · by_cases c : x = i + m + 1
      · rw [if_pos c, c, show i + m + 1 - 1 = i + m by omega]
      · rw [if_neg c]; exact (hH x).2 (by omega) hx2
theorem slips_b (h : rW J S T w) (a b c : Int32) : Bq (fX7_slips a b c) (fX8_slips a b c) Eq w := by
  obtain ⟨hW, hS, hT, -, -⟩ := id h
  rcases ln a with hl | ⟨j, hj, rfl⟩
  · exact bq_x h (-1) (fun H hC => by rw [fX7_slips, lineAt_n w hl, bd_s, oc_n]) (fun w1 H hD => by rw [fX8_slips, lt_e, isLine_n _ hl, bd_s, ff])
  rcases im c with ⟨i7, i8⟩ | ⟨v, hv, rfl, i7, i8⟩
  · exact bq_x h (-1) (fun H hC => by rw [fX7_slips, lineAt_s w hj, bd_s, oc_s, i7, bd_s, ff]) (fun w1 H hD => by rw [fX8_slips, lt_e, isLine_s _ hj, bd_s, tt, i8, bd_s, ff])
  have hz := hS.1 j hj
  have hI : ∀ i, i < aN S j → aI S j i < 10000 := fun i hi => sI hS hj hi
  have hl8 : (nI (aN S j)).toInt64 = lN (aN S j) := nI_l (by omega)
  rcases inb b (lo := 0) (hi := aN S j) (by decide) (by omega) with ⟨h1, h2⟩ | ⟨h1, h1', h2⟩
  · have h3 : ∀ w, fX8_in b.toInt64 0 (nI (aN S j)).toInt64 w = some (false, w) := fun w => by rw [hl8]; exact h2 w
    refine bq_x h (-2) (fun H hC => ?_) (fun w1 H hD => by rw [fX8_slips, lt_e, isLine_s _ hj, bd_s, tt, i8, bd_s, tt, sizeOf_s (uD_0 hD) (by omega), bd_s, h3, bd_s, ff])
    by_cases q : b < 0
    · rw [fX7_slips, lineAt_s w hj, bd_s, oc_s, i7, bd_s, tt, if_pos q]
    · rw [fX7_slips, lineAt_s w hj, bd_s, oc_s, i7, bd_s, tt, if_neg q, size_s hC (by omega), bd_s, if_neg (Int32.not_le.mpr (h1.resolve_left q))]
  have h3 : ∀ w, fX8_in b.toInt64 0 (nI (aN S j)).toInt64 w = some (true, w) := fun w => by rw [hl8]; exact h2 w
  have hb0 : ¬ b < 0 := h1
  have hb1 : b ≤ nI (aN S j) := Int32.not_lt.mp h1'
  obtain ⟨i, hi, rfl⟩ : ∃ i, i ≤ aN S j ∧ b = nI i := by
    rcases i01 (by omega) h1' with q | q
    · exact absurd q hb0
    · exact q
  by_cases c64 : aN S j = 64
  · exact bq_x h (-3) (fun H hC => by rw [fX7_slips, lineAt_s w hj, bd_s, oc_s, i7, bd_s, tt, if_neg hb0, size_s hC (by omega), bd_s, if_pos hb1, size_s hC (by omega), bd_s, c64, if_neg (show ¬ nI 64 < 64 by decide)]) (fun w1 H hD => by rw [fX8_slips, lt_e, isLine_s _ hj, bd_s, tt, i8, bd_s, tt, sizeOf_s (uD_0 hD) (by omega), bd_s, h3, bd_s, tt, c64, if_neg (show ¬ ¬ nI 64 = 64 by decide)])
  have hlt : nI (aN S j) < 64 := nI_lt (b := 64) (by omega) (by decide)
  have hne : ¬ nI (aN S j) = 64 := fun q => c64 ((nI_eq (b := 64) (by omega) (by decide)).mp q)
  have hf : sZ S (2 * j) ≤ 64 := by unfold aN at hz; omega
  have e5 := d_in2 (show j < 5 by omega)
  have hN0 : aN S j = sZ S (2 * j) + sZ S (2 * j + 1) := rfl
  have hG : ∀ x, x ≤ aN S j → (if x < i then aI S j x else if x = i then v else aI S j (x - 1)) < 10000 := fun x hx => by
    by_cases q : x < i
    · rw [if_pos q]; exact hI x (by omega)
    · rw [if_neg q]
      by_cases q2 : x = i
      · rw [if_pos q2]; exact hv
      · rw [if_neg q2]; exact hI _ (by omega)
  by_cases cf : sZ S (2 * j) ≤ i
  · have hcf : nI (sZ S (2 * j)) ≤ nI i := (nI_leI (by omega) (by omega)).mpr cf
    have hS' := qz_W (J := J) (S := S) (g := fun x => (fun x => if x < i then aI S j x else if x = i then v else aI S j (x - 1)) (i + x)) hW hS hj (e := 1) (st := i - sZ S (2 * j)) (m := aN S j + 1 - i) (by decide) (by omega) (fun x hx => hG _ (by omega)) (by omega)
    refine bq_e h J _ T hW hS'.1 hT (nI (aN S j + 1)) (fun H hC => ?_) (fun w1 H hD => ?_)
    · rw [fX7_slips, lineAt_s w hj, bd_s, oc_s, i7, bd_s, tt, if_neg hb0, size_s hC (by omega), bd_s, if_pos hb1, size_s hC (by omega), bd_s, if_pos hlt, lt_e, endOf_s hC (by omega) hf (by omega), bd_s, if_pos cf, lt_e, if_pos (show ¬ nI 1 = 0 by decide), heightOf_s hC (by omega) hf (by omega), bd_s]
      dsimp only
      rw [LN_e (b := 1) (by decide), bd_s, show pH S j i = i - sZ S (2 * j) from if_pos cf]
      refine ok_b (remake_s hW hC (k := 2 * j + 1) (ov := some v) (by omega) (by rw [show (2 * j + 1) % 2 = 1 by omega]) (sW_V hS (by omega)) (by omega) (by omega) (by omega) (by rw [show oN (some v) = 1 from rfl]; omega) (.inr ⟨v, rfl, rfl, hv⟩)) (fun _ w2 a2 => ?_)
      obtain ⟨H', a2⟩ := a2
      refine ok_b (tell1_s a2 _) (fun _ w3 a3 => ?_)
      rw [eS_s (n := aN S j + 1 - i) (g := fun x => (fun x => if x < i then aI S j x else if x = i then v else aI S j (x - 1)) (i + x)) (by omega) (by show (if i + 0 < i then _ else if i + 0 = i then v else _) = v; rw [if_neg (by omega), if_pos (show i + 0 = i from rfl)]) (fun x hx => by
        show (if i + (x + 1) < i then _ else if i + (x + 1) = i then v else aI S j (i + (x + 1) - 1)) = _
        rw [if_neg (by omega), if_neg (by omega), aI_k (by omega), show i + (x + 1) - 1 - sZ S (2 * j) = i - sZ S (2 * j) + x by omega])] at a3
      rw [size_s a3 (by omega), bd_s, hS'.2]
      exact ok_r ⟨by rw [show aN S j - sZ S (2 * j + 1) + (i - sZ S (2 * j)) + (aN S j + 1 - i) = aN S j + 1 by omega], H', a3⟩
    · have hD0 := uD_0 hD
      rw [fX8_slips, lt_e, isLine_s _ hj, bd_s, tt, i8, bd_s, tt, sizeOf_s hD0 (by omega), bd_s, h3, bd_s, tt, if_pos hne, lt_e]
      refine ok_b (items_s hD0 (by omega) hz) (fun x w2 a2 => ?_)
      obtain ⟨rfl, a2⟩ := a2
      have := slips_L (T := T) (w0 := (w1, False)) (x5 := zI (zsI w1 74 0 0) 74 23) hW hS hj hi (by omega) hv (fun a w2 => a = nI (aN S j + 1) ∧ ∃ H', uD (w1, False) J (qS J (2 * j + 1) (fun x => (fun x => if x < i then aI S j x else if x = i then v else aI S j (x - 1)) (i + x)) (aN S j + 1 - i) (zS (2 * j + 1) (i - sZ S (2 * j)) S)) T H' w2) (fun H w hH hD => ?_) (aN S j - i) zFU w2 _ (by omega) (by rw [show zFU = 18446744073709551616 from rfl]; omega) (fun x => ⟨fun hx => hH_a (by omega), fun hx hx2 => by omega⟩) a2
      · rw [show i + (aN S j - i) = aN S j by omega] at this; exact this
      · rw [uD_z hD (by omega), lt_e, lt_e, if_pos hcf, e5.2.1, zg_t, lt_e, e5.2.2.2.1, pk_sub cf]
        dsimp only
        rw [if_pos hcf, lt_e, nI_1]
        have a3 := uD_Z hD (k := 2 * j + 1) (n := i - sZ S (2 * j)) (by omega) (by omega)
        refine ok_b (again1_s hW a3 (zB_z (sW_B hS) (by omega)) (g := fun x => if x < i then aI S j x else if x = i then v else aI S j (x - 1)) (n := aN S j + 1) (a := i) (by omega) (zS_Vl (by omega) (sW_V hS (by omega))) (by omega) (by omega) (by rw [zS_z]; omega) (fun x hx1 hx2 => ⟨hH x (by omega), hG x (by omega)⟩)) (fun _ w3 a4 => ?_)
        refine ok_b (tellsWork_s a4 _ _) (fun x w4 a5 => ok_r ⟨a5.1, _, a5.2⟩)
  · have hcf : ¬ nI (sZ S (2 * j)) ≤ nI i := fun q => cf ((nI_leI (by omega) (by omega)).mp q)
    have hS' := qz_W (J := J) (S := S) (g := fun x => (fun x => if x < i then aI S j x else if x = i then v else aI S j (x - 1)) (i + 1 - 1 - x)) hW hS hj (e := 0) (st := sZ S (2 * j) - i) (m := i + 1) (by decide) (show sZ S (2 * j) - i ≤ sZ S (2 * j) by omega) (fun x hx => hG _ (by omega)) (show aN S j - sZ S (2 * j) + (sZ S (2 * j) - i) + (i + 1) ≤ 64 by omega)
    have hN : aN (qS J (2 * j) (fun x => (fun x => if x < i then aI S j x else if x = i then v else aI S j (x - 1)) (i + 1 - 1 - x)) (i + 1) (zS (2 * j) (sZ S (2 * j) - i) S)) j = aN S j - sZ S (2 * j) + (sZ S (2 * j) - i) + (i + 1) := hS'.2
    refine bq_e h J _ T hW hS'.1 hT (nI (aN S j + 1)) (fun H hC => ?_) (fun w1 H hD => ?_)
    · rw [fX7_slips, lineAt_s w hj, bd_s, oc_s, i7, bd_s, tt, if_neg hb0, size_s hC (by omega), bd_s, if_pos hb1, size_s hC (by omega), bd_s, if_pos hlt, lt_e, endOf_s hC (by omega) hf (by omega), bd_s, if_neg cf, lt_e, if_neg (show ¬ ¬ nI 0 = 0 by decide), heightOf_s hC (by omega) hf (by omega), bd_s]
      dsimp only
      rw [LN_e (b := 0) (by decide), bd_s, show pH S j i = sZ S (2 * j) - 1 - i from if_neg cf, nI_1, show sZ S (2 * j) - 1 - i + 1 = sZ S (2 * j) - i by omega]
      refine ok_b (remake_s hW hC (k := 2 * j) (ov := some v) (by omega) (by rw [show (2 * j) % 2 = 0 by omega]) (sW_V hS (by omega)) (show sZ S (2 * j) - i ≤ _ by omega) (show sZ S (2 * j) - i ≤ _ by omega) (by omega) (by rw [show oN (some v) = 1 from rfl]; omega) (.inr ⟨v, rfl, rfl, hv⟩)) (fun _ w2 a2 => ?_)
      obtain ⟨H', a2⟩ := a2
      refine ok_b (tell1_s a2 _) (fun _ w3 a3 => ?_)
      rw [eS_s (n := i + 1) (g := fun x => (fun x => if x < i then aI S j x else if x = i then v else aI S j (x - 1)) (i + 1 - 1 - x)) (by omega) (by show (if i + 1 - 1 - 0 < i then _ else if i + 1 - 1 - 0 = i then v else _) = v; rw [if_neg (by omega), if_pos (by omega)]) (fun x hx => by
        show (if i + 1 - 1 - (x + 1) < i then aI S j (i + 1 - 1 - (x + 1)) else _) = _
        rw [if_pos (by omega), aI_f (by omega), show sZ S (2 * j) - 1 - (i + 1 - 1 - (x + 1)) = sZ S (2 * j) - i + x by omega])] at a3
      rw [size_s a3 (by omega), bd_s, hN]
      exact ok_r ⟨by rw [show aN S j - sZ S (2 * j) + (sZ S (2 * j) - i) + (i + 1) = aN S j + 1 by omega], H', a3⟩
    · have hD0 := uD_0 hD
      rw [fX8_slips, lt_e, isLine_s _ hj, bd_s, tt, i8, bd_s, tt, sizeOf_s hD0 (by omega), bd_s, h3, bd_s, tt, if_pos hne, lt_e]
      refine ok_b (items_s hD0 (by omega) hz) (fun x w2 a2 => ?_)
      obtain ⟨rfl, a2⟩ := a2
      have := slips_L (T := T) (w0 := (w1, False)) (x5 := zI (zsI w1 74 0 0) 74 23) hW hS hj hi (by omega) hv (fun a w2 => a = nI (aN S j + 1) ∧ ∃ H', uD (w1, False) J (qS J (2 * j) (fun x => (fun x => if x < i then aI S j x else if x = i then v else aI S j (x - 1)) (i + 1 - 1 - x)) (i + 1) (zS (2 * j) (sZ S (2 * j) - i) S)) T H' w2) (fun H w hH hD => ?_) (aN S j - i) zFU w2 _ (by omega) (by rw [show zFU = 18446744073709551616 from rfl]; omega) (fun x => ⟨fun hx => hH_a (by omega), fun hx hx2 => by omega⟩) a2
      · rw [show i + (aN S j - i) = aN S j by omega] at this; exact this
      · rw [uD_z hD (by omega), lt_e, lt_e, if_neg hcf, e5.1, zg_t, lt_e, e5.2.2.1, pk_sub (by omega)]
        dsimp only
        rw [if_neg hcf, lt_e, nI_1]
        have a3 := uD_Z hD (k := 2 * j) (n := sZ S (2 * j) - i) (by omega) (by omega)
        rw [show nI i = nI (i + 1) - 1 from (nI_pred i).symm]
        refine ok_b (again0_s hW a3 (zB_z (sW_B hS) (by omega)) (g := fun x => if x < i then aI S j x else if x = i then v else aI S j (x - 1)) (a := i + 1) (by omega) _ (zS_Vl (by omega) (sW_V hS (by omega))) (by omega) (by rw [zS_z]; omega) (fun x hx => ⟨hH x (by omega), hG x (by omega)⟩)) (fun _ w3 a4 => ?_)
        refine ok_b (tellsWork_s a4 _ _) (fun x w4 a5 => ok_r ⟨a5.1, _, a5.2⟩)
end K4
