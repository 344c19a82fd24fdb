set_option maxRecDepth 16384
section K5
variable {J : aJ} {S : aS} {T : aT} {w : zW}
theorem drops_L (hW : jW J) (hS : sW J S) {j i : Nat} (hj : j < 4) (hi : i < aN S j) {w0 : zX} {x3 x4 : Int32} (P : Int32 → zW → Prop) (hP : ∀ (H : Nat → Int32) w, (∀ x, x + 1 < aN S j → H x = nI (if x < i then aI S j x else aI S j (x + 1))) → uD w0 J S T H w → Ok (lt (fun (w19 : zW) =>
        bd (fX8_tellsWork x3 x4 w19) fun v22 w20 =>
        some (v22, w20)) fun j19 =>
      if nI (sZ S (2 * j)) ≤ nI i then
        zg (zin (((2 : Int32) * nI j) + (1 : Int32)) 10) <| lt (zsI w 83 (((2 : Int32) * nI j) + (1 : Int32)).toNatClampNeg (nI i - nI (sZ S (2 * j)))) fun w24 =>
        bd (fX8_makesAgain (nI j) (0 : Int32) (nI i) (nI (aN S j) - (1 : Int32)) w24) fun _ w25 =>
        j19 w25
      else
      zg (zin ((2 : Int32) * nI j) 10) <| lt (zsI w 83 ((2 : Int32) * nI j).toNatClampNeg ((nI (sZ S (2 * j)) - (1 : Int32)) - nI i)) fun w28 =>
      bd (fX8_makesAgain (nI j) (1 : Int32) (nI i - (1 : Int32)) (nI (aN S j) - (1 : Int32)) w28) fun _ w29 =>
      j19 w29) P) : ∀ m N k w (H : Nat → Int32), k + m + 1 = aN S j → i ≤ k → m < N → (∀ x, (x < i → H x = nI (aI S j x)) ∧ (i ≤ x → x < k → H x = nI (aI S j (x + 1))) ∧ (k ≤ x → x < aN S j → H x = nI (aI S j x))) → uD w0 J S T H w → Ok (fX8_drops_L59 (nI j) (nI i) x3 x4 (nI (aN S j)) (nI (sZ S (2 * j))) N (nI k) w) P := by
  have hz := hS.1 j hj
  intro m
  induction m with
  | zero =>
    intro N k w H hm hk hN hH h
    obtain ⟨N, rfl⟩ : ∃ k, N = k + 1 := ⟨N - 1, by omega⟩
    rw [fX8_drops_L59.eq_2, nI_1, show k + 1 = aN S j by omega, if_pos (Int32.le_refl _)]
    refine hP H w (fun x hx => ?_) h
    by_cases d : x < i
    · rw [if_pos d]; exact (hH x).1 d
    · rw [if_neg d]; exact (hH x).2.1 (by omega) (by omega)
  | succ m ih =>
    intro N k w H hm hk hN hH h
    obtain ⟨N, rfl⟩ : ∃ k, N = k + 1 := ⟨N - 1, by omega⟩
    rw [fX8_drops_L59.eq_2, nI_1, if_neg (Int32.not_le.mpr (nI_lt (by omega) (by omega))), zin_t (show k + 1 < 65 by omega) (by decide), zg_t, zin_t (show k < 65 by omega) (by decide), zg_t, lt_e, nI_clamp (show k + 1 < 2 ^ 31 by omega), nI_clamp (show k < 2 ^ 31 by omega), h.2.2.2.2.1, (hH (k + 1)).2.2 (by omega) (by omega)]
    refine ih N (k + 1) _ _ (by omega) (by omega) (by omega) (fun x => ⟨fun hx => ?_, fun hx hx2 => ?_, fun hx hx2 => ?_⟩) (uD_88 h)
    · rw [if_neg (by omega)]; exact (hH x).1 hx
    · by_cases c : x = k
      · rw [if_pos c, c]
      · rw [if_neg c]; exact (hH x).2.1 hx (by omega)
    · rw [if_neg (by omega)]; exact (hH x).2.2 (by omega) hx2
theorem drops_b (h : rW J S T w) (a b : Int32) : Bq (fX7_drops a b) (fX8_drops a b) Eq w := by
  obtain ⟨hW, hS, hT, -, -⟩ := id h
  rcases ln a with hl | ⟨j, hj, rfl⟩
  · exact bq_x h (-1) (fun H hC => by rw [fX7_drops, lineAt_n w hl, bd_s, oc_n]) (fun w1 H hD => by rw [fX8_drops, lt_e, isLine_n _ hl, bd_s, ff])
  have hz := hS.1 j hj
  have hI : ∀ i, i < aN S j → aI S j i < 10000 := fun i hi => sI hS hj hi
  rcases pk_ix b (n := aN S j) (by omega) with q | q | ⟨i, hi, rfl⟩
  · refine bq_x h (-2) (fun H hC => by rw [fX7_drops, lineAt_s w hj, bd_s, oc_s, if_pos q]) (fun w1 H hD => ?_)
    rcases isAt_b (uD_0 hD) (show j < 5 by omega) hz b with ⟨-, e⟩ | ⟨i, hi, rfl, e⟩
    · rw [fX8_drops, lt_e, isLine_s _ hj, bd_s, tt, e, bd_s, ff]
    · exact absurd q (nI_pos (by omega))
  · refine bq_x h (-2) (fun H hC => ?_) (fun w1 H hD => ?_)
    · by_cases q0 : b < 0
      · rw [fX7_drops, lineAt_s w hj, bd_s, oc_s, if_pos q0]
      · rw [fX7_drops, lineAt_s w hj, bd_s, oc_s, if_neg q0, size_s hC (by omega), bd_s, if_neg (Int32.not_lt.mpr q)]
    rcases isAt_b (uD_0 hD) (show j < 5 by omega) hz b with ⟨-, e⟩ | ⟨i, hi, rfl, e⟩
    · rw [fX8_drops, lt_e, isLine_s _ hj, bd_s, tt, e, bd_s, ff]
    · exact absurd (nI_lt hi (by omega)) (Int32.not_lt.mpr q)
  have e8 : ∀ {w0 w H}, uD w0 J S T H w → fX8_isAt (nI j) (nI i) w = some (true, w) := by
    intro w0 w H hD
    rcases isAt_b hD (show j < 5 by omega) hz (nI i) with ⟨q | q, -⟩ | ⟨_, _, _, e⟩
    · exact absurd q (nI_pos (by omega))
    · exact absurd (nI_lt hi (by omega)) (Int32.not_lt.mpr q)
    · exact e
  have hf : sZ S (2 * j) ≤ 64 := by unfold aN at hz; omega
  have e5 := d_in2 (show j < 5 by omega)
  have hN0 : aN S j = sZ S (2 * j) + sZ S (2 * j + 1) := rfl
  have hpH := pH_l hi
  have hpn := pK_n (S := S) (j := j) (i := i)
  have hkV : kV J S (pK S j i) := sW_V hS (pK_b (by omega))
  have hcls : ∀ H, uC (w, False) J S T H w → Ok (fX7_drops (nI j) (nI i) w) (fun a w1 => a = nI (aI S j i) ∧ ∃ H', uC (w, False) J (eS J (pK S j i) (pH S j i) none (pH S j i + 1) S) T H' w1) := by
    intro H hC
    rw [fX7_drops, lineAt_s w hj, bd_s, oc_s, if_neg (nI_pos (by omega)), size_s hC (by omega), bd_s, if_pos (nI_lt hi (by omega)), itemAt_s hC (by omega) hz hi, bd_s, lt_e, endOf_s hC (by omega) hf (by omega), bd_s, heightOf_s hC (by omega) hf (by omega), bd_s, pile_s hC (by omega) hf, bd_s, nI_1]
    refine ok_b (remake_s hW hC (ov := none) (pK_b (by omega)) end_k hkV (by omega) (by omega) (by omega) (by rw [show oN none = 0 from rfl]; omega) (.inl ⟨rfl, rfl⟩)) (fun _ w2 a2 => ?_)
    obtain ⟨H', a2⟩ := a2
    exact ok_b (tell1_s a2 _) (fun _ w3 a3 => ok_r ⟨rfl, H', a3⟩)
  have hg : ∀ x, x + 1 < aN S j → (if x < i then aI S j x else aI S j (x + 1)) < 10000 := fun x hx => by
    split
    · exact hI x (by omega)
    · exact hI _ hx
  by_cases cf : sZ S (2 * j) ≤ i
  · have hcf : nI (sZ S (2 * j)) ≤ nI i := (nI_leI (by omega) (by omega)).mpr cf
    have hpk : pK S j i = 2 * j + 1 := if_pos cf
    have hph : pH S j i = i - sZ S (2 * j) := if_pos cf
    rw [hpk, hph] at hcls
    rw [eS_0 (n := aN S j - 1 - i) (g := fun x => (fun x => if x < i then aI S j x else aI S j (x + 1)) (i + x)) (by omega) (fun x hx => by
      show (if i + x < i then aI S j (i + x) else aI S j (i + x + 1)) = _
      rw [if_neg (by omega), aI_k (by omega), show i + x + 1 - sZ S (2 * j) = i - sZ S (2 * j) + 1 + x by omega])] at hcls
    refine bq_e h J _ T hW (qz_W hW hS hj (e := 1) (by decide) (by omega) (fun x hx => hg _ (by omega)) (by omega)).1 hT (nI (aI S j i)) hcls (fun w1 H hD => ?_)
    have hD0 := uD_0 hD
    rw [fX8_drops, lt_e, isLine_s _ hj, bd_s, tt, e8 hD0, bd_s, tt, lt_e, itemAt8_s hD0 (by omega) hz hi, bd_s]
    refine ok_b (items_s hD0 (by omega) hz) (fun x w2 a2 => ?_)
    obtain ⟨rfl, a2⟩ := a2
    rw [e5.1, zg_t, lt_e, e5.2.2.1, uD_z a2 (by omega)]
    refine drops_L hW hS hj hi _ (fun H w hH hD => ?_) (aN S j - 1 - i) zFU i w2 _ (by omega) (Nat.le_refl i) (by rw [show zFU = 18446744073709551616 from rfl]; omega) (fun x => ⟨fun hx => hH_a (by omega), fun hx hx2 => by omega, fun hx hx2 => hH_a hx2⟩) a2
    rw [lt_e, if_pos hcf, e5.2.1, zg_t, lt_e, e5.2.2.2.1, pk_sub cf, show nI (aN S j) - 1 = nI (aN S j - 1) by rw [show (1 : Int32) = nI 1 from rfl, pk_sub (by omega)]]
    have a3 := uD_Z hD (k := 2 * j + 1) (n := i - sZ S (2 * j)) (by omega) (by omega)
    refine ok_b (again1_s hW a3 (zB_z (sW_B hS) (by omega)) (g := fun x => if x < i then aI S j x else aI S j (x + 1)) (n := aN S j - 1) (a := i) (by omega) (zS_Vl (by omega) (sW_V hS (by omega))) (by omega) (by omega) (by rw [zS_z]; omega) (fun x hx1 hx2 => ⟨hH x (by omega), hg x (by omega)⟩)) (fun _ w3 a4 => ?_)
    refine ok_b (tellsWork_s a4 _ _) (fun x w4 a5 => ok_r ⟨a5.1, _, a5.2⟩)
  · have hcf : ¬ nI (sZ S (2 * j)) ≤ nI i := fun q => cf ((nI_leI (by omega) (by omega)).mp q)
    have hpk : pK S j i = 2 * j := if_neg cf
    have hph : pH S j i = sZ S (2 * j) - 1 - i := if_neg cf
    rw [hpk, hph] at hcls
    rw [eS_0 (n := i) (g := fun x => (fun x => if x < i then aI S j x else aI S j (x + 1)) (i - 1 - x)) (by omega) (fun x hx => by
      show (if i - 1 - x < i then aI S j (i - 1 - x) else _) = _
      rw [if_pos (by omega), aI_f (by omega), show sZ S (2 * j) - 1 - (i - 1 - x) = sZ S (2 * j) - 1 - i + 1 + x by omega])] at hcls
    refine bq_e h J _ T hW (qz_W hW hS hj (e := 0) (by decide) (show sZ S (2 * j) - 1 - i ≤ sZ S (2 * j) by omega) (fun x hx => hg _ (by omega)) (show aN S j - sZ S (2 * j) + _ + _ ≤ 64 by omega)).1 hT (nI (aI S j i)) hcls (fun w1 H hD => ?_)
    have hD0 := uD_0 hD
    rw [fX8_drops, lt_e, isLine_s _ hj, bd_s, tt, e8 hD0, bd_s, tt, lt_e, itemAt8_s hD0 (by omega) hz hi, bd_s]
    refine ok_b (items_s hD0 (by omega) hz) (fun x w2 a2 => ?_)
    obtain ⟨rfl, a2⟩ := a2
    rw [e5.1, zg_t, lt_e, e5.2.2.1, uD_z a2 (by omega)]
    refine drops_L hW hS hj hi _ (fun H w hH hD => ?_) (aN S j - 1 - i) zFU i w2 _ (by omega) (Nat.le_refl i) (by rw [show zFU = 18446744073709551616 from rfl]; omega) (fun x => ⟨fun hx => hH_a (by omega), fun hx hx2 => by omega, fun hx hx2 => hH_a hx2⟩) a2
    rw [lt_e, if_neg hcf, e5.1, zg_t, lt_e, e5.2.2.1, show nI (sZ S (2 * j)) - 1 - nI i = nI (sZ S (2 * j) - 1 - i) by rw [show (1 : Int32) = nI 1 from rfl, pk_sub (by omega), pk_sub (by omega)]]
    have a3 := uD_Z hD (k := 2 * j) (n := sZ S (2 * j) - 1 - i) (by omega) (by omega)
    refine ok_b (again0_s hW a3 (zB_z (sW_B hS) (by omega)) (g := fun x => if x < i then aI S j x else aI S j (x + 1)) (a := i) (by omega) _ (zS_Vl (by omega) (sW_V hS (by omega))) (by omega) (by rw [zS_z]; omega) (fun x hx => ⟨hH x (by omega), hg x (by omega)⟩)) (fun _ w3 a4 => ?_)
    refine ok_b (tellsWork_s a4 _ _) (fun x w4 a5 => ok_r ⟨a5.1, _, a5.2⟩)
/-- a sign behind THE TEXT -/
def gT (b : Nat) (T : aT) : aT := (T.1 + 1, fun i => if i = T.1 then b else T.2 i)
theorem uC_T {w0 : zX} {H : Nat → Int32} {b : Nat} (h : uC w0 J S T H w) : uC w0 J S (gT b T) H (zsI (zsI w 65 T.1 (nI b)) 64 0 (nI (T.1 + 1))) := by
  obtain ⟨a, c, d, e, f, g⟩ := h
  have hI : ∀ x y, x ≠ 64 → x ≠ 65 → zI (zsI (zsI w 65 T.1 (nI b)) 64 0 (nI (T.1 + 1))) x y = zI w x y := fun x y h1 h2 => by rw [zI_zsI, if_neg (fun q => h1 q.1), zI_zsI, if_neg (fun q => h2 q.1)]
  refine ⟨⟨?_, ?_, ?_, fun i j hi hj => ?_⟩, fun k hk => ⟨?_, fun x hx => ⟨?_, ((c k hk).2 x hx).2.1, ((c k hk).2 x hx).2.2.1, ?_⟩⟩, ⟨?_, ?_⟩, ⟨rfl, fun i hi => ?_⟩, fun i => ?_, fun k j hk => ⟨?_, (g.1 k j hk).2⟩, g.2⟩
  · rw [hI _ _ (by omega) (by omega)]; exact a.1
  · rw [hI _ _ (by omega) (by omega)]; exact a.2.1
  · rw [hI _ _ (by omega) (by omega)]; exact a.2.2.1
  · rw [hI _ _ (by omega) (by omega)]; exact a.2.2.2 i j hi hj
  · rw [hI _ _ (by unfold oP; omega) (by unfold oP; omega)]; exact (c k hk).1
  · rw [hI _ _ (by unfold oP; omega) (by unfold oP; omega)]; exact ((c k hk).2 x hx).1
  · rw [hI _ _ (by unfold oP; omega) (by unfold oP; omega)]; exact ((c k hk).2 x hx).2.2.2
  · rw [hI _ _ (by omega) (by omega)]; exact d.1
  · rw [hI _ _ (by omega) (by omega)]; exact d.2
  · rw [zI_zsI, if_neg (by omega), zI_zsI]
    show _ = nI (if i = T.1 then b else T.2 i)
    by_cases q : i = T.1
    · rw [if_pos ⟨rfl, q⟩, if_pos q]
    · rw [if_neg (fun z => q z.2), if_neg q]; exact e.2 i hi
  · rw [hI _ _ (by omega) (by omega)]; exact f i
  · rw [hI _ _ (by omega) (by omega)]; exact (g.1 k j hk).1
theorem uC_e {w0 : zX} {H : Nat → Int32} {n : Nat} (h : uC w0 J S T H w) : uC w0 J S (n, T.2) H (zsI w 64 0 (nI n)) := by
  obtain ⟨a, c, d, e, f, g⟩ := h
  have hI : ∀ x y, x ≠ 64 → zI (zsI w 64 0 (nI n)) x y = zI w x y := fun x y h1 => by rw [zI_zsI, if_neg (fun q => h1 q.1)]
  refine ⟨⟨?_, ?_, ?_, fun i j hi hj => ?_⟩, fun k hk => ⟨?_, fun x hx => ⟨?_, ((c k hk).2 x hx).2.1, ((c k hk).2 x hx).2.2.1, ?_⟩⟩, ⟨?_, ?_⟩, ⟨rfl, fun i hi => ?_⟩, fun i => ?_, fun k j hk => ⟨?_, (g.1 k j hk).2⟩, g.2⟩
  · rw [hI _ _ (by omega)]; exact a.1
  · rw [hI _ _ (by omega)]; exact a.2.1
  · rw [hI _ _ (by omega)]; exact a.2.2.1
  · rw [hI _ _ (by omega)]; exact a.2.2.2 i j hi hj
  · rw [hI _ _ (by unfold oP; omega)]; exact (c k hk).1
  · rw [hI _ _ (by unfold oP; omega)]; exact ((c k hk).2 x hx).1
  · rw [hI _ _ (by unfold oP; omega)]; exact ((c k hk).2 x hx).2.2.2
  · rw [hI _ _ (by omega)]; exact d.1
  · rw [hI _ _ (by omega)]; exact d.2
  · rw [hI _ _ (by omega)]; exact e.2 i hi
  · rw [hI _ _ (by omega)]; exact f i
  · rw [hI _ _ (by omega)]; exact (g.1 k j hk).1
theorem uD_e {w0 : zX} {H : Nat → Int32} {n : Nat} (h : uD w0 J S T H w) : uD w0 J S (n, T.2) H (zsI w 74 4 (nI n)) := by
  obtain ⟨a, c, d, e, f, g, k⟩ := h
  exact ⟨a, c, d, ⟨rfl, e.2⟩, f, fun i j hi => ⟨by rw [zI_zsI, if_neg (by omega)]; exact (g i j hi).1, (g i j hi).2⟩, k⟩
theorem uD_76 {w0 : zX} {H : Nat → Int32} {n b : Nat} (h : uD w0 J S T H w) : uD w0 J S (T.1, fun i => if i = n then b else T.2 i) H (zsI w 76 n (nI b)) := by
  obtain ⟨a, c, d, e, f, g, k⟩ := h
  refine ⟨a, c, d, ⟨e.1, fun i hi => ?_⟩, f, fun i j hi => ⟨by rw [zI_zsI, if_neg (by omega)]; exact (g i j hi).1, (g i j hi).2⟩, k⟩
  rw [zI_zsI]
  by_cases q : i = n
  · rw [if_pos ⟨rfl, q⟩]; show _ = nI (if i = n then b else T.2 i); rw [if_pos q]
  · rw [if_neg (fun z => q z.2)]; show _ = nI (if i = n then b else T.2 i); rw [if_neg q]; exact e.2 i hi
theorem grow5_s {w0 : zX} {H : Nat → Int32} {b : Nat} (h : uC w0 J S T H w) (hl : T.1 < 100) : Ok (fX5_grow (nI b) w) (fun _ w' => uC w0 J S (gT b T) H w') := by
  have e : zI (zsI w 65 T.1 (nI b)) 64 0 = nI T.1 := h.2.2.2.1.1
  rw [fX5_grow, h.2.2.2.1.1, if_neg (show ¬ (100 : Int32) ≤ nI T.1 from Int32.not_le.mpr (nI_lt (b := 100) hl (by decide))), seti_s w _ (show zlen 65 = 100 from rfl) hl (by decide), bd_s, e, nI_1, lt_e]
  exact ok_r (uC_T h)
theorem sign_b (h : rW J S T w) (a : Int32) : Bq (fX7_sign a) (fX8_sign a) Eq w := by
  obtain ⟨hW, hS, hT, -, -⟩ := id h
  have hT1 := hT.1
  by_cases c : T.1 ≤ 96
  · have hc : nI T.1 + 4 ≤ 100 := by
      rw [show (4 : Int32) = nI 4 from rfl, nI_add]
      exact (nI_leI (b := 100) (by omega) (by decide)).mpr (by omega)
    have hc8 : nI T.1 ≤ 96 := (nI_leI (b := 96) (by omega) (by decide)).mpr c
    obtain ⟨b0, hb0, e0⟩ := pk_andE (a >>> 24) (m := 255) 8 (by decide)
    obtain ⟨b1, hb1, e1⟩ := pk_andE (a >>> 16) (m := 255) 8 (by decide)
    obtain ⟨b2, hb2, e2⟩ := pk_andE (a >>> 8) (m := 255) 8 (by decide)
    obtain ⟨b3, hb3, e3⟩ := pk_andE (a >>> 0) (m := 255) 8 (by decide)
    have hT' : tW (gT b3 (gT b2 (gT b1 (gT b0 T)))) := by
      refine ⟨show T.1 + 1 + 1 + 1 + 1 ≤ 100 by omega, fun i => ?_⟩
      show (if i = T.1 + 1 + 1 + 1 then b3 else if i = T.1 + 1 + 1 then b2 else if i = T.1 + 1 then b1 else if i = T.1 then b0 else T.2 i) < 256
      split
      · exact hb3
      · split
        · exact hb2
        · split
          · exact hb1
          · split
            · exact hb0
            · exact hT.2 i
    refine bq_e h J S (gT b3 (gT b2 (gT b1 (gT b0 T)))) hW hS hT' (nI (T.1 + 4)) (fun H hC => ?_) (fun w1 H hD => ?_)
    · rw [fX7_sign, hC.2.2.2.1.1, if_pos hc]
      have : ∀ N, 5 ≤ N → Ok (fX7_sign_L19 a N 24 w) (fun x w1 => x = nI (T.1 + 4) ∧ ∃ H', uC (w, False) J S (gT b3 (gT b2 (gT b1 (gT b0 T)))) H' w1) := by
        intro N hN
        obtain ⟨N, rfl⟩ : ∃ k, N = k + 1 + 1 + 1 + 1 + 1 := ⟨N - 5, by omega⟩
        rw [fX7_sign_L19.eq_2, if_neg (show ¬ (24 : Int32) < 0 by decide), show (24 : Int32) &&& 31 = 24 by decide, e0]
        refine ok_b (grow5_s hC (by omega)) (fun _ w2 a2 => ?_)
        rw [fX7_sign_L19.eq_2, if_neg (show ¬ (24 : Int32) + -8 < 0 by decide), show ((24 : Int32) + -8) &&& 31 = 16 by decide, e1]
        refine ok_b (grow5_s a2 (show T.1 + 1 < 100 by omega)) (fun _ w3 a3 => ?_)
        rw [fX7_sign_L19.eq_2, if_neg (show ¬ (24 : Int32) + -8 + -8 < 0 by decide), show ((24 : Int32) + -8 + -8) &&& 31 = 8 by decide, e2]
        refine ok_b (grow5_s a3 (show T.1 + 1 + 1 < 100 by omega)) (fun _ w4 a4 => ?_)
        rw [fX7_sign_L19.eq_2, if_neg (show ¬ (24 : Int32) + -8 + -8 + -8 < 0 by decide), show ((24 : Int32) + -8 + -8 + -8) &&& 31 = 0 by decide, e3]
        refine ok_b (grow5_s a4 (show T.1 + 1 + 1 + 1 < 100 by omega)) (fun _ w5 a5 => ?_)
        rw [fX7_sign_L19.eq_2, if_pos (show (24 : Int32) + -8 + -8 + -8 + -8 < 0 by decide), a5.2.2.2.1.1]
        exact ok_r ⟨rfl, H, a5⟩
      exact this zFU (by rw [show zFU = 18446744073709551616 from rfl]; omega)
    · have hD0 := uD_0 hD
      rw [fX8_sign, lt_e, hD0.2.2.2.1.1, if_pos hc8]
      generalize zsI w1 74 0 0 = W at hD0 ⊢
      have : ∀ N, 5 ≤ N → Ok (fX8_sign_L18 a N 0 W) (fun x w2 => x = nI (T.1 + 4) ∧ ∃ H', uD (w1, False) J S (gT b3 (gT b2 (gT b1 (gT b0 T)))) H' w2) := by
        intro N hN
        obtain ⟨N, rfl⟩ : ∃ k, N = k + 1 + 1 + 1 + 1 + 1 := ⟨N - 5, by omega⟩
        have ix : ∀ k, k < 4 → zin (nI T.1 + nI k) 100 = true ∧ (nI T.1 + nI k).toNatClampNeg = T.1 + k := fun k hk => by rw [nI_add]; exact ⟨zin_t (by omega) (by decide), nI_clamp (by omega)⟩
        have a1 := uD_76 (n := T.1 + 0) (b := b0) hD0
        have a2 := uD_76 (n := T.1 + 1) (b := b1) a1
        have a3 := uD_76 (n := T.1 + 2) (b := b2) a2
        have a4 := uD_76 (n := T.1 + 3) (b := b3) a3
        rw [fX8_sign_L18.eq_2, if_neg (show ¬ (4 : Int32) ≤ 0 by decide), hD0.2.2.2.1.1, show (0 : Int32) = nI 0 from rfl, (ix 0 (by decide)).1, zg_t, lt_e, (ix 0 (by decide)).2, show ((24 : Int32) - 8 * nI 0) &&& 31 = 24 by decide, e0]
        rw [fX8_sign_L18.eq_2, show nI 0 + 1 = nI 1 from rfl, if_neg (show ¬ (4 : Int32) ≤ nI 1 by decide), a1.2.2.2.1.1, (ix 1 (by decide)).1, zg_t, lt_e, (ix 1 (by decide)).2, show ((24 : Int32) - 8 * nI 1) &&& 31 = 16 by decide, e1]
        rw [fX8_sign_L18.eq_2, show nI 1 + 1 = nI 2 from rfl, if_neg (show ¬ (4 : Int32) ≤ nI 2 by decide), a2.2.2.2.1.1, (ix 2 (by decide)).1, zg_t, lt_e, (ix 2 (by decide)).2, show ((24 : Int32) - 8 * nI 2) &&& 31 = 8 by decide, e2]
        rw [fX8_sign_L18.eq_2, show nI 2 + 1 = nI 3 from rfl, if_neg (show ¬ (4 : Int32) ≤ nI 3 by decide), a3.2.2.2.1.1, (ix 3 (by decide)).1, zg_t, lt_e, (ix 3 (by decide)).2, show ((24 : Int32) - 8 * nI 3) &&& 31 = 0 by decide, e3]
        rw [fX8_sign_L18.eq_2, show nI 3 + 1 = nI 4 from rfl, if_pos (show (4 : Int32) ≤ nI 4 by decide), a4.2.2.2.1.1, lt_e, show (4 : Int32) = nI 4 from rfl, nI_add]
        exact ok_r ⟨rfl, H, uD_e (n := T.1 + 4) a4⟩
      exact this zFU (by rw [show zFU = 18446744073709551616 from rfl]; omega)
  · refine bq_x h (-1) (fun H hC => ?_) (fun w1 H hD => ?_)
    · rw [fX7_sign, hC.2.2.2.1.1, if_neg]
      rw [show (4 : Int32) = nI 4 from rfl, nI_add]
      exact fun q => c (by have := (nI_leI (b := 100) (by omega) (by decide)).mp q; omega)
    · rw [fX8_sign, lt_e, (uD_0 hD).2.2.2.1.1, if_neg]
      exact fun q => c ((nI_leI (b := 96) (by omega) (by decide)).mp q)
theorem end_b (h : rW J S T w) (a : Int32) : Bq (fX7_end a) (fX8_end a) Eq w := by
  obtain ⟨hW, hS, hT, -, -⟩ := id h
  have hT1 := hT.1
  have hl8 : (nI T.1).toInt64 = lN T.1 := nI_l (by omega)
  rcases inb a (lo := 0) (hi := T.1) (by decide) (by omega) with ⟨h1, h2⟩ | ⟨h1, h1', h2⟩
  · have h3 : ∀ w, fX8_in a.toInt64 0 (nI T.1).toInt64 w = some (false, w) := fun w => by rw [hl8]; exact h2 w
    refine bq_x h false (fun H hC => ?_) (fun w1 H hD => by rw [fX8_end, lt_e, (uD_0 hD).2.2.2.1.1, h3, bd_s, ff])
    rw [fX7_end, hC.2.2.2.1.1]
    by_cases q : a < 0
    · rw [if_pos q]
    · rw [if_neg q, if_neg (Int32.not_le.mpr (h1.resolve_left q))]
  · have h3 : ∀ w, fX8_in a.toInt64 0 (nI T.1).toInt64 w = some (true, w) := fun w => by rw [hl8]; exact h2 w
    have h0 : ¬ a < 0 := h1
    have hle : a ≤ nI T.1 := Int32.not_lt.mp h1'
    obtain ⟨n, hn, rfl⟩ : ∃ n, n ≤ T.1 ∧ a = nI n := by
      rcases i01 (by omega) h1' with q | q
      · exact absurd q h0
      · exact q
    refine bq_e h J S (n, T.2) hW hS ⟨by show n ≤ 100; omega, hT.2⟩ true (fun H hC => ?_) (fun w1 H hD => ?_)
    · rw [fX7_end, hC.2.2.2.1.1, if_neg h0, if_pos hle, lt_e]
      exact ok_r ⟨rfl, H, uC_e hC⟩
    · rw [fX8_end, lt_e, (uD_0 hD).2.2.2.1.1, h3, bd_s, tt, lt_e]
      exact ok_r ⟨rfl, H, uD_e (uD_0 hD)⟩
end K5
