set_option maxRecDepth 16384
section K1
variable {J : aJ} {S : aS} {T : aT} {w : zW}
theorem mS_W (hW : jW J) (h : sW J S) {j e v : Nat} (hj : j < 4) (he : e < 2) (hv : v < 10000) (hn : aN S j < 64) : sW J (mS J (2 * j + e) v S) ∧ aN (mS J (2 * j + e) v S) j = aN S j + 1 := by
  have hn2 : aN (mS J (2 * j + e) v S) j = aN S j + 1 := by
    unfold aN
    rcases (show e = 0 ∨ e = 1 by omega) with rfl | rfl
    · show sZ (mS J (2 * j) v S) (2 * j) + sZ (mS J (2 * j) v S) (2 * j + 1) = _
      rw [mS_z, mS_zo (by omega)]; omega
    · rw [mS_z, mS_zo (by omega)]; omega
  refine ⟨sW_l h hj (fun a h0 h1 => mS_zo (by omega)) (fun a h0 h1 x => mS_co (.inl (by omega))) ?_ ?_ (by omega), hn2⟩
  · rcases (show e = 0 ∨ e = 1 by omega) with rfl | rfl
    · exact mS_V hW hv (h.2.1 _ (by omega))
    · exact mS_Vo (by omega) (h.2.1 _ (by omega))
  · rcases (show e = 0 ∨ e = 1 by omega) with rfl | rfl
    · exact mS_Vo (by omega) (h.2.1 _ (by omega))
    · exact mS_V hW hv (h.2.1 _ (by omega))
theorem tR_V2 (hW : jW J) {j e a : Nat} (h : ∀ a, a < 10 → kV J S a) (hj : j < 5) (ha : a < 10) : kV J (tR J j e S) a := by
  by_cases c0 : a = 2 * j
  · rw [c0]; exact (tR_V hW (h _ (by omega)) (h _ (by omega))).1
  · by_cases c1 : a = 2 * j + 1
    · rw [c1]; exact (tR_V hW (h _ (by omega)) (h _ (by omega))).2
    · intro x hx
      have ho := tR_o (J := J) (S := S) (e := e) c0 c1
      rw [ho.1] at hx
      rw [ho.2]; exact h a ha x hx
/-- a TAKE: validity, sizes -/
theorem tS_V (hW : jW J) {j e a : Nat} (h : ∀ a, a < 10 → kV J S a) (hj : j < 5) (ha : a < 10) : kV J (tS J j e S) a := by
  unfold tS
  have hr := tR_V2 (e := e) hW h hj ha
  by_cases c : a = 2 * j + e
  · rw [c] at hr ⊢; exact zS_Vl (by omega) hr
  · exact zS_Vo c hr
theorem tS_n {j e : Nat} (he : e < 2) (hn : 0 < aN S j) : aN (tS J j e S) j = aN S j - 1 := by
  have ht := tR_z (J := J) (S := S) (j := j) e he hn
  unfold tS aN
  unfold aN at ht
  rcases (show e = 0 ∨ e = 1 by omega) with rfl | rfl
  · show sZ (zS (2 * j) (sZ (tR J j 0 S) (2 * j) - 1) (tR J j 0 S)) (2 * j) + sZ (zS (2 * j) (sZ (tR J j 0 S) (2 * j) - 1) (tR J j 0 S)) (2 * j + 1) = _
    have h0 : 0 < sZ (tR J j 0 S) (2 * j) := ht.1
    rw [zS_z, zS_zo (by omega)]; omega
  · rw [zS_z, zS_zo (by omega)]; omega
theorem tS_o {j e a : Nat} (he : e < 2) (h0 : a ≠ 2 * j) (h1 : a ≠ 2 * j + 1) : sZ (tS J j e S) a = sZ S a ∧ ∀ x, sC (tS J j e S) a x = sC S a x := by
  have ho := tR_o (J := J) (S := S) (e := e) h0 h1
  unfold tS
  exact ⟨by rw [zS_zo (by omega)]; exact ho.1, fun x => ho.2 x⟩
theorem tS_no {j e i : Nat} (he : e < 2) (hi : i ≠ j) : aN (tS J j e S) i = aN S i := by
  unfold aN
  rw [(tS_o he (by omega) (by omega)).1, (tS_o he (by omega) (by omega)).1]
theorem tI_l (hW : jW J) {j e : Nat} (h : ∀ a, a < 10 → kV J S a) (hj : j < 5) (he : e < 2) (hn : 0 < aN S j) : tI J j e S < 10000 := by
  have ht := tR_z (J := J) (S := S) (j := j) e he hn
  exact (tR_V2 hW h hj (a := 2 * j + e) (by omega) _ (by omega)).1
theorem tS_W (hW : jW J) (h : sW J S) {j e : Nat} (hj : j < 4) (he : e < 2) (hn : 0 < aN S j) : sW J (tS J j e S) := by
  have hk : ∀ a, a < 10 → kV J S a := fun a ha => sW_V h ha
  refine sW_l h hj (fun a h0 h1 => (tS_o he h0 h1).1) (fun a h0 h1 => (tS_o he h0 h1).2) (tS_V hW hk (by omega) (by omega)) (tS_V hW hk (by omega) (by omega)) ?_
  rw [tS_n he hn]
  have := h.1 j hj
  omega
theorem lS_W (hW : jW J) (h : sW J S) {j f n : Nat} {g : Nat → Nat} (hj : j < 4) (hf : f ≤ n) (hn : n ≤ 64) (hg : ∀ i, i < n → g i < 10000) : sW J (lS J j g f n S) :=
  sW_l h hj (fun a h0 h1 => lS_zo h0 h1) (fun a h0 h1 x => lS_co h0 h1) (lS_V0 hW hf hg) (lS_V1 hW hg) (by rw [lN_n hf]; exact hn)
theorem sI {j : Nat} (h : sW J S) (hj : j < 4) {i : Nat} (hi : i < aN S j) : aI S j i < 10000 := aI_l (kV_I (h.2.1 _ (by omega))) (kV_I (h.2.1 _ (by omega))) hi
theorem rule_b (h : rW J S T w) (a : Int32) : Bq (fX7_rule a) (fX8_rule a) Eq w := by
  obtain ⟨hW, hS, hT, -, -⟩ := id h
  rcases inb a (lo := 0) (hi := 7) (by decide) (by decide) with ⟨h1, h2⟩ | ⟨h1, h1', h2⟩
  · have h3 : ∀ w, fX8_in a.toInt64 0 7 w = some (false, w) := h2
    refine bq_x h (-1) (fun H hC => ?_) (fun w1 H hD => ?_)
    · rw [fX7_rule]
      rcases h1 with q | q
      · rw [if_pos (show a < 0 from q)]
      · by_cases c : a < 0
        · rw [if_pos c]
        · rw [if_neg c, if_neg (Int32.not_le.mpr (show (7 : Int32) < a from q))]
    · rw [fX8_rule, lt_e, h3, bd_s, ff]
  · have h3 : ∀ w, fX8_in a.toInt64 0 7 w = some (true, w) := h2
    have h0 : ¬ a < 0 := h1
    obtain ⟨r, hr, rfl⟩ : ∃ r, r ≤ 7 ∧ a = nI r := by
      rcases i01 (n := 7) (by decide) h1' with q | q
      · exact absurd q h0
      · exact q
    have hle : nI r ≤ 7 := (nI_leI (b := 7) (by omega) (by decide)).mpr hr
    by_cases c : r = jK J
    · refine bq_x h (-2) (fun H hC => ?_) (fun w1 H hD => ?_)
      · rw [fX7_rule, if_neg h0, if_pos hle, lt_e, hC.1.1, c, if_neg (not_not_intro rfl)]
      · rw [fX8_rule, lt_e, h3, bd_s, tt, show zI (zsI w1 74 0 0) 74 7 = zI w1 74 7 from rfl, hD.1.1, c, if_neg (not_not_intro rfl)]
    · have hK := hW.1
      have hne : ¬ nI r = nI (jK J) := fun q => c ((nI_eq (by omega) (by omega)).mp q)
      have hJ' : jW (r, J.2) := ⟨hr, hW.2⟩
      have hI : ∀ a, a < 8 → kI S a := fun a ha => kV_I (hS.2.1 a ha)
      refine bq_e h (r, J.2) (rL (r, J.2) 4 S) T hJ' ⟨fun j hj => by rw [rL_n]; exact hS.1 j hj, fun k hk => rL_V hJ' (i := 4) (by omega) (fun a ha => hI a (by omega)), by rw [rL_n]; exact hS.2.2⟩ hT (nI (jK J)) (fun H hC => ?_) (fun w1 H hD => ?_)
      · rw [fX7_rule, if_neg h0, if_pos hle, lt_e, hC.1.1, if_pos hne, lt_e]
        have hC' : uC (w, False) (r, J.2) S T H (zsI w 1 0 (nI r)) := by
          obtain ⟨a, b, c, d, e, f⟩ := hC
          refine ⟨⟨rfl, a.2.1, a.2.2.1, a.2.2.2⟩, fun k hk => ⟨?_, fun x hx => ⟨?_, ((b k hk).2 x hx).2.1, ((b k hk).2 x hx).2.2.1, ?_⟩⟩, c, d, e, fun k j hk => ⟨?_, (f.1 k j hk).2⟩, f.2⟩
          · rw [zI_zsI, if_neg (by unfold oP; omega)]; exact (b k hk).1
          · rw [zI_zsI, if_neg (by unfold oP; omega)]; exact ((b k hk).2 x hx).1
          · rw [zI_zsI, if_neg (by unfold oP; omega)]; exact ((b k hk).2 x hx).2.2.2
          · rw [zI_zsI, if_neg (by omega)]
        exact ok_b (all_s hJ' hC' hS.1 hI) (fun _ w1 a1 => ok_r ⟨rfl, a1⟩)
      · rw [fX8_rule, lt_e, h3, bd_s, tt, show zI (zsI w1 74 0 0) 74 7 = zI w1 74 7 from rfl, hD.1.1, if_pos (fun q => hne q.symm), lt_e, lt_e]
        have hD0 := uD_0 hD
        have hD' : uD (w1, False) (r, J.2) S T H (zsI (zsI w1 74 0 0) 74 7 (nI r)) := by
          obtain ⟨a, b, c, d, e, f, g⟩ := hD0
          exact ⟨⟨rfl, a.2.1, a.2.2.1, a.2.2.2⟩, b, c, d, e, fun k j hk => ⟨by rw [zI_zsI, if_neg (by omega)]; exact (f k j hk).1, (f k j hk).2⟩, g⟩
        exact ok_b (all8_s hJ' hD' (sW_B hS) hS.1 hI) (fun _ w1 a1 => ok_r ⟨rfl, a1⟩)
theorem puts_b (h : rW J S T w) (a b c : Int32) : Bq (fX7_puts a b c) (fX8_puts a b c) Eq w := by
  obtain ⟨hW, hS, hT, -, -⟩ := id h
  rcases ln a with hl | ⟨j, hj, rfl⟩
  · exact bq_x h (-1) (fun H hC => by rw [fX7_puts, lineAt_n w hl, bd_s, oc_n]) (fun w1 H hD => by rw [fX8_puts, lt_e, isLine_n _ hl, bd_s, ff])
  rcases en b with ⟨e7, e8⟩ | ⟨e, he, rfl, e7, e8⟩
  · exact bq_x h (-1) (fun H hC => by rw [fX7_puts, lineAt_s w hj, bd_s, oc_s, e7, bd_s, ff]) (fun w1 H hD => by rw [fX8_puts, lt_e, isLine_s _ hj, bd_s, tt, e8, bd_s, ff])
  rcases im c with ⟨i7, i8⟩ | ⟨v, hv, rfl, i7, i8⟩
  · exact bq_x h (-1) (fun H hC => by rw [fX7_puts, lineAt_s w hj, bd_s, oc_s, e7, bd_s, tt, i7, bd_s, ff]) (fun w1 H hD => by rw [fX8_puts, lt_e, isLine_s _ hj, bd_s, tt, e8, bd_s, tt, i8, bd_s, ff])
  have hz := hS.1 j hj
  have hx := hz
  unfold aN at hx
  by_cases c : aN S j = 64
  · exact bq_x h (-3) (fun H hC => by rw [fX7_puts, lineAt_s w hj, bd_s, oc_s, e7, bd_s, tt, i7, bd_s, tt, size_s hC (by omega), bd_s, c, if_neg (show ¬ nI 64 < 64 by decide)]) (fun w1 H hD => by rw [fX8_puts, lt_e, isLine_s _ hj, bd_s, tt, e8, bd_s, tt, i8, bd_s, tt, sizeOf_s (uD_0 hD) (by omega), bd_s, c, if_neg (show ¬ ¬ nI 64 = 64 by decide)])
  · have hm := mS_W hW hS hj he hv (by omega)
    have hk : sZ S (2 * j + e) < 64 := by
      unfold aN at c
      rcases (show e = 0 ∨ e = 1 by omega) with rfl | rfl
      · show sZ S (2 * j) < 64; omega
      · omega
    refine bq_e h J (mS J (2 * j + e) v S) T hW hm.1 hT (nI (aN S j + 1)) (fun H hC => ?_) (fun w1 H hD => ?_)
    · rw [fX7_puts, lineAt_s w hj, bd_s, oc_s, e7, bd_s, tt, i7, bd_s, tt, size_s hC (by omega), bd_s, if_pos (show nI (aN S j) < 64 from nI_lt (b := 64) (by omega) (by decide))]
      refine ok_b (put_s hW hC (by omega) he hv hk (sW_V hS (by omega))) (fun _ w2 a2 => ?_)
      rw [size_s a2 (by omega), bd_s, hm.2]
      exact ok_r ⟨rfl, H, a2⟩
    · rw [fX8_puts, lt_e, isLine_s _ hj, bd_s, tt, e8, bd_s, tt, i8, bd_s, tt, sizeOf_s (uD_0 hD) (by omega), bd_s, if_pos (show ¬ nI (aN S j) = 64 from fun q => c ((nI_eq (b := 64) (by omega) (by decide)).mp q)), (idx2 (by omega) he).1]
      refine ok_b (makes_s hW (uD_0 hD) (sW_B hS) (by omega) hv hk (sW_V hS (by omega))) (fun _ w2 a2 => ?_)
      rw [sizeOf_s a2 (by omega), bd_s, hm.2]
      exact ok_r ⟨rfl, H, a2⟩
theorem takes_b (h : rW J S T w) (a b : Int32) : Bq (fX7_takes a b) (fX8_takes a b) Eq w := by
  obtain ⟨hW, hS, hT, -, -⟩ := id h
  rcases ln a with hl | ⟨j, hj, rfl⟩
  · exact bq_x h (-1) (fun H hC => by rw [fX7_takes, lineAt_n w hl, bd_s, oc_n]) (fun w1 H hD => by rw [fX8_takes, lt_e, isLine_n _ hl, bd_s, ff])
  rcases en b with ⟨e7, e8⟩ | ⟨e, he, rfl, e7, e8⟩
  · exact bq_x h (-1) (fun H hC => by rw [fX7_takes, lineAt_s w hj, bd_s, oc_s, e7, bd_s, ff]) (fun w1 H hD => by rw [fX8_takes, lt_e, isLine_s _ hj, bd_s, tt, e8, bd_s, ff])
  have hz := hS.1 j hj
  by_cases c : aN S j = 0
  · exact bq_x h (-2) (fun H hC => by rw [fX7_takes, lineAt_s w hj, bd_s, oc_s, e7, bd_s, tt, size_s hC (by omega), bd_s, c, if_neg (show ¬ ¬ nI 0 = 0 by decide)]) (fun w1 H hD => by rw [fX8_takes, lt_e, isLine_s _ hj, bd_s, tt, e8, bd_s, tt, sizeOf_s (uD_0 hD) (by omega), bd_s, c, if_neg (show ¬ ¬ nI 0 = 0 by decide)])
  · have h0 := sW_V hS (show 2 * j < 10 by omega)
    have h1 := sW_V hS (show 2 * j + 1 < 10 by omega)
    refine bq_e h J (tS J j e S) T hW (tS_W hW hS hj he (by omega)) hT (nI (tI J j e S)) (fun H hC => ?_) (fun w1 H hD => ?_)
    · rw [fX7_takes, lineAt_s w hj, bd_s, oc_s, e7, bd_s, tt, size_s hC (by omega), bd_s, if_pos (nI_ne0 (by omega) (by omega)), lt_e]
      refine ok_b (take_s hW hC (by omega) he hz (by omega) h0 h1) (fun x w2 a2 => ?_)
      obtain ⟨rfl, H', a2⟩ := a2
      exact ok_b (tell1_s a2 _) (fun _ w3 a3 => ok_r ⟨rfl, H', a3⟩)
    · rw [fX8_takes, lt_e, isLine_s _ hj, bd_s, tt, e8, bd_s, tt, sizeOf_s (uD_0 hD) (by omega), bd_s, if_pos (nI_ne0 (by omega) (by omega)), lt_e]
      refine ok_b (takesOne_s hW (uD_0 hD) (sW_B hS) (by omega) he hz (by omega) h0 h1) (fun x w2 a2 => ?_)
      obtain ⟨rfl, H', a2⟩ := a2
      refine ok_b (tellsWork_s a2 _ _) (fun x w3 a3 => ?_)
      exact ok_r ⟨a3.1, H', a3.2⟩
theorem bL_z {j t : Nat} (hne : t ≠ j) : aN (bL j t S) j = aN S t ∧ ∀ i, i ≠ j → aN (bL j t S) i = aN S i := by
  unfold bL aN
  constructor
  · rw [show sZ (cS (2 * j + 1) (2 * t + 1) (cS (2 * j) (2 * t) S)) (2 * j) = _ from cX_zo (by omega), show sZ (cS (2 * j + 1) (2 * t + 1) (cS (2 * j) (2 * t) S)) (2 * j + 1) = sZ (cS (2 * j) (2 * t) S) (2 * t + 1) from cX_z, show sZ (cS (2 * j) (2 * t) S) (2 * j) = sZ S (2 * t) from cX_z, show sZ (cS (2 * j) (2 * t) S) (2 * t + 1) = _ from cX_zo (by omega)]
  · intro i hi
    rw [show sZ (cS (2 * j + 1) (2 * t + 1) (cS (2 * j) (2 * t) S)) (2 * i) = _ from cX_zo (by omega), show sZ (cS (2 * j + 1) (2 * t + 1) (cS (2 * j) (2 * t) S)) (2 * i + 1) = _ from cX_zo (by omega), show sZ (cS (2 * j) (2 * t) S) (2 * i) = _ from cX_zo (by omega), show sZ (cS (2 * j) (2 * t) S) (2 * i + 1) = _ from cX_zo (by omega)]
theorem bL_V {j t : Nat} (hne : t ≠ j) (hj : j < 5) (ht : t < 5) (h : ∀ a, a < 10 → kV J S a) {a : Nat} (ha : a < 10) : kV J (bL j t S) a := by
  have h1 : ∀ a, a < 10 → kV J (cS (2 * j) (2 * t) S) a := fun a ha => by
    by_cases c : a = 2 * j
    · rw [c]; exact cS_V (h _ (by omega))
    · exact cS_Vo c (h a ha)
  unfold bL
  by_cases c : a = 2 * j + 1
  · rw [c]; exact cS_V (h1 _ (by omega))
  · exact cS_Vo c (h1 a ha)
theorem copies_b (h : rW J S T w) (a b : Int32) : Bq (fX7_copies a b) (fX8_copies a b) Eq w := by
  obtain ⟨hW, hS, hT, -, -⟩ := id h
  rcases ln a with hl | ⟨j, hj, rfl⟩
  · rcases ln b with hl2 | ⟨t, ht, rfl⟩
    · exact bq_x h (-1) (fun H hC => by rw [fX7_copies, lineAt_n w hl, bd_s, oc_n, lineAt_n w hl2, bd_s, oc_n]) (fun w1 H hD => by rw [fX8_copies, lt_e, isLine_n _ hl, bd_s, ff])
    · exact bq_x h (-1) (fun H hC => by rw [fX7_copies, lineAt_n w hl, bd_s, oc_n, lineAt_s w ht, bd_s, oc_s]) (fun w1 H hD => by rw [fX8_copies, lt_e, isLine_n _ hl, bd_s, ff])
  rcases ln b with hl2 | ⟨t, ht, rfl⟩
  · exact bq_x h (-1) (fun H hC => by rw [fX7_copies, lineAt_s w hj, bd_s, oc_s, lineAt_n w hl2, bd_s, oc_n]) (fun w1 H hD => by rw [fX8_copies, lt_e, isLine_s _ hj, bd_s, tt, isLine_n _ hl2, bd_s, ff])
  by_cases c : j = t
  · subst c
    exact bq_x h (-2) (fun H hC => by rw [fX7_copies, lineAt_s w hj, bd_s, oc_s, lineAt_s w hj, bd_s, oc_s, if_neg (not_not_intro rfl)]) (fun w1 H hD => by rw [fX8_copies, lt_e, isLine_s _ hj, bd_s, tt, isLine_s _ hj, bd_s, tt, if_neg (not_not_intro rfl)])
  · have hne : ¬ nI j = nI t := fun q => c ((nI_eq (by omega) (by omega)).mp q)
    have hz := hS.1 j hj
    have hb := bL_z (S := S) (j := t) (t := j) c
    have hk : ∀ a, a < 10 → kV J S a := fun a ha => sW_V hS ha
    refine bq_e h J (bL t j S) T hW ⟨fun i hi => ?_, fun k hk2 => bL_V c (by omega) (by omega) hk (by omega), ?_⟩ hT (nI (aN S j)) (fun H hC => ?_) (fun w1 H hD => ?_)
    · by_cases q : i = t
      · rw [q, hb.1]; exact hz
      · rw [hb.2 i q]; exact hS.1 i hi
    · rw [hb.2 4 (by omega)]; exact hS.2.2
    · rw [fX7_copies, lineAt_s w hj, bd_s, oc_s, lineAt_s w ht, bd_s, oc_s, if_pos hne]
      refine ok_b (become_s hC (by omega) (by omega) c hz) (fun _ w2 a2 => ?_)
      rw [size_s a2 (by omega), bd_s, hb.1]
      exact ok_r ⟨rfl, H, a2⟩
    · rw [fX8_copies, lt_e, isLine_s _ hj, bd_s, tt, isLine_s _ ht, bd_s, tt, if_pos hne]
      refine ok_b (copiesTo_s (uD_0 hD) (sW_B hS) (by omega) (by omega) c) (fun _ w2 a2 => ?_)
      rw [sizeOf_s a2 (by omega), bd_s, hb.2 j c]
      exact ok_r ⟨rfl, H, a2⟩
theorem reverses_b (h : rW J S T w) (a : Int32) : Bq (fX7_reverses a) (fX8_reverses a) Eq w := by
  obtain ⟨hW, hS, hT, -, -⟩ := id h
  rcases ln a with hl | ⟨j, hj, rfl⟩
  · exact bq_x h (-1) (fun H hC => by rw [fX7_reverses, lineAt_n w hl, bd_s, oc_n]) (fun w1 H hD => by rw [fX8_reverses, lt_e, isLine_n _ hl, bd_s, ff])
  have hz := hS.1 j hj
  have h0 := kV_I (hS.2.1 (2 * j) (by omega))
  have h1 := kV_I (hS.2.1 (2 * j + 1) (by omega))
  have hf : sZ S (2 * j + 1) ≤ aN S j := by unfold aN; omega
  refine bq_e h J (vS J j S) T hW (lS_W hW hS hj hf hz (fun i hi => sI hS hj (by omega))) hT (nI (aN S j)) (fun H hC => ?_) (fun w1 H hD => ?_)
  · rw [fX7_reverses, lineAt_s w hj, bd_s, oc_s]
    refine ok_b (turn_s hW hC (by omega) hz h0 h1) (fun _ w2 a2 => ?_)
    obtain ⟨H', a2⟩ := a2
    rw [size_s a2 (by omega), bd_s, show aN (vS J j S) j = aN S j from lN_n hf]
    exact ok_r ⟨rfl, H', a2⟩
  · rw [fX8_reverses, lt_e, isLine_s _ hj, bd_s, tt]
    refine ok_b (turns_s hW (uD_0 hD) (sW_B hS) (by omega) hz h0 h1) (fun x w2 a2 => ?_)
    exact ok_r a2
theorem clears_b (h : rW J S T w) (a : Int32) : Bq (fX7_clears a) (fX8_clears a) Eq w := by
  obtain ⟨hW, hS, hT, -, -⟩ := id h
  rcases ln a with hl | ⟨j, hj, rfl⟩
  · exact bq_x h (-1) (fun H hC => by rw [fX7_clears, lineAt_n w hl, bd_s, oc_n]) (fun w1 H hD => by rw [fX8_clears, lt_e, isLine_n _ hl, bd_s, ff])
  have e := d_in2 (show j < 5 by omega)
  refine bq_e h J (zS (2 * j + 1) 0 (zS (2 * j) 0 S)) T hW ?_ hT (nI (aN S j)) (fun H hC => ?_) (fun w1 H hD => ?_)
  · refine sW_l hS hj (fun a h0 h1 => by rw [zS_zo h1, zS_zo h0]) (fun a h0 h1 x => rfl) (zS_Vo (by omega) zS_0V) zS_0V ?_
    unfold aN
    rw [zS_z, zS_zo (by omega), zS_z]; omega
  · rw [fX7_clears, lineAt_s w hj, bd_s, oc_s, size_s hC (by omega), bd_s, lt_e, lt_e, LN_0, LN_1]
    exact ok_r ⟨rfl, H, uC_Z (uC_Z hC (n := 0) (by omega) (by omega)) (n := 0) (by omega) (by omega)⟩
  · rw [fX8_clears, lt_e, isLine_s _ hj, bd_s, tt, sizeOf_s (uD_0 hD) (by omega), bd_s, e.1, zg_t, lt_e, e.2.1, zg_t, lt_e, e.2.2.1, e.2.2.2.1]
    exact ok_r ⟨rfl, H, uD_Z (uD_Z (uD_0 hD) (n := 0) (by omega) (by omega)) (n := 0) (by omega) (by omega)⟩
theorem parts_b (h : rW J S T w) (a b c : Int32) : Bq (fX7_parts a b c) (fX8_parts a b c) Eq w := by
  obtain ⟨hW, hS, hT, -, -⟩ := id h
  rcases ln a with hl | ⟨j, hj, rfl⟩
  · rcases ln c with hl2 | ⟨t, ht, rfl⟩
    · exact bq_x h (-1) (fun H hC => by rw [fX7_parts, lineAt_n w hl, bd_s, oc_n, lineAt_n w hl2, bd_s, oc_n]) (fun w1 H hD => by rw [fX8_parts, lt_e, isLine_n _ hl, bd_s, ff])
    · exact bq_x h (-1) (fun H hC => by rw [fX7_parts, lineAt_n w hl, bd_s, oc_n, lineAt_s w ht, bd_s, oc_s]) (fun w1 H hD => by rw [fX8_parts, lt_e, isLine_n _ hl, bd_s, ff])
  rcases ln c with hl2 | ⟨t, ht, rfl⟩
  · exact bq_x h (-1) (fun H hC => by rw [fX7_parts, lineAt_s w hj, bd_s, oc_s, lineAt_n w hl2, bd_s, oc_n]) (fun w1 H hD => by rw [fX8_parts, lt_e, isLine_s _ hj, bd_s, tt, isLine_n _ hl2, bd_s, ff])
  by_cases hb : b < 0
  · exact bq_x h (-1) (fun H hC => by rw [fX7_parts, lineAt_s w hj, bd_s, oc_s, lineAt_s w ht, bd_s, oc_s, if_neg (Int32.not_le.mpr hb)]) (fun w1 H hD => by rw [fX8_parts, lt_e, isLine_s _ hj, bd_s, tt, isLine_s _ ht, bd_s, tt, if_neg (Int32.not_le.mpr hb)])
  have hb0 : (0 : Int32) ≤ b := Int32.not_lt.mp hb
  by_cases cc : j = t
  · subst cc
    exact bq_x h (-2) (fun H hC => by rw [fX7_parts, lineAt_s w hj, bd_s, oc_s, lineAt_s w hj, bd_s, oc_s, if_pos hb0, if_neg (not_not_intro rfl)]) (fun w1 H hD => by rw [fX8_parts, lt_e, isLine_s _ hj, bd_s, tt, isLine_s _ hj, bd_s, tt, if_pos hb0, if_neg (not_not_intro rfl)])
  have hne : ¬ nI j = nI t := fun q => cc ((nI_eq (by omega) (by omega)).mp q)
  have hz := hS.1 j hj
  by_cases hk : nI (aN S j) < b
  · exact bq_x h (-3) (fun H hC => by rw [fX7_parts, lineAt_s w hj, bd_s, oc_s, lineAt_s w ht, bd_s, oc_s, if_pos hb0, if_pos hne, size_s hC (by omega), bd_s, if_neg (Int32.not_le.mpr hk)]) (fun w1 H hD => by rw [fX8_parts, lt_e, isLine_s _ hj, bd_s, tt, isLine_s _ ht, bd_s, tt, if_pos hb0, if_pos hne, sizeOf_s (uD_0 hD) (by omega), bd_s, if_neg (Int32.not_le.mpr hk)])
  have hk2 : b ≤ nI (aN S j) := Int32.not_lt.mp hk
  obtain ⟨k, hk3, rfl⟩ : ∃ k, k ≤ aN S j ∧ b = nI k := by
    rcases i01 (by omega) hk with q | q
    · exact absurd q hb
    · exact q
  have h0 := kV_I (hS.2.1 (2 * j) (by omega))
  have h1 := kV_I (hS.2.1 (2 * j + 1) (by omega))
  have hg : ∀ i, i < aN S j → aI S j i < 10000 := fun i hi => sI hS hj hi
  have hS1 := lS_W hW hS hj (f := (k + 1) / 2) (n := k) (g := aI S j) (by omega) (by omega) (fun i hi => hg i (by omega))
  refine bq_e h J (sP J j k t S) T hW (lS_W hW hS1 ht (by omega) (by omega) (fun i hi => hg _ (by omega))) hT (nI (aN S j - k)) (fun H hC => ?_) (fun w1 H hD => ?_)
  · rw [fX7_parts, lineAt_s w hj, bd_s, oc_s, lineAt_s w ht, bd_s, oc_s, if_pos hb0, if_pos hne, size_s hC (by omega), bd_s, if_pos hk2]
    refine ok_b (split_s hW hC (by omega) (by omega) (fun q => cc q.symm) hk3 hz h0 h1) (fun _ w2 a2 => ?_)
    obtain ⟨H', a2⟩ := a2
    rw [size_s a2 (by omega), bd_s, show aN (sP J j k t S) t = aN S j - k from lN_n (by omega)]
    exact ok_r ⟨rfl, H', a2⟩
  · rw [fX8_parts, lt_e, isLine_s _ hj, bd_s, tt, isLine_s _ ht, bd_s, tt, if_pos hb0, if_pos hne, sizeOf_s (uD_0 hD) (by omega), bd_s, if_pos hk2]
    refine ok_b (items_s (uD_0 hD) (by omega) hz) (fun x w2 a2 => ?_)
    obtain ⟨-, a2⟩ := a2
    rw [two_d (by omega), pk_sub hk3, two_d (by omega)]
    refine ok_b (lay8_s hW a2 (sW_B hS) (by omega) (g := aI S j) (fr := 0) (by omega) (by omega) (by omega) (fun i hi => ⟨by rw [Nat.zero_add]; exact hH_a (by omega), hg i (by omega)⟩)) (fun _ w3 a3 => ?_)
    refine ok_b (lay8_s hW a3 (sW_B hS1) (by omega) (g := fun i => aI S j (k + i)) (fr := k) (by omega) (by omega) (by omega) (fun i hi => ⟨hH_a (by omega), hg _ (by omega)⟩)) (fun _ w4 a4 => ok_r ⟨rfl, _, a4⟩)
end K1
