set_option maxRecDepth 16384
section R9
variable {w0 : zX} {w : zW} {J : aJ} {S : aS} {T : aT} {H : Nat → Int32} {n : Nat}
theorem readsAct_s (hq : ¬ w0.2) (h : uD w0 J S T H w) (hn : n ≤ 100) (hT : tW T) {p k : Nat} (hk : k < 100) (hp : p < n) (h6 : zI w 74 6 = nI n) (h5 : zI w 74 5 = nI p) (h32 : T.2 p ≠ 32) : Ok (fX8_readsAct (nI k) w) (fun b w' => uD w0 J S T H w' ∧ zI w' 74 6 = nI n ∧ (∀ i, i ≠ k → zI w' 90 i = zI w 90 i ∧ zI w' 91 i = zI w 91 i) ∧ ((b = true ∧ ∃ p', p < p' ∧ p' ≤ n ∧ zI w' 74 5 = nI p' ∧ wW' T.2 n p = wW' T.2 n p' ∧ aL T.2 n (n - p) p = (T.2 p, iB T.2 n p) :: aL T.2 n (n - p') p' ∧ zI w' 90 k = nI (T.2 p) ∧ (isP (T.2 p) → zI w' 91 k = nI (iB T.2 n p))) ∨ (b = false ∧ ∃ q, wW' T.2 n p = some q ∧ zI w' 74 5 = nI q))) := by
  have q102 := nI_c (a := T.2 p) 102 (hT.2 p) (by decide)
  have q98 := nI_c (a := T.2 p) 98 (hT.2 p) (by decide)
  have q70 := nI_c (a := T.2 p) 70 (hT.2 p) (by decide)
  have q66 := nI_c (a := T.2 p) 66 (hT.2 p) (by decide)
  have q114 := nI_c (a := T.2 p) 114 (hT.2 p) (by decide)
  have a1 := uD_9 hq (uD_5 (v := nI (p + 1)) h (.inl rfl)) (k := 90) (i := k) (v := nI (T.2 p)) (.inl rfl)
  have o90 : zI (zsI (zsI w 74 5 (nI (p + 1))) 90 k (nI (T.2 p))) 90 k = nI (T.2 p) := by rw [zI_zsI, if_pos ⟨rfl, rfl⟩]
  have o9 : ∀ i, i ≠ k → zI (zsI (zsI w 74 5 (nI (p + 1))) 90 k (nI (T.2 p))) 90 i = zI w 90 i := fun i hi => by rw [zI_zsI, if_neg (fun z => hi z.2)]; rfl
  have o91 : ∀ i, zI (zsI (zsI w 74 5 (nI (p + 1))) 90 k (nI (T.2 p))) 91 i = zI w 91 i := fun i => rfl
  rw [fX8_readsAct, h5, zin_t (show p < 100 by omega) (by decide), zg_t, nI_clamp (by omega), uD_s h (by omega), lt_e, lt_e, lt_e]
  by_cases c1 : isP (T.2 p)
  · have e3 : (if nI (T.2 p) = 102 then (1 : Int32) else if ¬ nI (T.2 p) = 98 then (0 : Int32) else (1 : Int32)) = 1 := by
      rcases c1 with d | d
      · rw [if_pos (show nI (T.2 p) = 102 from q102.mpr d)]
      · rw [if_neg (show ¬ nI (T.2 p) = 102 from fun q => by have := q102.mp q; omega), if_neg (show ¬ ¬ nI (T.2 p) = 98 from not_not_intro (q98.mpr d))]
    rw [e3, if_pos (show ¬ (1 : Int32) = 0 by decide)]
    dsimp only
    rw [h5, lt_e, nI_1, zin_t hk (by decide), zg_t, lt_e, nI_clamp (show k < 2 ^ 31 by omega), if_pos (show ¬ (1 : Int32) = 0 by decide)]
    have hL := act_L81 (S := S) (J := J) (H := H) hq hn hT (k := k) (q := p + 1) hk 4 0 zFU _ (by omega) (by rw [show zFU = 18446744073709551616 from rfl]; omega) (by omega) (fun x hx => absurd hx (Nat.not_lt_zero x)) a1 h6 rfl
    rw [Nat.zero_add, Nat.add_zero] at hL
    refine ok_m hL (fun b w' a => ?_)
    obtain ⟨b1, b2, b3, b4, b5, b6, rfl⟩ := a
    have hd := dG_le (s := T.2) (n := n) 4 (p + 1)
    refine ⟨b1, b2, fun i hi => ⟨(b6 i).trans (o9 i hi), (b5 i hi).trans (o91 i)⟩, ?_⟩
    by_cases c : 0 < dG T.2 n 4 (p + 1) ∧ ¬ isD T.2 n (p + 1 + dG T.2 n 4 (p + 1))
    · have hin := (dG_in (s := T.2) (n := n) 4 (p + 1) (dG T.2 n 4 (p + 1) - 1) (by omega)).1
      refine .inl ⟨decide_eq_true c, p + 1 + dG T.2 n 4 (p + 1), by omega, by omega, b3, ?_, ?_, (b6 k).trans o90, fun _ => b4⟩
      · rw [wA_u (f := 0) hp, if_pos c1, if_neg (by omega)]
      · rw [show n - p = (n - p - 1) + 1 by omega]
        have e : aL T.2 n (n - p - 1 + 1) p = (T.2 p, iB T.2 n p) :: aL T.2 n (n - p - 1) (p + 1) := if_pos (.inl c1)
        rw [e, aL_d (dG T.2 n 4 (p + 1)) (n - p - 1) (p + 1) (fun x hx => (dG_in (s := T.2) (n := n) 4 (p + 1) x hx).2) (by omega), show n - p - 1 - dG T.2 n 4 (p + 1) = n - (p + 1 + dG T.2 n 4 (p + 1)) by omega]
    · refine .inr ⟨decide_eq_false c, ?_⟩
      by_cases c0 : dG T.2 n 4 (p + 1) = 0
      · refine ⟨p + 1, by rw [wA_u (f := 0) hp, if_pos c1, if_pos c0], ?_⟩
        rw [b3, c0]
      · have c5 : isD T.2 n (p + 1 + dG T.2 n 4 (p + 1)) := by
          by_cases z : isD T.2 n (p + 1 + dG T.2 n 4 (p + 1))
          · exact z
          · exact absurd ⟨by omega, z⟩ c
        refine ⟨p + 1 + dG T.2 n 4 (p + 1), ?_, b3⟩
        have z1 := c5.1
        have z2 := c5.2.1
        have z3 := c5.2.2
        rw [wA_u (f := 0) hp, if_pos c1, if_neg c0, wA_u (f := 0) c5.1, if_neg (by unfold isP; omega), if_neg (by unfold isX; omega)]
  · have e3 : (if nI (T.2 p) = 102 then (1 : Int32) else if ¬ nI (T.2 p) = 98 then (0 : Int32) else (1 : Int32)) = 0 := by
      rw [if_neg (show ¬ nI (T.2 p) = 102 from fun q => c1 (.inl (q102.mp q))), if_pos (show ¬ nI (T.2 p) = 98 from fun q => c1 (.inr (q98.mp q)))]
    rw [e3, if_neg (show ¬ ¬ (0 : Int32) = 0 by decide)]
    have go : isX (T.2 p) → Ok ((fun (w5 : zW) => lt (zsI w5 74 5 ((zI w5 74 5) + (1 : Int32))) fun w6 => zg (zin (nI k) 100) <| lt (zsI w6 90 (nI k).toNatClampNeg (nI (T.2 p))) fun w7 => if ¬ (0 : Int32) = (0 : Int32) then fX8_readsAct_L81 (nI k) zFU (0 : Int32) (0 : Int32) w7 else some (true, w7)) w) (fun b w' => uD w0 J S T H w' ∧ zI w' 74 6 = nI n ∧ (∀ i, i ≠ k → zI w' 90 i = zI w 90 i ∧ zI w' 91 i = zI w 91 i) ∧ ((b = true ∧ ∃ p', p < p' ∧ p' ≤ n ∧ zI w' 74 5 = nI p' ∧ wW' T.2 n p = wW' T.2 n p' ∧ aL T.2 n (n - p) p = (T.2 p, iB T.2 n p) :: aL T.2 n (n - p') p' ∧ zI w' 90 k = nI (T.2 p) ∧ (isP (T.2 p) → zI w' 91 k = nI (iB T.2 n p))) ∨ (b = false ∧ ∃ q, wW' T.2 n p = some q ∧ zI w' 74 5 = nI q))) := by
      intro hx
      dsimp only
      rw [h5, lt_e, nI_1, zin_t hk (by decide), zg_t, lt_e, nI_clamp (show k < 2 ^ 31 by omega), if_neg (show ¬ ¬ (0 : Int32) = 0 by decide)]
      refine ok_r ⟨a1, h6, fun i hi => ⟨o9 i hi, o91 i⟩, .inl ⟨rfl, p + 1, by omega, by omega, rfl, ?_, ?_, o90, fun z => absurd z c1⟩⟩
      · rw [wA_u (f := 0) hp, if_neg c1, if_pos (.inl hx)]
      · rw [show n - p = (n - (p + 1)) + 1 by omega]
        exact if_pos (.inr hx)
    by_cases c2 : T.2 p = 70
    · rw [if_pos (show nI (T.2 p) = 70 from q70.mpr c2)]; exact go (.inl c2)
    · rw [if_neg (show ¬ nI (T.2 p) = 70 from fun q => c2 (q70.mp q))]
      by_cases c3 : T.2 p = 66
      · rw [if_pos (show nI (T.2 p) = 66 from q66.mpr c3)]; exact go (.inr (.inl c3))
      · rw [if_neg (show ¬ nI (T.2 p) = 66 from fun q => c3 (q66.mp q))]
        by_cases c4 : T.2 p = 114
        · rw [if_pos (show nI (T.2 p) = 114 from q114.mpr c4)]; exact go (.inr (.inr c4))
        · rw [if_neg (show ¬ nI (T.2 p) = 114 from fun q => c4 (q114.mp q))]
          refine ok_r ⟨h, h6, fun i _ => ⟨rfl, rfl⟩, .inr ⟨rfl, p, ?_, h5⟩⟩
          rw [wA_u (f := 0) hp, if_neg c1, if_neg (fun z => z.elim (fun y => y.elim c2 (fun x => x.elim c3 c4)) h32)]
theorem aR_s {pre : List (Nat × Nat)} {a : Nat × Nat} {w' : zW} (h : aR pre w) (ho : ∀ i, i ≠ pre.length → zI w' 90 i = zI w 90 i ∧ zI w' 91 i = zI w 91 i) (h1 : zI w' 90 pre.length = nI a.1) (h2 : isP a.1 → zI w' 91 pre.length = nI a.2) : aR (pre ++ [a]) w' := by
  intro i hi
  rw [List.length_append] at hi
  by_cases c : i < pre.length
  · have e : (pre ++ [a])[i] = pre[i] := List.getElem_append_left c
    rw [e, (ho i (by omega)).1, (ho i (by omega)).2]
    exact h i c
  · have hi2 : i = pre.length := by
      have : [a].length = 1 := rfl
      omega
    subst hi2
    have e : (pre ++ [a])[pre.length] = a := by rw [List.getElem_append_right (Nat.le_refl _)]; simp
    rw [e]
    exact ⟨h1, h2⟩
theorem read_L (hq : ¬ w0.2) (hn : n ≤ 100) (hT : tW T) {j : Nat} (P : Int32 → zW → Prop) (hE : ∀ w q, wW' T.2 n 0 = some q → uD w0 J S T H w → P (-21 - nI q) w) (hX : ∀ w, wW' T.2 n 0 = none → uD w0 J S T H w → aR (aL T.2 n n 0) w → Ok (lt (zI w 74 23) fun v13 => fX8_run_L69 (nI j) (nI (aL T.2 n n 0).length) v13 zFU (0 : Int32) w) P) : ∀ m p N w (pre : List (Nat × Nat)), p + m = n → m < N → pre.length ≤ p → (p = n ∨ T.2 p ≠ 32) → uD w0 J S T H w → zI w 74 6 = nI n → zI w 74 5 = nI p → aR pre w → aL T.2 n n 0 = pre ++ aL T.2 n (n - p) p → wW' T.2 n 0 = wW' T.2 n p → Ok (fX8_run_L24 (nI j) N (nI pre.length) w) P := by
  intro m
  induction m using Nat.strongRecOn with
  | _ m ih =>
    intro p N w pre hm hN hpl hb h h6 h5 hr hl hw
    obtain ⟨N, rfl⟩ : ∃ k, N = k + 1 := ⟨N - 1, by omega⟩
    rw [fX8_run_L24.eq_2, h6, h5]
    by_cases c : p < n
    · rw [if_neg (Int32.not_le.mpr (nI_lt c (by omega)))]
      refine ok_b (readsAct_s hq h hn hT (k := pre.length) (by omega) c h6 h5 (hb.resolve_left (by omega))) (fun b w1 a1 => ?_)
      obtain ⟨b1, b2, b3, ⟨rfl, p1, d1, d2, d3, d4, d5, d6, d7⟩ | ⟨rfl, q, d1, d2⟩⟩ := a1
      · rw [tt]
        have hr1 : aR (pre ++ [(T.2 p, iB T.2 n p)]) w1 := aR_s hr b3 d6 d7
        refine ok_b (passes_L hn (n - p1) p1 zFU w1 (by omega) (by rw [show zFU = 18446744073709551616 from rfl]; omega) b1 b2 d3 (fun i => ⟨rfl, rfl⟩) hT) (fun _ w2 a2 => ?_)
        obtain ⟨e1, e2, e3, p2, f1, f2, f3, f4, f5, f6⟩ := a2
        rw [nI_1]
        have := ih (n - p2) (by omega) p2 N w2 (pre ++ [(T.2 p, iB T.2 n p)]) (by omega) (by omega) (by rw [List.length_append]; show pre.length + 1 ≤ p2; omega) f4 e1 e2 f3 (fun i hi => ⟨(e3 i).1.trans (hr1 i hi).1, fun z => (e3 i).2.trans ((hr1 i hi).2 z)⟩) (by rw [hl, d5, f6, List.append_assoc]; rfl) (by rw [hw, d4, f5])
        rw [List.length_append] at this
        exact this
      · rw [ff, d2]
        exact ok_r (hE w1 q (by rw [hw]; exact d1) b1)
    · rw [if_pos (nI_le (by omega) (by omega))]
      have hl2 : aL T.2 n n 0 = pre := by
        rw [hl, show n - p = 0 by omega]
        show pre ++ [] = pre
        rw [List.append_nil]
      have := hX w (by rw [hw]; exact wA_n (by omega)) h (by rw [hl2]; exact hr)
      rw [hl2] at this
      exact this
theorem does_s (hW : jW J) (hS : sW J S) (h : uD w0 J S T H w) {j k c v : Nat} (hj : j < 4) (hk : k < 100) (hc : c < 256) (hv : v < 10000) (hx : isP c ∨ isX c) (h90 : zI w 90 k = nI c) (h91 : isP c → zI w 91 k = nI v) : Ok (fX8_does (nI j) (nI k) w) (fun b w' => match xA J j (c, v) S with | none => b = false ∧ ∃ H', uD w0 J S T H' w' | some S' => b = true ∧ ∃ H', uD w0 J S' T H' w') := by
  have hz := hS.1 j hj
  have q102 := nI_c (a := c) 102 hc (by decide)
  have q98 := nI_c (a := c) 98 hc (by decide)
  have q114 := nI_c (a := c) 114 hc (by decide)
  have q66 := nI_c (a := c) 66 hc (by decide)
  have h0 := hS.2.1 (2 * j) (by omega)
  have h1 := hS.2.1 (2 * j + 1) (by omega)
  have hx2 := xE_l c
  have hk2 : aN S j < 64 → sZ S (2 * j + xE c) < 64 := fun c3 => by
    unfold aN at c3
    rcases (show xE c = 0 ∨ xE c = 1 by omega) with e | e
    · rw [e]; show sZ S (2 * j) < 64; omega
    · rw [e]; omega
  rw [fX8_does, zin_t hk (by decide), zg_t, nI_clamp (by omega), h90]
  have ex : xA J j (c, v) S = if c = 114 then some (vS J j S) else if isP c then (if aN S j < 64 then some (mS J (2 * j + xE c) v S) else none) else if aN S j = 0 then none else some (tS J j (xE c) S) := rfl
  by_cases c1 : c = 98
  · have hp : isP c := .inr c1
    have he : xE c = 1 := by unfold xE; rw [if_neg (by omega)]
    rw [if_neg (show ¬ c = 114 by omega), if_pos hp] at ex
    rw [if_pos (show nI c = 98 from q98.mpr c1), sizeOf_s h (by omega), bd_s, ex]
    by_cases c3 : aN S j < 64
    · rw [if_pos (show ¬ nI (aN S j) = 64 from fun q => by have := (nI_eq (b := 64) (by omega) (by decide)).mp q; omega), if_pos c3, zg_t, lt_e, h90, if_neg (show ¬ ¬ nI c = 98 from not_not_intro (q98.mpr c1)), show fX8_flag 1 w = some (1, w) from rfl, bd_s, zg_t, h91 hp, show (1 : Int32) = nI 1 from rfl, (idx2 (show j < 5 by omega) (show 1 < 2 by decide)).1]
      have := makes_s hW h (sW_B hS) (k := 2 * j + xE c) (by omega) hv (hk2 c3) (sW_V hS (by omega))
      rw [he] at this
      rw [he]
      exact ok_b this (fun _ w1 a1 => ok_r ⟨rfl, H, a1⟩)
    · rw [if_neg (show ¬ ¬ nI (aN S j) = 64 from not_not_intro (by rw [show aN S j = 64 by omega]; rfl)), if_neg c3]
      exact ok_r ⟨rfl, H, h⟩
  · rw [if_neg (show ¬ nI c = 98 from fun q => c1 (q98.mp q))]
    by_cases c2 : c = 102
    · have hp : isP c := .inl c2
      have he : xE c = 0 := by unfold xE; rw [if_pos (.inl c2)]
      rw [if_neg (show ¬ c = 114 by omega), if_pos hp] at ex
      rw [if_pos (show nI c = 102 from q102.mpr c2), sizeOf_s h (by omega), bd_s, ex]
      by_cases c3 : aN S j < 64
      · rw [if_pos (show ¬ nI (aN S j) = 64 from fun q => by have := (nI_eq (b := 64) (by omega) (by decide)).mp q; omega), if_pos c3, zg_t, lt_e, h90, if_pos (show ¬ nI c = 98 from fun q => c1 (q98.mp q)), show fX8_flag 0 w = some (0, w) from rfl, bd_s, zg_t, h91 hp, show (0 : Int32) = nI 0 from rfl, (idx2 (show j < 5 by omega) (show 0 < 2 by decide)).1]
        have := makes_s hW h (sW_B hS) (k := 2 * j + xE c) (by omega) hv (hk2 c3) (sW_V hS (by omega))
        rw [he] at this
        rw [he]
        exact ok_b this (fun _ w1 a1 => ok_r ⟨rfl, H, a1⟩)
      · rw [if_neg (show ¬ ¬ nI (aN S j) = 64 from not_not_intro (by rw [show aN S j = 64 by omega]; rfl)), if_neg c3]
        exact ok_r ⟨rfl, H, h⟩
    · rw [if_neg (show ¬ nI c = 102 from fun q => c2 (q102.mp q))]
      have hnp : ¬ isP c := fun z => z.elim c2 c1
      by_cases c4 : c = 114
      · rw [if_pos c4] at ex
        rw [if_pos (show nI c = 114 from q114.mpr c4), ex]
        refine ok_b (turns_s hW h (sW_B hS) (by omega) hz (kV_I h0) (kV_I h1)) (fun x w1 a1 => ?_)
        obtain ⟨rfl, a1⟩ := a1
        rw [if_neg (nI_pos (by omega))]
        exact ok_r ⟨rfl, a1⟩
      · rw [if_neg c4, if_neg hnp] at ex
        rw [if_neg (show ¬ nI c = 114 from fun q => c4 (q114.mp q)), sizeOf_s h (by omega), bd_s, ex]
        by_cases c3 : aN S j = 0
        · rw [if_pos (by rw [c3]; decide), if_pos c3]
          exact ok_r ⟨rfl, H, h⟩
        · have e8 : (if ¬ nI c = 66 then (0 : Int32) else (1 : Int32)) = nI (xE c) := by
            unfold xE
            by_cases d2 : c = 66
            · rw [if_neg (show ¬ ¬ nI c = 66 from not_not_intro (q66.mpr d2)), if_neg (by omega)]; rfl
            · rw [if_pos (show ¬ nI c = 66 from fun q => d2 (q66.mp q)), if_pos (by unfold isP isX at hx; omega)]; rfl
          have ef : ∀ w, fX8_flag (nI (xE c)) w = some (nI (xE c), w) := fun w => by
            rcases (show xE c = 0 ∨ xE c = 1 by omega) with e | e <;> rw [e] <;> rfl
          rw [if_neg (nI_nle (by omega) (by omega)), if_neg c3, zg_t, lt_e, h90, e8, ef, bd_s]
          refine ok_b (takesOne_s hW h (sW_B hS) (by omega) hx2 hz (by omega) h0 h1) (fun x w1 a1 => ?_)
          obtain ⟨rfl, a1⟩ := a1
          have := tI_l hW (fun a ha => sW_V hS ha) (show j < 5 by omega) hx2 (by omega)
          rw [if_neg (nI_pos (by omega))]
          exact ok_r ⟨rfl, a1⟩
end R9
