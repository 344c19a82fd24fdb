set_option maxRecDepth 16384
section RB
variable {w0 : zX} {w wb : zW} {J : aJ} {S : aS} {T : aT} {H : Nat → Int32} {n : Nat}
theorem run_tail8 (hW : jW J) (hS : sW J S) (h : uD w0 J S T H w) {j : Nat} (hj : j < 4) (d x2 x3 x4 : Int32) : Ok (lt (zsI w 74 1 (0 : Int32)) fun w15 => lt (if x2 ≤ x4 then (0 : Int32) else (1 : Int32)) fun v17 => bd (fX8_flag v17 w15) fun v20 w18 => bd (fX8_enters (v20).toInt64 w18) fun _ w21 => bd (fX8_enters ((zI w21 74 23) - x3).toInt64 w21) fun _ w24 => bd (fX8_entersSummary (nI j) w24) fun _ w27 => some (d, w27)) (fun a w' => a = d ∧ ∃ H', uD w0 J S T H' w') := by
  rw [lt_e, lt_e]
  have hf : ∀ c : Int32, ∃ b, fX8_flag c (zsI w 74 1 0) = some (b, zsI w 74 1 0) := fun c => by
    rw [fX8_flag]
    by_cases q : c = 0
    · exact ⟨0, if_pos q⟩
    · exact ⟨1, if_neg q⟩
  obtain ⟨b, e⟩ := hf (if x2 ≤ x4 then (0 : Int32) else (1 : Int32))
  rw [e, bd_s]
  refine ok_b (enters_s (n := 0) (uD_1 (v := 0) h) rfl (by decide) _) (fun _ w1 a1 => ?_)
  refine ok_b (enters_s a1.1 a1.2 (by decide) _) (fun _ w2 a2 => ?_)
  refine ok_b (entersSum_s hW a2.1 (sW_B hS) (by omega) (sW_V hS (by omega)) (sW_V hS (by omega)) a2.2 (by decide)) (fun _ w3 a3 => ok_r ⟨rfl, H, a3.1⟩)
theorem exec_L (hW : jW J) {j : Nat} (hj : j < 4) {l : List (Nat × Nat)} (hl : l.length ≤ 100) (hr : aR l wb) (ha : ∀ a ∈ l, a.1 < 256 ∧ a.2 < 10000 ∧ (isP a.1 ∨ isX a.1)) {x3 : Int32} : ∀ m d N (S : aS) w, d + m = l.length → m < N → sW J S → (∃ H, uD (wb, True) J S T H w) → Ok (fX8_run_L69 (nI j) (nI l.length) x3 N (nI d) w) (fun a w' => a = nI (d + (xL J j (l.drop d) S).1) ∧ ∃ H', uD (wb, True) J (xL J j (l.drop d) S).2 T H' w') := by
  intro m
  induction m with
  | zero =>
    intro d N S w hm hN hS h
    obtain ⟨N, rfl⟩ : ∃ k, N = k + 1 := ⟨N - 1, by omega⟩
    obtain ⟨H, h⟩ := h
    have e : l.drop d = [] := List.drop_eq_nil_of_le (by omega)
    rw [fX8_run_L69.eq_2, lt_e, if_pos (nI_le (by omega) (by omega)), e]
    exact run_tail8 hW hS h hj _ _ _ _
  | succ m ih =>
    intro d N S w hm hN hS h
    obtain ⟨N, rfl⟩ : ∃ k, N = k + 1 := ⟨N - 1, by omega⟩
    obtain ⟨H, h⟩ := h
    have hd : d < l.length := by omega
    have e : l.drop d = l[d] :: l.drop (d + 1) := List.drop_eq_getElem_cons hd
    obtain ⟨a1, a2, a3⟩ := ha l[d] (List.getElem_mem hd)
    have hc := hr d hd
    have f9 := h.2.2.2.2.2.1
    rw [fX8_run_L69.eq_2, lt_e, if_neg (Int32.not_le.mpr (nI_lt (by omega) (by omega))), e]
    refine ok_b (does_s hW hS h hj (c := (l[d]).1) (v := (l[d]).2) (by omega) a1 a2 a3 ((f9 90 d (.inr ⟨.inl rfl, trivial⟩)).1.trans hc.1) (fun z => (f9 91 d (.inr ⟨.inr rfl, trivial⟩)).1.trans (hc.2 z))) (fun b w1 b1 => ?_)
    unfold xL
    cases eq : xA J j l[d] S with
    | none =>
      have eq' : xA J j ((l[d]).1, (l[d]).2) S = none := eq
      rw [eq'] at b1
      obtain ⟨rfl, H', b1⟩ := b1
      rw [ff, Nat.add_zero]
      exact run_tail8 hW hS b1 hj _ _ _ _
    | some S' =>
      have eq' : xA J j ((l[d]).1, (l[d]).2) S = some S' := eq
      rw [eq'] at b1
      obtain ⟨rfl, b1⟩ := b1
      rw [tt, nI_1]
      have := ih (d + 1) N S' w1 (by omega) (by omega) (xA_W hW hS hj a2 eq) b1
      rw [show d + 1 + (xL J j (l.drop (d + 1)) S').1 = d + ((xL J j (l.drop (d + 1)) S').1 + 1) by omega] at this
      exact this
theorem uD_rb (hq : ¬ w0.2) {J' : aJ} {S' : aS} {T' : aT} {H' : Nat → Int32} {Q : Prop} (h : uD w0 J S T H wb) (h2 : uD (wb, Q) J' S' T' H' w) : uD w0 J' S' T' H' w := by
  obtain ⟨a, b, c, d, e, f, g⟩ := h2
  refine ⟨a, b, c, d, e, fun k j hk => ?_, g.1.trans h.2.2.2.2.2.2.1, g.2⟩
  rcases hk with hk | hk
  · exact ⟨(f k j (.inl hk)).1.trans (h.2.2.2.2.2.1 k j (.inl hk)).1, (f k j (.inl hk)).2.trans (h.2.2.2.2.2.1 k j (.inl hk)).2⟩
  · exact absurd hk.2 hq
theorem uD_self {Q : Prop} (h : uD w0 J S T H wb) : uD (wb, Q) J S T H wb := by
  obtain ⟨a, b, c, d, e, f, g⟩ := h
  exact ⟨a, b, c, d, e, fun k j _ => ⟨rfl, rfl⟩, rfl, g.2⟩
theorem aL_c {s : Nat → Nat} (hs : ∀ i, s i < 256) : ∀ m p, ∀ a ∈ aL s n m p, a.1 < 256 := by
  intro m
  induction m with
  | zero => intro p a h; cases h
  | succ m ih =>
    intro p a h
    unfold aL at h
    by_cases c : isP (s p) ∨ isX (s p)
    · rw [if_pos c] at h
      rcases List.mem_cons.mp h with rfl | h
      · exact hs p
      · exact ih _ a h
    · rw [if_neg c] at h; exact ih _ a h
/-- THE TEXT goes -/
theorem uC_r (h : uC w0 J S T H w) : uC w0 J S (0, T.2) H (zsI w 64 0 0) := uC_e h
theorem reads_s (h : uD w0 J S T H w) : ∃ W, fX8_reads w = some ((), W) ∧ uD w0 J S (0, T.2) H W ∧ zI W 74 6 = nI T.1 ∧ zI W 74 5 = nI 0 := by
  have h1 := uD_5 (v := zI w 74 4) h (k := 6) (.inr (.inl rfl))
  have h2 := uD_e (n := 0) h1
  have h3 := uD_5 (v := 0) h2 (k := 5) (.inl rfl)
  exact ⟨_, rfl, h3, h.2.2.2.1.1, rfl⟩
theorem run_b (h : rW J S T w) (a : Int32) : Bq (fX7_run a) (fX8_run a) Eq w := by
  obtain ⟨hW, hS, hT, -, -⟩ := id h
  have hT1 := hT.1
  have hT0 : tW (0, T.2) := ⟨Nat.zero_le _, hT.2⟩
  rcases ln a with hl | ⟨j, hj, rfl⟩
  · refine bq_e h J S (0, T.2) hW hS hT0 (-1) (fun H hC => ?_) (fun w1 H hD => ?_)
    · rw [fX7_run, lineAt_n w hl, bd_s, oc_n, lt_e, wrong_s hT hC, bd_s, lt_e]
      exact ok_r ⟨rfl, H, uC_r hC⟩
    · obtain ⟨W, e, b1, b2, b3⟩ := reads_s (uD_0 hD)
      rw [fX8_run, lt_e, e, bd_s, isLine_n _ hl, bd_s, ff]
      exact ok_r ⟨rfl, H, b1⟩
  have key : ∀ (P : Int32 → zW → Prop) (w1 : zW) (H : Nat → Int32), uD (w1, False) J S T H w1 → (∀ w q, wW' T.2 T.1 0 = some q → uD (w1, False) J S (0, T.2) H w → P (-21 - nI q) w) → (∀ w, wW' T.2 T.1 0 = none → uD (w1, False) J S (0, T.2) H w → aR (aL T.2 T.1 T.1 0) w → Ok (lt (zI w 74 23) fun v13 => fX8_run_L69 (nI j) (nI (aL T.2 T.1 T.1 0).length) v13 zFU (0 : Int32) w) P) → Ok (fX8_run (nI j) w1) P := by
    intro P w1 H hD hE hX
    obtain ⟨W, e, b1, b2, b3⟩ := reads_s (uD_0 hD)
    rw [fX8_run, lt_e, e, bd_s, isLine_s _ hj, bd_s, tt]
    refine ok_b (passes_L (n := T.1) hT1 T.1 0 zFU W (by omega) (by rw [show zFU = 18446744073709551616 from rfl]; omega) b1 b2 b3 (fun i => ⟨rfl, rfl⟩) hT0) (fun _ w2 a2 => ?_)
    obtain ⟨e1, e2, e3, p2, f1, f2, f3, f4, f5, f6⟩ := a2
    have := read_L (T := (0, T.2)) (n := T.1) (show ¬ (w1, False).2 from id) hT1 hT0 (j := j) P hE hX (T.1 - p2) p2 zFU w2 [] (by omega) (by rw [show zFU = 18446744073709551616 from rfl]; omega) (Nat.zero_le _) f4 e1 e2 f3 (fun i hi => absurd hi (Nat.not_lt_zero i)) (by rw [List.nil_append]; exact f6) f5
    exact this
  cases hw : wW' T.2 T.1 0 with
  | some q =>
    have hq : ¬ nI q = -1 ∨ True := .inr trivial
    refine bq_e h J S (0, T.2) hW hS hT0 (-21 - nI q) (fun H hC => ?_) (fun w1 H hD => ?_)
    · rw [fX7_run, lineAt_s w hj, bd_s, oc_s, lt_e, wrong_s hT hC, bd_s, lt_e, hw]
      dsimp only
      have hql : q < 2 ^ 31 := by
        have : ∀ f p, p ≤ T.1 → ∀ q, wA T.2 T.1 f p = some q → q ≤ 200 := by
          intro f
          induction f with
          | zero => intro p _ q e; cases e
          | succ f ih =>
            intro p hp q e
            rw [wA.eq_2] at e
            by_cases c0 : T.1 ≤ p
            · rw [if_pos c0] at e; cases e
            · rw [if_neg c0] at e
              have hd := dG_le (s := T.2) (n := T.1) 4 (p + 1)
              by_cases c1 : isP (T.2 p)
              · rw [if_pos c1] at e
                by_cases c2 : dG T.2 T.1 4 (p + 1) = 0
                · rw [if_pos c2] at e; cases e; omega
                · rw [if_neg c2] at e
                  have := (dG_in (s := T.2) (n := T.1) 4 (p + 1) (dG T.2 T.1 4 (p + 1) - 1) (by omega)).1
                  exact ih _ (by omega) q e
              · rw [if_neg c1] at e
                by_cases c2 : isX (T.2 p) ∨ T.2 p = 32
                · rw [if_pos c2] at e; exact ih _ (by omega) q e
                · rw [if_neg c2] at e; cases e; omega
        have := this T.1 0 (by omega) q hw
        omega
      rw [if_neg (fun z => nI_pos hql (by rw [z]; decide))]
      exact ok_r ⟨rfl, H, uC_r hC⟩
    · refine key _ w1 H hD (fun w q' e1 a1 => ?_) (fun w e1 => by rw [hw] at e1; cases e1)
      rw [hw] at e1; cases e1
      exact ⟨rfl, H, a1⟩
  | none =>
    have ha : ∀ a ∈ aL T.2 T.1 T.1 0, a.1 < 256 ∧ a.2 < 10000 ∧ (isP a.1 ∨ isX a.1) := fun a h => ⟨aL_c hT.2 _ _ a h, aL_i _ _ a h⟩
    have hlen := aL_n (s := T.2) (n := T.1) T.1 0
    refine bq_e h J (xL J j (aL T.2 T.1 T.1 0) S).2 (0, T.2) hW (xL_W hW hj _ S hS (fun a h => (ha a h).2.1)) hT0 (nI (xL J j (aL T.2 T.1 T.1 0) S).1) (fun H hC => ?_) (fun w1 H hD => ?_)
    · rw [fX7_run, lineAt_s w hj, bd_s, oc_s, lt_e, wrong_s hT hC, bd_s, lt_e, hw]
      dsimp only
      rw [if_pos rfl, lt_e, hC.2.2.2.1.1]
      have := run_L7 hW hj hT1 hT0 (x5 := zI (zsI w 64 0 0) 4 1) T.1 0 0 zFU S _ (by omega) (by rw [show zFU = 18446744073709551616 from rfl]; omega) hS ⟨H, uC_r hC⟩
      rw [Nat.zero_add] at this
      exact this
    · refine key _ w1 H hD (fun w q' e1 => by rw [hw] at e1; cases e1) (fun w _ a1 hr => ?_)
      rw [lt_e]
      have := exec_L hW hj (T := (0, T.2)) (by omega) hr ha (x3 := zI w 74 23) (aL T.2 T.1 T.1 0).length 0 zFU S w (by omega) (by rw [show zFU = 18446744073709551616 from rfl]; omega) hS ⟨H, uD_self a1⟩
      rw [Nat.zero_add] at this
      refine ok_m this (fun x w2 b => ?_)
      obtain ⟨rfl, H', b⟩ := b
      exact ⟨rfl, H', uD_rb id a1 b⟩
end RB
