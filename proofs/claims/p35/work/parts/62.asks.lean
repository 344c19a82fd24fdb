set_option maxRecDepth 16384
section A1
variable {J : aJ} {S : aS} {T : aT} {w w1 w2 : zW} {H H' : Nat → Int32}
theorem uD_sf (h : uD (w1, False) J S T H w2) : uD (w2, False) J S T H w2 := by
  obtain ⟨q1, q2, q3, q4, q5, q6, q7⟩ := h
  exact ⟨q1, q2, q3, q4, q5, fun k j _ => ⟨rfl, rfl⟩, rfl, q7.2⟩
theorem uC_sf (h : uC (w1, False) J S T H w2) : uC (w2, False) J S T H w2 := by
  obtain ⟨q1, q2, q3, q4, q5, q6⟩ := h
  exact ⟨q1, q2, q3, q4, q5, fun k j _ => ⟨rfl, rfl⟩, q6.2⟩
theorem rW_C (h : rW J S T w) (hC : uC (w, False) J S T H w1) : rW J S T w1 := by
  obtain ⟨a, b, c, -, H2, d⟩ := h
  exact ⟨a, b, c, ⟨H, uC_sf hC⟩, H2, uD_m d hC⟩
theorem rW_D (h : rW J S T w) (hD : uD (w, False) J S T H w1) : rW J S T w1 := by
  obtain ⟨a, b, c, ⟨H2, d⟩, -⟩ := h
  exact ⟨a, b, c, ⟨H2, uC_m d hD⟩, H, uD_sf hD⟩
theorem rW_92 (h : rW J S T w) {j : Nat} {v : Int64} : rW J S T (zsL w 92 j v) := by
  obtain ⟨a, b, c, ⟨H, d⟩, H2, e⟩ := h
  refine ⟨a, b, c, ⟨H, ?_⟩, H2, ?_⟩
  · obtain ⟨q1, q2, q3, q4, q5, q6⟩ := d
    refine ⟨q1, fun k hk => ⟨(q2 k hk).1, fun x hx => ⟨((q2 k hk).2 x hx).1, ?_, ?_, ((q2 k hk).2 x hx).2.2.2⟩⟩, q3, q4, q5, fun _ _ _ => ⟨rfl, rfl⟩, q6.2⟩
    · rw [zL_zsL, if_neg (by unfold oP; omega)]; exact ((q2 k hk).2 x hx).2.1
    · rw [zL_zsL, if_neg (by unfold oP; omega)]; exact ((q2 k hk).2 x hx).2.2.1
  · obtain ⟨q1, q2, q3, q4, q5, q6, q7⟩ := e
    refine ⟨q1, fun k hk => ⟨(q2 k hk).1, fun x hx => ⟨((q2 k hk).2 x hx).1, ?_, ?_, ((q2 k hk).2 x hx).2.2.2⟩⟩, q3, q4, q5, fun _ _ _ => ⟨rfl, rfl⟩, rfl, q7.2⟩
    · rw [zL_zsL, if_neg (by omega)]; exact ((q2 k hk).2 x hx).2.1
    · rw [zL_zsL, if_neg (by omega)]; exact ((q2 k hk).2 x hx).2.2.1
/-- a question, by its halves -/
theorem bh {α β : Type} {f : zW → Option (α × zW)} {g : zW → Option (β × zW)} {P : α → β → Prop} (A : α → Prop) (B : β → Prop) (hP : ∀ x y, A x → B y → P x y) (h : rW J S T w) (hf : Ok (f w) (fun a w1 => A a ∧ rW J S T w1)) (hg : ∀ w1, rW J S T w1 → Ok (g w1) (fun b w2 => B b ∧ rW J S T w2)) : Bq f g P w := by
  obtain ⟨a, w1, e1, ha, h1⟩ := hf
  obtain ⟨b, w2, e2, hb, h2⟩ := hg w1 h1
  exact ⟨a, b, w1, w2, e1, e2, hP a b ha hb, J, S, T, h2⟩
/-- a question to which both answer x -/
theorem bx {α : Type} {f g : zW → Option (α × zW)} (x : α) (h : rW J S T w) (hf : ∀ H, uC (w, False) J S T H w → Ok (f w) (fun a w1 => a = x ∧ uC (w, False) J S T H w1)) (hg : ∀ w1 H, uD (w1, False) J S T H w1 → Ok (g w1) (fun a w2 => a = x ∧ uD (w1, False) J S T H w2)) : Bq f g Eq w :=
  bq_e h J S T h.1 h.2.1 h.2.2.1 x (fun H hC => ok_m (hf H hC) (fun _ _ a => ⟨a.1, H, a.2⟩)) (fun w1 H hD => ok_m (hg w1 H hD) (fun _ _ a => ⟨a.1, H, a.2⟩))
theorem joinsTwo_s {w0 : zX} (hW : jW J) (h : uD w0 J S T H w) {v u : Nat} (hv : v < 10000) (hu : u < 10000) : Ok (fX8_joinsTwo (nI v) (nI u) w) (fun _ w' => uD w0 J S T H w' ∧ zI w' 74 1 = zI w 74 1 ∧ zL w' 74 11 = (aj J (ae J v) (ae J u)).1 ∧ zL w' 74 12 = (aj J (ae J v) (ae J u)).2) := by
  obtain ⟨W, hN, hE⟩ := el_s hW h.1 hu
  have h2 := uD_S (p := epF (jK J) (jN J) u) (q := eqF (jK J) u) (uD_N h hN)
  obtain ⟨W2, hN2, hE2⟩ := el_s hW h2.1 hv
  have h3 := uD_S (p := epF (jK J) (jN J) v) (q := eqF (jK J) v) (uD_N h2 hN2)
  obtain ⟨W3, hN3, hE3⟩ := (jn_s hW h3.1 (val_e hW hv) (val_e hW hu)).1
  rw [fX8_joinsTwo, hE, bd_s, lt_e, lt_e, hE2, bd_s, setS_p, setS_q, setS_p, setS_q, hE3, bd_s]
  refine ok_r ⟨uD_S (uD_N h3 hN3), ?_, rfl, rfl⟩
  exact (nr_I hN3 (by omega)).trans ((nr_I hN2 (by omega)).trans (nr_I hN (by omega)))
theorem commutes_b (h : rW J S T w) (a b : Int32) : Bq (fX7_commutes a b) (fX8_commutes a b) Eq w := by
  obtain ⟨hW, hS, hT, -, -⟩ := id h
  rcases im a with ⟨i7, i8⟩ | ⟨v, hv, rfl, i7, i8⟩
  · exact bq_x h (-1) (fun H hC => by rw [fX7_commutes, i7, bd_s, ff]) (fun w1 H hD => by rw [fX8_commutes, lt_e, i8, bd_s, ff])
  rcases im b with ⟨k7, k8⟩ | ⟨u, hu, rfl, k7, k8⟩
  · exact bq_x h (-1) (fun H hC => by rw [fX7_commutes, i7, bd_s, tt, k7, bd_s, ff]) (fun w1 H hD => by rw [fX8_commutes, lt_e, i8, bd_s, tt, k8, bd_s, ff])
  refine bx (if (aj J (ae J v) (ae J u)).1 = (aj J (ae J u) (ae J v)).1 ∧ (aj J (ae J v) (ae J u)).2 = (aj J (ae J u) (ae J v)).2 then 1 else 0) h (fun H hC => ?_) (fun w1 H hD => ?_)
  · have c1 := c_start hW hC.1 hv
    have h1 : uC (w, False) J S T H (setC w (epF (jK J) (jN J) v) (eqF (jK J) v)) := uC_C hC
    have c2 := c_follow hW h1.1 hu (val_e hW hv)
    have h2 : uC (w, False) J S T H (setC (setC w (epF (jK J) (jN J) v) (eqF (jK J) v)) (aj J (ae J v) (ae J u)).1 (aj J (ae J v) (ae J u)).2) := uC_C h1
    rw [fX7_commutes, i7, bd_s, tt, k7, bd_s, tt, c1, bd_s, c2, bd_s, lt_e, lt_e]
    have c3 := c_start hW h2.1 hu
    have h3 := uC_C (p := epF (jK J) (jN J) u) (q := eqF (jK J) u) h2
    have c4 := c_follow hW h3.1 hv (val_e hW hu)
    have h4 := uC_C (p := (aj J (ae J u) (ae J v)).1) (q := (aj J (ae J u) (ae J v)).2) h3
    refine ok_b ⟨(), _, c3, rfl⟩ (fun _ w3 (e3 : w3 = _) => ?_)
    subst e3
    refine ok_b ⟨(), _, c4, rfl⟩ (fun _ w4 (e4 : w4 = _) => ?_)
    have h4 : uC (w, False) J S T H w4 := by rw [e4]; exact h4
    have p4 : zL w4 1 2 = (aj J (ae J u) (ae J v)).1 := by rw [e4]; rfl
    have q4 : zL w4 1 3 = (aj J (ae J u) (ae J v)).2 := by rw [e4]; rfl
    clear e4
    have e5 : fX0_comesTo (aj J (ae J v) (ae J u)).1 (aj J (ae J v) (ae J u)).2 w4 = some (decide ((aj J (ae J v) (ae J u)).1 = (aj J (ae J u) (ae J v)).1 ∧ (aj J (ae J v) (ae J u)).2 = (aj J (ae J u) (ae J v)).2), w4) := by
      rw [fX0_comesTo, p4, q4]
      by_cases d1 : (aj J (ae J u) (ae J v)).1 = (aj J (ae J v) (ae J u)).1
      · rw [if_neg (not_not_intro d1)]
        by_cases d2 : (aj J (ae J u) (ae J v)).2 = (aj J (ae J v) (ae J u)).2
        · rw [if_neg (not_not_intro d2), decide_eq_true ⟨d1.symm, d2.symm⟩]
        · rw [if_pos d2, decide_eq_false (fun z => d2 z.2.symm)]
      · rw [if_pos d1, decide_eq_false (fun z => d1 z.1.symm)]
    refine ok_b ⟨_, _, e5, rfl, rfl⟩ (fun b5 w5 (a5 : b5 = _ ∧ w5 = _) => ?_)
    obtain ⟨rfl, rfl⟩ := a5
    rw [lt_e]
    refine ok_b (tell4_s h4 _ _ _ _) (fun _ w6 a6 => ?_)
    by_cases d : (aj J (ae J v) (ae J u)).1 = (aj J (ae J u) (ae J v)).1 ∧ (aj J (ae J v) (ae J u)).2 = (aj J (ae J u) (ae J v)).2
    · rw [decide_eq_true d, if_neg (show ¬ zb true = 0 by decide), if_pos d]; exact ok_r ⟨rfl, a6⟩
    · rw [decide_eq_false d, if_pos (show zb false = 0 from rfl), if_neg d]; exact ok_r ⟨rfl, a6⟩
  · rw [fX8_commutes, lt_e, i8, bd_s, tt, k8, bd_s, tt]
    refine ok_b (joinsTwo_s hW (uD_0 hD) hv hu) (fun _ w2 a2 => ?_)
    rw [lt_e, lt_e, a2.2.2.1, a2.2.2.2]
    refine ok_b (joinsTwo_s hW a2.1 hu hv) (fun _ w3 a3 => ?_)
    rw [lt_e]
    have ent : ∀ (w4 : zW) (n : Nat) (p q : Int64) (a : Int64), uD (w1, False) J S T H w4 → zI w4 74 1 = nI n → n < 160 → zL w4 74 11 = p → zL w4 74 12 = q → Ok (fX8_enters a w4) (fun _ w' => uD (w1, False) J S T H w' ∧ zI w' 74 1 = nI (n + 1) ∧ zL w' 74 11 = p ∧ zL w' 74 12 = q) := by
      intro w4 n p q a h4 hn hl hp hq
      have e : zI (zsL w4 75 n a) 74 1 = nI n := hn
      rw [fX8_enters, hn, zin_t hl (by decide), zg_t, lt_e, nI_clamp (by omega), e, lt_e, nI_1]
      exact ok_r ⟨uD_c (uD_L h4 (by unfold gD; omega)) (by omega), rfl, hp, hq⟩
    refine ok_b (ent _ 0 _ _ _ (uD_1 (v := 0) a3.1) rfl (by decide) a3.2.2.1 a3.2.2.2) (fun _ w4 a4 => ?_)
    refine ok_b (ent _ _ _ _ _ a4.1 a4.2.1 (by decide) a4.2.2.1 a4.2.2.2) (fun _ w5 a5 => ?_)
    refine ok_b (ent _ _ _ _ _ a5.1 a5.2.1 (by decide) a5.2.2.1 a5.2.2.2) (fun _ w6 a6 => ?_)
    refine ok_b (ent _ _ _ _ _ a6.1 a6.2.1 (by decide) a6.2.2.1 a6.2.2.2) (fun _ w7 a7 => ?_)
    rw [a7.2.2.1, a7.2.2.2]
    by_cases d1 : (aj J (ae J v) (ae J u)).1 = (aj J (ae J u) (ae J v)).1
    · rw [if_neg (not_not_intro d1)]
      by_cases d2 : (aj J (ae J v) (ae J u)).2 = (aj J (ae J u) (ae J v)).2
      · rw [if_neg (not_not_intro d2), if_pos ⟨d1, d2⟩]; exact ok_r ⟨rfl, a7.1⟩
      · rw [if_pos d2, if_neg (fun z => d2 z.2)]; exact ok_r ⟨rfl, a7.1⟩
    · rw [if_pos d1, if_neg (fun z => d1 z.1)]; exact ok_r ⟨rfl, a7.1⟩
theorem sum_b (h : rW J S T w) (a : Int32) : Bq (fX7_sum a) (fX8_sum a) Eq w := by
  obtain ⟨hW, hS, hT, -, -⟩ := id h
  rcases ln a with hl | ⟨j, hj, rfl⟩
  · exact bq_x h (-1) (fun H hC => by rw [fX7_sum, lineAt_n w hl, bd_s, oc_n]) (fun w1 H hD => by rw [fX8_sum, lt_e, isLine_n _ hl, bd_s, ff])
  have hz := hS.1 j hj
  refine bx (nI (aN S j)) h (fun H hC => ?_) (fun w1 H hD => ?_)
  · rw [fX7_sum, lineAt_s w hj, bd_s, oc_s, size_s hC (by omega), bd_s]
    refine ok_b (sumUp_s hW hC (a := 0) (by omega) hz (fun x hx => sI hS hj hx) (Nat.zero_le _) (Nat.le_refl _)) (fun _ w2 a2 => ?_)
    refine ok_b (tell2_s a2.1 _ _) (fun _ w3 a3 => ?_)
    rw [size_s a3 (by omega), bd_s]
    exact ok_r ⟨rfl, a3⟩
  · rw [fX8_sum, lt_e, isLine_s _ hj, bd_s, tt, lt_e]
    refine ok_b (entersSum_s (n := 0) hW (uD_1 (v := 0) (uD_0 hD)) (sW_B hS) (by omega) (sW_V hS (by omega)) (sW_V hS (by omega)) rfl (by decide)) (fun _ w2 a2 => ?_)
    rw [sizeOf_s a2.1 (by omega), bd_s]
    exact ok_r ⟨rfl, a2.1⟩
theorem part_b (h : rW J S T w) (a b c : Int32) : Bq (fX7_part a b c) (fX8_part a b c) Eq w := by
  obtain ⟨hW, hS, hT, -, -⟩ := id h
  rcases ln a with hl | ⟨j, hj, rfl⟩
  · exact bq_x h (-1) (fun H hC => by rw [fX7_part, lineAt_n w hl, bd_s, oc_n]) (fun w1 H hD => by rw [fX8_part, lt_e, isLine_n _ hl, bd_s, ff])
  have hz := hS.1 j hj
  by_cases b0 : b < 0
  · exact bq_x h (-2) (fun H hC => by rw [fX7_part, lineAt_s w hj, bd_s, oc_s, if_pos b0]) (fun w1 H hD => by rw [fX8_part, lt_e, isLine_s _ hj, bd_s, tt, if_pos b0])
  by_cases cb : c < b
  · exact bq_x h (-2) (fun H hC => by rw [fX7_part, lineAt_s w hj, bd_s, oc_s, if_neg b0, if_pos cb]) (fun w1 H hD => by rw [fX8_part, lt_e, isLine_s _ hj, bd_s, tt, if_neg b0, if_pos cb])
  by_cases cn : nI (aN S j) < c
  · exact bq_x h (-2) (fun H hC => by rw [fX7_part, lineAt_s w hj, bd_s, oc_s, if_neg b0, if_neg cb, size_s hC (by omega), bd_s, if_neg (Int32.not_le.mpr cn)]) (fun w1 H hD => by rw [fX8_part, lt_e, isLine_s _ hj, bd_s, tt, if_neg b0, if_neg cb, sizeOf_s (uD_0 hD) (by omega), bd_s, if_neg (Int32.not_le.mpr cn)])
  have hcn : c ≤ nI (aN S j) := Int32.not_lt.mp cn
  obtain ⟨y, hy, rfl⟩ : ∃ y, y ≤ aN S j ∧ c = nI y := by
    rcases i01 (by omega) cn with q | q
    · exact absurd (Int32.lt_of_le_of_lt (Int32.not_lt.mp cb) q) b0
    · exact q
  obtain ⟨x, hx, rfl⟩ : ∃ x, x ≤ y ∧ b = nI x := by
    rcases i01 (by omega) cb with q | q
    · exact absurd q b0
    · exact q
  have e1 : nI y - nI x = nI (y - x) := pk_sub hx
  refine bx (nI (y - x)) h (fun H hC => ?_) (fun w1 H hD => ?_)
  · rw [fX7_part, lineAt_s w hj, bd_s, oc_s, if_neg b0, if_neg cb, size_s hC (by omega), bd_s, if_pos hcn]
    refine ok_b (sumUp_s hW hC (by omega) hz (fun x hx => sI hS hj hx) hx hy) (fun _ w2 a2 => ?_)
    refine ok_b (tell2_s a2.1 _ _) (fun _ w3 a3 => ok_r ⟨e1, a3⟩)
  · rw [fX8_part, lt_e, isLine_s _ hj, bd_s, tt, if_neg b0, if_neg cb, sizeOf_s (uD_0 hD) (by omega), bd_s, if_pos hcn, e1]
    refine ok_b (sums_s hW (uD_0 hD) (by omega) hz (fun x hx => sI hS hj hx) (by omega)) (fun _ w2 a2 => ?_)
    rw [lt_e]
    refine ok_b (enters_s (n := 0) (uD_1 (v := 0) a2.1) rfl (by decide) _) (fun _ w3 a3 => ?_)
    refine ok_b (enters_s a3.1 a3.2 (by decide) _) (fun _ w4 a4 => ok_r ⟨rfl, a4.1⟩)
theorem windows_L7 (hW : jW J) (hS : sW J S) {j x n : Nat} (hj : j < 4) (hn : n + x ≤ aN S j + 1) (hx : 1 ≤ x) {w0 : zX} : ∀ m i N w, i + m = n → m < N → uC w0 J S T H w → Ok (fX7_windows_L50 (nI x) (LN j) (nI n) N (nI i) w) (fun a w' => a = nI n ∧ uC w0 J S T H w') := by
  have hz := hS.1 j hj
  intro m
  induction m with
  | zero =>
    intro i N w hi hN h
    obtain ⟨N, rfl⟩ : ∃ k, N = k + 1 := ⟨N - 1, by omega⟩
    rw [fX7_windows_L50.eq_2, if_pos (nI_le (by omega) (by omega))]
    exact ok_r ⟨rfl, h⟩
  | succ m ih =>
    intro i N w hi hN h
    obtain ⟨N, rfl⟩ : ∃ k, N = k + 1 := ⟨N - 1, by omega⟩
    rw [fX7_windows_L50.eq_2, if_neg (Int32.not_le.mpr (nI_lt (by omega) (by omega))), nI_add]
    refine ok_b (sumUp_s hW h (by omega) hz (fun x hx => sI hS hj hx) (Nat.le_add_right i x) (by omega)) (fun _ w2 a2 => ?_)
    refine ok_b (tellMore_s a2.1 _) (fun _ w3 a3 => ?_)
    refine ok_b (tellMore_s a3 _) (fun _ w4 a4 => ?_)
    rw [nI_1]
    exact ih (i + 1) N w4 (by omega) (by omega) a4
theorem windows_L8 (hW : jW J) (hS : sW J S) {j x n : Nat} (hj : j < 4) (hn : n + x ≤ aN S j + 1) (hx : 1 ≤ x) {w0 : zX} : ∀ m i N w, i + m = n → m < N → uD w0 J S T H w → zI w 74 1 = nI (2 * i) → Ok (fX8_windows_L52 (nI j) (nI x) (nI n) N (nI i) w) (fun a w' => a = nI n ∧ uD w0 J S T H w') := by
  have hz := hS.1 j hj
  intro m
  induction m with
  | zero =>
    intro i N w hi hN h hc
    obtain ⟨N, rfl⟩ : ∃ k, N = k + 1 := ⟨N - 1, by omega⟩
    rw [fX8_windows_L52.eq_2, if_pos (nI_le (by omega) (by omega))]
    exact ok_r ⟨rfl, h⟩
  | succ m ih =>
    intro i N w hi hN h hc
    obtain ⟨N, rfl⟩ : ∃ k, N = k + 1 := ⟨N - 1, by omega⟩
    rw [fX8_windows_L52.eq_2, if_neg (Int32.not_le.mpr (nI_lt (by omega) (by omega)))]
    refine ok_b (sums_s hW h (by omega) hz (fun x hx => sI hS hj hx) (show i + x ≤ aN S j by omega)) (fun _ w2 a2 => ?_)
    refine ok_b (enters_s a2.1 (a2.2.1.trans hc) (by omega) _) (fun _ w3 a3 => ?_)
    refine ok_b (enters_s a3.1 a3.2 (by omega) _) (fun _ w4 a4 => ?_)
    rw [nI_1]
    exact ih (i + 1) N w4 (by omega) (by omega) a4.1 a4.2
theorem in64 (c : Int32) : ((c < 1 ∨ 64 < c) ∧ ∀ w, fX8_in c.toInt64 1 64 w = some (false, w)) ∨ ∃ n, 1 ≤ n ∧ n ≤ 64 ∧ c = nI n ∧ ¬ c < 1 ∧ c ≤ 64 ∧ ∀ w, fX8_in c.toInt64 1 64 w = some (true, w) := by
  rcases inb c (lo := 1) (hi := 64) (by decide) (by decide) with ⟨h1, h2⟩ | ⟨h1, h1', h2⟩
  · exact .inl ⟨h1, h2⟩
  · right
    rcases i01 (n := 64) (by decide) h1' with q | ⟨n, hn, rfl⟩
    · exact absurd (Int32.lt_of_lt_of_le q (by decide)) h1
    · refine ⟨n, ?_, hn, rfl, h1, Int32.not_lt.mp h1', h2⟩
      by_cases c : 1 ≤ n
      · exact c
      · exact absurd (nI_lt (show n < 1 by omega) (by decide)) h1
theorem windows_b (h : rW J S T w) (a b : Int32) : Bq (fX7_windows a b) (fX8_windows a b) Eq w := by
  obtain ⟨hW, hS, hT, -, -⟩ := id h
  rcases ln a with hl | ⟨j, hj, rfl⟩
  · exact bq_x h (-1) (fun H hC => by rw [fX7_windows, lineAt_n w hl, bd_s, oc_n]) (fun w1 H hD => by rw [fX8_windows, lt_e, isLine_n _ hl, bd_s, ff])
  have hz := hS.1 j hj
  rcases in64 b with ⟨h1, h2⟩ | ⟨x, hx1, hx, rfl, hb1, hb2, h2⟩
  · refine bq_x h (-1) (fun H hC => ?_) (fun w1 H hD => by rw [fX8_windows, lt_e, isLine_s _ hj, bd_s, tt, h2, bd_s, ff])
    by_cases q : b < 1
    · rw [fX7_windows, lineAt_s w hj, bd_s, oc_s, if_pos q]
    · rw [fX7_windows, lineAt_s w hj, bd_s, oc_s, if_neg q, if_neg (Int32.not_le.mpr (h1.resolve_left q))]
  by_cases c : x ≤ aN S j
  · have e1 : nI (aN S j) - nI x + 1 = nI (aN S j - x + 1) := by rw [pk_sub c, nI_1]
    have e2 : (1 : Int32) ≤ nI (aN S j - x + 1) := (nI_leI (a := 1) (by decide) (by omega)).mpr (by omega)
    refine bx (nI (aN S j - x + 1)) h (fun H hC => ?_) (fun w1 H hD => ?_)
    · rw [fX7_windows, lineAt_s w hj, bd_s, oc_s, if_neg hb1, if_pos hb2, size_s hC (by omega), bd_s, lt_e, e1, if_pos e2, lt_e]
      exact windows_L7 hW hS hj (by omega) hx1 (aN S j - x + 1) 0 zFU _ (by omega) (by rw [show zFU = 18446744073709551616 from rfl]; omega) (uC_t hC (.inl rfl))
    · rw [fX8_windows, lt_e, isLine_s _ hj, bd_s, tt, h2, bd_s, tt, sizeOf_s (uD_0 hD) (by omega), bd_s, lt_e, e1, if_pos e2, lt_e]
      exact windows_L8 hW hS hj (by omega) hx1 (aN S j - x + 1) 0 zFU _ (by omega) (by rw [show zFU = 18446744073709551616 from rfl]; omega) (uD_1 (uD_0 hD)) rfl
  · have e2 : ¬ (1 : Int32) ≤ nI (aN S j) - nI x + 1 := by
      have h3 : (nI (aN S j) - nI x + 1).toInt = (aN S j : Int) - x + 1 := by
        have h4 : (nI (aN S j) - nI x).toInt = (aN S j : Int) - x := pk_sub_toInt (by omega) (by omega)
        rw [i32_1 (by omega), h4]
      intro q
      have := Int32.le_iff_toInt_le.mp q
      rw [h3, show (1 : Int32).toInt = 1 from rfl] at this
      omega
    exact bq_x h (-2) (fun H hC => by rw [fX7_windows, lineAt_s w hj, bd_s, oc_s, if_neg hb1, if_pos hb2, size_s hC (by omega), bd_s, lt_e, if_neg e2]) (fun w1 H hD => by rw [fX8_windows, lt_e, isLine_s _ hj, bd_s, tt, h2, bd_s, tt, sizeOf_s (uD_0 hD) (by omega), bd_s, lt_e, if_neg e2])
/-- the least k, from i + 1 on, so that p of the first k ITEMS is v at least -/
def fF (J : aJ) (S : aS) (j : Nat) (v : Int64) : Nat → Nat → Int32
  | 0, _ => -2
  | m + 1, i => if (sF J S j 0 (i + 1)).1 < v then fF J S j v m (i + 1) else nI (i + 1)
theorem sF_s (m : Nat) (j : Nat) : sF J S j 0 (m + 1) = aj J (sF J S j 0 m) (ae J (aI S j m)) := by
  show aj J _ (ae J (aI S j (0 + m))) = _
  rw [Nat.zero_add]
theorem first_L7 (hW : jW J) (hS : sW J S) {j : Nat} (hj : j < 4) {v : Int32} {w0 : zX} : ∀ m i N w, i + m = aN S j → m < N → uC w0 J S T H w → zL w 1 2 = (sF J S j 0 i).1 → zL w 1 3 = (sF J S j 0 i).2 → Ok (fX7_first_L22 v (LN j) N (nI i) w) (fun a w' => a = fF J S j v.toInt64 m i ∧ uC w0 J S T H w') := by
  have hz := hS.1 j hj
  intro m
  induction m with
  | zero =>
    intro i N w hi hN h hp hq
    obtain ⟨N, rfl⟩ : ∃ k, N = k + 1 := ⟨N - 1, by omega⟩
    rw [fX7_first_L22.eq_2, size_s h (by omega), bd_s, if_pos (nI_le (by omega) (by omega))]
    exact ok_r ⟨rfl, h⟩
  | succ m ih =>
    intro i N w hi hN h hp hq
    obtain ⟨N, rfl⟩ : ∃ k, N = k + 1 := ⟨N - 1, by omega⟩
    have hv := sI hS hj (show i < aN S j by omega)
    have hV := sF_V hW (J := J) (S := S) (j := j) (a := 0) (m := i) (fun x hx => sI hS hj (by omega))
    have h2 := uC_C (p := (sF J S j 0 (i + 1)).1) (q := (sF J S j 0 (i + 1)).2) h
    rw [fX7_first_L22.eq_2, size_s h (by omega), bd_s, if_neg (Int32.not_le.mpr (nI_lt (by omega) (by omega))), itemAt_s h (by omega) hz (by omega), bd_s]
    refine ok_b ⟨(), _, c_follow hW h.1 hv (by rw [hp, hq]; exact hV), rfl⟩ (fun _ w2 (e2 : w2 = _) => ?_)
    have e3 : w2 = setC w (sF J S j 0 (i + 1)).1 (sF J S j 0 (i + 1)).2 := by rw [e2, hp, hq, sF_s]; rfl
    have p2 : zL w2 1 2 = (sF J S j 0 (i + 1)).1 := by rw [e3]; rfl
    have q2 : zL w2 1 3 = (sF J S j 0 (i + 1)).2 := by rw [e3]; rfl
    have h3 : uC w0 J S T H w2 := by rw [e3]; exact h2
    clear e2 e3
    rw [p2]
    unfold fF
    by_cases c : (sF J S j 0 (i + 1)).1 < v.toInt64
    · rw [if_pos c, if_pos c, nI_1]
      exact ih (i + 1) N w2 (by omega) (by omega) h3 p2 q2
    · rw [if_neg c, if_neg c, nI_1]
      exact ok_b (tell2_s h3 _ _) (fun _ w4 a4 => ok_r ⟨rfl, a4⟩)
theorem first_L8 (hW : jW J) (hS : sW J S) {j : Nat} (hj : j < 4) {v : Int32} {w0 : zX} : ∀ m i N w, i + m = aN S j → m < N → uD w0 J S T H w → Ok (fX8_first_L16 (nI j) v N (nI (i + 1)) w) (fun a w' => a = fF J S j v.toInt64 m i ∧ uD w0 J S T H w') := by
  have hz := hS.1 j hj
  intro m
  induction m with
  | zero =>
    intro i N w hi hN h
    obtain ⟨N, rfl⟩ : ∃ k, N = k + 1 := ⟨N - 1, by omega⟩
    rw [fX8_first_L16.eq_2, sizeOf_s h (by omega), bd_s, if_pos (nI_lt (by omega) (by omega))]
    exact ok_r ⟨rfl, h⟩
  | succ m ih =>
    intro i N w hi hN h
    obtain ⟨N, rfl⟩ : ∃ k, N = k + 1 := ⟨N - 1, by omega⟩
    rw [fX8_first_L16.eq_2, sizeOf_s h (by omega), bd_s, if_neg (fun q => by have := (nI_ltI (by omega) (by omega)).mp q; omega)]
    refine ok_b (sums_s hW h (a := 0) (by omega) hz (fun x hx => sI hS hj hx) (by omega)) (fun _ w2 a2 => ?_)
    rw [a2.2.2.1]
    unfold fF
    by_cases c : (sF J S j 0 (i + 1)).1 < v.toInt64
    · rw [if_pos c, if_pos c, nI_1]
      exact ih (i + 1) N w2 (by omega) (by omega) a2.1
    · rw [if_neg c, if_neg c, lt_e]
      refine ok_b (enters_s (n := 0) (uD_1 (v := 0) a2.1) rfl (by decide) _) (fun _ w3 a3 => ?_)
      refine ok_b (enters_s a3.1 a3.2 (by decide) _) (fun _ w4 a4 => ok_r ⟨rfl, a4.1⟩)
theorem first_b (h : rW J S T w) (a b : Int32) : Bq (fX7_first a b) (fX8_first a b) Eq w := by
  obtain ⟨hW, hS, hT, -, -⟩ := id h
  rcases ln a with hl | ⟨j, hj, rfl⟩
  · exact bq_x h (-1) (fun H hC => by rw [fX7_first, lineAt_n w hl, bd_s, oc_n]) (fun w1 H hD => by rw [fX8_first, lt_e, isLine_n _ hl, bd_s, ff])
  have hz := hS.1 j hj
  refine bx (fF J S j b.toInt64 (aN S j) 0) h (fun H hC => ?_) (fun w1 H hD => ?_)
  · rw [fX7_first, lineAt_s w hj, bd_s, oc_s, c_empty hW hC.1, bd_s]
    exact first_L7 hW hS hj (aN S j) 0 zFU _ (by omega) (by rw [show zFU = 18446744073709551616 from rfl]; omega) (uC_C hC) rfl rfl
  · rw [fX8_first, lt_e, isLine_s _ hj, bd_s, tt]
    exact first_L8 hW hS hj (aN S j) 0 zFU _ (by omega) (by rw [show zFU = 18446744073709551616 from rfl]; omega) (uD_0 hD)
end A1
