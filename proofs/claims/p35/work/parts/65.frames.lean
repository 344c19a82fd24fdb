set_option maxRecDepth 16384
theorem pos_1 {x b : Int32} (h0 : ¬ x < 0) (h1 : ¬ b ≤ x) : ¬ x + 1 < 0 := by
  have a1 := Int32.le_iff_toInt_le.mp (Int32.not_lt.mp h0)
  have a2 := Int32.lt_iff_toInt_lt.mp (Int32.not_le.mp h1)
  have a3 := i32_lt b
  rw [show (0 : Int32).toInt = 0 from rfl] at a1
  rw [Int32.lt_iff_toInt_lt, i32_1 (by omega), show (0 : Int32).toInt = 0 from rfl]
  omega
theorem zin_24 {x : Int32} (h1 : ¬ x < 0) (h2 : x < 24) : zin x 24 = true := zin_ok (n := 24) (by decide) h1 (Int32.not_le.mpr h2)
theorem ne_1 {x : Int32} (h : 1 ≤ x) : ¬ x = 0 := fun q => absurd (show (1 : Int32) ≤ 0 from q ▸ h) (by decide)
theorem ok_lv {α β : Type} {x : α} {F : α → Option (β × zW)} {P : β → zW → Prop} (h : ∀ v, v = x → Ok (F v) P) : Ok (lt x F) P := h x rfl
theorem ent_25 {a b : Int32} (h1 : ¬ a < 0) (h2 : ¬ 5 ≤ a) (h3 : ¬ b < 0) (h4 : b < 5) : zin (a * 5 + b) 25 = true := by
  rcases pk_ix a (n := 5) (by decide) with q | q | ⟨i, hi, rfl⟩
  · exact absurd q h1
  · exact absurd q h2
  · rcases pk_ix b (n := 5) (by decide) with q | q | ⟨j, hj, rfl⟩
    · exact absurd q h3
    · exact absurd h4 (Int32.not_lt.mpr q)
    · rw [show (5 : Int32) = nI 5 from rfl, pk_mul, nI_add]
      exact zin_t (by omega) (by decide)
theorem le_sz {w0 : zW} {h : Nat} (hS : Sz w0) (hl : isLn h) : nI (szF w0 h) ≤ 1000000 := (nI_leI (b := 1000000) (by have := (hS h hl).2; omega) (by decide)).mpr (by have := (hS h hl).2; omega)
theorem o7_isItem (a0 : Int32) {w0 w : zW} (hS : Sz w0) (hQ : Qc w0 w) : Ok (fX7_isItem a0 w) (fun _ w_ => Qc w0 w_) := by
  unfold fX7_isItem
  refine ok_i (fun h1 => ?_) (fun h1 => ?_)
  · exact ok_r hQ
  · refine ok_i (fun h2 => ?_) (fun h2 => ?_)
    · exact ok_r hQ
    · exact ok_r hQ
theorem o3_kindOf (h0 : Nat) (a1 : Int32) {w0 w : zW} (hS : Sz w0) (hQ : Qc w0 w) : Ok (fX3_kindOf h0 a1 w) (fun _ w_ => Qc w0 w_) := by
  unfold fX3_kindOf
  refine ok_i (fun h1 => ?_) (fun h1 => ?_)
  · first | rw [if_neg (by assumption)] | rw [if_neg (ne_1 h1)]
    exact ok_r hQ
  · exact ok_r hQ
theorem o0_elementP (a1 : Int32) {w0 w : zW} (hS : Sz w0) (hQ : Qc w0 w) : Ok (fX0_elementP a1 w) (fun _ w_ => Qc w0 w_) := by
  unfold fX0_elementP
  refine ok_i (fun h1 => ?_) (fun h1 => ?_)
  · exact ok_r hQ
  · refine ok_i (fun h2 => ?_) (fun h2 => ?_)
    · refine ok_i (fun h3 => ?_) (fun h3 => ?_)
      · exact ok_r hQ
      · exact ok_r hQ
    · refine ok_i (fun h4 => ?_) (fun h4 => ?_)
      · exact ok_r hQ
      · refine ok_i (fun h5 => ?_) (fun h5 => ?_)
        · exact ok_r hQ
        · refine ok_i (fun h6 => ?_) (fun h6 => ?_)
          · refine ok_b (o3_kindOf 2 a1 hS hQ) (fun v9 w7 hQ7 => ?_)
            exact ok_r hQ7
          · exact ok_r hQ
theorem o0_arrangement (a0 : Int32) {w0 w : zW} (hS : Sz w0) (hQ : Qc w0 w) : Ok (fX0_arrangement a0 w) (fun _ w_ => Qc w0 w_) := by
  unfold fX0_arrangement
  refine ok_i (fun h1 => ?_) (fun h1 => ?_)
  · exact ok_r hQ
  · refine ok_i (fun h2 => ?_) (fun h2 => ?_)
    · refine ok_g (by exact zin_24 (by assumption) (by assumption)) ?_
      exact ok_r hQ
    · exact ok_r hQ
theorem o0_leaps_L11 (x0 : Int32) (x2 : Int32) {w0 : zW} (hS : Sz w0) {j4 : Int32 → Int32 → zW → Option (Int32 × zW)} (hj4 : ∀ (c0 : Int32) (w_ : zW), Qc w0 w_ → Ok (j4 c0 (x2 + (1 : Int32)) w_) (fun _ w_ => Qc w0 w_)) : ∀ (n : Nat) (x1 : Int32) (x3 : Int32) (w : zW), Qc w0 w → Up x3 n → Ok (fX0_leaps_L11 x0 x2 j4 n x1 x3 w) (fun _ w_ => Qc w0 w_) := by
  intro n
  induction n with
  | zero => intro x1 x3 w hQ hm; exact (up_0 hm).elim
  | succ n ih =>
    intro x1 x3 w hQ hm
    rw [fX0_leaps_L11.eq_2]
    refine ok_i (fun h1 => ?_) (fun h1 => ?_)
    · exact hj4 x1 w hQ
    · refine ok_lv (fun v4 ev2 => ?_)
      refine ok_lv (fun v5 ev3 => ?_)
      exact ih v5 (x3 + (1 : Int32)) w hQ (by exact up_n hm h1)
theorem o0_leaps_L4 (x0 : Int32) {w0 : zW} (hS : Sz w0) : ∀ (n : Nat) (x1 : Int32) (x2 : Int32) (w : zW), Qc w0 w → Up x2 n → Ok (fX0_leaps_L4 x0 n x1 x2 w) (fun _ w_ => Qc w0 w_) := by
  intro n
  induction n with
  | zero => intro x1 x2 w hQ hm; exact (up_0 hm).elim
  | succ n ih =>
    intro x1 x2 w hQ hm
    rw [fX0_leaps_L4.eq_2]
    refine ok_i (fun h1 => ?_) (fun h1 => ?_)
    · exact ok_r hQ
    · exact o0_leaps_L11 x0 x2 hS (fun c0 cw q_ => ih c0 (x2 + (1 : Int32)) cw q_ (by exact up_n hm h1)) zFU x1 (0 : Int32) w hQ (up_z (0 : Int32))
theorem o0_leaps (a0 : Int32) {w0 w : zW} (hS : Sz w0) (hQ : Qc w0 w) : Ok (fX0_leaps a0 w) (fun _ w_ => Qc w0 w_) := by
  unfold fX0_leaps
  exact o0_leaps_L4 a0 hS zFU (0 : Int32) (0 : Int32) w hQ (up_z (0 : Int32))
theorem o0_elementQ (a1 : Int32) {w0 w : zW} (hS : Sz w0) (hQ : Qc w0 w) : Ok (fX0_elementQ a1 w) (fun _ w_ => Qc w0 w_) := by
  unfold fX0_elementQ
  refine ok_i (fun h1 => ?_) (fun h1 => ?_)
  · exact ok_r hQ
  · refine ok_i (fun h2 => ?_) (fun h2 => ?_)
    · exact ok_r hQ
    · refine ok_i (fun h3 => ?_) (fun h3 => ?_)
      · exact ok_r hQ
      · refine ok_i (fun h4 => ?_) (fun h4 => ?_)
        · exact ok_r hQ
        · refine ok_i (fun h5 => ?_) (fun h5 => ?_)
          · refine ok_i (fun h6 => ?_) (fun h6 => ?_)
            · exact ok_r hQ
            · exact ok_r hQ
          · refine ok_i (fun h7 => ?_) (fun h7 => ?_)
            · refine ok_b (o0_arrangement (a1 - a1 / (24 : Int32) * (24 : Int32)) hS hQ) (fun v10 w8 hQ8 => ?_)
              refine ok_b (o0_leaps v10 hS hQ8) (fun v13 w11 hQ9 => ?_)
              exact ok_r hQ9
            · refine ok_i (fun h10 => ?_) (fun h10 => ?_)
              · exact ok_r hQ
              · refine ok_i (fun h11 => ?_) (fun h11 => ?_)
                · exact ok_r hQ
                · exact ok_r hQ
theorem o0_startWith (a1 : Int64) (a3 : Int64) {w0 w : zW} (hS : Sz w0) (hQ : Qc w0 w) : Ok (fX0_startWith a1 a3 w) (fun _ w_ => Qc w0 w_) := by
  unfold fX0_startWith
  refine ok_lv (fun w1 ew2 => ?_)
  have hQ1 : Qc w0 w1 := by rw [ew2]; exact q_L (k := 1) (j := 2) (v := a1) hQ (by first | exact hs0 _ | rfl)
  refine ok_lv (fun w2 ew4 => ?_)
  have hQ3 : Qc w0 w2 := by rw [ew4]; exact q_L (k := 1) (j := 3) (v := a3) hQ1 (by first | exact hs0 _ | rfl)
  exact ok_r hQ3
theorem o0_start (a1 : Int32) {w0 w : zW} (hS : Sz w0) (hQ : Qc w0 w) : Ok (fX0_start a1 w) (fun _ w_ => Qc w0 w_) := by
  unfold fX0_start
  refine ok_b (o0_elementP a1 hS hQ) (fun v3 w1 hQ1 => ?_)
  refine ok_b (o0_elementQ a1 hS hQ1) (fun v6 w4 hQ2 => ?_)
  refine ok_b (o0_startWith v3 v6 hS hQ2) (fun _ w7 hQ3 => ?_)
  exact ok_r hQ3
theorem o0_greatestDivisor_L9  {w0 : zW} (hS : Sz w0) : ∀ (n : Nat) (x4 : Int64) (x6 : Int64) (x8 : Int32) (w : zW), Qc w0 w → Up x8 n → Ok (fX0_greatestDivisor_L9  n x4 x6 x8 w) (fun _ w_ => Qc w0 w_) := by
  intro n
  induction n with
  | zero => intro x4 x6 x8 w hQ hm; exact (up_0 hm).elim
  | succ n ih =>
    intro x4 x6 x8 w hQ hm
    rw [fX0_greatestDivisor_L9.eq_2]
    refine ok_i (fun h1 => ?_) (fun h1 => ?_)
    · exact ok_r hQ
    · refine ok_i (fun h2 => ?_) (fun h2 => ?_)
      · exact ok_r hQ
      · first | rw [if_neg (by assumption)] | rw [if_neg (ne_1 h1)]
        refine ok_lv (fun v4 ev3 => ?_)
        exact ih x6 v4 (x8 + (1 : Int32)) w hQ (by exact up_n hm h1)
theorem o0_greatestDivisor (a0 : Int64) (a2 : Int64) {w0 w : zW} (hS : Sz w0) (hQ : Qc w0 w) : Ok (fX0_greatestDivisor a0 a2 w) (fun _ w_ => Qc w0 w_) := by
  unfold fX0_greatestDivisor
  exact o0_greatestDivisor_L9  hS zFU a0 a2 (0 : Int32) w hQ (up_z (0 : Int32))
theorem o0_arranged_L42 (x2 : Int32) {w0 : zW} (hS : Sz w0) : ∀ (n : Nat) (x3 : Int32) (w : zW) (hQ : Qc w0 w) (hm : Up x3 n) (h0 : ¬ x3 < 0 := by decide), Ok (fX0_arranged_L42 x2 n x3 w) (fun _ w_ => Qc w0 w_) := by
  intro n
  induction n with
  | zero => intro x3 w hQ hm h0; exact (up_0 hm).elim
  | succ n ih =>
    intro x3 w hQ hm h0
    rw [fX0_arranged_L42.eq_2]
    refine ok_i (fun h1 => ok_r hQ) (fun h1 => ?_)
    refine ok_g (zin_ok (n := 24) (by decide) h0 h1) ?_
    refine ok_i (fun h2 => ?_) (fun h2 => ok_r hQ)
    refine ih _ w hQ (up_n hm h1) ?_
    exact pos_1 h0 h1
theorem o0_arranged_L4 (x0 : Int32) (x1 : Int32) {w0 : zW} (hS : Sz w0) : ∀ (n : Nat) (x2 : Int32) (x3 : Int32) (w : zW), Qc w0 w → Dn x3 n → Ok (fX0_arranged_L4 x0 x1 n x2 x3 w) (fun _ w_ => Qc w0 w_) := by
  intro n
  induction n with
  | zero => intro x2 x3 w hQ hm; exact (dn_0 hm).elim
  | succ n ih =>
    intro x2 x3 w hQ hm
    rw [fX0_arranged_L4.eq_2]
    refine ok_i (fun h1 => ?_) (fun h1 => ?_)
    · exact o0_arranged_L42 x2 hS zFU (0 : Int32) w hQ (up_z (0 : Int32))
    · refine ok_lv (fun v4 ev2 => ?_)
      refine ok_lv (fun v5 ev3 => ?_)
      exact ih v5 (x3 + (-1 : Int32)) w hQ (by first | exact dn_0s hm (by assumption) | exact dn_1s hm (by assumption))
theorem o0_arranged (a0 : Int32) (a1 : Int32) {w0 w : zW} (hS : Sz w0) (hQ : Qc w0 w) : Ok (fX0_arranged a0 a1 w) (fun _ w_ => Qc w0 w_) := by
  unfold fX0_arranged
  exact o0_arranged_L4 a0 a1 hS zFU (0 : Int32) (3 : Int32) w hQ (dn_z (3 : Int32))
theorem o3_entry (h0 : Nat) (a1 : Int32) (a2 : Int32) {w0 w : zW} (hS : Sz w0) (hQ : Qc w0 w) : Ok (fX3_entry h0 a1 a2 w) (fun _ w_ => Qc w0 w_) := by
  unfold fX3_entry
  refine ok_i (fun h1 => ?_) (fun h1 => ?_)
  · exact ok_r hQ
  · refine ok_i (fun h2 => ?_) (fun h2 => ?_)
    · exact ok_r hQ
    · refine ok_i (fun h3 => ?_) (fun h3 => ?_)
      · exact ok_r hQ
      · refine ok_i (fun h4 => ?_) (fun h4 => ?_)
        · refine ok_lv (fun v5 ev5 => ?_)
          refine ok_i (fun h6 => ?_) (fun h6 => ?_)
          · exact ok_r hQ
          · refine ok_g (by subst_vars; exact ent_25 h1 h2 h3 h4) ?_
            exact ok_r hQ
        · exact ok_r hQ
theorem o0_join (a1 : Int64) (a3 : Int64) (a5 : Int64) (a7 : Int64) {w0 w : zW} (hS : Sz w0) (hQ : Qc w0 w) : Ok (fX0_join a1 a3 a5 a7 w) (fun _ w_ => Qc w0 w_) := by
  unfold fX0_join
  refine ok_i (fun h1 => ?_) (fun h1 => ?_)
  · refine ok_b (o0_startWith (a1 + a5) (a3 + a7) hS hQ) (fun _ w2 hQ2 => ?_)
    exact ok_r hQ2
  · refine ok_i (fun h3 => ?_) (fun h3 => ?_)
    · refine ok_b (o0_startWith (if a5 < a1 then a5 else a1) (if a7 < a3 then a3 else a7) hS hQ) (fun _ w6 hQ4 => ?_)
      exact ok_r hQ4
    · refine ok_i (fun h5 => ?_) (fun h5 => ?_)
      · refine ok_b (o0_greatestDivisor a1 a5 hS hQ) (fun v12 w10 hQ6 => ?_)
        refine ok_b (o0_startWith v12 (a3 ^^^ a7) hS hQ6) (fun _ w13 hQ7 => ?_)
        exact ok_r hQ7
      · refine ok_i (fun h8 => ?_) (fun h8 => ?_)
        · refine ok_b (o0_startWith ((a1 * a5) - (a1 * a5) / (101 : Int64) * (101 : Int64)) (((a5 * a3) + a7) - ((a5 * a3) + a7) / (101 : Int64) * (101 : Int64)) hS hQ) (fun _ w17 hQ9 => ?_)
          exact ok_r hQ9
        · refine ok_i (fun h10 => ?_) (fun h10 => ?_)
          · refine ok_lv (fun v21 ev11 => ?_)
            refine ok_b (o0_startWith ((a1 + a5) - v21) ((a3 + a7) - v21) hS hQ) (fun _ w22 hQ12 => ?_)
            exact ok_r hQ12
          · refine ok_i (fun h13 => ?_) (fun h13 => ?_)
            · refine ok_b (o0_arrangement (a1.toInt32) hS hQ) (fun v28 w26 hQ14 => ?_)
              refine ok_b (o0_arrangement (a5.toInt32) hS hQ14) (fun v31 w29 hQ15 => ?_)
              refine ok_b (o0_arranged v28 v31 hS hQ15) (fun v34 w32 hQ16 => ?_)
              refine ok_b (o0_startWith (v34).toInt64 ((a3 + a7) - (a3 + a7) / (2 : Int64) * (2 : Int64)) hS hQ16) (fun _ w35 hQ17 => ?_)
              exact ok_r hQ17
            · refine ok_i (fun h18 => ?_) (fun h18 => ?_)
              · refine ok_i (fun h19 => ?_) (fun h19 => ?_)
                · refine ok_i (fun h20 => ?_) (fun h20 => ?_)
                  · refine ok_b (o0_startWith a1 a7 hS hQ) (fun _ w41 hQ21 => ?_)
                    exact ok_r hQ21
                  · refine ok_b (o0_startWith a1 a3 hS hQ) (fun _ w44 hQ22 => ?_)
                    exact ok_r hQ22
                · refine ok_i (fun h23 => ?_) (fun h23 => ?_)
                  · refine ok_b (o0_startWith a5 a7 hS hQ) (fun _ w48 hQ24 => ?_)
                    exact ok_r hQ24
                  · refine ok_b (o0_startWith a5 a3 hS hQ) (fun _ w51 hQ25 => ?_)
                    exact ok_r hQ25
              · refine ok_b (o3_entry 2 (a1.toInt32) (a5.toInt32) hS hQ) (fun v56 w54 hQ26 => ?_)
                refine ok_b (o0_startWith (v56).toInt64 (0 : Int64) hS hQ26) (fun _ w57 hQ27 => ?_)
                exact ok_r hQ27
theorem o0_follow (a1 : Int32) {w0 w : zW} (hS : Sz w0) (hQ : Qc w0 w) : Ok (fX0_follow a1 w) (fun _ w_ => Qc w0 w_) := by
  unfold fX0_follow
  refine ok_b (o0_elementP a1 hS hQ) (fun v3 w1 hQ1 => ?_)
  refine ok_b (o0_elementQ a1 hS hQ1) (fun v6 w4 hQ2 => ?_)
  refine ok_b (o0_join (zL w 1 2) (zL w 1 3) v3 v6 hS hQ2) (fun _ w7 hQ3 => ?_)
  exact ok_r hQ3
theorem o0_comesTo (a1 : Int64) (a3 : Int64) {w0 w : zW} (hS : Sz w0) (hQ : Qc w0 w) : Ok (fX0_comesTo a1 a3 w) (fun _ w_ => Qc w0 w_) := by
  unfold fX0_comesTo
  refine ok_i (fun h1 => ?_) (fun h1 => ?_)
  · exact ok_r hQ
  · refine ok_i (fun h2 => ?_) (fun h2 => ?_)
    · exact ok_r hQ
    · exact ok_r hQ
theorem o7_tellMore (a1 : Int64) {w0 w : zW} (hS : Sz w0) (hQ : Qc w0 w) : Ok (fX7_tellMore a1 w) (fun _ w_ => Qc w0 w_) := by
  unfold fX7_tellMore
  refine ok_i (fun h1 => ?_) (fun h1 => ?_)
  · exact ok_r hQ
  · refine ok_i (fun h2 => ?_) (fun h2 => ?_)
    · exact ok_r hQ
    · refine ok_g (by apply zin_ok (n := 128) (by decide) <;> first | assumption | (apply Int32.not_le.mpr; assumption)) ?_
      refine ok_lv (fun w3 ew4 => ?_)
      have hQ3 : Qc w0 w3 := by rw [ew4]; exact q_L (k := 71) (j := (zI w 0 8).toNatClampNeg) (v := a1) hQ (by first | exact hs0 _ | rfl)
      refine ok_lv (fun w4 ew6 => ?_)
      have hQ5 : Qc w0 w4 := by rw [ew6]; exact q_I (k := 0) (j := 8) (v := ((zI w3 0 8) + (1 : Int32))) hQ3 (by first | exact hs0 _ | exact zR_c _ _ _ | rfl)
      exact ok_r hQ5
theorem o7_tell (a1 : Int64) {w0 w : zW} (hS : Sz w0) (hQ : Qc w0 w) : Ok (fX7_tell a1 w) (fun _ w_ => Qc w0 w_) := by
  unfold fX7_tell
  refine ok_lv (fun w1 ew2 => ?_)
  have hQ1 : Qc w0 w1 := by rw [ew2]; exact q_I (k := 0) (j := 8) (v := (0 : Int32)) hQ (by first | exact hs0 _ | exact zR_c _ _ _ | rfl)
  refine ok_b (o7_tellMore a1 hS hQ1) (fun _ w2 hQ3 => ?_)
  exact ok_r hQ3
theorem o7_tell_ (a1 : Int64) (a3 : Int64) {w0 w : zW} (hS : Sz w0) (hQ : Qc w0 w) : Ok (fX7_tell_ a1 a3 w) (fun _ w_ => Qc w0 w_) := by
  unfold fX7_tell_
  refine ok_b (o7_tell a1 hS hQ) (fun _ w1 hQ1 => ?_)
  refine ok_b (o7_tellMore a3 hS hQ1) (fun _ w4 hQ2 => ?_)
  exact ok_r hQ2
theorem o7_tell__ (a1 : Int64) (a3 : Int64) (a5 : Int64) {w0 w : zW} (hS : Sz w0) (hQ : Qc w0 w) : Ok (fX7_tell__ a1 a3 a5 w) (fun _ w_ => Qc w0 w_) := by
  unfold fX7_tell__
  refine ok_b (o7_tell_ a1 a3 hS hQ) (fun _ w1 hQ1 => ?_)
  refine ok_b (o7_tellMore a5 hS hQ1) (fun _ w4 hQ2 => ?_)
  exact ok_r hQ2
theorem o7_tell___ (a1 : Int64) (a3 : Int64) (a5 : Int64) (a7 : Int64) {w0 w : zW} (hS : Sz w0) (hQ : Qc w0 w) : Ok (fX7_tell___ a1 a3 a5 a7 w) (fun _ w_ => Qc w0 w_) := by
  unfold fX7_tell___
  refine ok_b (o7_tell__ a1 a3 a5 hS hQ) (fun _ w1 hQ1 => ?_)
  refine ok_b (o7_tellMore a7 hS hQ1) (fun _ w4 hQ2 => ?_)
  exact ok_r hQ2
theorem o7_commutes (a1 : Int32) (a2 : Int32) {w0 w : zW} (hS : Sz w0) (hQ : Qc w0 w) : Ok (fX7_commutes a1 a2 w) (fun _ w_ => Qc w0 w_) := by
  unfold fX7_commutes
  refine ok_b (o7_isItem a1 hS hQ) (fun b3 w1 hQ1 => ?_)
  refine ok_i (fun h2 => ?_) (fun h2 => ?_)
  · refine ok_b (o7_isItem a2 hS hQ1) (fun b7 w5 hQ3 => ?_)
    refine ok_i (fun h4 => ?_) (fun h4 => ?_)
    · refine ok_b (o0_start a1 hS hQ3) (fun _ w9 hQ5 => ?_)
      refine ok_b (o0_follow a2 hS hQ5) (fun _ w12 hQ6 => ?_)
      refine ok_lv (fun v15 ev7 => ?_)
      refine ok_lv (fun v16 ev8 => ?_)
      refine ok_b (o0_start a2 hS hQ6) (fun _ w17 hQ9 => ?_)
      refine ok_b (o0_follow a1 hS hQ9) (fun _ w20 hQ10 => ?_)
      refine ok_b (o0_comesTo v15 v16 hS hQ10) (fun b25 w23 hQ11 => ?_)
      refine ok_lv (fun v26 ev12 => ?_)
      refine ok_b (o7_tell___ v15 v16 (zL w23 1 2) (zL w23 1 3) hS hQ11) (fun _ w27 hQ13 => ?_)
      refine ok_i (fun h14 => ?_) (fun h14 => ?_)
      · exact ok_r hQ13
      · exact ok_r hQ13
    · exact ok_r hQ3
  · exact ok_r hQ1
theorem o0_emptyP  {w0 w : zW} (hS : Sz w0) (hQ : Qc w0 w) : Ok (fX0_emptyP  w) (fun _ w_ => Qc w0 w_) := by
  unfold fX0_emptyP
  refine ok_i (fun h1 => ?_) (fun h1 => ?_)
  · exact ok_r hQ
  · refine ok_i (fun h2 => ?_) (fun h2 => ?_)
    · exact ok_r hQ
    · refine ok_i (fun h3 => ?_) (fun h3 => ?_)
      · exact ok_r hQ
      · refine ok_i (fun h4 => ?_) (fun h4 => ?_)
        · exact ok_r hQ
        · refine ok_i (fun h5 => ?_) (fun h5 => ?_)
          · exact ok_r hQ
          · refine ok_i (fun h6 => ?_) (fun h6 => ?_)
            · exact ok_r hQ
            · refine ok_i (fun h7 => ?_) (fun h7 => ?_)
              · exact ok_r hQ
              · exact ok_r hQ
theorem o0_emptyQ  {w0 w : zW} (hS : Sz w0) (hQ : Qc w0 w) : Ok (fX0_emptyQ  w) (fun _ w_ => Qc w0 w_) := by
  unfold fX0_emptyQ
  refine ok_jn (fun j => ∀ (w1 : zW), Qc w0 w1 → Ok (j w1) (fun _ w_ => Qc w0 w_)) ?_ ?_
  · intro w1 hQ2
    exact ok_r hQ2
  · intro j1 hC1
    refine ok_i (fun h3 => ?_) (fun h3 => ?_)
    · exact hC1 w hQ
    · refine ok_i (fun h4 => ?_) (fun h4 => ?_)
      · exact ok_r hQ
      · exact hC1 w hQ
theorem o0_startEmpty  {w0 w : zW} (hS : Sz w0) (hQ : Qc w0 w) : Ok (fX0_startEmpty  w) (fun _ w_ => Qc w0 w_) := by
  unfold fX0_startEmpty
  refine ok_b (o0_emptyP  hS hQ) (fun v3 w1 hQ1 => ?_)
  refine ok_b (o0_emptyQ  hS hQ1) (fun v6 w4 hQ2 => ?_)
  refine ok_b (o0_startWith v3 v6 hS hQ2) (fun _ w7 hQ3 => ?_)
  exact ok_r hQ3
theorem o0_power_L10 (x1 : Int32) (x2 : Int32) {w0 : zW} (hS : Sz w0) : ∀ (n : Nat) (x3 : Int32) (x4 : Int32) (w : zW), Qc w0 w → Dn x4 n → Ok (fX0_power_L10 x1 x2 n x3 x4 w) (fun _ w_ => Qc w0 w_) := by
  intro n
  induction n with
  | zero => intro x3 x4 w hQ hm; exact (dn_0 hm).elim
  | succ n ih =>
    intro x3 x4 w hQ hm
    rw [fX0_power_L10.eq_2]
    refine ok_i (fun h1 => ?_) (fun h1 => ?_)
    · exact ok_r hQ
    · refine ok_lv (fun v5 ev2 => ?_)
      refine ok_jn (fun j => ∀ (y3_80 : Int32) (w6 : zW), Qc w0 w6 → Ok (j y3_80 w6) (fun _ w_ => Qc w0 w_)) ?_ ?_
      · intro y3_80 w6 hQ4
        exact ih y3_80 (x4 + (-1 : Int32)) w6 hQ4 (by first | exact dn_0s hm (by assumption) | exact dn_1s hm (by assumption))
      · intro j6 hC3
        refine ok_i (fun h5 => ?_) (fun h5 => ?_)
        · refine ok_i (fun h6 => ?_) (fun h6 => ?_)
          · exact hC3 x3 w hQ
          · refine ok_b (o0_join (zL w 1 2) (zL w 1 3) (zL w 1 2) (zL w 1 3) hS hQ) (fun _ w9 hQ7 => ?_)
            refine ok_i (fun h8 => ?_) (fun h8 => ?_)
            · exact hC3 (x3 + (1 : Int32)) w9 hQ7
            · refine ok_b (o0_follow x1 hS hQ7) (fun _ w13 hQ9 => ?_)
              exact hC3 ((x3 + (1 : Int32)) + (1 : Int32)) w13 hQ9
        · refine ok_b (o0_start x1 hS hQ) (fun _ w16 hQ10 => ?_)
          exact hC3 x3 w16 hQ10
theorem o0_power (a1 : Int32) (a2 : Int32) {w0 w : zW} (hS : Sz w0) (hQ : Qc w0 w) : Ok (fX0_power a1 a2 w) (fun _ w_ => Qc w0 w_) := by
  unfold fX0_power
  refine ok_b (o0_startEmpty  hS hQ) (fun _ w1 hQ1 => ?_)
  exact o0_power_L10 a1 a2 hS zFU (0 : Int32) (30 : Int32) w1 hQ1 (dn_z (30 : Int32))
theorem o7_powers (a1 : Int32) (a2 : Int32) {w0 w : zW} (hS : Sz w0) (hQ : Qc w0 w) : Ok (fX7_powers a1 a2 w) (fun _ w_ => Qc w0 w_) := by
  unfold fX7_powers
  refine ok_b (o7_isItem a1 hS hQ) (fun b3 w1 hQ1 => ?_)
  refine ok_i (fun h2 => ?_) (fun h2 => ?_)
  · refine ok_i (fun h3 => ?_) (fun h3 => ?_)
    · exact ok_r hQ1
    · refine ok_i (fun h4 => ?_) (fun h4 => ?_)
      · refine ok_b (o0_power a1 a2 hS hQ1) (fun v9 w7 hQ5 => ?_)
        refine ok_b (o7_tell_ (zL w7 1 2) (zL w7 1 3) hS hQ5) (fun _ w10 hQ6 => ?_)
        exact ok_r hQ6
      · exact ok_r hQ1
  · exact ok_r hQ1
theorem o7_set_ (r0 : Nat) (a1 : Int32) (a2 : Int64) {w0 w : zW} (hS : Sz w0) (hQ : Qc w0 w) (hs0 : ∀ i, cL r0 i = false) : Ok (fX7_set_ r0 a1 a2 w) (fun _ w_ => Qc w0 w_) := by
  unfold fX7_set_
  refine ok_i (fun h1 => ?_) (fun h1 => ?_)
  · exact ok_r hQ
  · refine ok_i (fun h2 => ?_) (fun h2 => ?_)
    · exact ok_r hQ
    · refine ok_g (by apply zin_ok (zlen_lt _) <;> first | assumption | (apply Int32.not_le.mpr; assumption)) ?_
      refine ok_lv (fun w3 ew4 => ?_)
      have hQ3 : Qc w0 w3 := by rw [ew4]; exact q_L (k := r0) (j := a1.toNatClampNeg) (v := a2) hQ (by first | exact hs0 _ | rfl)
      exact ok_r hQ3
theorem o7_keepSum (a1 : Int32) {w0 w : zW} (hS : Sz w0) (hQ : Qc w0 w) : Ok (fX7_keepSum a1 w) (fun _ w_ => Qc w0 w_) := by
  unfold fX7_keepSum
  refine ok_b (o7_set_ 72 a1 (zL w 1 2) hS hQ (by first | assumption | exact fun i => zR_c _ _ i | exact fun i => rfl | exact fun i => cI_f (by omega) i)) (fun _ w1 hQ1 => ?_)
  refine ok_b (o7_set_ 73 a1 (zL w1 1 3) hS hQ1 (by first | assumption | exact fun i => zR_c _ _ i | exact fun i => rfl | exact fun i => cI_f (by omega) i)) (fun _ w4 hQ2 => ?_)
  exact ok_r hQ2
theorem o7_at_ (r0 : Nat) (a1 : Int32) {w0 w : zW} (hS : Sz w0) (hQ : Qc w0 w) : Ok (fX7_at_ r0 a1 w) (fun _ w_ => Qc w0 w_) := by
  unfold fX7_at_
  refine ok_jn (fun j => ∀ (w1 : zW), Qc w0 w1 → Ok (j w1) (fun _ w_ => Qc w0 w_)) ?_ ?_
  · intro w1 hQ2
    exact ok_r hQ2
  · intro j1 hC1
    refine ok_i (fun h3 => ?_) (fun h3 => ?_)
    · exact hC1 w hQ
    · refine ok_i (fun h4 => ?_) (fun h4 => ?_)
      · refine ok_g (by apply zin_ok (zlen_lt _) <;> first | assumption | (apply Int32.not_le.mpr; assumption)) ?_
        exact ok_r hQ
      · exact hC1 w hQ
theorem o7_sumIsJust (a1 : Int32) (a2 : Int64) (a4 : Int64) {w0 w : zW} (hS : Sz w0) (hQ : Qc w0 w) : Ok (fX7_sumIsJust a1 a2 a4 w) (fun _ w_ => Qc w0 w_) := by
  unfold fX7_sumIsJust
  refine ok_b (o7_at_ 72 a1 hS hQ) (fun v3 w1 hQ1 => ?_)
  refine ok_i (fun h2 => ?_) (fun h2 => ?_)
  · exact ok_r hQ1
  · refine ok_b (o7_at_ 73 a1 hS hQ1) (fun v7 w5 hQ3 => ?_)
    refine ok_i (fun h4 => ?_) (fun h4 => ?_)
    · exact ok_r hQ3
    · exact ok_r hQ3
theorem o7_firstSumLike_L2 (x1 : Int32) {w0 : zW} (hS : Sz w0) : ∀ (n : Nat) (x2 : Int32) (w : zW), Qc w0 w → Up x2 n → Ok (fX7_firstSumLike_L2 x1 n x2 w) (fun _ w_ => Qc w0 w_) := by
  intro n
  induction n with
  | zero => intro x2 w hQ hm; exact (up_0 hm).elim
  | succ n ih =>
    intro x2 w hQ hm
    rw [fX7_firstSumLike_L2.eq_2]
    refine ok_i (fun h1 => ?_) (fun h1 => ?_)
    · exact ok_r hQ
    · refine ok_b (o7_at_ 72 x1 hS hQ) (fun v4 w2 hQ2 => ?_)
      refine ok_b (o7_at_ 73 x1 hS hQ2) (fun v7 w5 hQ3 => ?_)
      refine ok_b (o7_sumIsJust x2 v4 v7 hS hQ3) (fun b10 w8 hQ4 => ?_)
      refine ok_i (fun h5 => ?_) (fun h5 => ?_)
      · exact ok_r hQ4
      · exact ih (x2 + (1 : Int32)) w8 hQ4 (by exact up_n hm h1)
theorem o7_firstSumLike (a1 : Int32) {w0 w : zW} (hS : Sz w0) (hQ : Qc w0 w) : Ok (fX7_firstSumLike a1 w) (fun _ w_ => Qc w0 w_) := by
  unfold fX7_firstSumLike
  exact o7_firstSumLike_L2 a1 hS zFU (1 : Int32) w hQ (up_z (1 : Int32))
theorem o7_order_L18 (x1 : Int32) {w0 : zW} (hS : Sz w0) : ∀ (n : Nat) (x2 : Int32) (w : zW), Qc w0 w → Up x2 n → Ok (fX7_order_L18 x1 n x2 w) (fun _ w_ => Qc w0 w_) := by
  intro n
  induction n with
  | zero => intro x2 w hQ hm; exact (up_0 hm).elim
  | succ n ih =>
    intro x2 w hQ hm
    rw [fX7_order_L18.eq_2]
    refine ok_i (fun h1 => ?_) (fun h1 => ?_)
    · exact ok_r hQ
    · refine ok_b (o0_follow x1 hS hQ) (fun _ w9 hQ2 => ?_)
      refine ok_b (o7_keepSum x2 hS hQ2) (fun _ w12 hQ3 => ?_)
      refine ok_b (o7_firstSumLike x2 hS hQ3) (fun v17 w15 hQ4 => ?_)
      refine ok_i (fun h5 => ?_) (fun h5 => ?_)
      · exact ih (x2 + (1 : Int32)) w15 hQ4 (by exact up_le hm (by first | decide | assumption | (subst_vars; exact le_sz hS (by assumption))) h1)
      · refine ok_b (o7_tell (v17).toInt64 hS hQ4) (fun _ w19 hQ6 => ?_)
        exact ok_r hQ6
theorem o7_order (a1 : Int32) {w0 w : zW} (hS : Sz w0) (hQ : Qc w0 w) : Ok (fX7_order a1 w) (fun _ w_ => Qc w0 w_) := by
  unfold fX7_order
  refine ok_b (o7_isItem a1 hS hQ) (fun b3 w1 hQ1 => ?_)
  refine ok_i (fun h2 => ?_) (fun h2 => ?_)
  · refine ok_b (o0_startEmpty  hS hQ1) (fun _ w5 hQ3 => ?_)
    exact o7_order_L18 a1 hS zFU (1 : Int32) w5 hQ3 (up_z (1 : Int32))
  · exact ok_r hQ1
theorem o0_unlikeItems  {w0 w : zW} (hS : Sz w0) (hQ : Qc w0 w) : Ok (fX0_unlikeItems  w) (fun _ w_ => Qc w0 w_) := by
  unfold fX0_unlikeItems
  refine ok_i (fun h1 => ?_) (fun h1 => ?_)
  · exact ok_r hQ
  · refine ok_i (fun h2 => ?_) (fun h2 => ?_)
    · exact ok_r hQ
    · refine ok_i (fun h3 => ?_) (fun h3 => ?_)
      · exact ok_r hQ
      · refine ok_i (fun h4 => ?_) (fun h4 => ?_)
        · exact ok_r hQ
        · exact ok_r hQ
theorem o0_undo (a1 : Int32) (a2 : Int32) {w0 w : zW} (hS : Sz w0) (hQ : Qc w0 w) : Ok (fX0_undo a1 a2 w) (fun _ w_ => Qc w0 w_) := by
  unfold fX0_undo
  refine ok_b (o0_start a1 hS hQ) (fun _ w1 hQ1 => ?_)
  refine ok_b (o0_follow a2 hS hQ1) (fun _ w4 hQ2 => ?_)
  refine ok_b (o0_emptyP  hS hQ2) (fun v9 w7 hQ3 => ?_)
  refine ok_b (o0_emptyQ  hS hQ3) (fun v12 w10 hQ4 => ?_)
  refine ok_b (o0_comesTo v9 v12 hS hQ4) (fun b15 w13 hQ5 => ?_)
  exact ok_r hQ5
theorem o7_undoes_L19 (x1 : Int32) (x2 : Int32) {w0 : zW} (hS : Sz w0) : ∀ (n : Nat) (x3 : Int32) (w : zW), Qc w0 w → Up x3 n → Ok (fX7_undoes_L19 x1 x2 n x3 w) (fun _ w_ => Qc w0 w_) := by
  intro n
  induction n with
  | zero => intro x3 w hQ hm; exact (up_0 hm).elim
  | succ n ih =>
    intro x3 w hQ hm
    rw [fX7_undoes_L19.eq_2]
    refine ok_i (fun h1 => ?_) (fun h1 => ?_)
    · exact ok_r hQ
    · refine ok_b (o0_undo x1 x3 hS hQ) (fun b11 w9 hQ2 => ?_)
      refine ok_jn (fun j => ∀ (w12 : zW), Qc w0 w12 → Ok (j w12) (fun _ w_ => Qc w0 w_)) ?_ ?_
      · intro w12 hQ4
        exact ih (x3 + (1 : Int32)) w12 hQ4 (by exact up_n hm h1)
      · intro j12 hC3
        refine ok_i (fun h5 => ?_) (fun h5 => ?_)
        · refine ok_b (o0_undo x3 x1 hS hQ2) (fun b16 w14 hQ6 => ?_)
          refine ok_i (fun h7 => ?_) (fun h7 => ?_)
          · exact ok_r hQ6
          · exact hC3 w14 hQ6
        · exact hC3 w9 hQ2
theorem o7_undoes (a1 : Int32) {w0 w : zW} (hS : Sz w0) (hQ : Qc w0 w) : Ok (fX7_undoes a1 w) (fun _ w_ => Qc w0 w_) := by
  unfold fX7_undoes
  refine ok_b (o7_isItem a1 hS hQ) (fun b3 w1 hQ1 => ?_)
  refine ok_i (fun h2 => ?_) (fun h2 => ?_)
  · refine ok_b (o0_unlikeItems  hS hQ1) (fun v7 w5 hQ3 => ?_)
    exact o7_undoes_L19 a1 v7 hS zFU (0 : Int32) w5 hQ3 (up_z (0 : Int32))
  · exact ok_r hQ1
-- missing fX7_lineAt
-- missing fX1_size
theorem o1_endOf (h0 : Nat) (a1 : Int32) {w0 w : zW} (hS : Sz w0) (hQ : Qc w0 w) : Ok (fX1_endOf h0 a1 w) (fun _ w_ => Qc w0 w_) := by
  unfold fX1_endOf
  refine ok_i (fun h1 => ?_) (fun h1 => ?_)
  · exact ok_r hQ
  · exact ok_r hQ
theorem o1_pile (h0 : Nat) (a1 : Int32) {w0 w : zW} (hS : Sz w0) (hQ : Qc w0 w) : Ok (fX1_pile h0 a1 w) (fun _ w_ => Qc w0 w_) := by
  unfold fX1_pile
  refine ok_i (fun h1 => ?_) (fun h1 => ?_)
  · exact ok_r hQ
  · exact ok_r hQ
theorem o1_heightOf (h0 : Nat) (a1 : Int32) {w0 w : zW} (hS : Sz w0) (hQ : Qc w0 w) : Ok (fX1_heightOf h0 a1 w) (fun _ w_ => Qc w0 w_) := by
  unfold fX1_heightOf
  refine ok_i (fun h1 => ?_) (fun h1 => ?_)
  · exact ok_r hQ
  · exact ok_r hQ
theorem o7_at (r0 : Nat) (a1 : Int32) {w0 w : zW} (hS : Sz w0) (hQ : Qc w0 w) : Ok (fX7_at r0 a1 w) (fun _ w_ => Qc w0 w_) := by
  unfold fX7_at
  refine ok_i (fun h1 => ?_) (fun h1 => ?_)
  · exact ok_r hQ
  · refine ok_i (fun h2 => ?_) (fun h2 => ?_)
    · refine ok_g (by apply zin_ok (zlen_lt _) <;> first | assumption | (apply Int32.not_le.mpr; assumption)) ?_
      exact ok_r hQ
    · exact ok_r hQ
theorem o1_itemAt (h0 : Nat) (a1 : Int32) {w0 w : zW} (hS : Sz w0) (hQ : Qc w0 w) : Ok (fX1_itemAt h0 a1 w) (fun _ w_ => Qc w0 w_) := by
  unfold fX1_itemAt
  refine ok_b (o1_endOf h0 a1 hS hQ) (fun v3 w1 hQ1 => ?_)
  refine ok_b (o1_pile h0 v3 hS hQ1) (fun v6 w4 hQ2 => ?_)
  refine ok_b (o1_heightOf h0 a1 hS hQ2) (fun v9 w7 hQ3 => ?_)
  refine ok_b (o7_at (v6 + 1) v9 hS hQ3) (fun v12 w10 hQ4 => ?_)
  exact ok_r hQ4
theorem o7_sumUp_L10 (r1 : Nat) (x3 : Int32) {w0 : zW} (hS : Sz w0) : ∀ (n : Nat) (x4 : Int32) (w : zW), Qc w0 w → Up x4 n → Ok (fX7_sumUp_L10 r1 x3 n x4 w) (fun _ w_ => Qc w0 w_) := by
  intro n
  induction n with
  | zero => intro x4 w hQ hm; exact (up_0 hm).elim
  | succ n ih =>
    intro x4 w hQ hm
    rw [fX7_sumUp_L10.eq_2]
    refine ok_i (fun h1 => ?_) (fun h1 => ?_)
    · exact ok_r hQ
    · refine ok_b (o1_itemAt r1 x4 hS hQ) (fun v7 w5 hQ2 => ?_)
      refine ok_b (o0_follow v7 hS hQ2) (fun _ w8 hQ3 => ?_)
      exact ih (x4 + (1 : Int32)) w8 hQ3 (by exact up_n hm h1)
theorem o7_sumUp (r1 : Nat) (a2 : Int32) (a3 : Int32) {w0 w : zW} (hS : Sz w0) (hQ : Qc w0 w) : Ok (fX7_sumUp r1 a2 a3 w) (fun _ w_ => Qc w0 w_) := by
  unfold fX7_sumUp
  refine ok_b (o0_startEmpty  hS hQ) (fun _ w1 hQ1 => ?_)
  exact o7_sumUp_L10 r1 a3 hS zFU a2 w1 hQ1 (up_z a2)
theorem o7_sum (a1 : Int32) {w0 w : zW} (hS : Sz w0) (hQ : Qc w0 w) : Ok (fX7_sum a1 w) (fun _ w_ => Qc w0 w_) := by
  unfold fX7_sum
  refine ok_b (o7_lineAt a1 hQ) ?_
  rintro o3 w1 ⟨hl2, hQ1⟩
  refine ok_o (fun e3 => ?_) (fun l4 e3 => ?_)
  · exact ok_r hQ1
  · refine ok_b (o1_size hS (hl2 _ e3) hQ1) ?_
    rintro v7 w5 ⟨he5, hQ4⟩
    refine ok_b (o7_sumUp l4 (0 : Int32) v7 hS hQ4) (fun _ w8 hQ6 => ?_)
    refine ok_b (o7_tell_ (zL w8 1 2) (zL w8 1 3) hS hQ6) (fun _ w11 hQ7 => ?_)
    refine ok_b (o1_size hS (hl2 _ e3) hQ7) ?_
    rintro v16 w14 ⟨he9, hQ8⟩
    exact ok_r hQ8
theorem o7_part (a1 : Int32) (a2 : Int32) (a3 : Int32) {w0 w : zW} (hS : Sz w0) (hQ : Qc w0 w) : Ok (fX7_part a1 a2 a3 w) (fun _ w_ => Qc w0 w_) := by
  unfold fX7_part
  refine ok_b (o7_lineAt a1 hQ) ?_
  rintro o3 w1 ⟨hl2, hQ1⟩
  refine ok_o (fun e3 => ?_) (fun l4 e3 => ?_)
  · exact ok_r hQ1
  · refine ok_i (fun h4 => ?_) (fun h4 => ?_)
    · exact ok_r hQ1
    · refine ok_i (fun h5 => ?_) (fun h5 => ?_)
      · exact ok_r hQ1
      · refine ok_b (o1_size hS (hl2 _ e3) hQ1) ?_
        rintro v9 w7 ⟨he7, hQ6⟩
        refine ok_i (fun h8 => ?_) (fun h8 => ?_)
        · refine ok_b (o7_sumUp l4 a2 a3 hS hQ6) (fun _ w11 hQ9 => ?_)
          refine ok_b (o7_tell_ (zL w11 1 2) (zL w11 1 3) hS hQ9) (fun _ w14 hQ10 => ?_)
          exact ok_r hQ10
        · exact ok_r hQ6
theorem o7_windows_L50 (x2 : Int32) (r3 : Nat) (x4 : Int32) {w0 : zW} (hS : Sz w0) : ∀ (n : Nat) (x5 : Int32) (w : zW), Qc w0 w → Up x5 n → Ok (fX7_windows_L50 x2 r3 x4 n x5 w) (fun _ w_ => Qc w0 w_) := by
  intro n
  induction n with
  | zero => intro x5 w hQ hm; exact (up_0 hm).elim
  | succ n ih =>
    intro x5 w hQ hm
    rw [fX7_windows_L50.eq_2]
    refine ok_i (fun h1 => ?_) (fun h1 => ?_)
    · exact ok_r hQ
    · refine ok_b (o7_sumUp r3 x5 (x5 + x2) hS hQ) (fun _ w14 hQ2 => ?_)
      refine ok_b (o7_tellMore (zL w14 1 2) hS hQ2) (fun _ w17 hQ3 => ?_)
      refine ok_b (o7_tellMore (zL w17 1 3) hS hQ3) (fun _ w20 hQ4 => ?_)
      exact ih (x5 + (1 : Int32)) w20 hQ4 (by exact up_n hm h1)
theorem o7_windows (a1 : Int32) (a2 : Int32) {w0 w : zW} (hS : Sz w0) (hQ : Qc w0 w) : Ok (fX7_windows a1 a2 w) (fun _ w_ => Qc w0 w_) := by
  unfold fX7_windows
  refine ok_b (o7_lineAt a1 hQ) ?_
  rintro o3 w1 ⟨hl2, hQ1⟩
  refine ok_o (fun e3 => ?_) (fun l4 e3 => ?_)
  · exact ok_r hQ1
  · refine ok_i (fun h4 => ?_) (fun h4 => ?_)
    · exact ok_r hQ1
    · refine ok_i (fun h5 => ?_) (fun h5 => ?_)
      · refine ok_b (o1_size hS (hl2 _ e3) hQ1) ?_
        rintro v9 w7 ⟨he7, hQ6⟩
        refine ok_lv (fun v10 ev8 => ?_)
        refine ok_i (fun h9 => ?_) (fun h9 => ?_)
        · refine ok_lv (fun w12 ew11 => ?_)
          have hQ10 : Qc w0 w12 := by rw [ew11]; exact q_I (k := 0) (j := 8) (v := (0 : Int32)) hQ6 (by first | exact hs0 _ | exact zR_c _ _ _ | rfl)
          exact o7_windows_L50 a2 l4 v10 hS zFU (0 : Int32) w12 hQ10 (up_z (0 : Int32))
        · exact ok_r hQ6
      · exact ok_r hQ1
theorem o7_first_L22 (x2 : Int32) (r3 : Nat) {w0 : zW} (hS : Sz w0) (hs1 : isLn r3) : ∀ (n : Nat) (x4 : Int32) (w : zW), Qc w0 w → Up x4 n → Ok (fX7_first_L22 x2 r3 n x4 w) (fun _ w_ => Qc w0 w_) := by
  intro n
  induction n with
  | zero => intro x4 w hQ hm; exact (up_0 hm).elim
  | succ n ih =>
    intro x4 w hQ hm
    rw [fX7_first_L22.eq_2]
    refine ok_b (o1_size hS hs1 hQ) ?_
    rintro v10 w8 ⟨he2, hQ1⟩
    refine ok_i (fun h3 => ?_) (fun h3 => ?_)
    · exact ok_r hQ1
    · refine ok_b (o1_itemAt r3 x4 hS hQ1) (fun v14 w12 hQ4 => ?_)
      refine ok_b (o0_follow v14 hS hQ4) (fun _ w15 hQ5 => ?_)
      refine ok_i (fun h6 => ?_) (fun h6 => ?_)
      · exact ih (x4 + (1 : Int32)) w15 hQ5 (by exact up_n hm h3)
      · refine ok_b (o7_tell_ (zL w15 1 2) (zL w15 1 3) hS hQ5) (fun _ w19 hQ7 => ?_)
        exact ok_r hQ7
theorem o7_first (a1 : Int32) (a2 : Int32) {w0 w : zW} (hS : Sz w0) (hQ : Qc w0 w) : Ok (fX7_first a1 a2 w) (fun _ w_ => Qc w0 w_) := by
  unfold fX7_first
  refine ok_b (o7_lineAt a1 hQ) ?_
  rintro o3 w1 ⟨hl2, hQ1⟩
  refine ok_o (fun e3 => ?_) (fun l4 e3 => ?_)
  · exact ok_r hQ1
  · refine ok_b (o0_startEmpty  hS hQ1) (fun _ w5 hQ4 => ?_)
    exact o7_first_L22 a2 l4 hS (hl2 _ e3) zFU (0 : Int32) w5 hQ4 (up_z (0 : Int32))
/-- a number of at most 65 that goes up -/
def B1 (x : Int32) (n : Nat) : Prop := ∃ k, x = nI k ∧ k ≤ 65 ∧ 66 < k + n
theorem b1_0 {x : Int32} (h : B1 x 0) : False := by obtain ⟨k, -, h1, h2⟩ := h; omega
theorem b1_l {x v : Int32} {n s : Nat} (h : B1 x n) (h1 : ¬ v < x) (e : v = nI s) (hs : s ≤ 64) : ∃ l, l ≤ 64 ∧ x = nI l := by
  obtain ⟨k, rfl, h2, h3⟩ := h
  subst e
  refine ⟨k, ?_, rfl⟩
  have := (nI_leI (by omega) (by omega)).mp (Int32.not_lt.mp h1)
  omega
theorem b1_s {x v : Int32} {n s : Nat} (h : B1 x (n + 1)) (h1 : ¬ v < x) (e : v = nI s) (hs : s ≤ 64) : B1 (x + 1) n := by
  obtain ⟨l, hl, hx⟩ := b1_l h h1 e hs
  obtain ⟨k, rfl, h2, h3⟩ := h
  exact ⟨k + 1, nI_1 k, by have := (nI_eq (by omega) (by omega)).mp hx; omega, by omega⟩
theorem b1_z0 : B1 0 zFU := ⟨0, rfl, by decide, by rw [show zFU = 18446744073709551616 from rfl]; omega⟩
theorem b1_z1 : B1 1 zFU := ⟨1, rfl, by decide, by rw [show zFU = 18446744073709551616 from rfl]; omega⟩
theorem b2_s {x y v : Int32} {n s : Nat} (h : B1 x (n + 1)) (hy : ∃ l, l ≤ 64 ∧ y = nI l) (h1 : ¬ v < x + y) (e : v = nI s) (hs : s ≤ 64) : B1 (x + 1) n := by
  obtain ⟨k, rfl, h2, h3⟩ := h
  obtain ⟨l, hl, rfl⟩ := hy
  subst e
  rw [nI_add] at h1
  have := (nI_leI (by omega) (by omega)).mp (Int32.not_lt.mp h1)
  exact ⟨k + 1, nI_1 k, by omega, by omega⟩
theorem o7_stretch_L2 (r1 : Nat) (x2 : Int32) {w0 : zW} (hS : Sz w0) (hs0 : isLn r1) (hy : ∃ l, l ≤ 64 ∧ x2 = nI l) : ∀ (n : Nat) (x3 : Int32) (w : zW), Qc w0 w → B1 x3 n → Ok (fX7_stretch_L2 r1 x2 n x3 w) (fun _ w_ => Qc w0 w_) := by
  intro n
  induction n with
  | zero => intro x3 w hQ hm; exact (b1_0 hm).elim
  | succ n ih =>
    intro x3 w hQ hm
    rw [fX7_stretch_L2.eq_2]
    refine ok_b (o1_size hS hs0 hQ) ?_
    rintro v3 w1 ⟨he2, hQ1⟩
    refine ok_i (fun h3 => ?_) (fun h3 => ?_)
    · exact ok_r hQ1
    · refine ok_jn (fun j => ∀ (w5 : zW), Qc w0 w5 → Ok (j w5) (fun _ w_ => Qc w0 w_)) ?_ ?_
      · intro w5 hQ5
        refine ok_b (o1_itemAt r1 ((x3 + x2) - (1 : Int32)) hS hQ5) (fun v8 w6 hQ6 => ?_)
        refine ok_b (o0_follow v8 hS hQ6) (fun _ w9 hQ7 => ?_)
        refine ok_b (o7_keepSum x3 hS hQ7) (fun _ w12 hQ8 => ?_)
        exact ih (x3 + (1 : Int32)) w12 hQ8 (b2_s hm hy h3 he2 (hS _ hs0).2)
      · intro j5 hC4
        refine ok_i (fun h9 => ?_) (fun h9 => ?_)
        · refine ok_b (o7_at_ 72 x3 hS hQ1) (fun v18 w16 hQ10 => ?_)
          refine ok_b (o7_at_ 73 x3 hS hQ10) (fun v21 w19 hQ11 => ?_)
          refine ok_b (o0_startWith v18 v21 hS hQ11) (fun _ w22 hQ12 => ?_)
          exact hC4 w22 hQ12
        · refine ok_b (o0_startEmpty  hS hQ1) (fun _ w25 hQ13 => ?_)
          exact hC4 w25 hQ13
theorem o7_stretch (r1 : Nat) (a2 : Int32) {w0 w : zW} (hS : Sz w0) (hQ : Qc w0 w) (hs0 : isLn r1) (hy : ∃ l, l ≤ 64 ∧ a2 = nI l) : Ok (fX7_stretch r1 a2 w) (fun _ w_ => Qc w0 w_) := by
  unfold fX7_stretch
  exact o7_stretch_L2 r1 a2 hS hs0 hy zFU (0 : Int32) w hQ b1_z0
theorem o7_firstAtMost_L2 (x1 : Int32) (x2 : Int32) {w0 : zW} (hS : Sz w0) : ∀ (n : Nat) (x3 : Int32) (w : zW), Qc w0 w → Up x3 n → Ok (fX7_firstAtMost_L2 x1 x2 n x3 w) (fun _ w_ => Qc w0 w_) := by
  intro n
  induction n with
  | zero => intro x3 w hQ hm; exact (up_0 hm).elim
  | succ n ih =>
    intro x3 w hQ hm
    rw [fX7_firstAtMost_L2.eq_2]
    refine ok_i (fun h1 => ?_) (fun h1 => ?_)
    · exact ok_r hQ
    · refine ok_b (o7_at_ 72 x3 hS hQ) (fun v4 w2 hQ2 => ?_)
      refine ok_i (fun h3 => ?_) (fun h3 => ?_)
      · exact ih (x3 + (1 : Int32)) w2 hQ2 (by exact up_n hm h1)
      · exact ok_r hQ2
theorem o7_firstAtMost (a1 : Int32) (a2 : Int32) {w0 w : zW} (hS : Sz w0) (hQ : Qc w0 w) : Ok (fX7_firstAtMost a1 a2 w) (fun _ w_ => Qc w0 w_) := by
  unfold fX7_firstAtMost
  exact o7_firstAtMost_L2 a1 a2 hS zFU (0 : Int32) w hQ (up_z (0 : Int32))
theorem o7_longest_L21 (x2 : Int32) (r3 : Nat) {w0 : zW} (hS : Sz w0) (hs1 : isLn r3) : ∀ (n : Nat) (x4 : Int32) (x5 : Int32) (x6 : Int32) (w : zW), Qc w0 w → B1 x6 n → Ok (fX7_longest_L21 x2 r3 n x4 x5 x6 w) (fun _ w_ => Qc w0 w_) := by
  intro n
  induction n with
  | zero => intro x4 x5 x6 w hQ hm; exact (b1_0 hm).elim
  | succ n ih =>
    intro x4 x5 x6 w hQ hm
    rw [fX7_longest_L21.eq_2]
    refine ok_b (o1_size hS hs1 hQ) ?_
    rintro v7 w5 ⟨he2, hQ1⟩
    refine ok_i (fun h3 => ?_) (fun h3 => ?_)
    · refine ok_b (o7_tell (x5).toInt64 hS hQ1) (fun _ w9 hQ4 => ?_)
      exact ok_r hQ4
    · refine ok_b (o7_stretch r3 x6 hS hQ1 hs1 (b1_l hm h3 he2 (hS _ hs1).2)) (fun _ w12 hQ5 => ?_)
      refine ok_b (o1_size hS hs1 hQ5) ?_
      rintro v17 w15 ⟨he7, hQ6⟩
      refine ok_b (o7_firstAtMost x2 ((v17 - x6) + (1 : Int32)) hS hQ6) (fun v20 w18 hQ8 => ?_)
      refine ok_jn (fun j => ∀ (y4_67 : Int32) (y5_67 : Int32) (w21 : zW), Qc w0 w21 → Ok (j y4_67 y5_67 w21) (fun _ w_ => Qc w0 w_)) ?_ ?_
      · intro y4_67 y5_67 w21 hQ10
        exact ih y4_67 y5_67 (x6 + (1 : Int32)) w21 hQ10 (b1_s hm h3 he2 (hS _ hs1).2)
      · intro j21 hC9
        refine ok_i (fun h11 => ?_) (fun h11 => ?_)
        · exact hC9 x4 x5 w18 hQ8
        · exact hC9 x6 v20 w18 hQ8
theorem o7_longest (a1 : Int32) (a2 : Int32) {w0 w : zW} (hS : Sz w0) (hQ : Qc w0 w) : Ok (fX7_longest a1 a2 w) (fun _ w_ => Qc w0 w_) := by
  unfold fX7_longest
  refine ok_b (o7_lineAt a1 hQ) ?_
  rintro o3 w1 ⟨hl2, hQ1⟩
  refine ok_o (fun e3 => ?_) (fun l4 e3 => ?_)
  · exact ok_r hQ1
  · exact o7_longest_L21 a2 l4 hS (hl2 _ e3) zFU (0 : Int32) (-1 : Int32) (1 : Int32) w1 hQ1 b1_z1
theorem o7_greatest_L46 (x2 : Int32) (r3 : Nat) {w0 : zW} (hS : Sz w0) (hs1 : isLn r3) (hy : ∃ l, l ≤ 64 ∧ x2 = nI l) : ∀ (n : Nat) (x4 : Int32) (x5 : Int64) (x7 : Int64) (x9 : Int32) (w : zW), Qc w0 w → B1 x9 n → Ok (fX7_greatest_L46 x2 r3 n x4 x5 x7 x9 w) (fun _ w_ => Qc w0 w_) := by
  intro n
  induction n with
  | zero => intro x4 x5 x7 x9 w hQ hm; exact (b1_0 hm).elim
  | succ n ih =>
    intro x4 x5 x7 x9 w hQ hm
    rw [fX7_greatest_L46.eq_2]
    refine ok_b (o1_size hS hs1 hQ) ?_
    rintro v13 w11 ⟨he2, hQ1⟩
    refine ok_i (fun h3 => ?_) (fun h3 => ?_)
    · refine ok_b (o7_tell_ x5 x7 hS hQ1) (fun _ w15 hQ4 => ?_)
      exact ok_r hQ4
    · refine ok_b (o7_sumUp r3 x9 (x9 + x2) hS hQ1) (fun _ w18 hQ5 => ?_)
      refine ok_jn (fun j => ∀ (y4_109 : Int32) (y5_109 : Int64) (y7_109 : Int64) (w21 : zW), Qc w0 w21 → Ok (j y4_109 y5_109 y7_109 w21) (fun _ w_ => Qc w0 w_)) ?_ ?_
      · intro y4_109 y5_109 y7_109 w21 hQ7
        exact ih y4_109 y5_109 y7_109 (x9 + (1 : Int32)) w21 hQ7 (b2_s hm hy h3 he2 (hS _ hs1).2)
      · intro j21 hC6
        refine ok_jn (fun j => ∀ (w22 : zW), Qc w0 w22 → Ok (j w22) (fun _ w_ => Qc w0 w_)) ?_ ?_
        · intro w22 hQ9
          refine ok_lv (fun v23 ev10 => ?_)
          refine ok_lv (fun v24 ev11 => ?_)
          exact hC6 x9 v23 v24 w22 hQ9
        · intro j22 hC8
          refine ok_i (fun h12 => ?_) (fun h12 => ?_)
          · exact hC8 w18 hQ5
          · refine ok_i (fun h13 => ?_) (fun h13 => ?_)
            · exact hC6 x4 x5 x7 w18 hQ5
            · exact hC8 w18 hQ5
theorem rng_l {x : Int32} (h1 : ¬ x < 1) (h2 : x ≤ 64) : ∃ l, l ≤ 64 ∧ x = nI l := by
  rcases i01 (n := 64) (by decide) (Int32.not_lt.mpr h2) with q | ⟨t, ht, e⟩
  · exact absurd (Int32.lt_of_lt_of_le q (by decide)) h1
  · exact ⟨t, ht, e⟩
theorem o7_greatest (a1 : Int32) (a2 : Int32) {w0 w : zW} (hS : Sz w0) (hQ : Qc w0 w) : Ok (fX7_greatest a1 a2 w) (fun _ w_ => Qc w0 w_) := by
  unfold fX7_greatest
  refine ok_b (o7_lineAt a1 hQ) ?_
  rintro o3 w1 ⟨hl2, hQ1⟩
  refine ok_o (fun e3 => ?_) (fun l4 e3 => ?_)
  · exact ok_r hQ1
  · refine ok_i (fun h4 => ?_) (fun h4 => ?_)
    · exact ok_r hQ1
    · refine ok_i (fun h5 => ?_) (fun h5 => ?_)
      · refine ok_b (o1_size hS (hl2 _ e3) hQ1) ?_
        rintro v9 w7 ⟨he7, hQ6⟩
        refine ok_i (fun h8 => ?_) (fun h8 => ?_)
        · exact o7_greatest_L46 a2 l4 hS (hl2 _ e3) (rng_l h4 h5) zFU (-1 : Int32) (0 : Int64) (0 : Int64) (0 : Int32) w7 hQ6 b1_z0
        · exact ok_r hQ6
      · exact ok_r hQ1

theorem o7_sumsJust_L6 (x1 : Int64) (x3 : Int64) (x5 : Int32) {w0 : zW} (hS : Sz w0) : ∀ (n : Nat) (x6 : Int32) (x7 : Int32) (w : zW), Qc w0 w → Up x7 n → Ok (fX7_sumsJust_L6 x1 x3 x5 n x6 x7 w) (fun _ w_ => Qc w0 w_) := by
  intro n
  induction n with
  | zero => intro x6 x7 w hQ hm; exact (up_0 hm).elim
  | succ n ih =>
    intro x6 x7 w hQ hm
    rw [fX7_sumsJust_L6.eq_2]
    refine ok_i (fun h1 => ?_) (fun h1 => ?_)
    · exact ok_r hQ
    · refine ok_b (o7_sumIsJust x7 x1 x3 hS hQ) (fun b4 w2 hQ2 => ?_)
      refine ok_lv (fun v6 ev3 => ?_)
      refine ok_lv (fun v7 ev4 => ?_)
      exact ih v7 (x7 + (1 : Int32)) w2 hQ2 (by exact up_n hm h1)
theorem o7_sumsJust (a1 : Int64) (a3 : Int64) (a5 : Int32) {w0 w : zW} (hS : Sz w0) (hQ : Qc w0 w) : Ok (fX7_sumsJust a1 a3 a5 w) (fun _ w_ => Qc w0 w_) := by
  unfold fX7_sumsJust
  exact o7_sumsJust_L6 a1 a3 a5 hS zFU (0 : Int32) (0 : Int32) w hQ (up_z (0 : Int32))
theorem o7_firstJust_L3 (x1 : Int64) (x3 : Int64) (x5 : Int32) {w0 : zW} (hS : Sz w0) : ∀ (n : Nat) (x6 : Int32) (w : zW), Qc w0 w → Up x6 n → Ok (fX7_firstJust_L3 x1 x3 x5 n x6 w) (fun _ w_ => Qc w0 w_) := by
  intro n
  induction n with
  | zero => intro x6 w hQ hm; exact (up_0 hm).elim
  | succ n ih =>
    intro x6 w hQ hm
    rw [fX7_firstJust_L3.eq_2]
    refine ok_i (fun h1 => ?_) (fun h1 => ?_)
    · exact ok_r hQ
    · refine ok_b (o7_sumIsJust x6 x1 x3 hS hQ) (fun b4 w2 hQ2 => ?_)
      refine ok_i (fun h3 => ?_) (fun h3 => ?_)
      · exact ok_r hQ2
      · exact ih (x6 + (1 : Int32)) w2 hQ2 (by exact up_n hm h1)
theorem o7_firstJust (a1 : Int64) (a3 : Int64) (a5 : Int32) {w0 w : zW} (hS : Sz w0) (hQ : Qc w0 w) : Ok (fX7_firstJust a1 a3 a5 w) (fun _ w_ => Qc w0 w_) := by
  unfold fX7_firstJust
  exact o7_firstJust_L3 a1 a3 a5 hS zFU (0 : Int32) w hQ (up_z (0 : Int32))
theorem o7_finds_L17 (x2 : Int32) (x3 : Int32) (r4 : Nat) {w0 : zW} (hS : Sz w0) (hs2 : isLn r4) : ∀ (n : Nat) (x5 : Int32) (w : zW), Qc w0 w → B1 x5 n → Ok (fX7_finds_L17 x2 x3 r4 n x5 w) (fun _ w_ => Qc w0 w_) := by
  intro n
  induction n with
  | zero => intro x5 w hQ hm; exact (b1_0 hm).elim
  | succ n ih =>
    intro x5 w hQ hm
    rw [fX7_finds_L17.eq_2]
    refine ok_b (o1_size hS hs2 hQ) ?_
    rintro v7 w5 ⟨he2, hQ1⟩
    refine ok_i (fun h3 => ?_) (fun h3 => ?_)
    · exact ok_r hQ1
    · refine ok_b (o7_stretch r4 x5 hS hQ1 hs2 (b1_l hm h3 he2 (hS _ hs2).2)) (fun _ w9 hQ4 => ?_)
      refine ok_b (o1_size hS hs2 hQ4) ?_
      rintro v14 w12 ⟨he6, hQ5⟩
      refine ok_lv (fun v15 ev7 => ?_)
      refine ok_b (o7_sumsJust (x2).toInt64 (x3).toInt64 v15 hS hQ5) (fun v18 w16 hQ8 => ?_)
      refine ok_i (fun h9 => ?_) (fun h9 => ?_)
      · exact ih (x5 + (1 : Int32)) w16 hQ8 (b1_s hm h3 he2 (hS _ hs2).2)
      · refine ok_b (o7_firstJust (x2).toInt64 (x3).toInt64 v15 hS hQ8) (fun v22 w20 hQ10 => ?_)
        refine ok_b (o7_tell_ (v22).toInt64 (v18).toInt64 hS hQ10) (fun _ w23 hQ11 => ?_)
        exact ok_r hQ11
theorem o7_finds (a1 : Int32) (a2 : Int32) (a3 : Int32) {w0 w : zW} (hS : Sz w0) (hQ : Qc w0 w) : Ok (fX7_finds a1 a2 a3 w) (fun _ w_ => Qc w0 w_) := by
  unfold fX7_finds
  refine ok_b (o7_lineAt a1 hQ) ?_
  rintro o3 w1 ⟨hl2, hQ1⟩
  refine ok_o (fun e3 => ?_) (fun l4 e3 => ?_)
  · exact ok_r hQ1
  · exact o7_finds_L17 a2 a3 l4 hS (hl2 _ e3) zFU (1 : Int32) w1 hQ1 b1_z1
theorem o4_cost (a0 : Int32) (a1 : Int32) (a2 : Int32) {w0 w : zW} (hS : Sz w0) (hQ : Qc w0 w) : Ok (fX4_cost a0 a1 a2 w) (fun _ w_ => Qc w0 w_) := by
  unfold fX4_cost
  refine ok_lv (fun v2 ev1 => ?_)
  refine ok_i (fun h2 => ?_) (fun h2 => ?_)
  · exact ok_r hQ
  · exact ok_r hQ
theorem o4_frontBehind (a0 : Int32) (a1 : Int32) (a2 : Int32) {w0 w : zW} (hS : Sz w0) (hQ : Qc w0 w) : Ok (fX4_frontBehind a0 a1 a2 w) (fun _ w_ => Qc w0 w_) := by
  unfold fX4_frontBehind
  refine ok_lv (fun v2 ev1 => ?_)
  refine ok_jn (fun j => ∀ (s_25 : Int32) (w4 : zW), Qc w0 w4 → Ok (j s_25 w4) (fun _ w_ => Qc w0 w_)) ?_ ?_
  · intro s_25 w4 hQ3
    refine ok_lv (fun v5 ev4 => ?_)
    refine ok_i (fun h5 => ?_) (fun h5 => ?_)
    · exact ok_r hQ3
    · exact ok_r hQ3
  · intro j4 hC2
    refine ok_i (fun h6 => ?_) (fun h6 => ?_)
    · exact hC2 v2 w hQ
    · exact hC2 ((a1 + (1 : Int32)) / (2 : Int32)) w hQ
theorem o4_drain_L9  {w0 : zW} (hS : Sz w0) : ∀ (n : Nat) (x2 : Int32) (x3 : Int32) (x4 : Int32) (w : zW), Qc w0 w → Dn x4 n → Ok (fX4_drain_L9  n x2 x3 x4 w) (fun _ w_ => Qc w0 w_) := by
  intro n
  induction n with
  | zero => intro x2 x3 x4 w hQ hm; exact (dn_0 hm).elim
  | succ n ih =>
    intro x2 x3 x4 w hQ hm
    rw [fX4_drain_L9.eq_2]
    refine ok_i (fun h1 => ?_) (fun h1 => ?_)
    · exact ok_r hQ
    · refine ok_b (o4_cost x3 x4 (0 : Int32) hS hQ) (fun v5 w3 hQ2 => ?_)
      refine ok_lv (fun v6 ev3 => ?_)
      refine ok_b (o4_frontBehind x3 x4 (0 : Int32) hS hQ2) (fun v9 w7 hQ4 => ?_)
      exact ih v6 v9 (x4 + (-1 : Int32)) w7 hQ4 (by first | exact dn_0s hm (by assumption) | exact dn_1s hm (by assumption))
theorem o4_drain (a0 : Int32) (a1 : Int32) {w0 w : zW} (hS : Sz w0) (hQ : Qc w0 w) : Ok (fX4_drain a0 a1 w) (fun _ w_ => Qc w0 w_) := by
  unfold fX4_drain
  refine ok_lv (fun v1 ev1 => ?_)
  exact o4_drain_L9  hS zFU (0 : Int32) a0 v1 w hQ (dn_z v1)
theorem o7_drains (a1 : Int32) {w0 w : zW} (hS : Sz w0) (hQ : Qc w0 w) : Ok (fX7_drains a1 w) (fun _ w_ => Qc w0 w_) := by
  unfold fX7_drains
  refine ok_b (o7_lineAt a1 hQ) ?_
  rintro o3 w1 ⟨hl2, hQ1⟩
  refine ok_o (fun e3 => ?_) (fun l4 e3 => ?_)
  · exact ok_r hQ1
  · refine ok_b (o4_drain (zI w1 (l4 + 1) 0) (zI w1 (l4 + 6) 0) hS hQ1) (fun v7 w5 hQ4 => ?_)
    refine ok_b (o4_drain (zI w5 (l4 + 6) 0) (zI w5 (l4 + 1) 0) hS hQ4) (fun v10 w8 hQ5 => ?_)
    refine ok_lv (fun v12 ev6 => ?_)
    refine ok_b (o7_tell__ (v12).toInt64 (v7).toInt64 (v10).toInt64 hS hQ5) (fun _ w13 hQ7 => ?_)
    refine ok_i (fun h8 => ?_) (fun h8 => ?_)
    · exact ok_r hQ7
    · exact ok_r hQ7
theorem o7_sumFirsts_L9 (r1 : Nat) {w0 : zW} (hS : Sz w0) (hs0 : isLn r1) : ∀ (n : Nat) (x2 : Int32) (w : zW), Qc w0 w → Up x2 n → Ok (fX7_sumFirsts_L9 r1 n x2 w) (fun _ w_ => Qc w0 w_) := by
  intro n
  induction n with
  | zero => intro x2 w hQ hm; exact (up_0 hm).elim
  | succ n ih =>
    intro x2 w hQ hm
    rw [fX7_sumFirsts_L9.eq_2]
    refine ok_b (o1_size hS hs0 hQ) ?_
    rintro v6 w4 ⟨he2, hQ1⟩
    refine ok_i (fun h3 => ?_) (fun h3 => ?_)
    · exact ok_r hQ1
    · refine ok_b (o1_itemAt r1 (x2 - (1 : Int32)) hS hQ1) (fun v10 w8 hQ4 => ?_)
      refine ok_b (o0_follow v10 hS hQ4) (fun _ w11 hQ5 => ?_)
      refine ok_b (o7_keepSum x2 hS hQ5) (fun _ w14 hQ6 => ?_)
      exact ih (x2 + (1 : Int32)) w14 hQ6 (by exact up_le hm (by first | decide | assumption | (subst_vars; exact le_sz hS (by assumption))) h3)
theorem o7_sumFirsts (r1 : Nat) {w0 w : zW} (hS : Sz w0) (hQ : Qc w0 w) (hs0 : isLn r1) : Ok (fX7_sumFirsts r1 w) (fun _ w_ => Qc w0 w_) := by
  unfold fX7_sumFirsts
  refine ok_b (o0_startEmpty  hS hQ) (fun _ w1 hQ1 => ?_)
  exact o7_sumFirsts_L9 r1 hS hs0 zFU (1 : Int32) w1 hQ1 (up_z (1 : Int32))
theorem o7_sumsLike_L5 (x1 : Int32) (x2 : Int32) {w0 : zW} (hS : Sz w0) (hs1 : x2 ≤ 1000000) : ∀ (n : Nat) (x3 : Int32) (x4 : Int32) (w : zW), Qc w0 w → Up x4 n → Ok (fX7_sumsLike_L5 x1 x2 n x3 x4 w) (fun _ w_ => Qc w0 w_) := by
  intro n
  induction n with
  | zero => intro x3 x4 w hQ hm; exact (up_0 hm).elim
  | succ n ih =>
    intro x3 x4 w hQ hm
    rw [fX7_sumsLike_L5.eq_2]
    refine ok_i (fun h1 => ?_) (fun h1 => ?_)
    · exact ok_r hQ
    · refine ok_b (o7_at_ 72 x1 hS hQ) (fun v4 w2 hQ2 => ?_)
      refine ok_b (o7_at_ 73 x1 hS hQ2) (fun v7 w5 hQ3 => ?_)
      refine ok_b (o7_sumIsJust x4 v4 v7 hS hQ3) (fun b10 w8 hQ4 => ?_)
      refine ok_jn (fun j => ∀ (y3_39 : Int32) (w11 : zW), Qc w0 w11 → Ok (j y3_39 w11) (fun _ w_ => Qc w0 w_)) ?_ ?_
      · intro y3_39 w11 hQ6
        exact ih y3_39 (x4 + (1 : Int32)) w11 hQ6 (by exact up_le hm (by first | decide | assumption | (subst_vars; exact le_sz hS (by assumption))) h1)
      · intro j11 hC5
        refine ok_i (fun h7 => ?_) (fun h7 => ?_)
        · exact hC5 (x3 + (1 : Int32)) w8 hQ4
        · exact hC5 x3 w8 hQ4
theorem o7_sumsLike (a1 : Int32) (a2 : Int32) {w0 w : zW} (hS : Sz w0) (hQ : Qc w0 w) (hs1 : a2 ≤ 1000000) : Ok (fX7_sumsLike a1 a2 w) (fun _ w_ => Qc w0 w_) := by
  unfold fX7_sumsLike
  exact o7_sumsLike_L5 a1 a2 hS (by first | decide | assumption | (subst_vars; exact le_sz hS (by assumption))) zFU (0 : Int32) a1 w hQ (up_z a1)
theorem o7_unlike_L28 (r2 : Nat) {w0 : zW} (hS : Sz w0) (hs0 : isLn r2) : ∀ (n : Nat) (x3 : Int32) (x4 : Int32) (x5 : Int32) (x6 : Int32) (w : zW), Qc w0 w → Up x6 n → Ok (fX7_unlike_L28 r2 n x3 x4 x5 x6 w) (fun _ w_ => Qc w0 w_) := by
  intro n
  induction n with
  | zero => intro x3 x4 x5 x6 w hQ hm; exact (up_0 hm).elim
  | succ n ih =>
    intro x3 x4 x5 x6 w hQ hm
    rw [fX7_unlike_L28.eq_2]
    refine ok_b (o1_size hS hs0 hQ) ?_
    rintro v10 w8 ⟨he2, hQ1⟩
    refine ok_i (fun h3 => ?_) (fun h3 => ?_)
    · refine ok_lv (fun w12 ew5 => ?_)
      have hQ4 : Qc w0 w12 := by rw [ew5]; exact q_I (k := 0) (j := 8) (v := (0 : Int32)) hQ1 (by first | exact hs0 _ | exact zR_c _ _ _ | rfl)
      refine ok_i (fun h6 => ?_) (fun h6 => ?_)
      · exact ok_r hQ4
      · refine ok_b (o7_at_ 72 x5 hS hQ4) (fun v16 w14 hQ7 => ?_)
        refine ok_b (o7_at_ 73 x5 hS hQ7) (fun v19 w17 hQ8 => ?_)
        refine ok_b (o7_tell__ v16 v19 (x4).toInt64 hS hQ8) (fun _ w20 hQ9 => ?_)
        exact ok_r hQ9
    · refine ok_b (o7_firstSumLike x6 hS hQ1) (fun v25 w23 hQ10 => ?_)
      refine ok_jn (fun j => ∀ (y3_88 : Int32) (y4_88 : Int32) (y5_88 : Int32) (w26 : zW), Qc w0 w26 → Ok (j y3_88 y4_88 y5_88 w26) (fun _ w_ => Qc w0 w_)) ?_ ?_
      · intro y3_88 y4_88 y5_88 w26 hQ12
        exact ih y3_88 y4_88 y5_88 (x6 + (1 : Int32)) w26 hQ12 (by exact up_le hm (by first | decide | assumption | (subst_vars; exact le_sz hS (by assumption))) h3)
      · intro j26 hC11
        refine ok_i (fun h13 => ?_) (fun h13 => ?_)
        · exact hC11 x3 x4 x5 w23 hQ10
        · refine ok_b (o1_size hS hs0 hQ10) ?_
          rintro v30 w28 ⟨he15, hQ14⟩
          refine ok_b (o7_sumsLike x6 v30 hS hQ14 (by first | decide | assumption | (subst_vars; exact le_sz hS (by assumption)))) (fun v33 w31 hQ16 => ?_)
          refine ok_lv (fun v35 ev17 => ?_)
          refine ok_lv (fun v36 ev18 => ?_)
          exact hC11 (x3 + (1 : Int32)) v36 v35 w31 hQ16
theorem o7_unlike (a1 : Int32) {w0 w : zW} (hS : Sz w0) (hQ : Qc w0 w) : Ok (fX7_unlike a1 w) (fun _ w_ => Qc w0 w_) := by
  unfold fX7_unlike
  refine ok_b (o7_lineAt a1 hQ) ?_
  rintro o3 w1 ⟨hl2, hQ1⟩
  refine ok_o (fun e3 => ?_) (fun l4 e3 => ?_)
  · exact ok_r hQ1
  · refine ok_b (o7_sumFirsts l4 hS hQ1 (hl2 _ e3)) (fun _ w5 hQ4 => ?_)
    exact o7_unlike_L28 l4 hS (hl2 _ e3) zFU (0 : Int32) (0 : Int32) (0 : Int32) (1 : Int32) w5 hQ4 (up_z (1 : Int32))
theorem o1_markOf (h0 : Nat) (a1 : Int32) {w0 w : zW} (hS : Sz w0) (hQ : Qc w0 w) : Ok (fX1_markOf h0 a1 w) (fun _ w_ => Qc w0 w_) := by
  unfold fX1_markOf
  refine ok_b (o1_endOf h0 a1 hS hQ) (fun v3 w1 hQ1 => ?_)
  refine ok_b (o1_pile h0 v3 hS hQ1) (fun v6 w4 hQ2 => ?_)
  refine ok_b (o1_heightOf h0 a1 hS hQ2) (fun v9 w7 hQ3 => ?_)
  refine ok_b (o7_at (v6 + 4) v9 hS hQ3) (fun v12 w10 hQ4 => ?_)
  exact ok_r hQ4
theorem o2_has (h0 : Nat) (a1 : Int32) (a2 : Int32) {w0 w : zW} (hS : Sz w0) (hQ : Qc w0 w) : Ok (fX2_has h0 a1 a2 w) (fun _ w_ => Qc w0 w_) := by
  unfold fX2_has
  refine ok_i (fun h1 => ?_) (fun h1 => ?_)
  · exact ok_r hQ
  · refine ok_i (fun h2 => ?_) (fun h2 => ?_)
    · exact ok_r hQ
    · refine ok_b (o7_at (h0 + 4) a1 hS hQ) (fun v5 w3 hQ3 => ?_)
      refine ok_i (fun h4 => ?_) (fun h4 => ?_)
      · exact ok_r hQ3
      · exact ok_r hQ3
theorem o1_hasCell (h0 : Nat) (a1 : Int32) (a2 : Int32) (a3 : Int32) {w0 w : zW} (hS : Sz w0) (hQ : Qc w0 w) : Ok (fX1_hasCell h0 a1 a2 a3 w) (fun _ w_ => Qc w0 w_) := by
  unfold fX1_hasCell
  refine ok_b (o1_pile h0 a1 hS hQ) (fun v3 w1 hQ1 => ?_)
  refine ok_b (o2_has v3 a2 a3 hS hQ1) (fun b6 w4 hQ2 => ?_)
  exact ok_r hQ2
theorem o1_cellsSharedWith_L4 (r0 : Nat) (r1 : Nat) {w0 : zW} (hS : Sz w0) (hs0 : isLn r0) : ∀ (n : Nat) (x2 : Int32) (x3 : Int32) (w : zW), Qc w0 w → Up x3 n → Ok (fX1_cellsSharedWith_L4 r0 r1 n x2 x3 w) (fun _ w_ => Qc w0 w_) := by
  intro n
  induction n with
  | zero => intro x2 x3 w hQ hm; exact (up_0 hm).elim
  | succ n ih =>
    intro x2 x3 w hQ hm
    rw [fX1_cellsSharedWith_L4.eq_2]
    refine ok_b (o1_size hS hs0 hQ) ?_
    rintro v3 w1 ⟨he2, hQ1⟩
    refine ok_i (fun h3 => ?_) (fun h3 => ?_)
    · exact ok_r hQ1
    · refine ok_b (o1_endOf r0 x3 hS hQ1) (fun v7 w5 hQ4 => ?_)
      refine ok_b (o1_heightOf r0 x3 hS hQ4) (fun v10 w8 hQ5 => ?_)
      refine ok_b (o1_markOf r0 x3 hS hQ5) (fun v13 w11 hQ6 => ?_)
      refine ok_b (o1_hasCell r1 v7 v10 v13 hS hQ6) (fun b16 w14 hQ7 => ?_)
      refine ok_lv (fun v18 ev8 => ?_)
      refine ok_lv (fun v19 ev9 => ?_)
      exact ih v19 (x3 + (1 : Int32)) w14 hQ7 (by exact up_n hm h3)
theorem o1_cellsSharedWith (h0 : Nat) (r1 : Nat) {w0 w : zW} (hS : Sz w0) (hQ : Qc w0 w) (hs0 : isLn h0) : Ok (fX1_cellsSharedWith h0 r1 w) (fun _ w_ => Qc w0 w_) := by
  unfold fX1_cellsSharedWith
  exact o1_cellsSharedWith_L4 h0 r1 hS hs0 zFU (0 : Int32) (0 : Int32) w hQ (up_z (0 : Int32))
theorem o1_hasItemsOf_L19 (r0 : Nat) (r1 : Nat) {w0 : zW} (hS : Sz w0) (hs0 : isLn r0) : ∀ (n : Nat) (x2 : Int32) (x3 : Int32) (w : zW), Qc w0 w → Up x3 n → Ok (fX1_hasItemsOf_L19 r0 r1 n x2 x3 w) (fun _ w_ => Qc w0 w_) := by
  intro n
  induction n with
  | zero => intro x2 x3 w hQ hm; exact (up_0 hm).elim
  | succ n ih =>
    intro x2 x3 w hQ hm
    rw [fX1_hasItemsOf_L19.eq_2]
    refine ok_b (o1_size hS hs0 hQ) ?_
    rintro v11 w9 ⟨he2, hQ1⟩
    refine ok_i (fun h3 => ?_) (fun h3 => ?_)
    · exact ok_r hQ1
    · refine ok_i (fun h4 => ?_) (fun h4 => ?_)
      · exact ok_r hQ1
      · refine ok_b (o1_itemAt r0 x3 hS hQ1) (fun v16 w14 hQ5 => ?_)
        refine ok_b (o1_itemAt r1 x3 hS hQ5) (fun v19 w17 hQ6 => ?_)
        refine ok_lv (fun v21 ev7 => ?_)
        exact ih v21 (x3 + (1 : Int32)) w17 hQ6 (by exact up_n hm h3)
theorem o1_hasItemsOf (h0 : Nat) (r1 : Nat) {w0 w : zW} (hS : Sz w0) (hQ : Qc w0 w) (hs0 : isLn h0) (hs1 : isLn r1) : Ok (fX1_hasItemsOf h0 r1 w) (fun _ w_ => Qc w0 w_) := by
  unfold fX1_hasItemsOf
  refine ok_b (o1_size hS hs0 hQ) ?_
  rintro v3 w1 ⟨he2, hQ1⟩
  refine ok_b (o1_size hS hs1 hQ1) ?_
  rintro v6 w4 ⟨he4, hQ3⟩
  refine ok_lv (fun v8 ev5 => ?_)
  exact o1_hasItemsOf_L19 h0 r1 hS hs0 zFU v8 (0 : Int32) w4 hQ3 (up_z (0 : Int32))
theorem o7_same (a1 : Int32) (a2 : Int32) {w0 w : zW} (hS : Sz w0) (hQ : Qc w0 w) : Ok (fX7_same a1 a2 w) (fun _ w_ => Qc w0 w_) := by
  unfold fX7_same
  refine ok_b (o7_lineAt a1 hQ) ?_
  rintro o3 w1 ⟨hl2, hQ1⟩
  refine ok_o (fun e3 => ?_) (fun l4 e3 => ?_)
  · refine ok_b (o7_lineAt a2 hQ1) ?_
    rintro o7 w5 ⟨hl5, hQ4⟩
    refine ok_o (fun e6 => ?_) (fun l8 e6 => ?_)
    · exact ok_r hQ4
    · exact ok_r hQ4
  · refine ok_b (o7_lineAt a2 hQ1) ?_
    rintro o11 w9 ⟨hl8, hQ7⟩
    refine ok_o (fun e9 => ?_) (fun l12 e9 => ?_)
    · exact ok_r hQ7
    · refine ok_b (o1_size hS (hl2 _ e3) hQ7) ?_
      rintro v15 w13 ⟨he11, hQ10⟩
      refine ok_b (o7_sumUp l4 (0 : Int32) v15 hS hQ10) (fun _ w16 hQ12 => ?_)
      refine ok_lv (fun v19 ev13 => ?_)
      refine ok_lv (fun v20 ev14 => ?_)
      refine ok_b (o1_size hS (hl8 _ e9) hQ12) ?_
      rintro v23 w21 ⟨he16, hQ15⟩
      refine ok_b (o7_sumUp l12 (0 : Int32) v23 hS hQ15) (fun _ w24 hQ17 => ?_)
      refine ok_b (o0_comesTo v19 v20 hS hQ17) (fun b29 w27 hQ18 => ?_)
      refine ok_jn (fun j => ∀ (s_84 : Int64) (w30 : zW), Qc w0 w30 → Ok (j s_84 w30) (fun _ w_ => Qc w0 w_)) ?_ ?_
      · intro s_84 w30 hQ20
        refine ok_b (o1_cellsSharedWith l4 l12 hS hQ20 (hl2 _ e3)) (fun v33 w31 hQ21 => ?_)
        refine ok_b (o7_tell_ s_84 (v33).toInt64 hS hQ21) (fun _ w34 hQ22 => ?_)
        refine ok_b (o1_hasItemsOf l4 l12 hS hQ22 (hl2 _ e3) (hl8 _ e9)) (fun b39 w37 hQ23 => ?_)
        refine ok_i (fun h24 => ?_) (fun h24 => ?_)
        · exact ok_r hQ23
        · exact ok_r hQ23
      · intro j30 hC19
        refine ok_i (fun h25 => ?_) (fun h25 => ?_)
        · exact hC19 (1 : Int64) w27 hQ18
        · exact hC19 (0 : Int64) w27 hQ18
theorem o7_linesWithCell_L6 (r1 : Nat) (x2 : Int32) (x3 : Int32) {w0 : zW} (hS : Sz w0) : ∀ (n : Nat) (x4 : Int32) (x5 : Int32) (w : zW), Qc w0 w → Up x5 n → Ok (fX7_linesWithCell_L6 r1 x2 x3 n x4 x5 w) (fun _ w_ => Qc w0 w_) := by
  intro n
  induction n with
  | zero => intro x4 x5 w hQ hm; exact (up_0 hm).elim
  | succ n ih =>
    intro x4 x5 w hQ hm
    rw [fX7_linesWithCell_L6.eq_2]
    refine ok_i (fun h1 => ?_) (fun h1 => ?_)
    · exact ok_r hQ
    · refine ok_b (o7_lineAt x5 hQ) ?_
      rintro o4 w2 ⟨hl3, hQ2⟩
      refine ok_o (fun e4 => ?_) (fun l5 e4 => ?_)
      · refine ok_jn (fun j => ∀ (s_55 : Int32) (w6 : zW), Qc w0 w6 → Ok (j s_55 w6) (fun _ w_ => Qc w0 w_)) ?_ ?_
        · intro s_55 w6 hQ6
          refine ok_lv (fun v7 ev7 => ?_)
          exact ih v7 (x5 + (1 : Int32)) w6 hQ6 (by exact up_n hm h1)
        · intro j6 hC5
          refine ok_jn (fun j => ∀ (w8 : zW), Qc w0 w8 → Ok (j w8) (fun _ w_ => Qc w0 w_)) ?_ ?_
          · intro w8 hQ9
            exact hC5 (0 : Int32) w8 hQ9
          · intro j8 hC8
            exact hC8 w2 hQ2
      · refine ok_jn (fun j => ∀ (s_55 : Int32) (w9 : zW), Qc w0 w9 → Ok (j s_55 w9) (fun _ w_ => Qc w0 w_)) ?_ ?_
        · intro s_55 w9 hQ11
          refine ok_lv (fun v10 ev12 => ?_)
          exact ih v10 (x5 + (1 : Int32)) w9 hQ11 (by exact up_n hm h1)
        · intro j9 hC10
          refine ok_jn (fun j => ∀ (w11 : zW), Qc w0 w11 → Ok (j w11) (fun _ w_ => Qc w0 w_)) ?_ ?_
          · intro w11 hQ14
            exact hC10 (0 : Int32) w11 hQ14
          · intro j11 hC13
            refine ok_b (o1_endOf r1 x2 hS hQ2) (fun v14 w12 hQ15 => ?_)
            refine ok_b (o1_heightOf r1 x2 hS hQ15) (fun v17 w15 hQ16 => ?_)
            refine ok_b (o1_markOf r1 x2 hS hQ16) (fun v20 w18 hQ17 => ?_)
            refine ok_b (o1_hasCell l5 v14 v17 v20 hS hQ17) (fun b23 w21 hQ18 => ?_)
            refine ok_i (fun h19 => ?_) (fun h19 => ?_)
            · exact hC10 (1 : Int32) w21 hQ18
            · exact hC13 w21 hQ18
theorem o7_linesWithCell (r1 : Nat) (a2 : Int32) (a3 : Int32) {w0 w : zW} (hS : Sz w0) (hQ : Qc w0 w) : Ok (fX7_linesWithCell r1 a2 a3 w) (fun _ w_ => Qc w0 w_) := by
  unfold fX7_linesWithCell
  exact o7_linesWithCell_L6 r1 a2 a3 hS zFU (0 : Int32) (0 : Int32) w hQ (up_z (0 : Int32))
theorem o7_shared_L47b (x3 : Int32) (x4 : Int32) (r5 : Nat) (x6 : Int32) {w0 : zW} (hS : Sz w0) {j9 : Int32 → Int32 → Int32 → Int32 → zW → Option (Int32 × zW)} (hj9 : ∀ (c0 : Int32) (c1 : Int32) (w_ : zW), Qc w0 w_ → Ok (j9 c0 c1 x3 (x4 + (1 : Int32)) w_) (fun _ w_ => Qc w0 w_)) : ∀ (n : Nat) (x1 : Int32) (x2 : Int32) (x7 : Int32) (w : zW), Qc w0 w → Up x7 n → Ok (fX7_shared_L47b x3 x4 r5 x6 j9 n x1 x2 x7 w) (fun _ w_ => Qc w0 w_) := by
  intro n
  induction n with
  | zero => intro x1 x2 x7 w hQ hm; exact (up_0 hm).elim
  | succ n ih =>
    intro x1 x2 x7 w hQ hm
    rw [fX7_shared_L47b.eq_2]
    refine ok_i (fun h1 => ?_) (fun h1 => ?_)
    · exact hj9 x1 x2 w hQ
    · refine ok_b (o7_linesWithCell r5 x7 (4 : Int32) hS hQ) (fun v17 w15 hQ2 => ?_)
      refine ok_b (o7_linesWithCell r5 x7 x4 hS hQ2) (fun v20 w18 hQ3 => ?_)
      refine ok_lv (fun v22 ev4 => ?_)
      refine ok_lv (fun v23 ev5 => ?_)
      refine ok_lv (fun v26 ev6 => ?_)
      refine ok_lv (fun v27 ev7 => ?_)
      exact ih v23 v27 (x7 + (1 : Int32)) w18 hQ3 (by exact up_n hm h1)
theorem o7_shared_L9 {w0 : zW} (hS : Sz w0) : ∀ (n : Nat) (x1 : Int32) (x2 : Int32) (x3 : Int32) (x4 : Int32) (w : zW), Qc w0 w → Up x4 n → Ok (fX7_shared_L9 n x1 x2 x3 x4 w) (fun _ w_ => Qc w0 w_) := by
  intro n
  induction n with
  | zero => intro x1 x2 x3 x4 w hQ hm; exact (up_0 hm).elim
  | succ n ih =>
    intro x1 x2 x3 x4 w hQ hm
    rw [fX7_shared_L9.eq_2]
    refine ok_i (fun h1 => ?_) (fun h1 => ?_)
    · refine ok_b (o7_tell_ _ _ hS hQ) (fun _ w2 hQ2 => ?_)
      exact ok_r hQ2
    · refine ok_b (o7_lineAt x4 hQ) ?_
      rintro o7 w5 ⟨hl, hQ5⟩
      refine ok_o (fun e => ?_) (fun l8 e => ?_)
      · refine ok_l ?_
        refine ok_l ?_
        rw [zFU_s, fX7_shared_L47.eq_2, if_pos (Int32.le_refl _)]
        exact ih _ _ _ _ _ hQ5 (up_n hm h1)
      · have hll := hl _ e
        refine ok_jn (fun j => ∀ (s : Int32) (w12 : zW), Qc w0 w12 → Ok (j s w12) (fun _ w_ => Qc w0 w_)) ?_ ?_
        · intro s w12 hQ12
          refine ok_l ?_
          exact o7_shared_L47b _ x4 l8 s hS (fun c0 c1 cw q_ => ih _ _ _ _ cw q_ (up_n hm h1)) zFU x1 x2 0 w12 hQ12 (up_z 0)
        · intro j12 hC
          refine ok_b (o1_size hS hll hQ5) ?_
          rintro v30 w28 ⟨he, hQ28⟩
          exact hC _ _ hQ28
theorem o7_shared  {w0 w : zW} (hS : Sz w0) (hQ : Qc w0 w) : Ok (fX7_shared  w) (fun _ w_ => Qc w0 w_) := by
  unfold fX7_shared
  exact o7_shared_L9  hS zFU (0 : Int32) (0 : Int32) (0 : Int32) (0 : Int32) w hQ (up_z (0 : Int32))
theorem o7_isEnd (a0 : Int32) {w0 w : zW} (hS : Sz w0) (hQ : Qc w0 w) : Ok (fX7_isEnd a0 w) (fun _ w_ => Qc w0 w_) := by
  unfold fX7_isEnd
  refine ok_i (fun h1 => ?_) (fun h1 => ?_)
  · exact ok_r hQ
  · refine ok_i (fun h2 => ?_) (fun h2 => ?_)
    · exact ok_r hQ
    · exact ok_r hQ
theorem o7_would (a1 : Int32) (a2 : Int32) {w0 w : zW} (hS : Sz w0) (hQ : Qc w0 w) : Ok (fX7_would a1 a2 w) (fun _ w_ => Qc w0 w_) := by
  unfold fX7_would
  refine ok_b (o7_lineAt a1 hQ) ?_
  rintro o3 w1 ⟨hl2, hQ1⟩
  refine ok_o (fun e3 => ?_) (fun l4 e3 => ?_)
  · exact ok_r hQ1
  · refine ok_b (o7_isEnd a2 hS hQ1) (fun b7 w5 hQ4 => ?_)
    refine ok_i (fun h5 => ?_) (fun h5 => ?_)
    · refine ok_b (o1_size hS (hl2 _ e3) hQ4) ?_
      rintro v11 w9 ⟨he7, hQ6⟩
      refine ok_i (fun h8 => ?_) (fun h8 => ?_)
      · refine ok_b (o1_size hS (hl2 _ e3) hQ6) ?_
        rintro v15 w13 ⟨he10, hQ9⟩
        refine ok_b (o4_frontBehind (zI w9 (l4 + 1) 0) v15 a2 hS hQ9) (fun v18 w16 hQ11 => ?_)
        refine ok_b (o1_size hS (hl2 _ e3) hQ11) ?_
        rintro v21 w19 ⟨he13, hQ12⟩
        refine ok_b (o7_tell_ (v18).toInt64 ((v21 - (1 : Int32)) - v18).toInt64 hS hQ12) (fun _ w22 hQ14 => ?_)
        refine ok_b (o1_size hS (hl2 _ e3) hQ14) ?_
        rintro v27 w25 ⟨he16, hQ15⟩
        refine ok_b (o4_cost (zI w22 (l4 + 1) 0) v27 a2 hS hQ15) (fun v30 w28 hQ17 => ?_)
        exact ok_r hQ17
      · exact ok_r hQ6
    · exact ok_r hQ4
theorem o4_forget_L2 (r0 : Nat) {w0 : zW} (hS : Sz w0) (hs0 : ∀ i, cI r0 i = false) : ∀ (n : Nat) (x1 : Int32) (w : zW) (hQ : Qc w0 w) (hm : Up x1 n) (h0 : ¬ x1 < 0 := by decide), Ok (fX4_forget_L2 r0 n x1 w) (fun _ w_ => Qc w0 w_) := by
  intro n
  induction n with
  | zero => intro x3 w hQ hm h0; exact (up_0 hm).elim
  | succ n ih =>
    intro x1 w hQ hm h0
    rw [fX4_forget_L2.eq_2]
    refine ok_i (fun h1 => ok_r hQ) (fun h1 => ?_)
    refine ok_g (zin_ok (zlen_lt _) h0 h1) ?_
    refine ok_l ?_
    exact ih _ _ (q_I hQ (hs0 _)) (up_n hm h1) (pos_1 h0 h1)
theorem o4_forget (r0 : Nat) {w0 w : zW} (hS : Sz w0) (hQ : Qc w0 w) (hs0 : ∀ i, cI r0 i = false) : Ok (fX4_forget r0 w) (fun _ w_ => Qc w0 w_) := by
  unfold fX4_forget
  exact o4_forget_L2 r0 hS (by first | assumption | exact fun i => zR_c _ _ i | exact fun i => rfl | exact fun i => cI_f (by omega) i) zFU (0 : Int32) w hQ (up_z (0 : Int32))
theorem o7_set (r0 : Nat) (a1 : Int32) (a2 : Int32) {w0 w : zW} (hS : Sz w0) (hQ : Qc w0 w) (hs0 : ∀ i, cI r0 i = false) : Ok (fX7_set r0 a1 a2 w) (fun _ w_ => Qc w0 w_) := by
  unfold fX7_set
  refine ok_i (fun h1 => ?_) (fun h1 => ?_)
  · exact ok_r hQ
  · refine ok_i (fun h2 => ?_) (fun h2 => ?_)
    · exact ok_r hQ
    · refine ok_g (by apply zin_ok (zlen_lt _) <;> first | assumption | (apply Int32.not_le.mpr; assumption)) ?_
      refine ok_lv (fun w3 ew4 => ?_)
      have hQ3 : Qc w0 w3 := by rw [ew4]; exact q_I (k := r0) (j := a1.toNatClampNeg) (v := a2) hQ (by first | exact hs0 _ | exact zR_c _ _ _ | rfl)
      exact ok_r hQ3
theorem o4_choose_L12 (x1 : Int32) {w0 : zW} (hS : Sz w0) (hs0 : x1 ≤ 1000000) : ∀ (n : Nat) (x2 : Int32) (w : zW), Qc w0 w → Up x2 n → Ok (fX4_choose_L12 x1 n x2 w) (fun _ w_ => Qc w0 w_) := by
  intro n
  induction n with
  | zero => intro x2 w hQ hm; exact (up_0 hm).elim
  | succ n ih =>
    intro x2 w hQ hm
    rw [fX4_choose_L12.eq_2]
    refine ok_i (fun h1 => ?_) (fun h1 => ?_)
    · exact ok_r hQ
    · refine ok_b (o7_at (zR w 0) x2 hS hQ) (fun v6 w4 hQ2 => ?_)
      refine ok_jn (fun j => ∀ (w7 : zW), Qc w0 w7 → Ok (j w7) (fun _ w_ => Qc w0 w_)) ?_ ?_
      · intro w7 hQ4
        exact ih (x2 + (1 : Int32)) w7 hQ4 (by exact up_le hm (by first | decide | assumption | (subst_vars; exact le_sz hS (by assumption))) h1)
      · intro j7 hC3
        refine ok_jn (fun j => ∀ (w8 : zW), Qc w0 w8 → Ok (j w8) (fun _ w_ => Qc w0 w_)) ?_ ?_
        · intro w8 hQ6
          refine ok_lv (fun w9 ew8 => ?_)
          have hQ7 : Qc w0 w9 := by rw [ew8]; exact q_I (k := 66) (j := 4) (v := v6) hQ6 (by first | exact hs0 _ | exact zR_c _ _ _ | rfl)
          refine ok_b (o7_at (zR w9 1) x2 hS hQ7) (fun v12 w10 hQ9 => ?_)
          refine ok_lv (fun w13 ew11 => ?_)
          have hQ10 : Qc w0 w13 := by rw [ew11]; exact q_I (k := 66) (j := 5) (v := v12) hQ9 (by first | exact hs0 _ | exact zR_c _ _ _ | rfl)
          exact hC3 w13 hQ10
        · intro j8 hC5
          refine ok_i (fun h12 => ?_) (fun h12 => ?_)
          · exact hC5 w4 hQ2
          · refine ok_i (fun h13 => ?_) (fun h13 => ?_)
            · exact hC3 w4 hQ2
            · refine ok_b (o7_at (zR w4 1) x2 hS hQ2) (fun v18 w16 hQ14 => ?_)
              refine ok_i (fun h15 => ?_) (fun h15 => ?_)
              · exact hC3 w16 hQ14
              · exact hC5 w16 hQ14
theorem o4_choose (a1 : Int32) {w0 w : zW} (hS : Sz w0) (hQ : Qc w0 w) (hs0 : a1 ≤ 1000000) : Ok (fX4_choose a1 w) (fun _ w_ => Qc w0 w_) := by
  unfold fX4_choose
  refine ok_lv (fun w1 ew2 => ?_)
  have hQ1 : Qc w0 w1 := by rw [ew2]; exact q_I (k := 66) (j := 4) (v := (-1 : Int32)) hQ (by first | exact hs0 _ | exact zR_c _ _ _ | rfl)
  refine ok_lv (fun w2 ew4 => ?_)
  have hQ3 : Qc w0 w2 := by rw [ew4]; exact q_I (k := 66) (j := 5) (v := (0 : Int32)) hQ1 (by first | exact hs0 _ | exact zR_c _ _ _ | rfl)
  exact o4_choose_L12 a1 hS (by first | decide | assumption | (subst_vars; exact le_sz hS (by assumption))) zFU (0 : Int32) w2 hQ3 (up_z (0 : Int32))
theorem zR_s (w : zW) (j i : Nat) (t : Nat) (h : 67 ≤ t) (h2 : t ≤ 70) : zR (zsR w j t) i = if i = j then t else zR w i := by
  unfold zR zsR
  by_cases c : i = j
  · rw [if_pos c]
    show 67 + (if i = j then t + 1 else w.2.2 i) % 4 = t
    rw [if_pos c]; omega
  · rw [if_neg c]
    show 67 + (if i = j then t + 1 else w.2.2 i) % 4 = _
    rw [if_neg c]
theorem zR_b (w : zW) (j : Nat) : 67 ≤ zR w j ∧ zR w j ≤ 70 := by unfold zR; omega
def swW (w : zW) : zW := zsR (zsR (zsR (zsR w 0 (zR w 2)) 1 (zR w 3)) 2 (zR w 0)) 3 (zR w 1)
theorem swW_R (w : zW) : zR (swW w) 0 = zR w 2 ∧ zR (swW w) 1 = zR w 3 ∧ zR (swW w) 2 = zR w 0 ∧ zR (swW w) 3 = zR w 1 := by
  have b := zR_b w
  unfold swW
  refine ⟨?_, ?_, ?_, ?_⟩ <;> simp [zR_s, b]
theorem swap_s (w : zW) : fX4_swap w = some ((), swW w) := by
  have b := zR_b w
  have e : zR (zsR w 0 (zR w 2)) 3 = zR w 3 := by rw [zR_s w 0 3 _ (b 2).1 (b 2).2, if_neg (by decide)]
  rw [fX4_swap, lt_e, lt_e, lt_e, lt_e, e]; rfl
theorem swW_Q {w0 w : zW} (hQ : Qc w0 w) : Qc w0 (swW w) := by
  refine ⟨hQ.1, hQ.2.1, fun h => ?_⟩
  have q := hQ.2.2 h
  have e := swW_R w
  unfold PR
  rw [e.1, e.2.1, e.2.2.1, e.2.2.2]
  rcases q with ⟨a, b, c, d⟩ | ⟨a, b, c, d⟩
  · exact .inr ⟨c, d, a, b⟩
  · exact .inl ⟨c, d, a, b⟩
theorem o4_swap  {w0 w : zW} (hS : Sz w0) (hQ : Qc w0 w) : Ok (fX4_swap  w) (fun _ w_ => Qc w0 w_) := by
  rw [swap_s]; exact ok_r (swW_Q hQ)
theorem o4_offer (a1 : Int32) (a2 : Int32) (a3 : Int32) (a4 : Int32) {w0 w : zW} (hS : Sz w0) (hQ : Qc w0 w) : Ok (fX4_offer a1 a2 a3 a4 w) (fun _ w_ => Qc w0 w_) := by
  unfold fX4_offer
  refine ok_b (o4_frontBehind a1 a2 a4 hS hQ) (fun v3 w1 hQ1 => ?_)
  refine ok_b (o7_at (zR w1 0) a1 hS hQ1) (fun v6 w4 hQ2 => ?_)
  refine ok_b (o4_cost a1 a2 a4 hS hQ2) (fun v9 w7 hQ3 => ?_)
  refine ok_lv (fun v10 ev4 => ?_)
  refine ok_b (o7_at (zR w7 1) a1 hS hQ3) (fun v13 w11 hQ5 => ?_)
  refine ok_lv (fun v14 ev6 => ?_)
  refine ok_b (o7_at (zR w11 2) v3 hS hQ5) (fun v17 w15 hQ7 => ?_)
  refine ok_jn (fun j => ∀ (w18 : zW), Qc w0 w18 → Ok (j w18) (fun _ w_ => Qc w0 w_)) ?_ ?_
  · intro w18 hQ9
    refine ok_b (o7_set (zR w18 2) v3 v10 hS hQ9 (by first | assumption | exact fun i => zR_c _ _ i | exact fun i => rfl | exact fun i => cI_f (by omega) i)) (fun _ w19 hQ10 => ?_)
    refine ok_b (o7_set (zR w19 3) v3 v14 hS hQ10 (by first | assumption | exact fun i => zR_c _ _ i | exact fun i => rfl | exact fun i => cI_f (by omega) i)) (fun _ w22 hQ11 => ?_)
    exact ok_r hQ11
  · intro j18 hC8
    refine ok_i (fun h12 => ?_) (fun h12 => ?_)
    · exact hC8 w15 hQ7
    · refine ok_b (o7_at (zR w15 2) v3 hS hQ7) (fun v28 w26 hQ13 => ?_)
      refine ok_i (fun h14 => ?_) (fun h14 => ?_)
      · exact ok_r hQ13
      · refine ok_b (o7_at (zR w26 3) v3 hS hQ13) (fun v32 w30 hQ15 => ?_)
        refine ok_i (fun h16 => ?_) (fun h16 => ?_)
        · exact ok_r hQ15
        · exact hC8 w30 hQ15
theorem o4_seek_L44 (x2 : Int32) (x3 : Int32) (x4 : Int32) {w0 : zW} (hS : Sz w0) (hb : x2 - x4 ≤ 1000000) {j28 : Int32 → zW → Option (Unit × zW)} (hj28 : ∀  (w_ : zW), Qc w0 w_ → Ok (j28 (x4 + (1 : Int32)) w_) (fun _ w_ => Qc w0 w_)) : ∀ (n : Nat) (x5 : Int32) (w : zW), Qc w0 w → Up x5 n → Ok (fX4_seek_L44 x2 x3 x4 j28 n x5 w) (fun _ w_ => Qc w0 w_) := by
  intro n
  induction n with
  | zero => intro x5 w hQ hm; exact (up_0 hm).elim
  | succ n ih =>
    intro x5 w hQ hm
    rw [fX4_seek_L44.eq_2]
    refine ok_i (fun h1 => ?_) (fun h1 => ?_)
    · refine ok_b (o4_swap  hS hQ) (fun _ w18 hQ2 => ?_)
      exact hj28  w18 hQ2
    · refine ok_b (o7_at (zR w 0) x5 hS hQ) (fun v23 w21 hQ3 => ?_)
      refine ok_jn (fun j => ∀ (w24 : zW), Qc w0 w24 → Ok (j w24) (fun _ w_ => Qc w0 w_)) ?_ ?_
      · intro w24 hQ5
        exact ih (x5 + (1 : Int32)) w24 hQ5 (by exact up_le hm (by first | decide | assumption | (subst_vars; exact le_sz hS (by assumption))) h1)
      · intro j24 hC4
        refine ok_i (fun h6 => ?_) (fun h6 => ?_)
        · exact hC4 w21 hQ3
        · refine ok_b (o4_offer x5 (x2 - x4) x4 (0 : Int32) hS hQ3) (fun _ w26 hQ7 => ?_)
          refine ok_b (o4_offer x5 (x2 - x4) x4 (1 : Int32) hS hQ7) (fun _ w29 hQ8 => ?_)
          exact hC4 w29 hQ8
theorem sub_le {s k : Nat} (hs : s ≤ 64) (hk : k ≤ 64) : nI s - nI k ≤ 1000000 := by
  rw [Int32.le_iff_toInt_le, pk_sub_toInt (by omega) (by omega), show (1000000 : Int32).toInt = 1000000 from rfl]
  omega
theorem o4_seek_L28 {w0 : zW} (hS : Sz w0) {s t : Nat} (hs : s ≤ 64) (ht : t ≤ 64) : ∀ (n k : Nat) (w : zW), Qc w0 w → k ≤ t → t < k + n → Ok (fX4_seek_L28 (nI s) (nI t) n (nI k) w) (fun _ w_ => Qc w0 w_) := by
  intro n
  induction n with
  | zero => intro k w hQ h1 h2; omega
  | succ n ih =>
    intro k w hQ hk hn
    rw [fX4_seek_L28.eq_2]
    refine ok_i (fun h1 => ?_) (fun h1 => ?_)
    · refine ok_b (o4_choose _ hS hQ (sub_le hs ht)) (fun _ w2 hQ2 => ok_r hQ2)
    · have hlt : k < t := by
        by_cases e : k = t
        · subst e; exact absurd (Int32.le_refl _) h1
        · omega
      refine ok_b (o4_forget (zR w 2) hS hQ (fun i => zR_c _ _ i)) (fun _ w2 hQ2 => ?_)
      refine o4_seek_L44 (nI s) (nI t) (nI k) hS (sub_le hs (by omega)) (fun cw q_ => ?_) zFU 0 w2 hQ2 (up_z 0)
      rw [nI_1]
      exact ih (k + 1) cw q_ hlt (by omega)
theorem o4_seek (a1 a2 a3 : Int32) {w0 w : zW} (hS : Sz w0) (hQ : Qc w0 w) (hb : (∃ s, s ≤ 64 ∧ a2 = nI s) ∧ ¬ a3 < 1 ∧ a3 ≤ 12) : Ok (fX4_seek a1 a2 a3 w) (fun _ w_ => Qc w0 w_) := by
  obtain ⟨⟨s, hs, rfl⟩, h1, h2⟩ := hb
  rcases i01 (n := 12) (by decide) (Int32.not_lt.mpr h2) with q | ⟨t, ht, rfl⟩
  · exact absurd (Int32.lt_of_lt_of_le q (by decide)) h1
  unfold fX4_seek
  refine ok_b (o4_forget (zR w 0) hS hQ (fun i => zR_c _ _ i)) (fun _ w2 hQ2 => ?_)
  refine ok_b (o7_set _ _ _ hS hQ2 (fun i => zR_c _ _ i)) (fun _ w3 hQ3 => ?_)
  refine ok_b (o7_set _ _ _ hS hQ3 (fun i => zR_c _ _ i)) (fun _ w4 hQ4 => ?_)
  exact o4_seek_L28 hS hs (by omega) zFU 0 w4 hQ4 (by omega) (by rw [show zFU = 18446744073709551616 from rfl]; omega)
theorem o7_dearest (a1 : Int32) (a2 : Int32) {w0 w : zW} (hS : Sz w0) (hQ : Qc w0 w) : Ok (fX7_dearest a1 a2 w) (fun _ w_ => Qc w0 w_) := by
  unfold fX7_dearest
  refine ok_b (o7_lineAt a1 hQ) ?_
  rintro o3 w1 ⟨hl2, hQ1⟩
  refine ok_o (fun e3 => ?_) (fun l4 e3 => ?_)
  · exact ok_r hQ1
  · refine ok_i (fun h4 => ?_) (fun h4 => ?_)
    · exact ok_r hQ1
    · refine ok_i (fun h5 => ?_) (fun h5 => ?_)
      · refine ok_b (o1_size hS (hl2 _ e3) hQ1) ?_
        rintro v9 w7 ⟨he7, hQ6⟩
        refine ok_i (fun h8 => ?_) (fun h8 => ?_)
        · refine ok_b (o1_size hS (hl2 _ e3) hQ6) ?_
          rintro v13 w11 ⟨he10, hQ9⟩
          refine ok_b (o4_seek (zI w7 (l4 + 1) 0) v13 a2 hS hQ9 ⟨⟨_, (hS _ (hl2 _ e3)).2, by assumption⟩, by assumption, by assumption⟩) (fun _ w14 hQ11 => ?_)
          refine ok_b (o7_tell (zI w14 66 5).toInt64 hS hQ11) (fun _ w17 hQ12 => ?_)
          exact ok_r hQ12
        · exact ok_r hQ6
      · exact ok_r hQ1
theorem o7_count (a1 : Int32) {w0 w : zW} (hS : Sz w0) (hQ : Qc w0 w) : Ok (fX7_count a1 w) (fun _ w_ => Qc w0 w_) := by
  unfold fX7_count
  refine ok_i (fun h1 => ?_) (fun h1 => ?_)
  · refine ok_b (o7_lineAt a1 hQ) ?_
    rintro o4 w2 ⟨hl3, hQ2⟩
    refine ok_o (fun e4 => ?_) (fun l5 e4 => ?_)
    · exact ok_r hQ2
    · refine ok_b (o1_size hS (hl3 _ e4) hQ2) ?_
      rintro v8 w6 ⟨he6, hQ5⟩
      exact ok_r hQ5
  · refine ok_i (fun h7 => ?_) (fun h7 => ?_)
    · refine ok_b (o7_lineAt a1 hQ) ?_
      rintro o12 w10 ⟨hl9, hQ8⟩
      refine ok_o (fun e10 => ?_) (fun l13 e10 => ?_)
      · exact ok_r hQ8
      · refine ok_b (o1_size hS (hl9 _ e10) hQ8) ?_
        rintro v16 w14 ⟨he12, hQ11⟩
        exact ok_r hQ11
    · refine ok_i (fun h13 => ?_) (fun h13 => ?_)
      · refine ok_b (o7_lineAt a1 hQ) ?_
        rintro o20 w18 ⟨hl15, hQ14⟩
        refine ok_o (fun e16 => ?_) (fun l21 e16 => ?_)
        · exact ok_r hQ14
        · refine ok_b (o1_size hS (hl15 _ e16) hQ14) ?_
          rintro v24 w22 ⟨he18, hQ17⟩
          exact ok_r hQ17
      · refine ok_i (fun h19 => ?_) (fun h19 => ?_)
        · refine ok_b (o7_lineAt a1 hQ) ?_
          rintro o28 w26 ⟨hl21, hQ20⟩
          refine ok_o (fun e22 => ?_) (fun l29 e22 => ?_)
          · exact ok_r hQ20
          · refine ok_b (o1_size hS (hl21 _ e22) hQ20) ?_
            rintro v32 w30 ⟨he24, hQ23⟩
            exact ok_r hQ23
        · refine ok_i (fun h25 => ?_) (fun h25 => ?_)
          · exact ok_r hQ
          · refine ok_i (fun h26 => ?_) (fun h26 => ?_)
            · exact ok_r hQ
            · refine ok_i (fun h27 => ?_) (fun h27 => ?_)
              · exact ok_r hQ
              · refine ok_i (fun h28 => ?_) (fun h28 => ?_)
                · exact ok_r hQ
                · refine ok_i (fun h29 => ?_) (fun h29 => ?_)
                  · exact ok_r hQ
                  · refine ok_i (fun h30 => ?_) (fun h30 => ?_)
                    · exact ok_r hQ
                    · refine ok_i (fun h31 => ?_) (fun h31 => ?_)
                      · exact ok_r hQ
                      · exact ok_r hQ
theorem o7_item (a1 : Int32) (a2 : Int32) {w0 w : zW} (hS : Sz w0) (hQ : Qc w0 w) : Ok (fX7_item a1 a2 w) (fun _ w_ => Qc w0 w_) := by
  unfold fX7_item
  refine ok_b (o7_lineAt a1 hQ) ?_
  rintro o3 w1 ⟨hl2, hQ1⟩
  refine ok_o (fun e3 => ?_) (fun l4 e3 => ?_)
  · exact ok_r hQ1
  · refine ok_i (fun h4 => ?_) (fun h4 => ?_)
    · exact ok_r hQ1
    · refine ok_b (o1_size hS (hl2 _ e3) hQ1) ?_
      rintro v8 w6 ⟨he6, hQ5⟩
      refine ok_i (fun h7 => ?_) (fun h7 => ?_)
      · refine ok_b (o1_endOf l4 a2 hS hQ5) (fun v12 w10 hQ8 => ?_)
        refine ok_b (o1_heightOf l4 a2 hS hQ8) (fun v15 w13 hQ9 => ?_)
        refine ok_b (o1_pile l4 v12 hS hQ9) (fun v18 w16 hQ10 => ?_)
        refine ok_b (o7_at_ (v18 + 2) v15 hS hQ10) (fun v21 w19 hQ11 => ?_)
        refine ok_b (o7_at_ (v18 + 3) v15 hS hQ11) (fun v24 w22 hQ12 => ?_)
        refine ok_b (o7_tell___ (v12).toInt64 (((zI w16 v18 0) - (1 : Int32)) - v15).toInt64 v21 v24 hS hQ12) (fun _ w25 hQ13 => ?_)
        refine ok_b (o1_itemAt l4 a2 hS hQ13) (fun v30 w28 hQ14 => ?_)
        exact ok_r hQ14
      · exact ok_r hQ5
theorem o7_row (a1 : Int32) {w0 w : zW} (hS : Sz w0) (hQ : Qc w0 w) : Ok (fX7_row a1 w) (fun _ w_ => Qc w0 w_) := by
  unfold fX7_row
  refine ok_i (fun h1 => ?_) (fun h1 => ?_)
  · exact ok_r hQ
  · refine ok_i (fun h2 => ?_) (fun h2 => ?_)
    · exact ok_r hQ
    · refine ok_i (fun h3 => ?_) (fun h3 => ?_)
      · refine ok_g (by apply zin_ok (n := 128) (by decide) <;> first | assumption | (apply Int32.not_le.mpr; assumption)) ?_
        exact ok_r hQ
      · exact ok_r hQ
