set_option maxRecDepth 16384
section Q7
variable {J : aJ} {S : aS} {T : aT} {w w1 w2 : zW} {H H' : Nat → Int32} {w0 : zX}
theorem summary_2 (hW : jW J) (hS : sW J S) (h : uD w0 J S T H w) {j : Nat} (hj : j < 4) : Ok (fX8_summary (nI j) w) (fun _ w' => uD w0 J S T H w') :=
  ok_m (summary_s hW h (sW_B hS) (by omega) (sW_V hS (by omega)) (sW_V hS (by omega))) (fun _ _ a => a.1)
theorem same_46 (hW : jW J) (hS : sW J S) {j t : Nat} (hj : j < 4) (ht : t < 4) : ∀ m i N (x3 x4 : Int32) w, i + m = aN S j → m < N → (x3 = 0 ∨ aN S j = aN S t) → uD w0 J S T H w → Ok (fX8_same_L46 (nI j) (nI t) N x3 x4 (nI i) w) (fun _ w' => uD w0 J S T H w') := by
  have hz := hS.1 j hj
  have hzt := hS.1 t ht
  intro m
  induction m with
  | zero =>
    intro i N x3 x4 w hi hN hx h
    obtain ⟨N, rfl⟩ : ∃ k, N = k + 1 := ⟨N - 1, by omega⟩
    rw [fX8_same_L46.eq_2, sizeOf_s h (by omega), bd_s, if_pos (nI_le (by omega) (by omega))]
    refine ok_b (summary_2 hW hS h hj) (fun _ w2 a2 => ?_)
    rw [lt_e, lt_e]
    refine ok_b (summary_2 hW hS a2 ht) (fun _ w3 a3 => ?_)
    rw [lt_e]
    have fin : ∀ c : Int32, Ok (bd (fX8_flag c (zsI w3 74 1 0)) fun v34 w32 => bd (fX8_enters (v34).toInt64 w32) fun _ w35 => bd (fX8_enters (x4).toInt64 w35) fun _ w38 => bd (fX8_flag x3 w38) fun v43 w41 => some (v43, w41)) (fun _ w' => uD w0 J S T H w') := by
      intro c
      obtain ⟨b, eb⟩ := flag_t c (zsI w3 74 1 0)
      rw [eb, bd_s]
      refine ok_b (enters_s (n := 0) (uD_1 (v := 0) a3) rfl (by decide) _) (fun _ w4 a4 => ?_)
      refine ok_b (enters_s a4.1 a4.2 (by decide) _) (fun _ w5 a5 => ?_)
      obtain ⟨b2, eb2⟩ := flag_t x3 w5
      rw [eb2, bd_s]
      exact ok_r a5.1
    exact ok_i (fun _ => fin 0) (fun _ => ok_i (fun _ => fin 0) (fun _ => fin 1))
  | succ m ih =>
    intro i N x3 x4 w hi hN hx h
    obtain ⟨N, rfl⟩ : ∃ k, N = k + 1 := ⟨N - 1, by omega⟩
    have hp := pH_l (show i < aN S j by omega)
    have hk : pK S j i < 10 := pK_b (by omega)
    have hq : sZ S (pK S j i) ≤ 64 := pK_64 hz
    rw [fX8_same_L46.eq_2, sizeOf_s h (by omega), bd_s, if_neg (Int32.not_le.mpr (nI_lt (by omega) (by omega))), lt_e, lt_e]
    have go : ∀ s, (s = 0 ∨ aN S j = aN S t) → Ok ((fun (s_82 : Int32) (w70 : zW) => bd (fX8_placeOf (nI j) (nI i) w70) fun v73 w71 => zg (zin v73 640) <| bd (fX8_hasCell (nI t) (zI w71 84 v73.toNatClampNeg) w71) fun b76 w74 => bd (fX8_flag (zb b76) w74) fun v79 w77 => lt (x4 + v79) fun v80 => fX8_same_L46 (nI j) (nI t) N s_82 v80 (nI i + (1 : Int32)) w77) s w) (fun _ w' => uD w0 J S T H w') := by
      intro s hs
      dsimp only
      rw [placeOf_s h (by omega) (by unfold aN at hz; omega) (by omega), bd_s, zin_t (show 64 * pK S j i + pH S j i < 640 by omega) (by decide), zg_t]
      obtain ⟨b, eb⟩ := hasCell_t hS h ht (zI w 84 (nI (64 * pK S j i + pH S j i)).toNatClampNeg)
      rw [eb, bd_s]
      obtain ⟨b2, eb2⟩ := flag_t (zb b) w
      rw [eb2, bd_s, lt_e, nI_1]
      exact ih (i + 1) N s _ w (by omega) (by omega) hs h
    by_cases c : x3 = 0
    · rw [if_pos c]; exact go 0 (.inl rfl)
    · have hst := hx.resolve_left c
      rw [if_neg c, itemAt8_s h (by omega) hz (by omega), bd_s, itemAt8_s h (by omega) hzt (by omega), bd_s]
      exact ok_i (fun _ => go 0 (.inl rfl)) (fun _ => go 1 (.inr hst))
theorem same8_t (hW : jW J) (hS : sW J S) (h : uD w0 J S T H w) (a b : Int32) : Ok (fX8_same a b w) (fun _ w' => uD w0 J S T H w') := by
  rw [fX8_same, lt_e]
  rcases ln a with hl | ⟨j, hj, rfl⟩
  · rw [isLine_n _ hl, bd_s, ff]; exact ok_r (uD_0 h)
  rw [isLine_s _ hj, bd_s, tt]
  rcases ln b with hl | ⟨t, ht, rfl⟩
  · rw [isLine_n _ hl, bd_s, ff]; exact ok_r (uD_0 h)
  have hz := hS.1 j hj
  have hzt := hS.1 t ht
  rw [isLine_s _ ht, bd_s, tt, sizeOf_s (uD_0 h) (by omega), bd_s, sizeOf_s (uD_0 h) (by omega), bd_s, lt_e]
  by_cases c : nI (aN S j) = nI (aN S t)
  · rw [if_neg (not_not_intro c)]
    exact same_46 hW hS hj ht (aN S j) 0 zFU _ _ _ (by omega) (fuelN (by omega)) (.inr ((nI_eq (by omega) (by omega)).mp c)) (uD_0 h)
  · rw [if_pos c]
    exact same_46 hW hS hj ht (aN S j) 0 zFU _ _ _ (by omega) (fuelN (by omega)) (.inl rfl) (uD_0 h)
theorem shared_58 (hS : sW J S) (h : uD w0 J S T H w) {x1 x2 x3 x4 x5 x6 : Int32} {g : Int32 → Int32 → Int32 → Int32 → zW → Option (Int32 × zW)} {P : Int32 → zW → Prop} (hg : ∀ a b, Ok (g a b (x3 + 1) (x5 + 1) w) P) : ∀ m t N (x7 x8 : Int32), t + m = 4 → m < N → Ok (fX8_shared_L58 x1 x2 x3 x4 x5 x6 g N x7 x8 (nI t) w) P := by
  intro m
  induction m with
  | zero =>
    intro t N x7 x8 ht hN
    obtain ⟨N, rfl⟩ : ∃ k, N = k + 1 := ⟨N - 1, by omega⟩
    obtain ⟨b, eb⟩ := flag_t x7 w
    rw [fX8_shared_L58.eq_2, if_pos (show (4 : Int32) ≤ nI t by rw [show t = 4 by omega]; decide), eb, bd_s, lt_e, lt_e]
    obtain ⟨b2, eb2⟩ := flag_t (if x7 = (0 : Int32) then (0 : Int32) else if x8 = (0 : Int32) then (0 : Int32) else (1 : Int32)) w
    rw [eb2, bd_s, lt_e]
    exact hg _ _
  | succ m ih =>
    intro t N x7 x8 ht hN
    obtain ⟨N, rfl⟩ : ∃ k, N = k + 1 := ⟨N - 1, by omega⟩
    have go : ∀ s, Ok ((fun (s_87 : Int32) (w31 : zW) => lt (if x7 = (0 : Int32) then (0 : Int32) else if s_87 = (0 : Int32) then (1 : Int32) else if nI t < x4 then (0 : Int32) else (1 : Int32)) fun v35 => lt (if ¬ x8 = (0 : Int32) then (1 : Int32) else if s_87 = (0 : Int32) then (0 : Int32) else (1 : Int32)) fun v38 => fX8_shared_L58 x1 x2 x3 x4 x5 x6 g N v35 v38 (nI t + (1 : Int32)) w31) s w) P := by
      intro s
      dsimp only
      rw [lt_e, lt_e, nI_1]
      exact ih (t + 1) N _ _ (by omega) (by omega)
    rw [fX8_shared_L58.eq_2, if_neg (show ¬ (4 : Int32) ≤ nI t from Int32.not_le.mpr (nI_lt (b := 4) (by omega) (by decide))), lt_e, lt_e]
    refine ok_i (fun _ => go 0) (fun _ => ?_)
    obtain ⟨b, eb⟩ := hasCell_t hS h (show t < 4 by omega) x6
    rw [eb, bd_s]
    exact ok_i (fun _ => go 1) (fun _ => go 0)
theorem shared_23 (hS : sW J S) (h : uD w0 J S T H w) {j : Nat} (hj : j < 4) {g : Int32 → Int32 → Int32 → Int32 → zW → Option (Int32 × zW)} {P : Int32 → zW → Prop} (hg : ∀ a b c, Ok (g a b c (nI (j + 1)) w) P) : ∀ m i N (x1 x2 x3 : Int32), i + m = aN S j → m < N → Ok (fX8_shared_L23 (nI j) g N x1 x2 x3 (nI i) w) P := by
  have hz := hS.1 j hj
  intro m
  induction m with
  | zero =>
    intro i N x1 x2 x3 hi hN
    obtain ⟨N, rfl⟩ : ∃ k, N = k + 1 := ⟨N - 1, by omega⟩
    rw [fX8_shared_L23.eq_2, sizeOf_s h (by omega), bd_s, if_pos (nI_le (by omega) (by omega)), nI_1]
    exact hg _ _ _
  | succ m ih =>
    intro i N x1 x2 x3 hi hN
    obtain ⟨N, rfl⟩ : ∃ k, N = k + 1 := ⟨N - 1, by omega⟩
    have hp := pH_l (show i < aN S j by omega)
    have hk : pK S j i < 10 := pK_b (by omega)
    have hq : sZ S (pK S j i) ≤ 64 := pK_64 hz
    rw [fX8_shared_L23.eq_2, sizeOf_s h (by omega), bd_s, if_neg (Int32.not_le.mpr (nI_lt (by omega) (by omega))), placeOf_s h (by omega) (by unfold aN at hz; omega) (by omega), bd_s, zin_t (show 64 * pK S j i + pH S j i < 640 by omega) (by decide), zg_t, lt_e]
    refine shared_58 hS h (fun a b => ?_) 4 0 zFU _ _ (by omega) (fuelN (by omega))
    rw [nI_1]
    exact ih (i + 1) N _ _ _ (by omega) (by omega)
theorem shared_14 (hS : sW J S) (h : uD w0 J S T H w) : ∀ m j N (x1 x2 x3 : Int32), j + m = 4 → m < N → Ok (fX8_shared_L14 N x1 x2 x3 (nI j) w) (fun _ w' => uD w0 J S T H w') := by
  intro m
  induction m with
  | zero =>
    intro j N x1 x2 x3 hj hN
    obtain ⟨N, rfl⟩ : ∃ k, N = k + 1 := ⟨N - 1, by omega⟩
    rw [fX8_shared_L14.eq_2, if_pos (show (4 : Int32) ≤ nI j by rw [show j = 4 by omega]; decide), lt_e]
    refine ok_b (enters_s (n := 0) (uD_1 (v := 0) h) rfl (by decide) _) (fun _ w4 a4 => ?_)
    refine ok_b (enters_s a4.1 a4.2 (by decide) _) (fun _ w5 a5 => ok_r a5.1)
  | succ m ih =>
    intro j N x1 x2 x3 hj hN
    obtain ⟨N, rfl⟩ : ∃ k, N = k + 1 := ⟨N - 1, by omega⟩
    have hz := hS.1 j (by omega)
    rw [fX8_shared_L14.eq_2, if_neg (show ¬ (4 : Int32) ≤ nI j from Int32.not_le.mpr (nI_lt (b := 4) (by omega) (by decide)))]
    exact shared_23 hS h (by omega) (fun a b c => ih (j + 1) N a b c (by omega) (by omega)) (aN S j) 0 zFU _ _ _ (by omega) (fuelN (by omega))
theorem shared8_t (hS : sW J S) (h : uD w0 J S T H w) : Ok (fX8_shared w) (fun _ w' => uD w0 J S T H w') := by
  rw [fX8_shared, lt_e]
  exact shared_14 hS (uD_0 h) 4 0 zFU _ _ _ (by omega) (fuelN (by omega))
theorem dear_65 {n i : Nat} {x1 x3 x4 : Int32} (hn : n ≤ 12) {g : Int32 → Int32 → Int32 → zW → Option (Int32 × zW)} {P : Int32 → zW → Prop} (hg : ∀ a b w, uD w0 J S T H w → Ok (g a b (nI (i + 1)) w) P) : ∀ m k N (x6 : Int32) w f b, k + m = n → m < N → uD w0 J S T H w → zI w 74 30 = nI f → zI w 74 31 = nI b → m ≤ f + b → f + b ≤ 64 → Ok (fX8_dearest_L65 x1 (nI n) x3 x4 (nI i) g N x6 (nI k) w) P := by
  intro m
  induction m with
  | zero =>
    intro k N x6 w f b hk hN h hf hb h1 h64
    obtain ⟨N, rfl⟩ : ∃ k, N = k + 1 := ⟨N - 1, by omega⟩
    rw [fX8_dearest_L65.eq_2, if_pos (nI_le (by omega) (by omega)), lt_e, nI_1]
    exact ok_i (fun _ => hg _ _ w h) (fun _ => hg _ _ w h)
  | succ m ih =>
    intro k N x6 w f b hk hN h hf hb h1 h64
    obtain ⟨N, rfl⟩ : ∃ k, N = k + 1 := ⟨N - 1, by omega⟩
    obtain ⟨e, he, ee⟩ := pk_andE (nI i >>> (nI k &&& 31)) (m := 1) 1 (by decide)
    rw [fX8_dearest_L65.eq_2, if_neg (Int32.not_le.mpr (nI_lt (by omega) (by omega))), ee]
    refine ok_b (costs_s h (show e < 2 by omega) hf hb (by omega) h64) (fun c w1 a1 => ?_)
    obtain ⟨b1, rfl, f', b', b2, b3, b4, b5⟩ := a1
    rw [lt_e, nI_1]
    exact ih (k + 1) N _ w1 f' b' (by omega) (by omega) b1 b2 b3 (by omega) (by omega)
theorem dear_46 (hS : sW J S) {j n : Nat} (hj : j < 4) (hn : n ≤ 12) (hnn : n ≤ aN S j) : ∀ m i N (x3 x4 : Int32) w, i + m = 2 ^ n → m < N → uD w0 J S T H w → Ok (fX8_dearest_L46 (nI j) (nI n) N x3 x4 (nI i) w) (fun _ w' => uD w0 J S T H w') := by
  have hz := hS.1 j hj
  have hp : 2 ^ n ≤ 2 ^ 12 := Nat.pow_le_pow_right (by decide) hn
  have es : (1 : Int32) <<< (nI n &&& 31) = nI (2 ^ n) := by
    have := pk_shlN (n := 1) (nI n &&& 31) n (shk n (by omega)) (by omega)
    rw [Nat.one_mul] at this
    exact this
  intro m
  induction m with
  | zero =>
    intro i N x3 x4 w hi hN h
    obtain ⟨N, rfl⟩ : ∃ k, N = k + 1 := ⟨N - 1, by omega⟩
    rw [fX8_dearest_L46.eq_2, es, if_pos (nI_le (by omega) (by omega)), lt_e]
    exact ok_b (enters_s (n := 0) (uD_1 (v := 0) h) rfl (by decide) _) (fun _ w4 a4 => ok_r a4.1)
  | succ m ih =>
    intro i N x3 x4 w hi hN h
    obtain ⟨N, rfl⟩ : ∃ k, N = k + 1 := ⟨N - 1, by omega⟩
    rw [fX8_dearest_L46.eq_2, es, if_neg (Int32.not_le.mpr (nI_lt (by omega) (by omega)))]
    refine ok_b (begins_s h (show j < 5 by omega)) (fun _ w2 a2 => ?_)
    exact dear_65 hn (fun a b w h => ih (i + 1) N a b w (by omega) (by omega) h) n 0 zFU _ w2 _ _ (by omega) (fuelN (by omega)) a2.1 a2.2.1 a2.2.2 hnn hz
theorem dearest8_t (hS : sW J S) (h : uD w0 J S T H w) (a b : Int32) : Ok (fX8_dearest a b w) (fun _ w' => uD w0 J S T H w') := by
  rw [fX8_dearest, lt_e]
  rcases ln a with hl | ⟨j, hj, rfl⟩
  · rw [isLine_n _ hl, bd_s, ff]; exact ok_r (uD_0 h)
  have hz := hS.1 j hj
  rw [isLine_s _ hj, bd_s, tt]
  rcases inb b (lo := 1) (hi := 12) (by decide) (by decide) with ⟨h1, h2⟩ | ⟨h1, h1', h2⟩
  · have h3 : ∀ w, fX8_in b.toInt64 1 12 w = some (false, w) := h2
    rw [h3, bd_s, ff]; exact ok_r (uD_0 h)
  have h3 : ∀ w, fX8_in b.toInt64 1 12 w = some (true, w) := h2
  obtain ⟨n, hn, rfl⟩ : ∃ n, n ≤ 12 ∧ b = nI n := by
    rcases i01 (n := 12) (by decide) h1' with q | q
    · exact absurd (Int32.lt_of_lt_of_le q (by decide)) h1
    · exact q
  have hp : 2 ^ n ≤ 2 ^ 12 := Nat.pow_le_pow_right (by decide) hn
  rw [h3, bd_s, tt, sizeOf_s (uD_0 h) (by omega), bd_s]
  refine ok_i (fun q => ?_) (fun _ => ok_r (uD_0 h))
  exact dear_46 hS hj hn ((nI_leI (by omega) (by omega)).mp q) (2 ^ n) 0 zFU _ _ _ (by omega) (fuelN (by omega)) (uD_0 h)
theorem count8_t (h : uD w0 J S T H w) (a : Int32) : Ok (fX8_count a w) (fun _ w' => uD w0 J S T H w') := by
  have h0 := uD_0 h
  have e : ∀ j, j < 4 → fX8_sizeOf (nI j) (zsI w 74 0 0) = some (nI (aN S j), zsI w 74 0 0) := fun j hj => sizeOf_s h0 (by omega)
  rw [fX8_count, lt_e]
  refine ok_i (fun q => ?_) (fun _ => ok_i (fun q => ?_) (fun _ => ok_i (fun q => ?_) (fun _ => ok_i (fun q => ?_) (fun _ => ?_))))
  · rw [q, show fX8_sizeOf 0 (zsI w 74 0 0) = _ from e 0 (by decide), bd_s]; exact ok_r h0
  · rw [q, show fX8_sizeOf 1 (zsI w 74 0 0) = _ from e 1 (by decide), bd_s]; exact ok_r h0
  · rw [q, show fX8_sizeOf 2 (zsI w 74 0 0) = _ from e 2 (by decide), bd_s]; exact ok_r h0
  · rw [q, show fX8_sizeOf 3 (zsI w 74 0 0) = _ from e 3 (by decide), bd_s]; exact ok_r h0
  · exact ok_i (fun _ => ok_r h0) (fun _ => ok_i (fun _ => ok_r h0) (fun _ => ok_i (fun _ => ok_r h0) (fun _ => ok_i (fun _ => ok_r h0) (fun _ => ok_i (fun _ => ok_r h0) (fun _ => ok_i (fun _ => ok_r h0) (fun _ => ok_i (fun _ => ok_r h0) (fun _ => ok_r h0)))))))
theorem row8_t (h : uD w0 J S T H w) (a : Int32) : Ok (fX8_row a w) (fun _ w' => uD w0 J S T H w') := by
  obtain ⟨t, ht, e⟩ := h.2.2.2.2.2.2.2
  have fin : ∀ b : Bool, (b = true → zin a 160 = true) → Ok (lt (if b = true then (0 : Int32) else (1 : Int32)) fun v5 => bd (fX8_flag v5 w) fun v8 w6 => lt (zsI w6 74 0 v8) fun w9 => if ¬ (zI w9 74 0) = (1 : Int32) then zg (zin a 160) <| some ((zL w9 75 a.toNatClampNeg), w9) else some ((0 : Int64), w9)) (fun _ w' => uD w0 J S T H w') := by
    intro b hb
    rw [lt_e]
    cases b with
    | true =>
      rw [tt, show fX8_flag 0 w = some (0, w) from rfl, bd_s, lt_e, hb rfl]
      refine ok_i (fun _ => ?_) (fun _ => ok_r (uD_0 h))
      rw [zg_t]; exact ok_r (uD_0 h)
    | false =>
      rw [ff, show fX8_flag 1 w = some (1, w) from rfl, bd_s, lt_e, if_neg (not_not_intro (show zI (zsI w 74 0 1) 74 0 = 1 from rfl))]
      exact ok_r (uD_5 h (.inr (.inr rfl)))
  rw [fX8_row, e]
  rcases pk_ix a (n := t) (by omega) with q | q | ⟨i, hi, rfl⟩
  · rw [in_n w (.inl (show a.toInt64 < 0 from (toI64_lt (n := 0) (by decide)).mpr q)), bd_s]
    exact fin false (fun z => by cases z)
  · have : (nI t - 1).toInt64 < a.toInt64 := by
      have h2 := Int32.le_iff_toInt_le.mp q
      rw [nI_toInt (by omega)] at h2
      rw [Int64.lt_iff_toInt_lt, Int32.toInt_toInt64, Int32.toInt_toInt64, show (1 : Int32) = nI 1 from rfl, pk_sub_toInt (by omega) (by decide)]
      omega
    rw [in_n w (.inr this), bd_s]
    exact fin false (fun z => by cases z)
  · have h1 : (0 : Int64) ≤ (nI i).toInt64 := by
      rw [nI_l (by omega)]
      exact lN_0le (by omega)
    have h2 : (nI i).toInt64 ≤ (nI t - 1).toInt64 := by
      rw [show (1 : Int32) = nI 1 from rfl, pk_sub (by omega), nI_l (by omega), nI_l (by omega)]
      exact (lN_le (by omega) (by omega)).mpr (by omega)
    rw [in_s w h1 h2, bd_s]
    exact fin true (fun _ => zin_t (by omega) (by decide))
theorem item8_t (hS : sW J S) (h : uD w0 J S T H w) (a b : Int32) : Ok (fX8_item a b w) (fun _ w' => uD w0 J S T H w') := by
  rw [fX8_item]
  rcases ln a with hl | ⟨j, hj, rfl⟩
  · rw [isLine_n w hl, bd_s, lt_e, lt_e, ff]; dsimp only; rw [show fX8_flag 1 w = some (1, w) from rfl, bd_s, lt_e, if_neg (not_not_intro (show zI (zsI w 74 0 1) 74 0 = 1 from rfl))]
    exact ok_r (uD_5 h (.inr (.inr rfl)))
  have hz := hS.1 j hj
  have e5 := d_in2 (show j < 5 by omega)
  rw [isLine_s w hj, bd_s, lt_e, lt_e, tt]
  rcases isAt_b h (show j < 5 by omega) hz b with ⟨-, e⟩ | ⟨i, hi, rfl, e⟩
  · rw [e, bd_s, ff]; dsimp only; rw [show fX8_flag 1 w = some (1, w) from rfl, bd_s, lt_e, if_neg (not_not_intro (show zI (zsI w 74 0 1) 74 0 = 1 from rfl))]
    exact ok_r (uD_5 h (.inr (.inr rfl)))
  · have hp := pH_l hi
    have hk : pK S j i < 10 := pK_b (by omega)
    have hq : sZ S (pK S j i) ≤ 64 := pK_64 hz
    have h0 := uD_0 h
    rw [e, bd_s, tt]
    dsimp only
    rw [show fX8_flag 0 w = some (0, w) from rfl, bd_s, lt_e, if_pos (show ¬ zI (zsI w 74 0 0) 74 0 = 1 by rw [zI_zsI, if_pos ⟨rfl, rfl⟩]; decide), placeOf_s h0 (by omega) (by unfold aN at hz; omega) (by omega), bd_s, e5.1, zg_t, lt_e, lt_e, lt_e]
    obtain ⟨c, ec⟩ := flag_t (if nI i < zI (zsI w 74 0 0) 83 (2 * nI j).toNatClampNeg then (0 : Int32) else (1 : Int32)) (zsI (zsI w 74 0 0) 74 1 0)
    rw [ec, bd_s]
    refine ok_b (enters_s (n := 0) (uD_1 (v := 0) h0) rfl (by decide) _) (fun _ w1 a1 => ?_)
    have go : ∀ s : Int64, Ok ((fun (s_101 : Int64) (w24 : zW) => bd (fX8_enters s_101 w24) fun _ w25 => zg (zin (nI (64 * pK S j i + pH S j i)) 640) <| bd (fX8_enters (zL w25 86 (nI (64 * pK S j i + pH S j i)).toNatClampNeg) w25) fun _ w28 => zg (zin (nI (64 * pK S j i + pH S j i)) 640) <| bd (fX8_enters (zL w28 87 (nI (64 * pK S j i + pH S j i)).toNatClampNeg) w28) fun _ w31 => zg (zin (nI (64 * pK S j i + pH S j i)) 640) <| some ((zI w31 85 (nI (64 * pK S j i + pH S j i)).toNatClampNeg), w31)) s w1) (fun _ w' => uD w0 J S T H w') := by
      intro s
      dsimp only
      rw [zin_t (show 64 * pK S j i + pH S j i < 640 by omega) (by decide)]
      refine ok_b (enters_s a1.1 a1.2 (by decide) _) (fun _ w2 a2 => ?_)
      rw [zg_t]
      refine ok_b (enters_s a2.1 a2.2 (by decide) _) (fun _ w3 a3 => ?_)
      rw [zg_t]
      refine ok_b (enters_s a3.1 a3.2 (by decide) _) (fun _ w4 a4 => ?_)
      rw [zg_t]
      exact ok_r a4.1
    rw [lt_e]
    refine ok_i (fun _ => ?_) (fun _ => go _)
    rw [sizeOf_s a1.1 (by omega), bd_s]
    exact go _
end Q7
section Q8
variable {J : aJ} {S : aS} {T : aT} {w : zW}
theorem powers_t (h : rW J S T w) (a b : Int32) : Bq (fX7_powers a b) (fX8_powers a b) (fun _ _ => True) w := bt h (o7_powers a b (rW_Sz h) (q_0 w)) (fun _ _ hD => powers8_t h.1 hD a b)
theorem order_t (h : rW J S T w) (a : Int32) : Bq (fX7_order a) (fX8_order a) (fun _ _ => True) w := bt h (o7_order a (rW_Sz h) (q_0 w)) (fun _ _ hD => order8_t h.1 hD a)
theorem undoes_t (h : rW J S T w) (a : Int32) : Bq (fX7_undoes a) (fX8_undoes a) (fun _ _ => True) w := bt h (o7_undoes a (rW_Sz h) (q_0 w)) (fun _ _ hD => undoes8_t h.1 hD a)
theorem unlike_t (h : rW J S T w) (a : Int32) : Bq (fX7_unlike a) (fX8_unlike a) (fun _ _ => True) w := bt h (o7_unlike a (rW_Sz h) (q_0 w)) (fun _ _ hD => unlike8_t h.1 h.2.1 hD a)
theorem same_t (h : rW J S T w) (a b : Int32) : Bq (fX7_same a b) (fX8_same a b) (fun _ _ => True) w := bt h (o7_same a b (rW_Sz h) (q_0 w)) (fun _ _ hD => same8_t h.1 h.2.1 hD a b)
theorem shared_t (h : rW J S T w) : Bq fX7_shared fX8_shared (fun _ _ => True) w := bt h (o7_shared (rW_Sz h) (q_0 w)) (fun _ _ hD => shared8_t h.2.1 hD)
theorem dearest_t (h : rW J S T w) (a b : Int32) : Bq (fX7_dearest a b) (fX8_dearest a b) (fun _ _ => True) w := bt h (o7_dearest a b (rW_Sz h) (q_0 w)) (fun _ _ hD => dearest8_t h.2.1 hD a b)
theorem count_t (h : rW J S T w) (a : Int32) : Bq (fX7_count a) (fX8_count a) (fun _ _ => True) w := bt h (o7_count a (rW_Sz h) (q_0 w)) (fun _ _ hD => count8_t hD a)
theorem item_t (h : rW J S T w) (a b : Int32) : Bq (fL_item a b) (fX8_item a b) (fun _ _ => True) w := by
  refine bh (fun _ => True) (fun _ => True) (fun _ _ _ _ => trivial) h ?_ (fun w1 h1 => hd h1 (fun _ hD => item8_t h1.2.1 hD a b))
  obtain ⟨o, w1, e, q⟩ := o7_item a b (rW_Sz h) (q_0 w)
  have h1 := rW_Q h q
  unfold fL_item
  rw [e]
  cases o with
  | none => exact ok_r ⟨trivial, h1⟩
  | some v => exact ok_r ⟨trivial, rW_92 h1⟩
theorem row_t (h : rW J S T w) (a : Int32) : Bq (fL_row a) (fX8_row a) (fun _ _ => True) w := by
  refine bh (fun _ => True) (fun _ => True) (fun _ _ _ _ => trivial) h ?_ (fun w1 h1 => hd h1 (fun _ hD => row8_t hD a))
  obtain ⟨o, w1, e, q⟩ := o7_row a (rW_Sz h) (q_0 w)
  have h1 := rW_Q h q
  unfold fL_row
  rw [e]
  cases o with
  | none => exact ok_r ⟨trivial, h1⟩
  | some v => exact ok_r ⟨trivial, rW_92 h1⟩
end Q8
