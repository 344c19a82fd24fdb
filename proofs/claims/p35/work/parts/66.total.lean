set_option maxRecDepth 16384
section Q6
variable {J : aJ} {S : aS} {T : aT} {w w1 w2 : zW} {H H' : Nat → Int32}
theorem cI_b {k j : Nat} (h : 7 ≤ k) (h2 : k ≤ 61) : cI k j = true ∧ cL k j = true := by
  have e1 : Nat.ble 7 k = true := Nat.ble_eq.mpr h
  have e2 : Nat.ble k 61 = true := Nat.ble_eq.mpr h2
  unfold cI cL
  rw [e1, e2]
  simp
theorem cI_83 {j : Nat} (h : j < 10) : cI 83 j = true := by
  rcases (show j = 0 ∨ j = 1 ∨ j = 2 ∨ j = 3 ∨ j = 4 ∨ j = 5 ∨ j = 6 ∨ j = 7 ∨ j = 8 ∨ j = 9 by omega) with rfl | rfl | rfl | rfl | rfl | rfl | rfl | rfl | rfl | rfl <;> rfl
theorem cI_8 {j : Nat} (h : j ≤ 511) : cI 84 j = true ∧ cI 85 j = true ∧ cL 86 j = true ∧ cL 87 j = true := by
  have e : Nat.ble j 511 = true := Nat.ble_eq.mpr h
  unfold cI cL
  rw [e]
  exact ⟨rfl, rfl, rfl, rfl⟩
theorem rW_Q (h : rW J S T w) (q : Qc w w1) : rW J S T w1 := by
  obtain ⟨hW, hS, hT, ⟨H, c1, c2, c3, c4, c5, c6⟩, H2, d1, d2, d3, d4, d5, d6, d7⟩ := id h
  have hb := sW_B hS
  have h0 : sZ S 8 + sZ S 9 = 0 := hS.2.2
  refine ⟨hW, hS, hT, ⟨zI w1 5, ⟨?_, ?_, ?_, fun i j hi hj => ?_⟩, fun k hk => ⟨?_, fun x hx => ⟨?_, ?_, ?_, ?_⟩⟩, ⟨?_, ?_⟩, ⟨?_, fun i hi => ?_⟩, fun i => rfl, fun k j hk => ⟨rfl, rfl⟩, q.2.2 c6.2⟩, zI w1 88, ⟨?_, ?_, ?_, fun i j hi hj => ?_⟩, fun k hk => ⟨?_, fun x hx => ?_⟩, ⟨?_, ?_⟩, ⟨?_, fun i hi => ?_⟩, fun i => rfl, fun k j hk => ⟨rfl, rfl⟩, rfl, ?_⟩
  · rw [q.1 1 0 rfl]; exact c1.1
  · rw [q.1 2 0 rfl]; exact c1.2.1
  · rw [q.1 2 1 rfl]; exact c1.2.2.1
  · rw [q.1 3 _ rfl]; exact c1.2.2.2 i j hi hj
  · rw [q.1 _ _ (cI_b (by unfold oP; omega) (by unfold oP; omega)).1]; exact (c2 k hk).1
  · rw [q.1 _ _ (cI_b (by unfold oP; omega) (by unfold oP; omega)).1]; exact ((c2 k hk).2 x hx).1
  · rw [q.2.1 _ _ (cI_b (by unfold oP; omega) (by unfold oP; omega)).2]; exact ((c2 k hk).2 x hx).2.1
  · rw [q.2.1 _ _ (cI_b (by unfold oP; omega) (by unfold oP; omega)).2]; exact ((c2 k hk).2 x hx).2.2.1
  · rw [q.1 _ _ (cI_b (by unfold oP; omega) (by unfold oP; omega)).1]; exact ((c2 k hk).2 x hx).2.2.2
  · rw [q.1 4 1 rfl]; exact c3.1
  · rw [q.1 4 2 rfl]; exact c3.2
  · rw [q.1 64 0 rfl]; exact c4.1
  · rw [q.1 65 i rfl]; exact c4.2 i hi
  · rw [q.1 74 7 rfl]; exact d1.1
  · rw [q.1 74 8 rfl]; exact d1.2.1
  · rw [q.1 74 9 rfl]; exact d1.2.2.1
  · rw [q.1 77 _ rfl]; exact d1.2.2.2 i j hi hj
  · rw [q.1 83 k (cI_83 hk)]; exact (d2 k hk).1
  · have hk8 : k < 8 := by
      by_cases z : k < 8
      · exact z
      · rcases (show k = 8 ∨ k = 9 by omega) with rfl | rfl <;> omega
    have := hb k hk
    have e := cI_8 (j := 64 * k + x) (by omega)
    have z := (d2 k hk).2 x hx
    rw [q.1 85 _ e.2.1, q.2.1 86 _ e.2.2.1, q.2.1 87 _ e.2.2.2, q.1 84 _ e.1]; exact z
  · rw [q.1 74 23 rfl]; exact d3.1
  · rw [q.1 74 24 rfl]; exact d3.2
  · rw [q.1 74 4 rfl]; exact d4.1
  · rw [q.1 76 i rfl]; exact d4.2 i hi
  · obtain ⟨-, t, g2, g3⟩ := d7
    exact ⟨t, g2, (q.1 74 1 rfl).trans g3⟩
theorem rW_Sz (h : rW J S T w) : Sz w := by
  obtain ⟨hW, hS, hT, ⟨H, hC⟩, -⟩ := id h
  intro x hx
  obtain ⟨j, hj, rfl⟩ : ∃ j, j < 4 ∧ x = LN j := by
    rcases hx with rfl | rfl | rfl | rfl
    · exact ⟨0, by decide, rfl⟩
    · exact ⟨1, by decide, rfl⟩
    · exact ⟨2, by decide, rfl⟩
    · exact ⟨3, by decide, rfl⟩
  have hz := hS.1 j hj
  have hx2 : sZ S (2 * j) + sZ S (2 * j + 1) ≤ 64 := hz
  unfold szF
  rw [LN_0, LN_1, uC_z hC (by omega), uC_z hC (by omega), nI_add, nI_clamp (by omega)]
  exact ⟨rfl, hx2⟩
/-- the class's half of a question: it answers, the state is as it was -/
theorem hq {α : Type} {f : zW → Option (α × zW)} (h : rW J S T w) (o : Ok (f w) (fun _ w' => Qc w w')) : Ok (f w) (fun _ w1 => True ∧ rW J S T w1) := ok_m o (fun _ _ q => ⟨trivial, rW_Q h q⟩)
/-- the reference's half -/
theorem hd {α : Type} {g : zW → Option (α × zW)} (h : rW J S T w) (o : ∀ H, uD (w, False) J S T H w → Ok (g w) (fun _ w' => uD (w, False) J S T H w')) : Ok (g w) (fun _ w2 => True ∧ rW J S T w2) := by
  obtain ⟨-, -, -, -, H, hD⟩ := id h
  exact ok_m (o H (uD_sf hD)) (fun _ _ q => ⟨trivial, rW_D h q⟩)
theorem bt {α β : Type} {f : zW → Option (α × zW)} {g : zW → Option (β × zW)} (h : rW J S T w) (o : Ok (f w) (fun _ w' => Qc w w')) (o2 : ∀ w1 H, uD (w1, False) J S T H w1 → Ok (g w1) (fun _ w' => uD (w1, False) J S T H w')) : Bq f g (fun _ _ => True) w :=
  bh (fun _ => True) (fun _ => True) (fun _ _ _ _ => trivial) h (hq h o) (fun w1 h1 => hd h1 (o2 w1))
theorem flag_t (c : Int32) (w : zW) : ∃ b, fX8_flag c w = some (b, w) := by
  rw [fX8_flag]
  by_cases q : c = 0
  · exact ⟨0, if_pos q⟩
  · exact ⟨1, if_neg q⟩
section W0
variable {w0 : zX}
theorem power8_t (hW : jW J) {v : Nat} (hv : v < 10000) : ∀ f n w, n < 2 ^ f → n < 2 ^ 31 → uD w0 J S T H w → Ok (fX8_power (f + 1) (nI v) (nI n) w) (fun _ w' => uD w0 J S T H w' ∧ Val J (zL w' 74 11) (zL w' 74 12)) := by
  intro f
  induction f with
  | zero =>
    intro n w h1 h2 h
    have : n = 0 := by rw [Nat.pow_zero] at h1; omega
    subst this
    rw [fX8_power.eq_2, lt_e, if_neg (show ¬ ¬ nI 0 = 0 by decide), em_s hW h.1, bd_s]
    exact ok_r ⟨uD_S h, val_o hW⟩
  | succ f ih =>
    intro n w h1 h2 h
    rw [fX8_power.eq_2, lt_e]
    by_cases c0 : n = 0
    · rw [c0, if_neg (show ¬ ¬ nI 0 = 0 by decide), em_s hW h.1, bd_s]
      exact ok_r ⟨uD_S h, val_o hW⟩
    · rw [if_pos (nI_ne0 (by omega) h2)]
      by_cases c1 : n = 1
      · obtain ⟨W, hN, hE⟩ := el_s hW h.1 hv
        rw [c1, if_neg (show ¬ ¬ nI 1 = 1 by decide), hE, bd_s]
        exact ok_r ⟨uD_S (uD_N h hN), val_e hW hv⟩
      · rw [if_pos (show ¬ nI n = 1 from fun q => c1 ((nI_eq (b := 1) h2 (by decide)).mp q)), divN (D := 2) (d := 2) rfl h2 (by decide) (by decide)]
        refine ok_b (ih (n / 2) w (by rw [Nat.pow_succ] at h1; omega) (by omega) h) (fun x w1 a1 => ?_)
        obtain ⟨W, hN, hE⟩ := (jn_s hW a1.1.1 a1.2 a1.2).1
        have hV := (jn_s hW a1.1.1 a1.2 a1.2).2
        have h3 := uD_S (p := jpF J (zL w1 74 11) (zL w1 74 11) (zL w1 74 12) (zL w1 74 12)) (q := jqF J (zL w1 74 11) (zL w1 74 11) (zL w1 74 12) (zL w1 74 12)) (uD_N a1.1 hN)
        rw [lt_e, hE, bd_s]
        by_cases c2 : nI n - nI (n / 2) * 2 = 0
        · rw [if_neg (not_not_intro c2)]
          exact ok_r ⟨h3, hV⟩
        · obtain ⟨W2, hN2, hE2⟩ := el_s hW h3.1 hv
          have h4 := uD_S (p := epF (jK J) (jN J) v) (q := eqF (jK J) v) (uD_N h3 hN2)
          obtain ⟨W3, hN3, hE3⟩ := (jn_s hW h4.1 hV (val_e hW hv)).1
          rw [if_pos c2, lt_e, lt_e, setS_p, setS_q, hE2, bd_s, setS_p, setS_q, hE3, bd_s]
          exact ok_r ⟨uD_S (uD_N h4 hN3), (jn_s hW h4.1 hV (val_e hW hv)).2⟩
theorem powers8_t (hW : jW J) (h : uD w0 J S T H w) (a b : Int32) : Ok (fX8_powers a b w) (fun _ w' => uD w0 J S T H w') := by
  rw [fX8_powers, lt_e]
  rcases im a with ⟨i7, i8⟩ | ⟨v, hv, rfl, i7, i8⟩
  · rw [i8, bd_s, ff]; exact ok_r (uD_0 h)
  rw [i8, bd_s, tt]
  rcases inb b (lo := 0) (hi := 1000000000) (by decide) (by decide) with ⟨h1, h2⟩ | ⟨h1, h1', h2⟩
  · have h3 : ∀ w, fX8_in b.toInt64 0 1000000000 w = some (false, w) := h2
    rw [h3, bd_s, ff]; exact ok_r (uD_0 h)
  have h3 : ∀ w, fX8_in b.toInt64 0 1000000000 w = some (true, w) := h2
  obtain ⟨n, hn, rfl⟩ : ∃ n, n ≤ 1000000000 ∧ b = nI n := by
    rcases i01 (n := 1000000000) (by decide) h1' with q | q
    · exact absurd q h1
    · exact q
  rw [h3, bd_s, tt]
  refine ok_b (power8_t hW hv 31 n _ (by omega) (by omega) (uD_0 h)) (fun x w1 a1 => ?_)
  rw [lt_e]
  refine ok_b (enters_s (n := 0) (uD_1 (v := 0) a1.1) rfl (by decide) _) (fun _ w3 a3 => ?_)
  refine ok_b (enters_s a3.1 a3.2 (by decide) _) (fun _ w4 a4 => ok_r a4.1)
/-- rows 81, 82 can be joined -/
def vR (J : aJ) (n : Nat) (w : zW) : Prop := ∀ i, 1 ≤ i → i < n → Val J (zL w 81 i) (zL w 82 i)
theorem order_106 {g : Int32 → zW → Option (Int32 × zW)} {P : Int32 → zW → Prop} {x2 x4 : Int64} {n : Nat} (hn : n ≤ 128) (h : uD w0 J S T H w) (hg : Ok (g (nI (n + 1)) w) P) (hP : ∀ a w, uD w0 J S T H w → P a w) : ∀ m k N, k + m = n → m < N → Ok (fX8_order_L106 x2 x4 (nI n) g N (nI k) w) P := by
  intro m
  induction m with
  | zero =>
    intro k N hk hN
    obtain ⟨N, rfl⟩ : ∃ k, N = k + 1 := ⟨N - 1, by omega⟩
    rw [fX8_order_L106.eq_2, if_pos (nI_le (by omega) (by omega)), nI_1]; exact hg
  | succ m ih =>
    intro k N hk hN
    obtain ⟨N, rfl⟩ : ∃ k, N = k + 1 := ⟨N - 1, by omega⟩
    rw [fX8_order_L106.eq_2, if_neg (Int32.not_le.mpr (nI_lt (by omega) (by omega))), zin_t (show k < 129 by omega) (by decide), zg_t, nI_1]
    refine ok_i (fun _ => ih (k + 1) N (by omega) (by omega)) (fun _ => ?_)
    rw [zg_t]
    refine ok_i (fun _ => ih (k + 1) N (by omega) (by omega)) (fun _ => ?_)
    rw [lt_e]
    exact ok_b (enters_s (n := 0) (uD_1 (v := 0) h) rfl (by decide) _) (fun _ w1 a1 => ok_r (hP _ _ a1.1))
theorem order_48 (hW : jW J) {p q : Int64} (hV : Val J p q) : ∀ m n N w, n + m = 129 → 2 ≤ n → m < N → uD w0 J S T H w → vR J n w → Ok (fX8_order_L48 p q N (nI n) w) (fun _ w' => uD w0 J S T H w') := by
  intro m
  induction m with
  | zero =>
    intro n N w h1 h2 hN h hv
    obtain ⟨N, rfl⟩ : ∃ k, N = k + 1 := ⟨N - 1, by omega⟩
    rw [fX8_order_L48.eq_2, if_pos (show (128 : Int32) < nI n from nI_lt (a := 128) (by omega) (by omega))]
    exact ok_r h
  | succ m ih =>
    intro n N w h1 h2 hN h hv
    obtain ⟨N, rfl⟩ : ∃ k, N = k + 1 := ⟨N - 1, by omega⟩
    have hv1 := hv (n - 1) (by omega) (by omega)
    obtain ⟨W, hN1, hE⟩ := (jn_s hW h.1 hv1 hV).1
    have hV2 := (jn_s hW h.1 hv1 hV).2
    have h3 := uD_S (p := jpF J (zL w 81 (n - 1)) p (zL w 82 (n - 1)) q) (q := jqF J (zL w 81 (n - 1)) p (zL w 82 (n - 1)) q) (uD_N h hN1)
    rw [fX8_order_L48.eq_2, if_neg (show ¬ (128 : Int32) < nI n from fun z => by have := (nI_ltI (a := 128) (by decide) (by omega)).mp z; omega), show nI n - 1 = nI (n - 1) by rw [show (1 : Int32) = nI 1 from rfl, pk_sub (by omega)], zin_t (show n - 1 < 129 by omega) (by decide), zg_t, zg_t, nI_clamp (by omega), hE, bd_s, zin_t (show n < 129 by omega) (by decide), zg_t, lt_e, zg_t, lt_e, nI_clamp (by omega), setS_p]
    have e4 : zL (zsL (setS W (jpF J (zL w 81 (n - 1)) p (zL w 82 (n - 1)) q) (jqF J (zL w 81 (n - 1)) p (zL w 82 (n - 1)) q)) 81 n (jpF J (zL w 81 (n - 1)) p (zL w 82 (n - 1)) q)) 74 12 = jqF J (zL w 81 (n - 1)) p (zL w 82 (n - 1)) q := rfl
    rw [e4]
    have h5 := uD_L (k := 82) (j := n) (v := jqF J (zL w 81 (n - 1)) p (zL w 82 (n - 1)) q) (uD_L (k := 81) (j := n) (v := jpF J (zL w 81 (n - 1)) p (zL w 82 (n - 1)) q) h3 (by unfold gD; omega)) (by unfold gD; omega)
    refine order_106 (by omega) h5 (ih (n + 1) N _ (by omega) (by omega) (by omega) h5 (fun i hi1 hi2 => ?_)) (fun _ _ a => a) (n - 1) 1 zFU (by omega) (fuelN (by omega))
    by_cases c : i = n
    · rw [c, zL_zsL, if_neg (by omega), zL_zsL, if_pos ⟨rfl, rfl⟩, zL_zsL, if_pos ⟨rfl, rfl⟩]; exact hV2
    · have := hv i hi1 (by omega)
      have o : ∀ r, r = 81 ∨ r = 82 → zL (zsL (zsL (setS W (jpF J (zL w 81 (n - 1)) p (zL w 82 (n - 1)) q) (jqF J (zL w 81 (n - 1)) p (zL w 82 (n - 1)) q)) 81 n (jpF J (zL w 81 (n - 1)) p (zL w 82 (n - 1)) q)) 82 n (jqF J (zL w 81 (n - 1)) p (zL w 82 (n - 1)) q)) r i = zL w r i := fun r hr => by
        rw [zL_zsL, if_neg (by omega), zL_zsL, if_neg (by omega)]
        unfold setS
        rw [zL_zsL, if_neg (by omega), zL_zsL, if_neg (by omega)]
        unfold zL; rw [hN1.1]
      rw [o 81 (.inl rfl), o 82 (.inr rfl)]; exact this
theorem order8_t (hW : jW J) (h : uD w0 J S T H w) (a : Int32) : Ok (fX8_order a w) (fun _ w' => uD w0 J S T H w') := by
  rw [fX8_order, lt_e]
  rcases im a with ⟨i7, i8⟩ | ⟨v, hv, rfl, i7, i8⟩
  · rw [i8, bd_s, ff]; exact ok_r (uD_0 h)
  obtain ⟨W, hN, hE⟩ := el_s hW (uD_0 h).1 hv
  have h2 := uD_S (p := epF (jK J) (jN J) v) (q := eqF (jK J) v) (uD_N (uD_0 h) hN)
  rw [i8, bd_s, tt, hE, bd_s, lt_e, lt_e, setS_p, setS_q, show zin (1 : Int32) 129 = true by decide, zg_t, lt_e, zg_t, lt_e, show (1 : Int32).toNatClampNeg = 1 from rfl]
  refine order_48 hW (val_e hW hv) 127 2 zFU _ (by omega) (by omega) (fuelN (by omega)) (uD_L (uD_L h2 (by unfold gD; omega)) (by unfold gD; omega)) (fun i h1 h3 => ?_)
  rw [show i = 1 by omega, zL_zsL, if_neg (by omega), zL_zsL, if_pos ⟨rfl, rfl⟩, zL_zsL, if_pos ⟨rfl, rfl⟩]
  exact val_e hW hv
theorem undoes_32 (hW : jW J) {v : Nat} (hv : v < 10000) {x2 x4 : Int64} : ∀ m u N w, u + m = 10000 → m < N → uD w0 J S T H w → Ok (fX8_undoes_L32 (nI v) x2 x4 N (nI u) w) (fun _ w' => uD w0 J S T H w') := by
  intro m
  induction m with
  | zero =>
    intro u N w h1 hN h
    obtain ⟨N, rfl⟩ : ∃ k, N = k + 1 := ⟨N - 1, by omega⟩
    rw [fX8_undoes_L32.eq_2, if_pos (show (9999 : Int32) < nI u from nI_lt (a := 9999) (by omega) (by omega))]
    exact ok_r h
  | succ m ih =>
    intro u N w h1 hN h
    obtain ⟨N, rfl⟩ : ∃ k, N = k + 1 := ⟨N - 1, by omega⟩
    have hu : u < 10000 := by omega
    have go : ∀ (c : Int32) (w : zW), uD w0 J S T H w → Ok ((fun (y7_111 : Int32) (w16 : zW) => if y7_111 = (0 : Int32) then fX8_undoes_L32 (nI v) x2 x4 N (nI u + (1 : Int32)) w16 else some (nI u, w16)) c w) (fun _ w' => uD w0 J S T H w') := by
      intro c w h
      dsimp only
      refine ok_i (fun _ => ?_) (fun _ => ok_r h)
      rw [nI_1]; exact ih (u + 1) N w (by omega) (by omega) h
    rw [fX8_undoes_L32.eq_2, if_neg (show ¬ (9999 : Int32) < nI u from fun z => by have := (nI_ltI (a := 9999) (by decide) (by omega)).mp z; omega)]
    refine ok_b (joinsTwo_s hW h hv hu) (fun _ w2 a2 => ?_)
    refine ok_i (fun _ => ?_) (fun _ => ok_i (fun _ => ?_) (fun _ => ?_))
    · rw [lt_e, if_pos rfl]; exact go 0 w2 a2.1
    · rw [lt_e, if_pos rfl]; exact go 0 w2 a2.1
    · rw [lt_e, if_neg (show ¬ (1 : Int32) = 0 by decide)]
      refine ok_b (joinsTwo_s hW a2.1 hu hv) (fun _ w3 a3 => ?_)
      refine ok_i (fun _ => go 0 w3 a3.1) (fun _ => ok_i (fun _ => go 0 w3 a3.1) (fun _ => go 1 w3 a3.1))
theorem undoes8_t (hW : jW J) (h : uD w0 J S T H w) (a : Int32) : Ok (fX8_undoes a w) (fun _ w' => uD w0 J S T H w') := by
  rw [fX8_undoes, lt_e]
  rcases im a with ⟨i7, i8⟩ | ⟨v, hv, rfl, i7, i8⟩
  · rw [i8, bd_s, ff]; exact ok_r (uD_0 h)
  rw [i8, bd_s, tt, em_s hW (uD_0 h).1, bd_s, lt_e, lt_e, setS_p, setS_q]
  exact undoes_32 hW hv 10000 0 zFU _ (by omega) (fuelN (by omega)) (uD_S (uD_0 h))
theorem unlike_86 {n k b : Nat} {x3 x5 : Int32} (hn : n ≤ 64) (hk : k ≤ 64) {j : Int32 → Int32 → Int32 → Int32 → zW → Option (Int32 × zW)} {P : Int32 → zW → Prop} (hj : ∀ u v b', b' = b ∨ b' = k → Ok (j u (nI b') v (nI (k + 1)) w) P) : ∀ m i N (x7 x8 : Int32), i + m = n + 1 → m < N → Ok (fX8_unlike_L86 (nI n) x3 (nI b) x5 (nI k) j N x7 x8 (nI i) w) P := by
  intro m
  induction m with
  | zero =>
    intro i N x7 x8 hi hN
    obtain ⟨N, rfl⟩ : ∃ k, N = k + 1 := ⟨N - 1, by omega⟩
    obtain ⟨c, ec⟩ := flag_t x8 w
    rw [fX8_unlike_L86.eq_2, if_pos (nI_lt (by omega) (by omega)), ec, bd_s, lt_e, lt_e, lt_e, nI_1]
    by_cases z : x7 ≤ x5
    · rw [if_pos z]; exact hj _ _ b (.inl rfl)
    · rw [if_neg z]; exact hj _ _ k (.inr rfl)
  | succ m ih =>
    intro i N x7 x8 hi hN
    obtain ⟨N, rfl⟩ : ∃ k, N = k + 1 := ⟨N - 1, by omega⟩
    rw [fX8_unlike_L86.eq_2, if_neg (fun q => by have := (nI_ltI (by omega) (by omega)).mp q; omega), zin_t (show i < 129 by omega) (by decide), zg_t, zin_t (show k < 129 by omega) (by decide), zg_t]
    refine ok_i (fun _ => ?_) (fun _ => ?_)
    · rw [show fX8_flag 0 w = some (0, w) from rfl, bd_s, lt_e, lt_e, nI_1]; exact ih (i + 1) N _ _ (by omega) (by omega)
    · rw [zg_t, zg_t]
      refine ok_i (fun _ => ?_) (fun _ => ?_)
      · rw [show fX8_flag 0 w = some (0, w) from rfl, bd_s, lt_e, lt_e, nI_1]; exact ih (i + 1) N _ _ (by omega) (by omega)
      · rw [show fX8_flag 1 w = some (1, w) from rfl, bd_s, lt_e, lt_e, nI_1]; exact ih (i + 1) N _ _ (by omega) (by omega)
theorem unlike_71 {n : Nat} (hn : n ≤ 64) (h : uD w0 J S T H w) : ∀ m k N (x3 x5 : Int32) (b : Nat), k + m = n + 1 → b ≤ 64 → m < N → Ok (fX8_unlike_L71 (nI n) N x3 (nI b) x5 (nI k) w) (fun _ w' => uD w0 J S T H w') := by
  intro m
  induction m with
  | zero =>
    intro k N x3 x5 b hk hb hN
    obtain ⟨N, rfl⟩ : ∃ k, N = k + 1 := ⟨N - 1, by omega⟩
    rw [fX8_unlike_L71.eq_2, if_pos (nI_lt (by omega) (by omega)), lt_e]
    refine ok_i (fun _ => ok_r (uD_1 h)) (fun _ => ?_)
    rw [zin_t (show b < 129 by omega) (by decide), zg_t]
    refine ok_b (enters_s (n := 0) (uD_1 (v := 0) h) rfl (by decide) _) (fun _ w1 a1 => ?_)
    rw [zg_t]
    refine ok_b (enters_s a1.1 a1.2 (by decide) _) (fun _ w2 a2 => ?_)
    refine ok_b (enters_s a2.1 a2.2 (by decide) _) (fun _ w3 a3 => ok_r a3.1)
  | succ m ih =>
    intro k N x3 x5 b hk hb hN
    obtain ⟨N, rfl⟩ : ∃ k, N = k + 1 := ⟨N - 1, by omega⟩
    rw [fX8_unlike_L71.eq_2, if_neg (fun q => by have := (nI_ltI (by omega) (by omega)).mp q; omega)]
    exact unlike_86 hn (show k ≤ 64 by omega) (fun u v b' hb' => ih (k + 1) N u v b' (by omega) (by omega) (by omega)) n 1 zFU _ _ (by omega) (fuelN (by omega))
theorem unlike_22 (hW : jW J) (hS : sW J S) {j : Nat} (hj : j < 4) : ∀ m k N w, k + m = aN S j + 1 → 1 ≤ k → m < N → uD w0 J S T H w → Ok (fX8_unlike_L22 (nI j) (nI (aN S j)) N (nI k) w) (fun _ w' => uD w0 J S T H w') := by
  have hz := hS.1 j hj
  intro m
  induction m with
  | zero =>
    intro k N w hk hk1 hN h
    obtain ⟨N, rfl⟩ : ∃ k, N = k + 1 := ⟨N - 1, by omega⟩
    rw [fX8_unlike_L22.eq_2, if_pos (nI_lt (by omega) (by omega))]
    exact unlike_71 hz h (aN S j) 1 zFU 0 0 0 (by omega) (by omega) (fuelN (by omega))
  | succ m ih =>
    intro k N w hk hk1 hN h
    obtain ⟨N, rfl⟩ : ∃ k, N = k + 1 := ⟨N - 1, by omega⟩
    rw [fX8_unlike_L22.eq_2, if_neg (fun q => by have := (nI_ltI (by omega) (by omega)).mp q; omega)]
    refine ok_b (sums_s hW h (a := 0) (by omega) hz (fun x hx => sI hS hj hx) (by omega)) (fun _ w2 a2 => ?_)
    rw [zin_t (show k < 129 by omega) (by decide), zg_t, lt_e, zg_t, lt_e, nI_1]
    exact ih (k + 1) N _ (by omega) (by omega) (by omega) (uD_L (uD_L a2.1 (by unfold gD; omega)) (by unfold gD; omega))
theorem unlike8_t (hW : jW J) (hS : sW J S) (h : uD w0 J S T H w) (a : Int32) : Ok (fX8_unlike a w) (fun _ w' => uD w0 J S T H w') := by
  rw [fX8_unlike, lt_e]
  rcases ln a with hl | ⟨j, hj, rfl⟩
  · rw [isLine_n _ hl, bd_s, ff]; exact ok_r (uD_0 h)
  have hz := hS.1 j hj
  rw [isLine_s _ hj, bd_s, tt, sizeOf_s (uD_0 h) (by omega), bd_s]
  exact unlike_22 hW hS hj (aN S j) 1 zFU _ (by omega) (by omega) (fuelN (by omega)) (uD_0 h)
theorem hasCell_L (hS : sW J S) (h : uD w0 J S T H w) {j : Nat} (hj : j < 4) {c : Int32} : ∀ m i N, i + m = aN S j → m < N → ∃ b, fX8_hasCell_L2 (nI j) c N (nI i) w = some (b, w) := by
  have hz := hS.1 j hj
  intro m
  induction m with
  | zero =>
    intro i N hi hN
    obtain ⟨N, rfl⟩ : ∃ k, N = k + 1 := ⟨N - 1, by omega⟩
    rw [fX8_hasCell_L2.eq_2, sizeOf_s h (by omega), bd_s, if_pos (nI_le (by omega) (by omega))]; exact ⟨_, rfl⟩
  | succ m ih =>
    intro i N hi hN
    obtain ⟨N, rfl⟩ : ∃ k, N = k + 1 := ⟨N - 1, by omega⟩
    have hp := pH_l (show i < aN S j by omega)
    have hk : pK S j i < 10 := pK_b (by omega)
    have hq : sZ S (pK S j i) ≤ 64 := pK_64 hz
    rw [fX8_hasCell_L2.eq_2, sizeOf_s h (by omega), bd_s, if_neg (Int32.not_le.mpr (nI_lt (by omega) (by omega))), placeOf_s h (by omega) (by unfold aN at hz; omega) (by omega), bd_s, zin_t (show 64 * pK S j i + pH S j i < 640 by omega) (by decide), zg_t]
    by_cases q : zI w 84 (nI (64 * pK S j i + pH S j i)).toNatClampNeg = c
    · rw [if_neg (not_not_intro q)]; exact ⟨_, rfl⟩
    · rw [if_pos q, nI_1]; exact ih (i + 1) N (by omega) (by omega)
theorem hasCell_t (hS : sW J S) (h : uD w0 J S T H w) {j : Nat} (hj : j < 4) (c : Int32) : ∃ b, fX8_hasCell (nI j) c w = some (b, w) := by
  have hz := hS.1 j hj
  rw [fX8_hasCell]
  exact hasCell_L hS h hj (aN S j) 0 zFU (by omega) (fuelN (by omega))
end W0
end Q6
