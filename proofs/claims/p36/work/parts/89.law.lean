set_option maxRecDepth 100000 in
set_option maxHeartbeats 4000000 in
theorem law_run {L : Nat} {xs : Nat → Int32} (hL : L ≤ 2048) : ∀ (n k : Nat) (w : zW), L + 4 ≤ 4 * k + 4 * n → 4 * k ≤ L + 3 → Rw k w → Lz (fL_law_L23 L xs (n + 1) (nI (4 * k)) w) := by
  intro n
  induction n with
  | zero =>
    intro k w hn hk h
    exact absurd hk (by omega)
  | succ n ih =>
  intro k w hn hk h
  rw [fL_law_L23]
  refine lz_i (fun _ => ⟨w, rfl⟩) (fun q => ?_)
  have hk4 := zlw_bd hL hk q
  obtain ⟨z0, z1, z2, z3⟩ := zin_4 hk4 hL
  refine lz_g z0 (lz_l (k := k + 1) (fun w2 h2 => ?_) (fun j hj => ?_))
  · rw [zlw_nx k]; exact ih (k + 1) w2 (by omega) (by omega) h2
  obtain ⟨J, S, T, h, hm⟩ := h
  have hM : ∃ M, M < 2147483648 ∧ mI S M := hm.elim fun M q => ⟨M, by have := q.1; omega, q.2⟩
  refine lz_i (fun _ => lz_g z1 (lz_1 z1 hm (rule_b h (xs ((nI (4 * k)) + (1 : Int32)).toNatClampNeg)) (fun _ _ _ w2 _ hR => hj w2 hR))) (fun _ => ?_)
  refine lz_i (fun _ => lz_0 hm (table_b h ) (fun _ _ _ w2 _ hR => hj w2 hR)) (fun _ => ?_)
  refine lz_i (fun _ => lz_g z1 (lz_g z2 (lz_2 z1 z2 hm (commutes_b h (xs ((nI (4 * k)) + (1 : Int32)).toNatClampNeg) (xs ((nI (4 * k)) + (2 : Int32)).toNatClampNeg)) (fun _ _ _ w2 _ hR => hj w2 hR)))) (fun _ => ?_)
  refine lz_i (fun _ => lz_g z1 (lz_g z2 (lz_2 z1 z2 hm (powers_b h (xs ((nI (4 * k)) + (1 : Int32)).toNatClampNeg) (xs ((nI (4 * k)) + (2 : Int32)).toNatClampNeg)) (fun _ _ _ w2 _ hR => hj w2 hR)))) (fun _ => ?_)
  refine lz_i (fun _ => lz_g z1 (lz_1 z1 hm (order_b h (xs ((nI (4 * k)) + (1 : Int32)).toNatClampNeg)) (fun _ _ _ w2 _ hR => hj w2 hR))) (fun _ => ?_)
  refine lz_i (fun _ => lz_g z1 (lz_1 z1 hm (undoes_b h (xs ((nI (4 * k)) + (1 : Int32)).toNatClampNeg)) (fun _ _ _ w2 _ hR => hj w2 hR))) (fun _ => ?_)
  refine lz_i (fun _ => lz_g z1 (lz_g z2 (lz_g z3 (lz_3 z1 z2 z3 hm (puts_b h (xs ((nI (4 * k)) + (1 : Int32)).toNatClampNeg) (xs ((nI (4 * k)) + (2 : Int32)).toNatClampNeg) (xs ((nI (4 * k)) + (3 : Int32)).toNatClampNeg)) (fun _ _ _ w2 _ hR => hj w2 hR))))) (fun _ => ?_)
  refine lz_i (fun _ => lz_g z1 (lz_g z2 (lz_2 z1 z2 hm (takes_b h (xs ((nI (4 * k)) + (1 : Int32)).toNatClampNeg) (xs ((nI (4 * k)) + (2 : Int32)).toNatClampNeg)) (fun _ _ _ w2 _ hR => hj w2 hR)))) (fun _ => ?_)
  refine lz_i (fun _ => lz_g z1 (lz_g z2 (lz_2 z1 z2 hm (copies_b h (xs ((nI (4 * k)) + (1 : Int32)).toNatClampNeg) (xs ((nI (4 * k)) + (2 : Int32)).toNatClampNeg)) (fun _ _ _ w2 _ hR => hj w2 hR)))) (fun _ => ?_)
  refine lz_i (fun _ => lz_g z1 (lz_g z2 (lz_2 z1 z2 hm (joins_b h (xs ((nI (4 * k)) + (1 : Int32)).toNatClampNeg) (xs ((nI (4 * k)) + (2 : Int32)).toNatClampNeg)) (fun _ _ _ w2 _ hR => hj w2 hR)))) (fun _ => ?_)
  refine lz_i (fun _ => lz_g z1 (lz_g z2 (lz_g z3 (lz_3 z1 z2 z3 hm (parts_b h (xs ((nI (4 * k)) + (1 : Int32)).toNatClampNeg) (xs ((nI (4 * k)) + (2 : Int32)).toNatClampNeg) (xs ((nI (4 * k)) + (3 : Int32)).toNatClampNeg)) (fun _ _ _ w2 _ hR => hj w2 hR))))) (fun _ => ?_)
  refine lz_i (fun _ => lz_g z1 (lz_1 z1 hm (reverses_b h (xs ((nI (4 * k)) + (1 : Int32)).toNatClampNeg)) (fun _ _ _ w2 _ hR => hj w2 hR))) (fun _ => ?_)
  refine lz_i (fun _ => lz_g z1 (lz_g z2 (lz_g z3 (lz_3 z1 z2 z3 hm (changes_b h (xs ((nI (4 * k)) + (1 : Int32)).toNatClampNeg) (xs ((nI (4 * k)) + (2 : Int32)).toNatClampNeg) (xs ((nI (4 * k)) + (3 : Int32)).toNatClampNeg)) (fun _ _ _ w2 _ hR => hj w2 hR))))) (fun _ => ?_)
  refine lz_i (fun _ => lz_g z1 (lz_g z2 (lz_g z3 (lz_3 z1 z2 z3 hm (slips_b h (xs ((nI (4 * k)) + (1 : Int32)).toNatClampNeg) (xs ((nI (4 * k)) + (2 : Int32)).toNatClampNeg) (xs ((nI (4 * k)) + (3 : Int32)).toNatClampNeg)) (fun _ _ _ w2 _ hR => hj w2 hR))))) (fun _ => ?_)
  refine lz_i (fun _ => lz_g z1 (lz_g z2 (lz_2 z1 z2 hm (drops_b h (xs ((nI (4 * k)) + (1 : Int32)).toNatClampNeg) (xs ((nI (4 * k)) + (2 : Int32)).toNatClampNeg)) (fun _ _ _ w2 _ hR => hj w2 hR)))) (fun _ => ?_)
  refine lz_i (fun _ => lz_g z1 (lz_g z2 (lz_g z3 (lz_3 z1 z2 z3 hm (shifts_b h (xs ((nI (4 * k)) + (1 : Int32)).toNatClampNeg) (xs ((nI (4 * k)) + (2 : Int32)).toNatClampNeg) (xs ((nI (4 * k)) + (3 : Int32)).toNatClampNeg)) (fun _ _ _ w2 _ hR => hj w2 hR))))) (fun _ => ?_)
  refine lz_i (fun _ => lz_g z1 (lz_1 z1 hm (clears_b h (xs ((nI (4 * k)) + (1 : Int32)).toNatClampNeg)) (fun _ _ _ w2 _ hR => hj w2 hR))) (fun _ => ?_)
  refine lz_i (fun _ => lz_g z1 (lz_1 z1 hm (run_b h (xs ((nI (4 * k)) + (1 : Int32)).toNatClampNeg)) (fun _ _ _ w2 _ hR => hj w2 hR))) (fun _ => ?_)
  refine lz_i (fun _ => lz_g z1 (lz_1 z1 hm (sign_b h (xs ((nI (4 * k)) + (1 : Int32)).toNatClampNeg)) (fun _ _ _ w2 _ hR => hj w2 hR))) (fun _ => ?_)
  refine lz_i (fun _ => lz_g z1 (lz_1 z1 hm (end_b h (xs ((nI (4 * k)) + (1 : Int32)).toNatClampNeg)) (fun _ _ _ w2 _ hR => hj w2 hR))) (fun _ => ?_)
  refine lz_i (fun _ => lz_g z1 (lz_1 z1 hm (sum_b h (xs ((nI (4 * k)) + (1 : Int32)).toNatClampNeg)) (fun _ _ _ w2 _ hR => hj w2 hR))) (fun _ => ?_)
  refine lz_i (fun _ => lz_g z1 (lz_g z2 (lz_2 z1 z2 hm (item_t h (xs ((nI (4 * k)) + (1 : Int32)).toNatClampNeg) (xs ((nI (4 * k)) + (2 : Int32)).toNatClampNeg)) (fun _ _ _ w2 _ hR => hj w2 hR)))) (fun _ => ?_)
  refine lz_i (fun _ => lz_g z1 (lz_g z2 (lz_g z3 (lz_3 z1 z2 z3 hm (part_b h (xs ((nI (4 * k)) + (1 : Int32)).toNatClampNeg) (xs ((nI (4 * k)) + (2 : Int32)).toNatClampNeg) (xs ((nI (4 * k)) + (3 : Int32)).toNatClampNeg)) (fun _ _ _ w2 _ hR => hj w2 hR))))) (fun _ => ?_)
  refine lz_i (fun _ => lz_g z1 (lz_g z2 (lz_2 z1 z2 hm (windows_b h (xs ((nI (4 * k)) + (1 : Int32)).toNatClampNeg) (xs ((nI (4 * k)) + (2 : Int32)).toNatClampNeg)) (fun _ _ _ w2 _ hR => hj w2 hR)))) (fun _ => ?_)
  refine lz_i (fun _ => lz_g z1 (lz_g z2 (lz_2 z1 z2 hm (first_b h (xs ((nI (4 * k)) + (1 : Int32)).toNatClampNeg) (xs ((nI (4 * k)) + (2 : Int32)).toNatClampNeg)) (fun _ _ _ w2 _ hR => hj w2 hR)))) (fun _ => ?_)
  refine lz_i (fun _ => lz_g z1 (lz_g z2 (lz_2 z1 z2 hm (longest_b h (xs ((nI (4 * k)) + (1 : Int32)).toNatClampNeg) (xs ((nI (4 * k)) + (2 : Int32)).toNatClampNeg)) (fun _ _ _ w2 _ hR => hj w2 hR)))) (fun _ => ?_)
  refine lz_i (fun _ => lz_g z1 (lz_g z2 (lz_2 z1 z2 hm (greatest_b h (xs ((nI (4 * k)) + (1 : Int32)).toNatClampNeg) (xs ((nI (4 * k)) + (2 : Int32)).toNatClampNeg)) (fun _ _ _ w2 _ hR => hj w2 hR)))) (fun _ => ?_)
  refine lz_i (fun _ => lz_g z1 (lz_g z2 (lz_g z3 (lz_3 z1 z2 z3 hm (finds_b h (xs ((nI (4 * k)) + (1 : Int32)).toNatClampNeg) (xs ((nI (4 * k)) + (2 : Int32)).toNatClampNeg) (xs ((nI (4 * k)) + (3 : Int32)).toNatClampNeg)) (fun _ _ _ w2 _ hR => hj w2 hR))))) (fun _ => ?_)
  refine lz_i (fun _ => lz_g z1 (lz_1 z1 hm (drains_b h (xs ((nI (4 * k)) + (1 : Int32)).toNatClampNeg)) (fun _ _ _ w2 _ hR => hj w2 hR))) (fun _ => ?_)
  refine lz_i (fun _ => lz_g z1 (lz_1 z1 hm (unlike_b h (xs ((nI (4 * k)) + (1 : Int32)).toNatClampNeg)) (fun _ _ _ w2 _ hR => hj w2 hR))) (fun _ => ?_)
  refine lz_i (fun _ => lz_g z1 (lz_g z2 (lz_2 z1 z2 hm (same_b h hM (xs ((nI (4 * k)) + (1 : Int32)).toNatClampNeg) (xs ((nI (4 * k)) + (2 : Int32)).toNatClampNeg)) (fun _ _ _ w2 _ hR => hj w2 hR)))) (fun _ => ?_)
  refine lz_i (fun _ => lz_0 hm (shared_b h hM) (fun _ _ _ w2 _ hR => hj w2 hR)) (fun _ => ?_)
  refine lz_i (fun _ => lz_g z1 (lz_g z2 (lz_2 z1 z2 hm (would_b h (xs ((nI (4 * k)) + (1 : Int32)).toNatClampNeg) (xs ((nI (4 * k)) + (2 : Int32)).toNatClampNeg)) (fun _ _ _ w2 _ hR => hj w2 hR)))) (fun _ => ?_)
  refine lz_i (fun _ => lz_g z1 (lz_g z2 (lz_2 z1 z2 hm (dearest_b h (xs ((nI (4 * k)) + (1 : Int32)).toNatClampNeg) (xs ((nI (4 * k)) + (2 : Int32)).toNatClampNeg)) (fun _ _ _ w2 _ hR => hj w2 hR)))) (fun _ => ?_)
  refine lz_i (fun _ => lz_g z1 (lz_1 z1 hm (count_b h (xs ((nI (4 * k)) + (1 : Int32)).toNatClampNeg)) (fun _ _ _ w2 hP hR => lz_i (fun _ => hj w2 hR) (fun q => absurd hP q)))) (fun _ => ?_)
  refine lz_i (fun _ => lz_g z1 (lz_1 z1 hm (row_t h (xs ((nI (4 * k)) + (1 : Int32)).toNatClampNeg)) (fun _ _ _ w2 _ hR => hj w2 hR))) (fun _ => ?_)
  exact hj w (rw_m ⟨J, S, T, h, hm⟩)
theorem law_pure (L : Nat) (xs : Nat → Int32) (hL : L ≤ 2048) : ∃ w, fL_law_L23 L xs zFU (nI (4 * 0)) zw0 = some ((), w) :=
  law_run hL (zFU - 1) 0 zw0 (by unfold zFU; omega) (by omega) rw_0
