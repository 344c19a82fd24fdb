set_option maxRecDepth 100000 in
set_option maxHeartbeats 4000000 in
theorem law_run {L : Nat} {xs : Nat → Int32} (hL : L ≤ 2048) : ∀ (n k : Nat) (w : zW), L + 4 ≤ 4 * k + 4 * n → 4 * k ≤ L + 3 → Rw w → Lz (fL_law_L23 L xs (n + 1) (nI (4 * k)) w) := by
  intro n
  induction n with
  | zero =>
    intro k w hn hk h
    exact absurd hk (by omega)
  | succ n ih =>
  intro k w hn hk h
  rw [fL_law_L23]
  refine lz_i (fun _ => ⟨w, rfl⟩) (fun q => ?_)
  have hk4 := zlw_bd hL hk q
  obtain ⟨z0, z1, z2, z3⟩ := zin_4 hk4 hL
  refine lz_g z0 (lz_l (fun w2 h2 => ?_) (fun j hj => ?_))
  · rw [zlw_nx k]; exact ih (k + 1) w2 (by omega) (by omega) h2
  obtain ⟨J, S, T, h⟩ := h
  refine lz_i (fun _ => lz_g z1 (lz_1 z1 (rule_b h (xs ((nI (4 * k)) + (1 : Int32)).toNatClampNeg)) (fun _ _ _ w2 _ hR => hj w2 hR))) (fun _ => ?_)
  refine lz_i (fun _ => lz_0 (table_b h ) (fun _ _ _ w2 _ hR => hj w2 hR)) (fun _ => ?_)
  refine lz_i (fun _ => lz_g z1 (lz_g z2 (lz_2 z1 z2 (commutes_b h (xs ((nI (4 * k)) + (1 : Int32)).toNatClampNeg) (xs ((nI (4 * k)) + (2 : Int32)).toNatClampNeg)) (fun _ _ _ w2 _ hR => hj w2 hR)))) (fun _ => ?_)
  refine lz_i (fun _ => lz_g z1 (lz_g z2 (lz_2 z1 z2 (powers_b h (xs ((nI (4 * k)) + (1 : Int32)).toNatClampNeg) (xs ((nI (4 * k)) + (2 : Int32)).toNatClampNeg)) (fun _ _ _ w2 _ hR => hj w2 hR)))) (fun _ => ?_)
  refine lz_i (fun _ => lz_g z1 (lz_1 z1 (order_b h (xs ((nI (4 * k)) + (1 : Int32)).toNatClampNeg)) (fun _ _ _ w2 _ hR => hj w2 hR))) (fun _ => ?_)
  refine lz_i (fun _ => lz_g z1 (lz_1 z1 (undoes_b h (xs ((nI (4 * k)) + (1 : Int32)).toNatClampNeg)) (fun _ _ _ w2 _ hR => hj w2 hR))) (fun _ => ?_)
  refine lz_i (fun _ => lz_g z1 (lz_g z2 (lz_g z3 (lz_3 z1 z2 z3 (puts_b h (xs ((nI (4 * k)) + (1 : Int32)).toNatClampNeg) (xs ((nI (4 * k)) + (2 : Int32)).toNatClampNeg) (xs ((nI (4 * k)) + (3 : Int32)).toNatClampNeg)) (fun _ _ _ w2 _ hR => hj w2 hR))))) (fun _ => ?_)
  refine lz_i (fun _ => lz_g z1 (lz_g z2 (lz_2 z1 z2 (takes_b h (xs ((nI (4 * k)) + (1 : Int32)).toNatClampNeg) (xs ((nI (4 * k)) + (2 : Int32)).toNatClampNeg)) (fun _ _ _ w2 _ hR => hj w2 hR)))) (fun _ => ?_)
  refine lz_i (fun _ => lz_g z1 (lz_g z2 (lz_2 z1 z2 (copies_b h (xs ((nI (4 * k)) + (1 : Int32)).toNatClampNeg) (xs ((nI (4 * k)) + (2 : Int32)).toNatClampNeg)) (fun _ _ _ w2 _ hR => hj w2 hR)))) (fun _ => ?_)
  refine lz_i (fun _ => lz_g z1 (lz_g z2 (lz_2 z1 z2 (joins_b h (xs ((nI (4 * k)) + (1 : Int32)).toNatClampNeg) (xs ((nI (4 * k)) + (2 : Int32)).toNatClampNeg)) (fun _ _ _ w2 _ hR => hj w2 hR)))) (fun _ => ?_)
  refine lz_i (fun _ => lz_g z1 (lz_g z2 (lz_g z3 (lz_3 z1 z2 z3 (parts_b h (xs ((nI (4 * k)) + (1 : Int32)).toNatClampNeg) (xs ((nI (4 * k)) + (2 : Int32)).toNatClampNeg) (xs ((nI (4 * k)) + (3 : Int32)).toNatClampNeg)) (fun _ _ _ w2 _ hR => hj w2 hR))))) (fun _ => ?_)
  refine lz_i (fun _ => lz_g z1 (lz_1 z1 (reverses_b h (xs ((nI (4 * k)) + (1 : Int32)).toNatClampNeg)) (fun _ _ _ w2 _ hR => hj w2 hR))) (fun _ => ?_)
  refine lz_i (fun _ => lz_g z1 (lz_g z2 (lz_g z3 (lz_3 z1 z2 z3 (changes_b h (xs ((nI (4 * k)) + (1 : Int32)).toNatClampNeg) (xs ((nI (4 * k)) + (2 : Int32)).toNatClampNeg) (xs ((nI (4 * k)) + (3 : Int32)).toNatClampNeg)) (fun _ _ _ w2 _ hR => hj w2 hR))))) (fun _ => ?_)
  refine lz_i (fun _ => lz_g z1 (lz_g z2 (lz_g z3 (lz_3 z1 z2 z3 (slips_b h (xs ((nI (4 * k)) + (1 : Int32)).toNatClampNeg) (xs ((nI (4 * k)) + (2 : Int32)).toNatClampNeg) (xs ((nI (4 * k)) + (3 : Int32)).toNatClampNeg)) (fun _ _ _ w2 _ hR => hj w2 hR))))) (fun _ => ?_)
  refine lz_i (fun _ => lz_g z1 (lz_g z2 (lz_2 z1 z2 (drops_b h (xs ((nI (4 * k)) + (1 : Int32)).toNatClampNeg) (xs ((nI (4 * k)) + (2 : Int32)).toNatClampNeg)) (fun _ _ _ w2 _ hR => hj w2 hR)))) (fun _ => ?_)
  refine lz_i (fun _ => lz_g z1 (lz_g z2 (lz_g z3 (lz_3 z1 z2 z3 (shifts_b h (xs ((nI (4 * k)) + (1 : Int32)).toNatClampNeg) (xs ((nI (4 * k)) + (2 : Int32)).toNatClampNeg) (xs ((nI (4 * k)) + (3 : Int32)).toNatClampNeg)) (fun _ _ _ w2 _ hR => hj w2 hR))))) (fun _ => ?_)
  refine lz_i (fun _ => lz_g z1 (lz_1 z1 (clears_b h (xs ((nI (4 * k)) + (1 : Int32)).toNatClampNeg)) (fun _ _ _ w2 _ hR => hj w2 hR))) (fun _ => ?_)
  refine lz_i (fun _ => lz_g z1 (lz_1 z1 (run_b h (xs ((nI (4 * k)) + (1 : Int32)).toNatClampNeg)) (fun _ _ _ w2 _ hR => hj w2 hR))) (fun _ => ?_)
  refine lz_i (fun _ => lz_g z1 (lz_1 z1 (sign_b h (xs ((nI (4 * k)) + (1 : Int32)).toNatClampNeg)) (fun _ _ _ w2 _ hR => hj w2 hR))) (fun _ => ?_)
  refine lz_i (fun _ => lz_g z1 (lz_1 z1 (end_b h (xs ((nI (4 * k)) + (1 : Int32)).toNatClampNeg)) (fun _ _ _ w2 _ hR => hj w2 hR))) (fun _ => ?_)
  refine lz_i (fun _ => lz_g z1 (lz_1 z1 (sum_b h (xs ((nI (4 * k)) + (1 : Int32)).toNatClampNeg)) (fun _ _ _ w2 _ hR => hj w2 hR))) (fun _ => ?_)
  refine lz_i (fun _ => lz_g z1 (lz_g z2 (lz_2 z1 z2 (item_t h (xs ((nI (4 * k)) + (1 : Int32)).toNatClampNeg) (xs ((nI (4 * k)) + (2 : Int32)).toNatClampNeg)) (fun _ _ _ w2 _ hR => hj w2 hR)))) (fun _ => ?_)
  refine lz_i (fun _ => lz_g z1 (lz_g z2 (lz_g z3 (lz_3 z1 z2 z3 (part_b h (xs ((nI (4 * k)) + (1 : Int32)).toNatClampNeg) (xs ((nI (4 * k)) + (2 : Int32)).toNatClampNeg) (xs ((nI (4 * k)) + (3 : Int32)).toNatClampNeg)) (fun _ _ _ w2 _ hR => hj w2 hR))))) (fun _ => ?_)
  refine lz_i (fun _ => lz_g z1 (lz_g z2 (lz_2 z1 z2 (windows_b h (xs ((nI (4 * k)) + (1 : Int32)).toNatClampNeg) (xs ((nI (4 * k)) + (2 : Int32)).toNatClampNeg)) (fun _ _ _ w2 _ hR => hj w2 hR)))) (fun _ => ?_)
  refine lz_i (fun _ => lz_g z1 (lz_g z2 (lz_2 z1 z2 (first_b h (xs ((nI (4 * k)) + (1 : Int32)).toNatClampNeg) (xs ((nI (4 * k)) + (2 : Int32)).toNatClampNeg)) (fun _ _ _ w2 _ hR => hj w2 hR)))) (fun _ => ?_)
  refine lz_i (fun _ => lz_g z1 (lz_g z2 (lz_2 z1 z2 (longest_b h (xs ((nI (4 * k)) + (1 : Int32)).toNatClampNeg) (xs ((nI (4 * k)) + (2 : Int32)).toNatClampNeg)) (fun _ _ _ w2 _ hR => hj w2 hR)))) (fun _ => ?_)
  refine lz_i (fun _ => lz_g z1 (lz_g z2 (lz_2 z1 z2 (greatest_b h (xs ((nI (4 * k)) + (1 : Int32)).toNatClampNeg) (xs ((nI (4 * k)) + (2 : Int32)).toNatClampNeg)) (fun _ _ _ w2 _ hR => hj w2 hR)))) (fun _ => ?_)
  refine lz_i (fun _ => lz_g z1 (lz_g z2 (lz_g z3 (lz_3 z1 z2 z3 (finds_b h (xs ((nI (4 * k)) + (1 : Int32)).toNatClampNeg) (xs ((nI (4 * k)) + (2 : Int32)).toNatClampNeg) (xs ((nI (4 * k)) + (3 : Int32)).toNatClampNeg)) (fun _ _ _ w2 _ hR => hj w2 hR))))) (fun _ => ?_)
  refine lz_i (fun _ => lz_g z1 (lz_1 z1 (drains_b h (xs ((nI (4 * k)) + (1 : Int32)).toNatClampNeg)) (fun _ _ _ w2 _ hR => hj w2 hR))) (fun _ => ?_)
  refine lz_i (fun _ => lz_g z1 (lz_1 z1 (unlike_b h (xs ((nI (4 * k)) + (1 : Int32)).toNatClampNeg)) (fun _ _ _ w2 _ hR => hj w2 hR))) (fun _ => ?_)
  refine lz_i (fun _ => lz_g z1 (lz_g z2 (lz_2 z1 z2 (same_b h (xs ((nI (4 * k)) + (1 : Int32)).toNatClampNeg) (xs ((nI (4 * k)) + (2 : Int32)).toNatClampNeg)) (fun _ _ _ w2 _ hR => hj w2 hR)))) (fun _ => ?_)
  refine lz_i (fun _ => lz_0 (shared_t h ) (fun _ _ _ w2 _ hR => hj w2 hR)) (fun _ => ?_)
  refine lz_i (fun _ => lz_g z1 (lz_g z2 (lz_2 z1 z2 (would_b h (xs ((nI (4 * k)) + (1 : Int32)).toNatClampNeg) (xs ((nI (4 * k)) + (2 : Int32)).toNatClampNeg)) (fun _ _ _ w2 _ hR => hj w2 hR)))) (fun _ => ?_)
  refine lz_i (fun _ => lz_g z1 (lz_g z2 (lz_2 z1 z2 (dearest_b h (xs ((nI (4 * k)) + (1 : Int32)).toNatClampNeg) (xs ((nI (4 * k)) + (2 : Int32)).toNatClampNeg)) (fun _ _ _ w2 hP hR => lz_i (fun _ => hj w2 hR) (fun q => absurd hP q))))) (fun _ => ?_)
  refine lz_i (fun _ => lz_g z1 (lz_1 z1 (count_t h (xs ((nI (4 * k)) + (1 : Int32)).toNatClampNeg)) (fun _ _ _ w2 _ hR => hj w2 hR))) (fun _ => ?_)
  refine lz_i (fun _ => lz_g z1 (lz_1 z1 (row_t h (xs ((nI (4 * k)) + (1 : Int32)).toNatClampNeg)) (fun _ _ _ w2 _ hR => hj w2 hR))) (fun _ => ?_)
  exact hj w ⟨J, S, T, h⟩
theorem law_pure (L : Nat) (xs : Nat → Int32) (hL : L ≤ 2048) : ∃ w, fL_law_L23 L xs zFU (nI (4 * 0)) zw0 = some ((), w) :=
  law_run hL (zFU - 1) 0 zw0 (by unfold zFU; omega) (by omega) rw_0
