set_option maxRecDepth 16384
section XA
variable {J : aJ} {S S' : aS} {j : Nat}
theorem xE_l (c : Nat) : xE c < 2 := by unfold xE; split <;> omega
theorem xA_W (hW : jW J) (hS : sW J S) (hj : j < 4) {a : Nat × Nat} (ha : a.2 < 10000) (h : xA J j a S = some S') : sW J S' := by
  have hz := hS.1 j hj
  unfold xA at h
  by_cases c1 : a.1 = 114
  · rw [if_pos c1] at h
    cases h
    exact lS_W hW hS hj (by unfold aN; omega) hz (fun i hi => sI hS hj (by omega))
  · rw [if_neg c1] at h
    by_cases c2 : isP a.1
    · rw [if_pos c2] at h
      by_cases c3 : aN S j < 64
      · rw [if_pos c3] at h
        cases h
        exact (mS_W hW hS hj (xE_l _) ha c3).1
      · rw [if_neg c3] at h; cases h
    · rw [if_neg c2] at h
      by_cases c3 : aN S j = 0
      · rw [if_pos c3] at h; cases h
      · rw [if_neg c3] at h
        cases h
        exact tS_W hW hS hj (xE_l _) (by omega)
theorem xL_W (hW : jW J) (hj : j < 4) : ∀ (l : List (Nat × Nat)) (S : aS), sW J S → (∀ a ∈ l, a.2 < 10000) → sW J (xL J j l S).2 := by
  intro l
  induction l with
  | nil => intro S hS _; exact hS
  | cons a r ih =>
    intro S hS hl
    unfold xL
    cases e : xA J j a S with
    | none => exact hS
    | some S' => exact ih S' (xA_W hW hS hj (hl a (List.mem_cons_self ..)) e) (fun b hb => hl b (List.mem_cons_of_mem _ hb))
theorem xL_n (l : List (Nat × Nat)) (S : aS) (h : xL J j l S = xL J j l S) : (xL J j l S).1 ≤ l.length := by
  clear h
  induction l generalizing S with
  | nil => exact Nat.le_refl 0
  | cons a r ih =>
    unfold xL
    cases e : xA J j a S with
    | none => exact Nat.zero_le _
    | some S' => exact Nat.succ_le_succ (ih S')
theorem aL_i {s : Nat → Nat} {n : Nat} : ∀ m p, ∀ a ∈ aL s n m p, a.2 < 10000 ∧ (isP a.1 ∨ isX a.1) := by
  intro m
  induction m with
  | zero => intro p a h; cases h
  | succ m ih =>
    intro p a h
    unfold aL at h
    by_cases c : isP (s p) ∨ isX (s p)
    · rw [if_pos c] at h
      rcases List.mem_cons.mp h with rfl | h
      · exact ⟨iB_l p, c⟩
      · exact ih _ a h
    · rw [if_neg c] at h; exact ih _ a h
theorem aL_n {s : Nat → Nat} {n : Nat} : ∀ m p, (aL s n m p).length ≤ m := by
  intro m
  induction m with
  | zero => intro p; exact Nat.le_refl 0
  | succ m ih =>
    intro p
    unfold aL
    split
    · exact Nat.succ_le_succ (ih _)
    · exact Nat.le_succ_of_le (ih _)
variable {w0 : zX} {w : zW} {T : aT} {H : Nat → Int32}
theorem act_s (hW : jW J) (hS : sW J S) (h : uC w0 J S T H w) (hj : j < 4) {c v : Nat} (hc : c < 256) (hv : v < 10000) (hx : isP c ∨ isX c) : Ok (fX7_act (LN j) (nI c) (nI v) w) (fun b w' => match xA J j (c, v) S with | none => b = false ∧ ∃ H', uC w0 J S T H' w' | some S' => b = true ∧ ∃ H', uC w0 J S' T H' w') := by
  have hz := hS.1 j hj
  have q102 := nI_c (a := c) 102 hc (by decide)
  have q98 := nI_c (a := c) 98 hc (by decide)
  have q114 := nI_c (a := c) 114 hc (by decide)
  have q70 := nI_c (a := c) 70 hc (by decide)
  have h0 := hS.2.1 (2 * j) (by omega)
  have h1 := hS.2.1 (2 * j + 1) (by omega)
  rw [fX7_act, lt_e]
  unfold xA
  by_cases c1 : c = 114
  · rw [if_neg (show ¬ ¬ nI c = 114 from not_not_intro (q114.mpr c1)), if_pos c1]
    refine ok_b (turn_s hW h (by omega) hz (kV_I h0) (kV_I h1)) (fun _ w1 a1 => ok_r ⟨rfl, a1⟩)
  · rw [if_pos (show ¬ nI c = 114 from fun q => c1 (q114.mp q)), if_neg c1, lt_e]
    have e8 : (if nI c = 102 then (0 : Int32) else if ¬ nI c = 70 then (1 : Int32) else (0 : Int32)) = nI (xE c) := by
      unfold xE
      by_cases d1 : c = 102
      · rw [if_pos (show nI c = 102 from q102.mpr d1), if_pos (.inl d1)]; rfl
      · rw [if_neg (show ¬ nI c = 102 from fun q => d1 (q102.mp q))]
        by_cases d2 : c = 70
        · rw [if_neg (show ¬ ¬ nI c = 70 from not_not_intro (q70.mpr d2)), if_pos (.inr d2)]; rfl
        · rw [if_pos (show ¬ nI c = 70 from fun q => d2 (q70.mp q)), if_neg (fun z => z.elim d1 d2)]; rfl
    by_cases c2 : isP c
    · have e3 : (if nI c = 102 then (1 : Int32) else if ¬ nI c = 98 then (0 : Int32) else (1 : Int32)) = 1 := by
        rcases c2 with d | d
        · rw [if_pos (show nI c = 102 from q102.mpr d)]
        · rw [if_neg (show ¬ nI c = 102 from fun q => by have := q102.mp q; omega), if_neg (show ¬ ¬ nI c = 98 from not_not_intro (q98.mpr d))]
      rw [e3, if_neg (show ¬ (1 : Int32) = 0 by decide), size_s h (by omega), bd_s, if_pos c2]
      by_cases c3 : aN S j < 64
      · have hk : sZ S (2 * j + xE c) < 64 := by
          have := xE_l c
          unfold aN at c3
          rcases (show xE c = 0 ∨ xE c = 1 by omega) with e | e
          · rw [e]; show sZ S (2 * j) < 64; omega
          · rw [e]; omega
        rw [if_pos (show nI (aN S j) < 64 from nI_lt (b := 64) c3 (by decide)), if_pos c3]
        dsimp only
        rw [lt_e, if_neg (show ¬ (1 : Int32) = 0 by decide), e8]
        refine ok_b (put_s hW h (by omega) (xE_l c) hv hk (sW_V hS (by have := xE_l c; omega))) (fun _ w1 a1 => ok_r ⟨rfl, H, a1⟩)
      · rw [if_neg (show ¬ nI (aN S j) < 64 from fun q => c3 ((nI_ltI (b := 64) (by omega) (by decide)).mp q)), if_neg c3]
        exact ok_r ⟨rfl, H, h⟩
    · have e3 : (if nI c = 102 then (1 : Int32) else if ¬ nI c = 98 then (0 : Int32) else (1 : Int32)) = 0 := by
        rw [if_neg (show ¬ nI c = 102 from fun q => c2 (.inl (q102.mp q))), if_pos (show ¬ nI c = 98 from fun q => c2 (.inr (q98.mp q)))]
      rw [e3, if_pos rfl, size_s h (by omega), bd_s, if_neg c2]
      by_cases c3 : aN S j = 0
      · rw [if_neg (show ¬ ¬ nI (aN S j) = 0 by rw [c3]; decide), if_pos c3]
        exact ok_r ⟨rfl, H, h⟩
      · rw [if_pos (nI_ne0 (by omega) (by omega)), if_neg c3]
        dsimp only
        rw [lt_e, if_pos rfl, e8]
        refine ok_b (take_s hW h (by omega) (xE_l c) hz (by omega) h0 h1) (fun _ w1 a1 => ok_r ⟨rfl, a1.2⟩)
theorem run_tail (hW : jW J) (hS : sW J S) (h : uC w0 J S T H w) (hj : j < 4) (d x5 x7 : Int32) : Ok (bd (fX1_size (LN j) w) fun v20 w18 => bd (fX7_sumUp (LN j) (0 : Int32) v20 w18) fun _ w21 => bd (fX7_tell___ (x7).toInt64 ((zI w21 4 1) - x5).toInt64 (zL w21 1 2) (zL w21 1 3) w21) fun _ w24 => some (d, w24)) (fun a w' => a = d ∧ ∃ H', uC w0 J S T H' w') := by
  rw [size_s h (by omega), bd_s]
  refine ok_b (sumUp_s hW h (a := 0) (by omega) (hS.1 j hj) (fun x hx => sI hS hj hx) (Nat.zero_le _) (Nat.le_refl _)) (fun _ w2 a2 => ?_)
  exact ok_b (tell4_s a2.1 _ _ _ _) (fun _ w3 a3 => ok_r ⟨rfl, H, a3⟩)
theorem run_L7 (hW : jW J) (hj : j < 4) {n : Nat} (hn : n ≤ 100) (hT : tW T) {x5 : Int32} : ∀ m p d N (S : aS) w, p + m = n → m + 1 < N → sW J S → (∃ H, uC w0 J S T H w) → Ok (fX7_run_L67 (LN j) (nI n) x5 N (nI d) 0 (nI p) w) (fun a w' => a = nI (d + (xL J j (aL T.2 n m p) S).1) ∧ ∃ H', uC w0 J (xL J j (aL T.2 n m p) S).2 T H' w') := by
  intro m
  induction m with
  | zero =>
    intro p d N S w hm hN hS h
    obtain ⟨N, rfl⟩ : ∃ k, N = k + 1 := ⟨N - 1, by omega⟩
    obtain ⟨H, h⟩ := h
    rw [fX7_run_L67.eq_2, lt_e, if_pos (show nI n ≤ nI p from nI_le (by omega) (by omega))]
    exact run_tail hW hS h hj _ _ _
  | succ m ih =>
    intro p d N S w hm hN hS h
    obtain ⟨N, rfl⟩ : ∃ k, N = k + 1 := ⟨N - 1, by omega⟩
    obtain ⟨H, h⟩ := h
    rw [fX7_run_L67.eq_2, lt_e, if_neg (Int32.not_le.mpr (nI_lt (by omega) (by omega))), if_neg (show ¬ ¬ (0 : Int32) = 0 by decide), isAct_s h hT (by omega), bd_s, lt_e]
    by_cases c : isP (T.2 p) ∨ isX (T.2 p)
    · have e : aL T.2 n (m + 1) p = (T.2 p, iB T.2 n p) :: aL T.2 n m (p + 1) := if_pos c
      rw [decide_eq_true c, tt, signAt_s h (by omega), bd_s, behind_s hT h hn (by omega), bd_s, e]
      refine ok_b (act_s hW hS h hj (hT.2 p) (iB_l p) c) (fun b w1 a1 => ?_)
      rw [lt_e, lt_e, lt_e, lt_e]
      unfold xL
      cases eq : xA J j (T.2 p, iB T.2 n p) S with
      | none =>
        rw [eq] at a1
        obtain ⟨rfl, H', a1⟩ := a1
        rw [if_pos (show zb false = 0 from rfl), if_pos (show zb false = 0 from rfl), Int32.add_zero, nI_1]
        obtain ⟨N, rfl⟩ : ∃ k, N = k + 1 := ⟨N - 1, by omega⟩
        dsimp only
        rw [fX7_run_L67.eq_2, lt_e, Nat.add_zero]
        by_cases c2 : nI n ≤ nI (p + 1)
        · rw [if_pos c2]
          exact run_tail hW hS a1 hj _ _ _
        · rw [if_neg c2, if_pos (show ¬ (1 : Int32) = 0 by decide)]
          exact run_tail hW hS a1 hj _ _ _
      | some S' =>
        rw [eq] at a1
        obtain ⟨rfl, a1⟩ := a1
        rw [if_neg (show ¬ zb true = 0 by decide), if_neg (show ¬ zb true = 0 by decide), nI_1, nI_1]
        have := ih (p + 1) (d + 1) N S' w1 (by omega) (by omega) (xA_W hW hS hj (iB_l p) eq) a1
        rw [show d + 1 + (xL J j (aL T.2 n m (p + 1)) S').1 = d + ((xL J j (aL T.2 n m (p + 1)) S').1 + 1) by omega] at this
        exact this
    · have e : aL T.2 n (m + 1) p = aL T.2 n m (p + 1) := if_neg c
      rw [decide_eq_false c, ff, nI_1, e]
      exact ih (p + 1) d N S w (by omega) (by omega) hS ⟨H, h⟩
end XA
