set_option maxRecDepth 16384
theorem oP_b (k : Nat) (h : k < 10) : 8 ≤ oP k ∧ oP k + 4 ≤ 61 := by unfold oP; omega
theorem oP_n {a k : Nat} (h : a ≠ k) : oP a + 5 ≤ oP k ∨ oP k + 5 ≤ oP a := by unfold oP; omega
theorem zl_k : ∀ k, k < 10 → zlen (oP k + 1) = 64 ∧ zlen (oP k + 2) = 64 ∧ zlen (oP k + 3) = 64 ∧ zlen (oP k + 4) = 64 := by decide
theorem zl_5 : zlen 5 = 64 := rfl
theorem LN_0 (j : Nat) : LN j + 1 = oP (2 * j) := by unfold LN oP; omega
theorem LN_1 (j : Nat) : LN j + 6 = oP (2 * j + 1) := by unfold LN oP; omega
theorem seti_s (w : zW) {r len j : Nat} (v : Int32) (hl : zlen r = len) (hj : j < len) (hn : len < 2 ^ 31) : fX7_set r (nI j) v w = some ((), zsI w r j v) := by
  rw [fX7_set, hl, if_neg (nI_pos (by omega)), if_neg (Int32.not_le.mpr (nI_lt hj hn)), zin_t hj hn, zg_t, lt_e, nI_clamp (by omega)]
theorem ati_s (w : zW) {r len j : Nat} (hl : zlen r = len) (hj : j < len) (hn : len < 2 ^ 31) : fX7_at r (nI j) w = some (zI w r j, w) := by
  rw [fX7_at, hl, if_neg (nI_pos (by omega)), if_pos (nI_lt hj hn), zin_t hj hn, zg_t, nI_clamp (by omega)]
def gW (w : zW) (o n : Nat) (v : Int32) (p q : Int64) (m : Int32) : zW := zsI (zsI (zsL (zsL (zsI w (o + 1) n v) (o + 2) n p) (o + 3) n q) (o + 4) n m) o 0 (nI (n + 1))
theorem gW_I (w : zW) (o n : Nat) (v : Int32) (p q : Int64) (m : Int32) (a b : Nat) : zI (gW w o n v p q m) a b = if a = o ∧ b = 0 then nI (n + 1) else if a = o + 4 ∧ b = n then m else if a = o + 1 ∧ b = n then v else zI w a b := rfl
theorem gW_L (w : zW) (o n : Nat) (v : Int32) (p q : Int64) (m : Int32) (a b : Nat) : zL (gW w o n v p q m) a b = if a = o + 3 ∧ b = n then q else if a = o + 2 ∧ b = n then p else zL w a b := rfl
theorem grow_s {w : zW} {k n : Nat} (hk : k < 10) (hn : n < 64) (hz : zI w (oP k) 0 = nI n) (v m : Int32) (p q : Int64) : fX2_grow (oP k) v p q m w = some ((), gW w (oP k) n v p q m) := by
  have hl := zl_k k hk
  have e1 : zI (zsI w (oP k + 1) n v) (oP k) 0 = nI n := by rw [zI_zsI, if_neg (by omega)]; exact hz
  have e2 : zI (zsL (zsL (zsI w (oP k + 1) n v) (oP k + 2) n p) (oP k + 3) n q) (oP k) 0 = nI n := e1
  have e3 : zI (zsI (zsL (zsL (zsI w (oP k + 1) n v) (oP k + 2) n p) (oP k + 3) n q) (oP k + 4) n m) (oP k) 0 = nI n := by rw [zI_zsI, if_neg (by omega)]; exact e2
  rw [fX2_grow, hz, if_neg (show ¬ (64 : Int32) ≤ nI n from Int32.not_le.mpr (nI_lt (b := 64) hn (by decide))), seti_s w v hl.1 hn (by decide), bd_s, e1, set7 _ p hl.2.1 hn (by decide), bd_s, zI_zsL, e1, set7 _ q hl.2.2.1 hn (by decide), bd_s, e2, seti_s _ m hl.2.2.2 hn (by decide), bd_s, e3, lt_e, nI_1]
  rfl
def pQ (k : Nat) (c : aC) (S : aS) : aS := (fun a => if a = k then sZ S k + 1 else sZ S a, fun a h => if a = k ∧ h = sZ S k then c else sC S a h, S.2.2)
theorem pQ_z {k : Nat} {c : aC} {S : aS} : sZ (pQ k c S) k = sZ S k + 1 := if_pos rfl
theorem pQ_zo {k : Nat} {c : aC} {S : aS} {a : Nat} (h : a ≠ k) : sZ (pQ k c S) a = sZ S a := if_neg h
theorem pQ_c {k : Nat} {c : aC} {S : aS} : sC (pQ k c S) k (sZ S k) = c := if_pos ⟨rfl, rfl⟩
theorem pQ_co {k : Nat} {c : aC} {S : aS} {a h : Nat} (n : a ≠ k ∨ h ≠ sZ S k) : sC (pQ k c S) a h = sC S a h := if_neg (fun q => n.elim (fun z => z q.1) (fun z => z q.2))
/-- a CELL upon a STACK of the class -/
theorem uC_q {w0 : zX} {w : zW} {J : aJ} {S : aS} {T : aT} {H : Nat → Int32} {k v : Nat} {p q : Int64} (h : uC w0 J S T H w) (hk : k < 10) (hs : sZ S k < 64) (m : Int32) : uC w0 J (pQ k (v, p, q, m) S) T H (gW w (oP k) (sZ S k) (nI v) p q m) := by
  obtain ⟨a, b, c, d, e, f⟩ := h
  have ho := oP_b k hk
  have hI : ∀ x y, x < 8 ∨ 61 < x → zI (gW w (oP k) (sZ S k) (nI v) p q m) x y = zI w x y := by
    intro x y hx
    rw [gW_I, if_neg (by omega), if_neg (by omega), if_neg (by omega)]
  have hL : ∀ x y, x < 8 ∨ 61 < x → zL (gW w (oP k) (sZ S k) (nI v) p q m) x y = zL w x y := by
    intro x y hx
    rw [gW_L, if_neg (by omega), if_neg (by omega)]
  refine ⟨⟨?_, ?_, ?_, fun i j hi hj => ?_⟩, fun i hi => ?_, ⟨?_, ?_⟩, ⟨?_, fun i hi => ?_⟩, fun i => ?_, fun i j hi => ⟨?_, ?_⟩, f.2⟩
  · rw [hI _ _ (by omega)]; exact a.1
  · rw [hI _ _ (by omega)]; exact a.2.1
  · rw [hI _ _ (by omega)]; exact a.2.2.1
  · rw [hI _ _ (by omega)]; exact a.2.2.2 i j hi hj
  · have hoi := oP_b i hi
    by_cases n : i = k
    · subst n
      refine ⟨?_, fun x hx => ?_⟩
      · rw [gW_I, if_pos ⟨rfl, rfl⟩, pQ_z]
      · rw [pQ_z] at hx
        by_cases n : x = sZ S i
        · subst n
          rw [pQ_c]
          refine ⟨?_, ?_, ?_, ?_⟩
          · rw [gW_I, if_neg (by omega), if_neg (by omega), if_pos ⟨rfl, rfl⟩]
          · rw [gW_L, if_neg (by omega), if_pos ⟨rfl, rfl⟩]
          · rw [gW_L, if_pos ⟨rfl, rfl⟩]
          · rw [gW_I, if_neg (by omega), if_pos ⟨rfl, rfl⟩]
        · rw [pQ_co (.inr n)]
          have hb := (b i hi).2 x (by omega)
          refine ⟨?_, ?_, ?_, ?_⟩
          · rw [gW_I, if_neg (by omega), if_neg (by omega), if_neg (by omega)]; exact hb.1
          · rw [gW_L, if_neg (by omega), if_neg (by omega)]; exact hb.2.1
          · rw [gW_L, if_neg (by omega), if_neg (by omega)]; exact hb.2.2.1
          · rw [gW_I, if_neg (by omega), if_neg (by omega), if_neg (by omega)]; exact hb.2.2.2
    · have hne := oP_n n
      refine ⟨?_, fun x hx => ?_⟩
      · rw [gW_I, if_neg (by omega), if_neg (by omega), if_neg (by omega), pQ_zo n]; exact (b i hi).1
      · rw [pQ_zo n] at hx
        rw [pQ_co (.inl n)]
        have hb := (b i hi).2 x hx
        refine ⟨?_, ?_, ?_, ?_⟩
        · rw [gW_I, if_neg (by omega), if_neg (by omega), if_neg (by omega)]; exact hb.1
        · rw [gW_L, if_neg (by omega), if_neg (by omega)]; exact hb.2.1
        · rw [gW_L, if_neg (by omega), if_neg (by omega)]; exact hb.2.2.1
        · rw [gW_I, if_neg (by omega), if_neg (by omega), if_neg (by omega)]; exact hb.2.2.2
  · rw [hI _ _ (by omega)]; exact c.1
  · rw [hI _ _ (by omega)]; exact c.2
  · rw [hI _ _ (by omega)]; exact d.1
  · rw [hI _ _ (by omega)]; exact d.2 i hi
  · rw [hI _ _ (by omega)]; exact e i
  · rw [hI _ _ (by omega)]; exact (f.1 i j hi).1
  · rw [hL _ _ (by omega)]; exact (f.1 i j hi).2
theorem uC_M {w0 : zX} {w : zW} {J : aJ} {S : aS} {T : aT} {H : Nat → Int32} (h : uC w0 J S T H w) (v : Int32) : uC w0 J (S.1, S.2.1, v, sB S) T H (zsI w 4 1 v) := by
  obtain ⟨a, b, c, d, e, f⟩ := h
  refine ⟨a, fun k hk => ⟨?_, fun x hx => ⟨?_, ((b k hk).2 x hx).2.1, ((b k hk).2 x hx).2.2.1, ?_⟩⟩, ⟨rfl, c.2⟩, d, e, fun k j hk => ⟨?_, (f.1 k j hk).2⟩, f.2⟩
  · rw [zI_zsI, if_neg (by unfold oP; omega)]; exact (b k hk).1
  · rw [zI_zsI, if_neg (by unfold oP; omega)]; exact ((b k hk).2 x hx).1
  · rw [zI_zsI, if_neg (by unfold oP; omega)]; exact ((b k hk).2 x hx).2.2.2
  · rw [zI_zsI, if_neg (by omega)]; exact (f.1 k j hk).1
def bS (S : aS) : aS := (S.1, S.2.1, sM S, sB S + 1)
theorem uC_B {w0 : zX} {w : zW} {J : aJ} {S : aS} {T : aT} {H : Nat → Int32} (h : uC w0 J S T H w) : uC w0 J (bS S) T H (zsI w 4 2 (zI w 4 2 + 1)) := by
  obtain ⟨a, b, c, d, e, f⟩ := h
  refine ⟨a, fun k hk => ⟨?_, fun x hx => ⟨?_, ((b k hk).2 x hx).2.1, ((b k hk).2 x hx).2.2.1, ?_⟩⟩, ⟨c.1, ?_⟩, d, e, fun k j hk => ⟨?_, (f.1 k j hk).2⟩, f.2⟩
  · rw [zI_zsI, if_neg (by unfold oP; omega)]; exact (b k hk).1
  · rw [zI_zsI, if_neg (by unfold oP; omega)]; exact ((b k hk).2 x hx).1
  · rw [zI_zsI, if_neg (by unfold oP; omega)]; exact ((b k hk).2 x hx).2.2.2
  · rw [zI_zsI, if_pos ⟨rfl, rfl⟩, c.2]; rfl
  · rw [zI_zsI, if_neg (by omega)]; exact (f.1 k j hk).1
theorem uC_p {w0 : zX} {w : zW} {J : aJ} {S : aS} {T : aT} {H : Nat → Int32} {k v : Nat} {p q : Int64} (h : uC w0 J S T H w) (hk : k < 10) (hs : sZ S k < 64) (m : Int32) : uC w0 J (pS k (v, p, q, m) S) T H (gW (zsI w 4 1 (zI w 4 1 + 1)) (oP k) (sZ S k) (nI v) p q m) := by
  have h2 := uC_q (k := k) (v := v) (p := p) (q := q) (uC_M h (zI w 4 1 + 1)) hk hs m
  rw [h.2.2.1.1] at h2 ⊢
  exact h2
section CM
variable {w0 : zX} {w : zW} {J : aJ} {S : aS} {T : aT} {H : Nat → Int32}
theorem mk_end (h : uC w0 J S T H w) {k v : Nat} (hk : k < 10) (hs : sZ S k < 64) (p q : Int64) : Ok (lt (zsI (setC w p q) 4 1 ((zI (setC w p q) 4 1) + 1)) fun w5 => bd (fX2_grow (oP k) (nI v) (zL w5 1 2) (zL w5 1 3) (zI w5 4 1) w5) fun _ w6 => some ((), w6)) (fun _ w' => uC w0 J (pS k (v, p, q, sM S + 1) S) T H w') := by
  have h2 : uC w0 J S T H (setC w p q) := uC_C h
  have hz : zI (zsI (setC w p q) 4 1 (zI (setC w p q) 4 1 + 1)) (oP k) 0 = nI (sZ S k) := by
    have := oP_b k hk
    rw [zI_zsI, if_neg (by omega)]; exact (h2.2.1 k hk).1
  have hp : zL (zsI (setC w p q) 4 1 (zI (setC w p q) 4 1 + 1)) 1 2 = p := rfl
  have hq : zL (zsI (setC w p q) 4 1 (zI (setC w p q) 4 1 + 1)) 1 3 = q := rfl
  have hm : zI (zsI (setC w p q) 4 1 (zI (setC w p q) 4 1 + 1)) 4 1 = sM S + 1 := by
    rw [zI_zsI, if_pos ⟨rfl, rfl⟩, h2.2.2.1.1]
  rw [lt_e, hp, hq, hm, grow_s hk hs hz, bd_s]
  exact ok_r (uC_p h2 hk hs _)
theorem nI_m1z {n : Nat} (h : n < 64) (h0 : n ≠ 0) : (0 : Int32) ≤ nI n - 1 ∧ nI n - 1 = nI (n - 1) := by
  obtain ⟨m, rfl⟩ : ∃ m, n = m + 1 := ⟨n - 1, by omega⟩
  rw [nI_pred]
  exact ⟨nI_pos' (by omega), rfl⟩
theorem make_s (hW : jW J) (h : uC w0 J S T H w) {k v : Nat} {e : Int32} (hk : k < 10) (he : e = nI (k % 2)) (hv : v < 10000) (hs : sZ S k < 64) (hV : kV J S k) : Ok (fX6_make (oP k) e (nI v) w) (fun _ w' => uC w0 J (mS J k v S) T H w') := by
  have hl := zl_k k hk
  have hb := h.2.1 k hk
  have hJ := h.1
  obtain ⟨a, haV, ha, ha2, hP⟩ : ∃ a : aP, aV J a ∧ (∀ F : Int64 → zW → Option (Unit × zW), (if (0 : Int32) ≤ nI (sZ S k) - 1 then bd (fX7_at_ (oP k + 2) (nI (sZ S k) - 1) w) fun v38 w36 => F v38 w36 else bd (fX0_emptyP w) fun v41 w39 => F v41 w39) = F a.1 w) ∧ (∀ F : Int64 → zW → Option (Unit × zW), (if (0 : Int32) ≤ nI (sZ S k) - 1 then bd (fX7_at_ (oP k + 3) (nI (sZ S k) - 1) w) fun v31 w29 => F v31 w29 else bd (fX0_emptyQ w) fun v34 w32 => F v34 w32) = F a.2 w) ∧ mP J S k v = if k % 2 = 0 then aj J (ae J v) a else aj J a (ae J v) := by
    by_cases c : sZ S k = 0
    · refine ⟨ao J, ao_V hW, fun F => ?_, fun F => ?_, ?_⟩
      · rw [c, if_neg (show ¬ (0 : Int32) ≤ nI 0 - 1 by decide), (c_oe hW hJ).1, bd_s]; rfl
      · rw [c, if_neg (show ¬ (0 : Int32) ≤ nI 0 - 1 by decide), (c_oe hW hJ).2, bd_s]; rfl
      · unfold mP
        rw [if_pos c, (aj_oe hW hv).1, (aj_oe hW hv).2]
        by_cases d : k % 2 = 0
        · rw [if_pos d]
        · rw [if_neg d]
    · have h1 := nI_m1z hs c
      have h2 := hb.2 (sZ S k - 1) (by omega)
      refine ⟨cP (sC S k (sZ S k - 1)), (hV _ (by omega)).2, fun F => ?_, fun F => ?_, ?_⟩
      · rw [if_pos h1.1, h1.2, at7 w hl.2.1 (by omega) (by decide), bd_s, h2.2.1]; rfl
      · rw [if_pos h1.1, h1.2, at7 w hl.2.2.1 (by omega) (by decide), bd_s, h2.2.2.1]; rfl
      · unfold mP; rw [if_neg c]
  rw [fX6_make, hb.1, lt_e, lt_e, ha, lt_e, ha2, lt_e]
  have hm : mS J k v S = pS k (v, (mP J S k v).1, (mP J S k v).2, sM S + 1) S := rfl
  rw [hm, hP]
  by_cases d : k % 2 = 0
  · rw [if_pos d, if_neg (show ¬ ¬ e = 0 from not_not_intro (by rw [he, d]; rfl)), c_ep hW hJ hv, bd_s, c_eq hW hJ hv, bd_s, c_join hW hJ (val_e hW hv) haV, bd_s]
    exact mk_end h hk hs _ _
  · rw [if_neg d, if_pos (show ¬ e = 0 by rw [he, show k % 2 = 1 by omega]; decide), c_ep hW hJ hv, bd_s, c_eq hW hJ hv, bd_s, c_join hW hJ haV (val_e hW hv), bd_s]
    exact mk_end h hk hs _ _
end CM
