set_option maxRecDepth 16384
def hW (w : zW) (i n : Nat) (v : Int32) (p q : Int64) (m : Int32) (k : Nat) (M : Int32) : zW := zsI (zsI (zsI (zsL (zsL (zsI w 85 i v) 86 i p) 87 i q) 84 i m) 74 23 M) 83 k (nI (n + 1))
theorem hW_I (w : zW) (i n : Nat) (v : Int32) (p q : Int64) (m : Int32) (k : Nat) (M : Int32) (a b : Nat) : zI (hW w i n v p q m k M) a b = if a = 83 ∧ b = k then nI (n + 1) else if a = 74 ∧ b = 23 then M else if a = 84 ∧ b = i then m else if a = 85 ∧ b = i then v else zI w a b := rfl
theorem hW_L (w : zW) (i n : Nat) (v : Int32) (p q : Int64) (m : Int32) (k : Nat) (M : Int32) (a b : Nat) : zL (hW w i n v p q m k M) a b = if a = 87 ∧ b = i then q else if a = 86 ∧ b = i then p else zL w a b := rfl
def pM (k : Nat) (c : aC) (M : Int32) (S : aS) : aS := (fun a => if a = k then sZ S k + 1 else sZ S a, fun a h => if a = k ∧ h = sZ S k then c else sC S a h, M, sB S)
theorem pM_z {k : Nat} {c : aC} {M : Int32} {S : aS} : sZ (pM k c M S) k = sZ S k + 1 := if_pos rfl
theorem pM_zo {k : Nat} {c : aC} {M : Int32} {S : aS} {a : Nat} (h : a ≠ k) : sZ (pM k c M S) a = sZ S a := if_neg h
theorem pM_c {k : Nat} {c : aC} {M : Int32} {S : aS} : sC (pM k c M S) k (sZ S k) = c := if_pos ⟨rfl, rfl⟩
theorem pM_co {k : Nat} {c : aC} {M : Int32} {S : aS} {a h : Nat} (n : a ≠ k ∨ h ≠ sZ S k) : sC (pM k c M S) a h = sC S a h := if_neg (fun q => n.elim (fun z => z q.1) (fun z => z q.2))
section RF
variable {w0 : zX} {w : zW} {J : aJ} {S : aS} {T : aT} {H : Nat → Int32}
theorem uD_z (h : uD w0 J S T H w) {k : Nat} (hk : k < 10) : zI w 83 k = nI (sZ S k) := (h.2.1 k hk).1
theorem uD_q (h : uD w0 J S T H w) {k v : Nat} {p q : Int64} (m M : Int32) (hk : k < 10) (hs : sZ S k < 64) (hb : ∀ a, a < 10 → sZ S a ≤ 64) : uD w0 J (pM k (v, p, q, m + 1) M S) T H (hW w (64 * k + sZ S k) (sZ S k) (nI v) p q m k M) := by
  obtain ⟨a, b, c, d, e, f, g⟩ := h
  have hI : ∀ x y, x ≠ 83 → ¬ (x = 74 ∧ y = 23) → x ≠ 84 → x ≠ 85 → zI (hW w (64 * k + sZ S k) (sZ S k) (nI v) p q m k M) x y = zI w x y := by
    intro x y h1 h2 h3 h4
    rw [hW_I, if_neg (by omega), if_neg (by omega), if_neg (by omega), if_neg (by omega)]
  refine ⟨⟨?_, ?_, ?_, fun i j hi hj => ?_⟩, fun i hi => ?_, ⟨?_, ?_⟩, ⟨?_, fun i hi => ?_⟩, fun i => ?_, fun i j hi => ⟨?_, ?_⟩, g⟩
  · rw [hI _ _ (by omega) (by omega) (by omega) (by omega)]; exact a.1
  · rw [hI _ _ (by omega) (by omega) (by omega) (by omega)]; exact a.2.1
  · rw [hI _ _ (by omega) (by omega) (by omega) (by omega)]; exact a.2.2.1
  · rw [hI _ _ (by omega) (by omega) (by omega) (by omega)]; exact a.2.2.2 i j hi hj
  · have hbi := hb i hi
    by_cases n : i = k
    · subst n
      refine ⟨by rw [hW_I, if_pos ⟨rfl, rfl⟩, pM_z], fun x hx => ?_⟩
      rw [pM_z] at hx
      by_cases n : x = sZ S i
      · subst n
        rw [pM_c]
        refine ⟨?_, ?_, ?_, ?_⟩
        · rw [hW_I, if_neg (by omega), if_neg (by omega), if_neg (by omega), if_pos ⟨rfl, rfl⟩]
        · rw [hW_L, if_neg (by omega), if_pos ⟨rfl, rfl⟩]
        · rw [hW_L, if_pos ⟨rfl, rfl⟩]
        · rw [hW_I, if_neg (by omega), if_neg (by omega), if_pos ⟨rfl, rfl⟩]
      · rw [pM_co (.inr n)]
        have hb := (b i hi).2 x (by omega)
        refine ⟨?_, ?_, ?_, ?_⟩
        · rw [hW_I, if_neg (by omega), if_neg (by omega), if_neg (by omega), if_neg (by omega)]; exact hb.1
        · rw [hW_L, if_neg (by omega), if_neg (by omega)]; exact hb.2.1
        · rw [hW_L, if_neg (by omega), if_neg (by omega)]; exact hb.2.2.1
        · rw [hW_I, if_neg (by omega), if_neg (by omega), if_neg (by omega), if_neg (by omega)]; exact hb.2.2.2
    · refine ⟨by rw [hW_I, if_neg (by omega), if_neg (by omega), if_neg (by omega), if_neg (by omega), pM_zo n]; exact (b i hi).1, fun x hx => ?_⟩
      rw [pM_zo n] at hx
      rw [pM_co (.inl n)]
      have hb := (b i hi).2 x hx
      refine ⟨?_, ?_, ?_, ?_⟩
      · rw [hW_I, if_neg (by omega), if_neg (by omega), if_neg (by omega), if_neg (by omega)]; exact hb.1
      · rw [hW_L, if_neg (by omega), if_neg (by omega)]; exact hb.2.1
      · rw [hW_L, if_neg (by omega), if_neg (by omega)]; exact hb.2.2.1
      · rw [hW_I, if_neg (by omega), if_neg (by omega), if_neg (by omega), if_neg (by omega)]; exact hb.2.2.2
  · rw [hW_I, if_neg (by omega), if_pos ⟨rfl, rfl⟩]; rfl
  · rw [hI _ _ (by omega) (by omega) (by omega) (by omega)]; exact c.2
  · rw [hI _ _ (by omega) (by omega) (by omega) (by omega)]; exact d.1
  · rw [hI _ _ (by omega) (by omega) (by omega) (by omega)]; exact d.2 i hi
  · rw [hI _ _ (by omega) (by omega) (by omega) (by omega)]; exact e i
  · rw [hI _ _ (by omega) (by omega) (by omega) (by omega)]; exact (f i j hi).1
  · rw [hW_L, if_neg (by omega), if_neg (by omega)]; exact (f i j hi).2
theorem uD_p (h : uD w0 J S T H w) {k v : Nat} {p q : Int64} (hk : k < 10) (hs : sZ S k < 64) (hb : ∀ a, a < 10 → sZ S a ≤ 64) : uD w0 J (pS k (v, p, q, sM S + 1) S) T H (hW w (64 * k + sZ S k) (sZ S k) (nI v) p q (zI w 74 23) k (zI w 74 23 + 1)) := by
  rw [h.2.2.1.1]
  exact uD_q h (sM S) (sM S + 1) hk hs hb
/-- the sizes are such that there is room for all -/
def zB (S : aS) : Prop := ∀ a, a < 10 → sZ S a ≤ 64
theorem mk8_end (h : uD w0 J S T H w) (hb : zB S) {k v : Nat} (hk : k < 10) (hs : sZ S k < 64) (p q : Int64) : Ok (zg (zin (nI (64 * k + sZ S k)) 640) <| lt (zsI (setS w p q) 85 (nI (64 * k + sZ S k)).toNatClampNeg (nI v)) fun w8 =>
    zg (zin (nI (64 * k + sZ S k)) 640) <| lt (zsL w8 86 (nI (64 * k + sZ S k)).toNatClampNeg (zL w8 74 11)) fun w9 =>
    zg (zin (nI (64 * k + sZ S k)) 640) <| lt (zsL w9 87 (nI (64 * k + sZ S k)).toNatClampNeg (zL w9 74 12)) fun w10 =>
    zg (zin (nI (64 * k + sZ S k)) 640) <| lt (zsI w10 84 (nI (64 * k + sZ S k)).toNatClampNeg (zI w10 74 23)) fun w11 =>
    lt (zsI w11 74 23 ((zI w11 74 23) + (1 : Int32))) fun w12 =>
    zg (zin (nI k) 10) <|
    zg (zin (nI k) 10) <| lt (zsI w12 83 (nI k).toNatClampNeg ((zI w12 83 (nI k).toNatClampNeg) + (1 : Int32))) fun w13 =>
    some ((), w13)) (fun _ w' => uD w0 J (pS k (v, p, q, sM S + 1) S) T H w') := by
  have h2 : uD w0 J S T H (setS w p q) := uD_S h
  rw [zin_t (show 64 * k + sZ S k < 640 by omega) (by decide), zg_t, lt_e, zg_t, lt_e, zg_t, lt_e, zg_t, lt_e, lt_e, zin_t hk (by decide), zg_t, zg_t, lt_e, nI_clamp (show 64 * k + sZ S k < 2 ^ 31 by omega), nI_clamp (show k < 2 ^ 31 by omega)]
  have h3 := uD_p (v := v) (p := p) (q := q) h2 hk hs hb
  refine ok_r ?_
  have e : nI (sZ S k + 1) = zI (setS w p q) 83 k + 1 := by rw [uD_z h2 hk, nI_1]
  unfold hW at h3
  rw [e] at h3
  exact h3
end RF
