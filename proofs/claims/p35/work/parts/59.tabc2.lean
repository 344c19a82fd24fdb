set_option maxRecDepth 16384
/-- what the text's TABLE of k by k has -/
def tE (s : Nat → Nat) (k a b : Nat) : Nat := s ((k + 1) * a + b) - 48
def tN (s : Nat → Nat) (k e : Nat) : Prop := ∀ x, x < k → tE s k e x = x ∧ tE s k x e = x
def tA (s : Nat → Nat) (k a b c : Nat) : Prop := tE s k (tE s k a b) c = tE s k a (tE s k b c)
/-- the class's fresh TABLE -/
def fr2 (s : Nat → Nat) (k : Nat) (w : zW) : Prop := zI w 62 0 = nI k ∧ ∀ a b, a < k → b < k → zI w 63 (5 * a + b) = nI (tE s k a b)
section T2
variable {w0 : zX} {w : zW} {J : aJ} {S : aS} {T : aT} {H : Nat → Int32} {k : Nat} {s : Nat → Nat} {n : Nat}
theorem tE_l (h : gd s n k) {a b : Nat} (ha : a < k) (hb : b < k) : tE s k a b < k := by
  have := h.2.2.2.1 a b ha hb
  unfold tE; omega
theorem entry62 (h : gd s n k) (hf : fr2 s k w) {a b : Nat} (ha : a < k) (hb : b < k) : fX3_entry 62 (nI a) (nI b) w = some (nI (tE s k a b), w) := by
  have h5 := h.2.1
  rw [fX3_entry, if_neg (nI_pos (by omega)), if_neg (show ¬ (5 : Int32) ≤ nI a from Int32.not_le.mpr (nI_lt (b := 5) (by omega) (by decide))), if_neg (nI_pos (by omega)), if_pos (show nI b < 5 from nI_lt (b := 5) (by omega) (by decide)), lt_e, show (5 : Int32) = nI 5 from rfl, pk_mul, nI_add, if_neg (Int32.not_le.mpr (nI_lt (by omega) (by decide))), zin_t (by omega) (by decide), zg_t, nI_clamp (by omega), show a * 5 + b = 5 * a + b by omega, hf.2 a b ha hb]
theorem alike7_22 (h : gd s n k) (hf : fr2 s k w) {a b : Nat} (ha : a < k) (hb : b < k) {j : Int32 → zW → Option (Int32 × zW)} (P : Int32 → Prop) (hF : ∀ c, c < k → ¬ tA s k a b c → P (nI (a * 100 + b * 10 + c))) (hj : (∀ c, c < k → tA s k a b c) → ∃ v, j (nI (b + 1)) w = some (v, w) ∧ P v) : ∀ m c N, c + m = k → m < N → (∀ c', c' < c → tA s k a b c') → ∃ v, fX3_firstNotAlike_L22 62 (nI a) (nI b) j N (nI c) w = some (v, w) ∧ P v := by
  have h5 := h.2.1
  intro m
  induction m with
  | zero =>
    intro c N hc hN hA
    obtain ⟨N, rfl⟩ : ∃ x, N = x + 1 := ⟨N - 1, by omega⟩
    rw [fX3_firstNotAlike_L22.eq_2, hf.1, if_pos (nI_le (by omega) (by omega)), nI_1]
    exact hj (fun c' hc' => hA c' (by omega))
  | succ m ih =>
    intro c N hc hN hA
    obtain ⟨N, rfl⟩ : ∃ x, N = x + 1 := ⟨N - 1, by omega⟩
    have hcl : c < k := by omega
    have l1 := tE_l h ha hb
    have l2 := tE_l h hb hcl
    have l3 := tE_l h l1 hcl
    have l4 := tE_l h ha l2
    rw [fX3_firstNotAlike_L22.eq_2, hf.1, if_neg (Int32.not_le.mpr (nI_lt hcl (by omega))), entry62 h hf ha hb, bd_s, entry62 h hf l1 hcl, bd_s, entry62 h hf hb hcl, bd_s, entry62 h hf ha l2, bd_s]
    by_cases q : tA s k a b c
    · rw [if_pos (show nI (tE s k (tE s k a b) c) = nI (tE s k a (tE s k b c)) by rw [show tE s k (tE s k a b) c = _ from q]), nI_1]
      refine ih (c + 1) N (by omega) (by omega) (fun c' hc' => ?_)
      by_cases z : c' = c
      · rw [z]; exact q
      · exact hA c' (by omega)
    · rw [if_neg (fun z => q ((nI_eq (by omega) (by omega)).mp z)), show (100 : Int32) = nI 100 from rfl, show (10 : Int32) = nI 10 from rfl, pk_mul, pk_mul, nI_add, nI_add]
      exact ⟨_, rfl, hF c hcl q⟩
theorem alike7_12 (h : gd s n k) (hf : fr2 s k w) {a : Nat} (ha : a < k) {j : Int32 → zW → Option (Int32 × zW)} (P : Int32 → Prop) (hF : ∀ b c, b < k → c < k → ¬ tA s k a b c → P (nI (a * 100 + b * 10 + c))) (hj : (∀ b c, b < k → c < k → tA s k a b c) → ∃ v, j (nI (a + 1)) w = some (v, w) ∧ P v) : ∀ m b N, b + m = k → m < N → (∀ b' c, b' < b → c < k → tA s k a b' c) → ∃ v, fX3_firstNotAlike_L12 62 (nI a) j N (nI b) w = some (v, w) ∧ P v := by
  have h5 := h.2.1
  intro m
  induction m with
  | zero =>
    intro b N hb hN hA
    obtain ⟨N, rfl⟩ : ∃ x, N = x + 1 := ⟨N - 1, by omega⟩
    rw [fX3_firstNotAlike_L12.eq_2, hf.1, if_pos (nI_le (by omega) (by omega)), nI_1]
    exact hj (fun b' c hb' hc => hA b' c (by omega) hc)
  | succ m ih =>
    intro b N hb hN hA
    obtain ⟨N, rfl⟩ : ∃ x, N = x + 1 := ⟨N - 1, by omega⟩
    rw [fX3_firstNotAlike_L12.eq_2, hf.1, if_neg (Int32.not_le.mpr (nI_lt (by omega) (by omega)))]
    refine alike7_22 h hf ha (show b < k by omega) P (fun c hc q => hF b c (by omega) hc q) (fun q => ih (b + 1) N (by omega) (by omega) (fun b' c hb' hc => ?_)) k 0 zFU (by omega) (by rw [show zFU = 18446744073709551616 from rfl]; omega) (fun c hc => absurd hc (Nat.not_lt_zero c))
    by_cases z : b' = b
    · rw [z]; exact q c hc
    · exact hA b' c (by omega) hc
theorem alike7_2 (h : gd s n k) (hf : fr2 s k w) (P : Int32 → Prop) (hF : ∀ a b c, a < k → b < k → c < k → ¬ tA s k a b c → P (nI (a * 100 + b * 10 + c))) (hj : (∀ a b c, a < k → b < k → c < k → tA s k a b c) → P (-1)) : ∀ m a N, a + m = k → m < N → (∀ a' b c, a' < a → b < k → c < k → tA s k a' b c) → ∃ v, fX3_firstNotAlike_L2 62 N (nI a) w = some (v, w) ∧ P v := by
  have h5 := h.2.1
  intro m
  induction m with
  | zero =>
    intro a N ha hN hA
    obtain ⟨N, rfl⟩ : ∃ x, N = x + 1 := ⟨N - 1, by omega⟩
    rw [fX3_firstNotAlike_L2.eq_2, hf.1, if_pos (nI_le (by omega) (by omega))]
    exact ⟨-1, rfl, hj (fun a' b c ha' hb hc => hA a' b c (by omega) hb hc)⟩
  | succ m ih =>
    intro a N ha hN hA
    obtain ⟨N, rfl⟩ : ∃ x, N = x + 1 := ⟨N - 1, by omega⟩
    rw [fX3_firstNotAlike_L2.eq_2, hf.1, if_neg (Int32.not_le.mpr (nI_lt (by omega) (by omega)))]
    refine alike7_12 h hf (show a < k by omega) P (fun b c hb hc q => hF a b c (by omega) hb hc q) (fun q => ih (a + 1) N (by omega) (by omega) (fun a' b c ha' hb hc => ?_)) k 0 zFU (by omega) (by rw [show zFU = 18446744073709551616 from rfl]; omega) (fun b c hb _ => absurd hb (Nat.not_lt_zero b))
    by_cases z : a' = a
    · rw [z]; exact q b c hb hc
    · exact hA a' b c (by omega) hb hc
theorem alike7_s (h : gd s n k) (hf : fr2 s k w) : ∃ v, fX3_firstNotAlike 62 w = some (v, w) ∧ (v = -1 ↔ ∀ a b c, a < k → b < k → c < k → tA s k a b c) := by
  have h5 := h.2.1
  rw [fX3_firstNotAlike]
  refine alike7_2 h hf _ (fun a b c ha hb hc q => ?_) (fun q => ⟨fun _ => q, fun _ => rfl⟩) k 0 zFU (by omega) (by rw [show zFU = 18446744073709551616 from rfl]; omega) (fun a b c ha _ _ => absurd ha (Nat.not_lt_zero a))
  exact ⟨fun z => absurd (show nI (a * 100 + b * 10 + c) < 0 by rw [z]; decide) (nI_pos (by omega)), fun z => absurd (z a b c ha hb hc) q⟩
theorem neut7_14 (h : gd s n k) (hf : fr2 s k w) {e : Nat} (he : e < k) {j : Int32 → zW → Option (Int32 × zW)} (P : Int32 → Prop) (hF : tN s k e → P (nI e)) (hj : ¬ tN s k e → ∃ v, j (nI (e + 1)) w = some (v, w) ∧ P v) : ∀ m x N (f : Int32), x + m = k → m < N → ((f = 1 ∧ ∀ y, y < x → tE s k e y = y ∧ tE s k y e = y) ∨ (f = 0 ∧ ¬ tN s k e)) → ∃ v, fX3_neutralOne_L14 62 (nI e) j N f (nI x) w = some (v, w) ∧ P v := by
  have h5 := h.2.1
  intro m
  induction m with
  | zero =>
    intro x N f hx hN hA
    obtain ⟨N, rfl⟩ : ∃ x, N = x + 1 := ⟨N - 1, by omega⟩
    rw [fX3_neutralOne_L14.eq_2, hf.1, if_pos (nI_le (by omega) (by omega))]
    rcases hA with ⟨rfl, hA⟩ | ⟨rfl, hA⟩
    · rw [if_neg (show ¬ (1 : Int32) = 0 by decide)]
      exact ⟨_, rfl, hF (fun y hy => hA y (by omega))⟩
    · rw [if_pos rfl, nI_1]; exact hj hA
  | succ m ih =>
    intro x N f hx hN hA
    obtain ⟨N, rfl⟩ : ∃ x, N = x + 1 := ⟨N - 1, by omega⟩
    have hxk : x < k := by omega
    rw [fX3_neutralOne_L14.eq_2, hf.1, if_neg (Int32.not_le.mpr (nI_lt hxk (by omega))), lt_e, lt_e]
    rcases hA with ⟨rfl, hA⟩ | ⟨rfl, hA⟩
    · have l1 := tE_l h he hxk
      have l2 := tE_l h hxk he
      rw [if_neg (show ¬ (1 : Int32) = 0 by decide), entry62 h hf he hxk, bd_s]
      by_cases c1 : tE s k e x = x
      · rw [if_neg (not_not_intro (by rw [c1])), entry62 h hf hxk he, bd_s]
        by_cases c2 : tE s k x e = x
        · rw [if_neg (not_not_intro (by rw [c2])), nI_1]
          refine ih (x + 1) N 1 (by omega) (by omega) (.inl ⟨rfl, fun y hy => ?_⟩)
          by_cases z : y = x
          · rw [z]; exact ⟨c1, c2⟩
          · exact hA y (by omega)
        · rw [if_pos (fun z => c2 ((nI_eq (by omega) (by omega)).mp z)), nI_1]
          exact ih (x + 1) N 0 (by omega) (by omega) (.inr ⟨rfl, fun z => c2 (z x hxk).2⟩)
      · rw [if_pos (fun z => c1 ((nI_eq (by omega) (by omega)).mp z)), nI_1]
        exact ih (x + 1) N 0 (by omega) (by omega) (.inr ⟨rfl, fun z => c1 (z x hxk).1⟩)
    · rw [if_pos rfl, nI_1]
      exact ih (x + 1) N 0 (by omega) (by omega) (.inr ⟨rfl, hA⟩)
theorem neut7_2 (h : gd s n k) (hf : fr2 s k w) (P : Int32 → Prop) (hF : ∀ e, e < k → tN s k e → (∀ e', e' < e → ¬ tN s k e') → P (nI e)) (hj : (∀ e, e < k → ¬ tN s k e) → P (-1)) : ∀ m e N, e + m = k → m < N → (∀ e', e' < e → ¬ tN s k e') → ∃ v, fX3_neutralOne_L2 62 N (nI e) w = some (v, w) ∧ P v := by
  have h5 := h.2.1
  intro m
  induction m with
  | zero =>
    intro e N he hN hA
    obtain ⟨N, rfl⟩ : ∃ x, N = x + 1 := ⟨N - 1, by omega⟩
    rw [fX3_neutralOne_L2.eq_2, hf.1, if_pos (nI_le (by omega) (by omega))]
    exact ⟨-1, rfl, hj (fun e' he' => hA e' (by omega))⟩
  | succ m ih =>
    intro e N he hN hA
    obtain ⟨N, rfl⟩ : ∃ x, N = x + 1 := ⟨N - 1, by omega⟩
    rw [fX3_neutralOne_L2.eq_2, hf.1, if_neg (Int32.not_le.mpr (nI_lt (by omega) (by omega)))]
    refine neut7_14 h hf (show e < k by omega) P (fun q => hF e (by omega) q hA) (fun q => ih (e + 1) N (by omega) (by omega) (fun e' he' => ?_)) k 0 zFU 1 (by omega) (by rw [show zFU = 18446744073709551616 from rfl]; omega) (.inl ⟨rfl, fun y hy => absurd hy (Nat.not_lt_zero y)⟩)
    by_cases z : e' = e
    · rw [z]; exact q
    · exact hA e' (by omega)
/-- the first NEUTRAL one, or none -/
def tO (s : Nat → Nat) (k : Nat) (v : Int32) : Prop := (∃ e, e < k ∧ v = nI e ∧ tN s k e ∧ ∀ e', e' < e → ¬ tN s k e') ∨ (v = -1 ∧ ∀ e, e < k → ¬ tN s k e)
theorem neut7_s (h : gd s n k) (hf : fr2 s k w) : ∃ v, fX3_neutralOne 62 w = some (v, w) ∧ tO s k v := by
  have h5 := h.2.1
  rw [fX3_neutralOne]
  exact neut7_2 h hf _ (fun e he q hA => .inl ⟨e, he, rfl, q, hA⟩) (fun q => .inr ⟨rfl, q⟩) k 0 zFU (by omega) (by rw [show zFU = 18446744073709551616 from rfl]; omega) (fun e he => absurd he (Nat.not_lt_zero e))
theorem uC_6 (h : uC w0 J S T H w) {a b : Nat} {v : Int32} (ha : a = 62 ∨ a = 63) : uC w0 J S T H (zsI w a b v) := uC_I h (by unfold fC; omega)
theorem read_L20 (h5 : k ≤ 5) (hT : tW T) (hg : gd T.2 T.1 k) {r : Nat} (hr : r < k) {j : Int32 → zW → Option (Unit × zW)} (P : Unit → zW → Prop) (hj : ∀ w, uC w0 J S T H w → zI w 62 0 = nI k → (∀ a b, (a < r + 1) → b < k → zI w 63 (5 * a + b) = nI (tE T.2 k a b)) → Ok (j (nI (r + 1)) w) P) : ∀ m c N w, c + m = k → m < N → uC w0 J S T H w → zI w 62 0 = nI k → (∀ a b, (a < r ∧ b < k) ∨ (a = r ∧ b < c) → zI w 63 (5 * a + b) = nI (tE T.2 k a b)) → Ok (fX3_read_L20 62 (nI r) j N (nI c) w) P := by
  have hn := gd_n hg
  have hT1 := hT.1
  intro m
  induction m with
  | zero =>
    intro c N w hc hN h h0 hA
    obtain ⟨N, rfl⟩ : ∃ x, N = x + 1 := ⟨N - 1, by omega⟩
    rw [fX3_read_L20.eq_2, h0, if_pos (nI_le (by omega) (by omega)), nI_1]
    exact hj w h h0 (fun a b ha hb => hA a b (by omega))
  | succ m ih =>
    intro c N w hc hN h h0 hA
    obtain ⟨N, rfl⟩ : ∃ x, N = x + 1 := ⟨N - 1, by omega⟩
    have hck : c < k := by omega
    have hr2 := ps_r hr
    have hp : (k + 1) * r + c < 100 := by omega
    have hv := (hg.2.2.2.1 r c hr hck).1
    rw [fX3_read_L20.eq_2, h0, if_neg (Int32.not_le.mpr (nI_lt hck (by omega))), nI_1, pk_mul, nI_add, show r * (k + 1) + c = (k + 1) * r + c by rw [Nat.mul_comm], signAt_s h hp, bd_s, show (5 : Int32) = nI 5 from rfl, pk_mul, nI_add, show (48 : Int32) = nI 48 from rfl, pk_sub hv, seti_s w _ (show zlen 63 = 25 from rfl) (show r * 5 + c < 25 by omega) (by decide), bd_s, nI_1]
    refine ih (c + 1) N _ (by omega) (by omega) (uC_6 h (.inr rfl)) h0 (fun a b hab => ?_)
    rw [zI_zsI]
    by_cases z : a = r ∧ b = c
    · rw [z.1, z.2, if_pos ⟨rfl, by omega⟩]; rfl
    · rw [if_neg (by omega)]
      exact hA a b (by omega)
theorem read_L10 (h5 : k ≤ 5) (hT : tW T) (hg : gd T.2 T.1 k) : ∀ m r N w, r + m = k → m < N → uC w0 J S T H w → zI w 62 0 = nI k → (∀ a b, a < r → b < k → zI w 63 (5 * a + b) = nI (tE T.2 k a b)) → Ok (fX3_read_L10 62 N (nI r) w) (fun _ w' => uC w0 J S T H w' ∧ fr2 T.2 k w' ∧ tO T.2 k (zI w' 62 1)) := by
  intro m
  induction m with
  | zero =>
    intro r N w hr hN h h0 hA
    obtain ⟨N, rfl⟩ : ∃ x, N = x + 1 := ⟨N - 1, by omega⟩
    have hf : fr2 T.2 k w := ⟨h0, fun a b ha hb => hA a b (by omega) hb⟩
    obtain ⟨v, e, hv⟩ := neut7_s hg hf
    rw [fX3_read_L10.eq_2, h0, if_pos (nI_le (by omega) (by omega)), e, bd_s, lt_e]
    exact ok_r ⟨uC_6 h (.inl rfl), hf, hv⟩
  | succ m ih =>
    intro r N w hr hN h h0 hA
    obtain ⟨N, rfl⟩ : ∃ x, N = x + 1 := ⟨N - 1, by omega⟩
    rw [fX3_read_L10.eq_2, h0, if_neg (Int32.not_le.mpr (nI_lt (by omega) (by omega)))]
    refine read_L20 h5 hT hg (show r < k by omega) _ (fun w1 a1 b1 c1 => ih (r + 1) N w1 (by omega) (by omega) a1 b1 c1) k 0 zFU w (by omega) (by rw [show zFU = 18446744073709551616 from rfl]; omega) h h0 (fun a b hab => hA a b (by omega) (by omega))
theorem read7_s (h : uC w0 J S T H w) (hT : tW T) (hg : gd T.2 T.1 k) : Ok (fX3_read 62 w) (fun _ w' => uC w0 J S T H w' ∧ fr2 T.2 k w' ∧ tO T.2 k (zI w' 62 1)) := by
  have h5 := hg.2.1
  rw [fX3_read, firstRow_s h hT, bd_s, lt_e, gd_fR hg]
  exact read_L10 h5 hT hg k 0 zFU _ (by omega) (by rw [show zFU = 18446744073709551616 from rfl]; omega) (uC_6 h (.inl rfl)) rfl (fun a b ha _ => absurd ha (Nat.not_lt_zero a))
theorem become3_L : ∀ m i N w, i + m = 25 → m < N → (∀ x, x < i → zI w 3 x = zI w 63 x) → Ok (fX3_become_L18 2 62 N (nI i) w) (fun _ w' => (∀ x, x < 25 → zI w' 3 x = zI w 63 x) ∧ (∀ a b, a ≠ 3 → zI w' a b = zI w a b) ∧ w'.2 = w.2) := by
  intro m
  induction m with
  | zero =>
    intro i N w hi hN hA
    obtain ⟨N, rfl⟩ : ∃ x, N = x + 1 := ⟨N - 1, by omega⟩
    rw [fX3_become_L18.eq_2, if_pos (nI_le (by omega) (by omega))]
    exact ok_r ⟨fun x hx => hA x (by omega), fun _ _ _ => rfl, rfl⟩
  | succ m ih =>
    intro i N w hi hN hA
    obtain ⟨N, rfl⟩ : ∃ x, N = x + 1 := ⟨N - 1, by omega⟩
    rw [fX3_become_L18.eq_2, if_neg (Int32.not_le.mpr (nI_lt (by omega) (by omega))), ati_s w (show zlen 63 = 25 from rfl) (show i < 25 by omega) (by decide), bd_s, seti_s w _ (show zlen 3 = 25 from rfl) (show i < 25 by omega) (by decide), bd_s, nI_1]
    have e63 : ∀ x, zI (zsI w 3 i (zI w 63 i)) 63 x = zI w 63 x := fun x => rfl
    refine ok_m (ih (i + 1) N _ (by omega) (by omega) (fun x hx => ?_)) (fun _ w' a => ⟨fun x hx => (a.1 x hx).trans (e63 x), fun x y hx => (a.2.1 x y hx).trans (by rw [zI_zsI, if_neg (fun z => hx z.1)]), a.2.2.trans rfl⟩)
    rw [e63, zI_zsI]
    by_cases z : x = i
    · rw [if_pos ⟨rfl, z⟩, z]
    · rw [if_neg (fun y => z y.2)]; exact hA x (by omega)
/-- the TABLE becomes the fresh one -/
theorem become3_s (h : uC w0 J S T H w) (hg : gd s n k) (hf : fr2 s k w) {e : Nat} (he : zI w 62 1 = nI e) : Ok (fX3_become 2 62 w) (fun _ w' => uC w0 (jK J, k, e, tE s k) S T H w' ∧ zI w' 62 0 = nI k) := by
  rw [fX3_become, lt_e, lt_e]
  refine ok_m (become3_L 25 0 zFU _ (by omega) (by rw [show zFU = 18446744073709551616 from rfl]; omega) (fun x hx => absurd hx (Nat.not_lt_zero x))) (fun _ w' a => ?_)
  obtain ⟨a1, a2, a3⟩ := a
  have h5 := hg.2.1
  have hI : ∀ x y, x ≠ 2 → x ≠ 3 → zI w' x y = zI w x y := fun x y h2 h3 => by
    rw [a2 x y h3, zI_zsI, if_neg (fun z => h2 z.1), zI_zsI, if_neg (fun z => h2 z.1)]
  have hL : ∀ x y, zL w' x y = zL w x y := fun x y => by unfold zL; rw [a3]; rfl
  obtain ⟨b1, b2, b3, b4, b5, b6⟩ := h
  refine ⟨⟨⟨?_, ?_, ?_, fun i j hi hj => ?_⟩, fun x hx => ⟨?_, fun y hy => ⟨?_, ?_, ?_, ?_⟩⟩, ⟨?_, ?_⟩, ⟨?_, fun i hi => ?_⟩, fun i => ?_, fun x y hx => ⟨?_, ?_⟩, PR_e b6.2 (by rw [a3]; rfl)⟩, ?_⟩
  · rw [hI _ _ (by omega) (by omega)]; exact b1.1
  · rw [a2 _ _ (by omega), zI_zsI, if_neg (by omega), zI_zsI, if_pos ⟨rfl, rfl⟩]; exact hf.1
  · rw [a2 _ _ (by omega), zI_zsI, if_pos ⟨rfl, rfl⟩]; exact he
  · have hi' : i < k := hi
    have hj' : j < k := hj
    rw [a1 _ (by omega)]; exact hf.2 i j hi' hj'
  · rw [hI _ _ (by unfold oP; omega) (by unfold oP; omega)]; exact (b2 x hx).1
  · rw [hI _ _ (by unfold oP; omega) (by unfold oP; omega)]; exact ((b2 x hx).2 y hy).1
  · rw [hL]; exact ((b2 x hx).2 y hy).2.1
  · rw [hL]; exact ((b2 x hx).2 y hy).2.2.1
  · rw [hI _ _ (by unfold oP; omega) (by unfold oP; omega)]; exact ((b2 x hx).2 y hy).2.2.2
  · rw [hI _ _ (by omega) (by omega)]; exact b3.1
  · rw [hI _ _ (by omega) (by omega)]; exact b3.2
  · rw [hI _ _ (by omega) (by omega)]; exact b4.1
  · rw [hI _ _ (by omega) (by omega)]; exact b4.2 i hi
  · rw [hI _ _ (by omega) (by omega)]; exact b5 i
  · rw [hI _ _ (by omega) (by omega)]; exact (b6.1 x y hx).1
  · rw [hL]; exact (b6.1 x y hx).2
  · rw [hI _ _ (by omega) (by omega)]; exact hf.1
end T2
