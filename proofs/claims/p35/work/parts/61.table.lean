set_option maxRecDepth 16384
section T9
variable {w0 : zX} {w : zW} {J : aJ} {S : aS} {T : aT} {H : Nat → Int32} {k : Nat} {s : Nat → Nat} {n : Nat}
theorem read8_s (h : gd s n k) (hf : fr8 s k w) {a b : Nat} (ha : a < k) (hb : b < k) : fX8_read (nI a) (nI b) w = some (nI (tE s k a b), w) := by
  have hi := tm_i ha hb h.2.1
  rw [fX8_read, hf.1, pk_mul, nI_add, zin_t hi (by decide), zg_t, nI_clamp (by omega), hf.2 a b ha hb]
/-- whether there are three that join unlike -/
def uP (w0 : zX) (J : aJ) (S : aS) (T : aT) (H : Nat → Int32) (s : Nat → Nat) (k : Nat) (w : zW) (b : Bool) (w' : zW) : Prop := (b = false ∧ w' = w ∧ ∀ a b c, a < k → b < k → c < k → tA s k a b c) ∨ (b = true ∧ uD w0 J S T H w' ∧ ¬ ∀ a b c, a < k → b < k → c < k → tA s k a b c)
theorem alike8_22 (h : gd s n k) (hf : fr8 s k w) (hD : uD w0 J S T H w) {a b : Nat} (ha : a < k) (hb : b < k) {j : Int32 → zW → Option (Bool × zW)} (hj : (∀ c, c < k → tA s k a b c) → Ok (j (nI (b + 1)) w) (uP w0 J S T H s k w)) : ∀ m c N, c + m = k → m < N → (∀ c', c' < c → tA s k a b c') → Ok (fX8_hasUnlike_L22 (nI a) (nI b) j N (nI c) w) (uP w0 J S T H s k w) := by
  have h5 := h.2.1
  intro m
  induction m with
  | zero =>
    intro c N hc hN hA
    obtain ⟨N, rfl⟩ : ∃ x, N = x + 1 := ⟨N - 1, by omega⟩
    rw [fX8_hasUnlike_L22.eq_2, hf.1, if_pos (nI_le (by omega) (by omega)), nI_1]
    exact hj (fun c' hc' => hA c' (by omega))
  | succ m ih =>
    intro c N hc hN hA
    obtain ⟨N, rfl⟩ : ∃ x, N = x + 1 := ⟨N - 1, by omega⟩
    have hcl : c < k := by omega
    have l1 := tE_l h ha hb
    have l2 := tE_l h hb hcl
    have l3 := tE_l h l1 hcl
    have l4 := tE_l h ha l2
    rw [fX8_hasUnlike_L22.eq_2, hf.1, if_neg (Int32.not_le.mpr (nI_lt hcl (by omega))), read8_s h hf ha hb, bd_s, read8_s h hf l1 hcl, bd_s, read8_s h hf hb hcl, bd_s, read8_s h hf ha l2, bd_s]
    by_cases q : tA s k a b c
    · rw [if_pos (show nI (tE s k (tE s k a b) c) = nI (tE s k a (tE s k b c)) by rw [show tE s k (tE s k a b) c = _ from q]), nI_1]
      refine ih (c + 1) N (by omega) (by omega) (fun c' hc' => ?_)
      by_cases z : c' = c
      · rw [z]; exact q
      · exact hA c' (by omega)
    · rw [if_neg (fun z => q ((nI_eq (by omega) (by omega)).mp z)), lt_e]
      refine ok_b (enters_s (n := 0) (uD_1 (v := 0) hD) rfl (by decide) _) (fun _ w1 a1 => ?_)
      refine ok_b (enters_s a1.1 a1.2 (by decide) _) (fun _ w2 a2 => ?_)
      refine ok_b (enters_s a2.1 a2.2 (by decide) _) (fun _ w3 a3 => ok_r (.inr ⟨rfl, a3.1, fun z => q (z a b c ha hb hcl)⟩))
theorem alike8_12 (h : gd s n k) (hf : fr8 s k w) (hD : uD w0 J S T H w) {a : Nat} (ha : a < k) {j : Int32 → zW → Option (Bool × zW)} (hj : (∀ b c, b < k → c < k → tA s k a b c) → Ok (j (nI (a + 1)) w) (uP w0 J S T H s k w)) : ∀ m b N, b + m = k → m < N → (∀ b' c, b' < b → c < k → tA s k a b' c) → Ok (fX8_hasUnlike_L12 (nI a) j N (nI b) w) (uP w0 J S T H s k w) := by
  have h5 := h.2.1
  intro m
  induction m with
  | zero =>
    intro b N hb hN hA
    obtain ⟨N, rfl⟩ : ∃ x, N = x + 1 := ⟨N - 1, by omega⟩
    rw [fX8_hasUnlike_L12.eq_2, hf.1, if_pos (nI_le (by omega) (by omega)), nI_1]
    exact hj (fun b' c hb' hc => hA b' c (by omega) hc)
  | succ m ih =>
    intro b N hb hN hA
    obtain ⟨N, rfl⟩ : ∃ x, N = x + 1 := ⟨N - 1, by omega⟩
    rw [fX8_hasUnlike_L12.eq_2, hf.1, if_neg (Int32.not_le.mpr (nI_lt (by omega) (by omega)))]
    refine alike8_22 h hf hD ha (show b < k by omega) (fun q => ih (b + 1) N (by omega) (by omega) (fun b' c hb' hc => ?_)) k 0 zFU (by omega) (by rw [show zFU = 18446744073709551616 from rfl]; omega) (fun c hc => absurd hc (Nat.not_lt_zero c))
    by_cases z : b' = b
    · rw [z]; exact q c hc
    · exact hA b' c (by omega) hc
theorem alike8_2 (h : gd s n k) (hf : fr8 s k w) (hD : uD w0 J S T H w) : ∀ m a N, a + m = k → m < N → (∀ a' b c, a' < a → b < k → c < k → tA s k a' b c) → Ok (fX8_hasUnlike_L2 N (nI a) w) (uP w0 J S T H s k w) := by
  have h5 := h.2.1
  intro m
  induction m with
  | zero =>
    intro a N ha hN hA
    obtain ⟨N, rfl⟩ : ∃ x, N = x + 1 := ⟨N - 1, by omega⟩
    rw [fX8_hasUnlike_L2.eq_2, hf.1, if_pos (nI_le (by omega) (by omega))]
    exact ok_r (.inl ⟨rfl, rfl, fun a' b c ha' hb hc => hA a' b c (by omega) hb hc⟩)
  | succ m ih =>
    intro a N ha hN hA
    obtain ⟨N, rfl⟩ : ∃ x, N = x + 1 := ⟨N - 1, by omega⟩
    rw [fX8_hasUnlike_L2.eq_2, hf.1, if_neg (Int32.not_le.mpr (nI_lt (by omega) (by omega)))]
    refine alike8_12 h hf hD (show a < k by omega) (fun q => ih (a + 1) N (by omega) (by omega) (fun a' b c ha' hb hc => ?_)) k 0 zFU (by omega) (by rw [show zFU = 18446744073709551616 from rfl]; omega) (fun b c hb _ => absurd hb (Nat.not_lt_zero b))
    by_cases z : a' = a
    · rw [z]; exact q b c hb hc
    · exact hA a' b c (by omega) hb hc
theorem alike8_s (h : gd s n k) (hf : fr8 s k w) (hD : uD w0 J S T H w) : Ok (fX8_hasUnlike w) (uP w0 J S T H s k w) := by
  have h5 := h.2.1
  rw [fX8_hasUnlike]
  exact alike8_2 h hf hD k 0 zFU (by omega) (by rw [show zFU = 18446744073709551616 from rfl]; omega) (fun a b c ha _ _ => absurd ha (Nat.not_lt_zero a))
theorem neut8_L (h : gd s n k) (hf : fr8 s k w) {e : Nat} (he : e < k) : ∀ m x N (f : Int32), x + m = k → m < N → ((f = 1 ∧ ∀ y, y < x → tE s k e y = y ∧ tE s k y e = y) ∨ (f = 0 ∧ ¬ tN s k e)) → ∃ b, fX8_isNeutral_L4 (nI e) N f (nI x) w = some (b, w) ∧ (b = true ↔ tN s k e) := by
  have h5 := h.2.1
  intro m
  induction m with
  | zero =>
    intro x N f hx hN hA
    obtain ⟨N, rfl⟩ : ∃ x, N = x + 1 := ⟨N - 1, by omega⟩
    rw [fX8_isNeutral_L4.eq_2, hf.1, if_pos (nI_le (by omega) (by omega))]
    rcases hA with ⟨rfl, hA⟩ | ⟨rfl, hA⟩
    · exact ⟨_, rfl, fun _ => fun y hy => hA y (by omega), fun _ => by decide⟩
    · exact ⟨_, rfl, fun z => absurd z (by decide), fun z => absurd z hA⟩
  | succ m ih =>
    intro x N f hx hN hA
    obtain ⟨N, rfl⟩ : ∃ x, N = x + 1 := ⟨N - 1, by omega⟩
    have hxk : x < k := by omega
    rw [fX8_isNeutral_L4.eq_2, hf.1, if_neg (Int32.not_le.mpr (nI_lt hxk (by omega))), lt_e, lt_e]
    rcases hA with ⟨rfl, hA⟩ | ⟨rfl, hA⟩
    · have l1 := tE_l h he hxk
      have l2 := tE_l h hxk he
      rw [if_neg (show ¬ (1 : Int32) = 0 by decide), read8_s h hf he hxk, bd_s]
      by_cases c1 : tE s k e x = x
      · rw [if_neg (not_not_intro (by rw [c1])), read8_s h hf hxk he, bd_s]
        by_cases c2 : tE s k x e = x
        · rw [if_neg (not_not_intro (by rw [c2])), nI_1]
          refine ih (x + 1) N 1 (by omega) (by omega) (.inl ⟨rfl, fun y hy => ?_⟩)
          by_cases z : y = x
          · rw [z]; exact ⟨c1, c2⟩
          · exact hA y (by omega)
        · rw [if_pos (fun z => c2 ((nI_eq (by omega) (by omega)).mp z)), nI_1]
          exact ih (x + 1) N 0 (by omega) (by omega) (.inr ⟨rfl, fun z => c2 (z x hxk).2⟩)
      · rw [if_pos (fun z => c1 ((nI_eq (by omega) (by omega)).mp z)), nI_1]
        exact ih (x + 1) N 0 (by omega) (by omega) (.inr ⟨rfl, fun z => c1 (z x hxk).1⟩)
    · rw [if_pos rfl, nI_1]
      exact ih (x + 1) N 0 (by omega) (by omega) (.inr ⟨rfl, hA⟩)
theorem neut8_s (h : gd s n k) (hf : fr8 s k w) {e : Nat} (he : e < k) : ∃ b, fX8_isNeutral (nI e) w = some (b, w) ∧ (b = true ↔ tN s k e) := by
  have h5 := h.2.1
  rw [fX8_isNeutral]
  exact neut8_L h hf he k 0 zFU 1 (by omega) (by rw [show zFU = 18446744073709551616 from rfl]; omega) (.inl ⟨rfl, fun y hy => absurd hy (Nat.not_lt_zero y)⟩)
theorem copy8_L (hk : k ≤ 5) {P : Int32 → zW → Prop} {wb : zW} (hP : ∀ w', (∀ x, x < k * k → zI w' 77 x = zI wb 89 x) → (∀ a b, a ≠ 77 → zI w' a b = zI wb a b) → w'.2 = wb.2 → Ok (lt (fun (w18 : zW) => some ((zI w18 74 8), w18)) fun j18 => if ¬ (zI w' 74 7) = (7 : Int32) then j18 w' else bd (fX8_laysAll w') fun _ w20 => j18 w20) P) (h8 : zI wb 74 8 = nI k) : ∀ m i N w, i + m = k * k → m < N → (∀ x, x < i → zI w 77 x = zI wb 89 x) → (∀ a b, a ≠ 77 → zI w a b = zI wb a b) → w.2 = wb.2 → Ok (fX8_table_L84 N (nI i) w) P := by
  have hkk : k * k ≤ 25 := Nat.mul_le_mul hk hk
  intro m
  induction m with
  | zero =>
    intro i N w hi hN h1 h2 h3
    obtain ⟨N, rfl⟩ : ∃ x, N = x + 1 := ⟨N - 1, by omega⟩
    have e : zI w 74 8 = nI k := (h2 74 8 (by omega)).trans h8
    rw [fX8_table_L84.eq_2, e, pk_mul, if_pos (nI_le (by omega) (by omega))]
    exact hP w (fun x hx => h1 x (by omega)) h2 h3
  | succ m ih =>
    intro i N w hi hN h1 h2 h3
    obtain ⟨N, rfl⟩ : ∃ x, N = x + 1 := ⟨N - 1, by omega⟩
    have e : zI w 74 8 = nI k := (h2 74 8 (by omega)).trans h8
    rw [fX8_table_L84.eq_2, e, pk_mul, if_neg (Int32.not_le.mpr (nI_lt (by omega) (by omega))), zin_t (show i < 25 by omega) (by decide), zg_t, zg_t, lt_e, nI_clamp (by omega), nI_1]
    refine ih (i + 1) N _ (by omega) (by omega) (fun x hx => ?_) (fun a b ha => ?_) h3
    · rw [zI_zsI]
      by_cases z : x = i
      · rw [if_pos ⟨rfl, z⟩, z]; exact h2 89 i (by omega)
      · rw [if_neg (fun y => z y.2)]; exact h1 x (by omega)
    · rw [zI_zsI, if_neg (fun y => ha y.1)]; exact h2 a b ha
/-- the state behind a new TABLE -/
def tJ (J : aJ) (s : Nat → Nat) (k e : Nat) : aJ := (jK J, k, e, tE s k)
def tZ (J : aJ) (s : Nat → Nat) (k e : Nat) (S : aS) : aS := if jK J = 7 then rL (tJ J s k e) 4 S else S
theorem tJ_W (hW : jW J) (h : gd s n k) {e : Nat} (he : e < k) (hN : tN s k e) : jW (tJ J s k e) := ⟨hW.1, h.1, h.2.1, he, fun i j hi hj => tE_l h hi hj, fun i hi => hN i hi⟩
theorem tZ_W (hW : jW J) (hS : sW J S) (h : gd s n k) {e : Nat} (he : e < k) (hN : tN s k e) : sW (tJ J s k e) (tZ J s k e S) := by
  have hJ' := tJ_W hW h he hN
  unfold tZ
  by_cases c : jK J = 7
  · rw [if_pos c]
    exact ⟨fun j hj => by rw [rL_n]; exact hS.1 j hj, fun x hx => rL_V hJ' (i := 4) (by omega) (fun a ha => kV_I (hS.2.1 a (by omega))), by rw [rL_n]; exact hS.2.2⟩
  · rw [if_neg c]
    refine ⟨hS.1, fun x hx y hy => ?_, hS.2.2⟩
    obtain ⟨a1, a2, a3, a4, a5⟩ := hS.2.1 x hx y hy
    exact ⟨a1, a2, a3, a4, fun z => absurd z c⟩
theorem tail8_s (hW : jW J) (hS : sW J S) (h : gd s n k) {e : Nat} (he : e < k) (hN : tN s k e) (hD : uD w0 J S T H w) (hf : fr8 s k w) : Ok (lt (zsI w 74 8 (zI w 74 27)) fun w15 => lt (zsI w15 74 9 (nI e)) fun w16 => fX8_table_L84 zFU (0 : Int32) w16) (fun a w' => a = nI k ∧ ∃ H', uD w0 (tJ J s k e) (tZ J s k e S) T H' w') := by
  have h5 := h.2.1
  have hJ' := tJ_W hW h he hN
  have hkk : k * k ≤ 25 := Nat.mul_le_mul h5 h5
  rw [lt_e, lt_e, hf.1]
  refine copy8_L h5 (wb := zsI (zsI w 74 8 (nI k)) 74 9 (nI e)) (fun w' b1 b2 b3 => ?_) rfl (k * k) 0 zFU _ (by omega) (by rw [show zFU = 18446744073709551616 from rfl]; omega) (fun x hx => absurd hx (Nat.not_lt_zero x)) (fun _ _ _ => rfl) rfl
  have hI : ∀ a b, a ≠ 77 → ¬ (a = 74 ∧ b = 8) → ¬ (a = 74 ∧ b = 9) → zI w' a b = zI w a b := fun a b h1 h2 h3 => by rw [b2 a b h1, zI_zsI, if_neg h3, zI_zsI, if_neg h2]
  have hL : ∀ a b, zL w' a b = zL w a b := fun a b => by unfold zL; rw [b3]; rfl
  have hD' : uD w0 (tJ J s k e) S T H w' := by
    obtain ⟨c1, c2, c3, c4, c5, c6, c7⟩ := hD
    refine ⟨⟨?_, ?_, ?_, fun i j hi hj => ?_⟩, fun x hx => ⟨?_, fun y hy => ⟨?_, ?_, ?_, ?_⟩⟩, ⟨?_, ?_⟩, ⟨?_, fun i hi => ?_⟩, fun i => ?_, fun x y hx => ⟨?_, ?_⟩, ?_⟩
    · rw [hI _ _ (by omega) (by omega) (by omega)]; exact c1.1
    · rw [b2 _ _ (by omega), zI_zsI, if_neg (by omega), zI_zsI, if_pos ⟨rfl, rfl⟩]; rfl
    · rw [b2 _ _ (by omega), zI_zsI, if_pos ⟨rfl, rfl⟩]; rfl
    · have hi' : i < k := hi
      have hj' : j < k := hj
      have hlt : k * i + j < k * k := by
        have : k * i ≤ k * (k - 1) := Nat.mul_le_mul_left _ (by omega)
        have e1 : k * (k - 1) + k = k * k := by
          obtain ⟨x, rfl⟩ : ∃ x, k = x + 1 := ⟨k - 1, by omega⟩
          show (x + 1) * x + (x + 1) = (x + 1) * (x + 1)
          rw [Nat.mul_succ (x + 1) x]
        omega
      show zI w' 77 (k * i + j) = nI (tE s k i j)
      rw [b1 _ hlt]
      exact hf.2 i j hi' hj'
    · rw [hI _ _ (by omega) (by omega) (by omega)]; exact (c2 x hx).1
    · rw [hI _ _ (by omega) (by omega) (by omega)]; exact ((c2 x hx).2 y hy).1
    · rw [hL]; exact ((c2 x hx).2 y hy).2.1
    · rw [hL]; exact ((c2 x hx).2 y hy).2.2.1
    · rw [hI _ _ (by omega) (by omega) (by omega)]; exact ((c2 x hx).2 y hy).2.2.2
    · rw [hI _ _ (by omega) (by omega) (by omega)]; exact c3.1
    · rw [hI _ _ (by omega) (by omega) (by omega)]; exact c3.2
    · rw [hI _ _ (by omega) (by omega) (by omega)]; exact c4.1
    · rw [hI _ _ (by omega) (by omega) (by omega)]; exact c4.2 i hi
    · rw [hI _ _ (by omega) (by omega) (by omega)]; exact c5 i
    · rw [hI _ _ (by omega) (by omega) (by omega)]; exact (c6 x y hx).1
    · rw [hL]; exact (c6 x y hx).2
    · obtain ⟨g1, t, g2, g3⟩ := c7
      exact ⟨by rw [b3]; exact g1, t, g2, (hI _ _ (by omega) (by omega) (by omega)).trans g3⟩
  have e7 : zI w' 74 7 = nI (jK J) := hD'.1.1
  have hK := hW.1
  rw [lt_e, e7]
  unfold tZ
  by_cases c : jK J = 7
  · rw [if_neg (not_not_intro (by rw [c]; rfl)), if_pos c]
    refine ok_b (all8_s hJ' hD' (sW_B hS) hS.1 (fun a ha => kV_I (hS.2.1 a ha))) (fun _ w2 a2 => ?_)
    obtain ⟨H', a2⟩ := a2
    dsimp only
    rw [a2.1.2.1]
    exact ok_r ⟨rfl, H', a2⟩
  · rw [if_pos (show ¬ nI (jK J) = 7 from fun q => c ((nI_eq (b := 7) (by omega) (by decide)).mp q)), if_neg c]
    dsimp only
    rw [hD'.1.2.1]
    exact ok_r ⟨rfl, H, hD'⟩
theorem seek8_L (hW : jW J) (hS : sW J S) (h : gd s n k) (hD : uD w0 J S T H w) (hf : fr8 s k w) {P : Int32 → zW → Prop} (hno : (∀ e, e < k → ¬ tN s k e) → P (-11) w) (hyes : ∀ e, e < k → tN s k e → (∀ e', e' < e → ¬ tN s k e') → Ok (lt (zsI w 74 8 (zI w 74 27)) fun w15 => lt (zsI w15 74 9 (nI e)) fun w16 => fX8_table_L84 zFU (0 : Int32) w16) P) : ∀ m e N, e + m = k → m < N → (∀ e', e' < e → ¬ tN s k e') → Ok (fX8_table_L36 N (nI e) w) P := by
  have h5 := h.2.1
  intro m
  induction m with
  | zero =>
    intro e N he hN hA
    obtain ⟨N, rfl⟩ : ∃ x, N = x + 1 := ⟨N - 1, by omega⟩
    rw [fX8_table_L36.eq_2, lt_e, hf.1, if_pos (nI_le (by omega) (by omega))]
    dsimp only
    rw [hf.1, if_neg (not_not_intro (by rw [show e = k by omega]))]
    exact ok_r (hno (fun e' he' => hA e' (by omega)))
  | succ m ih =>
    intro e N he hN hA
    obtain ⟨N, rfl⟩ : ∃ x, N = x + 1 := ⟨N - 1, by omega⟩
    obtain ⟨b, eb, hb⟩ := neut8_s h hf (show e < k by omega)
    rw [fX8_table_L36.eq_2, lt_e, hf.1, if_neg (Int32.not_le.mpr (nI_lt (by omega) (by omega))), eb, bd_s]
    by_cases c : tN s k e
    · rw [hb.mpr c, tt]
      dsimp only
      have hne : ¬ nI e = zI w 74 27 := by
        rw [hf.1]
        exact fun q => by have := (nI_eq (by omega) (by omega)).mp q; omega
      rw [if_pos hne]
      exact hyes e (by omega) c hA
    · rw [if_neg (fun q => c (hb.mp q)), nI_1]
      refine ih (e + 1) N (by omega) (by omega) (fun e' he' => ?_)
      by_cases z : e' = e
      · rw [z]; exact c
      · exact hA e' (by omega)
/-- what a table() comes to: nothing new, or a new TABLE -/
theorem tab7 (hW : jW J) (hS : sW J S) (hT : tW T) (h : uC w0 J S T H w) : Ok (fX7_table w) (fun _ w' => ((¬ ∃ k e, gd T.2 T.1 k ∧ (∀ a b c, a < k → b < k → c < k → tA T.2 k a b c) ∧ e < k ∧ tN T.2 k e) → ∃ H', uC w0 J S (0, T.2) H' w') ∧ ∀ k e, gd T.2 T.1 k → (∀ a b c, a < k → b < k → c < k → tA T.2 k a b c) → e < k → tN T.2 k e → (∀ e', e' < e → ¬ tN T.2 k e') → ∃ H', uC w0 (tJ J T.2 k e) (tZ J T.2 k e S) (0, T.2) H' w') := by
  obtain ⟨v, ev, hv⟩ := wrongT_s h hT
  rw [fX7_table, ev, bd_s, lt_e]
  by_cases c : v = -1
  · have hg := hv.mp c
    rw [if_neg (not_not_intro c)]
    refine ok_b (read7_s h hT hg) (fun _ w1 a1 => ?_)
    obtain ⟨b1, b2, b3⟩ := a1
    have hC := uC_r b1
    have hf : fr2 T.2 (fR T.2 T.1 T.1 0) (zsI w1 64 0 0) := b2
    obtain ⟨u, eu, hu⟩ := alike7_s hg hf
    dsimp only
    rw [lt_e, if_pos c, eu, bd_s]
    by_cases c2 : u = -1
    · have hA := hu.mp c2
      rw [if_pos c2, show zI (zsI w1 64 0 0) 62 1 = zI w1 62 1 from rfl]
      rcases b3 with ⟨e, he, e1, e2, e3⟩ | ⟨e1, e2⟩
      · rw [e1, if_pos (fun q => nI_pos (n := e) (by have := hg.2.1; omega) (by rw [q]; decide))]
        refine ok_b (become3_s hC hg hf (show zI (zsI w1 64 0 0) 62 1 = nI e from e1)) (fun _ w2 a2 => ?_)
        have hJ' := tJ_W hW hg he e2
        have fin : ∀ w3, (∃ H', uC w0 (tJ J T.2 (fR T.2 T.1 T.1 0) e) (tZ J T.2 (fR T.2 T.1 T.1 0) e S) (0, T.2) H' w3) → ((¬ ∃ k e, gd T.2 T.1 k ∧ (∀ a b c, a < k → b < k → c < k → tA T.2 k a b c) ∧ e < k ∧ tN T.2 k e) → ∃ H', uC w0 J S (0, T.2) H' w3) ∧ ∀ k e, gd T.2 T.1 k → (∀ a b c, a < k → b < k → c < k → tA T.2 k a b c) → e < k → tN T.2 k e → (∀ e', e' < e → ¬ tN T.2 k e') → ∃ H', uC w0 (tJ J T.2 k e) (tZ J T.2 k e S) (0, T.2) H' w3 := by
          intro w3 hw3
          refine ⟨fun q => absurd ⟨_, e, hg, hA, he, e2⟩ q, fun k' e' g' _ he' h1' h2' => ?_⟩
          have hk' := gd_fR g'
          subst hk'
          have : e' = e := by
            rcases Nat.lt_trichotomy e' e with z | z | z
            · exact absurd h1' (e3 e' z)
            · exact z
            · exact absurd e2 (h2' e z)
          subst this
          exact hw3
        have hK := hW.1
        rw [lt_e, a2.1.1.1]
        by_cases c7 : jK J = 7
        · have c7' : jK (jK J, fR T.2 T.1 T.1 0, e, tE T.2 (fR T.2 T.1 T.1 0)) = 7 := c7
          rw [if_neg (not_not_intro (by rw [c7']; rfl))]
          refine ok_b (all_s hJ' a2.1 hS.1 (fun a ha => kV_I (hS.2.1 a ha))) (fun _ w3 a3 => ok_r (fin w3 ?_))
          unfold tZ
          rw [if_pos c7]; exact a3
        · have c7' : ¬ jK (jK J, fR T.2 T.1 T.1 0, e, tE T.2 (fR T.2 T.1 T.1 0)) = 7 := c7
          rw [if_pos (show ¬ nI (jK (jK J, fR T.2 T.1 T.1 0, e, tE T.2 (fR T.2 T.1 T.1 0))) = 7 from fun q => c7' ((nI_eq (b := 7) (show jK J < 2 ^ 31 by omega) (by decide)).mp q))]
          refine ok_r (fin w2 ?_)
          unfold tZ
          rw [if_neg c7]; exact ⟨H, a2.1⟩
      · rw [e1, if_neg (show ¬ ¬ (-1 : Int32) = -1 by decide)]
        refine ok_r ⟨fun _ => ⟨H, hC⟩, fun k' e' g' _ he' h1' _ => ?_⟩
        have hk' := gd_fR g'
        subst hk'
        exact absurd h1' (e2 e' he')
    · rw [if_neg c2]
      refine ok_b (tell3_s hC _ _ _) (fun _ w2 a2 => ok_r ⟨fun _ => ⟨H, a2⟩, fun k' e' g' hA' _ _ _ => ?_⟩)
      have hk' := gd_fR g'
      subst hk'
      exact absurd (hu.mpr hA') c2
  · rw [if_pos c]
    dsimp only
    rw [lt_e, if_neg c]
    refine ok_r ⟨fun _ => ⟨H, uC_r h⟩, fun k' e' g' _ _ _ _ => ?_⟩
    have hk' := gd_fR g'
    rw [← hk'] at g'
    exact absurd (hv.mpr g') c
def tP8 (w0 : zX) (J : aJ) (S : aS) (T : aT) (_ : Int32) (w' : zW) : Prop := ((¬ ∃ k e, gd T.2 T.1 k ∧ (∀ a b c, a < k → b < k → c < k → tA T.2 k a b c) ∧ e < k ∧ tN T.2 k e) → ∃ H', uD w0 J S (0, T.2) H' w') ∧ ∀ k e, gd T.2 T.1 k → (∀ a b c, a < k → b < k → c < k → tA T.2 k a b c) → e < k → tN T.2 k e → (∀ e', e' < e → ¬ tN T.2 k e') → ∃ H', uD w0 (tJ J T.2 k e) (tZ J T.2 k e S) (0, T.2) H' w'
theorem tab8 (hW : jW J) (hS : sW J S) (hT : tW T) (h : uD w0 J S T H w) : Ok (fX8_table w) (tP8 w0 J S T) := by
  have hT0 : tW (0, T.2) := ⟨Nat.zero_le _, hT.2⟩
  obtain ⟨W, eW, b1, b2, b3⟩ := reads_s (uD_0 h)
  rw [fX8_table, lt_e, eW, bd_s]
  refine ok_b (readsT_s (T := (0, T.2)) (n := T.1) b1 hT0 hT.1 b2 b3) (fun b w1 a1 => ?_)
  obtain ⟨c1, ⟨rfl, g, hf⟩ | ⟨rfl, ng⟩⟩ := a1
  · rw [tt]
    have g : gd T.2 T.1 (lw T.2 T.1 5 0) := g
    have hf : fr8 T.2 (lw T.2 T.1 5 0) w1 := hf
    refine ok_b (alike8_s g hf c1) (fun b w2 a2 => ?_)
    rcases a2 with ⟨rfl, rfl, hA⟩ | ⟨rfl, d1, d2⟩
    · rw [ff]
      refine seek8_L (P := tP8 w0 J S T) hW hS g c1 hf (fun hn => ⟨fun _ => ⟨H, c1⟩, fun k' e' g' _ he' h1' _ => ?_⟩) (fun e he e2 e3 => ?_) (lw T.2 T.1 5 0) 0 zFU (by omega) (by have := g.2.1; rw [show zFU = 18446744073709551616 from rfl]; omega) (fun e he => absurd he (Nat.not_lt_zero e))
      · have hk' := gd_lw g'
        subst hk'
        exact absurd h1' (hn e' he')
      · refine ok_m (tail8_s hW hS g he e2 c1 hf) (fun x w3 a3 => ⟨fun q => absurd ⟨_, e, g, hA, he, e2⟩ q, fun k' e' g' _ he' h1' h2' => ?_⟩)
        have hk' := gd_lw g'
        subst hk'
        have : e' = e := by
          rcases Nat.lt_trichotomy e' e with z | z | z
          · exact absurd h1' (e3 e' z)
          · exact z
          · exact absurd e2 (h2' e z)
        subst this
        exact a3.2
    · rw [tt]
      refine ok_r ⟨fun _ => ⟨H, d1⟩, fun k' e' g' hA' _ _ _ => ?_⟩
      have hk' := gd_lw g'
      subst hk'
      exact absurd hA' d2
  · rw [ff]
    exact ok_r ⟨fun _ => ⟨H, c1⟩, fun k' e' g' _ _ _ _ => absurd g' (ng k')⟩
theorem table_b (h : rW J S T w) : Bq fX7_table fX8_table (fun _ _ => True) w := by
  obtain ⟨hW, hS, hT, -, -⟩ := id h
  have hT0 : tW (0, T.2) := ⟨Nat.zero_le _, hT.2⟩
  by_cases c : ∃ k e, gd T.2 T.1 k ∧ (∀ a b c, a < k → b < k → c < k → tA T.2 k a b c) ∧ e < k ∧ tN T.2 k e
  · obtain ⟨k, e, g, hA, he, hN⟩ := c
    obtain ⟨e0, h0, hl⟩ := pk_least (fun e => e < k ∧ tN T.2 k e) ⟨e, he, hN⟩
    have hmin : ∀ e', e' < e0 → ¬ tN T.2 k e' := fun e' h1 h2 => hl e' h1 ⟨by have := h0.1; omega, h2⟩
    exact bq h (tJ J T.2 k e0) (tZ J T.2 k e0 S) (0, T.2) (tJ_W hW g h0.1 h0.2) (tZ_W hW hS g h0.1 h0.2) hT0 (fun _ => True) (fun _ => True) (fun _ _ _ _ => trivial) (fun H hC => ok_m (tab7 hW hS hT hC) (fun _ _ a => ⟨trivial, a.2 k e0 g hA h0.1 h0.2 hmin⟩)) (fun w1 H hD => ok_m (tab8 hW hS hT hD) (fun _ _ a => ⟨trivial, a.2 k e0 g hA h0.1 h0.2 hmin⟩))
  · exact bq h J S (0, T.2) hW hS hT0 (fun _ => True) (fun _ => True) (fun _ _ _ _ => trivial) (fun H hC => ok_m (tab7 hW hS hT hC) (fun _ _ a => ⟨trivial, a.1 c⟩)) (fun w1 H hD => ok_m (tab8 hW hS hT hD) (fun _ _ a => ⟨trivial, a.1 c⟩))
end T9
