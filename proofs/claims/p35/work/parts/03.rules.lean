-- a class as the rules want it
def zK (c : Nat) (q : vw_C) : Prop := vwCl[c]? = some q ∧ (∀ w ∈ u_ws q.1 q.2.1 q.2.2, w ∈ zTb) ∧ q.2.2 = zN c ∧ (∀ k, k < q.2.2 → parseFieldDescriptor (q.2.1 k).2.2.1 = some (zty c k)) ∧ (∀ a, a < q.2.2 → ∀ b, b < q.2.2 → a ≠ b → (q.2.1 a).2.1 ≠ (q.2.1 b).2.1)

theorem kz0 : zK 0 (RX0, TX0, 4) := ⟨rfl, by decide +kernel, rfl, tyX0_ok, nmX0⟩
theorem kz1 : zK 1 (RX1, TX1, 2) := ⟨rfl, by decide +kernel, rfl, tyX1_ok, nmX1⟩
theorem kz2 : zK 2 (RX2, TX2, 5) := ⟨rfl, by decide +kernel, rfl, tyX2_ok, nmX2⟩
theorem kz3 : zK 3 (RX3, TX3, 3) := ⟨rfl, by decide +kernel, rfl, tyX3_ok, nmX3⟩
theorem kz4 : zK 4 (RX4, TX4, 6) := ⟨rfl, by decide +kernel, rfl, tyX4_ok, nmX4⟩
theorem kz5 : zK 5 (RX5, TX5, 2) := ⟨rfl, by decide +kernel, rfl, tyX5_ok, nmX5⟩
theorem kz6 : zK 6 (RX6, TX6, 4) := ⟨rfl, by decide +kernel, rfl, tyX6_ok, nmX6⟩
theorem kz7 : zK 7 (RX7, TX7, 11) := ⟨rfl, by decide +kernel, rfl, tyX7_ok, nmX7⟩
theorem kz8 : zK 8 (RX8, TX8, 32) := ⟨rfl, by decide +kernel, rfl, tyX8_ok, nmX8⟩
def oc {β : Type} (o : Option Nat) (a : β) (f : Nat → β) : β := match o with
  | none => a
  | some x => f x
def zFU : Nat := 18446744073709551616
theorem zd {cc : ByteArray} {L : List (Nat × Instr × Nat)} (h : ∀ q ∈ L, decode cc q.1 = .ok (q.2.1, q.2.2)) (i : Nat) {pc : Nat} {ins : Instr} {len : Nat} (e : L[i]? = some (pc, ins, len)) : decode cc pc = .ok (ins, len) := h (pc, ins, len) (List.mem_of_getElem? e)
theorem zref_ne {w : zW} {k j : Nat} (h : k ≠ 66) : zref w k j = zlay k j := by unfold zref; rw [if_neg h]
theorem zR_or (w : zW) (j : Nat) : zR w j = 67 ∨ zR w j = 68 ∨ zR w j = 69 ∨ zR w j = 70 := by unfold zR; omega
theorem zR_a (w : zW) (j : Nat) : za 0 (zR w j) ∧ zlen (zR w j) = 65 := by
  rcases zR_or w j with h | h | h | h <;> rw [h] <;> (unfold za; decide)
theorem zfin (P : Nat → Prop) [DecidablePred P] (h : ∀ k, k < 93 → P k) {k : Nat} (hk : k < 93) : P k := h k hk
theorem zf1_0 {w : zW} {h : Nat} (hh : zc 1 h) : zref w h 0 = h + 1 ∧ zc 2 (h + 1) := by
  have e : ∀ h, h < 93 → zsh h = (4, 0) → h ≠ 66 ∧ zlay h 0 = h + 1 ∧ h + 1 < 93 ∧ zsh (h + 1) = (5, 0) := by decide +kernel
  obtain ⟨a, b, c, d⟩ := e h hh.1 hh.2
  exact ⟨(zref_ne a).trans b, c, d⟩
theorem zf1_1 {w : zW} {h : Nat} (hh : zc 1 h) : zref w h 1 = h + 6 ∧ zc 2 (h + 6) := by
  have e : ∀ h, h < 93 → zsh h = (4, 0) → h ≠ 66 ∧ zlay h 1 = h + 6 ∧ h + 6 < 93 ∧ zsh (h + 6) = (5, 0) := by decide +kernel
  obtain ⟨a, b, c, d⟩ := e h hh.1 hh.2
  exact ⟨(zref_ne a).trans b, c, d⟩
theorem zf2_1 {w : zW} {h : Nat} (hh : zc 2 h) : zref w h 1 = h + 1 ∧ za 0 (h + 1) ∧ zlen (h + 1) = 64 := by
  have e : ∀ h, h < 93 → zsh h = (5, 0) → h ≠ 66 ∧ zlay h 1 = h + 1 ∧ h + 1 < 93 ∧ zsh (h + 1) = (0, 64) := by decide +kernel
  obtain ⟨a, b, c, d⟩ := e h hh.1 hh.2
  have d2 : zlen (h + 1) = 64 := by unfold zlen; rw [d]
  exact ⟨(zref_ne a).trans b, ⟨c, by rw [d2]; exact d⟩, d2⟩
theorem zf2_2 {w : zW} {h : Nat} (hh : zc 2 h) : zref w h 2 = h + 2 ∧ za 1 (h + 2) ∧ zlen (h + 2) = 64 := by
  have e : ∀ h, h < 93 → zsh h = (5, 0) → h ≠ 66 ∧ zlay h 2 = h + 2 ∧ h + 2 < 93 ∧ zsh (h + 2) = (1, 64) := by decide +kernel
  obtain ⟨a, b, c, d⟩ := e h hh.1 hh.2
  have d2 : zlen (h + 2) = 64 := by unfold zlen; rw [d]
  exact ⟨(zref_ne a).trans b, ⟨c, by rw [d2]; exact d⟩, d2⟩
theorem zf2_3 {w : zW} {h : Nat} (hh : zc 2 h) : zref w h 3 = h + 3 ∧ za 1 (h + 3) ∧ zlen (h + 3) = 64 := by
  have e : ∀ h, h < 93 → zsh h = (5, 0) → h ≠ 66 ∧ zlay h 3 = h + 3 ∧ h + 3 < 93 ∧ zsh (h + 3) = (1, 64) := by decide +kernel
  obtain ⟨a, b, c, d⟩ := e h hh.1 hh.2
  have d2 : zlen (h + 3) = 64 := by unfold zlen; rw [d]
  exact ⟨(zref_ne a).trans b, ⟨c, by rw [d2]; exact d⟩, d2⟩
theorem zf2_4 {w : zW} {h : Nat} (hh : zc 2 h) : zref w h 4 = h + 4 ∧ za 0 (h + 4) ∧ zlen (h + 4) = 64 := by
  have e : ∀ h, h < 93 → zsh h = (5, 0) → h ≠ 66 ∧ zlay h 4 = h + 4 ∧ h + 4 < 93 ∧ zsh (h + 4) = (0, 64) := by decide +kernel
  obtain ⟨a, b, c, d⟩ := e h hh.1 hh.2
  have d2 : zlen (h + 4) = 64 := by unfold zlen; rw [d]
  exact ⟨(zref_ne a).trans b, ⟨c, by rw [d2]; exact d⟩, d2⟩
theorem zf3_2 {w : zW} {h : Nat} (hh : zc 3 h) : zref w h 2 = h + 1 ∧ za 0 (h + 1) ∧ zlen (h + 1) = 25 := by
  have e : ∀ h, h < 93 → zsh h = (6, 0) → h ≠ 66 ∧ zlay h 2 = h + 1 ∧ h + 1 < 93 ∧ zsh (h + 1) = (0, 25) := by decide +kernel
  obtain ⟨a, b, c, d⟩ := e h hh.1 hh.2
  have d2 : zlen (h + 1) = 25 := by unfold zlen; rw [d]
  exact ⟨(zref_ne a).trans b, ⟨c, by rw [d2]; exact d⟩, d2⟩
theorem zs_0 : zc 7 0 := by unfold zc; decide
theorem zs_1 : zc 0 1 := by unfold zc; decide
theorem zs_2 : zc 3 2 := by unfold zc; decide
theorem zs_3 : za 0 3 ∧ zlen 3 = 25 := by unfold za; decide
theorem zs_4 : zc 6 4 := by unfold zc; decide
theorem zs_5 : za 0 5 ∧ zlen 5 = 64 := by unfold za; decide
theorem zs_6 : za 2 6 ∧ zlen 6 = 4 := by unfold za; decide
theorem zs_7 : zc 1 7 := by unfold zc; decide
theorem zs_8 : zc 2 8 := by unfold zc; decide
theorem zs_9 : za 0 9 ∧ zlen 9 = 64 := by unfold za; decide
theorem zs_10 : za 1 10 ∧ zlen 10 = 64 := by unfold za; decide
theorem zs_11 : za 1 11 ∧ zlen 11 = 64 := by unfold za; decide
theorem zs_12 : za 0 12 ∧ zlen 12 = 64 := by unfold za; decide
theorem zs_13 : zc 2 13 := by unfold zc; decide
theorem zs_14 : za 0 14 ∧ zlen 14 = 64 := by unfold za; decide
theorem zs_15 : za 1 15 ∧ zlen 15 = 64 := by unfold za; decide
theorem zs_16 : za 1 16 ∧ zlen 16 = 64 := by unfold za; decide
theorem zs_17 : za 0 17 ∧ zlen 17 = 64 := by unfold za; decide
theorem zs_18 : zc 1 18 := by unfold zc; decide
theorem zs_19 : zc 2 19 := by unfold zc; decide
theorem zs_20 : za 0 20 ∧ zlen 20 = 64 := by unfold za; decide
theorem zs_21 : za 1 21 ∧ zlen 21 = 64 := by unfold za; decide
theorem zs_22 : za 1 22 ∧ zlen 22 = 64 := by unfold za; decide
theorem zs_23 : za 0 23 ∧ zlen 23 = 64 := by unfold za; decide
theorem zs_24 : zc 2 24 := by unfold zc; decide
theorem zs_25 : za 0 25 ∧ zlen 25 = 64 := by unfold za; decide
theorem zs_26 : za 1 26 ∧ zlen 26 = 64 := by unfold za; decide
theorem zs_27 : za 1 27 ∧ zlen 27 = 64 := by unfold za; decide
theorem zs_28 : za 0 28 ∧ zlen 28 = 64 := by unfold za; decide
theorem zs_29 : zc 1 29 := by unfold zc; decide
theorem zs_30 : zc 2 30 := by unfold zc; decide
theorem zs_31 : za 0 31 ∧ zlen 31 = 64 := by unfold za; decide
theorem zs_32 : za 1 32 ∧ zlen 32 = 64 := by unfold za; decide
theorem zs_33 : za 1 33 ∧ zlen 33 = 64 := by unfold za; decide
theorem zs_34 : za 0 34 ∧ zlen 34 = 64 := by unfold za; decide
theorem zs_35 : zc 2 35 := by unfold zc; decide
theorem zs_36 : za 0 36 ∧ zlen 36 = 64 := by unfold za; decide
theorem zs_37 : za 1 37 ∧ zlen 37 = 64 := by unfold za; decide
theorem zs_38 : za 1 38 ∧ zlen 38 = 64 := by unfold za; decide
theorem zs_39 : za 0 39 ∧ zlen 39 = 64 := by unfold za; decide
theorem zs_40 : zc 1 40 := by unfold zc; decide
theorem zs_41 : zc 2 41 := by unfold zc; decide
theorem zs_42 : za 0 42 ∧ zlen 42 = 64 := by unfold za; decide
theorem zs_43 : za 1 43 ∧ zlen 43 = 64 := by unfold za; decide
theorem zs_44 : za 1 44 ∧ zlen 44 = 64 := by unfold za; decide
theorem zs_45 : za 0 45 ∧ zlen 45 = 64 := by unfold za; decide
theorem zs_46 : zc 2 46 := by unfold zc; decide
theorem zs_47 : za 0 47 ∧ zlen 47 = 64 := by unfold za; decide
theorem zs_48 : za 1 48 ∧ zlen 48 = 64 := by unfold za; decide
theorem zs_49 : za 1 49 ∧ zlen 49 = 64 := by unfold za; decide
theorem zs_50 : za 0 50 ∧ zlen 50 = 64 := by unfold za; decide
theorem zs_51 : zc 1 51 := by unfold zc; decide
theorem zs_52 : zc 2 52 := by unfold zc; decide
theorem zs_53 : za 0 53 ∧ zlen 53 = 64 := by unfold za; decide
theorem zs_54 : za 1 54 ∧ zlen 54 = 64 := by unfold za; decide
theorem zs_55 : za 1 55 ∧ zlen 55 = 64 := by unfold za; decide
theorem zs_56 : za 0 56 ∧ zlen 56 = 64 := by unfold za; decide
theorem zs_57 : zc 2 57 := by unfold zc; decide
theorem zs_58 : za 0 58 ∧ zlen 58 = 64 := by unfold za; decide
theorem zs_59 : za 1 59 ∧ zlen 59 = 64 := by unfold za; decide
theorem zs_60 : za 1 60 ∧ zlen 60 = 64 := by unfold za; decide
theorem zs_61 : za 0 61 ∧ zlen 61 = 64 := by unfold za; decide
theorem zs_62 : zc 3 62 := by unfold zc; decide
theorem zs_63 : za 0 63 ∧ zlen 63 = 25 := by unfold za; decide
theorem zs_64 : zc 5 64 := by unfold zc; decide
theorem zs_65 : za 0 65 ∧ zlen 65 = 100 := by unfold za; decide
theorem zs_66 : zc 4 66 := by unfold zc; decide
theorem zs_67 : za 0 67 ∧ zlen 67 = 65 := by unfold za; decide
theorem zs_68 : za 0 68 ∧ zlen 68 = 65 := by unfold za; decide
theorem zs_69 : za 0 69 ∧ zlen 69 = 65 := by unfold za; decide
theorem zs_70 : za 0 70 ∧ zlen 70 = 65 := by unfold za; decide
theorem zs_71 : za 1 71 ∧ zlen 71 = 128 := by unfold za; decide
theorem zs_72 : za 1 72 ∧ zlen 72 = 129 := by unfold za; decide
theorem zs_73 : za 1 73 ∧ zlen 73 = 129 := by unfold za; decide
theorem zs_74 : zc 8 74 := by unfold zc; decide
theorem zs_75 : za 1 75 ∧ zlen 75 = 160 := by unfold za; decide
theorem zs_76 : za 0 76 ∧ zlen 76 = 100 := by unfold za; decide
theorem zs_77 : za 0 77 ∧ zlen 77 = 25 := by unfold za; decide
theorem zs_78 : za 0 78 ∧ zlen 78 = 4 := by unfold za; decide
theorem zs_79 : za 0 79 ∧ zlen 79 = 4 := by unfold za; decide
theorem zs_80 : za 0 80 ∧ zlen 80 = 4 := by unfold za; decide
theorem zs_81 : za 1 81 ∧ zlen 81 = 129 := by unfold za; decide
theorem zs_82 : za 1 82 ∧ zlen 82 = 129 := by unfold za; decide
theorem zs_83 : za 0 83 ∧ zlen 83 = 10 := by unfold za; decide
theorem zs_84 : za 0 84 ∧ zlen 84 = 640 := by unfold za; decide
theorem zs_85 : za 0 85 ∧ zlen 85 = 640 := by unfold za; decide
theorem zs_86 : za 1 86 ∧ zlen 86 = 640 := by unfold za; decide
theorem zs_87 : za 1 87 ∧ zlen 87 = 640 := by unfold za; decide
theorem zs_88 : za 0 88 ∧ zlen 88 = 65 := by unfold za; decide
theorem zs_89 : za 0 89 ∧ zlen 89 = 25 := by unfold za; decide
theorem zs_90 : za 0 90 ∧ zlen 90 = 100 := by unfold za; decide
theorem zs_91 : za 0 91 ∧ zlen 91 = 100 := by unfold za; decide
theorem zs_92 : za 1 92 ∧ zlen 92 = 1 := by unfold za; decide
section TF
variable {ρ : Type} {M : zM} {inj : zEnd ρ} {r : Option (ρ × zW)} {pc : Nat} {lv : List (Nat × Value)} {st : List Value} {w : zW}
theorem tz_getI {q : vw_C} {ci k index : Nat} (j : Nat) (hk : zK ci q) (ho : zc ci k) (hj : j < q.2.2) (ht : zty ci j = .int) (hm : Cond.fieldLink M.2.1 index (q.2.1 j).1 (q.2.1 j).2.1 (q.2.1 j).2.2.1 ∈ zTb) (d : decode M.1 pc = .ok (.getfield index, 3)) (k1 : Tz M inj r (pc + 3) lv (.int (zI w k j) :: st) w) : Tz M inj r pc lv (.ref k :: st) w := fun res h p l e s m args below meth c D cA AD A X cells slots hB hE H locs ls hP hS hl => va_get (D := D) (ci := ci) X.1 X.2.1 (Ts := zTb) X.2.2.2.2.2.1 hk.2.1 X.2.2.2.2.1 X.2.2.2.2.2.2.2.1 hP k (zws_o ho) hk.1 j hj (X.2.2.2.2.2.1 _ hm) (fun _ z => z) (by rw [zfs_at (by rw [← hk.2.2.1]; exact hj), ht]; rfl) d (k1 res h p l e s m args below meth c D cA AD A X cells slots hB hE H locs ls hP hS hl)
theorem tz_getJ {q : vw_C} {ci k index : Nat} (j : Nat) (hk : zK ci q) (ho : zc ci k) (hj : j < q.2.2) (ht : zty ci j = .long) (hm : Cond.fieldLink M.2.1 index (q.2.1 j).1 (q.2.1 j).2.1 (q.2.1 j).2.2.1 ∈ zTb) (d : decode M.1 pc = .ok (.getfield index, 3)) (k1 : Tz M inj r (pc + 3) lv (.long (zL w k j) :: st) w) : Tz M inj r pc lv (.ref k :: st) w := fun res h p l e s m args below meth c D cA AD A X cells slots hB hE H locs ls hP hS hl => va_get (D := D) (ci := ci) X.1 X.2.1 (Ts := zTb) X.2.2.2.2.2.1 hk.2.1 X.2.2.2.2.1 X.2.2.2.2.2.2.2.1 hP k (zws_o ho) hk.1 j hj (X.2.2.2.2.2.1 _ hm) (fun _ z => z) (by rw [zfs_at (by rw [← hk.2.2.1]; exact hj), ht]; rfl) d (k1 res h p l e s m args below meth c D cA AD A X cells slots hB hE H locs ls hP hS hl)
theorem tz_getR {q : vw_C} {ci k index : Nat} (t j : Nat) (hk : zK ci q) (ho : zc ci k) (hj : j < q.2.2) (ht : ¬ zty ci j = .int ∧ ¬ zty ci j = .long) (hr : zref w k j = t) (hm : Cond.fieldLink M.2.1 index (q.2.1 j).1 (q.2.1 j).2.1 (q.2.1 j).2.2.1 ∈ zTb) (d : decode M.1 pc = .ok (.getfield index, 3)) (k1 : Tz M inj r (pc + 3) lv (.ref t :: st) w) : Tz M inj r pc lv (.ref k :: st) w := fun res h p l e s m args below meth c D cA AD A X cells slots hB hE H locs ls hP hS hl => va_get (D := D) (ci := ci) X.1 X.2.1 (Ts := zTb) X.2.2.2.2.2.1 hk.2.1 X.2.2.2.2.1 X.2.2.2.2.2.2.2.1 hP k (zws_o ho) hk.1 j hj (X.2.2.2.2.2.1 _ hm) (fun _ z => z) (v := .ref (AD t)) (by
  rw [zfs_at (by rw [← hk.2.2.1]; exact hj), ← hr]
  cases hz : zty ci j <;> first | rfl | exact absurd hz ht.1 | exact absurd hz ht.2) d (k1 res h p l e s m args below meth c D cA AD A X cells slots hB hE H locs ls hP hS hl)
theorem tz_putI {q : vw_C} {ci k index : Nat} {v : Int32} {F : zW → Option (ρ × zW)} (j : Nat) (hk : zK ci q) (ho : zc ci k) (hj : j < q.2.2) (ht : zty ci j = .int) (hfin : (q.2.1 j).2.2.2 = false) (hm : Cond.fieldLink M.2.1 index (q.2.1 j).1 (q.2.1 j).2.1 (q.2.1 j).2.2.1 ∈ zTb) (d : decode M.1 pc = .ok (.putfield index, 3)) (k1 : ∀ w1, Tz M inj (F w1) (pc + 3) lv st w1) : Tz M inj (lt (zsI w k j v) F) pc lv (.int v :: .ref k :: st) w := fun res h p l e s m args below meth c D cA AD A X cells slots hB hE H locs ls hP hS hl => va_put (D := D) (ci := ci) (ty := .int) X.1 X.2.1 (Ts := zTb) X.2.2.2.2.2.1 hk.2.1 (zty ci) hk.2.2.2.1 hk.2.2.2.2 X.2.2.2.2.1 X.2.2.2.2.2.2.2.1 hP (zD X.2.2.2.2.2.2.2.2.1) hS k (zws_o ho) hk.1 j hj (X.2.2.2.2.2.1 _ hm) (fun _ z => z) hfin (by rw [hk.2.2.2.1 j hj, ht]) rfl rfl (by rw [zfs_len, ← hk.2.2.1]; exact hj) d (fun H1 locs1 hP1 _ hS1 => k1 (zsI w k j v) res h p l e s m args below meth c D cA AD A X cells slots hB hE H1 locs1 ls (by
  have e9 := zst_I (cA := cA) (AD := AD) (w := w) (v := v) ho (by rw [← hk.2.2.1]; exact hj) ht
  exact e9 ▸ hP1) hS1 hl)
theorem tz_putJ {q : vw_C} {ci k index : Nat} {v : Int64} {F : zW → Option (ρ × zW)} (j : Nat) (hk : zK ci q) (ho : zc ci k) (hj : j < q.2.2) (ht : zty ci j = .long) (hfin : (q.2.1 j).2.2.2 = false) (hm : Cond.fieldLink M.2.1 index (q.2.1 j).1 (q.2.1 j).2.1 (q.2.1 j).2.2.1 ∈ zTb) (d : decode M.1 pc = .ok (.putfield index, 3)) (k1 : ∀ w1, Tz M inj (F w1) (pc + 3) lv st w1) : Tz M inj (lt (zsL w k j v) F) pc lv (.long v :: .ref k :: st) w := fun res h p l e s m args below meth c D cA AD A X cells slots hB hE H locs ls hP hS hl => va_put (D := D) (ci := ci) (ty := .long) X.1 X.2.1 (Ts := zTb) X.2.2.2.2.2.1 hk.2.1 (zty ci) hk.2.2.2.1 hk.2.2.2.2 X.2.2.2.2.1 X.2.2.2.2.2.2.2.1 hP (zD X.2.2.2.2.2.2.2.2.1) hS k (zws_o ho) hk.1 j hj (X.2.2.2.2.2.1 _ hm) (fun _ z => z) hfin (by rw [hk.2.2.2.1 j hj, ht]) rfl rfl (by rw [zfs_len, ← hk.2.2.1]; exact hj) d (fun H1 locs1 hP1 _ hS1 => k1 (zsL w k j v) res h p l e s m args below meth c D cA AD A X cells slots hB hE H1 locs1 ls (by
  have e9 := zst_L (cA := cA) (AD := AD) (w := w) (v := v) ho (by rw [← hk.2.2.1]; exact hj) ht
  exact e9 ▸ hP1) hS1 hl)
theorem tz_getIN {host : String} {q : vw_C} {ci k index : Nat} (j : Nat) (hk : zK ci q) (ho : zc ci k) (hj : j < q.2.2) (ht : zty ci j = .int) (hm : Cond.fieldLinkNest M.2.1 index (q.2.1 j).1 (q.2.1 j).2.1 (q.2.1 j).2.2.1 host ∈ lw_tbl) (d : decode M.1 pc = .ok (.getfield index, 3)) (k1 : Tz M inj r (pc + 3) lv (.int (zI w k j) :: st) w) : Tz M inj r pc lv (.ref k :: st) w := fun res h p l e s m args below meth c D cA AD A X cells slots hB hE H locs ls hP hS hl => va_getN (D := D) (ci := ci) X.1 X.2.1 (Ts := zTb) X.2.2.2.2.2.1 hk.2.1 X.2.2.2.2.1 X.2.2.2.2.2.2.2.1 hP k (zws_o ho) hk.1 j hj (va_Nw.use rfl (X.2.2.2.2.2.2.2.2.2.2.2 _ hm rfl)) (fun _ z => z) (by rw [zfs_at (by rw [← hk.2.2.1]; exact hj), ht]; rfl) d (k1 res h p l e s m args below meth c D cA AD A X cells slots hB hE H locs ls hP hS hl)
theorem tz_getJN {host : String} {q : vw_C} {ci k index : Nat} (j : Nat) (hk : zK ci q) (ho : zc ci k) (hj : j < q.2.2) (ht : zty ci j = .long) (hm : Cond.fieldLinkNest M.2.1 index (q.2.1 j).1 (q.2.1 j).2.1 (q.2.1 j).2.2.1 host ∈ lw_tbl) (d : decode M.1 pc = .ok (.getfield index, 3)) (k1 : Tz M inj r (pc + 3) lv (.long (zL w k j) :: st) w) : Tz M inj r pc lv (.ref k :: st) w := fun res h p l e s m args below meth c D cA AD A X cells slots hB hE H locs ls hP hS hl => va_getN (D := D) (ci := ci) X.1 X.2.1 (Ts := zTb) X.2.2.2.2.2.1 hk.2.1 X.2.2.2.2.1 X.2.2.2.2.2.2.2.1 hP k (zws_o ho) hk.1 j hj (va_Nw.use rfl (X.2.2.2.2.2.2.2.2.2.2.2 _ hm rfl)) (fun _ z => z) (by rw [zfs_at (by rw [← hk.2.2.1]; exact hj), ht]; rfl) d (k1 res h p l e s m args below meth c D cA AD A X cells slots hB hE H locs ls hP hS hl)
theorem tz_getRN {host : String} {q : vw_C} {ci k index : Nat} (t j : Nat) (hk : zK ci q) (ho : zc ci k) (hj : j < q.2.2) (ht : ¬ zty ci j = .int ∧ ¬ zty ci j = .long) (hr : zref w k j = t) (hm : Cond.fieldLinkNest M.2.1 index (q.2.1 j).1 (q.2.1 j).2.1 (q.2.1 j).2.2.1 host ∈ lw_tbl) (d : decode M.1 pc = .ok (.getfield index, 3)) (k1 : Tz M inj r (pc + 3) lv (.ref t :: st) w) : Tz M inj r pc lv (.ref k :: st) w := fun res h p l e s m args below meth c D cA AD A X cells slots hB hE H locs ls hP hS hl => va_getN (D := D) (ci := ci) X.1 X.2.1 (Ts := zTb) X.2.2.2.2.2.1 hk.2.1 X.2.2.2.2.1 X.2.2.2.2.2.2.2.1 hP k (zws_o ho) hk.1 j hj (va_Nw.use rfl (X.2.2.2.2.2.2.2.2.2.2.2 _ hm rfl)) (fun _ z => z) (v := .ref (AD t)) (by
  rw [zfs_at (by rw [← hk.2.2.1]; exact hj), ← hr]
  cases hz : zty ci j <;> first | rfl | exact absurd hz ht.1 | exact absurd hz ht.2) d (k1 res h p l e s m args below meth c D cA AD A X cells slots hB hE H locs ls hP hS hl)
theorem tz_putIN {host : String} {q : vw_C} {ci k index : Nat} {v : Int32} {F : zW → Option (ρ × zW)} (j : Nat) (hk : zK ci q) (ho : zc ci k) (hj : j < q.2.2) (ht : zty ci j = .int) (hfin : (q.2.1 j).2.2.2 = false) (hm : Cond.fieldLinkNest M.2.1 index (q.2.1 j).1 (q.2.1 j).2.1 (q.2.1 j).2.2.1 host ∈ lw_tbl) (d : decode M.1 pc = .ok (.putfield index, 3)) (k1 : ∀ w1, Tz M inj (F w1) (pc + 3) lv st w1) : Tz M inj (lt (zsI w k j v) F) pc lv (.int v :: .ref k :: st) w := fun res h p l e s m args below meth c D cA AD A X cells slots hB hE H locs ls hP hS hl => va_putN (D := D) (ci := ci) (ty := .int) X.1 X.2.1 (Ts := zTb) X.2.2.2.2.2.1 hk.2.1 (zty ci) hk.2.2.2.1 hk.2.2.2.2 X.2.2.2.2.1 X.2.2.2.2.2.2.2.1 hP (zD X.2.2.2.2.2.2.2.2.1) hS k (zws_o ho) hk.1 j hj (va_Nw.use rfl (X.2.2.2.2.2.2.2.2.2.2.2 _ hm rfl)) (fun _ z => z) hfin (by rw [hk.2.2.2.1 j hj, ht]) rfl rfl (by rw [zfs_len, ← hk.2.2.1]; exact hj) d (fun H1 locs1 hP1 _ hS1 => k1 (zsI w k j v) res h p l e s m args below meth c D cA AD A X cells slots hB hE H1 locs1 ls (by
  have e9 := zst_I (cA := cA) (AD := AD) (w := w) (v := v) ho (by rw [← hk.2.2.1]; exact hj) ht
  exact e9 ▸ hP1) hS1 hl)
theorem tz_putJN {host : String} {q : vw_C} {ci k index : Nat} {v : Int64} {F : zW → Option (ρ × zW)} (j : Nat) (hk : zK ci q) (ho : zc ci k) (hj : j < q.2.2) (ht : zty ci j = .long) (hfin : (q.2.1 j).2.2.2 = false) (hm : Cond.fieldLinkNest M.2.1 index (q.2.1 j).1 (q.2.1 j).2.1 (q.2.1 j).2.2.1 host ∈ lw_tbl) (d : decode M.1 pc = .ok (.putfield index, 3)) (k1 : ∀ w1, Tz M inj (F w1) (pc + 3) lv st w1) : Tz M inj (lt (zsL w k j v) F) pc lv (.long v :: .ref k :: st) w := fun res h p l e s m args below meth c D cA AD A X cells slots hB hE H locs ls hP hS hl => va_putN (D := D) (ci := ci) (ty := .long) X.1 X.2.1 (Ts := zTb) X.2.2.2.2.2.1 hk.2.1 (zty ci) hk.2.2.2.1 hk.2.2.2.2 X.2.2.2.2.1 X.2.2.2.2.2.2.2.1 hP (zD X.2.2.2.2.2.2.2.2.1) hS k (zws_o ho) hk.1 j hj (va_Nw.use rfl (X.2.2.2.2.2.2.2.2.2.2.2 _ hm rfl)) (fun _ z => z) hfin (by rw [hk.2.2.2.1 j hj, ht]) rfl rfl (by rw [zfs_len, ← hk.2.2.1]; exact hj) d (fun H1 locs1 hP1 _ hS1 => k1 (zsL w k j v) res h p l e s m args below meth c D cA AD A X cells slots hB hE H1 locs1 ls (by
  have e9 := zst_L (cA := cA) (AD := AD) (w := w) (v := v) ho (by rw [← hk.2.2.1]; exact hj) ht
  exact e9 ▸ hP1) hS1 hl)
theorem tz_putR {index t : Nat} {F : zW → Option (ρ × zW)} (j : Nat) (hj : j < 4) (hv : t = 67 ∨ t = 68 ∨ t = 69 ∨ t = 70) (hm : Cond.fieldLink M.2.1 index (TX4 j).1 (TX4 j).2.1 (TX4 j).2.2.1 ∈ zTb) (d : decode M.1 pc = .ok (.putfield index, 3)) (k1 : ∀ w1, Tz M inj (F w1) (pc + 3) lv st w1) : Tz M inj (lt (zsR w j t) F) pc lv (.ref t :: .ref 66 :: st) w := fun res h p l e s m args below meth c D cA AD A X cells slots hB hE H locs ls hP hS hl => va_put (D := D) (ci := 4) (ty := .array .int) X.1 X.2.1 (Ts := zTb) X.2.2.2.2.2.1 kz4.2.1 (zty 4) kz4.2.2.2.1 kz4.2.2.2.2 X.2.2.2.2.1 X.2.2.2.2.2.2.2.1 hP (zD X.2.2.2.2.2.2.2.2.1) hS 66 (zws_o (show zc 4 66 by unfold zc; decide)) kz4.1 j (Nat.lt_of_lt_of_le hj (by decide)) (X.2.2.2.2.2.1 _ hm) (fun _ z => z) (by rcases (show j = 0 ∨ j = 1 ∨ j = 2 ∨ j = 3 by omega) with rfl | rfl | rfl | rfl <;> rfl) (by rcases (show j = 0 ∨ j = 1 ∨ j = 2 ∨ j = 3 by omega) with rfl | rfl | rfl | rfl <;> decide +kernel) rfl rfl (by rw [zfs_len]; exact Nat.lt_of_lt_of_le hj (by decide)) d (fun H1 locs1 hP1 _ hS1 => k1 (zsR w j t) res h p l e s m args below meth c D cA AD A X cells slots hB hE H1 locs1 ls (by
  have e9 := zst_R (cA := cA) (AD := AD) (w := w) (t := t) hj hv
  exact e9 ▸ hP1) hS1 hl)
theorem zg_some {α : Type} {b : Bool} {x : Option α} {a : α} (h : zg b x = some a) : b = true ∧ x = some a := by
  cases b
  · cases h
  · exact ⟨rfl, h⟩
theorem tz_iald {k n : Nat} {i : Int32} (ha : za 0 k) (hn : zlen k = n) (d : decode M.1 pc = .ok (.iaload, 1)) (k1 : Tz M inj r (pc + 1) lv (.int (zI w k i.toNatClampNeg) :: st) w) : Tz M inj (zg (zin i n) r) pc lv (.int i :: .ref k :: st) w := fun res h p l e s m args below meth c D cA AD A X cells slots hB hE H locs ls hP hS hl => va_iald X.1 X.2.1 X.2.2.2.2.2.2.2.1 hP k 0 (zws_i ha) rfl (by rw [hn]; exact zin_vp (zg_some h).1) d (k1 res (zg_some h).2 p l e s m args below meth c D cA AD A X cells slots hB hE H locs ls hP hS hl)
theorem tz_lald {k n : Nat} {i : Int32} (ha : za 1 k) (hn : zlen k = n) (d : decode M.1 pc = .ok (.laload, 1)) (k1 : Tz M inj r (pc + 1) lv (.long (zL w k i.toNatClampNeg) :: st) w) : Tz M inj (zg (zin i n) r) pc lv (.int i :: .ref k :: st) w := fun res h p l e s m args below meth c D cA AD A X cells slots hB hE H locs ls hP hS hl => va_lald X.1 X.2.1 X.2.2.2.2.2.2.2.1 hP k 1 (zws_l ha) rfl (by rw [hn]; exact zin_vp (zg_some h).1) d (k1 res (zg_some h).2 p l e s m args below meth c D cA AD A X cells slots hB hE H locs ls hP hS hl)
def zline (i : Int32) : Nat := zlay 6 i.toNatClampNeg
theorem zline_c {i : Int32} (h : zin i 4 = true) : zc 1 (zline i) := by
  obtain ⟨j, hj, e⟩ := vp_in_of (zin_vp h) (by decide)
  subst e
  unfold zline
  rw [nI_clamp (by omega)]
  have e : ∀ j, j < 4 → zlay 6 j < 93 ∧ zsh (zlay 6 j) = (4, 0) := by decide
  exact e j hj
theorem tz_qald {i : Int32} (d : decode M.1 pc = .ok (.aaload, 1)) (k1 : zin i 4 = true → Tz M inj r (pc + 1) lv (.ref (zline i) :: st) w) : Tz M inj (zg (zin i 4) r) pc lv (.int i :: .ref 6 :: st) w := fun res h p l e s m args below meth c D cA AD A X cells slots hB hE H locs ls hP hS hl => va_aldq (C := "EndSums$Line") X.1 X.2.1 X.2.2.2.2.2.2.2.1 hP 6 2 (zws_q (show za 2 6 by unfold za; decide)) rfl (zin_vp (zg_some h).1) d (k1 (zg_some h).1 res (zg_some h).2 p l e s m args below meth c D cA AD A X cells slots hB hE H locs ls hP hS hl)
theorem tz_tald {i : Int32} (d : decode M.1 pc = .ok (.iaload, 1)) (k1 : Tz M inj r (pc + 1) lv (.int (zarr.getD i.toNatClampNeg 0) :: st) w) : Tz M inj (zg (zin i 24) r) pc lv (.int i :: .ref 93 :: st) w := fun res h p l e s m args below meth c D cA AD A X cells slots hB hE H locs ls hP hS hl => va_ti (N := 24) (f := fun j => .int (zarr.getD j 0)) X.1 X.2.1 X.2.2.2.2.2.2.2.2.2.2.1.2 hS (zin_vp (zg_some h).1) rfl d (k1 res (zg_some h).2 p l e s m args below meth c D cA AD A X cells slots hB hE H locs ls hP hS hl)
theorem tz_tlen (d : decode M.1 pc = .ok (.arraylength, 1)) (k1 : Tz M inj r (pc + 1) lv (.int 24 :: st) w) : Tz M inj r pc lv (.ref 93 :: st) w := fun res h p l e s m args below meth c D cA AD A X cells slots hB hE H locs ls hP hS hl => va_tlen (N := 24) X.1 X.2.1 X.2.2.2.2.2.2.2.2.2.2.1.2 hS (v := 24) (by decide) d (k1 res h p l e s m args below meth c D cA AD A X cells slots hB hE H locs ls hP hS hl)
theorem tz_gets {index : Nat} (hm : Cond.fieldLink M.2.1 index "EndSums$Joining" "ARRANGEMENTS" "[I" ∈ zTb) (d : decode M.1 pc = .ok (.getstatic index, 3)) (k1 : Tz M inj r (pc + 3) lv (.ref 93 :: st) w) : Tz M inj r pc lv st w := fun res h p l e s m args below meth c D cA AD A X cells slots hB hE H locs ls hP hS hl => va_gets X.1 X.2.1 X.2.2.2.2.2.2.2.2.2.2.1.1 hS X.2.2.2.2.1 (X.2.2.2.2.2.1 _ hm) (fun _ z => z) d (k1 res h p l e s m args below meth c D cA AD A X cells slots hB hE H locs ls hP hS hl)
theorem tz_iast {k n : Nat} {i : Int32} {v : Int32} {F : zW → Option (ρ × zW)} (ha : za 0 k) (hn : zlen k = n) (d : decode M.1 pc = .ok (.iastore, 1)) (k1 : ∀ w1, Tz M inj (F w1) (pc + 1) lv st w1) : Tz M inj (zg (zin i n) (lt (zsI w k i.toNatClampNeg v) F)) pc lv (.int v :: .int i :: .ref k :: st) w := fun res h p l e s m args below meth c D cA AD A X cells slots hB hE H locs ls hP hS hl => va_iast X.1 X.2.1 X.2.2.2.2.2.2.2.1 hP (zD X.2.2.2.2.2.2.2.2.1) hS k 0 (zws_i ha) rfl (by rw [hn]; exact zin_vp (zg_some h).1) d (fun H1 locs1 hP1 _ hS1 => k1 _ res (zg_some h).2 p l e s m args below meth c D cA AD A X cells slots hB hE H1 locs1 ls (by
  have e9 := zst_i (cA := cA) (AD := AD) (w := w) (j := i.toNatClampNeg) (v := v) ha
  exact e9 ▸ hP1) hS1 hl)
theorem tz_last {k n : Nat} {i : Int32} {v : Int64} {F : zW → Option (ρ × zW)} (ha : za 1 k) (hn : zlen k = n) (d : decode M.1 pc = .ok (.lastore, 1)) (k1 : ∀ w1, Tz M inj (F w1) (pc + 1) lv st w1) : Tz M inj (zg (zin i n) (lt (zsL w k i.toNatClampNeg v) F)) pc lv (.long v :: .int i :: .ref k :: st) w := fun res h p l e s m args below meth c D cA AD A X cells slots hB hE H locs ls hP hS hl => va_last X.1 X.2.1 X.2.2.2.2.2.2.2.1 hP (zD X.2.2.2.2.2.2.2.2.1) hS k 1 (zws_l ha) rfl (by rw [hn]; exact zin_vp (zg_some h).1) d (fun H1 locs1 hP1 _ hS1 => k1 _ res (zg_some h).2 p l e s m args below meth c D cA AD A X cells slots hB hE H1 locs1 ls (by
  have e9 := zst_l (cA := cA) (AD := AD) (w := w) (j := i.toNatClampNeg) (v := v) ha
  exact e9 ▸ hP1) hS1 hl)
theorem tz_alen0 {k n : Nat} (ha : za 0 k) (hn : zlen k = n) (d : decode M.1 pc = .ok (.arraylength, 1)) (k1 : Tz M inj r (pc + 1) lv (.int (nI n) :: st) w) : Tz M inj r pc lv (.ref k :: st) w := fun res h p l e s m args below meth c D cA AD A X cells slots hB hE H locs ls hP hS hl => va_alen X.1 X.2.1 X.2.2.2.2.2.2.2.1 hP k 0 (zws_i ha) rfl (v := nI n) (by rw [← hn]; rfl) d (k1 res h p l e s m args below meth c D cA AD A X cells slots hB hE H locs ls hP hS hl)
theorem tz_alen1 {k n : Nat} (ha : za 1 k) (hn : zlen k = n) (d : decode M.1 pc = .ok (.arraylength, 1)) (k1 : Tz M inj r (pc + 1) lv (.int (nI n) :: st) w) : Tz M inj r pc lv (.ref k :: st) w := fun res h p l e s m args below meth c D cA AD A X cells slots hB hE H locs ls hP hS hl => va_alen X.1 X.2.1 X.2.2.2.2.2.2.2.1 hP k 1 (zws_l ha) rfl (v := nI n) (by rw [← hn]; rfl) d (k1 res h p l e s m args below meth c D cA AD A X cells slots hB hE H locs ls hP hS hl)
theorem tz_alen2 {k n : Nat} (ha : za 2 k) (hn : zlen k = n) (d : decode M.1 pc = .ok (.arraylength, 1)) (k1 : Tz M inj r (pc + 1) lv (.int (nI n) :: st) w) : Tz M inj r pc lv (.ref k :: st) w := fun res h p l e s m args below meth c D cA AD A X cells slots hB hE H locs ls hP hS hl => va_alen X.1 X.2.1 X.2.2.2.2.2.2.2.1 hP k 2 (zws_q ha) rfl (v := nI n) (by rw [← hn]; rfl) d (k1 res h p l e s m args below meth c D cA AD A X cells slots hB hE H locs ls hP hS hl)
theorem tz_lti {x : Int32} {F : Int32 → Option (ρ × zW)} (k : ∀ v : Int32, Tz M inj (F v) pc lv (.int v :: st) w) : Tz M inj (lt x F) pc lv (.int x :: st) w := k x
theorem tz_ltl {x : Int64} {F : Int64 → Option (ρ × zW)} (k : ∀ v : Int64, Tz M inj (F v) pc lv (.long v :: st) w) : Tz M inj (lt x F) pc lv (.long x :: st) w := k x
theorem tz_jp {α : Type} {F : α} {G : α → Option (ρ × zW)} (P : α → Prop) (hF : P F) (hG : ∀ j, P j → Tz M inj (G j) pc lv st w) : Tz M inj (lt F G) pc lv st w := hG F hF
theorem tz_dia {α : Type} {x : α} {F : α → Option (ρ × zW)} (P : (α → Option (ρ × zW)) → Prop) (hF : P F) (hG : ∀ F, P F → Tz M inj (lt x F) pc lv st w) : Tz M inj (lt x F) pc lv st w := hG F hF
theorem tz_ite {α : Type} {c : Prop} [Decidable c] {a b : α} {F : α → Option (ρ × zW)} (k : Tz M inj (if c then lt a F else lt b F) pc lv st w) : Tz M inj (lt (if c then a else b) F) pc lv st w := by
  have e : lt (if c then a else b) F = if c then lt a F else lt b F := by split <;> rfl
  rw [e]; exact k
theorem tz_case {c : Prop} [Decidable c] {r1 r2 : Option (ρ × zW)} (k1 : c → Tz M inj r1 pc lv st w) (k2 : ¬ c → Tz M inj r2 pc lv st w) : Tz M inj (if c then r1 else r2) pc lv st w := by
  by_cases h : c
  · rw [if_pos h]; exact k1 h
  · rw [if_neg h]; exact k2 h
theorem tz_none : Tz M inj (none : Option (ρ × zW)) pc lv st w := fun _ h => by cases h
theorem tz_zg {b : Bool} (k : b = true → Tz M inj r pc lv st w) : Tz M inj (zg b r) pc lv st w := fun res h => k (zg_some h).1 res (zg_some h).2
theorem tz_eq {r2 : Option (ρ × zW)} (e : r = r2) (k : Tz M inj r2 pc lv st w) : Tz M inj r pc lv st w := e ▸ k
def zb (b : Bool) : Int32 := match b with
  | true => 1
  | false => 0
theorem zb_0 {b : Bool} : zb b = 0 ↔ ¬ b = true := by cases b <;> simp [zb]
def zvb (v : Int32) : Bool := decide (v &&& 1 = 1)
theorem zvb_and (v : Int32) : zb (zvb v) = v &&& 1 := by
  unfold zvb
  by_cases h : v &&& 1 = 1
  · rw [h]; rfl
  · rw [decide_eq_false h]
    have h2 : v &&& 1 = 0 ∨ v &&& 1 = 1 := by
      obtain ⟨j, hj, he⟩ := pk_andE v (m := 1) 1 (by decide)
      rcases (show j = 0 ∨ j = 1 by omega) with rfl | rfl
      · exact Or.inl he
      · exact Or.inr he
    rcases h2 with q | q
    · rw [q]; rfl
    · exact absurd q h
theorem tz_bif_eq {b : Bool} {off : Int} {r1 r2 : Option (ρ × zW)} (tgt : Nat) (d : decode M.1 pc = .ok (.ifCond .eq off, 3)) (ht : (pc : Int) + off = (tgt : Int)) (k1 : b = true → Tz M inj r1 (pc + 3) lv st w) (k2 : ¬ b = true → Tz M inj r2 tgt lv st w) : Tz M inj (if b = true then r1 else r2) pc lv (.int (zb b) :: st) w := by
  refine tz_eq (r2 := if zb b = 0 then r2 else r1) (by cases b <;> rfl) (tz_if_eq tgt d ht (fun q => k2 (zb_0.mp q)) (fun q => k1 (by cases b <;> first | rfl | exact absurd rfl q)))
theorem tz_bif_ne {b : Bool} {off : Int} {r1 r2 : Option (ρ × zW)} (tgt : Nat) (d : decode M.1 pc = .ok (.ifCond .ne off, 3)) (ht : (pc : Int) + off = (tgt : Int)) (k1 : b = true → Tz M inj r1 tgt lv st w) (k2 : ¬ b = true → Tz M inj r2 (pc + 3) lv st w) : Tz M inj (if b = true then r1 else r2) pc lv (.int (zb b) :: st) w := by
  refine tz_eq (r2 := if ¬ zb b = 0 then r1 else r2) (by cases b <;> rfl) (tz_if_ne tgt d ht (fun q => k1 (by cases b <;> first | rfl | exact absurd rfl q)) (fun q => k2 (fun z => q (fun z0 => zb_0.mp z0 z))))
theorem zlc_eq (x y : Int64) : (lg_cmp x y = 0) ↔ (x = y) := by
  unfold lg_cmp
  by_cases h1 : x > y
  · have h2 : ¬ x = y := fun z => by subst z; exact absurd h1 (Int64.lt_irrefl)
    have h3 : ¬ x < y := fun z => Int64.lt_asymm z h1
    have h4 : y ≤ x := Int64.le_of_lt h1
    have h5 : ¬ x ≤ y := fun z => Int64.not_lt.mpr z h1
    rw [if_pos h1]
    first | exact ⟨fun q => absurd q (by decide), fun q => absurd q h2⟩ | exact ⟨fun _ => h2, fun _ => by decide⟩ | exact ⟨fun q => absurd q (by decide), fun q => absurd q h3⟩ | exact ⟨fun _ => h4, fun _ => by decide⟩ | exact ⟨fun _ => h1, fun _ => by decide⟩ | exact ⟨fun q => absurd q (by decide), fun q => absurd q h5⟩
  · rw [if_neg h1]
    by_cases h2 : x = y
    · subst h2
      have h3 : ¬ x < x := Int64.lt_irrefl
      have h4 : x ≤ x := Int64.le_refl x
      rw [if_pos rfl]
      first | exact ⟨fun _ => rfl, fun _ => rfl⟩ | exact ⟨fun q => absurd rfl q, fun q => absurd rfl q⟩ | exact ⟨fun q => absurd q (by decide), fun q => absurd q h3⟩ | exact ⟨fun _ => h4, fun _ => by decide⟩
    · rw [if_neg h2]
      have h6 : x ≤ y := Int64.not_lt.mp h1
      have h3 : x < y := Int64.lt_of_le_of_ne h6 h2
      have h5 : ¬ y ≤ x := fun z => Int64.not_lt.mpr z h3
      first | exact ⟨fun q => absurd q (by decide), fun q => absurd q h2⟩ | exact ⟨fun _ => h2, fun _ => by decide⟩ | exact ⟨fun _ => h3, fun _ => by decide⟩ | exact ⟨fun q => absurd q (by decide), fun q => absurd q h5⟩ | exact ⟨fun q => absurd q (by decide), fun q => absurd q h1⟩ | exact ⟨fun _ => h6, fun _ => by decide⟩
theorem tz_lcmp_eq {x y : Int64} {off : Int} {r1 r2 : Option (ρ × zW)} [dc : Decidable (x = y)] (tgt : Nat) (d0 : decode M.1 pc = .ok (.lcmp, 1)) (d : decode M.1 (pc + 1) = .ok (.ifCond .eq off, 3)) (ht : ((pc + 1 : Nat) : Int) + off = (tgt : Int)) (k1 : x = y → Tz M inj r1 tgt lv st w) (k2 : ¬ (x = y) → Tz M inj r2 (pc + 4) lv st w) : Tz M inj (if x = y then r1 else r2) pc lv (.long y :: .long x :: st) w := by
  have e9 : Tz M inj (if x = y then r1 else r2) (pc + 1) lv (.int (lg_cmp x y) :: st) w := by
    refine tz_eq (r2 := if lg_cmp x y = 0 then r1 else r2) ?_ (tz_if_eq tgt d ht (fun q => k1 ((zlc_eq x y).mp q)) (fun q => k2 (fun z => q ((zlc_eq x y).mpr z))))
    by_cases q : x = y
    · rw [if_pos q, if_pos ((zlc_eq x y).mpr q)]
    · rw [if_neg q, if_neg (fun z => q ((zlc_eq x y).mp z))]
  exact fun res h p l e s m args below meth c D cA AD A X cells slots hB hE H locs ls hP hS hl => W.lcmp X.1 X.2.1 d0 (e9 res h p l e s m args below meth c D cA AD A X cells slots hB hE H locs ls hP hS hl)
theorem zlc_ne (x y : Int64) : (¬ lg_cmp x y = 0) ↔ (¬ x = y) := by
  unfold lg_cmp
  by_cases h1 : x > y
  · have h2 : ¬ x = y := fun z => by subst z; exact absurd h1 (Int64.lt_irrefl)
    have h3 : ¬ x < y := fun z => Int64.lt_asymm z h1
    have h4 : y ≤ x := Int64.le_of_lt h1
    have h5 : ¬ x ≤ y := fun z => Int64.not_lt.mpr z h1
    rw [if_pos h1]
    first | exact ⟨fun q => absurd q (by decide), fun q => absurd q h2⟩ | exact ⟨fun _ => h2, fun _ => by decide⟩ | exact ⟨fun q => absurd q (by decide), fun q => absurd q h3⟩ | exact ⟨fun _ => h4, fun _ => by decide⟩ | exact ⟨fun _ => h1, fun _ => by decide⟩ | exact ⟨fun q => absurd q (by decide), fun q => absurd q h5⟩
  · rw [if_neg h1]
    by_cases h2 : x = y
    · subst h2
      have h3 : ¬ x < x := Int64.lt_irrefl
      have h4 : x ≤ x := Int64.le_refl x
      rw [if_pos rfl]
      first | exact ⟨fun _ => rfl, fun _ => rfl⟩ | exact ⟨fun q => absurd rfl q, fun q => absurd rfl q⟩ | exact ⟨fun q => absurd q (by decide), fun q => absurd q h3⟩ | exact ⟨fun _ => h4, fun _ => by decide⟩
    · rw [if_neg h2]
      have h6 : x ≤ y := Int64.not_lt.mp h1
      have h3 : x < y := Int64.lt_of_le_of_ne h6 h2
      have h5 : ¬ y ≤ x := fun z => Int64.not_lt.mpr z h3
      first | exact ⟨fun q => absurd q (by decide), fun q => absurd q h2⟩ | exact ⟨fun _ => h2, fun _ => by decide⟩ | exact ⟨fun _ => h3, fun _ => by decide⟩ | exact ⟨fun q => absurd q (by decide), fun q => absurd q h5⟩ | exact ⟨fun q => absurd q (by decide), fun q => absurd q h1⟩ | exact ⟨fun _ => h6, fun _ => by decide⟩
theorem tz_lcmp_ne {x y : Int64} {off : Int} {r1 r2 : Option (ρ × zW)} [dc : Decidable (¬ x = y)] (tgt : Nat) (d0 : decode M.1 pc = .ok (.lcmp, 1)) (d : decode M.1 (pc + 1) = .ok (.ifCond .ne off, 3)) (ht : ((pc + 1 : Nat) : Int) + off = (tgt : Int)) (k1 : ¬ x = y → Tz M inj r1 tgt lv st w) (k2 : ¬ (¬ x = y) → Tz M inj r2 (pc + 4) lv st w) : Tz M inj (if ¬ x = y then r1 else r2) pc lv (.long y :: .long x :: st) w := by
  have e9 : Tz M inj (if ¬ x = y then r1 else r2) (pc + 1) lv (.int (lg_cmp x y) :: st) w := by
    refine tz_eq (r2 := if ¬ lg_cmp x y = 0 then r1 else r2) ?_ (tz_if_ne tgt d ht (fun q => k1 ((zlc_ne x y).mp q)) (fun q => k2 (fun z => q ((zlc_ne x y).mpr z))))
    by_cases q : ¬ x = y
    · rw [if_pos q, if_pos ((zlc_ne x y).mpr q)]
    · rw [if_neg q, if_neg (fun z => q ((zlc_ne x y).mp z))]
  exact fun res h p l e s m args below meth c D cA AD A X cells slots hB hE H locs ls hP hS hl => W.lcmp X.1 X.2.1 d0 (e9 res h p l e s m args below meth c D cA AD A X cells slots hB hE H locs ls hP hS hl)
theorem zlc_lt (x y : Int64) : (lg_cmp x y < 0) ↔ (x < y) := by
  unfold lg_cmp
  by_cases h1 : x > y
  · have h2 : ¬ x = y := fun z => by subst z; exact absurd h1 (Int64.lt_irrefl)
    have h3 : ¬ x < y := fun z => Int64.lt_asymm z h1
    have h4 : y ≤ x := Int64.le_of_lt h1
    have h5 : ¬ x ≤ y := fun z => Int64.not_lt.mpr z h1
    rw [if_pos h1]
    first | exact ⟨fun q => absurd q (by decide), fun q => absurd q h2⟩ | exact ⟨fun _ => h2, fun _ => by decide⟩ | exact ⟨fun q => absurd q (by decide), fun q => absurd q h3⟩ | exact ⟨fun _ => h4, fun _ => by decide⟩ | exact ⟨fun _ => h1, fun _ => by decide⟩ | exact ⟨fun q => absurd q (by decide), fun q => absurd q h5⟩
  · rw [if_neg h1]
    by_cases h2 : x = y
    · subst h2
      have h3 : ¬ x < x := Int64.lt_irrefl
      have h4 : x ≤ x := Int64.le_refl x
      rw [if_pos rfl]
      first | exact ⟨fun _ => rfl, fun _ => rfl⟩ | exact ⟨fun q => absurd rfl q, fun q => absurd rfl q⟩ | exact ⟨fun q => absurd q (by decide), fun q => absurd q h3⟩ | exact ⟨fun _ => h4, fun _ => by decide⟩
    · rw [if_neg h2]
      have h6 : x ≤ y := Int64.not_lt.mp h1
      have h3 : x < y := Int64.lt_of_le_of_ne h6 h2
      have h5 : ¬ y ≤ x := fun z => Int64.not_lt.mpr z h3
      first | exact ⟨fun q => absurd q (by decide), fun q => absurd q h2⟩ | exact ⟨fun _ => h2, fun _ => by decide⟩ | exact ⟨fun _ => h3, fun _ => by decide⟩ | exact ⟨fun q => absurd q (by decide), fun q => absurd q h5⟩ | exact ⟨fun q => absurd q (by decide), fun q => absurd q h1⟩ | exact ⟨fun _ => h6, fun _ => by decide⟩
theorem tz_lcmp_lt {x y : Int64} {off : Int} {r1 r2 : Option (ρ × zW)} [dc : Decidable (x < y)] (tgt : Nat) (d0 : decode M.1 pc = .ok (.lcmp, 1)) (d : decode M.1 (pc + 1) = .ok (.ifCond .lt off, 3)) (ht : ((pc + 1 : Nat) : Int) + off = (tgt : Int)) (k1 : x < y → Tz M inj r1 tgt lv st w) (k2 : ¬ (x < y) → Tz M inj r2 (pc + 4) lv st w) : Tz M inj (if x < y then r1 else r2) pc lv (.long y :: .long x :: st) w := by
  have e9 : Tz M inj (if x < y then r1 else r2) (pc + 1) lv (.int (lg_cmp x y) :: st) w := by
    refine tz_eq (r2 := if lg_cmp x y < 0 then r1 else r2) ?_ (tz_if_lt tgt d ht (fun q => k1 ((zlc_lt x y).mp q)) (fun q => k2 (fun z => q ((zlc_lt x y).mpr z))))
    by_cases q : x < y
    · rw [if_pos q, if_pos ((zlc_lt x y).mpr q)]
    · rw [if_neg q, if_neg (fun z => q ((zlc_lt x y).mp z))]
  exact fun res h p l e s m args below meth c D cA AD A X cells slots hB hE H locs ls hP hS hl => W.lcmp X.1 X.2.1 d0 (e9 res h p l e s m args below meth c D cA AD A X cells slots hB hE H locs ls hP hS hl)
theorem zlc_ge (x y : Int64) : (0 ≤ lg_cmp x y) ↔ (y ≤ x) := by
  unfold lg_cmp
  by_cases h1 : x > y
  · have h2 : ¬ x = y := fun z => by subst z; exact absurd h1 (Int64.lt_irrefl)
    have h3 : ¬ x < y := fun z => Int64.lt_asymm z h1
    have h4 : y ≤ x := Int64.le_of_lt h1
    have h5 : ¬ x ≤ y := fun z => Int64.not_lt.mpr z h1
    rw [if_pos h1]
    first | exact ⟨fun q => absurd q (by decide), fun q => absurd q h2⟩ | exact ⟨fun _ => h2, fun _ => by decide⟩ | exact ⟨fun q => absurd q (by decide), fun q => absurd q h3⟩ | exact ⟨fun _ => h4, fun _ => by decide⟩ | exact ⟨fun _ => h1, fun _ => by decide⟩ | exact ⟨fun q => absurd q (by decide), fun q => absurd q h5⟩
  · rw [if_neg h1]
    by_cases h2 : x = y
    · subst h2
      have h3 : ¬ x < x := Int64.lt_irrefl
      have h4 : x ≤ x := Int64.le_refl x
      rw [if_pos rfl]
      first | exact ⟨fun _ => rfl, fun _ => rfl⟩ | exact ⟨fun q => absurd rfl q, fun q => absurd rfl q⟩ | exact ⟨fun q => absurd q (by decide), fun q => absurd q h3⟩ | exact ⟨fun _ => h4, fun _ => by decide⟩
    · rw [if_neg h2]
      have h6 : x ≤ y := Int64.not_lt.mp h1
      have h3 : x < y := Int64.lt_of_le_of_ne h6 h2
      have h5 : ¬ y ≤ x := fun z => Int64.not_lt.mpr z h3
      first | exact ⟨fun q => absurd q (by decide), fun q => absurd q h2⟩ | exact ⟨fun _ => h2, fun _ => by decide⟩ | exact ⟨fun _ => h3, fun _ => by decide⟩ | exact ⟨fun q => absurd q (by decide), fun q => absurd q h5⟩ | exact ⟨fun q => absurd q (by decide), fun q => absurd q h1⟩ | exact ⟨fun _ => h6, fun _ => by decide⟩
theorem tz_lcmp_ge {x y : Int64} {off : Int} {r1 r2 : Option (ρ × zW)} [dc : Decidable (y ≤ x)] (tgt : Nat) (d0 : decode M.1 pc = .ok (.lcmp, 1)) (d : decode M.1 (pc + 1) = .ok (.ifCond .ge off, 3)) (ht : ((pc + 1 : Nat) : Int) + off = (tgt : Int)) (k1 : y ≤ x → Tz M inj r1 tgt lv st w) (k2 : ¬ (y ≤ x) → Tz M inj r2 (pc + 4) lv st w) : Tz M inj (if y ≤ x then r1 else r2) pc lv (.long y :: .long x :: st) w := by
  have e9 : Tz M inj (if y ≤ x then r1 else r2) (pc + 1) lv (.int (lg_cmp x y) :: st) w := by
    refine tz_eq (r2 := if 0 ≤ lg_cmp x y then r1 else r2) ?_ (tz_if_ge tgt d ht (fun q => k1 ((zlc_ge x y).mp q)) (fun q => k2 (fun z => q ((zlc_ge x y).mpr z))))
    by_cases q : y ≤ x
    · rw [if_pos q, if_pos ((zlc_ge x y).mpr q)]
    · rw [if_neg q, if_neg (fun z => q ((zlc_ge x y).mp z))]
  exact fun res h p l e s m args below meth c D cA AD A X cells slots hB hE H locs ls hP hS hl => W.lcmp X.1 X.2.1 d0 (e9 res h p l e s m args below meth c D cA AD A X cells slots hB hE H locs ls hP hS hl)
theorem zlc_gt (x y : Int64) : (0 < lg_cmp x y) ↔ (y < x) := by
  unfold lg_cmp
  by_cases h1 : x > y
  · have h2 : ¬ x = y := fun z => by subst z; exact absurd h1 (Int64.lt_irrefl)
    have h3 : ¬ x < y := fun z => Int64.lt_asymm z h1
    have h4 : y ≤ x := Int64.le_of_lt h1
    have h5 : ¬ x ≤ y := fun z => Int64.not_lt.mpr z h1
    rw [if_pos h1]
    first | exact ⟨fun q => absurd q (by decide), fun q => absurd q h2⟩ | exact ⟨fun _ => h2, fun _ => by decide⟩ | exact ⟨fun q => absurd q (by decide), fun q => absurd q h3⟩ | exact ⟨fun _ => h4, fun _ => by decide⟩ | exact ⟨fun _ => h1, fun _ => by decide⟩ | exact ⟨fun q => absurd q (by decide), fun q => absurd q h5⟩
  · rw [if_neg h1]
    by_cases h2 : x = y
    · subst h2
      have h3 : ¬ x < x := Int64.lt_irrefl
      have h4 : x ≤ x := Int64.le_refl x
      rw [if_pos rfl]
      first | exact ⟨fun _ => rfl, fun _ => rfl⟩ | exact ⟨fun q => absurd rfl q, fun q => absurd rfl q⟩ | exact ⟨fun q => absurd q (by decide), fun q => absurd q h3⟩ | exact ⟨fun _ => h4, fun _ => by decide⟩
    · rw [if_neg h2]
      have h6 : x ≤ y := Int64.not_lt.mp h1
      have h3 : x < y := Int64.lt_of_le_of_ne h6 h2
      have h5 : ¬ y ≤ x := fun z => Int64.not_lt.mpr z h3
      first | exact ⟨fun q => absurd q (by decide), fun q => absurd q h2⟩ | exact ⟨fun _ => h2, fun _ => by decide⟩ | exact ⟨fun _ => h3, fun _ => by decide⟩ | exact ⟨fun q => absurd q (by decide), fun q => absurd q h5⟩ | exact ⟨fun q => absurd q (by decide), fun q => absurd q h1⟩ | exact ⟨fun _ => h6, fun _ => by decide⟩
theorem tz_lcmp_gt {x y : Int64} {off : Int} {r1 r2 : Option (ρ × zW)} [dc : Decidable (y < x)] (tgt : Nat) (d0 : decode M.1 pc = .ok (.lcmp, 1)) (d : decode M.1 (pc + 1) = .ok (.ifCond .gt off, 3)) (ht : ((pc + 1 : Nat) : Int) + off = (tgt : Int)) (k1 : y < x → Tz M inj r1 tgt lv st w) (k2 : ¬ (y < x) → Tz M inj r2 (pc + 4) lv st w) : Tz M inj (if y < x then r1 else r2) pc lv (.long y :: .long x :: st) w := by
  have e9 : Tz M inj (if y < x then r1 else r2) (pc + 1) lv (.int (lg_cmp x y) :: st) w := by
    refine tz_eq (r2 := if 0 < lg_cmp x y then r1 else r2) ?_ (tz_if_gt tgt d ht (fun q => k1 ((zlc_gt x y).mp q)) (fun q => k2 (fun z => q ((zlc_gt x y).mpr z))))
    by_cases q : y < x
    · rw [if_pos q, if_pos ((zlc_gt x y).mpr q)]
    · rw [if_neg q, if_neg (fun z => q ((zlc_gt x y).mp z))]
  exact fun res h p l e s m args below meth c D cA AD A X cells slots hB hE H locs ls hP hS hl => W.lcmp X.1 X.2.1 d0 (e9 res h p l e s m args below meth c D cA AD A X cells slots hB hE H locs ls hP hS hl)
theorem zlc_le (x y : Int64) : (lg_cmp x y ≤ 0) ↔ (x ≤ y) := by
  unfold lg_cmp
  by_cases h1 : x > y
  · have h2 : ¬ x = y := fun z => by subst z; exact absurd h1 (Int64.lt_irrefl)
    have h3 : ¬ x < y := fun z => Int64.lt_asymm z h1
    have h4 : y ≤ x := Int64.le_of_lt h1
    have h5 : ¬ x ≤ y := fun z => Int64.not_lt.mpr z h1
    rw [if_pos h1]
    first | exact ⟨fun q => absurd q (by decide), fun q => absurd q h2⟩ | exact ⟨fun _ => h2, fun _ => by decide⟩ | exact ⟨fun q => absurd q (by decide), fun q => absurd q h3⟩ | exact ⟨fun _ => h4, fun _ => by decide⟩ | exact ⟨fun _ => h1, fun _ => by decide⟩ | exact ⟨fun q => absurd q (by decide), fun q => absurd q h5⟩
  · rw [if_neg h1]
    by_cases h2 : x = y
    · subst h2
      have h3 : ¬ x < x := Int64.lt_irrefl
      have h4 : x ≤ x := Int64.le_refl x
      rw [if_pos rfl]
      first | exact ⟨fun _ => rfl, fun _ => rfl⟩ | exact ⟨fun q => absurd rfl q, fun q => absurd rfl q⟩ | exact ⟨fun q => absurd q (by decide), fun q => absurd q h3⟩ | exact ⟨fun _ => h4, fun _ => by decide⟩
    · rw [if_neg h2]
      have h6 : x ≤ y := Int64.not_lt.mp h1
      have h3 : x < y := Int64.lt_of_le_of_ne h6 h2
      have h5 : ¬ y ≤ x := fun z => Int64.not_lt.mpr z h3
      first | exact ⟨fun q => absurd q (by decide), fun q => absurd q h2⟩ | exact ⟨fun _ => h2, fun _ => by decide⟩ | exact ⟨fun _ => h3, fun _ => by decide⟩ | exact ⟨fun q => absurd q (by decide), fun q => absurd q h5⟩ | exact ⟨fun q => absurd q (by decide), fun q => absurd q h1⟩ | exact ⟨fun _ => h6, fun _ => by decide⟩
theorem tz_lcmp_le {x y : Int64} {off : Int} {r1 r2 : Option (ρ × zW)} [dc : Decidable (x ≤ y)] (tgt : Nat) (d0 : decode M.1 pc = .ok (.lcmp, 1)) (d : decode M.1 (pc + 1) = .ok (.ifCond .le off, 3)) (ht : ((pc + 1 : Nat) : Int) + off = (tgt : Int)) (k1 : x ≤ y → Tz M inj r1 tgt lv st w) (k2 : ¬ (x ≤ y) → Tz M inj r2 (pc + 4) lv st w) : Tz M inj (if x ≤ y then r1 else r2) pc lv (.long y :: .long x :: st) w := by
  have e9 : Tz M inj (if x ≤ y then r1 else r2) (pc + 1) lv (.int (lg_cmp x y) :: st) w := by
    refine tz_eq (r2 := if lg_cmp x y ≤ 0 then r1 else r2) ?_ (tz_if_le tgt d ht (fun q => k1 ((zlc_le x y).mp q)) (fun q => k2 (fun z => q ((zlc_le x y).mpr z))))
    by_cases q : x ≤ y
    · rw [if_pos q, if_pos ((zlc_le x y).mpr q)]
    · rw [if_neg q, if_neg (fun z => q ((zlc_le x y).mp z))]
  exact fun res h p l e s m args below meth c D cA AD A X cells slots hB hE H locs ls hP hS hl => W.lcmp X.1 X.2.1 d0 (e9 res h p l e s m args below meth c D cA AD A X cells slots hB hE H locs ls hP hS hl)
theorem tz_tin {dflt lo hi : Int} {offs : Array Int} {len : Nat} {x : Int32} {off : Int} (v : Int) (tgt : Nat) (hx : x.toInt = v) (d : decode M.1 pc = .ok (.tableswitch dflt lo hi offs, len)) (h1 : lo ≤ v) (h2 : v ≤ hi) (ho : offs[(v - lo).toNat]? = some off) (ht : (pc : Int) + off = (tgt : Int)) (k : Tz M inj r tgt lv st w) : Tz M inj r pc lv (.int x :: st) w := fun res h p l e s m args below meth c D cA AD A X cells slots hB hE H locs ls hP hS hl => lv_tableIn X.1 X.2.1 d (by omega) (by omega) (by rw [hx]; exact ho) ht (k res h p l e s m args below meth c D cA AD A X cells slots hB hE H locs ls hP hS hl)
theorem tz_tout {dflt lo hi : Int} {offs : Array Int} {len : Nat} {x : Int32} (tgt : Nat) (hx : x.toInt < lo ∨ hi < x.toInt) (d : decode M.1 pc = .ok (.tableswitch dflt lo hi offs, len)) (ht : (pc : Int) + dflt = (tgt : Int)) (k : Tz M inj r tgt lv st w) : Tz M inj r pc lv (.int x :: st) w := fun res h p l e s m args below meth c D cA AD A X cells slots hB hE H locs ls hP hS hl => lv_tableOut X.1 X.2.1 d hx ht (k res h p l e s m args below meth c D cA AD A X cells slots hB hE H locs ls hP hS hl)
theorem tz_lsw {dflt off : Int} {ps : Array (Int × Int)} {len : Nat} {x : Int32} (tgt : Nat) (hp : (ps.toList.zip (ps.toList.drop 1)).all (fun (a, next) => a.1 < next.1) = true) (ho : Op.lookupswitch.offset ps.toList dflt x.toInt = off) (d : decode M.1 pc = .ok (.lookupswitch dflt ps, len)) (ht : (pc : Int) + off = (tgt : Int)) (k : Tz M inj r tgt lv st w) : Tz M inj r pc lv (.int x :: st) w := fun res h p l e s m args below meth c D cA AD A X cells slots hB hE H locs ls hP hS hl => lv_lookup X.1 X.2.1 d hp ho ht (k res h p l e s m args below meth c D cA AD A X cells slots hB hE H locs ls hP hS hl)
theorem z_ne {x : Int32} {v : Int32} (h : ¬ x = v) : ¬ x.toInt = v.toInt := fun q => h (Int32.toInt_inj.mp q)
end TF
-- answers: int, long, none, boolean, a cell, a cell or null
def zi : Int32 → Option Value := fun x => some (.int x)
def zl : Int64 → Option Value := fun x => some (.long x)
def zn : Unit → Option Value := fun _ => none
def zz : Bool → Option Value := fun b => some (.int (zb b))
def zq : Nat → Option Value := fun k => some (.ref k)
def zo : Option Nat → Option Value := fun o => some (va_rf o)
section TE
variable {M : zM} {pc : Nat} {lv : List (Nat × Value)} {w : zW}
theorem tz_iret {v : Int32} (hr : M.2.2.2.1 = some .int) (d : decode M.1 pc = .ok (.ireturn, 1)) : Tz M (zRet zi) (some (v, w)) pc lv [.int v] w := fun res h p l e s m args below meth c D cA AD A X cells slots hB hE H locs ls hP hS hl => by
  cases h
  obtain ⟨rfl, rfl⟩ := hE
  exact W.iret X.1 X.2.1 (X.2.2.1.trans hr) (fun t ht hW => ⟨⟨rfl, by rw [ht]; exact hP⟩, hS.F ht⟩) hS.2.2 d (hlocks := X.2.2.2.2.2.2.1)
theorem tz_lret {v : Int64} (hr : M.2.2.2.1 = some .long) (d : decode M.1 pc = .ok (.lreturn, 1)) : Tz M (zRet zl) (some (v, w)) pc lv [.long v] w := fun res h p l e s m args below meth c D cA AD A X cells slots hB hE H locs ls hP hS hl => by
  cases h
  obtain ⟨rfl, rfl⟩ := hE
  exact W.lret X.1 X.2.1 (X.2.2.1.trans hr) (fun t ht hW => ⟨⟨rfl, by rw [ht]; exact hP⟩, hS.F ht⟩) hS.2.2 d (hlocks := X.2.2.2.2.2.2.1)
theorem tz_vret (hr : M.2.2.2.1 = none) (d : decode M.1 pc = .ok (.return_, 1)) : Tz M (zRet zn) (some ((), w)) pc lv [] w := fun res h p l e s m args below meth c D cA AD A X cells slots hB hE H locs ls hP hS hl => by
  cases h
  obtain ⟨rfl, rfl⟩ := hE
  exact W.vret X.1 X.2.1 (X.2.2.1.trans hr) (fun t ht hW => ⟨⟨rfl, by rw [ht]; exact hP⟩, hS.F ht⟩) hS.2.2 d (hlocks := X.2.2.2.2.2.2.1)
theorem tz_zret {b : Bool} (hr : M.2.2.2.1 = some .boolean) (d : decode M.1 pc = .ok (.ireturn, 1)) : Tz M (zRet zz) (some (b, w)) pc lv [.int (zb b)] w := fun res h p l e s m args below meth c D cA AD A X cells slots hB hE H locs ls hP hS hl => by
  cases h
  obtain ⟨rfl, rfl⟩ := hE
  exact W.zret X.1 X.2.1 (X.2.2.1.trans hr) (by cases b <;> rfl) (fun t ht hW => ⟨⟨rfl, by rw [ht]; exact hP⟩, hS.F ht⟩) hS.2.2 d (hlocks := X.2.2.2.2.2.2.1)
theorem tz_zret1 (hr : M.2.2.2.1 = some .boolean) (d : decode M.1 pc = .ok (.ireturn, 1)) : Tz M (zRet zz) (some (true, w)) pc lv [.int 1] w := tz_zret hr d
theorem tz_zret0 (hr : M.2.2.2.1 = some .boolean) (d : decode M.1 pc = .ok (.ireturn, 1)) : Tz M (zRet zz) (some (false, w)) pc lv [.int 0] w := tz_zret hr d
theorem z_zret {p : Program} {l : Launch} {e : Env} {R : Room} {s : State} {m : MethodId} {args : Array Value} {below : List Frame} {meth : Method} {c : Code} {H : Heap} {locs : List Loc} {cells slots : Nat} {cc : ByteArray} {Qc : Array Value → State → Outcome → State → Prop} {free : Addr → Prop} {v v2 : Int32} {ty : FieldType} (hexec : p.tables.exec = Jvm.exec) (hb : c.code = cc) (hr : meth.sig.returnType = some ty) (hn : narrow ty (.int v) = .int v2)
    (hq : ∀ t : State, t.heap = H → s.WarmedH t.vm → Qc args s (.returned (some (.int v2))) t) (hf : ∀ q ∈ locs, free q.base)
    {pc : Nat} {ls : Array Slot} (hdg : decode cc pc = .ok (.ireturn, 1)) (hlocks : meth.locks = false) : W p l e R s m args below meth c H locs cells slots (MQ below Qc args s cells slots free) (F0 m pc ls [.int v]) := by
  intro T hT X
  have hlocks : meth.locks = false := hlocks
  obtain ⟨fs, hret, hrun, hended, hW, hframe⟩ := X.leave (v := some (.int v2)) (fun h => by rw [hr] at h; cases h)
  have hmeth' : T.vm.method? m = some meth := X.method'
  refine ⟨T.setFrames fs, ?_, .returned (some (.int v2)), hrun, hended, hq _ hT hW, locs, ⟨⟨_, rfl⟩, hW, hframe⟩, hf⟩
  jvm_step X.here [X.here.top, hexec, hb, hdg, hmeth', hr, hn]
  (try refine ⟨rfl, ?_⟩); (try refine ⟨rfl, ?_⟩)
  first | (intro acts; rw [hret _ acts rfl rfl rfl]) | rw [hret _ _ rfl rfl rfl]
  exact Steps.refl _
theorem tz_zretv {v : Int32} (hr : M.2.2.2.1 = some .boolean) (d : decode M.1 pc = .ok (.ireturn, 1)) : Tz M (zRet zz) (some (zvb v, w)) pc lv [.int v] w := by
  intro res h p l e1 s m args below meth c D cA AD A X cells slots hB hE H locs ls hP hS hl
  cases h
  obtain ⟨rfl, rfl⟩ := hE
  exact z_zret (v2 := v &&& 1) X.1 X.2.1 (X.2.2.1.trans hr) rfl (fun t ht hW => ⟨⟨by show Outcome.returned (some (.int (v &&& 1))) = .returned (some (.int (zb (zvb v)))); rw [zvb_and], by rw [ht]; exact hP⟩, hS.F ht⟩) hS.2.2 d X.2.2.2.2.2.2.1
theorem tz_qret {k : Nat} {n : String} (hr : M.2.2.2.1 = some (.object n)) (d : decode M.1 pc = .ok (.areturn, 1)) : Tz M (zRet zq) (some (k, w)) pc lv [.ref k] w := fun res h p l e s m args below meth c D cA AD A X cells slots hB hE H locs ls hP hS hl => by
  cases h
  obtain ⟨rfl, rfl⟩ := hE
  exact W.aret X.1 X.2.1 (X.2.2.1.trans hr) (Or.inl ⟨_, rfl⟩) (Or.inr ⟨_, rfl⟩) (fun t ht hW => ⟨⟨rfl, by rw [ht]; exact hP⟩, hS.F ht⟩) hS.2.2 d (hlocks := X.2.2.2.2.2.2.1)
theorem tz_oretN {n : String} (hr : M.2.2.2.1 = some (.object n)) (d : decode M.1 pc = .ok (.areturn, 1)) : Tz M (zRet zo) (some (none, w)) pc lv [.null] w := fun res h p l e s m args below meth c D cA AD A X cells slots hB hE H locs ls hP hS hl => by
  cases h
  obtain ⟨rfl, rfl⟩ := hE
  exact W.aret X.1 X.2.1 (X.2.2.1.trans hr) (Or.inl ⟨_, rfl⟩) (Or.inl rfl) (fun t ht hW => ⟨⟨rfl, by rw [ht]; exact hP⟩, hS.F ht⟩) hS.2.2 d (hlocks := X.2.2.2.2.2.2.1)
theorem tz_oret {k : Nat} {n : String} (hr : M.2.2.2.1 = some (.object n)) (d : decode M.1 pc = .ok (.areturn, 1)) : Tz M (zRet zo) (some (some k, w)) pc lv [.ref k] w := fun res h p l e s m args below meth c D cA AD A X cells slots hB hE H locs ls hP hS hl => by
  cases h
  obtain ⟨rfl, rfl⟩ := hE
  exact W.aret X.1 X.2.1 (X.2.2.1.trans hr) (Or.inl ⟨_, rfl⟩) (Or.inr ⟨_, rfl⟩) (fun t ht hW => ⟨⟨rfl, by rw [ht]; exact hP⟩, hS.F ht⟩) hS.2.2 d (hlocks := X.2.2.2.2.2.2.1)
end TE
theorem zel_args {AD : Nat → Nat} (av : List Value) (i : Nat) : lv_args i (zes AD av) = zel AD (lv_args i av) := by
  induction av generalizing i with
  | nil => rfl
  | cons v vs ih =>
    show (i, zev AD v) :: lv_args (if (zev AD v).category = 2 then i + 2 else i + 1) (zes AD vs) = _
    rw [zev_cat, ih]; rfl
set_option maxHeartbeats 4000000 in
theorem Sm_of {ρ : Type} {y : MethodName} {M : zM} {inj : ρ → Option Value} {av : List Value} {w : zW} {r : Option (ρ × zW)} (hy : plainName y.cls = true) (own : M.2.1 = y.cls) (hlen : ∀ AD, (lg_sl (zes AD av)).length ≤ M.2.2.1) {lv0 : List (Nat × Value)} (hlv : lv_args 0 av = lv0) (k : Tz M (zRet inj) r 0 lv0 [] w) : Sm y M inj av w r := by
  subst hlv
  intro res h l D cA AD sz
  refine Met.ofW (cc := M.1) (maxL := M.2.2.1) (ret := M.2.2.2.1) hy rfl ?_
  intro p e s m args below meth c s₁ B hml hv
  obtain ⟨rfl, hsz, hP, hK, hinj, hSt, hNs⟩ := hv
  subst hsz
  have hts := atoms_spec (ws := .code y M.1 M.2.2.1 M.2.2.2.1 :: zTb) B.pre
  have hl := lv_entry (zes AD av) (n := M.2.2.1) (hlen AD)
  rw [lg_entry_eq]
  rw [zel_args] at hl
  exact k res h p l e s m _ below meth c D cA AD (zA AD s.heap.size) ⟨B.exec, B.bytes, B.returns, hml, by rw [own]; exact findClass_of_methodNamed B.named, fun w hw => hts w (List.mem_cons_of_mem _ hw), B.notSynchronized, hK, ⟨hinj, fun k hk => Or.inl ⟨k, hk, rfl⟩⟩, fun q hq => Or.inr hq, hSt, hNs⟩ 0 0 ⟨Nat.zero_le _, Nat.zero_le _⟩ ⟨rfl, rfl⟩ s.heap [] _ hP va_S.rf hl
theorem zes_app {AD : Nat → Nat} (o : Option Value) (rest : List Value) : (o.map (zev AD)).toList ++ zes AD rest = zes AD (o.toList ++ rest) := by cases o <;> rfl
theorem zes_cat {AD : Nat → Nat} (st : List Value) : ((zes AD st).map fun v => v.category).sum = (st.map fun v => v.category).sum := by
  induction st with
  | nil => rfl
  | cons v vs ih => simp only [zes, List.map_cons, List.sum_cons, zev_cat] at ih ⊢; rw [ih]
theorem zPc_blind {D : va_G} {cA : Nat → ClassId} {AD : Nat → Nat} {w : zW} {sz : Nat} {av : List Value} : FrameBlind (va_Pc av (zPre D cA AD w sz)) := by
  intro a U g mk q
  obtain ⟨q0, q1, q2, q3, q4, q5, q6⟩ := q
  exact ⟨q0, q1, q2, va_K.moved (u := U) (U := U.calling g mk a) (Vm.Alike.refl U.vm) q3, q4, zSt_moved (u := U) (U := U.calling g mk a) (Vm.Alike.refl U.vm) q5, zNs_same (s := U) (U := U.calling g mk a) rfl q6⟩
theorem zPre_of {M : zM} {p : Program} {s : State} {m : MethodId} {args : Array Value} {meth : Method} {c : Code} {D : va_G} {cA : Nat → ClassId} {AD : Nat → Nat} {A : Nat → Prop} {w : zW} {H : Heap} {locs : List Loc} (X : zCtx M p s m args meth c D cA AD A) (hP : va_P D vwCl (zws cA AD w) H) (hS : va_S A s.heap H locs) {U : State} (hU : U.heap = H) (hW : s.WarmedH U.vm) : zPre D cA AD w H.size U := by
  refine ⟨by rw [hU], by rw [hU]; exact hP, va_K.moved hW.alike X.2.2.2.2.2.2.2.1, X.2.2.2.2.2.2.2.2.1.1, ?_, zNs_warm hW X.2.2.2.2.2.2.2.2.2.2.2⟩
  rw [hU]
  refine zSt_moved hW.alike (zSt_narrow (zSt_kept X.2.2.2.2.2.2.2.2.2.2.1 (fun a h1 h2 => hS.2.1 a h1 h2)) ?_)
  intro q hq
  rcases hq with ⟨k, h1, rfl⟩ | h1
  · exact X.2.2.2.2.2.2.2.2.1.2 k h1
  · exact X.2.2.2.2.2.2.2.2.2.1 q (Nat.le_trans hS.1 h1)
theorem zA_in {M : zM} {p : Program} {s : State} {m : MethodId} {args : Array Value} {meth : Method} {c : Code} {D : va_G} {cA : Nat → ClassId} {AD : Nat → Nat} {A : Nat → Prop} {H : Heap} {locs : List Loc} (X : zCtx M p s m args meth c D cA AD A) (hS : va_S A s.heap H locs) : ∀ q, zA AD H.size q → A q := by
  intro q hq
  rcases hq with ⟨k, h1, rfl⟩ | h1
  · exact X.2.2.2.2.2.2.2.2.1.2 k h1
  · exact X.2.2.2.2.2.2.2.2.2.1 q (Nat.le_trans hS.1 h1)
section ZC
variable {p : Program} {l : Launch} {e : Env} {R : Room} {s : State} {m : MethodId} {args : Array Value} {below : List Frame} {meth : Method} {c : Code} {H : Heap} {locs : List Loc} {cells slots : Nat} {Q : State → Prop} {pc : Nat} {ls : Array Slot} {st0 rest : List Value} {a : Array Value}
theorem z_call {ρ : Type} {D : va_G} {cA : Nat → ClassId} {AD : Nat → Nat} {A : Nat → Prop} {inj : ρ → Option Value} {res : ρ × zW} (hr : va_Run p l e R s m args below meth c H locs cells slots 0 0 (F0 m pc ls st0) rest (zQ D cA AD (zA AD H.size) inj res a) (zA AD H.size)) (hS : va_S A s.heap H locs) (hA : ∀ q, zA AD H.size q → A q)
    (kk : ∀ (H1 : Heap) (locs1 : List Loc), va_P D vwCl (zws cA AD res.2) H1 → va_S A s.heap H1 locs1 → W p l e R s m args below meth c H1 locs1 cells slots Q (F0 m (pc + 3) ls (((inj res.1).map (zev AD)).toList ++ rest))) : W p l e R s m args below meth c H locs cells slots Q (F0 m pc ls st0) := by
  intro T hT X
  obtain ⟨v, st₀, t, T', L, h0, X', hL, e1, e2, ⟨⟨hv, hp⟩, hz, hk⟩, st⟩ := hr T hT X
  cases hv
  rw [h0] at hz hk
  obtain ⟨t2, a1, b1⟩ := kk T'.heap (locs ++ L) (by rw [e1]; exact hp)
    ⟨Nat.le_trans hS.1 (by rw [e1]; exact hz), fun q h1 h2 => by rw [e1, hk q (Nat.lt_of_lt_of_le h1 hS.1) (fun z => h2 (hA q z))]; exact hS.2.1 q h1 h2, fun q hq => by
      rcases List.mem_append.mp hq with h | h
      · exact hS.2.2 q h
      · exact hA _ (hL q h)⟩ T' rfl X'
  exact ⟨t2, st t2 a1, b1⟩
end ZC
/-- what a call of an instance method, a static method pays with -/
def zYV (y : MethodName) (M : zM) (n : Nat) : Prop := Cond.code y M.1 M.2.2.1 M.2.2.2.1 ∈ zTb ∧ Cond.initialized y.cls ∈ zTb ∧ (Cond.instanceMethod y ∈ zTb ∧ Cond.selects y.cls y y ∈ zTb) ∧ (y.cls ≠ "java/lang/invoke/MethodHandle" ∧ y.cls ≠ "java/lang/invoke/VarHandle" ∧ (parseMethodDescriptor y.desc).map (fun d => d.parameters.length) = some n) ∧ M.2.2.2.2.cells = 0 ∧ M.2.2.2.2.slots = 0
def zYS (y : MethodName) (M : zM) (n : Nat) : Prop := Cond.code y M.1 M.2.2.1 M.2.2.2.1 ∈ zTb ∧ Cond.initialized y.cls ∈ zTb ∧ Cond.static y ∈ zTb ∧ (y.cls ≠ "java/lang/invoke/MethodHandle" ∧ y.cls ≠ "java/lang/invoke/VarHandle" ∧ (parseMethodDescriptor y.desc).map (fun d => d.parameters.length) = some n) ∧ M.2.2.2.2.cells = 0 ∧ M.2.2.2.2.slots = 0
theorem bd_some {α β : Type} {f : Option (α × zW)} {F : α → zW → Option β} {b : β} (h : bd f F = some b) : ∃ v w1, f = some (v, w1) ∧ F v w1 = some b := by
  cases f with
  | none => cases h
  | some q => exact ⟨q.1, q.2, rfl, h⟩
theorem zTb_pay {y : MethodName} {M : zM} (h : Cond.code y M.1 M.2.2.1 M.2.2.2.1 ∈ zTb) : GoodIn zTb (.code y M.1 M.2.2.1 M.2.2.2.1 :: zTb) := zTb_goodIn fun w hw => by
  rcases List.mem_cons.mp hw with rfl | hw
  · exact h
  · exact hw
section TC
variable {ρ σ : Type} {M My : zM} {inj : zEnd ρ} {injc : σ → Option Value} {pc : Nat} {lv : List (Nat × Value)} {st rest : List Value} {w : zW} {y : MethodName} {f : Option (σ × zW)} {F : σ → zW → Option (ρ × zW)} {As : List Value} {n : Nat}
theorem tz_cV {index : Nat} {q : vw_C} {ci b : Nat} (hk : zK ci q) (hb : zc ci b) (hC : q.1 = y.cls) (hY : zYV y My n) (hm : Cond.methodLink M.2.1 index y ∈ zTb) (hS0 : Sm y My injc (.ref b :: As) w f) (hn : As.length = n) (hst : st = As.reverse ++ .ref b :: rest) (hcat : (rest.map fun v => v.category).sum ≤ 8) (hR : My.2.2.2.2.frames + 1 ≤ M.2.2.2.2.frames ∧ 8 + (My.2.2.1 + 11) + My.2.2.2.2.locals ≤ M.2.2.2.2.locals) (d : decode M.1 pc = .ok (.invokevirtual index, 3)) (k : ∀ (v : σ) (w1 : zW), f = some (v, w1) → Tz M inj (F v w1) (pc + 3) lv ((injc v).toList ++ rest) w1) : Tz M inj (bd f F) pc lv st w := by
  intro res h p l e s m args below meth c D cA AD A X cells slots hB hE H locs ls hP hS hl
  obtain ⟨v, w1, hf, hF⟩ := bd_some h
  have hM := hS0 (v, w1) hf l D cA AD H.size
  subst hst
  refine z_call (rest := zes AD rest) (va_runV (S := ⟨X.1, X.2.1, X.2.2.2.1, X.2.2.2.2.1, X.2.2.2.2.2.1⟩) (As := zes AD As) hM ⟨callB_of n X.2.2.2.2.2.1 (zTb_pay hY.1) rfl hY.2.2.2.2.1 hY.2.2.2.2.2 (X.2.2.2.2.2.1 _ hY.2.1) (X.2.2.2.2.2.1 _ hm) hY.2.2.2.1 hR, X.2.2.2.2.2.1 _ hY.2.2.1.1, X.2.2.2.2.2.1 _ hY.2.2.1.2⟩ ⟨zPc_blind, by have e9 := va_recv (s := s) X.2.2.2.2.2.2.2.1 hP hk.1 (zws_o hb); rw [hC] at e9; exact e9, fun U hU hW => ⟨rfl, zPre_of X hP hS hU hW⟩⟩ rfl (by simpa [zes] using hn) hl.1 (by simp [zes, zev]) ?_ d hB) hS (zA_in X hS) (fun H1 locs1 hP1 hS1 => ?_)
  · exact lv_room (by rw [zes_cat]; exact hcat)
  · rw [zes_app]
    exact k v w1 hf res hF p l e s m args below meth c D cA AD A X cells slots hB hE H1 locs1 ls hP1 hS1 hl
theorem tz_cV_i {index : Nat} {q : vw_C} {ci b : Nat} (hk : zK ci q) (hb : zc ci b) (hC : q.1 = y.cls) {f : Option (Int32 × zW)} {F : Int32 → zW → Option (ρ × zW)} (hY : zYV y My n) (hm : Cond.methodLink M.2.1 index y ∈ zTb) (hS0 : Sm y My zi (.ref b :: As) w f) (hn : As.length = n) (hst : st = As.reverse ++ .ref b :: rest) (hcat : (rest.map fun v => v.category).sum ≤ 8) (hR : My.2.2.2.2.frames + 1 ≤ M.2.2.2.2.frames ∧ 8 + (My.2.2.1 + 11) + My.2.2.2.2.locals ≤ M.2.2.2.2.locals) (d : decode M.1 pc = .ok (.invokevirtual index, 3)) (k : ∀ (v : Int32) (w1 : zW), f = some (v, w1) → Tz M inj (F v w1) (pc + 3) lv (.int v :: rest) w1) : Tz M inj (bd f F) pc lv st w := tz_cV hk hb hC hY hm hS0 hn hst hcat hR d k
theorem tz_cV_l {index : Nat} {q : vw_C} {ci b : Nat} (hk : zK ci q) (hb : zc ci b) (hC : q.1 = y.cls) {f : Option (Int64 × zW)} {F : Int64 → zW → Option (ρ × zW)} (hY : zYV y My n) (hm : Cond.methodLink M.2.1 index y ∈ zTb) (hS0 : Sm y My zl (.ref b :: As) w f) (hn : As.length = n) (hst : st = As.reverse ++ .ref b :: rest) (hcat : (rest.map fun v => v.category).sum ≤ 8) (hR : My.2.2.2.2.frames + 1 ≤ M.2.2.2.2.frames ∧ 8 + (My.2.2.1 + 11) + My.2.2.2.2.locals ≤ M.2.2.2.2.locals) (d : decode M.1 pc = .ok (.invokevirtual index, 3)) (k : ∀ (v : Int64) (w1 : zW), f = some (v, w1) → Tz M inj (F v w1) (pc + 3) lv (.long v :: rest) w1) : Tz M inj (bd f F) pc lv st w := tz_cV hk hb hC hY hm hS0 hn hst hcat hR d k
theorem tz_cV_n {index : Nat} {q : vw_C} {ci b : Nat} (hk : zK ci q) (hb : zc ci b) (hC : q.1 = y.cls) {f : Option (Unit × zW)} {F : Unit → zW → Option (ρ × zW)} (hY : zYV y My n) (hm : Cond.methodLink M.2.1 index y ∈ zTb) (hS0 : Sm y My zn (.ref b :: As) w f) (hn : As.length = n) (hst : st = As.reverse ++ .ref b :: rest) (hcat : (rest.map fun v => v.category).sum ≤ 8) (hR : My.2.2.2.2.frames + 1 ≤ M.2.2.2.2.frames ∧ 8 + (My.2.2.1 + 11) + My.2.2.2.2.locals ≤ M.2.2.2.2.locals) (d : decode M.1 pc = .ok (.invokevirtual index, 3)) (k : ∀ (v : Unit) (w1 : zW), f = some (v, w1) → Tz M inj (F v w1) (pc + 3) lv (rest) w1) : Tz M inj (bd f F) pc lv st w := tz_cV hk hb hC hY hm hS0 hn hst hcat hR d k
theorem tz_cV_z {index : Nat} {q : vw_C} {ci b : Nat} (hk : zK ci q) (hb : zc ci b) (hC : q.1 = y.cls) {f : Option (Bool × zW)} {F : Bool → zW → Option (ρ × zW)} (hY : zYV y My n) (hm : Cond.methodLink M.2.1 index y ∈ zTb) (hS0 : Sm y My zz (.ref b :: As) w f) (hn : As.length = n) (hst : st = As.reverse ++ .ref b :: rest) (hcat : (rest.map fun v => v.category).sum ≤ 8) (hR : My.2.2.2.2.frames + 1 ≤ M.2.2.2.2.frames ∧ 8 + (My.2.2.1 + 11) + My.2.2.2.2.locals ≤ M.2.2.2.2.locals) (d : decode M.1 pc = .ok (.invokevirtual index, 3)) (k : ∀ (v : Bool) (w1 : zW), f = some (v, w1) → Tz M inj (F v w1) (pc + 3) lv (.int (zb v) :: rest) w1) : Tz M inj (bd f F) pc lv st w := tz_cV hk hb hC hY hm hS0 hn hst hcat hR d k
theorem tz_cV_q {index : Nat} {q : vw_C} {ci b : Nat} (hk : zK ci q) (hb : zc ci b) (hC : q.1 = y.cls) {f : Option (Nat × zW)} {F : Nat → zW → Option (ρ × zW)} (hY : zYV y My n) (hm : Cond.methodLink M.2.1 index y ∈ zTb) (hS0 : Sm y My zq (.ref b :: As) w f) (hn : As.length = n) (hst : st = As.reverse ++ .ref b :: rest) (hcat : (rest.map fun v => v.category).sum ≤ 8) (hR : My.2.2.2.2.frames + 1 ≤ M.2.2.2.2.frames ∧ 8 + (My.2.2.1 + 11) + My.2.2.2.2.locals ≤ M.2.2.2.2.locals) (d : decode M.1 pc = .ok (.invokevirtual index, 3)) (k : ∀ (v : Nat) (w1 : zW), f = some (v, w1) → Tz M inj (F v w1) (pc + 3) lv (.ref v :: rest) w1) : Tz M inj (bd f F) pc lv st w := tz_cV hk hb hC hY hm hS0 hn hst hcat hR d k
theorem tz_cV_o {index : Nat} {q : vw_C} {ci b : Nat} (hk : zK ci q) (hb : zc ci b) (hC : q.1 = y.cls) {f : Option (Option Nat × zW)} {F0 : zW → Option (ρ × zW)} {F1 : Nat → zW → Option (ρ × zW)} (hY : zYV y My n) (hm : Cond.methodLink M.2.1 index y ∈ zTb) (hS0 : Sm y My zo (.ref b :: As) w f) (hn : As.length = n) (hst : st = As.reverse ++ .ref b :: rest) (hcat : (rest.map fun v => v.category).sum ≤ 8) (hR : My.2.2.2.2.frames + 1 ≤ M.2.2.2.2.frames ∧ 8 + (My.2.2.1 + 11) + My.2.2.2.2.locals ≤ M.2.2.2.2.locals) (d : decode M.1 pc = .ok (.invokevirtual index, 3)) (k0 : ∀ (w1 : zW), f = some (none, w1) → Tz M inj (F0 w1) (pc + 3) lv (.null :: rest) w1) (k1 : ∀ (v : Nat) (w1 : zW), f = some (some v, w1) → Tz M inj (F1 v w1) (pc + 3) lv (.ref v :: rest) w1) : Tz M inj (bd f fun o w1 => oc o (F0 w1) (fun v => F1 v w1)) pc lv st w := tz_cV hk hb hC hY hm hS0 hn hst hcat hR d (fun o w1 e => match o, e with | none, e => k0 w1 e | some v, e => k1 v w1 e)
theorem tz_cVN {host : String} {index : Nat} {q : vw_C} {ci b : Nat} (hk : zK ci q) (hb : zc ci b) (hC : q.1 = y.cls) (hY : zYV y My n) (hm : Cond.methodLinkNest M.2.1 index y host ∈ lw_tbl) (hS0 : Sm y My injc (.ref b :: As) w f) (hn : As.length = n) (hst : st = As.reverse ++ .ref b :: rest) (hcat : (rest.map fun v => v.category).sum ≤ 8) (hR : My.2.2.2.2.frames + 1 ≤ M.2.2.2.2.frames ∧ 8 + (My.2.2.1 + 11) + My.2.2.2.2.locals ≤ M.2.2.2.2.locals) (d : decode M.1 pc = .ok (.invokevirtual index, 3)) (k : ∀ (v : σ) (w1 : zW), f = some (v, w1) → Tz M inj (F v w1) (pc + 3) lv ((injc v).toList ++ rest) w1) : Tz M inj (bd f F) pc lv st w := by
  intro res h p l e s m args below meth c D cA AD A X cells slots hB hE H locs ls hP hS hl
  obtain ⟨v, w1, hf, hF⟩ := bd_some h
  have hM := hS0 (v, w1) hf l D cA AD H.size
  subst hst
  refine z_call (rest := zes AD rest) (va_runVN (S := ⟨X.1, X.2.1, X.2.2.2.1, X.2.2.2.2.1, X.2.2.2.2.2.1⟩) (As := zes AD As) hM ⟨va_cnB n X.2.2.2.2.2.1 (zTb_pay hY.1) rfl hY.2.2.2.2.1 hY.2.2.2.2.2 (X.2.2.2.2.2.2.2.2.2.2.2 _ hm rfl) (X.2.2.2.2.2.1 _ hY.2.1) hY.2.2.2.1 hR, X.2.2.2.2.2.1 _ hY.2.2.1.1, X.2.2.2.2.2.1 _ hY.2.2.1.2⟩ ⟨zPc_blind, by have e9 := va_recv (s := s) X.2.2.2.2.2.2.2.1 hP hk.1 (zws_o hb); rw [hC] at e9; exact e9, fun U hU hW => ⟨rfl, zPre_of X hP hS hU hW⟩⟩ rfl (by simpa [zes] using hn) hl.1 (by simp [zes, zev]) ?_ d hB) hS (zA_in X hS) (fun H1 locs1 hP1 hS1 => ?_)
  · exact lv_room (by rw [zes_cat]; exact hcat)
  · rw [zes_app]
    exact k v w1 hf res hF p l e s m args below meth c D cA AD A X cells slots hB hE H1 locs1 ls hP1 hS1 hl
theorem tz_cVN_i {host : String} {index : Nat} {q : vw_C} {ci b : Nat} (hk : zK ci q) (hb : zc ci b) (hC : q.1 = y.cls) {f : Option (Int32 × zW)} {F : Int32 → zW → Option (ρ × zW)} (hY : zYV y My n) (hm : Cond.methodLinkNest M.2.1 index y host ∈ lw_tbl) (hS0 : Sm y My zi (.ref b :: As) w f) (hn : As.length = n) (hst : st = As.reverse ++ .ref b :: rest) (hcat : (rest.map fun v => v.category).sum ≤ 8) (hR : My.2.2.2.2.frames + 1 ≤ M.2.2.2.2.frames ∧ 8 + (My.2.2.1 + 11) + My.2.2.2.2.locals ≤ M.2.2.2.2.locals) (d : decode M.1 pc = .ok (.invokevirtual index, 3)) (k : ∀ (v : Int32) (w1 : zW), f = some (v, w1) → Tz M inj (F v w1) (pc + 3) lv (.int v :: rest) w1) : Tz M inj (bd f F) pc lv st w := tz_cVN hk hb hC hY hm hS0 hn hst hcat hR d k
theorem tz_cVN_l {host : String} {index : Nat} {q : vw_C} {ci b : Nat} (hk : zK ci q) (hb : zc ci b) (hC : q.1 = y.cls) {f : Option (Int64 × zW)} {F : Int64 → zW → Option (ρ × zW)} (hY : zYV y My n) (hm : Cond.methodLinkNest M.2.1 index y host ∈ lw_tbl) (hS0 : Sm y My zl (.ref b :: As) w f) (hn : As.length = n) (hst : st = As.reverse ++ .ref b :: rest) (hcat : (rest.map fun v => v.category).sum ≤ 8) (hR : My.2.2.2.2.frames + 1 ≤ M.2.2.2.2.frames ∧ 8 + (My.2.2.1 + 11) + My.2.2.2.2.locals ≤ M.2.2.2.2.locals) (d : decode M.1 pc = .ok (.invokevirtual index, 3)) (k : ∀ (v : Int64) (w1 : zW), f = some (v, w1) → Tz M inj (F v w1) (pc + 3) lv (.long v :: rest) w1) : Tz M inj (bd f F) pc lv st w := tz_cVN hk hb hC hY hm hS0 hn hst hcat hR d k
theorem tz_cVN_n {host : String} {index : Nat} {q : vw_C} {ci b : Nat} (hk : zK ci q) (hb : zc ci b) (hC : q.1 = y.cls) {f : Option (Unit × zW)} {F : Unit → zW → Option (ρ × zW)} (hY : zYV y My n) (hm : Cond.methodLinkNest M.2.1 index y host ∈ lw_tbl) (hS0 : Sm y My zn (.ref b :: As) w f) (hn : As.length = n) (hst : st = As.reverse ++ .ref b :: rest) (hcat : (rest.map fun v => v.category).sum ≤ 8) (hR : My.2.2.2.2.frames + 1 ≤ M.2.2.2.2.frames ∧ 8 + (My.2.2.1 + 11) + My.2.2.2.2.locals ≤ M.2.2.2.2.locals) (d : decode M.1 pc = .ok (.invokevirtual index, 3)) (k : ∀ (v : Unit) (w1 : zW), f = some (v, w1) → Tz M inj (F v w1) (pc + 3) lv (rest) w1) : Tz M inj (bd f F) pc lv st w := tz_cVN hk hb hC hY hm hS0 hn hst hcat hR d k
theorem tz_cVN_z {host : String} {index : Nat} {q : vw_C} {ci b : Nat} (hk : zK ci q) (hb : zc ci b) (hC : q.1 = y.cls) {f : Option (Bool × zW)} {F : Bool → zW → Option (ρ × zW)} (hY : zYV y My n) (hm : Cond.methodLinkNest M.2.1 index y host ∈ lw_tbl) (hS0 : Sm y My zz (.ref b :: As) w f) (hn : As.length = n) (hst : st = As.reverse ++ .ref b :: rest) (hcat : (rest.map fun v => v.category).sum ≤ 8) (hR : My.2.2.2.2.frames + 1 ≤ M.2.2.2.2.frames ∧ 8 + (My.2.2.1 + 11) + My.2.2.2.2.locals ≤ M.2.2.2.2.locals) (d : decode M.1 pc = .ok (.invokevirtual index, 3)) (k : ∀ (v : Bool) (w1 : zW), f = some (v, w1) → Tz M inj (F v w1) (pc + 3) lv (.int (zb v) :: rest) w1) : Tz M inj (bd f F) pc lv st w := tz_cVN hk hb hC hY hm hS0 hn hst hcat hR d k
theorem tz_cVN_q {host : String} {index : Nat} {q : vw_C} {ci b : Nat} (hk : zK ci q) (hb : zc ci b) (hC : q.1 = y.cls) {f : Option (Nat × zW)} {F : Nat → zW → Option (ρ × zW)} (hY : zYV y My n) (hm : Cond.methodLinkNest M.2.1 index y host ∈ lw_tbl) (hS0 : Sm y My zq (.ref b :: As) w f) (hn : As.length = n) (hst : st = As.reverse ++ .ref b :: rest) (hcat : (rest.map fun v => v.category).sum ≤ 8) (hR : My.2.2.2.2.frames + 1 ≤ M.2.2.2.2.frames ∧ 8 + (My.2.2.1 + 11) + My.2.2.2.2.locals ≤ M.2.2.2.2.locals) (d : decode M.1 pc = .ok (.invokevirtual index, 3)) (k : ∀ (v : Nat) (w1 : zW), f = some (v, w1) → Tz M inj (F v w1) (pc + 3) lv (.ref v :: rest) w1) : Tz M inj (bd f F) pc lv st w := tz_cVN hk hb hC hY hm hS0 hn hst hcat hR d k
theorem tz_cVN_o {host : String} {index : Nat} {q : vw_C} {ci b : Nat} (hk : zK ci q) (hb : zc ci b) (hC : q.1 = y.cls) {f : Option (Option Nat × zW)} {F0 : zW → Option (ρ × zW)} {F1 : Nat → zW → Option (ρ × zW)} (hY : zYV y My n) (hm : Cond.methodLinkNest M.2.1 index y host ∈ lw_tbl) (hS0 : Sm y My zo (.ref b :: As) w f) (hn : As.length = n) (hst : st = As.reverse ++ .ref b :: rest) (hcat : (rest.map fun v => v.category).sum ≤ 8) (hR : My.2.2.2.2.frames + 1 ≤ M.2.2.2.2.frames ∧ 8 + (My.2.2.1 + 11) + My.2.2.2.2.locals ≤ M.2.2.2.2.locals) (d : decode M.1 pc = .ok (.invokevirtual index, 3)) (k0 : ∀ (w1 : zW), f = some (none, w1) → Tz M inj (F0 w1) (pc + 3) lv (.null :: rest) w1) (k1 : ∀ (v : Nat) (w1 : zW), f = some (some v, w1) → Tz M inj (F1 v w1) (pc + 3) lv (.ref v :: rest) w1) : Tz M inj (bd f fun o w1 => oc o (F0 w1) (fun v => F1 v w1)) pc lv st w := tz_cVN hk hb hC hY hm hS0 hn hst hcat hR d (fun o w1 e => match o, e with | none, e => k0 w1 e | some v, e => k1 v w1 e)
theorem tz_cS {index : Nat} (hY : zYS y My n) (hm : Cond.methodLink M.2.1 index y ∈ zTb) (hS0 : Sm y My injc As w f) (hn : As.length = n) (hst : st = As.reverse ++ rest) (hcat : (rest.map fun v => v.category).sum ≤ 8) (hR : My.2.2.2.2.frames + 1 ≤ M.2.2.2.2.frames ∧ 8 + (My.2.2.1 + 11) + My.2.2.2.2.locals ≤ M.2.2.2.2.locals) (d : decode M.1 pc = .ok (.invokestatic index, 3)) (k : ∀ (v : σ) (w1 : zW), f = some (v, w1) → Tz M inj (F v w1) (pc + 3) lv ((injc v).toList ++ rest) w1) : Tz M inj (bd f F) pc lv st w := by
  intro res h p l e s m args below meth c D cA AD A X cells slots hB hE H locs ls hP hS hl
  obtain ⟨v, w1, hf, hF⟩ := bd_some h
  have hM := hS0 (v, w1) hf l D cA AD H.size
  subst hst
  refine z_call (rest := zes AD rest) (va_runS (S := ⟨X.1, X.2.1, X.2.2.2.1, X.2.2.2.2.1, X.2.2.2.2.2.1⟩) (As := zes AD As) hM ⟨callB_of n X.2.2.2.2.2.1 (zTb_pay hY.1) rfl hY.2.2.2.2.1 hY.2.2.2.2.2 (X.2.2.2.2.2.1 _ hY.2.1) (X.2.2.2.2.2.1 _ hm) hY.2.2.2.1 hR, X.2.2.2.2.2.1 _ hY.2.2.1⟩ ⟨zPc_blind, fun U hU hW => ⟨rfl, zPre_of X hP hS hU hW⟩⟩ rfl (by simpa [zes] using hn) hl.1 (by simp [zes, zev]) ?_ d hB) hS (zA_in X hS) (fun H1 locs1 hP1 hS1 => ?_)
  · exact lv_room (by rw [zes_cat]; exact hcat)
  · rw [zes_app]
    exact k v w1 hf res hF p l e s m args below meth c D cA AD A X cells slots hB hE H1 locs1 ls hP1 hS1 hl
theorem tz_cS_i {index : Nat} {f : Option (Int32 × zW)} {F : Int32 → zW → Option (ρ × zW)} (hY : zYS y My n) (hm : Cond.methodLink M.2.1 index y ∈ zTb) (hS0 : Sm y My zi As w f) (hn : As.length = n) (hst : st = As.reverse ++ rest) (hcat : (rest.map fun v => v.category).sum ≤ 8) (hR : My.2.2.2.2.frames + 1 ≤ M.2.2.2.2.frames ∧ 8 + (My.2.2.1 + 11) + My.2.2.2.2.locals ≤ M.2.2.2.2.locals) (d : decode M.1 pc = .ok (.invokestatic index, 3)) (k : ∀ (v : Int32) (w1 : zW), f = some (v, w1) → Tz M inj (F v w1) (pc + 3) lv (.int v :: rest) w1) : Tz M inj (bd f F) pc lv st w := tz_cS hY hm hS0 hn hst hcat hR d k
theorem tz_cS_l {index : Nat} {f : Option (Int64 × zW)} {F : Int64 → zW → Option (ρ × zW)} (hY : zYS y My n) (hm : Cond.methodLink M.2.1 index y ∈ zTb) (hS0 : Sm y My zl As w f) (hn : As.length = n) (hst : st = As.reverse ++ rest) (hcat : (rest.map fun v => v.category).sum ≤ 8) (hR : My.2.2.2.2.frames + 1 ≤ M.2.2.2.2.frames ∧ 8 + (My.2.2.1 + 11) + My.2.2.2.2.locals ≤ M.2.2.2.2.locals) (d : decode M.1 pc = .ok (.invokestatic index, 3)) (k : ∀ (v : Int64) (w1 : zW), f = some (v, w1) → Tz M inj (F v w1) (pc + 3) lv (.long v :: rest) w1) : Tz M inj (bd f F) pc lv st w := tz_cS hY hm hS0 hn hst hcat hR d k
theorem tz_cS_n {index : Nat} {f : Option (Unit × zW)} {F : Unit → zW → Option (ρ × zW)} (hY : zYS y My n) (hm : Cond.methodLink M.2.1 index y ∈ zTb) (hS0 : Sm y My zn As w f) (hn : As.length = n) (hst : st = As.reverse ++ rest) (hcat : (rest.map fun v => v.category).sum ≤ 8) (hR : My.2.2.2.2.frames + 1 ≤ M.2.2.2.2.frames ∧ 8 + (My.2.2.1 + 11) + My.2.2.2.2.locals ≤ M.2.2.2.2.locals) (d : decode M.1 pc = .ok (.invokestatic index, 3)) (k : ∀ (v : Unit) (w1 : zW), f = some (v, w1) → Tz M inj (F v w1) (pc + 3) lv (rest) w1) : Tz M inj (bd f F) pc lv st w := tz_cS hY hm hS0 hn hst hcat hR d k
theorem tz_cS_z {index : Nat} {f : Option (Bool × zW)} {F : Bool → zW → Option (ρ × zW)} (hY : zYS y My n) (hm : Cond.methodLink M.2.1 index y ∈ zTb) (hS0 : Sm y My zz As w f) (hn : As.length = n) (hst : st = As.reverse ++ rest) (hcat : (rest.map fun v => v.category).sum ≤ 8) (hR : My.2.2.2.2.frames + 1 ≤ M.2.2.2.2.frames ∧ 8 + (My.2.2.1 + 11) + My.2.2.2.2.locals ≤ M.2.2.2.2.locals) (d : decode M.1 pc = .ok (.invokestatic index, 3)) (k : ∀ (v : Bool) (w1 : zW), f = some (v, w1) → Tz M inj (F v w1) (pc + 3) lv (.int (zb v) :: rest) w1) : Tz M inj (bd f F) pc lv st w := tz_cS hY hm hS0 hn hst hcat hR d k
theorem tz_cS_q {index : Nat} {f : Option (Nat × zW)} {F : Nat → zW → Option (ρ × zW)} (hY : zYS y My n) (hm : Cond.methodLink M.2.1 index y ∈ zTb) (hS0 : Sm y My zq As w f) (hn : As.length = n) (hst : st = As.reverse ++ rest) (hcat : (rest.map fun v => v.category).sum ≤ 8) (hR : My.2.2.2.2.frames + 1 ≤ M.2.2.2.2.frames ∧ 8 + (My.2.2.1 + 11) + My.2.2.2.2.locals ≤ M.2.2.2.2.locals) (d : decode M.1 pc = .ok (.invokestatic index, 3)) (k : ∀ (v : Nat) (w1 : zW), f = some (v, w1) → Tz M inj (F v w1) (pc + 3) lv (.ref v :: rest) w1) : Tz M inj (bd f F) pc lv st w := tz_cS hY hm hS0 hn hst hcat hR d k
theorem tz_cSN {host : String} {index : Nat} (hY : zYS y My n) (hm : Cond.methodLinkNest M.2.1 index y host ∈ lw_tbl) (hS0 : Sm y My injc As w f) (hn : As.length = n) (hst : st = As.reverse ++ rest) (hcat : (rest.map fun v => v.category).sum ≤ 8) (hR : My.2.2.2.2.frames + 1 ≤ M.2.2.2.2.frames ∧ 8 + (My.2.2.1 + 11) + My.2.2.2.2.locals ≤ M.2.2.2.2.locals) (d : decode M.1 pc = .ok (.invokestatic index, 3)) (k : ∀ (v : σ) (w1 : zW), f = some (v, w1) → Tz M inj (F v w1) (pc + 3) lv ((injc v).toList ++ rest) w1) : Tz M inj (bd f F) pc lv st w := by
  intro res h p l e s m args below meth c D cA AD A X cells slots hB hE H locs ls hP hS hl
  obtain ⟨v, w1, hf, hF⟩ := bd_some h
  have hM := hS0 (v, w1) hf l D cA AD H.size
  subst hst
  refine z_call (rest := zes AD rest) (va_runSN (S := ⟨X.1, X.2.1, X.2.2.2.1, X.2.2.2.2.1, X.2.2.2.2.2.1⟩) (As := zes AD As) hM ⟨va_cnB n X.2.2.2.2.2.1 (zTb_pay hY.1) rfl hY.2.2.2.2.1 hY.2.2.2.2.2 (X.2.2.2.2.2.2.2.2.2.2.2 _ hm rfl) (X.2.2.2.2.2.1 _ hY.2.1) hY.2.2.2.1 hR, X.2.2.2.2.2.1 _ hY.2.2.1, trivial⟩ ⟨zPc_blind, fun U hU hW => ⟨rfl, zPre_of X hP hS hU hW⟩⟩ rfl (by simpa [zes] using hn) hl.1 (by simp [zes, zev]) ?_ d hB) hS (zA_in X hS) (fun H1 locs1 hP1 hS1 => ?_)
  · exact lv_room (by rw [zes_cat]; exact hcat)
  · rw [zes_app]
    exact k v w1 hf res hF p l e s m args below meth c D cA AD A X cells slots hB hE H1 locs1 ls hP1 hS1 hl
theorem tz_cSN_i {host : String} {index : Nat} {f : Option (Int32 × zW)} {F : Int32 → zW → Option (ρ × zW)} (hY : zYS y My n) (hm : Cond.methodLinkNest M.2.1 index y host ∈ lw_tbl) (hS0 : Sm y My zi As w f) (hn : As.length = n) (hst : st = As.reverse ++ rest) (hcat : (rest.map fun v => v.category).sum ≤ 8) (hR : My.2.2.2.2.frames + 1 ≤ M.2.2.2.2.frames ∧ 8 + (My.2.2.1 + 11) + My.2.2.2.2.locals ≤ M.2.2.2.2.locals) (d : decode M.1 pc = .ok (.invokestatic index, 3)) (k : ∀ (v : Int32) (w1 : zW), f = some (v, w1) → Tz M inj (F v w1) (pc + 3) lv (.int v :: rest) w1) : Tz M inj (bd f F) pc lv st w := tz_cSN hY hm hS0 hn hst hcat hR d k
theorem tz_cSN_l {host : String} {index : Nat} {f : Option (Int64 × zW)} {F : Int64 → zW → Option (ρ × zW)} (hY : zYS y My n) (hm : Cond.methodLinkNest M.2.1 index y host ∈ lw_tbl) (hS0 : Sm y My zl As w f) (hn : As.length = n) (hst : st = As.reverse ++ rest) (hcat : (rest.map fun v => v.category).sum ≤ 8) (hR : My.2.2.2.2.frames + 1 ≤ M.2.2.2.2.frames ∧ 8 + (My.2.2.1 + 11) + My.2.2.2.2.locals ≤ M.2.2.2.2.locals) (d : decode M.1 pc = .ok (.invokestatic index, 3)) (k : ∀ (v : Int64) (w1 : zW), f = some (v, w1) → Tz M inj (F v w1) (pc + 3) lv (.long v :: rest) w1) : Tz M inj (bd f F) pc lv st w := tz_cSN hY hm hS0 hn hst hcat hR d k
theorem tz_cSN_n {host : String} {index : Nat} {f : Option (Unit × zW)} {F : Unit → zW → Option (ρ × zW)} (hY : zYS y My n) (hm : Cond.methodLinkNest M.2.1 index y host ∈ lw_tbl) (hS0 : Sm y My zn As w f) (hn : As.length = n) (hst : st = As.reverse ++ rest) (hcat : (rest.map fun v => v.category).sum ≤ 8) (hR : My.2.2.2.2.frames + 1 ≤ M.2.2.2.2.frames ∧ 8 + (My.2.2.1 + 11) + My.2.2.2.2.locals ≤ M.2.2.2.2.locals) (d : decode M.1 pc = .ok (.invokestatic index, 3)) (k : ∀ (v : Unit) (w1 : zW), f = some (v, w1) → Tz M inj (F v w1) (pc + 3) lv (rest) w1) : Tz M inj (bd f F) pc lv st w := tz_cSN hY hm hS0 hn hst hcat hR d k
theorem tz_cSN_z {host : String} {index : Nat} {f : Option (Bool × zW)} {F : Bool → zW → Option (ρ × zW)} (hY : zYS y My n) (hm : Cond.methodLinkNest M.2.1 index y host ∈ lw_tbl) (hS0 : Sm y My zz As w f) (hn : As.length = n) (hst : st = As.reverse ++ rest) (hcat : (rest.map fun v => v.category).sum ≤ 8) (hR : My.2.2.2.2.frames + 1 ≤ M.2.2.2.2.frames ∧ 8 + (My.2.2.1 + 11) + My.2.2.2.2.locals ≤ M.2.2.2.2.locals) (d : decode M.1 pc = .ok (.invokestatic index, 3)) (k : ∀ (v : Bool) (w1 : zW), f = some (v, w1) → Tz M inj (F v w1) (pc + 3) lv (.int (zb v) :: rest) w1) : Tz M inj (bd f F) pc lv st w := tz_cSN hY hm hS0 hn hst hcat hR d k
theorem tz_cSN_q {host : String} {index : Nat} {f : Option (Nat × zW)} {F : Nat → zW → Option (ρ × zW)} (hY : zYS y My n) (hm : Cond.methodLinkNest M.2.1 index y host ∈ lw_tbl) (hS0 : Sm y My zq As w f) (hn : As.length = n) (hst : st = As.reverse ++ rest) (hcat : (rest.map fun v => v.category).sum ≤ 8) (hR : My.2.2.2.2.frames + 1 ≤ M.2.2.2.2.frames ∧ 8 + (My.2.2.1 + 11) + My.2.2.2.2.locals ≤ M.2.2.2.2.locals) (d : decode M.1 pc = .ok (.invokestatic index, 3)) (k : ∀ (v : Nat) (w1 : zW), f = some (v, w1) → Tz M inj (F v w1) (pc + 3) lv (.ref v :: rest) w1) : Tz M inj (bd f F) pc lv st w := tz_cSN hY hm hS0 hn hst hcat hR d k
end TC
section TM
variable {ρ : Type} {M : zM} {inj : zEnd ρ} {r : Option (ρ × zW)} {pc : Nat} {lv : List (Nat × Value)} {st : List Value} {w : zW}
theorem tz_mmin_long {index : Nat} {x y : Int64} (h1 : Cond.methodLink M.2.1 index Lib.MathLoose.min_long.x ∈ zTb) (h2 : Cond.static Lib.MathLoose.min_long.x ∈ zTb) (h3 : Cond.initialized "java/lang/Math" ∈ zTb) (h4 : Cond.code Lib.MathLoose.min_long.x Lib.MathLoose.min_long.code 4 (some .long) ∈ zTb) (hf : 1 ≤ M.2.2.2.2.frames) (hlo : (st.map fun v => v.category).sum + 15 ≤ M.2.2.2.2.locals) (d : decode M.1 pc = .ok (.invokestatic index, 3)) (k : Tz M inj r (pc + 3) lv (.long (if y < x then y else x) :: st) w) : Tz M inj r pc lv (.long y :: .long x :: st) w := fun res h p l e s m args below meth c D cA AD A X cells slots hB hE H locs ls hP hS hl => va_mmin_long X.1 X.2.1 (by rw [X.2.2.2.1, hl.1]) X.2.2.2.2.1 (X.2.2.2.2.2.1 _ h1) (X.2.2.2.2.2.1 _ h2) (X.2.2.2.2.2.1 _ h3) (X.2.2.2.2.2.1 _ h4) hf (by have e9 := zes_cat (AD := AD) st; rw [← e9] at hlo; exact hlo) hB.1 hB.2 d (k res h p l e s m args below meth c D cA AD A X cells slots hB hE H locs ls hP hS hl)
theorem tz_mmax_long {index : Nat} {x y : Int64} (h1 : Cond.methodLink M.2.1 index Lib.MathLoose.max_long.x ∈ zTb) (h2 : Cond.static Lib.MathLoose.max_long.x ∈ zTb) (h3 : Cond.initialized "java/lang/Math" ∈ zTb) (h4 : Cond.code Lib.MathLoose.max_long.x Lib.MathLoose.max_long.code 4 (some .long) ∈ zTb) (hf : 1 ≤ M.2.2.2.2.frames) (hlo : (st.map fun v => v.category).sum + 15 ≤ M.2.2.2.2.locals) (d : decode M.1 pc = .ok (.invokestatic index, 3)) (k : Tz M inj r (pc + 3) lv (.long (if y < x then x else y) :: st) w) : Tz M inj r pc lv (.long y :: .long x :: st) w := fun res h p l e s m args below meth c D cA AD A X cells slots hB hE H locs ls hP hS hl => va_mmax_long X.1 X.2.1 (by rw [X.2.2.2.1, hl.1]) X.2.2.2.2.1 (X.2.2.2.2.2.1 _ h1) (X.2.2.2.2.2.1 _ h2) (X.2.2.2.2.2.1 _ h3) (X.2.2.2.2.2.1 _ h4) hf (by have e9 := zes_cat (AD := AD) st; rw [← e9] at hlo; exact hlo) hB.1 hB.2 d (k res h p l e s m args below meth c D cA AD A X cells slots hB hE H locs ls hP hS hl)
theorem tz_mmin {index : Nat} {x y : Int32} (h1 : Cond.methodLink M.2.1 index Lib.Math.min.name ∈ zTb) (h2 : Cond.static Lib.Math.min.name ∈ zTb) (h3 : Cond.initialized "java/lang/Math" ∈ zTb) (h4 : Cond.code Lib.Math.min.name Lib.Math.min.code 2 (some .int) ∈ zTb) (hf : 1 ≤ M.2.2.2.2.frames) (hlo : (st.map fun v => v.category).sum + 13 ≤ M.2.2.2.2.locals) (d : decode M.1 pc = .ok (.invokestatic index, 3)) (k : Tz M inj r (pc + 3) lv (.int (if y < x then y else x) :: st) w) : Tz M inj r pc lv (.int y :: .int x :: st) w := fun res h p l e s m args below meth c D cA AD A X cells slots hB hE H locs ls hP hS hl => va_mmin X.1 X.2.1 (by rw [X.2.2.2.1, hl.1]) X.2.2.2.2.1 (X.2.2.2.2.2.1 _ h1) (X.2.2.2.2.2.1 _ h2) (X.2.2.2.2.2.1 _ h3) (X.2.2.2.2.2.1 _ h4) hf (by have e9 := zes_cat (AD := AD) st; rw [← e9] at hlo; exact hlo) hB.1 hB.2 d (k res h p l e s m args below meth c D cA AD A X cells slots hB hE H locs ls hP hS hl)
theorem tz_mmax {index : Nat} {x y : Int32} (h1 : Cond.methodLink M.2.1 index Lib.Math.max.name ∈ zTb) (h2 : Cond.static Lib.Math.max.name ∈ zTb) (h3 : Cond.initialized "java/lang/Math" ∈ zTb) (h4 : Cond.code Lib.Math.max.name Lib.Math.max.code 2 (some .int) ∈ zTb) (hf : 1 ≤ M.2.2.2.2.frames) (hlo : (st.map fun v => v.category).sum + 13 ≤ M.2.2.2.2.locals) (d : decode M.1 pc = .ok (.invokestatic index, 3)) (k : Tz M inj r (pc + 3) lv (.int (if x < y then y else x) :: st) w) : Tz M inj r pc lv (.int y :: .int x :: st) w := fun res h p l e s m args below meth c D cA AD A X cells slots hB hE H locs ls hP hS hl => va_mmax X.1 X.2.1 (by rw [X.2.2.2.1, hl.1]) X.2.2.2.2.1 (X.2.2.2.2.2.1 _ h1) (X.2.2.2.2.2.1 _ h2) (X.2.2.2.2.2.1 _ h3) (X.2.2.2.2.2.1 _ h4) hf (by have e9 := zes_cat (AD := AD) st; rw [← e9] at hlo; exact hlo) hB.1 hB.2 d (k res h p l e s m args below meth c D cA AD A X cells slots hB hE H locs ls hP hS hl)
end TM
