-- the words that every method gets: those of the tables that a call may pay with
def zTb : List Cond := lw_tbl.filter goodWord
theorem zTb_mem {w : Cond} (i : Nat) (h : lw_tbl[i]? = some w) (g : goodWord w = true) : w ∈ zTb := List.mem_filter.mpr ⟨List.mem_of_getElem? h, g⟩
theorem zTb_good : ∀ w ∈ zTb, goodWord w = true := fun _ h => (List.mem_filter.mp h).2
theorem zTb_sub : ∀ w ∈ zTb, w ∈ lw_tbl := fun _ h => (List.mem_filter.mp h).1
theorem zTb_goodIn {ws : List Cond} (h : ∀ w ∈ ws, w ∈ zTb) : GoodIn zTb ws := fun w hw => ⟨h w hw, good_of_word (zTb_good w (h w hw))⟩
-- nest words: not paid with, but told in each contract
def zNest : Cond → Bool
  | .fieldLinkNest .. => true
  | .methodLinkNest .. => true
  | _ => false
def zNs (U : State) : Prop := ∀ w ∈ lw_tbl, zNest w = true → va_Nw w U
theorem zNs_warm {s U : State} (hW : s.WarmedH U.vm) (h : zNs s) : zNs U := by
  intro w hw hn
  cases w <;> first | (exact va_Nw.warmF hW (h _ hw hn)) | (exact va_Nw.warmM hW (h _ hw hn)) | (cases hn)
theorem zNs_same {s U : State} (hvm : s.vm = U.vm) (h : zNs s) : zNs U := by
  intro w hw hn
  cases w <;> first | (exact va_Nw.same rfl hvm (h _ hw hn)) | (cases hn)
-- THE PURE WORLD: ints, longs (object, field or place), the four rows of Takings
abbrev zW : Type := (Nat → Nat → Int32) × (Nat → Nat → Int64) × (Nat → Nat)
def zI (w : zW) (k j : Nat) : Int32 := w.1 k j
def zL (w : zW) (k j : Nat) : Int64 := w.2.1 k j
def zR (w : zW) (j : Nat) : Nat := 67 + w.2.2 j % 4
def zu {α : Type} (f : Nat → Nat → α) (k j : Nat) (v : α) : Nat → Nat → α := fun a b => if a = k ∧ b = j then v else f a b
def zsI (w : zW) (k j : Nat) (v : Int32) : zW := (zu w.1 k j v, w.2)
def zsL (w : zW) (k j : Nat) (v : Int64) : zW := (w.1, zu w.2.1 k j v, w.2.2)
def zsR (w : zW) (j t : Nat) : zW := (w.1, w.2.1, fun b => if b = j then t + 1 else w.2.2 b)
def lt {α β : Type} (x : α) (f : α → β) : β := f x
def bd {α β : Type} (r : Option (α × zW)) (f : α → zW → Option β) : Option β := match r with
  | none => none
  | some q => f q.1 q.2
def zin (i : Int32) (n : Nat) : Bool := decide (0 ≤ i.toInt ∧ i.toInt < n)
def zg {α : Type} (b : Bool) (x : Option α) : Option α := match b with
  | true => x
  | false => none
theorem zin_vp {i : Int32} {n : Nat} (h : zin i n = true) : vp_in i n := vp_in_iff.mpr (of_decide_eq_true h)
-- the objects: 0 int row, 1 long row, 2 the row of Lines, c + 3 an object of class c; and how long
def zSh : List (Nat × Nat) := [(10, 0), (3, 0), (6, 0), (0, 25), (9, 0), (0, 64), (2, 4), (4, 0), (5, 0), (0, 64), (1, 64), (1, 64), (0, 64), (5, 0), (0, 64), (1, 64), (1, 64), (0, 64), (4, 0), (5, 0), (0, 64), (1, 64), (1, 64), (0, 64), (5, 0), (0, 64), (1, 64), (1, 64), (0, 64), (4, 0), (5, 0), (0, 64), (1, 64), (1, 64), (0, 64), (5, 0), (0, 64), (1, 64), (1, 64), (0, 64), (4, 0), (5, 0), (0, 64), (1, 64), (1, 64), (0, 64), (5, 0), (0, 64), (1, 64), (1, 64), (0, 64), (4, 0), (5, 0), (0, 64), (1, 64), (1, 64), (0, 64), (5, 0), (0, 64), (1, 64), (1, 64), (0, 64), (6, 0), (0, 25), (8, 0), (0, 100), (7, 0), (0, 65), (0, 65), (0, 65), (0, 65), (1, 128), (1, 129), (1, 129), (11, 0), (1, 160), (0, 100), (0, 25), (0, 4), (0, 4), (0, 4), (1, 129), (1, 129), (0, 10), (0, 640), (0, 640), (1, 640), (1, 640), (0, 65), (0, 25), (0, 100), (0, 100), (1, 1)]
def zLay : List (List Nat) := [[1, 4, 6, 51, 62, 64, 66, 71, 0, 72, 73], [0, 2, 0, 0], [0, 0, 3], [], [1, 0, 0, 5], [], [7, 18, 29, 40], [8, 13], [0, 9, 10, 11, 12], [], [], [], [], [0, 14, 15, 16, 17], [], [], [], [], [19, 24], [0, 20, 21, 22, 23], [], [], [], [], [0, 25, 26, 27, 28], [], [], [], [], [30, 35], [0, 31, 32, 33, 34], [], [], [], [], [0, 36, 37, 38, 39], [], [], [], [], [41, 46], [0, 42, 43, 44, 45], [], [], [], [], [0, 47, 48, 49, 50], [], [], [], [], [52, 57], [0, 53, 54, 55, 56], [], [], [], [], [0, 58, 59, 60, 61], [], [], [], [], [0, 0, 63], [], [0, 65], [], [67, 68, 69, 70, 0, 0], [], [], [], [], [], [], [], [0, 0, 75, 76, 0, 0, 0, 0, 0, 0, 77, 0, 0, 78, 79, 80, 81, 82, 83, 84, 85, 86, 87, 0, 0, 88, 89, 0, 90, 91, 0, 0], [], [], [], [], [], [], [], [], [], [], [], [], [], [], [], [], [], []]
def zsh (k : Nat) : Nat × Nat := zSh.getD k (0, 0)
def zlen (k : Nat) : Nat := (zsh k).2
def zlay (k j : Nat) : Nat := (zLay.getD k []).getD j 0
def zc (c k : Nat) : Prop := k < 93 ∧ zsh k = (c + 3, 0)
def za (t k : Nat) : Prop := k < 93 ∧ zsh k = (t, zlen k)
def zty (c : Nat) : Nat → FieldType := match c with
  | 0 => tyX0
  | 1 => tyX1
  | 2 => tyX2
  | 3 => tyX3
  | 4 => tyX4
  | 5 => tyX5
  | 6 => tyX6
  | 7 => tyX7
  | _ => tyX8
def zN (c : Nat) : Nat := [4, 2, 5, 3, 6, 2, 4, 11, 32].getD c 0
def zref (w : zW) (k j : Nat) : Nat := if k = 66 then zR w j else zlay k j
def zfv (AD : Nat → Nat) (w : zW) (k j : Nat) : FieldType → Value
  | .int => .int (zI w k j)
  | .long => .long (zL w k j)
  | _ => .ref (AD (zref w k j))
def zfs (AD : Nat → Nat) (w : zW) (k c : Nat) : List Value := (List.range (zN c)).map fun j => zfv AD w k j (zty c j)
def zcell (cA : Nat → ClassId) (AD : Nat → Nat) (w : zW) (k : Nat) : va_E := match zsh k with
  | (0, n) => .inl (cA 0, n, .inl (w.1 k))
  | (1, n) => .inl (cA 1, n, .inr (.inl (w.2.1 k)))
  | (2, n) => .inl (cA 2, n, .inr (.inr (.inr (.inr fun i => some (AD (zlay k i))))))
  | (c + 3, _) => .inr (c, zfs AD w k c)
def zws (cA : Nat → ClassId) (AD : Nat → Nat) (w : zW) : va_W := (List.range 93).map fun k => (AD k, zcell cA AD w k)
def ztys (cA : Nat → ClassId) : List (ClassId × FieldType) := [(cA 0, .int), (cA 1, .long), (cA 2, .object "EndSums$Line")]
theorem zws_at {cA : Nat → ClassId} {AD : Nat → Nat} {w : zW} {k : Nat} (h : k < 93) : (zws cA AD w)[k]? = some (AD k, zcell cA AD w k) := by
  simp [zws, h]
theorem zcell_o {cA : Nat → ClassId} {AD : Nat → Nat} {w : zW} {c k : Nat} (h : zc c k) : zcell cA AD w k = .inr (c, zfs AD w k c) := by
  unfold zcell; rw [h.2]
theorem zws_o {cA : Nat → ClassId} {AD : Nat → Nat} {w : zW} {c k : Nat} (h : zc c k) : (zws cA AD w)[k]? = some (AD k, .inr (c, zfs AD w k c)) := by
  rw [zws_at h.1, zcell_o h]
theorem zws_i {cA : Nat → ClassId} {AD : Nat → Nat} {w : zW} {k : Nat} (h : za 0 k) : (zws cA AD w)[k]? = some (AD k, .inl (cA 0, zlen k, .inl (w.1 k))) := by
  rw [zws_at h.1]; unfold zcell; rw [h.2]
theorem zws_l {cA : Nat → ClassId} {AD : Nat → Nat} {w : zW} {k : Nat} (h : za 1 k) : (zws cA AD w)[k]? = some (AD k, .inl (cA 1, zlen k, .inr (.inl (w.2.1 k)))) := by
  rw [zws_at h.1]; unfold zcell; rw [h.2]
theorem zws_q {cA : Nat → ClassId} {AD : Nat → Nat} {w : zW} {k : Nat} (h : za 2 k) : (zws cA AD w)[k]? = some (AD k, .inl (cA 2, zlen k, .inr (.inr (.inr (.inr fun i => some (AD (zlay k i))))))) := by
  rw [zws_at h.1]; unfold zcell; rw [h.2]
theorem zws_set {cA : Nat → ClassId} {AD : Nat → Nat} {w w' : zW} {k : Nat} (h : k < 93) {e : va_E} (hk : e = zcell cA AD w' k) (ho : ∀ j, j ≠ k → zcell cA AD w' j = zcell cA AD w j) : (zws cA AD w).set k (AD k, e) = zws cA AD w' := by
  subst hk
  apply List.ext_getElem?
  intro i
  by_cases hi : i = k
  · subst hi
    rw [zws_at h, List.getElem?_set_self (by simp [zws, h])]
  · rw [List.getElem?_set_ne (Ne.symm hi)]
    by_cases h2 : i < 93
    · rw [zws_at h2, zws_at h2, ho i hi]
    · rw [List.getElem?_eq_none (by simp [zws]; omega), List.getElem?_eq_none (by simp [zws]; omega)]
theorem zfs_at {AD : Nat → Nat} {w : zW} {c k j : Nat} (hj : j < zN c) : (zfs AD w k c)[j]? = some (zfv AD w k j (zty c j)) := by
  simp [zfs, hj]
theorem zfs_len {AD : Nat → Nat} {w : zW} {c k : Nat} : (zfs AD w k c).length = zN c := by simp [zfs]
theorem zfs_set {AD : Nat → Nat} {w w' : zW} {c k j : Nat} {v : Value} (hj : j < zN c) (hv : v = zfv AD w' k j (zty c j)) (ho : ∀ i, i ≠ j → ∀ t, zfv AD w' k i t = zfv AD w k i t) : (zfs AD w k c).set j v = zfs AD w' k c := by
  subst hv
  apply List.ext_getElem?
  intro i
  by_cases hi : i = j
  · subst hi
    rw [zfs_at hj, List.getElem?_set_self (by rw [zfs_len]; exact hj)]
  · rw [List.getElem?_set_ne (Ne.symm hi)]
    by_cases h2 : i < zN c
    · rw [zfs_at h2, zfs_at h2, ho i hi]
    · rw [List.getElem?_eq_none (by rw [zfs_len]; omega), List.getElem?_eq_none (by rw [zfs_len]; omega)]
theorem zcell_eq {cA : Nat → ClassId} {AD : Nat → Nat} {w w' : zW} {k : Nat} (h1 : w'.1 k = w.1 k) (h2 : w'.2.1 k = w.2.1 k) (h3 : k = 66 → w'.2.2 = w.2.2) : zcell cA AD w' k = zcell cA AD w k := by
  have hf : ∀ j t, zfv AD w' k j t = zfv AD w k j t := by
    intro j t
    have e1 : zI w' k j = zI w k j := congrFun h1 j
    have e2 : zL w' k j = zL w k j := congrFun h2 j
    have e3 : zref w' k j = zref w k j := by
      unfold zref zR
      by_cases hk : k = 66
      · rw [if_pos hk, if_pos hk, h3 hk]
      · rw [if_neg hk, if_neg hk]
    cases t <;> simp [zfv, e1, e2, e3]
  have e4 : ∀ c, zfs AD w' k c = zfs AD w k c := by
    intro c
    unfold zfs
    exact List.map_congr_left fun j _ => hf j _
  unfold zcell
  rw [h1, h2]
  split <;> first | rfl | rw [e4]
theorem zu_ne {α : Type} {f : Nat → Nat → α} {k j a : Nat} {v : α} (h : a ≠ k) : zu f k j v a = f a := by
  funext b; simp [zu, h]
theorem zu_row {f : Nat → Nat → Int32} {k j : Nat} {v : Int32} : zu f k j v k = upd (f k) j v := by
  funext b; simp [zu, upd]
theorem zu_rowL {f : Nat → Nat → Int64} {k j : Nat} {v : Int64} : zu f k j v k = vp_updL (f k) j v := by
  funext b; simp [zu, vp_updL]
-- a store: into an int field, a long field, one of Takings' rows, an int row, a long row
theorem zst_I {cA : Nat → ClassId} {AD : Nat → Nat} {w : zW} {c k j : Nat} {v : Int32} (h : zc c k) (hj : j < zN c) (ht : zty c j = .int) : (zws cA AD w).set k (AD k, .inr (c, (zfs AD w k c).set j (.int v))) = zws cA AD (zsI w k j v) := by
  refine zws_set h.1 ?_ (fun i hi => zcell_eq (zu_ne hi) rfl (fun _ => rfl))
  rw [zcell_o h, zfs_set (w' := zsI w k j v) hj ?_ ?_]
  · rw [ht]; simp [zfv, zI, zsI, zu]
  · intro i hi t
    cases t <;> simp [zfv, zI, zL, zsI, zu, hi, zref, zR]
theorem zst_L {cA : Nat → ClassId} {AD : Nat → Nat} {w : zW} {c k j : Nat} {v : Int64} (h : zc c k) (hj : j < zN c) (ht : zty c j = .long) : (zws cA AD w).set k (AD k, .inr (c, (zfs AD w k c).set j (.long v))) = zws cA AD (zsL w k j v) := by
  refine zws_set h.1 ?_ (fun i hi => zcell_eq rfl (zu_ne hi) (fun _ => rfl))
  rw [zcell_o h, zfs_set (w' := zsL w k j v) hj ?_ ?_]
  · rw [ht]; simp [zfv, zL, zsL, zu]
  · intro i hi t
    cases t <;> simp [zfv, zI, zL, zsL, zu, hi, zref, zR]
theorem zst_R {cA : Nat → ClassId} {AD : Nat → Nat} {w : zW} {j t : Nat} (hj : j < 4) (ht : t = 67 ∨ t = 68 ∨ t = 69 ∨ t = 70) : (zws cA AD w).set 66 (AD 66, .inr (4, (zfs AD w 66 4).set j (.ref (AD t)))) = zws cA AD (zsR w j t) := by
  have h : zc 4 66 := by unfold zc; decide
  refine zws_set h.1 ?_ (fun i hi => zcell_eq rfl rfl (fun q => absurd q hi))
  rw [zcell_o h, zfs_set (w' := zsR w j t) ?_ ?_ ?_]
  · exact Nat.lt_of_lt_of_le hj (by decide)
  · have e : zty 4 j = .array .int := by
      rcases (show j = 0 ∨ j = 1 ∨ j = 2 ∨ j = 3 by omega) with rfl | rfl | rfl | rfl <;> rfl
    rw [e]
    have e2 : zR (zsR w j t) j = t := by
      simp only [zR, zsR, if_true]
      rcases ht with rfl | rfl | rfl | rfl <;> rfl
    simp [zfv, zref, e2]
  · intro i hi t2
    cases t2 <;> simp [zfv, zI, zL, zsR, zref, zR, hi]
theorem zst_i {cA : Nat → ClassId} {AD : Nat → Nat} {w : zW} {k j : Nat} {v : Int32} (h : za 0 k) : (zws cA AD w).set k (AD k, .inl (cA 0, zlen k, .inl (upd (w.1 k) j v))) = zws cA AD (zsI w k j v) := by
  refine zws_set h.1 ?_ (fun i hi => zcell_eq (zu_ne hi) rfl (fun _ => rfl))
  unfold zcell; rw [h.2]
  simp [zsI, zu_row]
theorem zst_l {cA : Nat → ClassId} {AD : Nat → Nat} {w : zW} {k j : Nat} {v : Int64} (h : za 1 k) : (zws cA AD w).set k (AD k, .inl (cA 1, zlen k, .inr (.inl (vp_updL (w.2.1 k) j v)))) = zws cA AD (zsL w k j v) := by
  refine zws_set h.1 ?_ (fun i hi => zcell_eq rfl (zu_ne hi) (fun _ => rfl))
  unfold zcell; rw [h.2]
  simp [zsL, zu_rowL]
-- addresses
def zAp (A : Nat → Prop) (AD : Nat → Nat) : Prop := (∀ i j, i < 93 → j < 93 → AD i = AD j → i = j) ∧ ∀ k, k < 93 → A (AD k)
theorem zD {A : Nat → Prop} {AD : Nat → Nat} {cA : Nat → ClassId} {w : zW} (h : zAp A AD) : va_D A (zws cA AD w) := by
  have key : ∀ (k : Nat) (q : Nat × va_E), (zws cA AD w)[k]? = some q → k < 93 ∧ q.1 = AD k := by
    intro k q hk
    by_cases h2 : k < 93
    · rw [zws_at h2] at hk
      exact ⟨h2, by rw [← Option.some.inj hk]⟩
    · rw [List.getElem?_eq_none (by simp [zws]; omega)] at hk
      cases hk
  refine ⟨fun i j p q hi hj hpq => ?_, fun k q hk => ?_⟩
  · obtain ⟨a1, a2⟩ := key i p hi
    obtain ⟨b1, b2⟩ := key j q hj
    exact h.1 i j a1 b1 (a2.symm.trans (hpq.trans b2))
  · obtain ⟨a1, a2⟩ := key k q hk
    rw [a2]; exact h.2 k a1
def zA (AD : Nat → Nat) (sz : Nat) : Nat → Prop := fun q => (∃ k, k < 93 ∧ q = AD k) ∨ sz ≤ q
-- the static row of the arrangements
def zarr : List Int32 := [291, 306, 531, 561, 786, 801, 4131, 4146, 4611, 4656, 4866, 4896, 8211, 8241, 8451, 8496, 8961, 8976, 12306, 12321, 12546, 12576, 12801, 12816]
def zSt (AD : Nat → Nat) (A : Nat → Prop) (U : State) (H : Heap) : Prop := va_Z "EndSums$Joining" "ARRANGEMENTS" "[I" (.ref (AD 93)) A U H ∧ va_T .int (AD 93) 24 (fun j => .int (zarr.getD j 0)) A U H
theorem zSt_moved {AD : Nat → Nat} {A : Nat → Prop} {u U : State} {H : Heap} (hvm : u.vm.Alike U.vm) (h : zSt AD A u H) : zSt AD A U H := ⟨va_Z.moved hvm h.1, va_T.moved hvm h.2⟩
theorem zSt_kept {AD : Nat → Nat} {A : Nat → Prop} {U : State} {H H1 : Heap} (h : zSt AD A U H) (hq : ∀ a : Nat, a < H.size → ¬ A a → H1[a]? = H[a]?) : zSt AD A U H1 := ⟨va_Z.kept h.1 hq, va_T.kept h.2 hq⟩
theorem zSt_narrow {AD : Nat → Nat} {A B : Nat → Prop} {U : State} {H : Heap} (h : zSt AD A U H) (hAB : ∀ q, B q → A q) : zSt AD B U H := ⟨va_Z.narrow h.1 hAB, va_T.narrow h.2 hAB⟩
-- A METHOD: its bytes, class, locals, what it returns, its room
abbrev zM : Type := ByteArray × String × Nat × Option FieldType × Room
def zev (AD : Nat → Nat) : Value → Value
  | .ref k => .ref (AD k)
  | v => v
theorem zev_cat {AD : Nat → Nat} (v : Value) : (zev AD v).category = v.category := by cases v <;> rfl
def zes (AD : Nat → Nat) (st : List Value) : List Value := st.map (zev AD)
def zel (AD : Nat → Nat) (lv : List (Nat × Value)) : List (Nat × Value) := lv.map fun q => (q.1, zev AD q.2)
theorem zel_at {AD : Nat → Nat} {lv : List (Nat × Value)} {k i : Nat} {v : Value} (h : lv[k]? = some (i, v)) : (zel AD lv)[k]? = some (i, zev AD v) := by
  simp [zel, h]
theorem zel_st {AD : Nat → Nat} {lv lv' : List (Nat × Value)} {i : Nat} {v : Value} (h : (i, v) :: lv.filter (fun q => !(q.1 == i) && !(q.1 + 1 == i && q.2.category == 2)) = lv') : (i, zev AD v) :: (zel AD lv).filter (fun q => !(q.1 == i) && !(q.1 + 1 == i && q.2.category == 2)) = zel AD lv' := by
  subst h
  simp only [zel, List.filter_map, List.map_cons]
  congr 2
  apply List.filter_congr
  intro q _
  simp [zev_cat]
theorem zel_st2 {AD : Nat → Nat} {lv lv' : List (Nat × Value)} {i : Nat} {v : Value} (h : (i, v) :: lv.filter (fun q => !(q.1 == i) && (!(q.1 == i + 1) && !(q.1 + 1 == i && q.2.category == 2))) = lv') : (i, zev AD v) :: (zel AD lv).filter (fun q => !(q.1 == i) && (!(q.1 == i + 1) && !(q.1 + 1 == i && q.2.category == 2))) = zel AD lv' := by
  subst h
  simp only [zel, List.filter_map, List.map_cons]
  congr 2
  apply List.filter_congr
  intro q _
  simp [zev_cat]
def zQ {ρ : Type} (D : va_G) (cA : Nat → ClassId) (AD : Nat → Nat) (A : Nat → Prop) (inj : ρ → Option Value) (res : ρ × zW) : Array Value → State → Outcome → State → Prop := fun _ st o t =>
  (o = .returned ((inj res.1).map (zev AD)) ∧ va_P D vwCl (zws cA AD res.2) t.heap) ∧ va_F A st t
def zCtx (M : zM) (p : Program) (s : State) (m : MethodId) (args : Array Value) (meth : Method) (c : Code) (D : va_G) (cA : Nat → ClassId) (AD : Nat → Nat) (A : Nat → Prop) : Prop :=
  p.tables.exec = Jvm.exec ∧ c.code = M.1 ∧ meth.sig.returnType = M.2.2.2.1 ∧ c.maxLocals = M.2.2.1 ∧ s.vm.findClass M.2.1 = some m.cls ∧ (∀ w ∈ zTb, w.before args s = true) ∧ meth.locks = false ∧ va_K D vwCl (ztys cA) s ∧ zAp A AD ∧ (∀ q, s.heap.size ≤ q → A q) ∧ zSt AD A s s.heap ∧ zNs s
abbrev zEnd (ρ : Type) : Type := (Launch → State → Code → (Nat → Nat) → (Nat → Prop) → Nat → Nat → Prop) × (ρ × zW → va_G → (Nat → ClassId) → (Nat → Nat) → (Nat → Prop) → List Frame → Array Value → State → State → Prop)
/-- an ordinary end: nothing made, the answer returned -/
def zRet {ρ : Type} (ij : ρ → Option Value) : zEnd ρ := (fun _ _ _ _ _ cells slots => cells = 0 ∧ slots = 0, fun res D cA AD A below args s => MQ below (zQ D cA AD A ij res) args s 0 0 A)
/-- from this place of the method, with these locals, this stack, this world: where r is some answer and world, the machine comes to the end with it -/
def Tz {ρ : Type} (M : zM) (inj : zEnd ρ) (r : Option (ρ × zW)) (pc : Nat) (lv : List (Nat × Value)) (st : List Value) (w : zW) : Prop :=
  ∀ (res : ρ × zW), r = some res → ∀ (p : Program) (l : Launch) (e : Env) (s : State) (m : MethodId) (args : Array Value) (below : List Frame) (meth : Method) (c : Code) (D : va_G) (cA : Nat → ClassId) (AD : Nat → Nat) (A : Nat → Prop),
    zCtx M p s m args meth c D cA AD A → ∀ (cells slots : Nat), (cells ≤ M.2.2.2.2.cells ∧ slots ≤ M.2.2.2.2.slots) → inj.1 l s c AD A cells slots → ∀ (H : Heap) (locs : List Loc) (ls : Array Slot), va_P D vwCl (zws cA AD w) H → va_S A s.heap H locs → lv_has ls M.2.2.1 (zel AD lv) →
      W p l e M.2.2.2.2 s m args below meth c H locs cells slots (inj.2 res D cA AD A below args s) (F0 m pc ls (zes AD st))
def zPre (D : va_G) (cA : Nat → ClassId) (AD : Nat → Nat) (w : zW) (sz : Nat) (U : State) : Prop :=
  U.heap.size = sz ∧ va_P D vwCl (zws cA AD w) U.heap ∧ va_K D vwCl (ztys cA) U ∧ (∀ i j, i < 93 → j < 93 → AD i = AD j → i = j) ∧ zSt AD (zA AD sz) U U.heap ∧ zNs U
/-- THE CONTRACT of a method, where it is called with these values in this world: r is its answer and the world behind it -/
def Sm {ρ : Type} (y : MethodName) (M : zM) (inj : ρ → Option Value) (av : List Value) (w : zW) (r : Option (ρ × zW)) : Prop :=
  ∀ (res : ρ × zW), r = some res → ∀ (l : Launch) (D : va_G) (cA : Nat → ClassId) (AD : Nat → Nat) (sz : Nat),
    Met l y (.code y M.1 M.2.2.1 M.2.2.2.1 :: zTb) M.2.2.2.2 (va_Pc (zes AD av) (zPre D cA AD w sz)) (zQ D cA AD (zA AD sz) inj res) 0 0 (zA AD sz)
section TZ
variable {ρ : Type} {M : zM} {inj : zEnd ρ} {r : Option (ρ × zW)} {pc : Nat} {lv : List (Nat × Value)} {st : List Value} {w : zW}
theorem tz_iadd {x y : Int32} (d : decode M.1 pc = .ok (.iadd, 1)) (k : Tz M inj r (pc + 1) lv (.int (x + y) :: st) w) : Tz M inj r pc lv (.int y :: .int x :: st) w := fun res h p l e s m args below meth c D cA AD A X cells slots hB hE H locs ls hP hS hl => lv_iadd X.1 X.2.1 d (k res h p l e s m args below meth c D cA AD A X cells slots hB hE H locs ls hP hS hl)
theorem tz_isub {x y : Int32} (d : decode M.1 pc = .ok (.isub, 1)) (k : Tz M inj r (pc + 1) lv (.int (x - y) :: st) w) : Tz M inj r pc lv (.int y :: .int x :: st) w := fun res h p l e s m args below meth c D cA AD A X cells slots hB hE H locs ls hP hS hl => lv_isub X.1 X.2.1 d (k res h p l e s m args below meth c D cA AD A X cells slots hB hE H locs ls hP hS hl)
theorem tz_imul {x y : Int32} (d : decode M.1 pc = .ok (.imul, 1)) (k : Tz M inj r (pc + 1) lv (.int (x * y) :: st) w) : Tz M inj r pc lv (.int y :: .int x :: st) w := fun res h p l e s m args below meth c D cA AD A X cells slots hB hE H locs ls hP hS hl => lv_imul X.1 X.2.1 d (k res h p l e s m args below meth c D cA AD A X cells slots hB hE H locs ls hP hS hl)
theorem tz_iand {x y : Int32} (d : decode M.1 pc = .ok (.iand, 1)) (k : Tz M inj r (pc + 1) lv (.int (x &&& y) :: st) w) : Tz M inj r pc lv (.int y :: .int x :: st) w := fun res h p l e s m args below meth c D cA AD A X cells slots hB hE H locs ls hP hS hl => lv_iand X.1 X.2.1 d (k res h p l e s m args below meth c D cA AD A X cells slots hB hE H locs ls hP hS hl)
theorem tz_ior {x y : Int32} (d : decode M.1 pc = .ok (.ior, 1)) (k : Tz M inj r (pc + 1) lv (.int (x ||| y) :: st) w) : Tz M inj r pc lv (.int y :: .int x :: st) w := fun res h p l e s m args below meth c D cA AD A X cells slots hB hE H locs ls hP hS hl => lv_ior X.1 X.2.1 d (k res h p l e s m args below meth c D cA AD A X cells slots hB hE H locs ls hP hS hl)
theorem tz_ishl {x y : Int32} (d : decode M.1 pc = .ok (.ishl, 1)) (k : Tz M inj r (pc + 1) lv (.int (x <<< (y &&& 31)) :: st) w) : Tz M inj r pc lv (.int y :: .int x :: st) w := fun res h p l e s m args below meth c D cA AD A X cells slots hB hE H locs ls hP hS hl => lv_ishl X.1 X.2.1 d (k res h p l e s m args below meth c D cA AD A X cells slots hB hE H locs ls hP hS hl)
theorem tz_ishr {x y : Int32} (d : decode M.1 pc = .ok (.ishr, 1)) (k : Tz M inj r (pc + 1) lv (.int (x >>> (y &&& 31)) :: st) w) : Tz M inj r pc lv (.int y :: .int x :: st) w := fun res h p l e s m args below meth c D cA AD A X cells slots hB hE H locs ls hP hS hl => lv_ishr X.1 X.2.1 d (k res h p l e s m args below meth c D cA AD A X cells slots hB hE H locs ls hP hS hl)
theorem tz_ladd {x y : Int64} (d : decode M.1 pc = .ok (.ladd, 1)) (k : Tz M inj r (pc + 1) lv (.long (x + y) :: st) w) : Tz M inj r pc lv (.long y :: .long x :: st) w := fun res h p l e s m args below meth c D cA AD A X cells slots hB hE H locs ls hP hS hl => lv_ladd X.1 X.2.1 d (k res h p l e s m args below meth c D cA AD A X cells slots hB hE H locs ls hP hS hl)
theorem tz_lsub {x y : Int64} (d : decode M.1 pc = .ok (.lsub, 1)) (k : Tz M inj r (pc + 1) lv (.long (x - y) :: st) w) : Tz M inj r pc lv (.long y :: .long x :: st) w := fun res h p l e s m args below meth c D cA AD A X cells slots hB hE H locs ls hP hS hl => lv_lsub X.1 X.2.1 d (k res h p l e s m args below meth c D cA AD A X cells slots hB hE H locs ls hP hS hl)
theorem tz_lmul {x y : Int64} (d : decode M.1 pc = .ok (.lmul, 1)) (k : Tz M inj r (pc + 1) lv (.long (x * y) :: st) w) : Tz M inj r pc lv (.long y :: .long x :: st) w := fun res h p l e s m args below meth c D cA AD A X cells slots hB hE H locs ls hP hS hl => lv_lmul X.1 X.2.1 d (k res h p l e s m args below meth c D cA AD A X cells slots hB hE H locs ls hP hS hl)
theorem tz_lxor {x y : Int64} (d : decode M.1 pc = .ok (.lxor, 1)) (k : Tz M inj r (pc + 1) lv (.long (x ^^^ y) :: st) w) : Tz M inj r pc lv (.long y :: .long x :: st) w := fun res h p l e s m args below meth c D cA AD A X cells slots hB hE H locs ls hP hS hl => lv_lxor X.1 X.2.1 d (k res h p l e s m args below meth c D cA AD A X cells slots hB hE H locs ls hP hS hl)
theorem tz_idiv {x y : Int32} (hn : ¬ y = 0) (d : decode M.1 pc = .ok (.idiv, 1)) (k : Tz M inj r (pc + 1) lv (.int (x / y) :: st) w) : Tz M inj r pc lv (.int y :: .int x :: st) w := fun res h p l e s m args below meth c D cA AD A X cells slots hB hE H locs ls hP hS hl => lv_idiv X.1 X.2.1 d hn (k res h p l e s m args below meth c D cA AD A X cells slots hB hE H locs ls hP hS hl)
theorem tz_irem {x y : Int32} (hn : ¬ y = 0) (d : decode M.1 pc = .ok (.irem, 1)) (k : Tz M inj r (pc + 1) lv (.int (x - x / y * y) :: st) w) : Tz M inj r pc lv (.int y :: .int x :: st) w := fun res h p l e s m args below meth c D cA AD A X cells slots hB hE H locs ls hP hS hl => lv_irem X.1 X.2.1 d hn (k res h p l e s m args below meth c D cA AD A X cells slots hB hE H locs ls hP hS hl)
theorem tz_lrem {x y : Int64} (hn : ¬ y = 0) (d : decode M.1 pc = .ok (.lrem, 1)) (k : Tz M inj r (pc + 1) lv (.long (x - x / y * y) :: st) w) : Tz M inj r pc lv (.long y :: .long x :: st) w := fun res h p l e s m args below meth c D cA AD A X cells slots hB hE H locs ls hP hS hl => lv_lrem X.1 X.2.1 d hn (k res h p l e s m args below meth c D cA AD A X cells slots hB hE H locs ls hP hS hl)
theorem tz_i2l {x : Int32} (d : decode M.1 pc = .ok (.i2l, 1)) (k : Tz M inj r (pc + 1) lv (.long x.toInt64 :: st) w) : Tz M inj r pc lv (.int x :: st) w := fun res h p l e s m args below meth c D cA AD A X cells slots hB hE H locs ls hP hS hl => lv_i2l X.1 X.2.1 d rfl (k res h p l e s m args below meth c D cA AD A X cells slots hB hE H locs ls hP hS hl)
theorem tz_l2i {x : Int64} (d : decode M.1 pc = .ok (.l2i, 1)) (k : Tz M inj r (pc + 1) lv (.int x.toInt32 :: st) w) : Tz M inj r pc lv (.long x :: st) w := fun res h p l e s m args below meth c D cA AD A X cells slots hB hE H locs ls hP hS hl => lv_l2i X.1 X.2.1 d rfl (k res h p l e s m args below meth c D cA AD A X cells slots hB hE H locs ls hP hS hl)
theorem tz_iconst {n : Int} (v : Int32) (hv : Int32.ofInt n = v) (d : decode M.1 pc = .ok (.iconst n, 1)) (k : Tz M inj r (pc + 1) lv (.int v :: st) w) : Tz M inj r pc lv st w := fun res h p l e s m args below meth c D cA AD A X cells slots hB hE H locs ls hP hS hl => lv_iconst X.1 X.2.1 d hv (k res h p l e s m args below meth c D cA AD A X cells slots hB hE H locs ls hP hS hl)
theorem tz_bipush {n : Int} (v : Int32) (hv : (Int8.ofInt n).toInt32 = v) (d : decode M.1 pc = .ok (.bipush n, 2)) (k : Tz M inj r (pc + 2) lv (.int v :: st) w) : Tz M inj r pc lv st w := fun res h p l e s m args below meth c D cA AD A X cells slots hB hE H locs ls hP hS hl => lv_bipush X.1 X.2.1 d hv (k res h p l e s m args below meth c D cA AD A X cells slots hB hE H locs ls hP hS hl)
theorem tz_sipush {n : Int} (v : Int32) (hv : (Int16.ofInt n).toInt32 = v) (d : decode M.1 pc = .ok (.sipush n, 3)) (k : Tz M inj r (pc + 3) lv (.int v :: st) w) : Tz M inj r pc lv st w := fun res h p l e s m args below meth c D cA AD A X cells slots hB hE H locs ls hP hS hl => lv_sipush X.1 X.2.1 d hv (k res h p l e s m args below meth c D cA AD A X cells slots hB hE H locs ls hP hS hl)
theorem tz_lconst {n : Fin 2} (v : Int64) (hv : Int64.ofNat (n : Nat) = v) (d : decode M.1 pc = .ok (.lconst n, 1)) (k : Tz M inj r (pc + 1) lv (.long v :: st) w) : Tz M inj r pc lv st w := fun res h p l e s m args below meth c D cA AD A X cells slots hB hE H locs ls hP hS hl => lv_lconst X.1 X.2.1 d hv (k res h p l e s m args below meth c D cA AD A X cells slots hB hE H locs ls hP hS hl)
theorem tz_ldc {index : Nat} {v : Int32} (hm : Cond.constant M.2.1 index v ∈ zTb) (d : decode M.1 pc = .ok (.ldc index, 2)) (k : Tz M inj r (pc + 2) lv (.int v :: st) w) : Tz M inj r pc lv st w := fun res h p l e s m args below meth c D cA AD A X cells slots hB hE H locs ls hP hS hl => lv_ldc X.1 X.2.1 X.2.2.2.2.1 (X.2.2.2.2.2.1 _ hm) d (k res h p l e s m args below meth c D cA AD A X cells slots hB hE H locs ls hP hS hl)
theorem tz_ldc_w {index : Nat} {v : Int32} (hm : Cond.constant M.2.1 index v ∈ zTb) (d : decode M.1 pc = .ok (.ldc_w index, 3)) (k : Tz M inj r (pc + 3) lv (.int v :: st) w) : Tz M inj r pc lv st w := fun res h p l e s m args below meth c D cA AD A X cells slots hB hE H locs ls hP hS hl => lv_ldcw X.1 X.2.1 X.2.2.2.2.1 (X.2.2.2.2.2.1 _ hm) d (k res h p l e s m args below meth c D cA AD A X cells slots hB hE H locs ls hP hS hl)
theorem tz_ldc2_w {index : Nat} {v : Int64} (hm : Cond.constantLong M.2.1 index v ∈ zTb) (d : decode M.1 pc = .ok (.ldc2_w index, 3)) (k : Tz M inj r (pc + 3) lv (.long v :: st) w) : Tz M inj r pc lv st w := fun res h p l e s m args below meth c D cA AD A X cells slots hB hE H locs ls hP hS hl => lv_ldc2 X.1 X.2.1 X.2.2.2.2.1 (X.2.2.2.2.2.1 _ hm) d (k res h p l e s m args below meth c D cA AD A X cells slots hB hE H locs ls hP hS hl)
theorem tz_iload_n {n : Fin 4} {x : Int32} (q : Nat) (hl0 : lv[q]? = some ((n : Nat), .int x)) (d : decode M.1 pc = .ok (.iload_n n, 1)) (k : Tz M inj r (pc + 1) lv (.int x :: st) w) : Tz M inj r pc lv st w := fun res h p l e s m args below meth c D cA AD A X cells slots hB hE H locs ls hP hS hl => lv_iload_n X.1 X.2.1 d rfl (lv_at hl q (zel_at hl0)) (k res h p l e s m args below meth c D cA AD A X cells slots hB hE H locs ls hP hS hl)
theorem tz_iload {i : Nat} {x : Int32} (q : Nat) (hl0 : lv[q]? = some (i, .int x)) (d : decode M.1 pc = .ok (.iload i, 2)) (k : Tz M inj r (pc + 2) lv (.int x :: st) w) : Tz M inj r pc lv st w := fun res h p l e s m args below meth c D cA AD A X cells slots hB hE H locs ls hP hS hl => lv_iload X.1 X.2.1 d (lv_at hl q (zel_at hl0)) (k res h p l e s m args below meth c D cA AD A X cells slots hB hE H locs ls hP hS hl)
theorem tz_lload_n {n : Fin 4} {x : Int64} (q : Nat) (hl0 : lv[q]? = some ((n : Nat), .long x)) (d : decode M.1 pc = .ok (.lload_n n, 1)) (k : Tz M inj r (pc + 1) lv (.long x :: st) w) : Tz M inj r pc lv st w := fun res h p l e s m args below meth c D cA AD A X cells slots hB hE H locs ls hP hS hl => lv_lload_n X.1 X.2.1 d rfl (lv_at hl q (zel_at hl0)) (k res h p l e s m args below meth c D cA AD A X cells slots hB hE H locs ls hP hS hl)
theorem tz_lload {i : Nat} {x : Int64} (q : Nat) (hl0 : lv[q]? = some (i, .long x)) (d : decode M.1 pc = .ok (.lload i, 2)) (k : Tz M inj r (pc + 2) lv (.long x :: st) w) : Tz M inj r pc lv st w := fun res h p l e s m args below meth c D cA AD A X cells slots hB hE H locs ls hP hS hl => lv_lload X.1 X.2.1 d (lv_at hl q (zel_at hl0)) (k res h p l e s m args below meth c D cA AD A X cells slots hB hE H locs ls hP hS hl)
theorem tz_aload_n {n : Fin 4} {x : Nat} (q : Nat) (hl0 : lv[q]? = some ((n : Nat), .ref x)) (d : decode M.1 pc = .ok (.aload_n n, 1)) (k : Tz M inj r (pc + 1) lv (.ref x :: st) w) : Tz M inj r pc lv st w := fun res h p l e s m args below meth c D cA AD A X cells slots hB hE H locs ls hP hS hl => lv_aload_n X.1 X.2.1 d rfl (lv_at hl q (zel_at hl0)) (k res h p l e s m args below meth c D cA AD A X cells slots hB hE H locs ls hP hS hl)
theorem tz_aload {i : Nat} {x : Nat} (q : Nat) (hl0 : lv[q]? = some (i, .ref x)) (d : decode M.1 pc = .ok (.aload i, 2)) (k : Tz M inj r (pc + 2) lv (.ref x :: st) w) : Tz M inj r pc lv st w := fun res h p l e s m args below meth c D cA AD A X cells slots hB hE H locs ls hP hS hl => lv_aload X.1 X.2.1 d (lv_at hl q (zel_at hl0)) (k res h p l e s m args below meth c D cA AD A X cells slots hB hE H locs ls hP hS hl)
theorem tz_aload_nN {n : Fin 4} (q : Nat) (hl0 : lv[q]? = some ((n : Nat), .null)) (d : decode M.1 pc = .ok (.aload_n n, 1)) (k : Tz M inj r (pc + 1) lv (.null :: st) w) : Tz M inj r pc lv st w := fun res h p l e s m args below meth c D cA AD A X cells slots hB hE H locs ls hP hS hl => lv_aload_nN X.1 X.2.1 d rfl (lv_at hl q (zel_at hl0)) (k res h p l e s m args below meth c D cA AD A X cells slots hB hE H locs ls hP hS hl)
theorem tz_aloadN {i : Nat} (q : Nat) (hl0 : lv[q]? = some (i, .null)) (d : decode M.1 pc = .ok (.aload i, 2)) (k : Tz M inj r (pc + 2) lv (.null :: st) w) : Tz M inj r pc lv st w := fun res h p l e s m args below meth c D cA AD A X cells slots hB hE H locs ls hP hS hl => lv_aloadN X.1 X.2.1 d (lv_at hl q (zel_at hl0)) (k res h p l e s m args below meth c D cA AD A X cells slots hB hE H locs ls hP hS hl)
theorem tz_istore_n {n : Fin 4} {x : Int32} (lv2 : List (Nat × Value)) (hn : (n : Nat) < M.2.2.1) (he : ((n : Nat), Value.int x) :: lv.filter (fun q => !(q.1 == (n : Nat)) && !(q.1 + 1 == (n : Nat) && q.2.category == 2)) = lv2) (d : decode M.1 pc = .ok (.istore_n n, 1)) (k : Tz M inj r (pc + 1) lv2 st w) : Tz M inj r pc lv (.int x :: st) w := fun res h p l e s m args below meth c D cA AD A X cells slots hB hE H locs ls hP hS hl => lv_istore_n X.1 X.2.1 d rfl hl hn (zel_st he) (fun ls2 hl2 => k res h p l e s m args below meth c D cA AD A X cells slots hB hE H locs ls2 hP hS hl2)
theorem tz_istore {i : Nat} {x : Int32} (lv2 : List (Nat × Value)) (hn : i < M.2.2.1) (he : (i, Value.int x) :: lv.filter (fun q => !(q.1 == i) && !(q.1 + 1 == i && q.2.category == 2)) = lv2) (d : decode M.1 pc = .ok (.istore i, 2)) (k : Tz M inj r (pc + 2) lv2 st w) : Tz M inj r pc lv (.int x :: st) w := fun res h p l e s m args below meth c D cA AD A X cells slots hB hE H locs ls hP hS hl => lv_istore X.1 X.2.1 d hl hn (zel_st he) (fun ls2 hl2 => k res h p l e s m args below meth c D cA AD A X cells slots hB hE H locs ls2 hP hS hl2)
theorem tz_lstore_n {n : Fin 4} {x : Int64} (lv2 : List (Nat × Value)) (hn : (n : Nat) + 1 < M.2.2.1) (he : ((n : Nat), Value.long x) :: lv.filter (fun q => !(q.1 == (n : Nat)) && (!(q.1 == (n : Nat) + 1) && !(q.1 + 1 == (n : Nat) && q.2.category == 2))) = lv2) (d : decode M.1 pc = .ok (.lstore_n n, 1)) (k : Tz M inj r (pc + 1) lv2 st w) : Tz M inj r pc lv (.long x :: st) w := fun res h p l e s m args below meth c D cA AD A X cells slots hB hE H locs ls hP hS hl => lv_lstore_n X.1 X.2.1 d rfl hl hn (zel_st2 he) (fun ls2 hl2 => k res h p l e s m args below meth c D cA AD A X cells slots hB hE H locs ls2 hP hS hl2)
theorem tz_lstore {i : Nat} {x : Int64} (lv2 : List (Nat × Value)) (hn : i + 1 < M.2.2.1) (he : (i, Value.long x) :: lv.filter (fun q => !(q.1 == i) && (!(q.1 == i + 1) && !(q.1 + 1 == i && q.2.category == 2))) = lv2) (d : decode M.1 pc = .ok (.lstore i, 2)) (k : Tz M inj r (pc + 2) lv2 st w) : Tz M inj r pc lv (.long x :: st) w := fun res h p l e s m args below meth c D cA AD A X cells slots hB hE H locs ls hP hS hl => lv_lstore X.1 X.2.1 d hl hn (zel_st2 he) (fun ls2 hl2 => k res h p l e s m args below meth c D cA AD A X cells slots hB hE H locs ls2 hP hS hl2)
theorem tz_astore_n {n : Fin 4} {x : Nat} (lv2 : List (Nat × Value)) (hn : (n : Nat) < M.2.2.1) (he : ((n : Nat), Value.ref x) :: lv.filter (fun q => !(q.1 == (n : Nat)) && !(q.1 + 1 == (n : Nat) && q.2.category == 2)) = lv2) (d : decode M.1 pc = .ok (.astore_n n, 1)) (k : Tz M inj r (pc + 1) lv2 st w) : Tz M inj r pc lv (.ref x :: st) w := fun res h p l e s m args below meth c D cA AD A X cells slots hB hE H locs ls hP hS hl => lv_astore_n X.1 X.2.1 d rfl hl hn (zel_st he) (fun ls2 hl2 => k res h p l e s m args below meth c D cA AD A X cells slots hB hE H locs ls2 hP hS hl2)
theorem tz_astore {i : Nat} {x : Nat} (lv2 : List (Nat × Value)) (hn : i < M.2.2.1) (he : (i, Value.ref x) :: lv.filter (fun q => !(q.1 == i) && !(q.1 + 1 == i && q.2.category == 2)) = lv2) (d : decode M.1 pc = .ok (.astore i, 2)) (k : Tz M inj r (pc + 2) lv2 st w) : Tz M inj r pc lv (.ref x :: st) w := fun res h p l e s m args below meth c D cA AD A X cells slots hB hE H locs ls hP hS hl => lv_astore X.1 X.2.1 d hl hn (zel_st he) (fun ls2 hl2 => k res h p l e s m args below meth c D cA AD A X cells slots hB hE H locs ls2 hP hS hl2)
theorem tz_astore_nN {n : Fin 4} (lv2 : List (Nat × Value)) (hn : (n : Nat) < M.2.2.1) (he : ((n : Nat), Value.null) :: lv.filter (fun q => !(q.1 == (n : Nat)) && !(q.1 + 1 == (n : Nat) && q.2.category == 2)) = lv2) (d : decode M.1 pc = .ok (.astore_n n, 1)) (k : Tz M inj r (pc + 1) lv2 st w) : Tz M inj r pc lv (.null :: st) w := fun res h p l e s m args below meth c D cA AD A X cells slots hB hE H locs ls hP hS hl => lv_astore_nN X.1 X.2.1 d rfl hl hn (zel_st he) (fun ls2 hl2 => k res h p l e s m args below meth c D cA AD A X cells slots hB hE H locs ls2 hP hS hl2)
theorem tz_astoreN {i : Nat} (lv2 : List (Nat × Value)) (hn : i < M.2.2.1) (he : (i, Value.null) :: lv.filter (fun q => !(q.1 == i) && !(q.1 + 1 == i && q.2.category == 2)) = lv2) (d : decode M.1 pc = .ok (.astore i, 2)) (k : Tz M inj r (pc + 2) lv2 st w) : Tz M inj r pc lv (.null :: st) w := fun res h p l e s m args below meth c D cA AD A X cells slots hB hE H locs ls hP hS hl => lv_astoreN X.1 X.2.1 d hl hn (zel_st he) (fun ls2 hl2 => k res h p l e s m args below meth c D cA AD A X cells slots hB hE H locs ls2 hP hS hl2)
theorem tz_iinc {i : Nat} {n : Int} {x : Int32} (q : Nat) (v : Int32) (lv2 : List (Nat × Value)) (hl0 : lv[q]? = some (i, .int x)) (hv : Int32.ofInt n = v) (hn : i < M.2.2.1) (he : (i, Value.int (x + v)) :: lv.filter (fun q => !(q.1 == i) && !(q.1 + 1 == i && q.2.category == 2)) = lv2) (d : decode M.1 pc = .ok (.iinc i n, 3)) (k : Tz M inj r (pc + 3) lv2 st w) : Tz M inj r pc lv st w := fun res h p l e s m args below meth c D cA AD A X cells slots hB hE H locs ls hP hS hl => lv_iinc X.1 X.2.1 d hl (zel_at hl0) (by rw [hv]) hn (zel_st he) (fun ls2 hl2 => k res h p l e s m args below meth c D cA AD A X cells slots hB hE H locs ls2 hP hS hl2)
theorem tz_lv {lv2 : List (Nat × Value)} (ks : List Nat) (hk : lv_pick lv ks = lv2) (k : Tz M inj r pc lv2 st w) : Tz M inj r pc lv st w := fun res h p l e s m args below meth c D cA AD A X cells slots hB hE H locs ls hP hS hl => k res h p l e s m args below meth c D cA AD A X cells slots hB hE H locs ls hP hS (lv_sub hl ks (by subst hk; simp only [lv_pick, zel, List.getElem?_map, List.map_filterMap]))
theorem tz_dupi {x : Int32} (d : decode M.1 pc = .ok (.dup, 1)) (k : Tz M inj r (pc + 1) lv (.int x :: .int x :: st) w) : Tz M inj r pc lv (.int x :: st) w := fun res h p l e s m args below meth c D cA AD A X cells slots hB hE H locs ls hP hS hl => lv_dup X.1 X.2.1 d rfl (k res h p l e s m args below meth c D cA AD A X cells slots hB hE H locs ls hP hS hl)
theorem tz_dupa {x : Nat} (d : decode M.1 pc = .ok (.dup, 1)) (k : Tz M inj r (pc + 1) lv (.ref x :: .ref x :: st) w) : Tz M inj r pc lv (.ref x :: st) w := fun res h p l e s m args below meth c D cA AD A X cells slots hB hE H locs ls hP hS hl => lv_dup X.1 X.2.1 d rfl (k res h p l e s m args below meth c D cA AD A X cells slots hB hE H locs ls hP hS hl)
theorem tz_dup2 {x : Int32} {a : Nat} (d : decode M.1 pc = .ok (.dup2, 1)) (k : Tz M inj r (pc + 1) lv (.int x :: .ref a :: .int x :: .ref a :: st) w) : Tz M inj r pc lv (.int x :: .ref a :: st) w := fun res h p l e s m args below meth c D cA AD A X cells slots hB hE H locs ls hP hS hl => lv_dup2_11 X.1 X.2.1 d rfl rfl (k res h p l e s m args below meth c D cA AD A X cells slots hB hE H locs ls hP hS hl)
theorem tz_popi {x : Int32} (d : decode M.1 pc = .ok (.pop, 1)) (k : Tz M inj r (pc + 1) lv st w) : Tz M inj r pc lv (.int x :: st) w := fun res h p l e s m args below meth c D cA AD A X cells slots hB hE H locs ls hP hS hl => lv_pop X.1 X.2.1 d rfl (k res h p l e s m args below meth c D cA AD A X cells slots hB hE H locs ls hP hS hl)
theorem tz_goto {off : Int} (tgt : Nat) (d : decode M.1 pc = .ok (.goto off, 3)) (ht : (pc : Int) + off = (tgt : Int)) (k : Tz M inj r tgt lv st w) : Tz M inj r pc lv st w := fun res h p l e s m args below meth c D cA AD A X cells slots hB hE H locs ls hP hS hl => lv_goto X.1 X.2.1 d ht (k res h p l e s m args below meth c D cA AD A X cells slots hB hE H locs ls hP hS hl)
theorem tz_null (d : decode M.1 pc = .ok (.aconst_null, 1)) (k : Tz M inj r (pc + 1) lv (.null :: st) w) : Tz M inj r pc lv st w := fun res h p l e s m args below meth c D cA AD A X cells slots hB hE H locs ls hP hS hl => lv_null X.1 X.2.1 d (k res h p l e s m args below meth c D cA AD A X cells slots hB hE H locs ls hP hS hl)
theorem tz_ifnull {x : Nat} {off : Int} (d : decode M.1 pc = .ok (.ifnull off, 3)) (k : Tz M inj r (pc + 3) lv st w) : Tz M inj r pc lv (.ref x :: st) w := fun res h p l e s m args below meth c D cA AD A X cells slots hB hE H locs ls hP hS hl => lv_ifnull X.1 X.2.1 d (k res h p l e s m args below meth c D cA AD A X cells slots hB hE H locs ls hP hS hl)
theorem tz_ifnullN {off : Int} (tgt : Nat) (d : decode M.1 pc = .ok (.ifnull off, 3)) (ht : (pc : Int) + off = (tgt : Int)) (k : Tz M inj r tgt lv st w) : Tz M inj r pc lv (.null :: st) w := fun res h p l e s m args below meth c D cA AD A X cells slots hB hE H locs ls hP hS hl => lv_ifnullN X.1 X.2.1 d ht (k res h p l e s m args below meth c D cA AD A X cells slots hB hE H locs ls hP hS hl)
theorem tz_ifnonnull {x : Nat} {off : Int} (tgt : Nat) (d : decode M.1 pc = .ok (.ifnonnull off, 3)) (ht : (pc : Int) + off = (tgt : Int)) (k : Tz M inj r tgt lv st w) : Tz M inj r pc lv (.ref x :: st) w := fun res h p l e s m args below meth c D cA AD A X cells slots hB hE H locs ls hP hS hl => lv_ifnonnull X.1 X.2.1 d ht (k res h p l e s m args below meth c D cA AD A X cells slots hB hE H locs ls hP hS hl)
theorem tz_ifnonnullN {off : Int} (d : decode M.1 pc = .ok (.ifnonnull off, 3)) (k : Tz M inj r (pc + 3) lv st w) : Tz M inj r pc lv (.null :: st) w := fun res h p l e s m args below meth c D cA AD A X cells slots hB hE H locs ls hP hS hl => lv_ifnonnullN X.1 X.2.1 d (k res h p l e s m args below meth c D cA AD A X cells slots hB hE H locs ls hP hS hl)
theorem tz_icmp_eq {x y : Int32} {off : Int} {r1 r2 : Option (ρ × zW)} [dc : Decidable (x = y)] (tgt : Nat) (d : decode M.1 pc = .ok (.if_icmp .eq off, 3)) (ht : (pc : Int) + off = (tgt : Int)) (k1 : x = y → Tz M inj r1 tgt lv st w) (k2 : ¬ (x = y) → Tz M inj r2 (pc + 3) lv st w) : Tz M inj (if x = y then r1 else r2) pc lv (.int y :: .int x :: st) w := fun res h p l e s m args below meth c D cA AD A X cells slots hB hE H locs ls hP hS hl => lv_icmp_eq X.1 X.2.1 d ht (fun q => k1 q res (by rw [← h]; exact (if_pos q).symm) p l e s m args below meth c D cA AD A X cells slots hB hE H locs ls hP hS hl) (fun q => k2 q res (by rw [← h]; exact (if_neg q).symm) p l e s m args below meth c D cA AD A X cells slots hB hE H locs ls hP hS hl)
theorem tz_icmp_ne {x y : Int32} {off : Int} {r1 r2 : Option (ρ × zW)} [dc : Decidable (¬ x = y)] (tgt : Nat) (d : decode M.1 pc = .ok (.if_icmp .ne off, 3)) (ht : (pc : Int) + off = (tgt : Int)) (k1 : ¬ x = y → Tz M inj r1 tgt lv st w) (k2 : ¬ (¬ x = y) → Tz M inj r2 (pc + 3) lv st w) : Tz M inj (if ¬ x = y then r1 else r2) pc lv (.int y :: .int x :: st) w := fun res h p l e s m args below meth c D cA AD A X cells slots hB hE H locs ls hP hS hl => lv_icmp_ne X.1 X.2.1 d ht (fun q => k1 q res (by rw [← h]; exact (if_pos q).symm) p l e s m args below meth c D cA AD A X cells slots hB hE H locs ls hP hS hl) (fun q => k2 (fun z => z q) res (by rw [← h]; exact (if_neg (fun z => z q)).symm) p l e s m args below meth c D cA AD A X cells slots hB hE H locs ls hP hS hl)
theorem tz_icmp_lt {x y : Int32} {off : Int} {r1 r2 : Option (ρ × zW)} [dc : Decidable (x < y)] (tgt : Nat) (d : decode M.1 pc = .ok (.if_icmp .lt off, 3)) (ht : (pc : Int) + off = (tgt : Int)) (k1 : x < y → Tz M inj r1 tgt lv st w) (k2 : ¬ (x < y) → Tz M inj r2 (pc + 3) lv st w) : Tz M inj (if x < y then r1 else r2) pc lv (.int y :: .int x :: st) w := fun res h p l e s m args below meth c D cA AD A X cells slots hB hE H locs ls hP hS hl => lv_icmp_lt X.1 X.2.1 d ht (fun q => k1 q res (by rw [← h]; exact (if_pos q).symm) p l e s m args below meth c D cA AD A X cells slots hB hE H locs ls hP hS hl) (fun q => k2 q res (by rw [← h]; exact (if_neg q).symm) p l e s m args below meth c D cA AD A X cells slots hB hE H locs ls hP hS hl)
theorem tz_icmp_ge {x y : Int32} {off : Int} {r1 r2 : Option (ρ × zW)} [dc : Decidable (y ≤ x)] (tgt : Nat) (d : decode M.1 pc = .ok (.if_icmp .ge off, 3)) (ht : (pc : Int) + off = (tgt : Int)) (k1 : y ≤ x → Tz M inj r1 tgt lv st w) (k2 : ¬ (y ≤ x) → Tz M inj r2 (pc + 3) lv st w) : Tz M inj (if y ≤ x then r1 else r2) pc lv (.int y :: .int x :: st) w := fun res h p l e s m args below meth c D cA AD A X cells slots hB hE H locs ls hP hS hl => lv_icmp_ge X.1 X.2.1 d ht (fun q => k1 q res (by rw [← h]; exact (if_pos q).symm) p l e s m args below meth c D cA AD A X cells slots hB hE H locs ls hP hS hl) (fun q => k2 q res (by rw [← h]; exact (if_neg q).symm) p l e s m args below meth c D cA AD A X cells slots hB hE H locs ls hP hS hl)
theorem tz_icmp_gt {x y : Int32} {off : Int} {r1 r2 : Option (ρ × zW)} [dc : Decidable (y < x)] (tgt : Nat) (d : decode M.1 pc = .ok (.if_icmp .gt off, 3)) (ht : (pc : Int) + off = (tgt : Int)) (k1 : y < x → Tz M inj r1 tgt lv st w) (k2 : ¬ (y < x) → Tz M inj r2 (pc + 3) lv st w) : Tz M inj (if y < x then r1 else r2) pc lv (.int y :: .int x :: st) w := fun res h p l e s m args below meth c D cA AD A X cells slots hB hE H locs ls hP hS hl => lv_icmp_gt X.1 X.2.1 d ht (fun q => k1 q res (by rw [← h]; exact (if_pos q).symm) p l e s m args below meth c D cA AD A X cells slots hB hE H locs ls hP hS hl) (fun q => k2 q res (by rw [← h]; exact (if_neg q).symm) p l e s m args below meth c D cA AD A X cells slots hB hE H locs ls hP hS hl)
theorem tz_icmp_le {x y : Int32} {off : Int} {r1 r2 : Option (ρ × zW)} [dc : Decidable (x ≤ y)] (tgt : Nat) (d : decode M.1 pc = .ok (.if_icmp .le off, 3)) (ht : (pc : Int) + off = (tgt : Int)) (k1 : x ≤ y → Tz M inj r1 tgt lv st w) (k2 : ¬ (x ≤ y) → Tz M inj r2 (pc + 3) lv st w) : Tz M inj (if x ≤ y then r1 else r2) pc lv (.int y :: .int x :: st) w := fun res h p l e s m args below meth c D cA AD A X cells slots hB hE H locs ls hP hS hl => lv_icmp_le X.1 X.2.1 d ht (fun q => k1 q res (by rw [← h]; exact (if_pos q).symm) p l e s m args below meth c D cA AD A X cells slots hB hE H locs ls hP hS hl) (fun q => k2 q res (by rw [← h]; exact (if_neg q).symm) p l e s m args below meth c D cA AD A X cells slots hB hE H locs ls hP hS hl)
theorem tz_if_eq {x : Int32} {off : Int} {r1 r2 : Option (ρ × zW)} [dc : Decidable (x = 0)] (tgt : Nat) (d : decode M.1 pc = .ok (.ifCond .eq off, 3)) (ht : (pc : Int) + off = (tgt : Int)) (k1 : x = 0 → Tz M inj r1 tgt lv st w) (k2 : ¬ (x = 0) → Tz M inj r2 (pc + 3) lv st w) : Tz M inj (if x = 0 then r1 else r2) pc lv (.int x :: st) w := fun res h p l e s m args below meth c D cA AD A X cells slots hB hE H locs ls hP hS hl => lv_if_eq X.1 X.2.1 d ht (fun q => k1 q res (by rw [← h]; exact (if_pos q).symm) p l e s m args below meth c D cA AD A X cells slots hB hE H locs ls hP hS hl) (fun q => k2 q res (by rw [← h]; exact (if_neg q).symm) p l e s m args below meth c D cA AD A X cells slots hB hE H locs ls hP hS hl)
theorem tz_if_ne {x : Int32} {off : Int} {r1 r2 : Option (ρ × zW)} [dc : Decidable (¬ x = 0)] (tgt : Nat) (d : decode M.1 pc = .ok (.ifCond .ne off, 3)) (ht : (pc : Int) + off = (tgt : Int)) (k1 : ¬ x = 0 → Tz M inj r1 tgt lv st w) (k2 : ¬ (¬ x = 0) → Tz M inj r2 (pc + 3) lv st w) : Tz M inj (if ¬ x = 0 then r1 else r2) pc lv (.int x :: st) w := fun res h p l e s m args below meth c D cA AD A X cells slots hB hE H locs ls hP hS hl => lv_if_ne X.1 X.2.1 d ht (fun q => k1 q res (by rw [← h]; exact (if_pos q).symm) p l e s m args below meth c D cA AD A X cells slots hB hE H locs ls hP hS hl) (fun q => k2 (fun z => z q) res (by rw [← h]; exact (if_neg (fun z => z q)).symm) p l e s m args below meth c D cA AD A X cells slots hB hE H locs ls hP hS hl)
theorem tz_if_lt {x : Int32} {off : Int} {r1 r2 : Option (ρ × zW)} [dc : Decidable (x < 0)] (tgt : Nat) (d : decode M.1 pc = .ok (.ifCond .lt off, 3)) (ht : (pc : Int) + off = (tgt : Int)) (k1 : x < 0 → Tz M inj r1 tgt lv st w) (k2 : ¬ (x < 0) → Tz M inj r2 (pc + 3) lv st w) : Tz M inj (if x < 0 then r1 else r2) pc lv (.int x :: st) w := fun res h p l e s m args below meth c D cA AD A X cells slots hB hE H locs ls hP hS hl => lv_if_lt X.1 X.2.1 d ht (fun q => k1 q res (by rw [← h]; exact (if_pos q).symm) p l e s m args below meth c D cA AD A X cells slots hB hE H locs ls hP hS hl) (fun q => k2 q res (by rw [← h]; exact (if_neg q).symm) p l e s m args below meth c D cA AD A X cells slots hB hE H locs ls hP hS hl)
theorem tz_if_ge {x : Int32} {off : Int} {r1 r2 : Option (ρ × zW)} [dc : Decidable (0 ≤ x)] (tgt : Nat) (d : decode M.1 pc = .ok (.ifCond .ge off, 3)) (ht : (pc : Int) + off = (tgt : Int)) (k1 : 0 ≤ x → Tz M inj r1 tgt lv st w) (k2 : ¬ (0 ≤ x) → Tz M inj r2 (pc + 3) lv st w) : Tz M inj (if 0 ≤ x then r1 else r2) pc lv (.int x :: st) w := fun res h p l e s m args below meth c D cA AD A X cells slots hB hE H locs ls hP hS hl => lv_if_ge X.1 X.2.1 d ht (fun q => k1 q res (by rw [← h]; exact (if_pos q).symm) p l e s m args below meth c D cA AD A X cells slots hB hE H locs ls hP hS hl) (fun q => k2 q res (by rw [← h]; exact (if_neg q).symm) p l e s m args below meth c D cA AD A X cells slots hB hE H locs ls hP hS hl)
theorem tz_if_gt {x : Int32} {off : Int} {r1 r2 : Option (ρ × zW)} [dc : Decidable (0 < x)] (tgt : Nat) (d : decode M.1 pc = .ok (.ifCond .gt off, 3)) (ht : (pc : Int) + off = (tgt : Int)) (k1 : 0 < x → Tz M inj r1 tgt lv st w) (k2 : ¬ (0 < x) → Tz M inj r2 (pc + 3) lv st w) : Tz M inj (if 0 < x then r1 else r2) pc lv (.int x :: st) w := fun res h p l e s m args below meth c D cA AD A X cells slots hB hE H locs ls hP hS hl => lv_if_gt X.1 X.2.1 d ht (fun q => k1 q res (by rw [← h]; exact (if_pos q).symm) p l e s m args below meth c D cA AD A X cells slots hB hE H locs ls hP hS hl) (fun q => k2 q res (by rw [← h]; exact (if_neg q).symm) p l e s m args below meth c D cA AD A X cells slots hB hE H locs ls hP hS hl)
theorem tz_if_le {x : Int32} {off : Int} {r1 r2 : Option (ρ × zW)} [dc : Decidable (x ≤ 0)] (tgt : Nat) (d : decode M.1 pc = .ok (.ifCond .le off, 3)) (ht : (pc : Int) + off = (tgt : Int)) (k1 : x ≤ 0 → Tz M inj r1 tgt lv st w) (k2 : ¬ (x ≤ 0) → Tz M inj r2 (pc + 3) lv st w) : Tz M inj (if x ≤ 0 then r1 else r2) pc lv (.int x :: st) w := fun res h p l e s m args below meth c D cA AD A X cells slots hB hE H locs ls hP hS hl => lv_if_le X.1 X.2.1 d ht (fun q => k1 q res (by rw [← h]; exact (if_pos q).symm) p l e s m args below meth c D cA AD A X cells slots hB hE H locs ls hP hS hl) (fun q => k2 q res (by rw [← h]; exact (if_neg q).symm) p l e s m args below meth c D cA AD A X cells slots hB hE H locs ls hP hS hl)
end TZ
