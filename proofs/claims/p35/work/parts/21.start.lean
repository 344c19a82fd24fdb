theorem wk_15 : Cond.classLink "EndSumsLaw" 8 "EndSums" ∈ zTb := zTm (L := tables_1_1) zT1 15 rfl rfl
theorem wk_16 : Cond.instantiable "EndSums" 11 ∈ zTb := zTm (L := tables_1_1) zT1 16 rfl rfl
theorem wk_17 : Cond.methodLink "EndSumsLaw" 19 yX7_init ∈ zTb := zTm (L := tables_1_1) zT1 17 rfl rfl
theorem wk_18 : Cond.instanceMethod yX7_init ∈ zTb := zTm (L := tables_1_1) zT1 18 rfl rfl
theorem wk_19 : Cond.code yX7_init cX7_init 2 none ∈ zTb := zTm (L := tables_1_1) zT1 19 rfl rfl
theorem wk_851 : Cond.classLink "EndSumsLaw" 20 "EndSumsModel" ∈ zTb := zTm (L := tables_1_4) zT4 131 rfl rfl
theorem wk_852 : Cond.instantiable "EndSumsModel" 32 ∈ zTb := zTm (L := tables_1_4) zT4 132 rfl rfl
theorem wk_853 : Cond.methodLink "EndSumsLaw" 22 yX8_init ∈ zTb := zTm (L := tables_1_4) zT4 133 rfl rfl
theorem wk_854 : Cond.instanceMethod yX8_init ∈ zTb := zTm (L := tables_1_4) zT4 134 rfl rfl
theorem wk_855 : Cond.code yX8_init cX8_init 1 none ∈ zTb := zTm (L := tables_1_4) zT4 135 rfl rfl
theorem wk_129 : Cond.arrayClass .long ∈ zTb := zTm (L := tables_1_1) zT1 129 rfl rfl
theorem wk_49 : Cond.arrayClass .int ∈ zTb := zTm (L := tables_1_1) zT1 49 rfl rfl
theorem wk_11 : Cond.initialized "java/lang/Throwable" ∈ zTb := zTm (L := tables_1_1) zT1 11 rfl rfl
theorem wk_24 : Cond.instantiable "EndSums$Joining" 4 ∈ zTb := zTm (L := tables_1_1) zT1 24 rfl rfl
theorem wk_92 : Cond.instantiable "EndSums$Line" 2 ∈ zTb := zTm (L := tables_1_1) zT1 92 rfl rfl
theorem wk_98 : Cond.instantiable "EndSums$Pile" 5 ∈ zTb := zTm (L := tables_1_1) zT1 98 rfl rfl
theorem wk_30 : Cond.instantiable "EndSums$Table" 3 ∈ zTb := zTm (L := tables_1_1) zT1 30 rfl rfl
theorem wk_158 : Cond.instantiable "EndSums$Takings" 6 ∈ zTb := zTm (L := tables_1_1) zT1 158 rfl rfl
theorem wk_144 : Cond.instantiable "EndSums$Text" 2 ∈ zTb := zTm (L := tables_1_1) zT1 144 rfl rfl
theorem wk_70 : Cond.instantiable "EndSums$Works" 4 ∈ zTb := zTm (L := tables_1_1) zT1 70 rfl rfl
def zw0 : zW := (fun k j => if k = 2 then (if j = 0 then 1 else 0) else if k = 62 then (if j = 0 then 1 else 0) else if k = 74 then (if j = 8 then 1 else 0) else 0, fun _ _ => 0, fun j => j)
def zAD (h0 : Nat) (f : Nat → Nat) (h1 : Nat) (g : Nat → Nat) (q t b : Nat) : Nat → Nat := fun k => if k = 0 then h0 else if k < 74 then f k else if k = 74 then h1 else if k < 92 then g (k - 74) else if k = 92 then q else if k = 93 then t else b
abbrev zE0 (cA : Nat → ClassId) (h0 : Nat) (f : Nat → Nat) (h1 : Nat) (g : Nat → Nat) (q : Nat) : va_W := k7 cA h0 f ++ (k8 cA h1 g ++ [(q, .inl (cA 1, 1, .inr (.inl fun _ => 0)))])
set_option maxHeartbeats 40000000 in
set_option maxRecDepth 1000000 in
theorem zE0_eq (cA : Nat → ClassId) (h0 : Nat) (f : Nat → Nat) (h1 : Nat) (g : Nat → Nat) (q t b : Nat) : (zE0 cA h0 f h1 g q).set 6 (f 6, zcell cA (zAD h0 f h1 g q t b) zw0 6) = zws cA (zAD h0 f h1 g q t b) zw0 := rfl
theorem zE0_6 (cA : Nat → ClassId) (h0 : Nat) (f : Nat → Nat) (h1 : Nat) (g : Nat → Nat) (q t b : Nat) : (zE0 cA h0 f h1 g q)[6]? = some (f 6, .inl (cA 2, 4, .inr (.inr (.inr (.inr (va_up (va_up (va_up (va_up (fun _ => none) 0 (some (f 7))) 1 (some (f 18))) 2 (some (f 29))) 3 (some (f 40)))))))) := rfl
theorem zarrV_congr {c : ClassId} {n : Nat} {f g : Nat → Value} (h : ∀ i, i < n → f i = g i) : arrV c n f = arrV c n g := by
  unfold arrV
  congr 1
  apply Array.ext
  · simp
  · intro i h1 h2
    simp at h1
    simp [h i h1]
theorem zE0_P {D : va_G} {cA : Nat → ClassId} {h0 : Nat} {f : Nat → Nat} {h1 : Nat} {g : Nat → Nat} {q : Nat} (t b : Nat) {H : Heap} (h : va_P D vwCl (zE0 cA h0 f h1 g q) H) : va_P D vwCl (zws cA (zAD h0 f h1 g q t b) zw0) H := by
  intro k x hk
  rw [← zE0_eq cA h0 f h1 g q t b] at hk
  by_cases h6 : k = 6
  · subst h6
    rw [List.getElem?_set_self (List.getElem?_eq_some_iff.mp (zE0_6 cA h0 f h1 g q t b)).1] at hk
    cases hk
    have h9 := h 6 _ (zE0_6 cA h0 f h1 g q t b)
    show H[f 6]? = some (vp_cell _ _)
    rw [show H[f 6]? = some (vp_cell _ _) from h9]
    refine congrArg some ?_
    refine zarrV_congr (c := cA 2) (n := 4) (f := fun j => va_rf (va_up (va_up (va_up (va_up (fun _ => none) 0 (some (f 7))) 1 (some (f 18))) 2 (some (f 29))) 3 (some (f 40)) j)) (g := fun j => va_rf (some (zAD h0 f h1 g q t b (zlay 6 j)))) ?_
    intro i hi
    rcases (show i = 0 ∨ i = 1 ∨ i = 2 ∨ i = 3 by omega) with rfl | rfl | rfl | rfl <;> rfl
  · rw [List.getElem?_set_ne (Ne.symm h6)] at hk
    exact h k x hk
set_option maxHeartbeats 4000000 in
set_option maxRecDepth 100000 in
theorem zE0_D {A : Nat → Prop} {cA : Nat → ClassId} {h0 : Nat} {f : Nat → Nat} {h1 : Nat} {g : Nat → Nat} {q : Nat} (t b : Nat) (h : va_D A (zE0 cA h0 f h1 g q)) : zAp A (zAD h0 f h1 g q t b) := by
  have e : (zE0 cA h0 f h1 g q).map Prod.fst = (List.range 93).map (zAD h0 f h1 g q t b) := rfl
  have key : ∀ k, k < 93 → ∃ x, (zE0 cA h0 f h1 g q)[k]? = some (zAD h0 f h1 g q t b k, x) := by
    intro k hk
    have e2 : ((zE0 cA h0 f h1 g q).map Prod.fst)[k]? = some (zAD h0 f h1 g q t b k) := by rw [e]; simp [hk]
    rw [List.getElem?_map] at e2
    cases hz : (zE0 cA h0 f h1 g q)[k]? with
    | none => rw [hz] at e2; cases e2
    | some y => rw [hz] at e2; obtain ⟨y1, y2⟩ := y; cases e2; exact ⟨y2, rfl⟩
  refine ⟨fun i j hi hj hij => ?_, fun k hk => ?_⟩
  · obtain ⟨x, hx⟩ := key i hi
    obtain ⟨y, hy⟩ := key j hj
    exact h.1 i j _ _ hx hy hij
  · obtain ⟨x, hx⟩ := key k hk
    exact h.2 k _ hx
theorem zK_of {s : State} {args : Array Value} (h1 : (Cond.arrayClass .int).before args s = true) (h2 : (Cond.arrayClass .long).before args s = true) (h3 : (Cond.arrayOver (.object "EndSums$Line")).before args s = true) : ∃ cA : Nat → ClassId, ∀ (k : Nat) (q : ClassId × FieldType), (ztys cA)[k]? = some q → ArrOfT s q.1 q.2 ∧ va_RA s q.1 q.2 := by
  obtain ⟨c0, k0, p0, a1, a2, a3⟩ := Cond.arrayClass_spec h1
  obtain ⟨c1, k1, p1, b1, b2, b3⟩ := Cond.arrayClass_spec h2
  obtain ⟨p2, c2, k2, d1, d2, d3, d4, d5⟩ := Cond.arrayOver_spec h3
  refine ⟨fun k => if k = 0 then c0 else if k = 1 then c1 else c2, fun k q hk => ?_⟩
  match k, hk with
  | 0, hk => cases hk; exact ⟨fun n z => ⟨fun k h => (by cases h), k0, a2, p0, a3⟩, a1⟩
  | 1, hk => cases hk; exact ⟨fun n z => ⟨fun k h => (by cases h), k1, b2, p1, b3⟩, b1⟩
  | 2, hk => cases hk; exact ⟨fun n z => ⟨fun k h => (by cases h), k2, d3, p2, d4⟩, k2, p2, d3, d4, d1, d5⟩
  | k + 3, hk => simp [ztys] at hk
set_option maxRecDepth 100000 in
theorem zSt_of {s : State} {args : Array Value} {A : Nat → Prop} (hs : ∀ c ∈ flatC (Jvm.Cond.and given_1 narrow_1), c.before args s = true) (hl : (Cond.laysStatic "EndSums$Joining" "ARRANGEMENTS" "[I").before args s = true) (hini : (Cond.initialized "EndSums$Joining").before args s = true) (hA : ∀ a : Nat, a < s.heap.size → ¬ A a) : ∃ t : Nat, va_Z "EndSums$Joining" "ARRANGEMENTS" "[I" (.ref t) A s s.heap ∧ va_T .int t 24 (fun j => .int (zarr.getD j 0)) A s s.heap := by
  have h1 : (Cond.arrayOf (.static "EndSums$Joining" "ARRANGEMENTS" "[I") .int).before args s = true := hs _ (by decide +kernel)
  have h2 : (Cond.eq (.length (.static "EndSums$Joining" "ARRANGEMENTS" "[I")) (.int 24)).before args s = true := hs _ (by decide +kernel)
  have h3 : ∀ j, j < 24 → (Cond.eq (.elem (.static "EndSums$Joining" "ARRANGEMENTS" "[I") (.int (Int32.ofNat j))) (.int (zarr.getD j 0))) ∈ flatC (Jvm.Cond.and given_1 narrow_1) := by decide +kernel
  obtain ⟨t, ht, hT⟩ := va_Tof (N := 24) (f := fun j => .int (zarr.getD j 0)) (by decide) h1 (va_eqt h2) (fun j hj => va_eqt (hs _ (h3 j hj))) hA
  exact ⟨t, va_Zref hl hini ht hA, hT⟩
theorem zvk {own tx : String} {k : Nat} {args : Array Value} {s : State} (h : (Cond.stringRef own k tx).before args s = true) : ∃ a, vk_R own k tx a s := by
  have hcur : ∃ cur, s.vm.findClass own = some cur := by
    have h1 := h
    simp only [Cond.before, Cond.holds, Cond.value] at h1
    cases hc : s.vm.findClass own with
    | none => simp [hc] at h1
    | some cur => exact ⟨cur, rfl⟩
  obtain ⟨cur, hc⟩ := hcur
  obtain ⟨k9, cf, i, a, -, -, -, -, -, ha⟩ := Cond.stringRef_spec (args := args) hc h
  refine ⟨a, vk_R.of (A := args) ?_ ?_⟩
  · exact h
  · exact ha
set_option maxHeartbeats 40000000 in
set_option maxRecDepth 1000000 in
/-- THE LAW, from its entry: all of the machine is done; what is left is the pure run -/
theorem whole_pure (hpure : ∀ (L : Nat) (xs : Nat → Int32), L ≤ 2048 → ∃ w, fL_law_L23 L xs zFU (nI (4 * 0)) zw0 = some ((), w)) {p : Program} {e : Env} {s : State} {m : MethodId} {below : List Frame} {meth : Method} {c : Code} (l : Launch) (hflags : l.flags = flags0) {b L : Nat} {xs : Nat → Int32} (hL : L ≤ 2048) (C0 : lw_At p s m meth c b L xs) : W p l e room_1 s m #[Value.ref b] below meth c s.heap [] 0 0 (lw_Z below #[Value.ref b] s) (entryFrame m ([Value.ref b] : List Value).toArray 8) := by
  obtain ⟨hx, hb, hr, hml, hown, hts, hX, hbl, hlocks, hgv⟩ := id C0
  have htz : ∀ w ∈ zTb, w.before #[Value.ref b] s = true := fun w hw => hts w (zTb_sub w hw)
  have hNs : zNs s := by
    intro w hw hn
    cases w <;> first | (exact va_Nw.of rfl (hts _ hw)) | (cases hn)
  have hDs : zDs s := by
    intro w hw hn
    cases w <;> first | (exact va_Nw.of rfl (hts _ hw)) | (cases hn)
  have hAO : va_AO "EndSums$Line" s := va_AO.of (hts _ (zT1 _ (List.mem_of_getElem? (i := 91) rfl)))
  have hA : ∀ q : Nat, s.heap.size ≤ q → (fun q : Nat => s.heap.size ≤ q) q := fun _ h => h
  have hnA : ∀ a : Nat, a < s.heap.size → ¬ (fun q : Nat => s.heap.size ≤ q) a := fun a h => Nat.not_le.mpr h
  have hfl := flat_of_before _ hgv
  obtain ⟨tA, hZ, hT⟩ := zSt_of (A := fun q : Nat => s.heap.size ≤ q) hfl (hts _ (zT2 _ (List.mem_of_getElem? (i := 62) rfl))) (htz _ wk_2) hnA
  have hXp : zXp (fun q : Nat => s.heap.size ≤ q) s s.heap := by
    refine ⟨vx_Zqof (hts _ (zT4 _ (List.mem_of_getElem? (i := 73) rfl))) (htz _ wk_11) (hfl _ (by decide +kernel)) hnA, vx_Zqof (hts _ (zT4 _ (List.mem_of_getElem? (i := 75) rfl))) (htz _ wk_11) (hfl _ (by decide +kernel)) hnA, ?_, ?_, hDs⟩
    · have hi : (Cond.stringRef "EndSums" 241 "no such item").before #[Value.ref b] s = true := hts _ (zT4 _ (List.mem_of_getElem? (i := 85) rfl))
      exact zvk hi
    · have hi : (Cond.stringRef "EndSums" 322 "no such number").before #[Value.ref b] s = true := hts _ (zT4 _ (List.mem_of_getElem? (i := 119) rfl))
      exact zvk hi
  have htr : l.stackTraces = false := by
    show (!l.flags.contains _) = false
    rw [hflags]; decide +kernel
  obtain ⟨c0, iS0, hKn0⟩ := u_known (C := RX0) (T := TX0) (N := 4) (n := 4) htz kz0.2.1 (htz _ wk_24)
  obtain ⟨c1, iS1, hKn1⟩ := u_known (C := RX1) (T := TX1) (N := 2) (n := 2) htz kz1.2.1 (htz _ wk_92)
  obtain ⟨c2, iS2, hKn2⟩ := u_known (C := RX2) (T := TX2) (N := 5) (n := 5) htz kz2.2.1 (htz _ wk_98)
  obtain ⟨c3, iS3, hKn3⟩ := u_known (C := RX3) (T := TX3) (N := 3) (n := 3) htz kz3.2.1 (htz _ wk_30)
  obtain ⟨c4, iS4, hKn4⟩ := u_known (C := RX4) (T := TX4) (N := 6) (n := 6) htz kz4.2.1 (htz _ wk_158)
  obtain ⟨c5, iS5, hKn5⟩ := u_known (C := RX5) (T := TX5) (N := 2) (n := 2) htz kz5.2.1 (htz _ wk_144)
  obtain ⟨c6, iS6, hKn6⟩ := u_known (C := RX6) (T := TX6) (N := 4) (n := 4) htz kz6.2.1 (htz _ wk_70)
  obtain ⟨c7, iS7, hKn7⟩ := u_known (C := RX7) (T := TX7) (N := 11) (n := 11) htz kz7.2.1 (htz _ wk_16)
  obtain ⟨c8, iS8, hKn8⟩ := u_known (C := RX8) (T := TX8) (N := 32) (n := 32) htz kz8.2.1 (htz _ wk_852)
  obtain ⟨cA, hcA⟩ := zK_of (htz _ wk_49) (htz _ wk_129) (va_AO.use (A := #[Value.ref b]) hAO)
  obtain ⟨D, hKc⟩ : ∃ D : va_G, ∀ (k : Nat) (q : vw_C), vwCl[k]? = some q → u_Kn s q.1 q.2.1 q.2.2 (D.1 k) (D.2 k) := by
    refine ⟨(fun k => match k with | 0 => c0 | 1 => c1 | 2 => c2 | 3 => c3 | 4 => c4 | 5 => c5 | 6 => c6 | 7 => c7 | _ => c8, fun k => match k with | 0 => iS0 | 1 => iS1 | 2 => iS2 | 3 => iS3 | 4 => iS4 | 5 => iS5 | 6 => iS6 | 7 => iS7 | _ => iS8), ?_⟩
    intro k q hq
    match k, hq with
    | 0, hq => cases hq; exact hKn0
    | 1, hq => cases hq; exact hKn1
    | 2, hq => cases hq; exact hKn2
    | 3, hq => cases hq; exact hKn3
    | 4, hq => cases hq; exact hKn4
    | 5, hq => cases hq; exact hKn5
    | 6, hq => cases hq; exact hKn6
    | 7, hq => cases hq; exact hKn7
    | 8, hq => cases hq; exact hKn8
    | k + 9, hq => simp [vwCl] at hq
  have hS : va_S (fun q : Nat => s.heap.size ≤ q) s.heap s.heap [] := va_S.rf
  have hK : va_K D vwCl (ztys cA) s := ⟨hKc, hcA⟩
  have hP : va_P D vwCl [] s.heap := fun k q h => by simp at h
  have hD : va_D (fun q : Nat => s.heap.size ≤ q) [] := ⟨fun i j p q h => by simp at h, fun k q h => by simp at h⟩
  have hl := lv_entry ([.ref b]) (n := 8) (Nat.le_of_ble_eq_true rfl)
  rw [lg_entry_eq]
  generalize (lg_sl ([.ref b]) ++ List.replicate (8 - (lg_sl ([.ref b])).length) Slot.unset).toArray = ls at hl ⊢
  have hl : lv_has ls 8 [(0, .ref b)] := hl
  refine va_new (ci := 7) (fs := [.null, .null, .null, .null, .null, .null, .null, .null, .int 0, .null, .null]) (C := RX7) (T := TX7) (N := 11) hx hb htz kz7.2.1 tyX7 tyX7_ok hown (htz _ wk_15) (htz _ wk_16) (htz _ wk_1) hK hP hD hS hA rfl (by decide +kernel) (Nat.le_of_ble_eq_true rfl) (Nat.le_of_ble_eq_true rfl) (zd DL_law_0 0 rfl) (fun q0 H hP hD hS => ?_)
  have hP : va_P D vwCl [(q0, .inr (7, [.null, .null, .null, .null, .null, .null, .null, .null, .int 0, .null, .null]))] H := hP
  have hD : va_D (fun q : Nat => s.heap.size ≤ q) [(q0, .inr (7, [.null, .null, .null, .null, .null, .null, .null, .null, .int 0, .null, .null]))] := hD
  refine lv_dup hx hb (zd DL_law_0 1 rfl) rfl ?_
  have hPc := hP.sub (ws' := [(q0, .inr (7, [.null, .null, .null, .null, .null, .null, .null, .null, .int 0, .null, .null]))]) [0] rfl
  have hDc := hD.sub (ws' := [(q0, .inr (7, [.null, .null, .null, .null, .null, .null, .null, .null, .int 0, .null, .null]))]) [0] (by decide) rfl
  have hFc := va_free (wc := [(q0, .inr (7, [.null, .null, .null, .null, .null, .null, .null, .null, .int 0, .null, .null]))]) hD hS hA [0] rfl
  refine va_callv (va_runI (As := []) (rest := [.ref q0]) ⟨hx, hb, hml, hown, htz⟩ (nX7_init l D cA q0 H.size) ⟨callB_of 0 htz (zTb_goodIn fun w hw => (List.mem_cons.mp hw).elim (fun z => z ▸ wk_19) id) rfl rfl rfl (htz _ wk_1) (htz _ wk_17) ⟨by decide, by decide, by decide +kernel⟩ ⟨Nat.le_of_ble_eq_true rfl, Nat.le_of_ble_eq_true rfl⟩, rfl, (htz _ wk_18)⟩ ⟨zCp_blind, fun U hU hW => ⟨rfl, by rw [hU], by rw [hU]; exact hPc, va_K.moved hW.alike hK, hDc.weaken (fun _ _ _ _ => trivial), zNs_warm hW hNs, va_AO.moved hW.alike hAO⟩⟩ rfl rfl hl.1 rfl (lv_room (Nat.le_of_ble_eq_true rfl)) (zd DL_law_0 2 rfl) ⟨Nat.le_of_ble_eq_true rfl, Nat.le_of_ble_eq_true rfl⟩) hS (fun q _ h => hFc q h) hFc (fun f t H1 locs ht hvm hw hB hz1 hk1 hS => ?_)
  obtain ⟨hP1, hD1⟩ := hB
  rw [ht] at hP1
  obtain ⟨hP, hD⟩ := va_join (wr := []) (w1 := k7 cA q0 f) hP hD [0] [] rfl rfl (by decide) (by decide) hk1 hFc hP1 hD1
  generalize H1 = H at hP hS ⊢
  have hP : va_P D vwCl (k7 cA q0 f) H := hP
  have hD : va_D (fun q : Nat => s.heap.size ≤ q) (k7 cA q0 f) := hD
  refine W.widen (k := 74) (n := 3517) (Nat.le_of_ble_eq_true rfl) (Nat.le_of_ble_eq_true rfl) ?_
  refine lv_astore_n (lv' := [(1, .ref q0), (0, .ref b)]) hx hb (zd DL_law_0 3 rfl) rfl hl (by decide) rfl (fun ls hl => ?_)
  refine va_new (ci := 8) (fs := [.int 0, .int 0, .null, .null, .int 0, .int 0, .int 0, .int 0, .int 0, .int 0, .null, .long 0, .long 0, .null, .null, .null, .null, .null, .null, .null, .null, .null, .null, .int 0, .int 0, .null, .null, .int 0, .null, .null, .int 0, .int 0]) (C := RX8) (T := TX8) (N := 32) hx hb htz kz8.2.1 tyX8 tyX8_ok hown (htz _ wk_851) (htz _ wk_852) (htz _ wk_9) hK hP hD hS hA rfl (by decide +kernel) (Nat.le_of_ble_eq_true rfl) (Nat.le_of_ble_eq_true rfl) (zd DL_law_0 4 rfl) (fun q1 H hP hD hS => ?_)
  have hP : va_P D vwCl (k7 cA q0 f ++ [(q1, .inr (8, [.int 0, .int 0, .null, .null, .int 0, .int 0, .int 0, .int 0, .int 0, .int 0, .null, .long 0, .long 0, .null, .null, .null, .null, .null, .null, .null, .null, .null, .null, .int 0, .int 0, .null, .null, .int 0, .null, .null, .int 0, .int 0]))]) H := hP
  have hD : va_D (fun q : Nat => s.heap.size ≤ q) (k7 cA q0 f ++ [(q1, .inr (8, [.int 0, .int 0, .null, .null, .int 0, .int 0, .int 0, .int 0, .int 0, .int 0, .null, .long 0, .long 0, .null, .null, .null, .null, .null, .null, .null, .null, .null, .null, .int 0, .int 0, .null, .null, .int 0, .null, .null, .int 0, .int 0]))]) := hD
  refine lv_dup hx hb (zd DL_law_0 5 rfl) rfl ?_
  have hPc := hP.sub (ws' := [(q1, .inr (8, [.int 0, .int 0, .null, .null, .int 0, .int 0, .int 0, .int 0, .int 0, .int 0, .null, .long 0, .long 0, .null, .null, .null, .null, .null, .null, .null, .null, .null, .null, .int 0, .int 0, .null, .null, .int 0, .null, .null, .int 0, .int 0]))]) [74] rfl
  have hDc := hD.sub (ws' := [(q1, .inr (8, [.int 0, .int 0, .null, .null, .int 0, .int 0, .int 0, .int 0, .int 0, .int 0, .null, .long 0, .long 0, .null, .null, .null, .null, .null, .null, .null, .null, .null, .null, .int 0, .int 0, .null, .null, .int 0, .null, .null, .int 0, .int 0]))]) [74] (by decide) rfl
  have hFc := va_free (wc := [(q1, .inr (8, [.int 0, .int 0, .null, .null, .int 0, .int 0, .int 0, .int 0, .int 0, .int 0, .null, .long 0, .long 0, .null, .null, .null, .null, .null, .null, .null, .null, .null, .null, .int 0, .int 0, .null, .null, .int 0, .null, .null, .int 0, .int 0]))]) hD hS hA [74] rfl
  refine va_callv (va_runI (As := []) (rest := [.ref q1]) ⟨hx, hb, hml, hown, htz⟩ (nX8_init l D cA q1 H.size) ⟨callB_of 0 htz (zTb_goodIn fun w hw => (List.mem_cons.mp hw).elim (fun z => z ▸ wk_855) id) rfl rfl rfl (htz _ wk_9) (htz _ wk_853) ⟨by decide, by decide, by decide +kernel⟩ ⟨Nat.le_of_ble_eq_true rfl, Nat.le_of_ble_eq_true rfl⟩, rfl, (htz _ wk_854)⟩ ⟨zCp_blind, fun U hU hW => ⟨rfl, by rw [hU], by rw [hU]; exact hPc, va_K.moved hW.alike hK, hDc.weaken (fun _ _ _ _ => trivial), zNs_warm hW hNs, va_AO.moved hW.alike hAO⟩⟩ rfl rfl hl.1 rfl (lv_room (Nat.le_of_ble_eq_true rfl)) (zd DL_law_0 6 rfl) ⟨Nat.le_of_ble_eq_true rfl, Nat.le_of_ble_eq_true rfl⟩) hS (fun q _ h => hFc q h) hFc (fun g t H1 locs ht hvm hw hB hz1 hk1 hS => ?_)
  obtain ⟨hP1, hD1⟩ := hB
  rw [ht] at hP1
  obtain ⟨hP, hD⟩ := va_join (wr := k7 cA q0 f) (w1 := k8 cA q1 g) hP hD [74] (List.range 74) rfl rfl (by decide +kernel) (by decide +kernel) hk1 hFc hP1 hD1
  generalize H1 = H at hP hS ⊢
  have hP : va_P D vwCl (k7 cA q0 f ++ k8 cA q1 g) H := hP
  have hD : va_D (fun q : Nat => s.heap.size ≤ q) (k7 cA q0 f ++ k8 cA q1 g) := hD
  refine W.widen (k := 92) (n := 6964) (Nat.le_of_ble_eq_true rfl) (Nat.le_of_ble_eq_true rfl) ?_
  refine lv_astore_n (lv' := [(2, .ref q1), (1, .ref q0), (0, .ref b)]) hx hb (zd DL_law_0 7 rfl) rfl hl (by decide) rfl (fun ls hl => ?_)
  refine lv_iconst (v := 1) hx hb (zd DL_law_0 8 rfl) (by decide) ?_
  refine z_newaJ (N' := 1) hx hb (htz _ wk_129) hK hP hD hS hA (by decide) (by decide) (by decide) (Nat.le_of_ble_eq_true rfl) (Nat.le_of_ble_eq_true rfl) (zd DL_law_0 9 rfl) (fun q2 H hP hD hS => ?_)
  have hP : va_P D vwCl (zE0 cA q0 f q1 g q2) H := hP
  have hD : va_D (fun q : Nat => s.heap.size ≤ q) (zE0 cA q0 f q1 g q2) := hD
  refine W.widen (k := 93) (n := 6965) (Nat.le_of_ble_eq_true rfl) (Nat.le_of_ble_eq_true rfl) ?_
  refine lv_astore_n (lv' := [(3, .ref q2), (2, .ref q1), (1, .ref q0), (0, .ref b)]) hx hb (zd DL_law_0 10 rfl) rfl hl (by decide) rfl (fun ls hl => ?_)
  obtain ⟨w, hw⟩ := hpure L xs hL
  have hTz : Tz ML_law (zLw b L xs 0) (fL_law_L23 L xs zFU (nI (4 * 0)) zw0) 20 [(3, .ref 92), (2, .ref 74), (1, .ref 0), (0, .ref 94)] [] zw0 := by
    refine tz_iconst (0 : Int32) (by decide) (zd DL_law_0 11 rfl) ?_
    refine tz_istore (lv2 := [(4, .int 0), (3, .ref 92), (2, .ref 74), (1, .ref 0), (0, .ref 94)]) (Nat.le_of_ble_eq_true rfl) rfl (zd DL_law_0 12 rfl) ?_
    refine tz_lv (lv2 := [(0, .ref 94), (1, .ref 0), (2, .ref 74), (3, .ref 92), (4, .int 0)]) [4, 3, 2, 1, 0] rfl ?_
    exact lL_law (Nat.le_trans hL (by decide)) zFU 0 zw0 (by omega)
  have hEnd := hTz ((), w) hw p l e s m #[Value.ref b] below meth c D cA (zAD q0 f q1 g q2 tA b) (fun q : Nat => s.heap.size ≤ q) ⟨hx, hb, hr, hml, hown, htz, hlocks, hK, zE0_D tA b hD, hA, ⟨hZ, hT⟩, hNs⟩ 93 6965 ⟨Nat.le_of_ble_eq_true rfl, Nat.le_of_ble_eq_true rfl⟩ ⟨htr, hXp, hX, rfl, hbl, rfl, Nat.le_refl _, Nat.le_refl _⟩ H locs ls (zE0_P tA b hP) hS hl
  exact hEnd
