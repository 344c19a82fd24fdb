theorem wk_762 : Cond.methodLink "EndSumsLaw" 7 yX7_item ∈ zTb := zTm (L := tables_1_4) zT4 42 rfl rfl
theorem wk_763 : Cond.instanceMethod yX7_item ∈ zTb := zTm (L := tables_1_4) zT4 43 rfl rfl
theorem wk_764 : Cond.selects "EndSums" yX7_item yX7_item ∈ zTb := zTm (L := tables_1_4) zT4 44 rfl rfl
theorem wk_765 : Cond.code yX7_item cX7_item 7 (some .int) ∈ zTb := zTm (L := tables_1_4) zT4 45 rfl rfl
theorem wk_835 : Cond.methodLink "EndSumsLaw" 15 yX7_row ∈ zTb := zTm (L := tables_1_4) zT4 115 rfl rfl
theorem wk_836 : Cond.instanceMethod yX7_row ∈ zTb := zTm (L := tables_1_4) zT4 116 rfl rfl
theorem wk_837 : Cond.selects "EndSums" yX7_row yX7_row ∈ zTb := zTm (L := tables_1_4) zT4 117 rfl rfl
theorem wk_838 : Cond.code yX7_row cX7_row 2 (some .long) ∈ zTb := zTm (L := tables_1_4) zT4 118 rfl rfl
theorem zTb_mem2 {w : Cond} (h : w ∈ lw_tbl) (g : goodWord w = true) : w ∈ zTb := List.mem_filter.mpr ⟨h, g⟩
theorem z_ofH {l : Launch} {y : MethodName} {ws ws' : List Cond} {rm : Room} {Pc : Array Value → State → Prop} {Qc : Array Value → State → Outcome → State → Prop} {mc ms : Nat} {free : Addr → Prop} {cc : ByteArray} {maxL : Nat} {ret : Option FieldType} {hh : List (Nat × Nat × Nat × Nat)}
    (hy : plainName y.cls = true) (hw : ws = Cond.codeWith y cc maxL ret hh :: ws')
    (body : ∀ p e s m args below meth c s₁, BodyLoose p l y (headSpec ws rm) cc maxL ret e s m args below meth c s₁ → c.maxLocals = maxL → c.exceptionTable.toList = tableOf hh → Pc args s →
      W p l e (headSpec ws rm).room s m args below meth c s.heap [] 0 0 (MQ below Qc args s mc ms free) (entryFrame m args maxL)) : Met l y ws rm Pc Qc mc ms free := by
  refine MetFree.of_bodyS (code := cc) (maxLocals := maxL) (ret := ret) hy ?_ ?_
  · intro args s m h hn
    obtain ⟨m9, meth, c, hn9, h1, h2, h3, h4, -, h5, h6, -⟩ := Cond.codeWith_spec (atoms_spec (ws := ws) h _ (by rw [hw]; exact List.mem_cons_self))
    cases hn.symm.trans hn9
    exact ⟨meth, c, h1, h2, h3, h4, h5, h6⟩
  · intro p e s m args below meth c s₁ B hml hP _
    have hh0 : s₁.heap = s.heap := by rw [B.state]; rfl
    have ht := vx_table (x := y) (hh := hh) B (atoms_spec (ws := ws) B.pre _ (by rw [hw]; exact List.mem_cons_self))
    obtain ⟨t, a1, o, b1, b2, b3⟩ := body p e s m args below meth c s₁ B hml ht hP s₁ hh0 (Stand.of_body B)
    exact ⟨t, o, a1, b1, b2, ⟨b3.1, b3.2⟩⟩
section ZX
variable {p : Program} {l : Launch} {e : Env} {R : Room} {s : State} {m : MethodId} {args : Array Value} {below : List Frame} {meth : Method} {c : Code} {H : Heap} {locs : List Loc} {cells slots : Nat} {Q : State → Prop} {pc : Nat} {ls : Array Slot} {st0 rest : List Value} {a : Array Value}
theorem z_callX {ρ : Type} {D : va_G} {cA : Nat → ClassId} {AD : Nat → Nat} {A : Nat → Prop} {ij : ρ → Option Value} {res : Option ρ × zW} (hr : vx_Run p l e R s m args below meth c H locs cells slots 1 6 (F0 m pc ls st0) rest (zXQ D cA AD (zA AD H.size) ij res a) (zXC D cA AD (zA AD H.size) res) (zA AD H.size)) (hS : va_S A s.heap H locs) (hA : ∀ q, zA AD H.size q → A q)
    (kx : res.1 = none → ∀ (H1 : Heap) (locs1 : List Loc) (q : Addr) (ce : Cell), va_P D vwCl (zws cA AD res.2) H1 → va_S A s.heap H1 locs1 → H1[q]? = some ce → ce.vm = .none → s.vm.findClass "java/util/NoSuchElementException" = some ce.cls → vx_W p l e R s m args below meth c H1 locs1 (cells + 1) (slots + 6) Q (F0 m pc ls rest) q)
    (kk : ∀ v, res.1 = some v → ∀ (H1 : Heap) (locs1 : List Loc), va_P D vwCl (zws cA AD res.2) H1 → va_S A s.heap H1 locs1 → W p l e R s m args below meth c H1 locs1 (cells + 1) (slots + 6) Q (F0 m (pc + 3) ls (((ij v).map (zev AD)).toList ++ rest))) : W p l e R s m args below meth c H locs cells slots Q (F0 m pc ls st0) := by
  intro T hT X
  rcases hr T hT X with ⟨v, st₀, t, T', L, h0, X', hL, e1, e2, ⟨v1, hv1, ⟨hv, hp⟩, hz, hk⟩, st⟩ | ⟨q, st₀, t, T', L, E, ce, h0, X', hL, e1, e2, ⟨hn, hE, hp, hz, hk⟩, hc, hcv, hcl, st⟩
  · cases hv
    rw [h0] at hz hk
    obtain ⟨t2, a1, b1⟩ := kk v1 hv1 T'.heap (locs ++ L) (by rw [e1]; exact hp)
      ⟨Nat.le_trans hS.1 (by rw [e1]; exact hz), fun q h1 h2 => by rw [e1, hk q (Nat.lt_of_lt_of_le h1 hS.1) (fun z => h2 (hA q z))]; exact hS.2.1 q h1 h2, fun q hq => by
        rcases List.mem_append.mp hq with h | h
        · exact hS.2.2 q h
        · exact hA _ (hL q h)⟩ T' rfl X'
    exact ⟨t2, st t2 a1, b1⟩
  · rw [h0] at hz hk
    subst hE
    obtain ⟨t2, a1, b1⟩ := kx hn T'.heap (locs ++ L) q ce (by rw [e1]; exact hp)
      ⟨Nat.le_trans hS.1 (by rw [e1]; exact hz), fun q h1 h2 => by rw [e1, hk q (Nat.lt_of_lt_of_le h1 hS.1) (fun z => h2 (hA q z))]; exact hS.2.1 q h1 h2, fun q hq => by
        rcases List.mem_append.mp hq with h | h
        · exact hS.2.2 q h
        · exact hA _ (hL q h)⟩ (by rw [e1]; exact hc) hcv hcl T' rfl X'
    exact ⟨t2, st.trans a1, b1⟩
end ZX
theorem zPcX_blind {D : va_G} {cA : Nat → ClassId} {AD : Nat → Nat} {w : zW} {sz : Nat} {av : List Value} : FrameBlind (va_Pc av (fun U => zPre D cA AD w sz U ∧ zXp (zA AD sz) U U.heap)) := by
  intro a U g mk q
  obtain ⟨q0, q1, q2⟩ := q
  have h1 := zPc_blind (D := D) (cA := cA) (AD := AD) (w := w) (sz := sz) (av := av) a U g mk ⟨q0, q1⟩
  exact ⟨q0, h1.2, zXp_same (u := U) (U := U.calling g mk a) rfl q2⟩
def Sm1 {ρ : Type} (y : MethodName) (M : zM) (hh : List (Nat × Nat × Nat × Nat)) (ij : ρ → Option Value) (av : List Value) (w : zW) (r : Option (ρ × zW)) : Prop :=
  ∀ (res : ρ × zW), r = some res → ∀ (l : Launch), l.stackTraces = false → ∀ (D : va_G) (cA : Nat → ClassId) (AD : Nat → Nat) (sz : Nat),
    Met l y (.codeWith y M.1 M.2.2.1 M.2.2.2.1 hh :: zTb) M.2.2.2.2 (va_Pc (zes AD av) (fun U => zPre D cA AD w sz U ∧ zXp (zA AD sz) U U.heap)) (zQ D cA AD (zA AD sz) ij res) 1 6 (zA AD sz)
theorem zX_cl2 : Cond.classLink "EndSumsLaw" 13 "java/util/NoSuchElementException" ∈ zTb := by decide +kernel
theorem zX_cast : Cond.castable "java/util/NoSuchElementException" "java/util/NoSuchElementException" ∈ lw_tbl := by decide +kernel
def QL_item : List (Nat × Instr × Nat) := [(0, .aload_n 3, 1), (1, .iconst 0, 1), (2, .aload_n 0, 1), (3, .iload_n 1, 1), (4, .iload_n 2, 1), (5, .invokevirtual 7, 3), (8, .i2l, 1), (9, .lastore, 1), (10, .goto 7, 3), (13, .astore 4, 2), (15, .iconst 1, 1), (16, .ireturn, 1), (17, .iconst 0, 1), (18, .ireturn, 1)]
theorem DL_item : ∀ q ∈ QL_item, decode cL_item q.1 = .ok (q.2.1, q.2.2) := by decide +kernel
abbrev ML_item : zM := (cL_item, "EndSumsLaw", 5, some .int, { frames := 7, cells := 1, slots := 6, locals := 148 })
def fL_item (a1 a2 : Int32) (w : zW) : Option (Int32 × zW) := match fX7_item a1 a2 w with
  | none => none
  | some (none, w1) => some (1, w1)
  | some (some v, w1) => some (0, zsL w1 92 0 v.toInt64)
set_option maxHeartbeats 4000000 in
set_option maxRecDepth 100000 in
theorem tL_item_a (a1 a2 : Int32) (w w1 : zW) (o : Option Int32) (hf : fX7_item a1 a2 w = some (o, w1)) (res : Int32 × zW) (h : (match (some (o, w1) : Option (Option Int32 × zW)) with
  | none => none
  | some (none, w1) => some (1, w1)
  | some (some v, w1) => some (0, zsL w1 92 0 v.toInt64) : Option (Int32 × zW)) = some res) (l : Launch) (htr : l.stackTraces = false) (D : va_G) (cA : Nat → ClassId) (AD : Nat → Nat) (sz : Nat) (hcast0 : ∀ s : State, (∀ w ∈ zTb, w.before #[] s = true) → True) :
    Met l yL_item (.codeWith yL_item ML_item.1 ML_item.2.2.1 ML_item.2.2.2.1 [(0, 10, 13, 13)] :: zTb) ML_item.2.2.2.2 (va_Pc (zes AD [.ref 0, .int a1, .int a2, .ref 92]) (fun U => zPre D cA AD w sz U ∧ zXp (zA AD sz) U U.heap)) (zQ D cA AD (zA AD sz) zi res) 1 6 (zA AD sz) := by
  have hM := tX7_item a1 a2 w _ hf
  refine z_ofH (cc := ML_item.1) (maxL := ML_item.2.2.1) (ret := ML_item.2.2.2.1) (by decide) rfl ?_
  intro p e s m args below meth c s₁ B hml htab hv
  obtain ⟨rfl, ⟨hsz, hP, hK, hinj, hSt, hNs⟩, hXp⟩ := hv
  subst hsz
  have hts0 := atoms_spec (ws := .codeWith yL_item ML_item.1 ML_item.2.2.1 ML_item.2.2.2.1 [(0, 10, 13, 13)] :: zTb) B.pre
  have hts : ∀ w ∈ zTb, w.before _ s = true := fun w hw => hts0 w (List.mem_cons_of_mem _ hw)
  have hx := B.exec
  have hb := B.bytes
  have hr := B.returns
  have hown : s.vm.findClass "EndSumsLaw" = some m.cls := findClass_of_methodNamed B.named
  have hlocks := B.notSynchronized
  have hcast : ∀ A9 : Array Value, (Cond.castable "java/util/NoSuchElementException" "java/util/NoSuchElementException").before A9 s = true := fun _ => zDs_use hXp.2.2.2.2 zX_cast rfl
  have hAp : zAp (zA AD s.heap.size) AD := ⟨hinj, fun k hk => Or.inl ⟨k, hk, rfl⟩⟩
  have X : zCtx ML_item p s m _ meth c D cA AD (zA AD s.heap.size) := ⟨hx, hb, hr, hml, hown, hts, hlocks, hK, hAp, fun q hq => Or.inr hq, hSt, hNs⟩
  have hl := lv_entry (zes AD [.ref 0, .int a1, .int a2, .ref 92]) (n := 5) (Nat.le_of_ble_eq_true rfl)
  rw [lg_entry_eq]
  generalize (lg_sl (zes AD [.ref 0, .int a1, .int a2, .ref 92]) ++ List.replicate (5 - (lg_sl (zes AD [.ref 0, .int a1, .int a2, .ref 92])).length) Slot.unset).toArray = ls at hl ⊢
  have hl : lv_has ls 5 [(0, .ref (AD 0)), (1, .int a1), (2, .int a2), (3, .ref (AD 92))] := hl
  refine lv_aload_n hx hb (zd DL_item 0 rfl) rfl (lv_at hl 3 rfl) ?_
  refine lv_iconst (v := 0) hx hb (zd DL_item 1 rfl) (by decide) ?_
  refine lv_aload_n hx hb (zd DL_item 2 rfl) rfl (lv_at hl 0 rfl) ?_
  refine lv_iload_n hx hb (zd DL_item 3 rfl) rfl (lv_at hl 1 rfl) ?_
  refine lv_iload_n hx hb (zd DL_item 4 rfl) rfl (lv_at hl 2 rfl) ?_
  refine z_callX (res := (o, w1)) (rest := [.int 0, .ref (AD 92)]) (vx_runV (n := 2) (b := AD 0) (As := [.int a1, .int a2]) (rest := [.int 0, .ref (AD 92)]) (C := "EndSums") (y := yX7_item) (bytes := MX7_item.1) (maxL := MX7_item.2.2.1) (ret := MX7_item.2.2.2.1) (rm := MX7_item.2.2.2.2) (mc := 1) (ms := 6) ⟨hx, hb, hml, hown, hts⟩ (hM l htr D cA AD s.heap.size) ⟨callB_of 2 hts (zTb_goodIn fun w hw => (List.mem_cons.mp hw).elim (fun z => z ▸ wk_765) id) rfl rfl rfl (hts _ wk_1) (hts _ wk_762) ⟨by decide, by decide, by decide +kernel⟩ ⟨Nat.le_of_ble_eq_true rfl, Nat.le_of_ble_eq_true rfl⟩, hts _ wk_763, hts _ wk_764⟩ ⟨zPcX_blind, va_recv (s := s) hK hP (q := (RX7, TX7, 11)) (ci := 7) rfl (zws_o zs_0), fun U hU hW => ⟨rfl, zPre_of X hP va_S.rf hU hW, ?_⟩⟩ rfl rfl hl.1 rfl (lv_room (Nat.le_of_ble_eq_true rfl)) (zd DL_item 5 rfl) ⟨Nat.le_of_ble_eq_true rfl, Nat.le_of_ble_eq_true rfl⟩) va_S.rf (zA_in X va_S.rf) ?_ ?_
  · rw [hU]; exact zXp_moved hW hXp
  · intro hn H1 locs1 q ce hP1 hS1 hc1 hcv hcl
    cases hn
    cases h
    refine vx_catch hown [] ⟨0, 10, 13, 13⟩ [] htab (fun z hz => by cases hz) (by decide) (by decide) (hts _ zX_cl2) ?_ hc1 hcv hcl ?_
    · exact hcast _
    · refine lv_astore (lv' := (4, .ref q) :: [(0, .ref (AD 0)), (1, .int a1), (2, .int a2), (3, .ref (AD 92))]) hx hb (zd DL_item 9 rfl) hl (by decide) rfl (fun ls2 hl2 => ?_)
      refine lv_iconst (v := 1) hx hb (zd DL_item 10 rfl) (by decide) ?_
      exact W.iret hx hb hr (fun t ht hW => ⟨⟨rfl, by rw [ht]; exact hP1⟩, hS1.F ht⟩) hS1.2.2 (zd DL_item 11 rfl) (hlocks := hlocks)
  · intro v hv H1 locs1 hP1 hS1
    cases hv
    cases h
    refine lv_i2l hx hb (zd DL_item 6 rfl) rfl ?_
    refine va_last hx hb hK hP1 (zD hAp) hS1 92 1 (zws_l zs_92.1) rfl (by rw [zs_92.2]; exact zin_vp (by decide)) (zd DL_item 7 rfl) (fun H2 locs2 hP2 _ hS2 => ?_)
    have hP3 : va_P D vwCl (zws cA AD (zsL w1 92 0 v.toInt64)) H2 := by
      have e9 := zst_l (cA := cA) (AD := AD) (w := w1) (j := (0 : Int32).toNatClampNeg) (v := v.toInt64) zs_92.1
      exact e9 ▸ hP2
    refine lv_goto (tgt := 17) hx hb (zd DL_item 8 rfl) (by decide) ?_
    refine lv_iconst (v := 0) hx hb (zd DL_item 12 rfl) (by decide) ?_
    exact W.iret hx hb hr (fun t ht hW => ⟨⟨rfl, by rw [ht]; exact hP3⟩, hS2.F ht⟩) hS2.2.2 (zd DL_item 13 rfl) (hlocks := hlocks)
theorem tL_item (a1 a2 : Int32) (w : zW) : Sm1 yL_item ML_item [(0, 10, 13, 13)] zi [.ref 0, .int a1, .int a2, .ref 92] w (fL_item a1 a2 w) := by
  intro res h l htr D cA AD sz
  unfold fL_item at h
  cases hf : fX7_item a1 a2 w with
  | none => rw [hf] at h; cases h
  | some q =>
    obtain ⟨o, w1⟩ := q
    rw [hf] at h
    exact tL_item_a a1 a2 w w1 o hf res h l htr D cA AD sz (fun _ _ => trivial)
def QL_row : List (Nat × Instr × Nat) := [(0, .aload_n 2, 1), (1, .iconst 0, 1), (2, .aload_n 0, 1), (3, .iload_n 1, 1), (4, .invokevirtual 15, 3), (7, .lastore, 1), (8, .goto 6, 3), (11, .astore_n 3, 1), (12, .iconst 1, 1), (13, .ireturn, 1), (14, .iconst 0, 1), (15, .ireturn, 1)]
theorem DL_row : ∀ q ∈ QL_row, decode cL_row q.1 = .ok (q.2.1, q.2.2) := by decide +kernel
abbrev ML_row : zM := (cL_row, "EndSumsLaw", 4, some .int, { frames := 7, cells := 1, slots := 6, locals := 103 })
def fL_row (a1 : Int32) (w : zW) : Option (Int32 × zW) := match fX7_row a1 w with
  | none => none
  | some (none, w1) => some (1, w1)
  | some (some v, w1) => some (0, zsL w1 92 0 v)
set_option maxHeartbeats 4000000 in
set_option maxRecDepth 100000 in
theorem tL_row_a (a1 : Int32) (w w1 : zW) (o : Option Int64) (hf : fX7_row a1 w = some (o, w1)) (res : Int32 × zW) (h : (match (some (o, w1) : Option (Option Int64 × zW)) with
  | none => none
  | some (none, w1) => some (1, w1)
  | some (some v, w1) => some (0, zsL w1 92 0 v) : Option (Int32 × zW)) = some res) (l : Launch) (htr : l.stackTraces = false) (D : va_G) (cA : Nat → ClassId) (AD : Nat → Nat) (sz : Nat) (hcast0 : ∀ s : State, (∀ w ∈ zTb, w.before #[] s = true) → True) :
    Met l yL_row (.codeWith yL_row ML_row.1 ML_row.2.2.1 ML_row.2.2.2.1 [(0, 8, 11, 13)] :: zTb) ML_row.2.2.2.2 (va_Pc (zes AD [.ref 0, .int a1, .ref 92]) (fun U => zPre D cA AD w sz U ∧ zXp (zA AD sz) U U.heap)) (zQ D cA AD (zA AD sz) zi res) 1 6 (zA AD sz) := by
  have hM := tX7_row a1 w _ hf
  refine z_ofH (cc := ML_row.1) (maxL := ML_row.2.2.1) (ret := ML_row.2.2.2.1) (by decide) rfl ?_
  intro p e s m args below meth c s₁ B hml htab hv
  obtain ⟨rfl, ⟨hsz, hP, hK, hinj, hSt, hNs⟩, hXp⟩ := hv
  subst hsz
  have hts0 := atoms_spec (ws := .codeWith yL_row ML_row.1 ML_row.2.2.1 ML_row.2.2.2.1 [(0, 8, 11, 13)] :: zTb) B.pre
  have hts : ∀ w ∈ zTb, w.before _ s = true := fun w hw => hts0 w (List.mem_cons_of_mem _ hw)
  have hx := B.exec
  have hb := B.bytes
  have hr := B.returns
  have hown : s.vm.findClass "EndSumsLaw" = some m.cls := findClass_of_methodNamed B.named
  have hlocks := B.notSynchronized
  have hcast : ∀ A9 : Array Value, (Cond.castable "java/util/NoSuchElementException" "java/util/NoSuchElementException").before A9 s = true := fun _ => zDs_use hXp.2.2.2.2 zX_cast rfl
  have hAp : zAp (zA AD s.heap.size) AD := ⟨hinj, fun k hk => Or.inl ⟨k, hk, rfl⟩⟩
  have X : zCtx ML_row p s m _ meth c D cA AD (zA AD s.heap.size) := ⟨hx, hb, hr, hml, hown, hts, hlocks, hK, hAp, fun q hq => Or.inr hq, hSt, hNs⟩
  have hl := lv_entry (zes AD [.ref 0, .int a1, .ref 92]) (n := 4) (Nat.le_of_ble_eq_true rfl)
  rw [lg_entry_eq]
  generalize (lg_sl (zes AD [.ref 0, .int a1, .ref 92]) ++ List.replicate (4 - (lg_sl (zes AD [.ref 0, .int a1, .ref 92])).length) Slot.unset).toArray = ls at hl ⊢
  have hl : lv_has ls 4 [(0, .ref (AD 0)), (1, .int a1), (2, .ref (AD 92))] := hl
  refine lv_aload_n hx hb (zd DL_row 0 rfl) rfl (lv_at hl 2 rfl) ?_
  refine lv_iconst (v := 0) hx hb (zd DL_row 1 rfl) (by decide) ?_
  refine lv_aload_n hx hb (zd DL_row 2 rfl) rfl (lv_at hl 0 rfl) ?_
  refine lv_iload_n hx hb (zd DL_row 3 rfl) rfl (lv_at hl 1 rfl) ?_
  refine z_callX (res := (o, w1)) (rest := [.int 0, .ref (AD 92)]) (vx_runV (n := 1) (b := AD 0) (As := [.int a1]) (rest := [.int 0, .ref (AD 92)]) (C := "EndSums") (y := yX7_row) (bytes := MX7_row.1) (maxL := MX7_row.2.2.1) (ret := MX7_row.2.2.2.1) (rm := MX7_row.2.2.2.2) (mc := 1) (ms := 6) ⟨hx, hb, hml, hown, hts⟩ (hM l htr D cA AD s.heap.size) ⟨callB_of 1 hts (zTb_goodIn fun w hw => (List.mem_cons.mp hw).elim (fun z => z ▸ wk_838) id) rfl rfl rfl (hts _ wk_1) (hts _ wk_835) ⟨by decide, by decide, by decide +kernel⟩ ⟨Nat.le_of_ble_eq_true rfl, Nat.le_of_ble_eq_true rfl⟩, hts _ wk_836, hts _ wk_837⟩ ⟨zPcX_blind, va_recv (s := s) hK hP (q := (RX7, TX7, 11)) (ci := 7) rfl (zws_o zs_0), fun U hU hW => ⟨rfl, zPre_of X hP va_S.rf hU hW, ?_⟩⟩ rfl rfl hl.1 rfl (lv_room (Nat.le_of_ble_eq_true rfl)) (zd DL_row 4 rfl) ⟨Nat.le_of_ble_eq_true rfl, Nat.le_of_ble_eq_true rfl⟩) va_S.rf (zA_in X va_S.rf) ?_ ?_
  · rw [hU]; exact zXp_moved hW hXp
  · intro hn H1 locs1 q ce hP1 hS1 hc1 hcv hcl
    cases hn
    cases h
    refine vx_catch hown [] ⟨0, 8, 11, 13⟩ [] htab (fun z hz => by cases hz) (by decide) (by decide) (hts _ zX_cl2) ?_ hc1 hcv hcl ?_
    · exact hcast _
    · refine lv_astore_n (lv' := (3, .ref q) :: [(0, .ref (AD 0)), (1, .int a1), (2, .ref (AD 92))]) hx hb (zd DL_row 7 rfl) rfl hl (by decide) rfl (fun ls2 hl2 => ?_)
      refine lv_iconst (v := 1) hx hb (zd DL_row 8 rfl) (by decide) ?_
      exact W.iret hx hb hr (fun t ht hW => ⟨⟨rfl, by rw [ht]; exact hP1⟩, hS1.F ht⟩) hS1.2.2 (zd DL_row 9 rfl) (hlocks := hlocks)
  · intro v hv H1 locs1 hP1 hS1
    cases hv
    cases h
    refine va_last hx hb hK hP1 (zD hAp) hS1 92 1 (zws_l zs_92.1) rfl (by rw [zs_92.2]; exact zin_vp (by decide)) (zd DL_row 5 rfl) (fun H2 locs2 hP2 _ hS2 => ?_)
    have hP3 : va_P D vwCl (zws cA AD (zsL w1 92 0 v)) H2 := by
      have e9 := zst_l (cA := cA) (AD := AD) (w := w1) (j := (0 : Int32).toNatClampNeg) (v := v) zs_92.1
      exact e9 ▸ hP2
    refine lv_goto (tgt := 14) hx hb (zd DL_row 6 rfl) (by decide) ?_
    refine lv_iconst (v := 0) hx hb (zd DL_row 10 rfl) (by decide) ?_
    exact W.iret hx hb hr (fun t ht hW => ⟨⟨rfl, by rw [ht]; exact hP3⟩, hS2.F ht⟩) hS2.2.2 (zd DL_row 11 rfl) (hlocks := hlocks)
theorem tL_row (a1 : Int32) (w : zW) : Sm1 yL_row ML_row [(0, 8, 11, 13)] zi [.ref 0, .int a1, .ref 92] w (fL_row a1 w) := by
  intro res h l htr D cA AD sz
  unfold fL_row at h
  cases hf : fX7_row a1 w with
  | none => rw [hf] at h; cases h
  | some q =>
    obtain ⟨o, w1⟩ := q
    rw [hf] at h
    exact tL_row_a a1 w w1 o hf res h l htr D cA AD sz (fun _ _ => trivial)
