theorem wn_112 : Cond.fieldLinkNest "EndSums" 246 "EndSums$Pile" "ps" "[J" "EndSums" ∈ lw_tbl := zT1 _ (List.mem_of_getElem? (i := 112) rfl)
theorem wn_115 : Cond.fieldLinkNest "EndSums" 253 "EndSums$Pile" "qs" "[J" "EndSums" ∈ lw_tbl := zT1 _ (List.mem_of_getElem? (i := 115) rfl)
def zNSE : String := "java/util/NoSuchElementException"
def zRTE : String := "java/lang/RuntimeException"
def zXn : List String := ["java/lang/RuntimeException", "java/lang/Exception"]
theorem zNSE_fit : Bundle.fit zNSE = true := by decide +kernel
/-- the words of the throw: the kit's, but that this constructor's link has index 13 -/
def zOwn : List Cond := ((Bundle.ownAtoms "EndSums" 243 zNSE zXn).filter fun w => decide (w ≠ .code (Bundle.initS zNSE) Bundle.six 2 none) && decide (w ≠ .methodLink zNSE 7 (Bundle.initS zRTE))) ++ Bundle.passSAtoms zNSE zRTE 13 prog_17_method_4_code
theorem zOwn_T : ∀ x ∈ Bundle.throwableAtoms, x ∈ zOwn := by decide +kernel
theorem zOwn_S : ∀ x ∈ Bundle.throwableSAtoms, x ∈ zOwn := by decide +kernel
theorem zOwn_P : ∀ x ∈ Bundle.passSAtoms zNSE zRTE 13 prog_17_method_4_code, x ∈ zOwn := by decide +kernel
theorem zOwn_C : ∀ x ∈ Bundle.chainSAtoms zRTE ["java/lang/Exception"], x ∈ zOwn := by decide +kernel
theorem zchain {args : Array Value} {s : State} {pl : Platform} (hpl : pl.magicAccessors = ({} : Platform).magicAccessors) {top : MethodId} (htop : s.methodNamed? (Bundle.initS Bundle.tN) = some top) (h : ∀ c ∈ zOwn, c.before args s = true) :
    ∃ (P1 : PassC) (Ps : List PassC), Ps.length = 2 ∧ P1.LinksS pl s ∧ (∀ P, P ∈ Ps → P.LinksS pl s) ∧ s.methodNamed? (Bundle.initS zNSE) = some P1.m ∧
      P1.sup = firstOf top (Ps.map (·.toPassT)) ∧ PassesOn top (Ps.map (·.toPassT)) := by
  obtain ⟨P', Ps, hlen, L', hL, hm', hsup, hpass⟩ := Bundle.chainS (args := args) hpl htop ["java/lang/Exception"] zRTE (by decide +kernel) (by decide +kernel) (fun c hc => h c (zOwn_C c hc))
  obtain ⟨P, L, hm, hs⟩ := PassC.ofS_atoms (args := args) (s := s) hpl (X := zNSE) (Y := zRTE) (index := 13) (bytes := prog_17_method_4_code) (Bundle.fit_spec zNSE_fit).1 (Bundle.fit_spec (show Bundle.fit zRTE = true by decide +kernel)).2 (by decide +kernel) (by decide +kernel) (by decide +kernel) (by decide +kernel) (fun c hc => h c (zOwn_P c hc))
  refine ⟨P, P' :: Ps, by simp [hlen], L, ?_, hm, Option.some.inj (hs.symm.trans hm'), hsup, hpass⟩
  intro Q hQ
  rcases List.mem_cons.mp hQ with rfl | hQ
  · exact L'
  · exact hL Q hQ
set_option maxHeartbeats 4000000 in
theorem z_ctorThrow {p : Program} {l : Launch} {e : Env} {R : Room} {s : State} {m₀ : MethodId} {args : Array Value} {below : List Frame} {meth : Method} {c : Code} {W : State} {locs : List Loc} {cells slots : Nat} (X : Stand p l e R s m₀ args below meth c W locs cells slots) (hexec : p.tables.exec = Jvm.exec) (htr : e.platform.stackTraces = false)
    (hown : s.vm.findClass "EndSums" = some m₀.cls) (h : ∀ a ∈ zOwn, a.before args s = true)
    (hlocs : ∀ x ∈ locs, ∀ cell, s.heap[x.base]? = some cell → cell.vm.isStatics = false)
    {a : Addr} {cX : ClassId} {kX : Class} (hfoundX : s.vm.findClass zNSE = some cX) (hkX : s.vm.classes[cX]? = some kX) (hcell : W.heap[a]? = some (freshCell cX kX)) (hnew : s.heap.size ≤ a)
    {msg : Value} (hmsg : msg.isRef = true)
    {g : JFrame} (hg : g.method = m₀) (hsize : g.locals.size = c.maxLocals) (hlocked : g.locked = none) (hentered : g.entered = []) {rest : List Value} (hstack : g.stack = msg :: .ref a :: .ref a :: rest)
    (hd6 : decode c.code g.pc = .ok (.invokespecial 243, 3)) (hd9 : decode c.code (g.pc + 3) = .ok (.athrow, 1)) (hout : ∀ x ∈ c.exceptionTable.toList, covers x (g.pc + 3) = false)
    (hRframes : 5 < R.frames) (hRlocals : 2 * g.monitorRoom + ((Value.ref a :: rest).map fun v => v.category).sum + (13 * (2 + 1) + 42) ≤ R.locals) (hlocks : meth.locks = false) :
    ∃ U : State, Steps p.tables e below (W.setTop g) U ∧ U.status = .running ∧ Ended U below (.threw a) ∧ s.WarmedH U.vm ∧ s.sameButNew ({ U with vm := s.vm } : State) locs cells slots ∧
      ∃ ce : Cell, U.heap[a]? = some ce ∧ s.vm.findClass zNSE = some ce.cls ∧ ce.vm = .none := by
  have howns : e.platform.frameOwnsMonitors = true := by rw [X.admits.platform]
  have hfin : e.platform.finalization = false := by rw [X.admits.platform]
  have hpl : e.platform.magicAccessors = ({} : Platform).magicAccessors := by rw [X.admits.platform]
  have a' : ∀ x, x ∈ zOwn → x.holds args s none s [] = true := fun x hx => h x hx
  obtain ⟨T, Z0, L, -, Y⟩ := ThrowableC.of_atoms (args := args) howns hfin hpl (fun x hx => h x (zOwn_T x hx))
  obtain ⟨Z, M, LZ, LM, hnZ⟩ := Init0T.ofS_atoms (args := args) hpl L Y (fun x hx => h x (zOwn_S x hx))
  obtain ⟨P1, Ps, hlen, L1, hL, hP1m, hlink1, hlink⟩ := zchain (args := args) hpl hnZ h
              
  have hfound : s.vm.findClass zNSE = some P1.m.cls := findClass_of_methodNamed hP1m
  cases Option.some.inj (hfoundX.symm.trans hfound)
  obtain ⟨c1, kX', hc1, hk, hord, -, -, hn6⟩ := Cond.instantiable_spec (a' (.instantiable zNSE 6) (by decide +kernel))
  cases Option.some.inj (hc1.symm.trans hfound)
  cases Option.some.inj (hkX.symm.trans hk)
  have hsel0 : selectMethod e.platform s.vm P1.m.cls T.fill0 = .method T.fill0 := by
    obtain ⟨c2, r2, m2, q1, q2, q3, q4, -⟩ := Cond.selects_spec (a' (.selects zNSE Bundle.tFill0 Bundle.tFill0) (by decide +kernel))
    cases Option.some.inj (q1.symm.trans hfound)
    cases Option.some.inj (q2.symm.trans (State.methodFound?_of_named Y.fill0 (by decide)))
    cases Option.some.inj (q3.symm.trans Y.fill0)
    rw [Launch.admits_selectMethod X.admits]; exact q4
  have hselF : selectMethod e.platform s.vm P1.m.cls T.fill = .method T.fill := by
    obtain ⟨c2, r2, m2, q1, q2, q3, q4, -⟩ := Cond.selects_spec (a' (.selects zNSE Bundle.tFill Bundle.tFill) (by decide +kernel))
    cases Option.some.inj (q1.symm.trans hfound)
    cases Option.some.inj (q2.symm.trans (State.methodFound?_of_named Y.fill (by decide)))
    cases Option.some.inj (q3.symm.trans Y.fill)
    rw [Launch.admits_selectMethod X.admits]; exact q4
  obtain ⟨cellS0, hcS0, hiss⟩ := Y.statics
  obtain ⟨u0, hu0⟩ := Cond.staticRefV Y.unassigned L.unassignedStatic L.statics hcS0 hiss (a' (.isRef (.static Bundle.tN "UNASSIGNED_STACK" Bundle.steD)) (by decide +kernel))
  obtain ⟨sen, hsen⟩ := Cond.staticRefV Y.sentinel L.sentinelStatic L.statics hcS0 hiss (a' (.isRef (.static Bundle.tN "SUPPRESSED_SENTINEL" Bundle.listD)) (by decide +kernel))
  obtain ⟨ci198, i198, fB, hk198, hg198, ha198, hsB, -, hnB, htB, hffB⟩ := Cond.ownField (t := .object "java/lang/Object") Y.found L.cls (by decide +kernel) (a' (.fieldLink Bundle.tN 198 Bundle.tN "backtrace" "Ljava/lang/Object;") (by decide +kernel)) (a' (.lays Bundle.tN Bundle.tN "backtrace" "Ljava/lang/Object;") (by decide +kernel)) e.platform hpl
  obtain ⟨cellS, hcS', heS, -, hkeep⟩ := X.same.2.2.2.2.2 T.aS cellS0 hcS0
  have hcellS : W.heap[T.aS]? = some cellS := hcS'
  have hout' : ∀ i, (⟨T.aS, i⟩ : Loc) ∉ locs := fun i hmem => by
    have := hlocs _ hmem cellS0 hcS0
    rw [hiss] at this; cases this
  have hknownS : cellS.vm ≠ .unknown := by
    rw [heS]; intro hu
    rw [show cellS0.vm = .unknown from hu] at hiss
    cases hiss
  have hneS : T.aS ≠ a := Nat.ne_of_lt (Nat.lt_of_lt_of_le (Array.getElem?_eq_some_iff.mp hcS0).1 hnew)
  obtain ⟨iM, hffM⟩ := Y.msg
  obtain ⟨tyC, dC, hdC, hdnC⟩ := Cond.laysAt hfound hk Y.cause (a' (.lays zNSE Bundle.tN "cause" "Ljava/lang/Throwable;") (by decide +kernel))
  obtain ⟨tyS, dS, hdS, hdnS⟩ := Cond.laysAt hfound hk Y.stack (a' (.lays zNSE Bundle.tN "stackTrace" Bundle.steD) (by decide +kernel))
  obtain ⟨tyP, dP, hdP, hdnP⟩ := Cond.laysAt hfound hk Y.supp (a' (.lays zNSE Bundle.tN "suppressedExceptions" Bundle.listD) (by decide +kernel))
  obtain ⟨tyM, dM, hdM, hdnM⟩ := Cond.laysAt hfound hk hffM (a' (.lays zNSE Bundle.tN "detailMessage" "Ljava/lang/String;") (by decide +kernel))
  obtain ⟨tyB, dB, hdB, hdnB⟩ := Cond.laysAt hfound hk hffB (a' (.lays zNSE Bundle.tN "backtrace" "Ljava/lang/Object;") (by decide +kernel))
  have bC := Cond.laysApart hdB hdC hdnB hdnC (by rw [hnB, Y.causeName]; decide)
  have bS := Cond.laysApart hdB hdS hdnB hdnS (by rw [hnB, Y.stackName]; decide)
  have bP := Cond.laysApart hdB hdP hdnB hdnP (by rw [hnB, Y.suppName]; decide)
  have hskip : SkipFacts T e.platform s (fun u => u) u0 ((preparedCellV T.toThrowableT (freshCell P1.m.cls kX) a u0 sen).withEntry W.cur) :=
    ⟨{ ci198 := ci198, i198 := i198, fBack := fB }, ⟨hk198, hg198, ha198, hsB⟩, by
      have := fresh_default (c := P1.m.cls) tyB
      rw [htB] at this
      simpa [preparedCellV, Cell.setSlot, Cell.withEntry, Array.getElem?_setIfInBounds, bC, bS, bP, bC.symm, bS.symm, bP.symm, defaultValue] using this, fun _ _ => rfl⟩
                                     
  obtain ⟨tm, methC, cdC, kC, vm₁, hnC, -, -, -, -, -, -, -, hW₁, st1⟩ := Steps.initColdS (tb := p.tables) (e := e) (below := below) (s := s) (U := W) X.here hexec X.warmed hpl hown (t := Bundle.initS zNSE) rfl rfl (Bundle.fit_spec zNSE_fit).2
    (a' (.methodLink "EndSums" 243 (Bundle.initS zNSE)) (by decide +kernel)) (h (.instanceMethod (Bundle.initS zNSE)) (by decide +kernel)) (bytes := prog_17_method_4_code) (maxL := 2) (h (.code (Bundle.initS zNSE) prog_17_method_4_code 2 none) (by decide +kernel))
    (f := g) hg (a := a) (msg := msg) (rest := .ref a :: rest) hstack hd6
  cases Option.some.inj (hnC.symm.trans hP1m)
  have X₁ := X.noted hW₁
                                 
  obtain ⟨vm₂, X₂, st2⟩ := X₁.ctorMessageOffV hexec (g := { g with stack := .ref a :: rest }) hg hsize T L Z LZ M LM (P1 :: Ps)
    (fun P hP => by rcases List.mem_cons.mp hP with rfl | hP; exact L1; exact hL P hP) ⟨hlink1, hlink⟩ (u0 := u0) (sen := sen) (self := a) hmsg (cell := freshCell P1.m.cls kX) (cellS := cellS)
    hcell (fun _ => by simp) (by simp) rfl rfl hsel0 hselF hcellS hneS hknownS (by rw [hkeep _ (hout' _)]; exact hu0) (by rw [hkeep _ (hout' _)]; exact hsen)
    (Takes.of_laid hk hord tyC (by rw [Y.causeType]; rfl)) (Takes.of_laid hk hord tyS (by rw [Y.stackType]; exact fits_refV_array _ u0)) (Takes.of_laid hk hord tyP (by rw [Y.suppType]; exact fits_refV_object _ sen))
    (Takes.of_laid hk hord tyM (by rw [Y.msgType]; exact fits_refV_object _ ⟨msg, hmsg⟩)) Y.objLocals hskip htr [] hd6
    (by simp only [List.length_cons, hlen]; exact hRframes) (by simp only [List.length_cons, hlen]; exact hRlocals)
                                    
  obtain ⟨hwalk, hrun, hended, hWU, hsame⟩ := X₂.athrowLeaves hexec (g := { g with stack := .ref a :: rest, pc := g.pc + 3 }) hg hlocked hentered hout (a := a) (rest := rest) rfl hd9
  obtain ⟨c3, c4, hc3, hc4, hasg⟩ := Cond.castable_spec (a' (.castable zNSE zNSE) (by decide +kernel))
  cases Option.some.inj (hc3.symm.trans hfound)
  cases Option.some.inj (hc4.symm.trans hfound)
  have hlt : a < ((W.setVm vm₁).setVm vm₂).heap.size := (Array.getElem?_eq_some_iff.mp hcell).1
  have hU := heapAt_setCell_self (s := (W.setVm vm₁).setVm vm₂) (plainBareV T.toThrowableT (freshCell P1.m.cls kX) a u0 sen msg) hlt
  refine ⟨_, st1 _ (fun acts => ?_), hrun, hended, hWU, hsame.weaken (fun y hy hlt' => ?_) (Nat.le_refl _) (Nat.le_refl _), _, hU, ?_⟩
  · rw [doInvoke_state]
    exact st2 _ hwalk
  · rcases List.mem_append.mp hy with h1 | h1
    · exact h1
    · exfalso
      have hb : y.base = a := by
        simp only [List.mem_cons, List.not_mem_nil, or_false] at h1
        rcases h1 with rfl | rfl | rfl | rfl | rfl <;> rfl
      rw [hb] at hlt'
      exact Nat.not_lt.mpr hnew hlt'
  · exact ⟨hfound, rfl⟩
def zOwnF : List Cond := zOwn.filter vx_no
set_option maxHeartbeats 4000000 in
theorem zx_throwS {p : Program} {l : Launch} {e : Env} {R : Room} {s : State} {m : MethodId} {args : Array Value} {below : List Frame} {meth : Method} {c : Code} {H : Heap} {locs : List Loc} {cells slots : Nat} {free : Addr → Prop} {ls : Array Slot} {rest : List Value} {Qc : Array Value → State → Outcome → State → Prop} {XC : String → State → State → Prop} {cc : ByteArray} {pc : Nat} (hexec : p.tables.exec = Jvm.exec) (hb : c.code = cc) (hl : l.stackTraces = false) {text : String} {ik is mc ms sa : Nat} {A : Nat → Prop}
    (hown : s.vm.findClass "EndSums" = some m.cls) 
    (hk : (Cond.classLink "EndSums" ik zNSE).before args s = true) (hini : (Cond.initialized zNSE).before args s = true) (hstr : vk_R "EndSums" is text sa s) (hat : ∀ w ∈ zOwnF, w.before args s = true)
    (hgood : ∀ w ∈ Cond.classLink "EndSums" ik zNSE :: Cond.initialized zNSE :: zOwnF, vx_ot w = true)
    (hU : vx_Zq Bundle.tN "UNASSIGNED_STACK" Bundle.steD A s s.heap) (hN : vx_Zq Bundle.tN "SUPPRESSED_SENTINEL" Bundle.listD A s s.heap) (hS : va_S A s.heap H locs) (hsize : ls.size = c.maxLocals)
    (d0 : decode cc pc = .ok (.new ik, 3)) (d3 : decode cc (pc + 3) = .ok (.dup, 1)) (d4 : decode cc (pc + 4) = .ok (.ldc is, 2)) (d6 : decode cc (pc + 6) = .ok (.invokespecial 243, 3)) (d9 : decode cc (pc + 9) = .ok (.athrow, 1))
    (hout : ∀ x ∈ c.exceptionTable.toList, covers x (pc + 9) = false)
    (hRframes : 5 < R.frames) (hRlocals : (rest.map fun v => v.category).sum + (13 * (2 + 1) + 43) ≤ R.locals) (hRcells : cells + 1 ≤ R.cells) (hRslots : slots + 6 ≤ R.slots) (hlocks : meth.locks = false)
    (hx : ∀ t : State, s.vm.Alike t.vm → H.size ≤ t.heap.size → (∀ q : Nat, q < H.size → t.heap[q]? = H[q]?) → XC zNSE s t)
    (hf : ∀ z ∈ locs, free z.base) (hc : cells + 1 ≤ mc) (hs : slots + 6 ≤ ms) :
    W p l e R s m args below meth c H locs cells slots (vx_MQ below Qc XC args s mc ms free) (F0 m pc ls rest) := by
  intro T hT X
  have htr : e.platform.stackTraces = false := (show e.platform.stackTraces = l.stackTraces by rw [X.admits.platform]).trans hl
  have Y := vx_rebase X (R' := { frames := R.frames, locals := R.locals, cells := 1, slots := 6 }) (Nat.le_refl _) (Nat.le_refl _) hRcells hRslots
  obtain ⟨s', hA⟩ : ∃ z, z = (T.setVm s.vm).setFrames (.invoking m args :: below) := ⟨_, rfl⟩
  rw [← hA] at Y
  have hvm : s'.vm = s.vm := by rw [hA]; rfl
  have hhp : s'.heap = H := by rw [hA]; exact hT
  have hW0 : s.WarmedH s'.vm := by rw [hvm]; exact State.WarmedH.refl s
  have hat' : ∀ w ∈ zOwnF, w.before args s' = true := fun w hw => vx_ot_at hW0 hvm.symm (hgood w (List.mem_cons_of_mem _ (List.mem_cons_of_mem _ hw))) (hat w hw)
  have hk' : (Cond.classLink "EndSums" ik zNSE).before args s' = true := vx_ot_at hW0 hvm.symm (hgood _ List.mem_cons_self) hk
  have hini' : (Cond.initialized zNSE).before args s' = true := vx_ot_at hW0 hvm.symm (hgood _ (List.mem_cons_of_mem _ List.mem_cons_self)) hini
  have hU' : vx_Zq Bundle.tN "UNASSIGNED_STACK" Bundle.steD A s' s'.heap := by rw [hhp]; exact vx_Zq.moved hW0.alike (hU.kept hS.2.1)
  have hN' : vx_Zq Bundle.tN "SUPPRESSED_SENTINEL" Bundle.listD A s' s'.heap := by rw [hhp]; exact vx_Zq.moved hW0.alike (hN.kept hS.2.1)
  have h : ∀ w ∈ zOwn, w.before args s' = true := vx_own hat' (vx_isRefq hU'.1) (vx_isRefq hN'.1) hU'.2.word hN'.2.word
  have hown' : s'.vm.findClass "EndSums" = some m.cls := by rw [hvm]; exact hown
  have hins : (Cond.instantiable zNSE 6).before args s' = true := h _ (by decide +kernel)
  obtain ⟨vm₁, cX, kX, hfX, hkX, -, -, X₁, st1⟩ := Y.newCold hexec (own := "EndSums") (C := zNSE) (index := ik) (n := 6) hown' hk' hins hini'
    (g := F0 m pc ls rest) rfl (by rw [hb]; exact d0) (Nat.le_refl _) (Nat.le_refl _)
  generalize hT1 : (T.setVm vm₁).pushCell { cls := cX, slots := kX.instanceTypes.map defaultValue, vm := .none } = T1 at X₁ st1
  have hcat : (Value.ref T.heap.size).category = 1 := rfl
  have hcellA : T1.heap[T.heap.size]? = some (freshCell cX kX) := by rw [← hT1]; exact State.heap_pushCell_size _ _
  have d3' : decode c.code (pc + 3) = .ok (.dup, 1) := by rw [hb]; exact d3
  have d4' : decode c.code (pc + 4) = .ok (.ldc is, 2) := by rw [hb]; exact d4
  have hstr' : vk_R "EndSums" is text sa s' := vk_R.warm hW0 hstr
  obtain ⟨U, hsteps, hrun, hend, hW, hsame, ce, hce, hO⟩ := z_ctorThrow X₁ hexec htr hown' h (fun x hx => nomatch hx) hfX hkX hcellA (by rw [hhp, hT]; exact Nat.le_refl _) (msg := .ref sa) rfl
    (g := { method := m, pc := pc + 6, locals := ls, stack := .ref sa :: .ref T.heap.size :: .ref T.heap.size :: rest, locked := none }) rfl hsize rfl rfl (rest := rest) rfl
    (by rw [hb]; exact d6) (by rw [hb]; exact d9) hout hRframes (by simp only [List.map_cons, List.sum_cons, hcat]; omega) hlocks
  obtain ⟨f1, f2⟩ := vx_frame hsame
  rw [hhp] at f1 f2
  have hWs : s.WarmedH U.vm := State.WarmedH.trans hW0 hW
  have hcl : s.vm.findClass zNSE = some ce.cls := by
    have h9 := hO.1
    rw [hvm] at h9
    exact h9
  have hall : s.sameButNew ({ U with vm := s.vm } : State) locs mc ms := by
    subst hA
    obtain ⟨e1, e2⟩ := hsame
    rw [State.setFrames_setFrames] at e1
    have h2 : (T.setVm s.vm).sameButNew ({ U with vm := s.vm } : State) [] (0 + 1) (0 + 6) := ⟨e1, e2⟩
    have h3 := X.same.trans h2
    rw [List.append_nil] at h3
    exact h3.mono hc hs
  refine ⟨U, ?_, .threw T.heap.size, hrun, hend, Or.inr ⟨T.heap.size, rfl, zNSE, ce, locs, hx U hWs.alike f1 (fun q hq => f2 q hq (fun z hz => nomatch hz)), hce, hO.2, hcl, hWs, hall, hf⟩⟩
  refine st1 _ ?_
  show Steps p.tables e below (T1.setTop { method := m, pc := pc + 3, locals := ls, stack := .ref T.heap.size :: rest, locked := none }) _
  jvm_step X₁.here [X₁.here.top, hexec, d3', Value.category]
  exact X₁.ldcString hexec (own := "EndSums") (text := text) (index := is) (a := sa) hown' hstr'.1 hstr'.2
    (g := { method := m, pc := pc + 4, locals := ls, stack := .ref T.heap.size :: .ref T.heap.size :: rest, locked := none }) rfl d4' _ hsteps
set_option maxHeartbeats 4000000 in
theorem zx_throwSW {p : Program} {l : Launch} {e : Env} {R : Room} {s : State} {m : MethodId} {args : Array Value} {below : List Frame} {meth : Method} {c : Code} {H : Heap} {locs : List Loc} {cells slots : Nat} {free : Addr → Prop} {ls : Array Slot} {rest : List Value} {Qc : Array Value → State → Outcome → State → Prop} {XC : String → State → State → Prop} {cc : ByteArray} {pc : Nat} (hexec : p.tables.exec = Jvm.exec) (hb : c.code = cc) (hl : l.stackTraces = false) {text : String} {ik is mc ms sa : Nat} {A : Nat → Prop}
    (hown : s.vm.findClass "EndSums" = some m.cls) 
    (hk : (Cond.classLink "EndSums" ik zNSE).before args s = true) (hini : (Cond.initialized zNSE).before args s = true) (hstr : vk_R "EndSums" is text sa s) (hat : ∀ w ∈ zOwnF, w.before args s = true)
    (hgood : ∀ w ∈ Cond.classLink "EndSums" ik zNSE :: Cond.initialized zNSE :: zOwnF, vx_ot w = true)
    (hU : vx_Zq Bundle.tN "UNASSIGNED_STACK" Bundle.steD A s s.heap) (hN : vx_Zq Bundle.tN "SUPPRESSED_SENTINEL" Bundle.listD A s s.heap) (hS : va_S A s.heap H locs) (hsize : ls.size = c.maxLocals)
    (d0 : decode cc pc = .ok (.new ik, 3)) (d3 : decode cc (pc + 3) = .ok (.dup, 1)) (d4 : decode cc (pc + 4) = .ok (.ldc_w is, 3)) (d7 : decode cc (pc + 7) = .ok (.invokespecial 243, 3)) (d10 : decode cc (pc + 10) = .ok (.athrow, 1))
    (hout : ∀ x ∈ c.exceptionTable.toList, covers x (pc + 10) = false)
    (hRframes : 5 < R.frames) (hRlocals : (rest.map fun v => v.category).sum + (13 * (2 + 1) + 43) ≤ R.locals) (hRcells : cells + 1 ≤ R.cells) (hRslots : slots + 6 ≤ R.slots) (hlocks : meth.locks = false)
    (hx : ∀ t : State, s.vm.Alike t.vm → H.size ≤ t.heap.size → (∀ q : Nat, q < H.size → t.heap[q]? = H[q]?) → XC zNSE s t)
    (hf : ∀ z ∈ locs, free z.base) (hc : cells + 1 ≤ mc) (hs : slots + 6 ≤ ms) :
    W p l e R s m args below meth c H locs cells slots (vx_MQ below Qc XC args s mc ms free) (F0 m pc ls rest) := by
  intro T hT X
  have htr : e.platform.stackTraces = false := (show e.platform.stackTraces = l.stackTraces by rw [X.admits.platform]).trans hl
  have Y := vx_rebase X (R' := { frames := R.frames, locals := R.locals, cells := 1, slots := 6 }) (Nat.le_refl _) (Nat.le_refl _) hRcells hRslots
  obtain ⟨s', hA⟩ : ∃ z, z = (T.setVm s.vm).setFrames (.invoking m args :: below) := ⟨_, rfl⟩
  rw [← hA] at Y
  have hvm : s'.vm = s.vm := by rw [hA]; rfl
  have hhp : s'.heap = H := by rw [hA]; exact hT
  have hW0 : s.WarmedH s'.vm := by rw [hvm]; exact State.WarmedH.refl s
  have hat' : ∀ w ∈ zOwnF, w.before args s' = true := fun w hw => vx_ot_at hW0 hvm.symm (hgood w (List.mem_cons_of_mem _ (List.mem_cons_of_mem _ hw))) (hat w hw)
  have hk' : (Cond.classLink "EndSums" ik zNSE).before args s' = true := vx_ot_at hW0 hvm.symm (hgood _ List.mem_cons_self) hk
  have hini' : (Cond.initialized zNSE).before args s' = true := vx_ot_at hW0 hvm.symm (hgood _ (List.mem_cons_of_mem _ List.mem_cons_self)) hini
  have hU' : vx_Zq Bundle.tN "UNASSIGNED_STACK" Bundle.steD A s' s'.heap := by rw [hhp]; exact vx_Zq.moved hW0.alike (hU.kept hS.2.1)
  have hN' : vx_Zq Bundle.tN "SUPPRESSED_SENTINEL" Bundle.listD A s' s'.heap := by rw [hhp]; exact vx_Zq.moved hW0.alike (hN.kept hS.2.1)
  have h : ∀ w ∈ zOwn, w.before args s' = true := vx_own hat' (vx_isRefq hU'.1) (vx_isRefq hN'.1) hU'.2.word hN'.2.word
  have hown' : s'.vm.findClass "EndSums" = some m.cls := by rw [hvm]; exact hown
  have hins : (Cond.instantiable zNSE 6).before args s' = true := h _ (by decide +kernel)
  obtain ⟨vm₁, cX, kX, hfX, hkX, -, -, X₁, st1⟩ := Y.newCold hexec (own := "EndSums") (C := zNSE) (index := ik) (n := 6) hown' hk' hins hini'
    (g := F0 m pc ls rest) rfl (by rw [hb]; exact d0) (Nat.le_refl _) (Nat.le_refl _)
  generalize hT1 : (T.setVm vm₁).pushCell { cls := cX, slots := kX.instanceTypes.map defaultValue, vm := .none } = T1 at X₁ st1
  have hcat : (Value.ref T.heap.size).category = 1 := rfl
  have hcellA : T1.heap[T.heap.size]? = some (freshCell cX kX) := by rw [← hT1]; exact State.heap_pushCell_size _ _
  have d3' : decode c.code (pc + 3) = .ok (.dup, 1) := by rw [hb]; exact d3
  have d4' : decode c.code (pc + 4) = .ok (.ldc_w is, 3) := by rw [hb]; exact d4
  have hstr' : vk_R "EndSums" is text sa s' := vk_R.warm hW0 hstr
  obtain ⟨U, hsteps, hrun, hend, hW, hsame, ce, hce, hO⟩ := z_ctorThrow X₁ hexec htr hown' h (fun x hx => nomatch hx) hfX hkX hcellA (by rw [hhp, hT]; exact Nat.le_refl _) (msg := .ref sa) rfl
    (g := { method := m, pc := pc + 7, locals := ls, stack := .ref sa :: .ref T.heap.size :: .ref T.heap.size :: rest, locked := none }) rfl hsize rfl rfl (rest := rest) rfl
    (by rw [hb]; exact d7) (by rw [hb]; exact d10) hout hRframes (by simp only [List.map_cons, List.sum_cons, hcat]; omega) hlocks
  obtain ⟨f1, f2⟩ := vx_frame hsame
  rw [hhp] at f1 f2
  have hWs : s.WarmedH U.vm := State.WarmedH.trans hW0 hW
  have hcl : s.vm.findClass zNSE = some ce.cls := by
    have h9 := hO.1
    rw [hvm] at h9
    exact h9
  have hall : s.sameButNew ({ U with vm := s.vm } : State) locs mc ms := by
    subst hA
    obtain ⟨e1, e2⟩ := hsame
    rw [State.setFrames_setFrames] at e1
    have h2 : (T.setVm s.vm).sameButNew ({ U with vm := s.vm } : State) [] (0 + 1) (0 + 6) := ⟨e1, e2⟩
    have h3 := X.same.trans h2
    rw [List.append_nil] at h3
    exact h3.mono hc hs
  refine ⟨U, ?_, .threw T.heap.size, hrun, hend, Or.inr ⟨T.heap.size, rfl, zNSE, ce, locs, hx U hWs.alike f1 (fun q hq => f2 q hq (fun z hz => nomatch hz)), hce, hO.2, hcl, hWs, hall, hf⟩⟩
  refine st1 _ ?_
  show Steps p.tables e below (T1.setTop { method := m, pc := pc + 3, locals := ls, stack := .ref T.heap.size :: rest, locked := none }) _
  jvm_step X₁.here [X₁.here.top, hexec, d3', Value.category]
  exact X₁.ldcStringW hexec (own := "EndSums") (text := text) (index := is) (a := sa) hown' hstr'.1 hstr'.2
    (g := { method := m, pc := pc + 4, locals := ls, stack := .ref T.heap.size :: .ref T.heap.size :: rest, locked := none }) rfl d4' _ hsteps

def zDC : Cond → Bool
  | .declares .. => true
  | .castable .. => true
  | _ => false
def zDs (U : State) : Prop := ∀ w ∈ lw_tbl, zDC w = true → va_Nw w U
theorem zDs_warm {s U : State} (hW : s.WarmedH U.vm) (h : zDs s) : zDs U := by
  intro w hw hn
  cases w <;> first | (exact va_Nw.warmD hW (h _ hw hn)) | (exact va_Nw.warmC hW (h _ hw hn)) | (cases hn)
theorem zDs_same {s U : State} (hvm : s.vm = U.vm) (h : zDs s) : zDs U := by
  intro w hw hn
  cases w <;> first | (exact va_Nw.same rfl hvm (h _ hw hn)) | (cases hn)
theorem zDs_use {A : Array Value} {U : State} (h : zDs U) {w : Cond} (hw : w ∈ lw_tbl) (hn : zDC w = true) : w.before A U = true := by
  cases w <;> first | (exact va_Nw.use rfl (h _ hw hn)) | (cases hn)
def zXp (A : Nat → Prop) (U : State) (H : Heap) : Prop := vx_Zq Bundle.tN "UNASSIGNED_STACK" Bundle.steD A U H ∧ vx_Zq Bundle.tN "SUPPRESSED_SENTINEL" Bundle.listD A U H ∧ (∃ sa, vk_R "EndSums" 241 "no such item" sa U) ∧ (∃ sa, vk_R "EndSums" 322 "no such number" sa U) ∧ zDs U
theorem zXp_moved {A : Nat → Prop} {u U : State} {H : Heap} (hW : u.WarmedH U.vm) (h : zXp A u H) : zXp A U H := by
  obtain ⟨h1, h2, ⟨s1, h3⟩, ⟨s2, h4⟩, h5⟩ := h
  exact ⟨vx_Zq.moved hW.alike h1, vx_Zq.moved hW.alike h2, ⟨s1, vk_R.warm hW h3⟩, ⟨s2, vk_R.warm hW h4⟩, zDs_warm hW h5⟩
theorem zXp_kept {A : Nat → Prop} {U : State} {H H1 : Heap} (h : zXp A U H) (hq : ∀ a : Nat, a < H.size → ¬ A a → H1[a]? = H[a]?) : zXp A U H1 := ⟨vx_Zq.kept h.1 hq, vx_Zq.kept h.2.1 hq, h.2.2⟩
theorem zXp_narrow {A B : Nat → Prop} {U : State} {H : Heap} (h : zXp A U H) (hAB : ∀ q, B q → A q) : zXp B U H := ⟨vx_Zq.narrow h.1 hAB, vx_Zq.narrow h.2.1 hAB, h.2.2⟩
theorem zXp_same {A : Nat → Prop} {u U : State} {H : Heap} (hvm : u.vm = U.vm) (h : zXp A u H) : zXp A U H := by
  obtain ⟨h1, h2, ⟨s1, h3⟩, ⟨s2, h4⟩, h5⟩ := h
  have ha : u.vm.Alike U.vm := hvm ▸ Vm.Alike.refl u.vm
  exact ⟨vx_Zq.moved ha h1, vx_Zq.moved ha h2, ⟨s1, vk_R.same hvm.symm h3⟩, ⟨s2, vk_R.same hvm.symm h4⟩, zDs_same hvm h5⟩
def zXQ {ρ : Type} (D : va_G) (cA : Nat → ClassId) (AD : Nat → Nat) (A : Nat → Prop) (ij : ρ → Option Value) (res : Option ρ × zW) : Array Value → State → Outcome → State → Prop := fun a st o t => ∃ v, res.1 = some v ∧ zQ D cA AD A ij (v, res.2) a st o t
def zXC {ρ : Type} (D : va_G) (cA : Nat → ClassId) (AD : Nat → Nat) (A : Nat → Prop) (res : Option ρ × zW) : String → State → State → Prop := fun E st t => res.1 = none ∧ E = "java/util/NoSuchElementException" ∧ va_P D vwCl (zws cA AD res.2) t.heap ∧ va_F A st t
/-- an end that may throw -/
def zXe {ρ : Type} (ij : ρ → Option Value) : zEnd (Option ρ) := (fun l s c _ A cells slots => cells = 0 ∧ slots = 0 ∧ l.stackTraces = false ∧ (∀ x ∈ c.exceptionTable.toList, False) ∧ zXp A s s.heap, fun res D cA AD A below args s => vx_MQ below (zXQ D cA AD A ij res) (zXC D cA AD A res) args s 1 6 A)
def SmX {ρ : Type} (y : MethodName) (M : zM) (ij : ρ → Option Value) (av : List Value) (w : zW) (r : Option (Option ρ × zW)) : Prop :=
  ∀ (res : Option ρ × zW), r = some res → ∀ (l : Launch), l.stackTraces = false → ∀ (D : va_G) (cA : Nat → ClassId) (AD : Nat → Nat) (sz : Nat),
    vx_Met l y (.code y M.1 M.2.2.1 M.2.2.2.1 :: zTb) M.2.2.2.2 (va_Pc (zes AD av) (fun U => zPre D cA AD w sz U ∧ zXp (zA AD sz) U U.heap)) (zXQ D cA AD (zA AD sz) ij res) (zXC D cA AD (zA AD sz) res) 1 6 (zA AD sz)
theorem zX_hat0 : ∀ w ∈ zOwnF, w ∈ lw_tbl ∧ (goodWord w = true ∨ zDC w = true) := by decide +kernel
theorem zX_hat {args : Array Value} {s : State} (h1 : ∀ w ∈ zTb, w.before args s = true) (h2 : zDs s) : ∀ w ∈ zOwnF, w.before args s = true := by
  intro w hw
  obtain ⟨a, b⟩ := zX_hat0 w hw
  rcases b with b | b
  · exact h1 w (List.mem_filter.mpr ⟨a, b⟩)
  · exact zDs_use h2 a b
theorem zX_good : ∀ w ∈ Cond.classLink "EndSums" 239 zNSE :: Cond.initialized zNSE :: zOwnF, vx_ot w = true := by decide +kernel
theorem zX_cl : Cond.classLink "EndSums" 239 "java/util/NoSuchElementException" ∈ zTb := by decide +kernel
theorem zX_in : Cond.initialized "java/util/NoSuchElementException" ∈ zTb := by decide +kernel
set_option maxHeartbeats 2000000 in
theorem tz_throw {ρ : Type} {M : zM} {ij : ρ → Option Value} {pc : Nat} {lv : List (Nat × Value)} {w : zW} (hM : M.2.1 = "EndSums") (d0 : decode M.1 pc = .ok (.new 239, 3)) (d3 : decode M.1 (pc + 3) = .ok (.dup, 1)) (d4 : decode M.1 (pc + 4) = .ok (.ldc 241, 2)) (d6 : decode M.1 (pc + 6) = .ok (.invokespecial 243, 3)) (d9 : decode M.1 (pc + 9) = .ok (.athrow, 1)) (hf : 6 ≤ M.2.2.2.2.frames) (hlo : 82 ≤ M.2.2.2.2.locals) (hc1 : 1 ≤ M.2.2.2.2.cells) (hs1 : 6 ≤ M.2.2.2.2.slots) : Tz M (zXe ij) (some (none, w)) pc lv [] w := by
  intro res h p l e s m args below meth c D cA AD A X cells slots hB hE H locs ls hP hS hl
  cases h
  obtain ⟨rfl, rfl, htr, hno, hXp⟩ := hE
  obtain ⟨sa, hsa⟩ := hXp.2.2.1
  have hown : s.vm.findClass "EndSums" = some m.cls := by rw [← hM]; exact X.2.2.2.2.1
  refine zx_throwS (ik := 239) (is := 241) (mc := 1) (ms := 6) (sa := sa) X.1 X.2.1 htr hown (X.2.2.2.2.2.1 _ zX_cl) (X.2.2.2.2.2.1 _ zX_in) hsa (zX_hat X.2.2.2.2.2.1 hXp.2.2.2.2) zX_good hXp.1 hXp.2.1 hS (by rw [hl.1, X.2.2.2.1]) d0 d3 d4 d6 d9 (fun x hx => (hno x hx).elim) (Nat.lt_of_lt_of_le (by decide) hf) (Nat.le_trans (Nat.le_of_ble_eq_true rfl) hlo) (by omega) (by omega) X.2.2.2.2.2.2.1 ?_ hS.2.2 (Nat.le_refl 1) (Nat.le_refl 6)
  intro t _ h2 h3
  exact ⟨rfl, rfl, hP.kept (fun k q hk => h3 q.1 (hP k q hk).lt), Nat.le_trans hS.1 h2, fun q h4 h5 => (h3 q (Nat.lt_of_lt_of_le h4 hS.1)).trans (hS.2.1 q h4 h5)⟩
set_option maxHeartbeats 2000000 in
theorem tz_throwW {ρ : Type} {M : zM} {ij : ρ → Option Value} {pc : Nat} {lv : List (Nat × Value)} {w : zW} (hM : M.2.1 = "EndSums") (d0 : decode M.1 pc = .ok (.new 239, 3)) (d3 : decode M.1 (pc + 3) = .ok (.dup, 1)) (d4 : decode M.1 (pc + 4) = .ok (.ldc_w 322, 3)) (d6 : decode M.1 (pc + 7) = .ok (.invokespecial 243, 3)) (d9 : decode M.1 (pc + 10) = .ok (.athrow, 1)) (hf : 6 ≤ M.2.2.2.2.frames) (hlo : 82 ≤ M.2.2.2.2.locals) (hc1 : 1 ≤ M.2.2.2.2.cells) (hs1 : 6 ≤ M.2.2.2.2.slots) : Tz M (zXe ij) (some (none, w)) pc lv [] w := by
  intro res h p l e s m args below meth c D cA AD A X cells slots hB hE H locs ls hP hS hl
  cases h
  obtain ⟨rfl, rfl, htr, hno, hXp⟩ := hE
  obtain ⟨sa, hsa⟩ := hXp.2.2.2.1
  have hown : s.vm.findClass "EndSums" = some m.cls := by rw [← hM]; exact X.2.2.2.2.1
  refine zx_throwSW (ik := 239) (is := 322) (mc := 1) (ms := 6) (sa := sa) X.1 X.2.1 htr hown (X.2.2.2.2.2.1 _ zX_cl) (X.2.2.2.2.2.1 _ zX_in) hsa (zX_hat X.2.2.2.2.2.1 hXp.2.2.2.2) zX_good hXp.1 hXp.2.1 hS (by rw [hl.1, X.2.2.2.1]) d0 d3 d4 d6 d9 (fun x hx => (hno x hx).elim) (Nat.lt_of_lt_of_le (by decide) hf) (Nat.le_trans (Nat.le_of_ble_eq_true rfl) hlo) (by omega) (by omega) X.2.2.2.2.2.2.1 ?_ hS.2.2 (Nat.le_refl 1) (Nat.le_refl 6)
  intro t _ h2 h3
  exact ⟨rfl, rfl, hP.kept (fun k q hk => h3 q.1 (hP k q hk).lt), Nat.le_trans hS.1 h2, fun q h4 h5 => (h3 q (Nat.lt_of_lt_of_le h4 hS.1)).trans (hS.2.1 q h4 h5)⟩
theorem tz_xiret {M : zM} {pc : Nat} {lv : List (Nat × Value)} {w : zW} {v : Int32} (hr : M.2.2.2.1 = some .int) (hc1 : 1 ≤ M.2.2.2.2.cells) (hs1 : 6 ≤ M.2.2.2.2.slots) (d : decode M.1 pc = .ok (.ireturn, 1)) : Tz M (zXe zi) (some (some v, w)) pc lv [.int v] w := by
  intro res h p l e s m args below meth c D cA AD A X cells slots hB hE H locs ls hP hS hl
  cases h
  obtain ⟨rfl, rfl, htr, hno, hXp⟩ := hE
  refine vx_ret (W.widen (k := 1) (n := 6) (Nat.zero_le _) (Nat.zero_le _) ?_)
  exact W.iret X.1 X.2.1 (X.2.2.1.trans hr) (fun t ht hW => ⟨v, rfl, ⟨rfl, by rw [ht]; exact hP⟩, hS.F ht⟩) hS.2.2 d (hlocks := X.2.2.2.2.2.2.1)
theorem tz_xlret {M : zM} {pc : Nat} {lv : List (Nat × Value)} {w : zW} {v : Int64} (hr : M.2.2.2.1 = some .long) (hc1 : 1 ≤ M.2.2.2.2.cells) (hs1 : 6 ≤ M.2.2.2.2.slots) (d : decode M.1 pc = .ok (.lreturn, 1)) : Tz M (zXe zl) (some (some v, w)) pc lv [.long v] w := by
  intro res h p l e s m args below meth c D cA AD A X cells slots hB hE H locs ls hP hS hl
  cases h
  obtain ⟨rfl, rfl, htr, hno, hXp⟩ := hE
  refine vx_ret (W.widen (k := 1) (n := 6) (Nat.zero_le _) (Nat.zero_le _) ?_)
  exact W.lret X.1 X.2.1 (X.2.2.1.trans hr) (fun t ht hW => ⟨v, rfl, ⟨rfl, by rw [ht]; exact hP⟩, hS.F ht⟩) hS.2.2 d (hlocks := X.2.2.2.2.2.2.1)
set_option maxHeartbeats 4000000 in
theorem SmX_of {ρ : Type} {y : MethodName} {M : zM} {ij : ρ → Option Value} {av : List Value} {w : zW} {r : Option (Option ρ × zW)} (hy : plainName y.cls = true) (own : M.2.1 = y.cls) (hlen : ∀ AD, (lg_sl (zes AD av)).length ≤ M.2.2.1) {lv0 : List (Nat × Value)} (hlv : lv_args 0 av = lv0) (k : Tz M (zXe ij) r 0 lv0 [] w) : SmX y M ij av w r := by
  subst hlv
  intro res h l htr D cA AD sz
  refine vx_ofW (cc := M.1) (maxL := M.2.2.1) (ret := M.2.2.2.1) hy rfl ?_
  intro p e s m args below meth c s₁ B hml hno hv
  obtain ⟨rfl, ⟨hsz, hP, hK, hinj, hSt, hNs⟩, hXp⟩ := hv
  subst hsz
  have hts := atoms_spec (ws := .code y M.1 M.2.2.1 M.2.2.2.1 :: zTb) B.pre
  have hl := lv_entry (zes AD av) (n := M.2.2.1) (hlen AD)
  rw [lg_entry_eq]
  rw [zel_args] at hl
  exact k res h p l e s m _ below meth c D cA AD (zA AD s.heap.size) ⟨B.exec, B.bytes, B.returns, hml, by rw [own]; exact findClass_of_methodNamed B.named, fun w hw => hts w (List.mem_cons_of_mem _ hw), B.notSynchronized, hK, ⟨hinj, fun k hk => Or.inl ⟨k, hk, rfl⟩⟩, fun q hq => Or.inr hq, hSt, hNs⟩ 0 0 ⟨Nat.zero_le _, Nat.zero_le _⟩ ⟨rfl, rfl, htr, hno, hXp⟩ s.heap [] _ hP va_S.rf hl
def QX7_row : List (Nat × Instr × Nat) := [(0, .iload_n 1, 1), (1, .ifCond .lt 20, 3), (4, .iload_n 1, 1), (5, .aload_n 0, 1), (6, .getfield 256, 3), (9, .if_icmp .ge 12, 3), (12, .iload_n 1, 1), (13, .aload_n 0, 1), (14, .getfield 57, 3), (17, .arraylength, 1), (18, .if_icmp .lt 14, 3), (21, .new 239, 3), (24, .dup, 1), (25, .ldc_w 322, 3), (28, .invokespecial 243, 3), (31, .athrow, 1), (32, .aload_n 0, 1), (33, .getfield 57, 3), (36, .iload_n 1, 1), (37, .laload, 1), (38, .lreturn, 1)]
set_option maxRecDepth 100000 in
theorem DX7_row : ∀ q ∈ QX7_row, decode cX7_row q.1 = .ok (q.2.1, q.2.2) := by decide +kernel
abbrev MX7_row : zM := (cX7_row, "EndSums", 2, (some .long), { frames := 6, cells := 1, slots := 6, locals := 82 })
def fX7_row (a1 : Int32) (w : zW) : Option ((Option Int64) × zW) :=
  if a1 < (0 : Int32) then
    some (none, w)
  else
  if (zI w 0 8) ≤ a1 then
    some (none, w)
  else
  if a1 < (nI 128) then
    zg (zin a1 128) <|
    some (some (zL w 71 a1.toNatClampNeg), w)
  else
  some (none, w)
set_option maxHeartbeats 4000000 in
set_option maxRecDepth 100000 in
theorem tX7_row (a1 : Int32) (w : zW) : SmX yX7_row MX7_row zl [.ref 0, .int a1] w (fX7_row a1 w) := by
  refine SmX_of (lv0 := [(0, .ref 0), (1, .int a1)]) (by decide) rfl (fun _ => Nat.le_of_ble_eq_true rfl) rfl ?_
  unfold fX7_row
  refine tz_iload_n 1 rfl (zd DX7_row 0 rfl) ?_
  refine tz_if_lt 21 (zd DX7_row 1 rfl) rfl (fun q1 => ?_) (fun q1 => ?_)
  · exact tz_throwW rfl (zd DX7_row 11 rfl) (zd DX7_row 12 rfl) (zd DX7_row 13 rfl) (zd DX7_row 14 rfl) (zd DX7_row 15 rfl) (Nat.le_of_ble_eq_true rfl) (Nat.le_of_ble_eq_true rfl) (Nat.le_of_ble_eq_true rfl) (Nat.le_of_ble_eq_true rfl)
  refine tz_iload_n 1 rfl (zd DX7_row 2 rfl) ?_
  refine tz_aload_n 0 rfl (zd DX7_row 3 rfl) ?_
  refine tz_getI 8 kz7 (zs_0) (by decide) rfl wk_192 (zd DX7_row 4 rfl) ?_
  refine tz_icmp_ge 21 (zd DX7_row 5 rfl) rfl (fun q2 => ?_) (fun q2 => ?_)
  · exact tz_throwW rfl (zd DX7_row 11 rfl) (zd DX7_row 12 rfl) (zd DX7_row 13 rfl) (zd DX7_row 14 rfl) (zd DX7_row 15 rfl) (Nat.le_of_ble_eq_true rfl) (Nat.le_of_ble_eq_true rfl) (Nat.le_of_ble_eq_true rfl) (Nat.le_of_ble_eq_true rfl)
  refine tz_iload_n 1 rfl (zd DX7_row 6 rfl) ?_
  refine tz_aload_n 0 rfl (zd DX7_row 7 rfl) ?_
  refine tz_getR 71 7 kz7 (zs_0) (by decide) (by decide) rfl wk_191 (zd DX7_row 8 rfl) ?_
  refine tz_alen1 (zs_71.1) (zs_71.2) (zd DX7_row 9 rfl) ?_
  refine tz_icmp_lt 32 (zd DX7_row 10 rfl) rfl (fun q3 => ?_) (fun q3 => ?_)
  · refine tz_aload_n 0 rfl (zd DX7_row 16 rfl) ?_
    refine tz_getR 71 7 kz7 (zs_0) (by decide) (by decide) rfl wk_191 (zd DX7_row 17 rfl) ?_
    refine tz_iload_n 1 rfl (zd DX7_row 18 rfl) ?_
    refine tz_lald (zs_71.1) (zs_71.2) (zd DX7_row 19 rfl) ?_
    exact tz_xlret rfl (Nat.le_of_ble_eq_true rfl) (Nat.le_of_ble_eq_true rfl) (zd DX7_row 20 rfl)
  exact tz_throwW rfl (zd DX7_row 11 rfl) (zd DX7_row 12 rfl) (zd DX7_row 13 rfl) (zd DX7_row 14 rfl) (zd DX7_row 15 rfl) (Nat.le_of_ble_eq_true rfl) (Nat.le_of_ble_eq_true rfl) (Nat.le_of_ble_eq_true rfl) (Nat.le_of_ble_eq_true rfl)
def QX7_item : List (Nat × Instr × Nat) := [(0, .aload_n 0, 1), (1, .iload_n 1, 1), (2, .invokevirtual 158, 3), (5, .astore_n 3, 1), (6, .aload_n 3, 1), (7, .ifnull 15, 3), (10, .iload_n 2, 1), (11, .ifCond .lt 11, 3), (14, .iload_n 2, 1), (15, .aload_n 3, 1), (16, .invokevirtual 165, 3), (19, .if_icmp .lt 13, 3), (22, .new 239, 3), (25, .dup, 1), (26, .ldc 241, 2), (28, .invokespecial 243, 3), (31, .athrow, 1), (32, .aload_n 3, 1), (33, .iload_n 2, 1), (34, .invokevirtual 192, 3), (37, .istore 4, 2), (39, .aload_n 3, 1), (40, .iload_n 2, 1), (41, .invokevirtual 195, 3), (44, .istore 5, 2), (46, .aload_n 3, 1), (47, .iload 4, 2), (49, .invokevirtual 198, 3), (52, .astore 6, 2), (54, .aload_n 0, 1), (55, .iload 4, 2), (57, .i2l, 1), (58, .aload 6, 2), (60, .getfield 213, 3), (63, .iconst 1, 1), (64, .isub, 1), (65, .iload 5, 2), (67, .isub, 1), (68, .i2l, 1), (69, .aload 6, 2), (71, .getfield 246, 3), (74, .iload 5, 2), (76, .invokestatic 249, 3), (79, .aload 6, 2), (81, .getfield 253, 3), (84, .iload 5, 2), (86, .invokestatic 249, 3), (89, .invokevirtual 127, 3), (92, .aload_n 3, 1), (93, .iload_n 2, 1), (94, .invokevirtual 189, 3), (97, .ireturn, 1)]
set_option maxRecDepth 100000 in
theorem DX7_item : ∀ q ∈ QX7_item, decode cX7_item q.1 = .ok (q.2.1, q.2.2) := by decide +kernel
abbrev MX7_item : zM := (cX7_item, "EndSums", 7, (some .int), { frames := 6, cells := 1, slots := 6, locals := 122 })
def fX7_item (a1 : Int32) (a2 : Int32) (w : zW) : Option ((Option Int32) × zW) :=
  bd (fX7_lineAt a1 w) fun o3 w1 => oc o3 (
    some (none, w1)) fun l4 =>
    if a2 < (0 : Int32) then
      some (none, w1)
    else
    bd (fX1_size l4 w1) fun v8 w6 =>
    if a2 < v8 then
      bd (fX1_endOf l4 a2 w6) fun v12 w10 =>
      bd (fX1_heightOf l4 a2 w10) fun v15 w13 =>
      bd (fX1_pile l4 v12 w13) fun v18 w16 =>
      bd (fX7_at_ (v18 + 2) v15 w16) fun v21 w19 =>
      bd (fX7_at_ (v18 + 3) v15 w19) fun v24 w22 =>
      bd (fX7_tell___ (v12).toInt64 (((zI w16 v18 0) - (1 : Int32)) - v15).toInt64 v21 v24 w22) fun _ w25 =>
      bd (fX1_itemAt l4 a2 w25) fun v30 w28 =>
      some (some v30, w28)
    else
    some (none, w6)
set_option maxHeartbeats 4000000 in
set_option maxRecDepth 100000 in
theorem tX7_item (a1 : Int32) (a2 : Int32) (w : zW) : SmX yX7_item MX7_item zi [.ref 0, .int a1, .int a2] w (fX7_item a1 a2 w) := by
  refine SmX_of (lv0 := [(0, .ref 0), (1, .int a1), (2, .int a2)]) (by decide) rfl (fun _ => Nat.le_of_ble_eq_true rfl) rfl ?_
  unfold fX7_item
  refine tz_aload_n 0 rfl (zd DX7_item 0 rfl) ?_
  refine tz_iload_n 1 rfl (zd DX7_item 1 rfl) ?_
  refine tz_cV_o kz7 (zs_0) rfl (rest := []) (YX7_lineAt) wk_226 (tX7_lineAt a1 w) rfl rfl (Nat.le_of_ble_eq_true rfl) ⟨Nat.le_of_ble_eq_true rfl, Nat.le_of_ble_eq_true rfl⟩ (zd DX7_item 2 rfl) (fun w1 e2 => ?_) (fun l4 w1 e2 => ?_)
  · refine tz_astore_nN [(3, .null), (0, .ref 0), (1, .int a1), (2, .int a2)] (Nat.le_of_ble_eq_true rfl) rfl (zd DX7_item 3 rfl) ?_
    refine tz_aload_nN 0 rfl (zd DX7_item 4 rfl) ?_
    refine tz_ifnullN 22 (zd DX7_item 5 rfl) rfl ?_
    exact tz_throw rfl (zd DX7_item 12 rfl) (zd DX7_item 13 rfl) (zd DX7_item 14 rfl) (zd DX7_item 15 rfl) (zd DX7_item 16 rfl) (Nat.le_of_ble_eq_true rfl) (Nat.le_of_ble_eq_true rfl) (Nat.le_of_ble_eq_true rfl) (Nat.le_of_ble_eq_true rfl)
  refine tz_astore_n [(3, .ref l4), (0, .ref 0), (1, .int a1), (2, .int a2)] (Nat.le_of_ble_eq_true rfl) rfl (zd DX7_item 3 rfl) ?_
  refine tz_aload_n 0 rfl (zd DX7_item 4 rfl) ?_
  refine tz_ifnull (zd DX7_item 5 rfl) ?_
  refine tz_iload_n 3 rfl (zd DX7_item 6 rfl) ?_
  refine tz_if_lt 22 (zd DX7_item 7 rfl) rfl (fun q5 => ?_) (fun q5 => ?_)
  · exact tz_throw rfl (zd DX7_item 12 rfl) (zd DX7_item 13 rfl) (zd DX7_item 14 rfl) (zd DX7_item 15 rfl) (zd DX7_item 16 rfl) (Nat.le_of_ble_eq_true rfl) (Nat.le_of_ble_eq_true rfl) (Nat.le_of_ble_eq_true rfl) (Nat.le_of_ble_eq_true rfl)
  refine tz_iload_n 3 rfl (zd DX7_item 8 rfl) ?_
  refine tz_aload_n 0 rfl (zd DX7_item 9 rfl) ?_
  refine tz_cVN_i kz1 (fX7_lineAt_c e2) rfl (rest := [.int a2]) (YX1_size) wn_486 (tX1_size l4 (fX7_lineAt_c e2) w1) rfl rfl (Nat.le_of_ble_eq_true rfl) ⟨Nat.le_of_ble_eq_true rfl, Nat.le_of_ble_eq_true rfl⟩ (zd DX7_item 10 rfl) (fun v8 w6 e7 => ?_)
  refine tz_icmp_lt 32 (zd DX7_item 11 rfl) rfl (fun q9 => ?_) (fun q9 => ?_)
  · refine tz_aload_n 0 rfl (zd DX7_item 17 rfl) ?_
    refine tz_iload_n 3 rfl (zd DX7_item 18 rfl) ?_
    refine tz_cVN_i kz1 (fX7_lineAt_c e2) rfl (rest := []) (YX1_endOf) wn_540 (tX1_endOf l4 (fX7_lineAt_c e2) a2 w6) rfl rfl (Nat.le_of_ble_eq_true rfl) ⟨Nat.le_of_ble_eq_true rfl, Nat.le_of_ble_eq_true rfl⟩ (zd DX7_item 19 rfl) (fun v12 w10 e11 => ?_)
    refine tz_istore [(4, .int v12), (3, .ref l4), (0, .ref 0), (1, .int a1), (2, .int a2)] (Nat.le_of_ble_eq_true rfl) rfl (zd DX7_item 20 rfl) ?_
    refine tz_aload_n 1 rfl (zd DX7_item 21 rfl) ?_
    refine tz_iload_n 4 rfl (zd DX7_item 22 rfl) ?_
    refine tz_cVN_i kz1 (fX7_lineAt_c e2) rfl (rest := []) (YX1_heightOf) wn_541 (tX1_heightOf l4 (fX7_lineAt_c e2) a2 w10) rfl rfl (Nat.le_of_ble_eq_true rfl) ⟨Nat.le_of_ble_eq_true rfl, Nat.le_of_ble_eq_true rfl⟩ (zd DX7_item 23 rfl) (fun v15 w13 e14 => ?_)
    refine tz_istore [(5, .int v15), (4, .int v12), (3, .ref l4), (0, .ref 0), (1, .int a1), (2, .int a2)] (Nat.le_of_ble_eq_true rfl) rfl (zd DX7_item 24 rfl) ?_
    refine tz_aload_n 2 rfl (zd DX7_item 25 rfl) ?_
    refine tz_iload 1 rfl (zd DX7_item 26 rfl) ?_
    refine tz_cVN_q kz1 (fX7_lineAt_c e2) rfl (rest := []) (YX1_pile) wn_542 (tX1_pile l4 (fX7_lineAt_c e2) v12 w13) rfl rfl (Nat.le_of_ble_eq_true rfl) ⟨Nat.le_of_ble_eq_true rfl, Nat.le_of_ble_eq_true rfl⟩ (zd DX7_item 27 rfl) (fun v18 w16 e17 => ?_)
    refine tz_astore [(6, .ref v18), (5, .int v15), (4, .int v12), (3, .ref l4), (0, .ref 0), (1, .int a1), (2, .int a2)] (Nat.le_of_ble_eq_true rfl) rfl (zd DX7_item 28 rfl) ?_
    refine tz_aload_n 4 rfl (zd DX7_item 29 rfl) ?_
    refine tz_iload 2 rfl (zd DX7_item 30 rfl) ?_
    refine tz_i2l (zd DX7_item 31 rfl) ?_
    refine tz_aload 0 rfl (zd DX7_item 32 rfl) ?_
    refine tz_getIN 0 kz2 (fX1_pile_c (fX7_lineAt_c e2) e17) (by decide) rfl wn_106 (zd DX7_item 33 rfl) ?_
    refine tz_iconst (1 : Int32) zk_iconst_1 (zd DX7_item 34 rfl) ?_
    refine tz_isub (zd DX7_item 35 rfl) ?_
    refine tz_iload 1 rfl (zd DX7_item 36 rfl) ?_
    refine tz_isub (zd DX7_item 37 rfl) ?_
    refine tz_i2l (zd DX7_item 38 rfl) ?_
    refine tz_aload 0 rfl (zd DX7_item 39 rfl) ?_
    refine tz_getRN (v18 + 2) 2 kz2 (fX1_pile_c (fX7_lineAt_c e2) e17) (by decide) (by decide) ((zf2_2 (fX1_pile_c (fX7_lineAt_c e2) e17)).1) wn_112 (zd DX7_item 40 rfl) ?_
    refine tz_iload 1 rfl (zd DX7_item 41 rfl) ?_
    refine tz_cS_l (rest := [.long (((zI w16 v18 0) - (1 : Int32)) - v15).toInt64, .long (v12).toInt64, .ref 0]) (YX7_at_) wk_461 (tX7_at_ (v18 + 2) ((zf2_2 (w := w16) (fX1_pile_c (fX7_lineAt_c e2) e17)).2.1) v15 w16) rfl rfl (Nat.le_of_ble_eq_true rfl) ⟨Nat.le_of_ble_eq_true rfl, Nat.le_of_ble_eq_true rfl⟩ (zd DX7_item 42 rfl) (fun v21 w19 e20 => ?_)
    refine tz_aload 0 rfl (zd DX7_item 43 rfl) ?_
    refine tz_getRN (v18 + 3) 3 kz2 (fX1_pile_c (fX7_lineAt_c e2) e17) (by decide) (by decide) ((zf2_3 (fX1_pile_c (fX7_lineAt_c e2) e17)).1) wn_115 (zd DX7_item 44 rfl) ?_
    refine tz_iload 1 rfl (zd DX7_item 45 rfl) ?_
    refine tz_cS_l (rest := [.long v21, .long (((zI w16 v18 0) - (1 : Int32)) - v15).toInt64, .long (v12).toInt64, .ref 0]) (YX7_at_) wk_461 (tX7_at_ (v18 + 3) ((zf2_3 (w := w19) (fX1_pile_c (fX7_lineAt_c e2) e17)).2.1) v15 w19) rfl rfl (Nat.le_of_ble_eq_true rfl) ⟨Nat.le_of_ble_eq_true rfl, Nat.le_of_ble_eq_true rfl⟩ (zd DX7_item 46 rfl) (fun v24 w22 e23 => ?_)
    refine tz_cV_n kz7 (zs_0) rfl (rest := []) (YX7_tell___) wk_426 (tX7_tell___ (v12).toInt64 (((zI w16 v18 0) - (1 : Int32)) - v15).toInt64 v21 v24 w22) rfl rfl (Nat.le_of_ble_eq_true rfl) ⟨Nat.le_of_ble_eq_true rfl, Nat.le_of_ble_eq_true rfl⟩ (zd DX7_item 47 rfl) (fun v27 w25 e26 => ?_)
    refine tz_aload_n 3 rfl (zd DX7_item 48 rfl) ?_
    refine tz_iload_n 6 rfl (zd DX7_item 49 rfl) ?_
    refine tz_cVN_i kz1 (fX7_lineAt_c e2) rfl (rest := []) (YX1_itemAt) wn_539 (tX1_itemAt l4 (fX7_lineAt_c e2) a2 w25) rfl rfl (Nat.le_of_ble_eq_true rfl) ⟨Nat.le_of_ble_eq_true rfl, Nat.le_of_ble_eq_true rfl⟩ (zd DX7_item 50 rfl) (fun v30 w28 e29 => ?_)
    exact tz_xiret rfl (Nat.le_of_ble_eq_true rfl) (Nat.le_of_ble_eq_true rfl) (zd DX7_item 51 rfl)
  exact tz_throw rfl (zd DX7_item 12 rfl) (zd DX7_item 13 rfl) (zd DX7_item 14 rfl) (zd DX7_item 15 rfl) (zd DX7_item 16 rfl) (Nat.le_of_ble_eq_true rfl) (Nat.le_of_ble_eq_true rfl) (Nat.le_of_ble_eq_true rfl) (Nat.le_of_ble_eq_true rfl)
