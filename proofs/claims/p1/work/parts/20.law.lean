def R_law : String := "EndSumsLaw"
def lw_P (b : Addr) (xs : List Int32) (args : Array Value) (s : State) : Prop := args = #[.ref b] ∧ s.IntsAt b xs ∧ xs.length ≤ 4 ∧ (Jvm.Cond.and given_1 narrow_1).before args s = true
def lw_Q (_ : Array Value) (s : State) (o : Outcome) (t : State) : Prop := o = .returned (some (.int 1)) ∧ Framed s o t [] 600002 7302232
def lw_Z (below : List Frame) (a : Array Value) (s : State) : State → Prop := fun t => ∃ o, t.status = .running ∧ Ended t below o ∧ lw_Q a s o t
/-- the law's own end, with 1 on the stack, nothing written that was there before, its room as the claim has it -/
theorem lw_ret {p : Program} {l : Launch} {e : Env} {s : State} {m : MethodId} {below : List Frame} {meth : Method} {c : Code} {b : Nat} (hx : p.tables.exec = Jvm.exec) (hb : c.code = code) (hr : meth.sig.returnType = ret) (hlocks : meth.locks = false) {pc : Nat} {H : Heap} {ls : Array Slot} (hdg : decode code pc = .ok (.ireturn, 1)) : W p l e room_1 s m #[Value.ref b] below meth c H [] 600002 7302232 (lw_Z below #[Value.ref b] s) (F0 m pc ls [.int 1]) := by
  intro T hT X
  obtain ⟨fs, hret, hrun, hended, hW, hframe⟩ := X.leave (v := some (.int 1)) (hlocks := hlocks) (fun h => by rw [hr] at h; cases h)
  have hmeth' : T.vm.method? m = some meth := X.method'
  refine ⟨T.setFrames fs, ?_, .returned (some (.int 1)), hrun, hended, rfl, ⟨_, rfl⟩, hW, hframe⟩
  jvm_step X.here [X.here.top, hx, hb, hdg, hmeth', hr, ret, narrow_b1]
  (try refine ⟨rfl, ?_⟩); (try refine ⟨rfl, ?_⟩)
  first | (intro acts; rw [hret _ acts rfl rfl rfl]) | rw [hret _ _ rfl rfl rfl]
  exact Steps.refl _
/-- what holds at the law's entry: the machine, the code, the tables' words (any of lw_tbl by 'hts w (by decide +kernel)'), the script of L ints xs at the cell b, what the Statement gives of the start (any of its parts by flat_of_before) -/
def lw_At (p : Program) (s : State) (m : MethodId) (meth : Method) (c : Code) (b L : Nat) (xs : Nat → Int32) : Prop :=
  p.tables.exec = Jvm.exec ∧ c.code = code ∧ meth.sig.returnType = ret ∧ c.maxLocals = 8 ∧ s.vm.findClass R_law = some m.cls ∧ (∀ w ∈ lw_tbl, w.before #[Value.ref b] s = true) ∧ va_X b L xs s s.heap ∧ b < s.heap.size ∧ meth.locks = false ∧ (Jvm.Cond.and given_1 narrow_1).before #[Value.ref b] s = true
theorem zk_bipush_63 : (Int8.ofInt (63)).toInt32 = (63 : Int32) := by decide
theorem wk_218 : Cond.methodLink "EndSumsLaw" 23 yX7_rule ∈ zTb := zTm (L := tables_1_1) zT1 218 rfl rfl
theorem wk_1033 : Cond.methodLink "EndSumsLaw" 27 yX8_rule ∈ zTb := zTm (L := tables_1_5) zT5 73 rfl rfl
theorem wk_340 : Cond.methodLink "EndSumsLaw" 28 yX7_table ∈ zTb := zTm (L := tables_1_2) zT2 100 rfl rfl
theorem wk_1069 : Cond.methodLink "EndSumsLaw" 32 yX8_table ∈ zTb := zTm (L := tables_1_5) zT5 109 rfl rfl
theorem wk_404 : Cond.methodLink "EndSumsLaw" 33 yX7_commutes ∈ zTb := zTm (L := tables_1_2) zT2 164 rfl rfl
theorem wk_958 : Cond.methodLink "EndSumsLaw" 36 yX8_commutes ∈ zTb := zTm (L := tables_1_4) zT4 238 rfl rfl
theorem wk_430 : Cond.methodLink "EndSumsLaw" 37 yX7_powers ∈ zTb := zTm (L := tables_1_2) zT2 190 rfl rfl
theorem wk_1010 : Cond.methodLink "EndSumsLaw" 40 yX8_powers ∈ zTb := zTm (L := tables_1_5) zT5 50 rfl rfl
theorem wk_447 : Cond.methodLink "EndSumsLaw" 41 yX7_order ∈ zTb := zTm (L := tables_1_2) zT2 207 rfl rfl
theorem wk_1025 : Cond.methodLink "EndSumsLaw" 44 yX8_order ∈ zTb := zTm (L := tables_1_5) zT5 65 rfl rfl
theorem wk_466 : Cond.methodLink "EndSumsLaw" 45 yX7_undoes ∈ zTb := zTm (L := tables_1_2) zT2 226 rfl rfl
theorem wk_1029 : Cond.methodLink "EndSumsLaw" 48 yX8_undoes ∈ zTb := zTm (L := tables_1_5) zT5 69 rfl rfl
theorem wk_479 : Cond.methodLink "EndSumsLaw" 49 yX7_puts ∈ zTb := zTm (L := tables_1_2) zT2 239 rfl rfl
theorem wk_1104 : Cond.methodLink "EndSumsLaw" 53 yX8_puts ∈ zTb := zTm (L := tables_1_5) zT5 144 rfl rfl
theorem wk_492 : Cond.methodLink "EndSumsLaw" 54 yX7_takes ∈ zTb := zTm (L := tables_1_3) zT3 12 rfl rfl
theorem wk_1115 : Cond.methodLink "EndSumsLaw" 57 yX8_takes ∈ zTb := zTm (L := tables_1_5) zT5 155 rfl rfl
theorem wk_500 : Cond.methodLink "EndSumsLaw" 58 yX7_copies ∈ zTb := zTm (L := tables_1_3) zT3 20 rfl rfl
theorem wk_1127 : Cond.methodLink "EndSumsLaw" 61 yX8_copies ∈ zTb := zTm (L := tables_1_5) zT5 167 rfl rfl
theorem wk_515 : Cond.methodLink "EndSumsLaw" 62 yX7_joins ∈ zTb := zTm (L := tables_1_3) zT3 35 rfl rfl
theorem wk_1135 : Cond.methodLink "EndSumsLaw" 65 yX8_joins ∈ zTb := zTm (L := tables_1_5) zT5 175 rfl rfl
theorem wk_519 : Cond.methodLink "EndSumsLaw" 66 yX7_parts ∈ zTb := zTm (L := tables_1_3) zT3 39 rfl rfl
theorem wk_1139 : Cond.methodLink "EndSumsLaw" 69 yX8_parts ∈ zTb := zTm (L := tables_1_5) zT5 179 rfl rfl
theorem wk_527 : Cond.methodLink "EndSumsLaw" 70 yX7_reverses ∈ zTb := zTm (L := tables_1_3) zT3 47 rfl rfl
theorem wk_1143 : Cond.methodLink "EndSumsLaw" 73 yX8_reverses ∈ zTb := zTm (L := tables_1_5) zT5 183 rfl rfl
theorem wk_535 : Cond.methodLink "EndSumsLaw" 74 yX7_changes ∈ zTb := zTm (L := tables_1_3) zT3 55 rfl rfl
theorem wk_1151 : Cond.methodLink "EndSumsLaw" 77 yX8_changes ∈ zTb := zTm (L := tables_1_5) zT5 191 rfl rfl
theorem wk_547 : Cond.methodLink "EndSumsLaw" 78 yX7_slips ∈ zTb := zTm (L := tables_1_3) zT3 67 rfl rfl
theorem wk_1163 : Cond.methodLink "EndSumsLaw" 81 yX8_slips ∈ zTb := zTm (L := tables_1_5) zT5 203 rfl rfl
theorem wk_551 : Cond.methodLink "EndSumsLaw" 82 yX7_drops ∈ zTb := zTm (L := tables_1_3) zT3 71 rfl rfl
theorem wk_1167 : Cond.methodLink "EndSumsLaw" 85 yX8_drops ∈ zTb := zTm (L := tables_1_5) zT5 207 rfl rfl
theorem wk_555 : Cond.methodLink "EndSumsLaw" 86 yX7_shifts ∈ zTb := zTm (L := tables_1_3) zT3 75 rfl rfl
theorem wk_1171 : Cond.methodLink "EndSumsLaw" 89 yX8_shifts ∈ zTb := zTm (L := tables_1_5) zT5 211 rfl rfl
theorem wk_563 : Cond.methodLink "EndSumsLaw" 90 yX7_clears ∈ zTb := zTm (L := tables_1_3) zT3 83 rfl rfl
theorem wk_1184 : Cond.methodLink "EndSumsLaw" 93 yX8_clears ∈ zTb := zTm (L := tables_1_5) zT5 224 rfl rfl
theorem wk_567 : Cond.methodLink "EndSumsLaw" 94 yX7_run ∈ zTb := zTm (L := tables_1_3) zT3 87 rfl rfl
theorem wk_1188 : Cond.methodLink "EndSumsLaw" 97 yX8_run ∈ zTb := zTm (L := tables_1_5) zT5 228 rfl rfl
theorem wk_601 : Cond.methodLink "EndSumsLaw" 98 yX7_sign ∈ zTb := zTm (L := tables_1_3) zT3 121 rfl rfl
theorem wk_844 : Cond.methodLink "EndSumsLaw" 101 yX8_sign ∈ zTb := zTm (L := tables_1_4) zT4 124 rfl rfl
theorem wk_610 : Cond.methodLink "EndSumsLaw" 102 yX7_end ∈ zTb := zTm (L := tables_1_3) zT3 130 rfl rfl
theorem wk_848 : Cond.methodLink "EndSumsLaw" 106 yX8_end ∈ zTb := zTm (L := tables_1_4) zT4 128 rfl rfl
theorem wk_614 : Cond.methodLink "EndSumsLaw" 107 yX7_sum ∈ zTb := zTm (L := tables_1_3) zT3 134 rfl rfl
theorem wk_1204 : Cond.methodLink "EndSumsLaw" 110 yX8_sum ∈ zTb := zTm (L := tables_1_6) zT6 4 rfl rfl
theorem wk_760 : Cond.codeWith yL_item cL_item 5 (some .int) [(0, 10, 13, 13)] ∈ zTb := zTm (L := tables_1_4) zT4 40 rfl rfl
theorem wk_759 : Cond.static yL_item ∈ zTb := zTm (L := tables_1_4) zT4 39 rfl rfl
theorem wk_0 : Cond.initialized "EndSumsLaw" ∈ zTb := zTm (L := tables_1_1) zT1 0 rfl rfl
theorem wk_758 : Cond.methodLink "EndSumsLaw" 111 yL_item ∈ zTb := zTm (L := tables_1_4) zT4 38 rfl rfl
theorem wk_1208 : Cond.methodLink "EndSumsLaw" 116 yX8_item ∈ zTb := zTm (L := tables_1_6) zT6 8 rfl rfl
theorem wk_840 : Cond.methodLink "EndSumsLaw" 117 yX8_thrown ∈ zTb := zTm (L := tables_1_4) zT4 120 rfl rfl
theorem wk_618 : Cond.methodLink "EndSumsLaw" 120 yX7_part ∈ zTb := zTm (L := tables_1_3) zT3 138 rfl rfl
theorem wk_1212 : Cond.methodLink "EndSumsLaw" 123 yX8_part ∈ zTb := zTm (L := tables_1_6) zT6 12 rfl rfl
theorem wk_622 : Cond.methodLink "EndSumsLaw" 124 yX7_windows ∈ zTb := zTm (L := tables_1_3) zT3 142 rfl rfl
theorem wk_1220 : Cond.methodLink "EndSumsLaw" 127 yX8_windows ∈ zTb := zTm (L := tables_1_6) zT6 20 rfl rfl
theorem wk_626 : Cond.methodLink "EndSumsLaw" 128 yX7_first ∈ zTb := zTm (L := tables_1_3) zT3 146 rfl rfl
theorem wk_1224 : Cond.methodLink "EndSumsLaw" 131 yX8_first ∈ zTb := zTm (L := tables_1_6) zT6 24 rfl rfl
theorem wk_630 : Cond.methodLink "EndSumsLaw" 132 yX7_longest ∈ zTb := zTm (L := tables_1_3) zT3 150 rfl rfl
theorem wk_1228 : Cond.methodLink "EndSumsLaw" 135 yX8_longest ∈ zTb := zTm (L := tables_1_6) zT6 28 rfl rfl
theorem wk_643 : Cond.methodLink "EndSumsLaw" 136 yX7_greatest ∈ zTb := zTm (L := tables_1_3) zT3 163 rfl rfl
theorem wk_1232 : Cond.methodLink "EndSumsLaw" 139 yX8_greatest ∈ zTb := zTm (L := tables_1_6) zT6 32 rfl rfl
theorem wk_647 : Cond.methodLink "EndSumsLaw" 140 yX7_finds ∈ zTb := zTm (L := tables_1_3) zT3 167 rfl rfl
theorem wk_1236 : Cond.methodLink "EndSumsLaw" 143 yX8_finds ∈ zTb := zTm (L := tables_1_6) zT6 36 rfl rfl
theorem wk_659 : Cond.methodLink "EndSumsLaw" 144 yX7_drains ∈ zTb := zTm (L := tables_1_3) zT3 179 rfl rfl
theorem wk_1240 : Cond.methodLink "EndSumsLaw" 147 yX8_drains ∈ zTb := zTm (L := tables_1_6) zT6 40 rfl rfl
theorem wk_672 : Cond.methodLink "EndSumsLaw" 148 yX7_unlike ∈ zTb := zTm (L := tables_1_3) zT3 192 rfl rfl
theorem wk_1266 : Cond.methodLink "EndSumsLaw" 151 yX8_unlike ∈ zTb := zTm (L := tables_1_6) zT6 66 rfl rfl
theorem wk_687 : Cond.methodLink "EndSumsLaw" 152 yX7_same ∈ zTb := zTm (L := tables_1_3) zT3 207 rfl rfl
theorem wk_1271 : Cond.methodLink "EndSumsLaw" 155 yX8_same ∈ zTb := zTm (L := tables_1_6) zT6 71 rfl rfl
theorem wk_713 : Cond.methodLink "EndSumsLaw" 156 yX7_shared ∈ zTb := zTm (L := tables_1_3) zT3 233 rfl rfl
theorem wk_1279 : Cond.methodLink "EndSumsLaw" 159 yX8_shared ∈ zTb := zTm (L := tables_1_6) zT6 79 rfl rfl
theorem wk_723 : Cond.methodLink "EndSumsLaw" 160 yX7_would ∈ zTb := zTm (L := tables_1_4) zT4 3 rfl rfl
theorem wk_1257 : Cond.methodLink "EndSumsLaw" 163 yX8_would ∈ zTb := zTm (L := tables_1_6) zT6 57 rfl rfl
theorem wk_729 : Cond.methodLink "EndSumsLaw" 164 yX7_dearest ∈ zTb := zTm (L := tables_1_4) zT4 9 rfl rfl
theorem wk_1261 : Cond.methodLink "EndSumsLaw" 167 yX8_dearest ∈ zTb := zTm (L := tables_1_6) zT6 61 rfl rfl
theorem wk_754 : Cond.methodLink "EndSumsLaw" 168 yX7_count ∈ zTb := zTm (L := tables_1_4) zT4 34 rfl rfl
theorem wk_1283 : Cond.methodLink "EndSumsLaw" 171 yX8_count ∈ zTb := zTm (L := tables_1_6) zT6 83 rfl rfl
theorem wk_834 : Cond.codeWith yL_row cL_row 4 (some .int) [(0, 8, 11, 13)] ∈ zTb := zTm (L := tables_1_4) zT4 114 rfl rfl
theorem wk_833 : Cond.static yL_row ∈ zTb := zTm (L := tables_1_4) zT4 113 rfl rfl
theorem wk_832 : Cond.methodLink "EndSumsLaw" 172 yL_row ∈ zTb := zTm (L := tables_1_4) zT4 112 rfl rfl
theorem wk_1287 : Cond.methodLink "EndSumsLaw" 175 yX8_row ∈ zTb := zTm (L := tables_1_6) zT6 87 rfl rfl
abbrev ML_law : zM := (cL_law, "EndSumsLaw", 8, ret, room_1)
/-- the law's end: what it is told, and how much may have been made by now -/
def zLw (b L : Nat) (xs : Nat → Int32) (k : Nat) : zEnd Unit := (fun l s _ AD A cells slots => l.stackTraces = false ∧ zXp A s s.heap ∧ va_X b L xs s s.heap ∧ AD 94 = b ∧ b < s.heap.size ∧ A = (fun q => s.heap.size ≤ q) ∧ cells ≤ 93 + k ∧ slots ≤ 6965 + 6 * k, fun _ _ _ _ _ below args s => lw_Z below args s)
theorem z_lwret {p : Program} {l : Launch} {e : Env} {s : State} {m : MethodId} {args : Array Value} {below : List Frame} {meth : Method} {c : Code} (hx : p.tables.exec = Jvm.exec) (hb : c.code = code) (hr : meth.sig.returnType = ret) (hlocks : meth.locks = false) {pc : Nat} {H : Heap} {ls : Array Slot} (hdg : decode code pc = .ok (.ireturn, 1)) : W p l e room_1 s m args below meth c H [] 600002 7302232 (lw_Z below args s) (F0 m pc ls [.int 1]) := by
  intro T hT X
  obtain ⟨fs, hret, hrun, hended, hW, hframe⟩ := X.leave (v := some (.int 1)) (hlocks := hlocks) (fun h => by rw [hr] at h; cases h)
  have hmeth' : T.vm.method? m = some meth := X.method'
  refine ⟨T.setFrames fs, ?_, .returned (some (.int 1)), hrun, hended, rfl, ⟨_, rfl⟩, hW, hframe⟩
  jvm_step X.here [X.here.top, hx, hb, hdg, hmeth', hr, ret, narrow_b1]
  (try refine ⟨rfl, ?_⟩); (try refine ⟨rfl, ?_⟩)
  first | (intro acts; rw [hret _ acts rfl rfl rfl]) | rw [hret _ _ rfl rfl rfl]
  exact Steps.refl _
section TL
variable {b L k : Nat} {xs : Nat → Int32} {r : Option (Unit × zW)} {pc : Nat} {lv : List (Nat × Value)} {st : List Value} {w : zW}
theorem tz_lwret (d : decode code pc = .ok (.ireturn, 1)) : Tz ML_law (zLw b L xs k) (some ((), w)) pc lv [.int 1] w := by
  intro res h p l e s m args below meth c D cA AD A X cells slots hB hE H locs ls hP hS hl
  cases h
  obtain ⟨htr, hXp, hX, hAD, hbl, hAe, hc, hs⟩ := hE
  subst hAe
  refine va_forget (fun q hq => hS.2.2 q hq) ?_
  refine W.widen (k := 600002) (n := 7302232) hB.1 hB.2 ?_
  exact z_lwret X.1 X.2.1 X.2.2.1 X.2.2.2.2.2.2.1 d
theorem tz_lwk (k1 : Tz ML_law (zLw b L xs (k + 1)) r pc lv st w) : Tz ML_law (zLw b L xs k) r pc lv st w := by
  intro res h p l e s m args below meth c D cA AD A X cells slots hB hE H locs ls hP hS hl
  obtain ⟨htr, hXp, hX, hAD, hbl, hAe, hc, hs⟩ := hE
  exact k1 res h p l e s m args below meth c D cA AD A X cells slots hB ⟨htr, hXp, hX, hAD, hbl, hAe, by omega, by omega⟩ H locs ls hP hS hl
theorem tz_sld {i : Int32} (d : decode ML_law.1 pc = .ok (.iaload, 1)) (k1 : Tz ML_law (zLw b L xs k) r (pc + 1) lv (.int (xs i.toNatClampNeg) :: st) w) : Tz ML_law (zLw b L xs k) (zg (zin i L) r) pc lv (.int i :: .ref 94 :: st) w := by
  intro res h p l e s m args below meth c D cA AD A X cells slots hB hE H locs ls hP hS hl
  have hE' := hE
  obtain ⟨htr, hXp, hX, hAD, hbl, hAe, hc, hs⟩ := hE
  show W p l e _ s m args below meth c H locs cells slots _ (F0 m pc ls (.int i :: .ref (AD 94) :: zes AD st))
  rw [hAD]
  exact va_sld X.1 X.2.1 hX hbl (by rw [hAe]; exact Nat.not_le.mpr hbl) hS (zin_vp (zg_some h).1) d (k1 res (zg_some h).2 p l e s m args below meth c D cA AD A X cells slots hB hE' H locs ls hP hS hl)
theorem tz_slen (d : decode ML_law.1 pc = .ok (.arraylength, 1)) (k1 : Tz ML_law (zLw b L xs k) r (pc + 1) lv (.int (nI L) :: st) w) : Tz ML_law (zLw b L xs k) r pc lv (.ref 94 :: st) w := by
  intro res h p l e s m args below meth c D cA AD A X cells slots hB hE H locs ls hP hS hl
  have hE' := hE
  obtain ⟨htr, hXp, hX, hAD, hbl, hAe, hc, hs⟩ := hE
  show W p l e _ s m args below meth c H locs cells slots _ (F0 m pc ls (.ref (AD 94) :: zes AD st))
  rw [hAD]
  exact va_slen X.1 X.2.1 hX hbl (by rw [hAe]; exact Nat.not_le.mpr hbl) hS d (k1 res h p l e s m args below meth c D cA AD A X cells slots hB hE' H locs ls hP hS hl)
end TL
section ZC1
variable {p : Program} {l : Launch} {e : Env} {R : Room} {s : State} {m : MethodId} {args : Array Value} {below : List Frame} {meth : Method} {c : Code} {H : Heap} {locs : List Loc} {cells slots : Nat} {Q : State → Prop} {pc : Nat} {ls : Array Slot} {st0 rest : List Value} {a : Array Value}
theorem z_call1 {ρ : Type} {D : va_G} {cA : Nat → ClassId} {AD : Nat → Nat} {A : Nat → Prop} {inj : ρ → Option Value} {res : ρ × zW} (hr : va_Run p l e R s m args below meth c H locs cells slots 1 6 (F0 m pc ls st0) rest (zQ D cA AD (zA AD H.size) inj res a) (zA AD H.size)) (hS : va_S A s.heap H locs) (hA : ∀ q, zA AD H.size q → A q)
    (kk : ∀ (H1 : Heap) (locs1 : List Loc), va_P D vwCl (zws cA AD res.2) H1 → va_S A s.heap H1 locs1 → W p l e R s m args below meth c H1 locs1 (cells + 1) (slots + 6) Q (F0 m (pc + 3) ls (((inj res.1).map (zev AD)).toList ++ rest))) : W p l e R s m args below meth c H locs cells slots Q (F0 m pc ls st0) := by
  intro T hT X
  obtain ⟨v, st₀, t, T', L, h0, X', hL, e1, e2, ⟨⟨hv, hp⟩, hz, hk⟩, st⟩ := hr T hT X
  cases hv
  rw [h0] at hz hk
  obtain ⟨t2, a1, b1⟩ := kk T'.heap (locs ++ L) (by rw [e1]; exact hp)
    ⟨Nat.le_trans hS.1 (by rw [e1]; exact hz), fun q h1 h2 => by rw [e1, hk q (Nat.lt_of_lt_of_le h1 hS.1) (fun z => h2 (hA q z))]; exact hS.2.1 q h1 h2, fun q hq => by
      rcases List.mem_append.mp hq with h | h
      · exact hS.2.2 q h
      · exact hA _ (hL q h)⟩ T' rfl X'
  exact ⟨t2, st t2 a1, b1⟩
end ZC1
set_option maxHeartbeats 2000000 in
theorem tz_cX1 {b L k : Nat} {xs : Nat → Int32} {pc : Nat} {lv : List (Nat × Value)} {st rest : List Value} {w : zW} {y : MethodName} {My : zM} {hh : List (Nat × Nat × Nat × Nat)} {f : Option (Int32 × zW)} {F : Int32 → zW → Option (Unit × zW)} {As : List Value} {n index : Nat} (hk : k ≤ 100000) (hw1 : Cond.codeWith y My.1 My.2.2.1 My.2.2.2.1 hh ∈ zTb) (hw2 : Cond.static y ∈ zTb) (hw3 : Cond.initialized y.cls ∈ zTb) (hw4 : Cond.methodLink "EndSumsLaw" index y ∈ zTb) (hd : y.cls ≠ "java/lang/invoke/MethodHandle" ∧ y.cls ≠ "java/lang/invoke/VarHandle" ∧ (parseMethodDescriptor y.desc).map (fun d => d.parameters.length) = some n) (hr1 : My.2.2.2.2.cells = 1) (hr2 : My.2.2.2.2.slots = 6) (hR : My.2.2.2.2.frames + 1 ≤ 2048 ∧ 8 + (My.2.2.1 + 11) + My.2.2.2.2.locals ≤ 84000)
    (hS0 : Sm1 y My hh zi As w f) (hn : As.length = n) (hst : st = As.reverse ++ rest) (hcat : (rest.map fun v => v.category).sum ≤ 8) (d : decode ML_law.1 pc = .ok (.invokestatic index, 3)) (k1 : ∀ (v : Int32) (w1 : zW), f = some (v, w1) → Tz ML_law (zLw b L xs (k + 1)) (F v w1) (pc + 3) lv (.int v :: rest) w1) : Tz ML_law (zLw b L xs k) (bd f F) pc lv st w := by
  intro res h p l e s m args below meth c D cA AD A X cells slots hB hE H locs ls hP hS hl
  obtain ⟨v, w1, hf, hF⟩ := bd_some h
  obtain ⟨htr, hXp, hX, hAD, hbl, hAe, hc, hs⟩ := hE
  have hM := hS0 (v, w1) hf l htr D cA AD H.size
  subst hst
  have hG : GoodIn zTb (.codeWith y My.1 My.2.2.1 My.2.2.2.1 hh :: zTb) := zTb_goodIn fun w hw => (List.mem_cons.mp hw).elim (fun z => z ▸ hw1) id
  have hlen : ∀ sig, parseMethodDescriptor y.desc = some sig → n = sig.parameters.length := fun sig h9 => by
    have h2 := hd.2.2
    rw [h9] at h2
    exact (Option.some.inj h2).symm
  refine z_call1 (rest := zes AD rest) (vx_runSW (hh := hh) (bytes := My.1) (maxL := My.2.2.1) (ret := My.2.2.2.1) (rm := My.2.2.2.2) (mc := 1) (ms := 6) (n := n) (S := ⟨X.1, X.2.1, X.2.2.2.1, X.2.2.2.2.1, X.2.2.2.2.2.1⟩) (As := zes AD As) hM ⟨⟨hr1, hr2, hR.1, hR.2, pay_in X.2.2.2.2.2.1 hG, List.mem_cons_self⟩, X.2.2.2.2.2.1 _ hw1, X.2.2.2.2.2.1 _ hw3, ⟨hd.1, hd.2.1⟩, hlen, X.2.2.2.2.2.1 _ hw4, X.2.2.2.2.2.1 _ hw2⟩ ⟨zPcX_blind, fun U hU hW => ⟨rfl, zPre_of X hP hS hU hW, ?_⟩⟩ rfl (by simpa [zes] using hn) hl.1 (by simp [zes, zev]) ?_ d ?_) hS (zA_in X hS) (fun H1 locs1 hP1 hS1 => ?_)
  · rw [hU]
    exact zXp_moved hW (zXp_narrow (zXp_kept hXp hS.2.1) (zA_in X hS))
  · exact lv_room (by rw [zes_cat]; exact hcat)
  · constructor
    · exact Nat.le_trans (Nat.add_le_add_right hc 1) (by show _ ≤ 600002; omega)
    · exact Nat.le_trans (Nat.add_le_add_right hs 6) (by show _ ≤ 7302232; omega)
  · rw [zes_app]
    exact k1 v w1 hf res hF p l e s m args below meth c D cA AD A X (cells + 1) (slots + 6) ⟨Nat.le_trans (Nat.add_le_add_right hc 1) (by show _ ≤ 600002; omega), Nat.le_trans (Nat.add_le_add_right hs 6) (by show _ ≤ 7302232; omega)⟩ ⟨htr, hXp, hX, hAD, hbl, hAe, by omega, by omega⟩ H1 locs1 ls hP1 hS1 hl
theorem zlw_nx (k : Nat) : nI (4 * k) + (4 : Int32) = nI (4 * (k + 1)) := by
  have h : (4 : Int32) = nI 4 := rfl
  rw [h, nI_add]; congr 1
theorem zlw_bd {L k : Nat} (hL : L ≤ 2048) (hk : 4 * k ≤ L + 3) (q : ¬ (nI L - (4 : Int32)) < nI (4 * k)) : 4 * k + 4 ≤ L := by
  have h : (4 : Int32) = nI 4 := rfl
  rw [h, Int32.lt_iff_toInt_lt, pk_sub_toInt (by omega) (by omega), nI_toInt (by omega)] at q
  omega
def QL_law_0 : List (Nat × Instr × Nat) := [(0, .new 8, 3), (3, .dup, 1), (4, .invokespecial 19, 3), (7, .astore_n 1, 1), (8, .new 20, 3), (11, .dup, 1), (12, .invokespecial 22, 3), (15, .astore_n 2, 1), (16, .iconst 1, 1), (17, .newarray .long, 2), (19, .astore_n 3, 1), (20, .iconst 0, 1), (21, .istore 4, 2), (23, .iload 4, 2), (25, .aload_n 0, 1), (26, .arraylength, 1), (27, .iconst 4, 1), (28, .isub, 1), (29, .if_icmp .gt 1446, 3), (32, .aload_n 0, 1), (33, .iload 4, 2), (35, .iaload, 1), (36, .bipush 63, 2), (38, .iand, 1), (39, .tableswitch 1430 0 35 #[157, 182, 195, 232, 269, 294, 319, 368, 405, 442, 479, 528, 553, 602, 651, 688, 737, 762, 787, 812, 837, 862, 930, 979, 1016, 1053, 1090, 1127, 1176, 1201, 1226, 1263, 1276, 1313, 1350, 1375], 157), (196, .aload_n 1, 1), (197, .aload_n 0, 1), (198, .iload 4, 2), (200, .iconst 1, 1), (201, .iadd, 1), (202, .iaload, 1), (203, .invokevirtual 23, 3), (206, .aload_n 2, 1), (207, .aload_n 0, 1), (208, .iload 4, 2), (210, .iconst 1, 1), (211, .iadd, 1), (212, .iaload, 1), (213, .invokevirtual 27, 3), (216, .if_icmp .eq 1253, 3), (219, .iconst 0, 1), (220, .ireturn, 1), (221, .aload_n 1, 1), (222, .invokevirtual 28, 3), (225, .aload_n 2, 1), (226, .invokevirtual 32, 3), (229, .if_icmp .eq 1240, 3), (232, .iconst 0, 1), (233, .ireturn, 1), (234, .aload_n 1, 1), (235, .aload_n 0, 1), (236, .iload 4, 2), (238, .iconst 1, 1), (239, .iadd, 1), (240, .iaload, 1), (241, .aload_n 0, 1), (242, .iload 4, 2), (244, .iconst 2, 1), (245, .iadd, 1), (246, .iaload, 1)]
set_option maxRecDepth 100000 in
theorem DL_law_0 : ∀ q ∈ QL_law_0, decode cL_law q.1 = .ok (q.2.1, q.2.2) := by decide +kernel
def QL_law_1 : List (Nat × Instr × Nat) := [(247, .invokevirtual 33, 3), (250, .aload_n 2, 1), (251, .aload_n 0, 1), (252, .iload 4, 2), (254, .iconst 1, 1), (255, .iadd, 1), (256, .iaload, 1), (257, .aload_n 0, 1), (258, .iload 4, 2), (260, .iconst 2, 1), (261, .iadd, 1), (262, .iaload, 1), (263, .invokevirtual 36, 3), (266, .if_icmp .eq 1203, 3), (269, .iconst 0, 1), (270, .ireturn, 1), (271, .aload_n 1, 1), (272, .aload_n 0, 1), (273, .iload 4, 2), (275, .iconst 1, 1), (276, .iadd, 1), (277, .iaload, 1), (278, .aload_n 0, 1), (279, .iload 4, 2), (281, .iconst 2, 1), (282, .iadd, 1), (283, .iaload, 1), (284, .invokevirtual 37, 3), (287, .aload_n 2, 1), (288, .aload_n 0, 1), (289, .iload 4, 2), (291, .iconst 1, 1), (292, .iadd, 1), (293, .iaload, 1), (294, .aload_n 0, 1), (295, .iload 4, 2), (297, .iconst 2, 1), (298, .iadd, 1), (299, .iaload, 1), (300, .invokevirtual 40, 3), (303, .if_icmp .eq 1166, 3), (306, .iconst 0, 1), (307, .ireturn, 1), (308, .aload_n 1, 1), (309, .aload_n 0, 1), (310, .iload 4, 2), (312, .iconst 1, 1), (313, .iadd, 1), (314, .iaload, 1), (315, .invokevirtual 41, 3), (318, .aload_n 2, 1), (319, .aload_n 0, 1), (320, .iload 4, 2), (322, .iconst 1, 1), (323, .iadd, 1), (324, .iaload, 1), (325, .invokevirtual 44, 3), (328, .if_icmp .eq 1141, 3), (331, .iconst 0, 1), (332, .ireturn, 1)]
set_option maxRecDepth 100000 in
theorem DL_law_1 : ∀ q ∈ QL_law_1, decode cL_law q.1 = .ok (q.2.1, q.2.2) := by decide +kernel
def QL_law_2 : List (Nat × Instr × Nat) := [(333, .aload_n 1, 1), (334, .aload_n 0, 1), (335, .iload 4, 2), (337, .iconst 1, 1), (338, .iadd, 1), (339, .iaload, 1), (340, .invokevirtual 45, 3), (343, .aload_n 2, 1), (344, .aload_n 0, 1), (345, .iload 4, 2), (347, .iconst 1, 1), (348, .iadd, 1), (349, .iaload, 1), (350, .invokevirtual 48, 3), (353, .if_icmp .eq 1116, 3), (356, .iconst 0, 1), (357, .ireturn, 1), (358, .aload_n 1, 1), (359, .aload_n 0, 1), (360, .iload 4, 2), (362, .iconst 1, 1), (363, .iadd, 1), (364, .iaload, 1), (365, .aload_n 0, 1), (366, .iload 4, 2), (368, .iconst 2, 1), (369, .iadd, 1), (370, .iaload, 1), (371, .aload_n 0, 1), (372, .iload 4, 2), (374, .iconst 3, 1), (375, .iadd, 1), (376, .iaload, 1), (377, .invokevirtual 49, 3), (380, .aload_n 2, 1), (381, .aload_n 0, 1), (382, .iload 4, 2), (384, .iconst 1, 1), (385, .iadd, 1), (386, .iaload, 1), (387, .aload_n 0, 1), (388, .iload 4, 2), (390, .iconst 2, 1), (391, .iadd, 1), (392, .iaload, 1), (393, .aload_n 0, 1), (394, .iload 4, 2), (396, .iconst 3, 1), (397, .iadd, 1), (398, .iaload, 1), (399, .invokevirtual 53, 3), (402, .if_icmp .eq 1067, 3), (405, .iconst 0, 1), (406, .ireturn, 1), (407, .aload_n 1, 1), (408, .aload_n 0, 1), (409, .iload 4, 2), (411, .iconst 1, 1), (412, .iadd, 1), (413, .iaload, 1)]
set_option maxRecDepth 100000 in
theorem DL_law_2 : ∀ q ∈ QL_law_2, decode cL_law q.1 = .ok (q.2.1, q.2.2) := by decide +kernel
def QL_law_3 : List (Nat × Instr × Nat) := [(414, .aload_n 0, 1), (415, .iload 4, 2), (417, .iconst 2, 1), (418, .iadd, 1), (419, .iaload, 1), (420, .invokevirtual 54, 3), (423, .aload_n 2, 1), (424, .aload_n 0, 1), (425, .iload 4, 2), (427, .iconst 1, 1), (428, .iadd, 1), (429, .iaload, 1), (430, .aload_n 0, 1), (431, .iload 4, 2), (433, .iconst 2, 1), (434, .iadd, 1), (435, .iaload, 1), (436, .invokevirtual 57, 3), (439, .if_icmp .eq 1030, 3), (442, .iconst 0, 1), (443, .ireturn, 1), (444, .aload_n 1, 1), (445, .aload_n 0, 1), (446, .iload 4, 2), (448, .iconst 1, 1), (449, .iadd, 1), (450, .iaload, 1), (451, .aload_n 0, 1), (452, .iload 4, 2), (454, .iconst 2, 1), (455, .iadd, 1), (456, .iaload, 1), (457, .invokevirtual 58, 3), (460, .aload_n 2, 1), (461, .aload_n 0, 1), (462, .iload 4, 2), (464, .iconst 1, 1), (465, .iadd, 1), (466, .iaload, 1), (467, .aload_n 0, 1), (468, .iload 4, 2), (470, .iconst 2, 1), (471, .iadd, 1), (472, .iaload, 1), (473, .invokevirtual 61, 3), (476, .if_icmp .eq 993, 3), (479, .iconst 0, 1), (480, .ireturn, 1), (481, .aload_n 1, 1), (482, .aload_n 0, 1), (483, .iload 4, 2), (485, .iconst 1, 1), (486, .iadd, 1), (487, .iaload, 1), (488, .aload_n 0, 1), (489, .iload 4, 2), (491, .iconst 2, 1), (492, .iadd, 1), (493, .iaload, 1), (494, .invokevirtual 62, 3)]
set_option maxRecDepth 100000 in
theorem DL_law_3 : ∀ q ∈ QL_law_3, decode cL_law q.1 = .ok (q.2.1, q.2.2) := by decide +kernel
def QL_law_4 : List (Nat × Instr × Nat) := [(497, .aload_n 2, 1), (498, .aload_n 0, 1), (499, .iload 4, 2), (501, .iconst 1, 1), (502, .iadd, 1), (503, .iaload, 1), (504, .aload_n 0, 1), (505, .iload 4, 2), (507, .iconst 2, 1), (508, .iadd, 1), (509, .iaload, 1), (510, .invokevirtual 65, 3), (513, .if_icmp .eq 956, 3), (516, .iconst 0, 1), (517, .ireturn, 1), (518, .aload_n 1, 1), (519, .aload_n 0, 1), (520, .iload 4, 2), (522, .iconst 1, 1), (523, .iadd, 1), (524, .iaload, 1), (525, .aload_n 0, 1), (526, .iload 4, 2), (528, .iconst 2, 1), (529, .iadd, 1), (530, .iaload, 1), (531, .aload_n 0, 1), (532, .iload 4, 2), (534, .iconst 3, 1), (535, .iadd, 1), (536, .iaload, 1), (537, .invokevirtual 66, 3), (540, .aload_n 2, 1), (541, .aload_n 0, 1), (542, .iload 4, 2), (544, .iconst 1, 1), (545, .iadd, 1), (546, .iaload, 1), (547, .aload_n 0, 1), (548, .iload 4, 2), (550, .iconst 2, 1), (551, .iadd, 1), (552, .iaload, 1), (553, .aload_n 0, 1), (554, .iload 4, 2), (556, .iconst 3, 1), (557, .iadd, 1), (558, .iaload, 1), (559, .invokevirtual 69, 3), (562, .if_icmp .eq 907, 3), (565, .iconst 0, 1), (566, .ireturn, 1), (567, .aload_n 1, 1), (568, .aload_n 0, 1), (569, .iload 4, 2), (571, .iconst 1, 1), (572, .iadd, 1), (573, .iaload, 1), (574, .invokevirtual 70, 3), (577, .aload_n 2, 1)]
set_option maxRecDepth 100000 in
theorem DL_law_4 : ∀ q ∈ QL_law_4, decode cL_law q.1 = .ok (q.2.1, q.2.2) := by decide +kernel
def QL_law_5 : List (Nat × Instr × Nat) := [(578, .aload_n 0, 1), (579, .iload 4, 2), (581, .iconst 1, 1), (582, .iadd, 1), (583, .iaload, 1), (584, .invokevirtual 73, 3), (587, .if_icmp .eq 882, 3), (590, .iconst 0, 1), (591, .ireturn, 1), (592, .aload_n 1, 1), (593, .aload_n 0, 1), (594, .iload 4, 2), (596, .iconst 1, 1), (597, .iadd, 1), (598, .iaload, 1), (599, .aload_n 0, 1), (600, .iload 4, 2), (602, .iconst 2, 1), (603, .iadd, 1), (604, .iaload, 1), (605, .aload_n 0, 1), (606, .iload 4, 2), (608, .iconst 3, 1), (609, .iadd, 1), (610, .iaload, 1), (611, .invokevirtual 74, 3), (614, .aload_n 2, 1), (615, .aload_n 0, 1), (616, .iload 4, 2), (618, .iconst 1, 1), (619, .iadd, 1), (620, .iaload, 1), (621, .aload_n 0, 1), (622, .iload 4, 2), (624, .iconst 2, 1), (625, .iadd, 1), (626, .iaload, 1), (627, .aload_n 0, 1), (628, .iload 4, 2), (630, .iconst 3, 1), (631, .iadd, 1), (632, .iaload, 1), (633, .invokevirtual 77, 3), (636, .if_icmp .eq 833, 3), (639, .iconst 0, 1), (640, .ireturn, 1), (641, .aload_n 1, 1), (642, .aload_n 0, 1), (643, .iload 4, 2), (645, .iconst 1, 1), (646, .iadd, 1), (647, .iaload, 1), (648, .aload_n 0, 1), (649, .iload 4, 2), (651, .iconst 2, 1), (652, .iadd, 1), (653, .iaload, 1), (654, .aload_n 0, 1), (655, .iload 4, 2), (657, .iconst 3, 1)]
set_option maxRecDepth 100000 in
theorem DL_law_5 : ∀ q ∈ QL_law_5, decode cL_law q.1 = .ok (q.2.1, q.2.2) := by decide +kernel
def QL_law_6 : List (Nat × Instr × Nat) := [(658, .iadd, 1), (659, .iaload, 1), (660, .invokevirtual 78, 3), (663, .aload_n 2, 1), (664, .aload_n 0, 1), (665, .iload 4, 2), (667, .iconst 1, 1), (668, .iadd, 1), (669, .iaload, 1), (670, .aload_n 0, 1), (671, .iload 4, 2), (673, .iconst 2, 1), (674, .iadd, 1), (675, .iaload, 1), (676, .aload_n 0, 1), (677, .iload 4, 2), (679, .iconst 3, 1), (680, .iadd, 1), (681, .iaload, 1), (682, .invokevirtual 81, 3), (685, .if_icmp .eq 784, 3), (688, .iconst 0, 1), (689, .ireturn, 1), (690, .aload_n 1, 1), (691, .aload_n 0, 1), (692, .iload 4, 2), (694, .iconst 1, 1), (695, .iadd, 1), (696, .iaload, 1), (697, .aload_n 0, 1), (698, .iload 4, 2), (700, .iconst 2, 1), (701, .iadd, 1), (702, .iaload, 1), (703, .invokevirtual 82, 3), (706, .aload_n 2, 1), (707, .aload_n 0, 1), (708, .iload 4, 2), (710, .iconst 1, 1), (711, .iadd, 1), (712, .iaload, 1), (713, .aload_n 0, 1), (714, .iload 4, 2), (716, .iconst 2, 1), (717, .iadd, 1), (718, .iaload, 1), (719, .invokevirtual 85, 3), (722, .if_icmp .eq 747, 3), (725, .iconst 0, 1), (726, .ireturn, 1), (727, .aload_n 1, 1), (728, .aload_n 0, 1), (729, .iload 4, 2), (731, .iconst 1, 1), (732, .iadd, 1), (733, .iaload, 1), (734, .aload_n 0, 1), (735, .iload 4, 2), (737, .iconst 2, 1), (738, .iadd, 1)]
set_option maxRecDepth 100000 in
theorem DL_law_6 : ∀ q ∈ QL_law_6, decode cL_law q.1 = .ok (q.2.1, q.2.2) := by decide +kernel
def QL_law_7 : List (Nat × Instr × Nat) := [(739, .iaload, 1), (740, .aload_n 0, 1), (741, .iload 4, 2), (743, .iconst 3, 1), (744, .iadd, 1), (745, .iaload, 1), (746, .invokevirtual 86, 3), (749, .aload_n 2, 1), (750, .aload_n 0, 1), (751, .iload 4, 2), (753, .iconst 1, 1), (754, .iadd, 1), (755, .iaload, 1), (756, .aload_n 0, 1), (757, .iload 4, 2), (759, .iconst 2, 1), (760, .iadd, 1), (761, .iaload, 1), (762, .aload_n 0, 1), (763, .iload 4, 2), (765, .iconst 3, 1), (766, .iadd, 1), (767, .iaload, 1), (768, .invokevirtual 89, 3), (771, .if_icmp .eq 698, 3), (774, .iconst 0, 1), (775, .ireturn, 1), (776, .aload_n 1, 1), (777, .aload_n 0, 1), (778, .iload 4, 2), (780, .iconst 1, 1), (781, .iadd, 1), (782, .iaload, 1), (783, .invokevirtual 90, 3), (786, .aload_n 2, 1), (787, .aload_n 0, 1), (788, .iload 4, 2), (790, .iconst 1, 1), (791, .iadd, 1), (792, .iaload, 1), (793, .invokevirtual 93, 3), (796, .if_icmp .eq 673, 3), (799, .iconst 0, 1), (800, .ireturn, 1), (801, .aload_n 1, 1), (802, .aload_n 0, 1), (803, .iload 4, 2), (805, .iconst 1, 1), (806, .iadd, 1), (807, .iaload, 1), (808, .invokevirtual 94, 3), (811, .aload_n 2, 1), (812, .aload_n 0, 1), (813, .iload 4, 2), (815, .iconst 1, 1), (816, .iadd, 1), (817, .iaload, 1), (818, .invokevirtual 97, 3), (821, .if_icmp .eq 648, 3), (824, .iconst 0, 1)]
set_option maxRecDepth 100000 in
theorem DL_law_7 : ∀ q ∈ QL_law_7, decode cL_law q.1 = .ok (q.2.1, q.2.2) := by decide +kernel
def QL_law_8 : List (Nat × Instr × Nat) := [(825, .ireturn, 1), (826, .aload_n 1, 1), (827, .aload_n 0, 1), (828, .iload 4, 2), (830, .iconst 1, 1), (831, .iadd, 1), (832, .iaload, 1), (833, .invokevirtual 98, 3), (836, .aload_n 2, 1), (837, .aload_n 0, 1), (838, .iload 4, 2), (840, .iconst 1, 1), (841, .iadd, 1), (842, .iaload, 1), (843, .invokevirtual 101, 3), (846, .if_icmp .eq 623, 3), (849, .iconst 0, 1), (850, .ireturn, 1), (851, .aload_n 1, 1), (852, .aload_n 0, 1), (853, .iload 4, 2), (855, .iconst 1, 1), (856, .iadd, 1), (857, .iaload, 1), (858, .invokevirtual 102, 3), (861, .aload_n 2, 1), (862, .aload_n 0, 1), (863, .iload 4, 2), (865, .iconst 1, 1), (866, .iadd, 1), (867, .iaload, 1), (868, .invokevirtual 106, 3), (871, .if_icmp .eq 598, 3), (874, .iconst 0, 1), (875, .ireturn, 1), (876, .aload_n 1, 1), (877, .aload_n 0, 1), (878, .iload 4, 2), (880, .iconst 1, 1), (881, .iadd, 1), (882, .iaload, 1), (883, .invokevirtual 107, 3), (886, .aload_n 2, 1), (887, .aload_n 0, 1), (888, .iload 4, 2), (890, .iconst 1, 1), (891, .iadd, 1), (892, .iaload, 1), (893, .invokevirtual 110, 3), (896, .if_icmp .eq 573, 3), (899, .iconst 0, 1), (900, .ireturn, 1), (901, .aload_n 1, 1), (902, .aload_n 0, 1), (903, .iload 4, 2), (905, .iconst 1, 1), (906, .iadd, 1), (907, .iaload, 1), (908, .aload_n 0, 1), (909, .iload 4, 2)]
set_option maxRecDepth 100000 in
theorem DL_law_8 : ∀ q ∈ QL_law_8, decode cL_law q.1 = .ok (q.2.1, q.2.2) := by decide +kernel
def QL_law_9 : List (Nat × Instr × Nat) := [(911, .iconst 2, 1), (912, .iadd, 1), (913, .iaload, 1), (914, .aload_n 3, 1), (915, .invokestatic 111, 3), (918, .istore 5, 2), (920, .aload_n 2, 1), (921, .aload_n 0, 1), (922, .iload 4, 2), (924, .iconst 1, 1), (925, .iadd, 1), (926, .iaload, 1), (927, .aload_n 0, 1), (928, .iload 4, 2), (930, .iconst 2, 1), (931, .iadd, 1), (932, .iaload, 1), (933, .invokevirtual 116, 3), (936, .istore 6, 2), (938, .aload_n 2, 1), (939, .invokevirtual 117, 3), (942, .iload 5, 2), (944, .if_icmp .eq 5, 3), (947, .iconst 0, 1), (948, .ireturn, 1), (949, .iload 5, 2), (951, .ifCond .ne 15, 3), (954, .aload_n 3, 1), (955, .iconst 0, 1), (956, .laload, 1), (957, .iload 6, 2), (959, .i2l, 1), (960, .lcmp, 1), (961, .ifCond .eq 5, 3), (964, .iconst 0, 1), (965, .ireturn, 1), (966, .goto 503, 3), (969, .aload_n 1, 1), (970, .aload_n 0, 1), (971, .iload 4, 2), (973, .iconst 1, 1), (974, .iadd, 1), (975, .iaload, 1), (976, .aload_n 0, 1), (977, .iload 4, 2), (979, .iconst 2, 1), (980, .iadd, 1), (981, .iaload, 1), (982, .aload_n 0, 1), (983, .iload 4, 2), (985, .iconst 3, 1), (986, .iadd, 1), (987, .iaload, 1), (988, .invokevirtual 120, 3), (991, .aload_n 2, 1), (992, .aload_n 0, 1), (993, .iload 4, 2), (995, .iconst 1, 1), (996, .iadd, 1), (997, .iaload, 1)]
set_option maxRecDepth 100000 in
theorem DL_law_9 : ∀ q ∈ QL_law_9, decode cL_law q.1 = .ok (q.2.1, q.2.2) := by decide +kernel
def QL_law_10 : List (Nat × Instr × Nat) := [(998, .aload_n 0, 1), (999, .iload 4, 2), (1001, .iconst 2, 1), (1002, .iadd, 1), (1003, .iaload, 1), (1004, .aload_n 0, 1), (1005, .iload 4, 2), (1007, .iconst 3, 1), (1008, .iadd, 1), (1009, .iaload, 1), (1010, .invokevirtual 123, 3), (1013, .if_icmp .eq 456, 3), (1016, .iconst 0, 1), (1017, .ireturn, 1), (1018, .aload_n 1, 1), (1019, .aload_n 0, 1), (1020, .iload 4, 2), (1022, .iconst 1, 1), (1023, .iadd, 1), (1024, .iaload, 1), (1025, .aload_n 0, 1), (1026, .iload 4, 2), (1028, .iconst 2, 1), (1029, .iadd, 1), (1030, .iaload, 1), (1031, .invokevirtual 124, 3), (1034, .aload_n 2, 1), (1035, .aload_n 0, 1), (1036, .iload 4, 2), (1038, .iconst 1, 1), (1039, .iadd, 1), (1040, .iaload, 1), (1041, .aload_n 0, 1), (1042, .iload 4, 2), (1044, .iconst 2, 1), (1045, .iadd, 1), (1046, .iaload, 1), (1047, .invokevirtual 127, 3), (1050, .if_icmp .eq 419, 3), (1053, .iconst 0, 1), (1054, .ireturn, 1), (1055, .aload_n 1, 1), (1056, .aload_n 0, 1), (1057, .iload 4, 2), (1059, .iconst 1, 1), (1060, .iadd, 1), (1061, .iaload, 1), (1062, .aload_n 0, 1), (1063, .iload 4, 2), (1065, .iconst 2, 1), (1066, .iadd, 1), (1067, .iaload, 1), (1068, .invokevirtual 128, 3), (1071, .aload_n 2, 1), (1072, .aload_n 0, 1), (1073, .iload 4, 2), (1075, .iconst 1, 1), (1076, .iadd, 1), (1077, .iaload, 1), (1078, .aload_n 0, 1)]
set_option maxRecDepth 100000 in
theorem DL_law_10 : ∀ q ∈ QL_law_10, decode cL_law q.1 = .ok (q.2.1, q.2.2) := by decide +kernel
def QL_law_11 : List (Nat × Instr × Nat) := [(1079, .iload 4, 2), (1081, .iconst 2, 1), (1082, .iadd, 1), (1083, .iaload, 1), (1084, .invokevirtual 131, 3), (1087, .if_icmp .eq 382, 3), (1090, .iconst 0, 1), (1091, .ireturn, 1), (1092, .aload_n 1, 1), (1093, .aload_n 0, 1), (1094, .iload 4, 2), (1096, .iconst 1, 1), (1097, .iadd, 1), (1098, .iaload, 1), (1099, .aload_n 0, 1), (1100, .iload 4, 2), (1102, .iconst 2, 1), (1103, .iadd, 1), (1104, .iaload, 1), (1105, .invokevirtual 132, 3), (1108, .aload_n 2, 1), (1109, .aload_n 0, 1), (1110, .iload 4, 2), (1112, .iconst 1, 1), (1113, .iadd, 1), (1114, .iaload, 1), (1115, .aload_n 0, 1), (1116, .iload 4, 2), (1118, .iconst 2, 1), (1119, .iadd, 1), (1120, .iaload, 1), (1121, .invokevirtual 135, 3), (1124, .if_icmp .eq 345, 3), (1127, .iconst 0, 1), (1128, .ireturn, 1), (1129, .aload_n 1, 1), (1130, .aload_n 0, 1), (1131, .iload 4, 2), (1133, .iconst 1, 1), (1134, .iadd, 1), (1135, .iaload, 1), (1136, .aload_n 0, 1), (1137, .iload 4, 2), (1139, .iconst 2, 1), (1140, .iadd, 1), (1141, .iaload, 1), (1142, .invokevirtual 136, 3), (1145, .aload_n 2, 1), (1146, .aload_n 0, 1), (1147, .iload 4, 2), (1149, .iconst 1, 1), (1150, .iadd, 1), (1151, .iaload, 1), (1152, .aload_n 0, 1), (1153, .iload 4, 2), (1155, .iconst 2, 1), (1156, .iadd, 1), (1157, .iaload, 1), (1158, .invokevirtual 139, 3), (1161, .if_icmp .eq 308, 3)]
set_option maxRecDepth 100000 in
theorem DL_law_11 : ∀ q ∈ QL_law_11, decode cL_law q.1 = .ok (q.2.1, q.2.2) := by decide +kernel
def QL_law_12 : List (Nat × Instr × Nat) := [(1164, .iconst 0, 1), (1165, .ireturn, 1), (1166, .aload_n 1, 1), (1167, .aload_n 0, 1), (1168, .iload 4, 2), (1170, .iconst 1, 1), (1171, .iadd, 1), (1172, .iaload, 1), (1173, .aload_n 0, 1), (1174, .iload 4, 2), (1176, .iconst 2, 1), (1177, .iadd, 1), (1178, .iaload, 1), (1179, .aload_n 0, 1), (1180, .iload 4, 2), (1182, .iconst 3, 1), (1183, .iadd, 1), (1184, .iaload, 1), (1185, .invokevirtual 140, 3), (1188, .aload_n 2, 1), (1189, .aload_n 0, 1), (1190, .iload 4, 2), (1192, .iconst 1, 1), (1193, .iadd, 1), (1194, .iaload, 1), (1195, .aload_n 0, 1), (1196, .iload 4, 2), (1198, .iconst 2, 1), (1199, .iadd, 1), (1200, .iaload, 1), (1201, .aload_n 0, 1), (1202, .iload 4, 2), (1204, .iconst 3, 1), (1205, .iadd, 1), (1206, .iaload, 1), (1207, .invokevirtual 143, 3), (1210, .if_icmp .eq 259, 3), (1213, .iconst 0, 1), (1214, .ireturn, 1), (1215, .aload_n 1, 1), (1216, .aload_n 0, 1), (1217, .iload 4, 2), (1219, .iconst 1, 1), (1220, .iadd, 1), (1221, .iaload, 1), (1222, .invokevirtual 144, 3), (1225, .aload_n 2, 1), (1226, .aload_n 0, 1), (1227, .iload 4, 2), (1229, .iconst 1, 1), (1230, .iadd, 1), (1231, .iaload, 1), (1232, .invokevirtual 147, 3), (1235, .if_icmp .eq 234, 3), (1238, .iconst 0, 1), (1239, .ireturn, 1), (1240, .aload_n 1, 1), (1241, .aload_n 0, 1), (1242, .iload 4, 2), (1244, .iconst 1, 1)]
set_option maxRecDepth 100000 in
theorem DL_law_12 : ∀ q ∈ QL_law_12, decode cL_law q.1 = .ok (q.2.1, q.2.2) := by decide +kernel
def QL_law_13 : List (Nat × Instr × Nat) := [(1245, .iadd, 1), (1246, .iaload, 1), (1247, .invokevirtual 148, 3), (1250, .aload_n 2, 1), (1251, .aload_n 0, 1), (1252, .iload 4, 2), (1254, .iconst 1, 1), (1255, .iadd, 1), (1256, .iaload, 1), (1257, .invokevirtual 151, 3), (1260, .if_icmp .eq 209, 3), (1263, .iconst 0, 1), (1264, .ireturn, 1), (1265, .aload_n 1, 1), (1266, .aload_n 0, 1), (1267, .iload 4, 2), (1269, .iconst 1, 1), (1270, .iadd, 1), (1271, .iaload, 1), (1272, .aload_n 0, 1), (1273, .iload 4, 2), (1275, .iconst 2, 1), (1276, .iadd, 1), (1277, .iaload, 1), (1278, .invokevirtual 152, 3), (1281, .aload_n 2, 1), (1282, .aload_n 0, 1), (1283, .iload 4, 2), (1285, .iconst 1, 1), (1286, .iadd, 1), (1287, .iaload, 1), (1288, .aload_n 0, 1), (1289, .iload 4, 2), (1291, .iconst 2, 1), (1292, .iadd, 1), (1293, .iaload, 1), (1294, .invokevirtual 155, 3), (1297, .if_icmp .eq 172, 3), (1300, .iconst 0, 1), (1301, .ireturn, 1), (1302, .aload_n 1, 1), (1303, .invokevirtual 156, 3), (1306, .aload_n 2, 1), (1307, .invokevirtual 159, 3), (1310, .if_icmp .eq 159, 3), (1313, .iconst 0, 1), (1314, .ireturn, 1), (1315, .aload_n 1, 1), (1316, .aload_n 0, 1), (1317, .iload 4, 2), (1319, .iconst 1, 1), (1320, .iadd, 1), (1321, .iaload, 1), (1322, .aload_n 0, 1), (1323, .iload 4, 2), (1325, .iconst 2, 1), (1326, .iadd, 1), (1327, .iaload, 1), (1328, .invokevirtual 160, 3), (1331, .aload_n 2, 1)]
set_option maxRecDepth 100000 in
theorem DL_law_13 : ∀ q ∈ QL_law_13, decode cL_law q.1 = .ok (q.2.1, q.2.2) := by decide +kernel
def QL_law_14 : List (Nat × Instr × Nat) := [(1332, .aload_n 0, 1), (1333, .iload 4, 2), (1335, .iconst 1, 1), (1336, .iadd, 1), (1337, .iaload, 1), (1338, .aload_n 0, 1), (1339, .iload 4, 2), (1341, .iconst 2, 1), (1342, .iadd, 1), (1343, .iaload, 1), (1344, .invokevirtual 163, 3), (1347, .if_icmp .eq 122, 3), (1350, .iconst 0, 1), (1351, .ireturn, 1), (1352, .aload_n 1, 1), (1353, .aload_n 0, 1), (1354, .iload 4, 2), (1356, .iconst 1, 1), (1357, .iadd, 1), (1358, .iaload, 1), (1359, .aload_n 0, 1), (1360, .iload 4, 2), (1362, .iconst 2, 1), (1363, .iadd, 1), (1364, .iaload, 1), (1365, .invokevirtual 164, 3), (1368, .aload_n 2, 1), (1369, .aload_n 0, 1), (1370, .iload 4, 2), (1372, .iconst 1, 1), (1373, .iadd, 1), (1374, .iaload, 1), (1375, .aload_n 0, 1), (1376, .iload 4, 2), (1378, .iconst 2, 1), (1379, .iadd, 1), (1380, .iaload, 1), (1381, .invokevirtual 167, 3), (1384, .if_icmp .eq 85, 3), (1387, .iconst 0, 1), (1388, .ireturn, 1), (1389, .aload_n 1, 1), (1390, .aload_n 0, 1), (1391, .iload 4, 2), (1393, .iconst 1, 1), (1394, .iadd, 1), (1395, .iaload, 1), (1396, .invokevirtual 168, 3), (1399, .aload_n 2, 1), (1400, .aload_n 0, 1), (1401, .iload 4, 2), (1403, .iconst 1, 1), (1404, .iadd, 1), (1405, .iaload, 1), (1406, .invokevirtual 171, 3), (1409, .if_icmp .eq 60, 3), (1412, .iconst 0, 1), (1413, .ireturn, 1), (1414, .aload_n 1, 1), (1415, .aload_n 0, 1)]
set_option maxRecDepth 100000 in
theorem DL_law_14 : ∀ q ∈ QL_law_14, decode cL_law q.1 = .ok (q.2.1, q.2.2) := by decide +kernel
def QL_law_15 : List (Nat × Instr × Nat) := [(1416, .iload 4, 2), (1418, .iconst 1, 1), (1419, .iadd, 1), (1420, .iaload, 1), (1421, .aload_n 3, 1), (1422, .invokestatic 172, 3), (1425, .istore 5, 2), (1427, .aload_n 2, 1), (1428, .aload_n 0, 1), (1429, .iload 4, 2), (1431, .iconst 1, 1), (1432, .iadd, 1), (1433, .iaload, 1), (1434, .invokevirtual 175, 3), (1437, .lstore 6, 2), (1439, .aload_n 2, 1), (1440, .invokevirtual 117, 3), (1443, .iload 5, 2), (1445, .if_icmp .eq 5, 3), (1448, .iconst 0, 1), (1449, .ireturn, 1), (1450, .iload 5, 2), (1452, .ifCond .ne 14, 3), (1455, .aload_n 3, 1), (1456, .iconst 0, 1), (1457, .laload, 1), (1458, .lload 6, 2), (1460, .lcmp, 1), (1461, .ifCond .eq 5, 3), (1464, .iconst 0, 1), (1465, .ireturn, 1), (1466, .goto 3, 3), (1469, .iinc 4 4, 3), (1472, .goto (-1449), 3), (1475, .iconst 1, 1), (1476, .ireturn, 1)]
set_option maxRecDepth 100000 in
theorem DL_law_15 : ∀ q ∈ QL_law_15, decode cL_law q.1 = .ok (q.2.1, q.2.2) := by decide +kernel
def fL_law_L23 (L : Nat) (xs : Nat → Int32) : Nat → Int32 → zW → Option (Unit × zW)
  | 0, _, _ => none
  | n + 1, x4, w =>
    if ((nI L) - (4 : Int32)) < x4 then
      some ((), w)
    else
    zg (zin x4 L) <|
    lt (fun (w2 : zW) =>
      fL_law_L23 L xs n (x4 + (4 : Int32)) w2) fun j2 =>
    if ((xs x4.toNatClampNeg) &&& (63 : Int32)) = (0 : Int32) then
      zg (zin (x4 + (1 : Int32)) L) <|
      bd (fX7_rule (xs (x4 + (1 : Int32)).toNatClampNeg) w) fun v6 w4 =>
      zg (zin (x4 + (1 : Int32)) L) <|
      bd (fX8_rule (xs (x4 + (1 : Int32)).toNatClampNeg) w4) fun v9 w7 =>
      if v6 = v9 then
        j2 w7
      else
      none
    else
    if ((xs x4.toNatClampNeg) &&& (63 : Int32)) = (1 : Int32) then
      bd (fX7_table w) fun v14 w12 =>
      bd (fX8_table w12) fun v17 w15 =>
      if v14 = v17 then
        j2 w15
      else
      none
    else
    if ((xs x4.toNatClampNeg) &&& (63 : Int32)) = (2 : Int32) then
      zg (zin (x4 + (1 : Int32)) L) <|
      zg (zin (x4 + (2 : Int32)) L) <|
      bd (fX7_commutes (xs (x4 + (1 : Int32)).toNatClampNeg) (xs (x4 + (2 : Int32)).toNatClampNeg) w) fun v22 w20 =>
      zg (zin (x4 + (1 : Int32)) L) <|
      zg (zin (x4 + (2 : Int32)) L) <|
      bd (fX8_commutes (xs (x4 + (1 : Int32)).toNatClampNeg) (xs (x4 + (2 : Int32)).toNatClampNeg) w20) fun v25 w23 =>
      if v22 = v25 then
        j2 w23
      else
      none
    else
    if ((xs x4.toNatClampNeg) &&& (63 : Int32)) = (3 : Int32) then
      zg (zin (x4 + (1 : Int32)) L) <|
      zg (zin (x4 + (2 : Int32)) L) <|
      bd (fX7_powers (xs (x4 + (1 : Int32)).toNatClampNeg) (xs (x4 + (2 : Int32)).toNatClampNeg) w) fun v30 w28 =>
      zg (zin (x4 + (1 : Int32)) L) <|
      zg (zin (x4 + (2 : Int32)) L) <|
      bd (fX8_powers (xs (x4 + (1 : Int32)).toNatClampNeg) (xs (x4 + (2 : Int32)).toNatClampNeg) w28) fun v33 w31 =>
      if v30 = v33 then
        j2 w31
      else
      none
    else
    if ((xs x4.toNatClampNeg) &&& (63 : Int32)) = (4 : Int32) then
      zg (zin (x4 + (1 : Int32)) L) <|
      bd (fX7_order (xs (x4 + (1 : Int32)).toNatClampNeg) w) fun v38 w36 =>
      zg (zin (x4 + (1 : Int32)) L) <|
      bd (fX8_order (xs (x4 + (1 : Int32)).toNatClampNeg) w36) fun v41 w39 =>
      if v38 = v41 then
        j2 w39
      else
      none
    else
    if ((xs x4.toNatClampNeg) &&& (63 : Int32)) = (5 : Int32) then
      zg (zin (x4 + (1 : Int32)) L) <|
      bd (fX7_undoes (xs (x4 + (1 : Int32)).toNatClampNeg) w) fun v46 w44 =>
      zg (zin (x4 + (1 : Int32)) L) <|
      bd (fX8_undoes (xs (x4 + (1 : Int32)).toNatClampNeg) w44) fun v49 w47 =>
      if v46 = v49 then
        j2 w47
      else
      none
    else
    if ((xs x4.toNatClampNeg) &&& (63 : Int32)) = (6 : Int32) then
      zg (zin (x4 + (1 : Int32)) L) <|
      zg (zin (x4 + (2 : Int32)) L) <|
      zg (zin (x4 + (3 : Int32)) L) <|
      bd (fX7_puts (xs (x4 + (1 : Int32)).toNatClampNeg) (xs (x4 + (2 : Int32)).toNatClampNeg) (xs (x4 + (3 : Int32)).toNatClampNeg) w) fun v54 w52 =>
      zg (zin (x4 + (1 : Int32)) L) <|
      zg (zin (x4 + (2 : Int32)) L) <|
      zg (zin (x4 + (3 : Int32)) L) <|
      bd (fX8_puts (xs (x4 + (1 : Int32)).toNatClampNeg) (xs (x4 + (2 : Int32)).toNatClampNeg) (xs (x4 + (3 : Int32)).toNatClampNeg) w52) fun v57 w55 =>
      if v54 = v57 then
        j2 w55
      else
      none
    else
    if ((xs x4.toNatClampNeg) &&& (63 : Int32)) = (7 : Int32) then
      zg (zin (x4 + (1 : Int32)) L) <|
      zg (zin (x4 + (2 : Int32)) L) <|
      bd (fX7_takes (xs (x4 + (1 : Int32)).toNatClampNeg) (xs (x4 + (2 : Int32)).toNatClampNeg) w) fun v62 w60 =>
      zg (zin (x4 + (1 : Int32)) L) <|
      zg (zin (x4 + (2 : Int32)) L) <|
      bd (fX8_takes (xs (x4 + (1 : Int32)).toNatClampNeg) (xs (x4 + (2 : Int32)).toNatClampNeg) w60) fun v65 w63 =>
      if v62 = v65 then
        j2 w63
      else
      none
    else
    if ((xs x4.toNatClampNeg) &&& (63 : Int32)) = (8 : Int32) then
      zg (zin (x4 + (1 : Int32)) L) <|
      zg (zin (x4 + (2 : Int32)) L) <|
      bd (fX7_copies (xs (x4 + (1 : Int32)).toNatClampNeg) (xs (x4 + (2 : Int32)).toNatClampNeg) w) fun v70 w68 =>
      zg (zin (x4 + (1 : Int32)) L) <|
      zg (zin (x4 + (2 : Int32)) L) <|
      bd (fX8_copies (xs (x4 + (1 : Int32)).toNatClampNeg) (xs (x4 + (2 : Int32)).toNatClampNeg) w68) fun v73 w71 =>
      if v70 = v73 then
        j2 w71
      else
      none
    else
    if ((xs x4.toNatClampNeg) &&& (63 : Int32)) = (9 : Int32) then
      zg (zin (x4 + (1 : Int32)) L) <|
      zg (zin (x4 + (2 : Int32)) L) <|
      bd (fX7_joins (xs (x4 + (1 : Int32)).toNatClampNeg) (xs (x4 + (2 : Int32)).toNatClampNeg) w) fun v78 w76 =>
      zg (zin (x4 + (1 : Int32)) L) <|
      zg (zin (x4 + (2 : Int32)) L) <|
      bd (fX8_joins (xs (x4 + (1 : Int32)).toNatClampNeg) (xs (x4 + (2 : Int32)).toNatClampNeg) w76) fun v81 w79 =>
      if v78 = v81 then
        j2 w79
      else
      none
    else
    if ((xs x4.toNatClampNeg) &&& (63 : Int32)) = (10 : Int32) then
      zg (zin (x4 + (1 : Int32)) L) <|
      zg (zin (x4 + (2 : Int32)) L) <|
      zg (zin (x4 + (3 : Int32)) L) <|
      bd (fX7_parts (xs (x4 + (1 : Int32)).toNatClampNeg) (xs (x4 + (2 : Int32)).toNatClampNeg) (xs (x4 + (3 : Int32)).toNatClampNeg) w) fun v86 w84 =>
      zg (zin (x4 + (1 : Int32)) L) <|
      zg (zin (x4 + (2 : Int32)) L) <|
      zg (zin (x4 + (3 : Int32)) L) <|
      bd (fX8_parts (xs (x4 + (1 : Int32)).toNatClampNeg) (xs (x4 + (2 : Int32)).toNatClampNeg) (xs (x4 + (3 : Int32)).toNatClampNeg) w84) fun v89 w87 =>
      if v86 = v89 then
        j2 w87
      else
      none
    else
    if ((xs x4.toNatClampNeg) &&& (63 : Int32)) = (11 : Int32) then
      zg (zin (x4 + (1 : Int32)) L) <|
      bd (fX7_reverses (xs (x4 + (1 : Int32)).toNatClampNeg) w) fun v94 w92 =>
      zg (zin (x4 + (1 : Int32)) L) <|
      bd (fX8_reverses (xs (x4 + (1 : Int32)).toNatClampNeg) w92) fun v97 w95 =>
      if v94 = v97 then
        j2 w95
      else
      none
    else
    if ((xs x4.toNatClampNeg) &&& (63 : Int32)) = (12 : Int32) then
      zg (zin (x4 + (1 : Int32)) L) <|
      zg (zin (x4 + (2 : Int32)) L) <|
      zg (zin (x4 + (3 : Int32)) L) <|
      bd (fX7_changes (xs (x4 + (1 : Int32)).toNatClampNeg) (xs (x4 + (2 : Int32)).toNatClampNeg) (xs (x4 + (3 : Int32)).toNatClampNeg) w) fun v102 w100 =>
      zg (zin (x4 + (1 : Int32)) L) <|
      zg (zin (x4 + (2 : Int32)) L) <|
      zg (zin (x4 + (3 : Int32)) L) <|
      bd (fX8_changes (xs (x4 + (1 : Int32)).toNatClampNeg) (xs (x4 + (2 : Int32)).toNatClampNeg) (xs (x4 + (3 : Int32)).toNatClampNeg) w100) fun v105 w103 =>
      if v102 = v105 then
        j2 w103
      else
      none
    else
    if ((xs x4.toNatClampNeg) &&& (63 : Int32)) = (13 : Int32) then
      zg (zin (x4 + (1 : Int32)) L) <|
      zg (zin (x4 + (2 : Int32)) L) <|
      zg (zin (x4 + (3 : Int32)) L) <|
      bd (fX7_slips (xs (x4 + (1 : Int32)).toNatClampNeg) (xs (x4 + (2 : Int32)).toNatClampNeg) (xs (x4 + (3 : Int32)).toNatClampNeg) w) fun v110 w108 =>
      zg (zin (x4 + (1 : Int32)) L) <|
      zg (zin (x4 + (2 : Int32)) L) <|
      zg (zin (x4 + (3 : Int32)) L) <|
      bd (fX8_slips (xs (x4 + (1 : Int32)).toNatClampNeg) (xs (x4 + (2 : Int32)).toNatClampNeg) (xs (x4 + (3 : Int32)).toNatClampNeg) w108) fun v113 w111 =>
      if v110 = v113 then
        j2 w111
      else
      none
    else
    if ((xs x4.toNatClampNeg) &&& (63 : Int32)) = (14 : Int32) then
      zg (zin (x4 + (1 : Int32)) L) <|
      zg (zin (x4 + (2 : Int32)) L) <|
      bd (fX7_drops (xs (x4 + (1 : Int32)).toNatClampNeg) (xs (x4 + (2 : Int32)).toNatClampNeg) w) fun v118 w116 =>
      zg (zin (x4 + (1 : Int32)) L) <|
      zg (zin (x4 + (2 : Int32)) L) <|
      bd (fX8_drops (xs (x4 + (1 : Int32)).toNatClampNeg) (xs (x4 + (2 : Int32)).toNatClampNeg) w116) fun v121 w119 =>
      if v118 = v121 then
        j2 w119
      else
      none
    else
    if ((xs x4.toNatClampNeg) &&& (63 : Int32)) = (15 : Int32) then
      zg (zin (x4 + (1 : Int32)) L) <|
      zg (zin (x4 + (2 : Int32)) L) <|
      zg (zin (x4 + (3 : Int32)) L) <|
      bd (fX7_shifts (xs (x4 + (1 : Int32)).toNatClampNeg) (xs (x4 + (2 : Int32)).toNatClampNeg) (xs (x4 + (3 : Int32)).toNatClampNeg) w) fun v126 w124 =>
      zg (zin (x4 + (1 : Int32)) L) <|
      zg (zin (x4 + (2 : Int32)) L) <|
      zg (zin (x4 + (3 : Int32)) L) <|
      bd (fX8_shifts (xs (x4 + (1 : Int32)).toNatClampNeg) (xs (x4 + (2 : Int32)).toNatClampNeg) (xs (x4 + (3 : Int32)).toNatClampNeg) w124) fun v129 w127 =>
      if v126 = v129 then
        j2 w127
      else
      none
    else
    if ((xs x4.toNatClampNeg) &&& (63 : Int32)) = (16 : Int32) then
      zg (zin (x4 + (1 : Int32)) L) <|
      bd (fX7_clears (xs (x4 + (1 : Int32)).toNatClampNeg) w) fun v134 w132 =>
      zg (zin (x4 + (1 : Int32)) L) <|
      bd (fX8_clears (xs (x4 + (1 : Int32)).toNatClampNeg) w132) fun v137 w135 =>
      if v134 = v137 then
        j2 w135
      else
      none
    else
    if ((xs x4.toNatClampNeg) &&& (63 : Int32)) = (17 : Int32) then
      zg (zin (x4 + (1 : Int32)) L) <|
      bd (fX7_run (xs (x4 + (1 : Int32)).toNatClampNeg) w) fun v142 w140 =>
      zg (zin (x4 + (1 : Int32)) L) <|
      bd (fX8_run (xs (x4 + (1 : Int32)).toNatClampNeg) w140) fun v145 w143 =>
      if v142 = v145 then
        j2 w143
      else
      none
    else
    if ((xs x4.toNatClampNeg) &&& (63 : Int32)) = (18 : Int32) then
      zg (zin (x4 + (1 : Int32)) L) <|
      bd (fX7_sign (xs (x4 + (1 : Int32)).toNatClampNeg) w) fun v150 w148 =>
      zg (zin (x4 + (1 : Int32)) L) <|
      bd (fX8_sign (xs (x4 + (1 : Int32)).toNatClampNeg) w148) fun v153 w151 =>
      if v150 = v153 then
        j2 w151
      else
      none
    else
    if ((xs x4.toNatClampNeg) &&& (63 : Int32)) = (19 : Int32) then
      zg (zin (x4 + (1 : Int32)) L) <|
      bd (fX7_end (xs (x4 + (1 : Int32)).toNatClampNeg) w) fun b158 w156 =>
      zg (zin (x4 + (1 : Int32)) L) <|
      bd (fX8_end (xs (x4 + (1 : Int32)).toNatClampNeg) w156) fun b161 w159 =>
      if (zb b158) = (zb b161) then
        j2 w159
      else
      none
    else
    if ((xs x4.toNatClampNeg) &&& (63 : Int32)) = (20 : Int32) then
      zg (zin (x4 + (1 : Int32)) L) <|
      bd (fX7_sum (xs (x4 + (1 : Int32)).toNatClampNeg) w) fun v166 w164 =>
      zg (zin (x4 + (1 : Int32)) L) <|
      bd (fX8_sum (xs (x4 + (1 : Int32)).toNatClampNeg) w164) fun v169 w167 =>
      if v166 = v169 then
        j2 w167
      else
      none
    else
    if ((xs x4.toNatClampNeg) &&& (63 : Int32)) = (21 : Int32) then
      zg (zin (x4 + (1 : Int32)) L) <|
      zg (zin (x4 + (2 : Int32)) L) <|
      bd (fL_item (xs (x4 + (1 : Int32)).toNatClampNeg) (xs (x4 + (2 : Int32)).toNatClampNeg) w) fun v172 w173 =>
      zg (zin (x4 + (1 : Int32)) L) <|
      zg (zin (x4 + (2 : Int32)) L) <|
      bd (fX8_item (xs (x4 + (1 : Int32)).toNatClampNeg) (xs (x4 + (2 : Int32)).toNatClampNeg) w173) fun v177 w175 =>
      bd (fX8_thrown w175) fun v180 w178 =>
      if v180 = v172 then
        lt (fun (w182 : zW) =>
          j2 w182) fun j182 =>
        if ¬ v172 = (0 : Int32) then
          j182 w178
        else
        zg (zin (0 : Int32) 1) <|
        if (zL w178 92 (0 : Int32).toNatClampNeg) = (v177).toInt64 then
          j182 w178
        else
        none
      else
      none
    else
    if ((xs x4.toNatClampNeg) &&& (63 : Int32)) = (22 : Int32) then
      zg (zin (x4 + (1 : Int32)) L) <|
      zg (zin (x4 + (2 : Int32)) L) <|
      zg (zin (x4 + (3 : Int32)) L) <|
      bd (fX7_part (xs (x4 + (1 : Int32)).toNatClampNeg) (xs (x4 + (2 : Int32)).toNatClampNeg) (xs (x4 + (3 : Int32)).toNatClampNeg) w) fun v188 w186 =>
      zg (zin (x4 + (1 : Int32)) L) <|
      zg (zin (x4 + (2 : Int32)) L) <|
      zg (zin (x4 + (3 : Int32)) L) <|
      bd (fX8_part (xs (x4 + (1 : Int32)).toNatClampNeg) (xs (x4 + (2 : Int32)).toNatClampNeg) (xs (x4 + (3 : Int32)).toNatClampNeg) w186) fun v191 w189 =>
      if v188 = v191 then
        j2 w189
      else
      none
    else
    if ((xs x4.toNatClampNeg) &&& (63 : Int32)) = (23 : Int32) then
      zg (zin (x4 + (1 : Int32)) L) <|
      zg (zin (x4 + (2 : Int32)) L) <|
      bd (fX7_windows (xs (x4 + (1 : Int32)).toNatClampNeg) (xs (x4 + (2 : Int32)).toNatClampNeg) w) fun v196 w194 =>
      zg (zin (x4 + (1 : Int32)) L) <|
      zg (zin (x4 + (2 : Int32)) L) <|
      bd (fX8_windows (xs (x4 + (1 : Int32)).toNatClampNeg) (xs (x4 + (2 : Int32)).toNatClampNeg) w194) fun v199 w197 =>
      if v196 = v199 then
        j2 w197
      else
      none
    else
    if ((xs x4.toNatClampNeg) &&& (63 : Int32)) = (24 : Int32) then
      zg (zin (x4 + (1 : Int32)) L) <|
      zg (zin (x4 + (2 : Int32)) L) <|
      bd (fX7_first (xs (x4 + (1 : Int32)).toNatClampNeg) (xs (x4 + (2 : Int32)).toNatClampNeg) w) fun v204 w202 =>
      zg (zin (x4 + (1 : Int32)) L) <|
      zg (zin (x4 + (2 : Int32)) L) <|
      bd (fX8_first (xs (x4 + (1 : Int32)).toNatClampNeg) (xs (x4 + (2 : Int32)).toNatClampNeg) w202) fun v207 w205 =>
      if v204 = v207 then
        j2 w205
      else
      none
    else
    if ((xs x4.toNatClampNeg) &&& (63 : Int32)) = (25 : Int32) then
      zg (zin (x4 + (1 : Int32)) L) <|
      zg (zin (x4 + (2 : Int32)) L) <|
      bd (fX7_longest (xs (x4 + (1 : Int32)).toNatClampNeg) (xs (x4 + (2 : Int32)).toNatClampNeg) w) fun v212 w210 =>
      zg (zin (x4 + (1 : Int32)) L) <|
      zg (zin (x4 + (2 : Int32)) L) <|
      bd (fX8_longest (xs (x4 + (1 : Int32)).toNatClampNeg) (xs (x4 + (2 : Int32)).toNatClampNeg) w210) fun v215 w213 =>
      if v212 = v215 then
        j2 w213
      else
      none
    else
    if ((xs x4.toNatClampNeg) &&& (63 : Int32)) = (26 : Int32) then
      zg (zin (x4 + (1 : Int32)) L) <|
      zg (zin (x4 + (2 : Int32)) L) <|
      bd (fX7_greatest (xs (x4 + (1 : Int32)).toNatClampNeg) (xs (x4 + (2 : Int32)).toNatClampNeg) w) fun v220 w218 =>
      zg (zin (x4 + (1 : Int32)) L) <|
      zg (zin (x4 + (2 : Int32)) L) <|
      bd (fX8_greatest (xs (x4 + (1 : Int32)).toNatClampNeg) (xs (x4 + (2 : Int32)).toNatClampNeg) w218) fun v223 w221 =>
      if v220 = v223 then
        j2 w221
      else
      none
    else
    if ((xs x4.toNatClampNeg) &&& (63 : Int32)) = (27 : Int32) then
      zg (zin (x4 + (1 : Int32)) L) <|
      zg (zin (x4 + (2 : Int32)) L) <|
      zg (zin (x4 + (3 : Int32)) L) <|
      bd (fX7_finds (xs (x4 + (1 : Int32)).toNatClampNeg) (xs (x4 + (2 : Int32)).toNatClampNeg) (xs (x4 + (3 : Int32)).toNatClampNeg) w) fun v228 w226 =>
      zg (zin (x4 + (1 : Int32)) L) <|
      zg (zin (x4 + (2 : Int32)) L) <|
      zg (zin (x4 + (3 : Int32)) L) <|
      bd (fX8_finds (xs (x4 + (1 : Int32)).toNatClampNeg) (xs (x4 + (2 : Int32)).toNatClampNeg) (xs (x4 + (3 : Int32)).toNatClampNeg) w226) fun v231 w229 =>
      if v228 = v231 then
        j2 w229
      else
      none
    else
    if ((xs x4.toNatClampNeg) &&& (63 : Int32)) = (28 : Int32) then
      zg (zin (x4 + (1 : Int32)) L) <|
      bd (fX7_drains (xs (x4 + (1 : Int32)).toNatClampNeg) w) fun v236 w234 =>
      zg (zin (x4 + (1 : Int32)) L) <|
      bd (fX8_drains (xs (x4 + (1 : Int32)).toNatClampNeg) w234) fun v239 w237 =>
      if v236 = v239 then
        j2 w237
      else
      none
    else
    if ((xs x4.toNatClampNeg) &&& (63 : Int32)) = (29 : Int32) then
      zg (zin (x4 + (1 : Int32)) L) <|
      bd (fX7_unlike (xs (x4 + (1 : Int32)).toNatClampNeg) w) fun v244 w242 =>
      zg (zin (x4 + (1 : Int32)) L) <|
      bd (fX8_unlike (xs (x4 + (1 : Int32)).toNatClampNeg) w242) fun v247 w245 =>
      if v244 = v247 then
        j2 w245
      else
      none
    else
    if ((xs x4.toNatClampNeg) &&& (63 : Int32)) = (30 : Int32) then
      zg (zin (x4 + (1 : Int32)) L) <|
      zg (zin (x4 + (2 : Int32)) L) <|
      bd (fX7_same (xs (x4 + (1 : Int32)).toNatClampNeg) (xs (x4 + (2 : Int32)).toNatClampNeg) w) fun v252 w250 =>
      zg (zin (x4 + (1 : Int32)) L) <|
      zg (zin (x4 + (2 : Int32)) L) <|
      bd (fX8_same (xs (x4 + (1 : Int32)).toNatClampNeg) (xs (x4 + (2 : Int32)).toNatClampNeg) w250) fun v255 w253 =>
      if v252 = v255 then
        j2 w253
      else
      none
    else
    if ((xs x4.toNatClampNeg) &&& (63 : Int32)) = (31 : Int32) then
      bd (fX7_shared w) fun v260 w258 =>
      bd (fX8_shared w258) fun v263 w261 =>
      if v260 = v263 then
        j2 w261
      else
      none
    else
    if ((xs x4.toNatClampNeg) &&& (63 : Int32)) = (32 : Int32) then
      zg (zin (x4 + (1 : Int32)) L) <|
      zg (zin (x4 + (2 : Int32)) L) <|
      bd (fX7_would (xs (x4 + (1 : Int32)).toNatClampNeg) (xs (x4 + (2 : Int32)).toNatClampNeg) w) fun v268 w266 =>
      zg (zin (x4 + (1 : Int32)) L) <|
      zg (zin (x4 + (2 : Int32)) L) <|
      bd (fX8_would (xs (x4 + (1 : Int32)).toNatClampNeg) (xs (x4 + (2 : Int32)).toNatClampNeg) w266) fun v271 w269 =>
      if v268 = v271 then
        j2 w269
      else
      none
    else
    if ((xs x4.toNatClampNeg) &&& (63 : Int32)) = (33 : Int32) then
      zg (zin (x4 + (1 : Int32)) L) <|
      zg (zin (x4 + (2 : Int32)) L) <|
      bd (fX7_dearest (xs (x4 + (1 : Int32)).toNatClampNeg) (xs (x4 + (2 : Int32)).toNatClampNeg) w) fun v276 w274 =>
      zg (zin (x4 + (1 : Int32)) L) <|
      zg (zin (x4 + (2 : Int32)) L) <|
      bd (fX8_dearest (xs (x4 + (1 : Int32)).toNatClampNeg) (xs (x4 + (2 : Int32)).toNatClampNeg) w274) fun v279 w277 =>
      if v276 = v279 then
        j2 w277
      else
      none
    else
    if ((xs x4.toNatClampNeg) &&& (63 : Int32)) = (34 : Int32) then
      zg (zin (x4 + (1 : Int32)) L) <|
      bd (fX7_count (xs (x4 + (1 : Int32)).toNatClampNeg) w) fun v284 w282 =>
      zg (zin (x4 + (1 : Int32)) L) <|
      bd (fX8_count (xs (x4 + (1 : Int32)).toNatClampNeg) w282) fun v287 w285 =>
      if v284 = v287 then
        j2 w285
      else
      none
    else
    if ((xs x4.toNatClampNeg) &&& (63 : Int32)) = (35 : Int32) then
      zg (zin (x4 + (1 : Int32)) L) <|
      bd (fL_row (xs (x4 + (1 : Int32)).toNatClampNeg) w) fun v290 w291 =>
      zg (zin (x4 + (1 : Int32)) L) <|
      bd (fX8_row (xs (x4 + (1 : Int32)).toNatClampNeg) w291) fun v295 w293 =>
      bd (fX8_thrown w293) fun v298 w296 =>
      if v298 = v290 then
        lt (fun (w300 : zW) =>
          j2 w300) fun j300 =>
        if ¬ v290 = (0 : Int32) then
          j300 w296
        else
        zg (zin (0 : Int32) 1) <|
        if (zL w296 92 (0 : Int32).toNatClampNeg) = v295 then
          j300 w296
        else
        none
      else
      none
    else
    j2 w
set_option maxHeartbeats 16000000 in
set_option maxRecDepth 100000 in
theorem lL_law {b L : Nat} {xs : Nat → Int32} (hL : L ≤ 2048) : ∀ (n k : Nat) (w : zW), 4 * k ≤ L + 3 → Tz ML_law (zLw b L xs k) (fL_law_L23 L xs n (nI (4 * k)) w) 23 [(0, .ref 94), (1, .ref 0), (2, .ref 74), (3, .ref 92), (4, .int (nI (4 * k)))] [] w := by
  intro n
  induction n with
  | zero => intro k w _; exact tz_eq (fL_law_L23.eq_1 _ _ _ _) tz_none
  | succ n ih =>
    intro k w hk
    refine tz_eq (fL_law_L23.eq_2 _ _ _ _ _) ?_
    refine tz_iload 4 rfl (zd DL_law_0 13 rfl) ?_
    refine tz_aload_n 0 rfl (zd DL_law_0 14 rfl) ?_
    refine tz_slen (zd DL_law_0 15 rfl) ?_
    refine tz_iconst (4 : Int32) zk_iconst_4 (zd DL_law_0 16 rfl) ?_
    refine tz_isub (zd DL_law_0 17 rfl) ?_
    refine tz_icmp_gt 1475 (zd DL_law_0 18 rfl) rfl (fun q1 => ?_) (fun q1 => ?_)
    · refine tz_iconst (1 : Int32) zk_iconst_1 (zd DL_law_15 34 rfl) ?_
      exact tz_lwret (zd DL_law_15 35 rfl)
    have hk2 := zlw_bd hL hk q1
    refine tz_aload_n 0 rfl (zd DL_law_0 19 rfl) ?_
    refine tz_iload 4 rfl (zd DL_law_0 20 rfl) ?_
    refine tz_sld (zd DL_law_0 21 rfl) ?_
    refine tz_bipush (63 : Int32) zk_bipush_63 (zd DL_law_0 22 rfl) ?_
    refine tz_iand (zd DL_law_0 23 rfl) ?_
    refine tz_jp (P := fun j => ∀ (w2 : zW), Tz ML_law (zLw b L xs (k + 1)) (j w2) 1469 [(0, .ref 94), (1, .ref 0), (2, .ref 74), (3, .ref 92), (4, .int (nI (4 * k)))] [] w2) ?_ (fun j2 hj2 => ?_)
    · intro w2
      refine tz_iinc 4 (4 : Int32) [(4, .int ((nI (4 * k)) + (4 : Int32))), (0, .ref 94), (1, .ref 0), (2, .ref 74), (3, .ref 92)] rfl zk_iconst_4 (Nat.le_of_ble_eq_true rfl) rfl (zd DL_law_15 32 rfl) ?_
      refine tz_goto 23 (zd DL_law_15 33 rfl) rfl ?_
      refine tz_lv (lv2 := [(0, .ref 94), (1, .ref 0), (2, .ref 74), (3, .ref 92), (4, .int ((nI (4 * k)) + (4 : Int32)))]) [1, 2, 3, 4, 0] rfl ?_
      rw [zlw_nx k]
      exact ih (k + 1) w2 (by omega)
    refine tz_case (fun q3 => ?_) (fun q3 => ?_)
    · refine tz_tin (0) 196 (by rw [q3]; decide) (zd DL_law_0 24 rfl) (by decide) (by decide) rfl rfl ?_
      refine tz_lwk ?_
      refine tz_aload_n 1 rfl (zd DL_law_0 25 rfl) ?_
      refine tz_aload_n 0 rfl (zd DL_law_0 26 rfl) ?_
      refine tz_iload 4 rfl (zd DL_law_0 27 rfl) ?_
      refine tz_iconst (1 : Int32) zk_iconst_1 (zd DL_law_0 28 rfl) ?_
      refine tz_iadd (zd DL_law_0 29 rfl) ?_
      refine tz_sld (zd DL_law_0 30 rfl) ?_
      refine tz_cV_i kz7 (zs_0) rfl (rest := []) (YX7_rule) wk_218 (tX7_rule (xs ((nI (4 * k)) + (1 : Int32)).toNatClampNeg) w) rfl rfl (Nat.le_of_ble_eq_true rfl) ⟨Nat.le_of_ble_eq_true rfl, Nat.le_of_ble_eq_true rfl⟩ (zd DL_law_0 31 rfl) (fun v6 w4 e5 => ?_)
      refine tz_aload_n 2 rfl (zd DL_law_0 32 rfl) ?_
      refine tz_aload_n 0 rfl (zd DL_law_0 33 rfl) ?_
      refine tz_iload 4 rfl (zd DL_law_0 34 rfl) ?_
      refine tz_iconst (1 : Int32) zk_iconst_1 (zd DL_law_0 35 rfl) ?_
      refine tz_iadd (zd DL_law_0 36 rfl) ?_
      refine tz_sld (zd DL_law_0 37 rfl) ?_
      refine tz_cV_i kz8 (zs_74) rfl (rest := [.int v6]) (YX8_rule) wk_1033 (tX8_rule (xs ((nI (4 * k)) + (1 : Int32)).toNatClampNeg) w4) rfl rfl (Nat.le_of_ble_eq_true rfl) ⟨Nat.le_of_ble_eq_true rfl, Nat.le_of_ble_eq_true rfl⟩ (zd DL_law_0 38 rfl) (fun v9 w7 e8 => ?_)
      refine tz_icmp_eq 1469 (zd DL_law_0 39 rfl) rfl (fun q10 => ?_) (fun q10 => ?_)
      · exact hj2 w7
      refine tz_iconst (0 : Int32) zk_iconst_0 (zd DL_law_0 40 rfl) ?_
      exact tz_none
    refine tz_case (fun q11 => ?_) (fun q11 => ?_)
    · refine tz_tin (1) 221 (by rw [q11]; decide) (zd DL_law_0 24 rfl) (by decide) (by decide) rfl rfl ?_
      refine tz_lwk ?_
      refine tz_aload_n 1 rfl (zd DL_law_0 42 rfl) ?_
      refine tz_cV_i kz7 (zs_0) rfl (rest := []) (YX7_table) wk_340 (tX7_table w) rfl rfl (Nat.le_of_ble_eq_true rfl) ⟨Nat.le_of_ble_eq_true rfl, Nat.le_of_ble_eq_true rfl⟩ (zd DL_law_0 43 rfl) (fun v14 w12 e13 => ?_)
      refine tz_aload_n 2 rfl (zd DL_law_0 44 rfl) ?_
      refine tz_cV_i kz8 (zs_74) rfl (rest := [.int v14]) (YX8_table) wk_1069 (tX8_table w12) rfl rfl (Nat.le_of_ble_eq_true rfl) ⟨Nat.le_of_ble_eq_true rfl, Nat.le_of_ble_eq_true rfl⟩ (zd DL_law_0 45 rfl) (fun v17 w15 e16 => ?_)
      refine tz_icmp_eq 1469 (zd DL_law_0 46 rfl) rfl (fun q18 => ?_) (fun q18 => ?_)
      · exact hj2 w15
      refine tz_iconst (0 : Int32) zk_iconst_0 (zd DL_law_0 47 rfl) ?_
      exact tz_none
    refine tz_case (fun q19 => ?_) (fun q19 => ?_)
    · refine tz_tin (2) 234 (by rw [q19]; decide) (zd DL_law_0 24 rfl) (by decide) (by decide) rfl rfl ?_
      refine tz_lwk ?_
      refine tz_aload_n 1 rfl (zd DL_law_0 49 rfl) ?_
      refine tz_aload_n 0 rfl (zd DL_law_0 50 rfl) ?_
      refine tz_iload 4 rfl (zd DL_law_0 51 rfl) ?_
      refine tz_iconst (1 : Int32) zk_iconst_1 (zd DL_law_0 52 rfl) ?_
      refine tz_iadd (zd DL_law_0 53 rfl) ?_
      refine tz_sld (zd DL_law_0 54 rfl) ?_
      refine tz_aload_n 0 rfl (zd DL_law_0 55 rfl) ?_
      refine tz_iload 4 rfl (zd DL_law_0 56 rfl) ?_
      refine tz_iconst (2 : Int32) zk_iconst_2 (zd DL_law_0 57 rfl) ?_
      refine tz_iadd (zd DL_law_0 58 rfl) ?_
      refine tz_sld (zd DL_law_0 59 rfl) ?_
      refine tz_cV_i kz7 (zs_0) rfl (rest := []) (YX7_commutes) wk_404 (tX7_commutes (xs ((nI (4 * k)) + (1 : Int32)).toNatClampNeg) (xs ((nI (4 * k)) + (2 : Int32)).toNatClampNeg) w) rfl rfl (Nat.le_of_ble_eq_true rfl) ⟨Nat.le_of_ble_eq_true rfl, Nat.le_of_ble_eq_true rfl⟩ (zd DL_law_1 0 rfl) (fun v22 w20 e21 => ?_)
      refine tz_aload_n 2 rfl (zd DL_law_1 1 rfl) ?_
      refine tz_aload_n 0 rfl (zd DL_law_1 2 rfl) ?_
      refine tz_iload 4 rfl (zd DL_law_1 3 rfl) ?_
      refine tz_iconst (1 : Int32) zk_iconst_1 (zd DL_law_1 4 rfl) ?_
      refine tz_iadd (zd DL_law_1 5 rfl) ?_
      refine tz_sld (zd DL_law_1 6 rfl) ?_
      refine tz_aload_n 0 rfl (zd DL_law_1 7 rfl) ?_
      refine tz_iload 4 rfl (zd DL_law_1 8 rfl) ?_
      refine tz_iconst (2 : Int32) zk_iconst_2 (zd DL_law_1 9 rfl) ?_
      refine tz_iadd (zd DL_law_1 10 rfl) ?_
      refine tz_sld (zd DL_law_1 11 rfl) ?_
      refine tz_cV_i kz8 (zs_74) rfl (rest := [.int v22]) (YX8_commutes) wk_958 (tX8_commutes (xs ((nI (4 * k)) + (1 : Int32)).toNatClampNeg) (xs ((nI (4 * k)) + (2 : Int32)).toNatClampNeg) w20) rfl rfl (Nat.le_of_ble_eq_true rfl) ⟨Nat.le_of_ble_eq_true rfl, Nat.le_of_ble_eq_true rfl⟩ (zd DL_law_1 12 rfl) (fun v25 w23 e24 => ?_)
      refine tz_icmp_eq 1469 (zd DL_law_1 13 rfl) rfl (fun q26 => ?_) (fun q26 => ?_)
      · exact hj2 w23
      refine tz_iconst (0 : Int32) zk_iconst_0 (zd DL_law_1 14 rfl) ?_
      exact tz_none
    refine tz_case (fun q27 => ?_) (fun q27 => ?_)
    · refine tz_tin (3) 271 (by rw [q27]; decide) (zd DL_law_0 24 rfl) (by decide) (by decide) rfl rfl ?_
      refine tz_lwk ?_
      refine tz_aload_n 1 rfl (zd DL_law_1 16 rfl) ?_
      refine tz_aload_n 0 rfl (zd DL_law_1 17 rfl) ?_
      refine tz_iload 4 rfl (zd DL_law_1 18 rfl) ?_
      refine tz_iconst (1 : Int32) zk_iconst_1 (zd DL_law_1 19 rfl) ?_
      refine tz_iadd (zd DL_law_1 20 rfl) ?_
      refine tz_sld (zd DL_law_1 21 rfl) ?_
      refine tz_aload_n 0 rfl (zd DL_law_1 22 rfl) ?_
      refine tz_iload 4 rfl (zd DL_law_1 23 rfl) ?_
      refine tz_iconst (2 : Int32) zk_iconst_2 (zd DL_law_1 24 rfl) ?_
      refine tz_iadd (zd DL_law_1 25 rfl) ?_
      refine tz_sld (zd DL_law_1 26 rfl) ?_
      refine tz_cV_i kz7 (zs_0) rfl (rest := []) (YX7_powers) wk_430 (tX7_powers (xs ((nI (4 * k)) + (1 : Int32)).toNatClampNeg) (xs ((nI (4 * k)) + (2 : Int32)).toNatClampNeg) w) rfl rfl (Nat.le_of_ble_eq_true rfl) ⟨Nat.le_of_ble_eq_true rfl, Nat.le_of_ble_eq_true rfl⟩ (zd DL_law_1 27 rfl) (fun v30 w28 e29 => ?_)
      refine tz_aload_n 2 rfl (zd DL_law_1 28 rfl) ?_
      refine tz_aload_n 0 rfl (zd DL_law_1 29 rfl) ?_
      refine tz_iload 4 rfl (zd DL_law_1 30 rfl) ?_
      refine tz_iconst (1 : Int32) zk_iconst_1 (zd DL_law_1 31 rfl) ?_
      refine tz_iadd (zd DL_law_1 32 rfl) ?_
      refine tz_sld (zd DL_law_1 33 rfl) ?_
      refine tz_aload_n 0 rfl (zd DL_law_1 34 rfl) ?_
      refine tz_iload 4 rfl (zd DL_law_1 35 rfl) ?_
      refine tz_iconst (2 : Int32) zk_iconst_2 (zd DL_law_1 36 rfl) ?_
      refine tz_iadd (zd DL_law_1 37 rfl) ?_
      refine tz_sld (zd DL_law_1 38 rfl) ?_
      refine tz_cV_i kz8 (zs_74) rfl (rest := [.int v30]) (YX8_powers) wk_1010 (tX8_powers (xs ((nI (4 * k)) + (1 : Int32)).toNatClampNeg) (xs ((nI (4 * k)) + (2 : Int32)).toNatClampNeg) w28) rfl rfl (Nat.le_of_ble_eq_true rfl) ⟨Nat.le_of_ble_eq_true rfl, Nat.le_of_ble_eq_true rfl⟩ (zd DL_law_1 39 rfl) (fun v33 w31 e32 => ?_)
      refine tz_icmp_eq 1469 (zd DL_law_1 40 rfl) rfl (fun q34 => ?_) (fun q34 => ?_)
      · exact hj2 w31
      refine tz_iconst (0 : Int32) zk_iconst_0 (zd DL_law_1 41 rfl) ?_
      exact tz_none
    refine tz_case (fun q35 => ?_) (fun q35 => ?_)
    · refine tz_tin (4) 308 (by rw [q35]; decide) (zd DL_law_0 24 rfl) (by decide) (by decide) rfl rfl ?_
      refine tz_lwk ?_
      refine tz_aload_n 1 rfl (zd DL_law_1 43 rfl) ?_
      refine tz_aload_n 0 rfl (zd DL_law_1 44 rfl) ?_
      refine tz_iload 4 rfl (zd DL_law_1 45 rfl) ?_
      refine tz_iconst (1 : Int32) zk_iconst_1 (zd DL_law_1 46 rfl) ?_
      refine tz_iadd (zd DL_law_1 47 rfl) ?_
      refine tz_sld (zd DL_law_1 48 rfl) ?_
      refine tz_cV_i kz7 (zs_0) rfl (rest := []) (YX7_order) wk_447 (tX7_order (xs ((nI (4 * k)) + (1 : Int32)).toNatClampNeg) w) rfl rfl (Nat.le_of_ble_eq_true rfl) ⟨Nat.le_of_ble_eq_true rfl, Nat.le_of_ble_eq_true rfl⟩ (zd DL_law_1 49 rfl) (fun v38 w36 e37 => ?_)
      refine tz_aload_n 2 rfl (zd DL_law_1 50 rfl) ?_
      refine tz_aload_n 0 rfl (zd DL_law_1 51 rfl) ?_
      refine tz_iload 4 rfl (zd DL_law_1 52 rfl) ?_
      refine tz_iconst (1 : Int32) zk_iconst_1 (zd DL_law_1 53 rfl) ?_
      refine tz_iadd (zd DL_law_1 54 rfl) ?_
      refine tz_sld (zd DL_law_1 55 rfl) ?_
      refine tz_cV_i kz8 (zs_74) rfl (rest := [.int v38]) (YX8_order) wk_1025 (tX8_order (xs ((nI (4 * k)) + (1 : Int32)).toNatClampNeg) w36) rfl rfl (Nat.le_of_ble_eq_true rfl) ⟨Nat.le_of_ble_eq_true rfl, Nat.le_of_ble_eq_true rfl⟩ (zd DL_law_1 56 rfl) (fun v41 w39 e40 => ?_)
      refine tz_icmp_eq 1469 (zd DL_law_1 57 rfl) rfl (fun q42 => ?_) (fun q42 => ?_)
      · exact hj2 w39
      refine tz_iconst (0 : Int32) zk_iconst_0 (zd DL_law_1 58 rfl) ?_
      exact tz_none
    refine tz_case (fun q43 => ?_) (fun q43 => ?_)
    · refine tz_tin (5) 333 (by rw [q43]; decide) (zd DL_law_0 24 rfl) (by decide) (by decide) rfl rfl ?_
      refine tz_lwk ?_
      refine tz_aload_n 1 rfl (zd DL_law_2 0 rfl) ?_
      refine tz_aload_n 0 rfl (zd DL_law_2 1 rfl) ?_
      refine tz_iload 4 rfl (zd DL_law_2 2 rfl) ?_
      refine tz_iconst (1 : Int32) zk_iconst_1 (zd DL_law_2 3 rfl) ?_
      refine tz_iadd (zd DL_law_2 4 rfl) ?_
      refine tz_sld (zd DL_law_2 5 rfl) ?_
      refine tz_cV_i kz7 (zs_0) rfl (rest := []) (YX7_undoes) wk_466 (tX7_undoes (xs ((nI (4 * k)) + (1 : Int32)).toNatClampNeg) w) rfl rfl (Nat.le_of_ble_eq_true rfl) ⟨Nat.le_of_ble_eq_true rfl, Nat.le_of_ble_eq_true rfl⟩ (zd DL_law_2 6 rfl) (fun v46 w44 e45 => ?_)
      refine tz_aload_n 2 rfl (zd DL_law_2 7 rfl) ?_
      refine tz_aload_n 0 rfl (zd DL_law_2 8 rfl) ?_
      refine tz_iload 4 rfl (zd DL_law_2 9 rfl) ?_
      refine tz_iconst (1 : Int32) zk_iconst_1 (zd DL_law_2 10 rfl) ?_
      refine tz_iadd (zd DL_law_2 11 rfl) ?_
      refine tz_sld (zd DL_law_2 12 rfl) ?_
      refine tz_cV_i kz8 (zs_74) rfl (rest := [.int v46]) (YX8_undoes) wk_1029 (tX8_undoes (xs ((nI (4 * k)) + (1 : Int32)).toNatClampNeg) w44) rfl rfl (Nat.le_of_ble_eq_true rfl) ⟨Nat.le_of_ble_eq_true rfl, Nat.le_of_ble_eq_true rfl⟩ (zd DL_law_2 13 rfl) (fun v49 w47 e48 => ?_)
      refine tz_icmp_eq 1469 (zd DL_law_2 14 rfl) rfl (fun q50 => ?_) (fun q50 => ?_)
      · exact hj2 w47
      refine tz_iconst (0 : Int32) zk_iconst_0 (zd DL_law_2 15 rfl) ?_
      exact tz_none
    refine tz_case (fun q51 => ?_) (fun q51 => ?_)
    · refine tz_tin (6) 358 (by rw [q51]; decide) (zd DL_law_0 24 rfl) (by decide) (by decide) rfl rfl ?_
      refine tz_lwk ?_
      refine tz_aload_n 1 rfl (zd DL_law_2 17 rfl) ?_
      refine tz_aload_n 0 rfl (zd DL_law_2 18 rfl) ?_
      refine tz_iload 4 rfl (zd DL_law_2 19 rfl) ?_
      refine tz_iconst (1 : Int32) zk_iconst_1 (zd DL_law_2 20 rfl) ?_
      refine tz_iadd (zd DL_law_2 21 rfl) ?_
      refine tz_sld (zd DL_law_2 22 rfl) ?_
      refine tz_aload_n 0 rfl (zd DL_law_2 23 rfl) ?_
      refine tz_iload 4 rfl (zd DL_law_2 24 rfl) ?_
      refine tz_iconst (2 : Int32) zk_iconst_2 (zd DL_law_2 25 rfl) ?_
      refine tz_iadd (zd DL_law_2 26 rfl) ?_
      refine tz_sld (zd DL_law_2 27 rfl) ?_
      refine tz_aload_n 0 rfl (zd DL_law_2 28 rfl) ?_
      refine tz_iload 4 rfl (zd DL_law_2 29 rfl) ?_
      refine tz_iconst (3 : Int32) zk_iconst_3 (zd DL_law_2 30 rfl) ?_
      refine tz_iadd (zd DL_law_2 31 rfl) ?_
      refine tz_sld (zd DL_law_2 32 rfl) ?_
      refine tz_cV_i kz7 (zs_0) rfl (rest := []) (YX7_puts) wk_479 (tX7_puts (xs ((nI (4 * k)) + (1 : Int32)).toNatClampNeg) (xs ((nI (4 * k)) + (2 : Int32)).toNatClampNeg) (xs ((nI (4 * k)) + (3 : Int32)).toNatClampNeg) w) rfl rfl (Nat.le_of_ble_eq_true rfl) ⟨Nat.le_of_ble_eq_true rfl, Nat.le_of_ble_eq_true rfl⟩ (zd DL_law_2 33 rfl) (fun v54 w52 e53 => ?_)
      refine tz_aload_n 2 rfl (zd DL_law_2 34 rfl) ?_
      refine tz_aload_n 0 rfl (zd DL_law_2 35 rfl) ?_
      refine tz_iload 4 rfl (zd DL_law_2 36 rfl) ?_
      refine tz_iconst (1 : Int32) zk_iconst_1 (zd DL_law_2 37 rfl) ?_
      refine tz_iadd (zd DL_law_2 38 rfl) ?_
      refine tz_sld (zd DL_law_2 39 rfl) ?_
      refine tz_aload_n 0 rfl (zd DL_law_2 40 rfl) ?_
      refine tz_iload 4 rfl (zd DL_law_2 41 rfl) ?_
      refine tz_iconst (2 : Int32) zk_iconst_2 (zd DL_law_2 42 rfl) ?_
      refine tz_iadd (zd DL_law_2 43 rfl) ?_
      refine tz_sld (zd DL_law_2 44 rfl) ?_
      refine tz_aload_n 0 rfl (zd DL_law_2 45 rfl) ?_
      refine tz_iload 4 rfl (zd DL_law_2 46 rfl) ?_
      refine tz_iconst (3 : Int32) zk_iconst_3 (zd DL_law_2 47 rfl) ?_
      refine tz_iadd (zd DL_law_2 48 rfl) ?_
      refine tz_sld (zd DL_law_2 49 rfl) ?_
      refine tz_cV_i kz8 (zs_74) rfl (rest := [.int v54]) (YX8_puts) wk_1104 (tX8_puts (xs ((nI (4 * k)) + (1 : Int32)).toNatClampNeg) (xs ((nI (4 * k)) + (2 : Int32)).toNatClampNeg) (xs ((nI (4 * k)) + (3 : Int32)).toNatClampNeg) w52) rfl rfl (Nat.le_of_ble_eq_true rfl) ⟨Nat.le_of_ble_eq_true rfl, Nat.le_of_ble_eq_true rfl⟩ (zd DL_law_2 50 rfl) (fun v57 w55 e56 => ?_)
      refine tz_icmp_eq 1469 (zd DL_law_2 51 rfl) rfl (fun q58 => ?_) (fun q58 => ?_)
      · exact hj2 w55
      refine tz_iconst (0 : Int32) zk_iconst_0 (zd DL_law_2 52 rfl) ?_
      exact tz_none
    refine tz_case (fun q59 => ?_) (fun q59 => ?_)
    · refine tz_tin (7) 407 (by rw [q59]; decide) (zd DL_law_0 24 rfl) (by decide) (by decide) rfl rfl ?_
      refine tz_lwk ?_
      refine tz_aload_n 1 rfl (zd DL_law_2 54 rfl) ?_
      refine tz_aload_n 0 rfl (zd DL_law_2 55 rfl) ?_
      refine tz_iload 4 rfl (zd DL_law_2 56 rfl) ?_
      refine tz_iconst (1 : Int32) zk_iconst_1 (zd DL_law_2 57 rfl) ?_
      refine tz_iadd (zd DL_law_2 58 rfl) ?_
      refine tz_sld (zd DL_law_2 59 rfl) ?_
      refine tz_aload_n 0 rfl (zd DL_law_3 0 rfl) ?_
      refine tz_iload 4 rfl (zd DL_law_3 1 rfl) ?_
      refine tz_iconst (2 : Int32) zk_iconst_2 (zd DL_law_3 2 rfl) ?_
      refine tz_iadd (zd DL_law_3 3 rfl) ?_
      refine tz_sld (zd DL_law_3 4 rfl) ?_
      refine tz_cV_i kz7 (zs_0) rfl (rest := []) (YX7_takes) wk_492 (tX7_takes (xs ((nI (4 * k)) + (1 : Int32)).toNatClampNeg) (xs ((nI (4 * k)) + (2 : Int32)).toNatClampNeg) w) rfl rfl (Nat.le_of_ble_eq_true rfl) ⟨Nat.le_of_ble_eq_true rfl, Nat.le_of_ble_eq_true rfl⟩ (zd DL_law_3 5 rfl) (fun v62 w60 e61 => ?_)
      refine tz_aload_n 2 rfl (zd DL_law_3 6 rfl) ?_
      refine tz_aload_n 0 rfl (zd DL_law_3 7 rfl) ?_
      refine tz_iload 4 rfl (zd DL_law_3 8 rfl) ?_
      refine tz_iconst (1 : Int32) zk_iconst_1 (zd DL_law_3 9 rfl) ?_
      refine tz_iadd (zd DL_law_3 10 rfl) ?_
      refine tz_sld (zd DL_law_3 11 rfl) ?_
      refine tz_aload_n 0 rfl (zd DL_law_3 12 rfl) ?_
      refine tz_iload 4 rfl (zd DL_law_3 13 rfl) ?_
      refine tz_iconst (2 : Int32) zk_iconst_2 (zd DL_law_3 14 rfl) ?_
      refine tz_iadd (zd DL_law_3 15 rfl) ?_
      refine tz_sld (zd DL_law_3 16 rfl) ?_
      refine tz_cV_i kz8 (zs_74) rfl (rest := [.int v62]) (YX8_takes) wk_1115 (tX8_takes (xs ((nI (4 * k)) + (1 : Int32)).toNatClampNeg) (xs ((nI (4 * k)) + (2 : Int32)).toNatClampNeg) w60) rfl rfl (Nat.le_of_ble_eq_true rfl) ⟨Nat.le_of_ble_eq_true rfl, Nat.le_of_ble_eq_true rfl⟩ (zd DL_law_3 17 rfl) (fun v65 w63 e64 => ?_)
      refine tz_icmp_eq 1469 (zd DL_law_3 18 rfl) rfl (fun q66 => ?_) (fun q66 => ?_)
      · exact hj2 w63
      refine tz_iconst (0 : Int32) zk_iconst_0 (zd DL_law_3 19 rfl) ?_
      exact tz_none
    refine tz_case (fun q67 => ?_) (fun q67 => ?_)
    · refine tz_tin (8) 444 (by rw [q67]; decide) (zd DL_law_0 24 rfl) (by decide) (by decide) rfl rfl ?_
      refine tz_lwk ?_
      refine tz_aload_n 1 rfl (zd DL_law_3 21 rfl) ?_
      refine tz_aload_n 0 rfl (zd DL_law_3 22 rfl) ?_
      refine tz_iload 4 rfl (zd DL_law_3 23 rfl) ?_
      refine tz_iconst (1 : Int32) zk_iconst_1 (zd DL_law_3 24 rfl) ?_
      refine tz_iadd (zd DL_law_3 25 rfl) ?_
      refine tz_sld (zd DL_law_3 26 rfl) ?_
      refine tz_aload_n 0 rfl (zd DL_law_3 27 rfl) ?_
      refine tz_iload 4 rfl (zd DL_law_3 28 rfl) ?_
      refine tz_iconst (2 : Int32) zk_iconst_2 (zd DL_law_3 29 rfl) ?_
      refine tz_iadd (zd DL_law_3 30 rfl) ?_
      refine tz_sld (zd DL_law_3 31 rfl) ?_
      refine tz_cV_i kz7 (zs_0) rfl (rest := []) (YX7_copies) wk_500 (tX7_copies (xs ((nI (4 * k)) + (1 : Int32)).toNatClampNeg) (xs ((nI (4 * k)) + (2 : Int32)).toNatClampNeg) w) rfl rfl (Nat.le_of_ble_eq_true rfl) ⟨Nat.le_of_ble_eq_true rfl, Nat.le_of_ble_eq_true rfl⟩ (zd DL_law_3 32 rfl) (fun v70 w68 e69 => ?_)
      refine tz_aload_n 2 rfl (zd DL_law_3 33 rfl) ?_
      refine tz_aload_n 0 rfl (zd DL_law_3 34 rfl) ?_
      refine tz_iload 4 rfl (zd DL_law_3 35 rfl) ?_
      refine tz_iconst (1 : Int32) zk_iconst_1 (zd DL_law_3 36 rfl) ?_
      refine tz_iadd (zd DL_law_3 37 rfl) ?_
      refine tz_sld (zd DL_law_3 38 rfl) ?_
      refine tz_aload_n 0 rfl (zd DL_law_3 39 rfl) ?_
      refine tz_iload 4 rfl (zd DL_law_3 40 rfl) ?_
      refine tz_iconst (2 : Int32) zk_iconst_2 (zd DL_law_3 41 rfl) ?_
      refine tz_iadd (zd DL_law_3 42 rfl) ?_
      refine tz_sld (zd DL_law_3 43 rfl) ?_
      refine tz_cV_i kz8 (zs_74) rfl (rest := [.int v70]) (YX8_copies) wk_1127 (tX8_copies (xs ((nI (4 * k)) + (1 : Int32)).toNatClampNeg) (xs ((nI (4 * k)) + (2 : Int32)).toNatClampNeg) w68) rfl rfl (Nat.le_of_ble_eq_true rfl) ⟨Nat.le_of_ble_eq_true rfl, Nat.le_of_ble_eq_true rfl⟩ (zd DL_law_3 44 rfl) (fun v73 w71 e72 => ?_)
      refine tz_icmp_eq 1469 (zd DL_law_3 45 rfl) rfl (fun q74 => ?_) (fun q74 => ?_)
      · exact hj2 w71
      refine tz_iconst (0 : Int32) zk_iconst_0 (zd DL_law_3 46 rfl) ?_
      exact tz_none
    refine tz_case (fun q75 => ?_) (fun q75 => ?_)
    · refine tz_tin (9) 481 (by rw [q75]; decide) (zd DL_law_0 24 rfl) (by decide) (by decide) rfl rfl ?_
      refine tz_lwk ?_
      refine tz_aload_n 1 rfl (zd DL_law_3 48 rfl) ?_
      refine tz_aload_n 0 rfl (zd DL_law_3 49 rfl) ?_
      refine tz_iload 4 rfl (zd DL_law_3 50 rfl) ?_
      refine tz_iconst (1 : Int32) zk_iconst_1 (zd DL_law_3 51 rfl) ?_
      refine tz_iadd (zd DL_law_3 52 rfl) ?_
      refine tz_sld (zd DL_law_3 53 rfl) ?_
      refine tz_aload_n 0 rfl (zd DL_law_3 54 rfl) ?_
      refine tz_iload 4 rfl (zd DL_law_3 55 rfl) ?_
      refine tz_iconst (2 : Int32) zk_iconst_2 (zd DL_law_3 56 rfl) ?_
      refine tz_iadd (zd DL_law_3 57 rfl) ?_
      refine tz_sld (zd DL_law_3 58 rfl) ?_
      refine tz_cV_i kz7 (zs_0) rfl (rest := []) (YX7_joins) wk_515 (tX7_joins (xs ((nI (4 * k)) + (1 : Int32)).toNatClampNeg) (xs ((nI (4 * k)) + (2 : Int32)).toNatClampNeg) w) rfl rfl (Nat.le_of_ble_eq_true rfl) ⟨Nat.le_of_ble_eq_true rfl, Nat.le_of_ble_eq_true rfl⟩ (zd DL_law_3 59 rfl) (fun v78 w76 e77 => ?_)
      refine tz_aload_n 2 rfl (zd DL_law_4 0 rfl) ?_
      refine tz_aload_n 0 rfl (zd DL_law_4 1 rfl) ?_
      refine tz_iload 4 rfl (zd DL_law_4 2 rfl) ?_
      refine tz_iconst (1 : Int32) zk_iconst_1 (zd DL_law_4 3 rfl) ?_
      refine tz_iadd (zd DL_law_4 4 rfl) ?_
      refine tz_sld (zd DL_law_4 5 rfl) ?_
      refine tz_aload_n 0 rfl (zd DL_law_4 6 rfl) ?_
      refine tz_iload 4 rfl (zd DL_law_4 7 rfl) ?_
      refine tz_iconst (2 : Int32) zk_iconst_2 (zd DL_law_4 8 rfl) ?_
      refine tz_iadd (zd DL_law_4 9 rfl) ?_
      refine tz_sld (zd DL_law_4 10 rfl) ?_
      refine tz_cV_i kz8 (zs_74) rfl (rest := [.int v78]) (YX8_joins) wk_1135 (tX8_joins (xs ((nI (4 * k)) + (1 : Int32)).toNatClampNeg) (xs ((nI (4 * k)) + (2 : Int32)).toNatClampNeg) w76) rfl rfl (Nat.le_of_ble_eq_true rfl) ⟨Nat.le_of_ble_eq_true rfl, Nat.le_of_ble_eq_true rfl⟩ (zd DL_law_4 11 rfl) (fun v81 w79 e80 => ?_)
      refine tz_icmp_eq 1469 (zd DL_law_4 12 rfl) rfl (fun q82 => ?_) (fun q82 => ?_)
      · exact hj2 w79
      refine tz_iconst (0 : Int32) zk_iconst_0 (zd DL_law_4 13 rfl) ?_
      exact tz_none
    refine tz_case (fun q83 => ?_) (fun q83 => ?_)
    · refine tz_tin (10) 518 (by rw [q83]; decide) (zd DL_law_0 24 rfl) (by decide) (by decide) rfl rfl ?_
      refine tz_lwk ?_
      refine tz_aload_n 1 rfl (zd DL_law_4 15 rfl) ?_
      refine tz_aload_n 0 rfl (zd DL_law_4 16 rfl) ?_
      refine tz_iload 4 rfl (zd DL_law_4 17 rfl) ?_
      refine tz_iconst (1 : Int32) zk_iconst_1 (zd DL_law_4 18 rfl) ?_
      refine tz_iadd (zd DL_law_4 19 rfl) ?_
      refine tz_sld (zd DL_law_4 20 rfl) ?_
      refine tz_aload_n 0 rfl (zd DL_law_4 21 rfl) ?_
      refine tz_iload 4 rfl (zd DL_law_4 22 rfl) ?_
      refine tz_iconst (2 : Int32) zk_iconst_2 (zd DL_law_4 23 rfl) ?_
      refine tz_iadd (zd DL_law_4 24 rfl) ?_
      refine tz_sld (zd DL_law_4 25 rfl) ?_
      refine tz_aload_n 0 rfl (zd DL_law_4 26 rfl) ?_
      refine tz_iload 4 rfl (zd DL_law_4 27 rfl) ?_
      refine tz_iconst (3 : Int32) zk_iconst_3 (zd DL_law_4 28 rfl) ?_
      refine tz_iadd (zd DL_law_4 29 rfl) ?_
      refine tz_sld (zd DL_law_4 30 rfl) ?_
      refine tz_cV_i kz7 (zs_0) rfl (rest := []) (YX7_parts) wk_519 (tX7_parts (xs ((nI (4 * k)) + (1 : Int32)).toNatClampNeg) (xs ((nI (4 * k)) + (2 : Int32)).toNatClampNeg) (xs ((nI (4 * k)) + (3 : Int32)).toNatClampNeg) w) rfl rfl (Nat.le_of_ble_eq_true rfl) ⟨Nat.le_of_ble_eq_true rfl, Nat.le_of_ble_eq_true rfl⟩ (zd DL_law_4 31 rfl) (fun v86 w84 e85 => ?_)
      refine tz_aload_n 2 rfl (zd DL_law_4 32 rfl) ?_
      refine tz_aload_n 0 rfl (zd DL_law_4 33 rfl) ?_
      refine tz_iload 4 rfl (zd DL_law_4 34 rfl) ?_
      refine tz_iconst (1 : Int32) zk_iconst_1 (zd DL_law_4 35 rfl) ?_
      refine tz_iadd (zd DL_law_4 36 rfl) ?_
      refine tz_sld (zd DL_law_4 37 rfl) ?_
      refine tz_aload_n 0 rfl (zd DL_law_4 38 rfl) ?_
      refine tz_iload 4 rfl (zd DL_law_4 39 rfl) ?_
      refine tz_iconst (2 : Int32) zk_iconst_2 (zd DL_law_4 40 rfl) ?_
      refine tz_iadd (zd DL_law_4 41 rfl) ?_
      refine tz_sld (zd DL_law_4 42 rfl) ?_
      refine tz_aload_n 0 rfl (zd DL_law_4 43 rfl) ?_
      refine tz_iload 4 rfl (zd DL_law_4 44 rfl) ?_
      refine tz_iconst (3 : Int32) zk_iconst_3 (zd DL_law_4 45 rfl) ?_
      refine tz_iadd (zd DL_law_4 46 rfl) ?_
      refine tz_sld (zd DL_law_4 47 rfl) ?_
      refine tz_cV_i kz8 (zs_74) rfl (rest := [.int v86]) (YX8_parts) wk_1139 (tX8_parts (xs ((nI (4 * k)) + (1 : Int32)).toNatClampNeg) (xs ((nI (4 * k)) + (2 : Int32)).toNatClampNeg) (xs ((nI (4 * k)) + (3 : Int32)).toNatClampNeg) w84) rfl rfl (Nat.le_of_ble_eq_true rfl) ⟨Nat.le_of_ble_eq_true rfl, Nat.le_of_ble_eq_true rfl⟩ (zd DL_law_4 48 rfl) (fun v89 w87 e88 => ?_)
      refine tz_icmp_eq 1469 (zd DL_law_4 49 rfl) rfl (fun q90 => ?_) (fun q90 => ?_)
      · exact hj2 w87
      refine tz_iconst (0 : Int32) zk_iconst_0 (zd DL_law_4 50 rfl) ?_
      exact tz_none
    refine tz_case (fun q91 => ?_) (fun q91 => ?_)
    · refine tz_tin (11) 567 (by rw [q91]; decide) (zd DL_law_0 24 rfl) (by decide) (by decide) rfl rfl ?_
      refine tz_lwk ?_
      refine tz_aload_n 1 rfl (zd DL_law_4 52 rfl) ?_
      refine tz_aload_n 0 rfl (zd DL_law_4 53 rfl) ?_
      refine tz_iload 4 rfl (zd DL_law_4 54 rfl) ?_
      refine tz_iconst (1 : Int32) zk_iconst_1 (zd DL_law_4 55 rfl) ?_
      refine tz_iadd (zd DL_law_4 56 rfl) ?_
      refine tz_sld (zd DL_law_4 57 rfl) ?_
      refine tz_cV_i kz7 (zs_0) rfl (rest := []) (YX7_reverses) wk_527 (tX7_reverses (xs ((nI (4 * k)) + (1 : Int32)).toNatClampNeg) w) rfl rfl (Nat.le_of_ble_eq_true rfl) ⟨Nat.le_of_ble_eq_true rfl, Nat.le_of_ble_eq_true rfl⟩ (zd DL_law_4 58 rfl) (fun v94 w92 e93 => ?_)
      refine tz_aload_n 2 rfl (zd DL_law_4 59 rfl) ?_
      refine tz_aload_n 0 rfl (zd DL_law_5 0 rfl) ?_
      refine tz_iload 4 rfl (zd DL_law_5 1 rfl) ?_
      refine tz_iconst (1 : Int32) zk_iconst_1 (zd DL_law_5 2 rfl) ?_
      refine tz_iadd (zd DL_law_5 3 rfl) ?_
      refine tz_sld (zd DL_law_5 4 rfl) ?_
      refine tz_cV_i kz8 (zs_74) rfl (rest := [.int v94]) (YX8_reverses) wk_1143 (tX8_reverses (xs ((nI (4 * k)) + (1 : Int32)).toNatClampNeg) w92) rfl rfl (Nat.le_of_ble_eq_true rfl) ⟨Nat.le_of_ble_eq_true rfl, Nat.le_of_ble_eq_true rfl⟩ (zd DL_law_5 5 rfl) (fun v97 w95 e96 => ?_)
      refine tz_icmp_eq 1469 (zd DL_law_5 6 rfl) rfl (fun q98 => ?_) (fun q98 => ?_)
      · exact hj2 w95
      refine tz_iconst (0 : Int32) zk_iconst_0 (zd DL_law_5 7 rfl) ?_
      exact tz_none
    refine tz_case (fun q99 => ?_) (fun q99 => ?_)
    · refine tz_tin (12) 592 (by rw [q99]; decide) (zd DL_law_0 24 rfl) (by decide) (by decide) rfl rfl ?_
      refine tz_lwk ?_
      refine tz_aload_n 1 rfl (zd DL_law_5 9 rfl) ?_
      refine tz_aload_n 0 rfl (zd DL_law_5 10 rfl) ?_
      refine tz_iload 4 rfl (zd DL_law_5 11 rfl) ?_
      refine tz_iconst (1 : Int32) zk_iconst_1 (zd DL_law_5 12 rfl) ?_
      refine tz_iadd (zd DL_law_5 13 rfl) ?_
      refine tz_sld (zd DL_law_5 14 rfl) ?_
      refine tz_aload_n 0 rfl (zd DL_law_5 15 rfl) ?_
      refine tz_iload 4 rfl (zd DL_law_5 16 rfl) ?_
      refine tz_iconst (2 : Int32) zk_iconst_2 (zd DL_law_5 17 rfl) ?_
      refine tz_iadd (zd DL_law_5 18 rfl) ?_
      refine tz_sld (zd DL_law_5 19 rfl) ?_
      refine tz_aload_n 0 rfl (zd DL_law_5 20 rfl) ?_
      refine tz_iload 4 rfl (zd DL_law_5 21 rfl) ?_
      refine tz_iconst (3 : Int32) zk_iconst_3 (zd DL_law_5 22 rfl) ?_
      refine tz_iadd (zd DL_law_5 23 rfl) ?_
      refine tz_sld (zd DL_law_5 24 rfl) ?_
      refine tz_cV_i kz7 (zs_0) rfl (rest := []) (YX7_changes) wk_535 (tX7_changes (xs ((nI (4 * k)) + (1 : Int32)).toNatClampNeg) (xs ((nI (4 * k)) + (2 : Int32)).toNatClampNeg) (xs ((nI (4 * k)) + (3 : Int32)).toNatClampNeg) w) rfl rfl (Nat.le_of_ble_eq_true rfl) ⟨Nat.le_of_ble_eq_true rfl, Nat.le_of_ble_eq_true rfl⟩ (zd DL_law_5 25 rfl) (fun v102 w100 e101 => ?_)
      refine tz_aload_n 2 rfl (zd DL_law_5 26 rfl) ?_
      refine tz_aload_n 0 rfl (zd DL_law_5 27 rfl) ?_
      refine tz_iload 4 rfl (zd DL_law_5 28 rfl) ?_
      refine tz_iconst (1 : Int32) zk_iconst_1 (zd DL_law_5 29 rfl) ?_
      refine tz_iadd (zd DL_law_5 30 rfl) ?_
      refine tz_sld (zd DL_law_5 31 rfl) ?_
      refine tz_aload_n 0 rfl (zd DL_law_5 32 rfl) ?_
      refine tz_iload 4 rfl (zd DL_law_5 33 rfl) ?_
      refine tz_iconst (2 : Int32) zk_iconst_2 (zd DL_law_5 34 rfl) ?_
      refine tz_iadd (zd DL_law_5 35 rfl) ?_
      refine tz_sld (zd DL_law_5 36 rfl) ?_
      refine tz_aload_n 0 rfl (zd DL_law_5 37 rfl) ?_
      refine tz_iload 4 rfl (zd DL_law_5 38 rfl) ?_
      refine tz_iconst (3 : Int32) zk_iconst_3 (zd DL_law_5 39 rfl) ?_
      refine tz_iadd (zd DL_law_5 40 rfl) ?_
      refine tz_sld (zd DL_law_5 41 rfl) ?_
      refine tz_cV_i kz8 (zs_74) rfl (rest := [.int v102]) (YX8_changes) wk_1151 (tX8_changes (xs ((nI (4 * k)) + (1 : Int32)).toNatClampNeg) (xs ((nI (4 * k)) + (2 : Int32)).toNatClampNeg) (xs ((nI (4 * k)) + (3 : Int32)).toNatClampNeg) w100) rfl rfl (Nat.le_of_ble_eq_true rfl) ⟨Nat.le_of_ble_eq_true rfl, Nat.le_of_ble_eq_true rfl⟩ (zd DL_law_5 42 rfl) (fun v105 w103 e104 => ?_)
      refine tz_icmp_eq 1469 (zd DL_law_5 43 rfl) rfl (fun q106 => ?_) (fun q106 => ?_)
      · exact hj2 w103
      refine tz_iconst (0 : Int32) zk_iconst_0 (zd DL_law_5 44 rfl) ?_
      exact tz_none
    refine tz_case (fun q107 => ?_) (fun q107 => ?_)
    · refine tz_tin (13) 641 (by rw [q107]; decide) (zd DL_law_0 24 rfl) (by decide) (by decide) rfl rfl ?_
      refine tz_lwk ?_
      refine tz_aload_n 1 rfl (zd DL_law_5 46 rfl) ?_
      refine tz_aload_n 0 rfl (zd DL_law_5 47 rfl) ?_
      refine tz_iload 4 rfl (zd DL_law_5 48 rfl) ?_
      refine tz_iconst (1 : Int32) zk_iconst_1 (zd DL_law_5 49 rfl) ?_
      refine tz_iadd (zd DL_law_5 50 rfl) ?_
      refine tz_sld (zd DL_law_5 51 rfl) ?_
      refine tz_aload_n 0 rfl (zd DL_law_5 52 rfl) ?_
      refine tz_iload 4 rfl (zd DL_law_5 53 rfl) ?_
      refine tz_iconst (2 : Int32) zk_iconst_2 (zd DL_law_5 54 rfl) ?_
      refine tz_iadd (zd DL_law_5 55 rfl) ?_
      refine tz_sld (zd DL_law_5 56 rfl) ?_
      refine tz_aload_n 0 rfl (zd DL_law_5 57 rfl) ?_
      refine tz_iload 4 rfl (zd DL_law_5 58 rfl) ?_
      refine tz_iconst (3 : Int32) zk_iconst_3 (zd DL_law_5 59 rfl) ?_
      refine tz_iadd (zd DL_law_6 0 rfl) ?_
      refine tz_sld (zd DL_law_6 1 rfl) ?_
      refine tz_cV_i kz7 (zs_0) rfl (rest := []) (YX7_slips) wk_547 (tX7_slips (xs ((nI (4 * k)) + (1 : Int32)).toNatClampNeg) (xs ((nI (4 * k)) + (2 : Int32)).toNatClampNeg) (xs ((nI (4 * k)) + (3 : Int32)).toNatClampNeg) w) rfl rfl (Nat.le_of_ble_eq_true rfl) ⟨Nat.le_of_ble_eq_true rfl, Nat.le_of_ble_eq_true rfl⟩ (zd DL_law_6 2 rfl) (fun v110 w108 e109 => ?_)
      refine tz_aload_n 2 rfl (zd DL_law_6 3 rfl) ?_
      refine tz_aload_n 0 rfl (zd DL_law_6 4 rfl) ?_
      refine tz_iload 4 rfl (zd DL_law_6 5 rfl) ?_
      refine tz_iconst (1 : Int32) zk_iconst_1 (zd DL_law_6 6 rfl) ?_
      refine tz_iadd (zd DL_law_6 7 rfl) ?_
      refine tz_sld (zd DL_law_6 8 rfl) ?_
      refine tz_aload_n 0 rfl (zd DL_law_6 9 rfl) ?_
      refine tz_iload 4 rfl (zd DL_law_6 10 rfl) ?_
      refine tz_iconst (2 : Int32) zk_iconst_2 (zd DL_law_6 11 rfl) ?_
      refine tz_iadd (zd DL_law_6 12 rfl) ?_
      refine tz_sld (zd DL_law_6 13 rfl) ?_
      refine tz_aload_n 0 rfl (zd DL_law_6 14 rfl) ?_
      refine tz_iload 4 rfl (zd DL_law_6 15 rfl) ?_
      refine tz_iconst (3 : Int32) zk_iconst_3 (zd DL_law_6 16 rfl) ?_
      refine tz_iadd (zd DL_law_6 17 rfl) ?_
      refine tz_sld (zd DL_law_6 18 rfl) ?_
      refine tz_cV_i kz8 (zs_74) rfl (rest := [.int v110]) (YX8_slips) wk_1163 (tX8_slips (xs ((nI (4 * k)) + (1 : Int32)).toNatClampNeg) (xs ((nI (4 * k)) + (2 : Int32)).toNatClampNeg) (xs ((nI (4 * k)) + (3 : Int32)).toNatClampNeg) w108) rfl rfl (Nat.le_of_ble_eq_true rfl) ⟨Nat.le_of_ble_eq_true rfl, Nat.le_of_ble_eq_true rfl⟩ (zd DL_law_6 19 rfl) (fun v113 w111 e112 => ?_)
      refine tz_icmp_eq 1469 (zd DL_law_6 20 rfl) rfl (fun q114 => ?_) (fun q114 => ?_)
      · exact hj2 w111
      refine tz_iconst (0 : Int32) zk_iconst_0 (zd DL_law_6 21 rfl) ?_
      exact tz_none
    refine tz_case (fun q115 => ?_) (fun q115 => ?_)
    · refine tz_tin (14) 690 (by rw [q115]; decide) (zd DL_law_0 24 rfl) (by decide) (by decide) rfl rfl ?_
      refine tz_lwk ?_
      refine tz_aload_n 1 rfl (zd DL_law_6 23 rfl) ?_
      refine tz_aload_n 0 rfl (zd DL_law_6 24 rfl) ?_
      refine tz_iload 4 rfl (zd DL_law_6 25 rfl) ?_
      refine tz_iconst (1 : Int32) zk_iconst_1 (zd DL_law_6 26 rfl) ?_
      refine tz_iadd (zd DL_law_6 27 rfl) ?_
      refine tz_sld (zd DL_law_6 28 rfl) ?_
      refine tz_aload_n 0 rfl (zd DL_law_6 29 rfl) ?_
      refine tz_iload 4 rfl (zd DL_law_6 30 rfl) ?_
      refine tz_iconst (2 : Int32) zk_iconst_2 (zd DL_law_6 31 rfl) ?_
      refine tz_iadd (zd DL_law_6 32 rfl) ?_
      refine tz_sld (zd DL_law_6 33 rfl) ?_
      refine tz_cV_i kz7 (zs_0) rfl (rest := []) (YX7_drops) wk_551 (tX7_drops (xs ((nI (4 * k)) + (1 : Int32)).toNatClampNeg) (xs ((nI (4 * k)) + (2 : Int32)).toNatClampNeg) w) rfl rfl (Nat.le_of_ble_eq_true rfl) ⟨Nat.le_of_ble_eq_true rfl, Nat.le_of_ble_eq_true rfl⟩ (zd DL_law_6 34 rfl) (fun v118 w116 e117 => ?_)
      refine tz_aload_n 2 rfl (zd DL_law_6 35 rfl) ?_
      refine tz_aload_n 0 rfl (zd DL_law_6 36 rfl) ?_
      refine tz_iload 4 rfl (zd DL_law_6 37 rfl) ?_
      refine tz_iconst (1 : Int32) zk_iconst_1 (zd DL_law_6 38 rfl) ?_
      refine tz_iadd (zd DL_law_6 39 rfl) ?_
      refine tz_sld (zd DL_law_6 40 rfl) ?_
      refine tz_aload_n 0 rfl (zd DL_law_6 41 rfl) ?_
      refine tz_iload 4 rfl (zd DL_law_6 42 rfl) ?_
      refine tz_iconst (2 : Int32) zk_iconst_2 (zd DL_law_6 43 rfl) ?_
      refine tz_iadd (zd DL_law_6 44 rfl) ?_
      refine tz_sld (zd DL_law_6 45 rfl) ?_
      refine tz_cV_i kz8 (zs_74) rfl (rest := [.int v118]) (YX8_drops) wk_1167 (tX8_drops (xs ((nI (4 * k)) + (1 : Int32)).toNatClampNeg) (xs ((nI (4 * k)) + (2 : Int32)).toNatClampNeg) w116) rfl rfl (Nat.le_of_ble_eq_true rfl) ⟨Nat.le_of_ble_eq_true rfl, Nat.le_of_ble_eq_true rfl⟩ (zd DL_law_6 46 rfl) (fun v121 w119 e120 => ?_)
      refine tz_icmp_eq 1469 (zd DL_law_6 47 rfl) rfl (fun q122 => ?_) (fun q122 => ?_)
      · exact hj2 w119
      refine tz_iconst (0 : Int32) zk_iconst_0 (zd DL_law_6 48 rfl) ?_
      exact tz_none
    refine tz_case (fun q123 => ?_) (fun q123 => ?_)
    · refine tz_tin (15) 727 (by rw [q123]; decide) (zd DL_law_0 24 rfl) (by decide) (by decide) rfl rfl ?_
      refine tz_lwk ?_
      refine tz_aload_n 1 rfl (zd DL_law_6 50 rfl) ?_
      refine tz_aload_n 0 rfl (zd DL_law_6 51 rfl) ?_
      refine tz_iload 4 rfl (zd DL_law_6 52 rfl) ?_
      refine tz_iconst (1 : Int32) zk_iconst_1 (zd DL_law_6 53 rfl) ?_
      refine tz_iadd (zd DL_law_6 54 rfl) ?_
      refine tz_sld (zd DL_law_6 55 rfl) ?_
      refine tz_aload_n 0 rfl (zd DL_law_6 56 rfl) ?_
      refine tz_iload 4 rfl (zd DL_law_6 57 rfl) ?_
      refine tz_iconst (2 : Int32) zk_iconst_2 (zd DL_law_6 58 rfl) ?_
      refine tz_iadd (zd DL_law_6 59 rfl) ?_
      refine tz_sld (zd DL_law_7 0 rfl) ?_
      refine tz_aload_n 0 rfl (zd DL_law_7 1 rfl) ?_
      refine tz_iload 4 rfl (zd DL_law_7 2 rfl) ?_
      refine tz_iconst (3 : Int32) zk_iconst_3 (zd DL_law_7 3 rfl) ?_
      refine tz_iadd (zd DL_law_7 4 rfl) ?_
      refine tz_sld (zd DL_law_7 5 rfl) ?_
      refine tz_cV_i kz7 (zs_0) rfl (rest := []) (YX7_shifts) wk_555 (tX7_shifts (xs ((nI (4 * k)) + (1 : Int32)).toNatClampNeg) (xs ((nI (4 * k)) + (2 : Int32)).toNatClampNeg) (xs ((nI (4 * k)) + (3 : Int32)).toNatClampNeg) w) rfl rfl (Nat.le_of_ble_eq_true rfl) ⟨Nat.le_of_ble_eq_true rfl, Nat.le_of_ble_eq_true rfl⟩ (zd DL_law_7 6 rfl) (fun v126 w124 e125 => ?_)
      refine tz_aload_n 2 rfl (zd DL_law_7 7 rfl) ?_
      refine tz_aload_n 0 rfl (zd DL_law_7 8 rfl) ?_
      refine tz_iload 4 rfl (zd DL_law_7 9 rfl) ?_
      refine tz_iconst (1 : Int32) zk_iconst_1 (zd DL_law_7 10 rfl) ?_
      refine tz_iadd (zd DL_law_7 11 rfl) ?_
      refine tz_sld (zd DL_law_7 12 rfl) ?_
      refine tz_aload_n 0 rfl (zd DL_law_7 13 rfl) ?_
      refine tz_iload 4 rfl (zd DL_law_7 14 rfl) ?_
      refine tz_iconst (2 : Int32) zk_iconst_2 (zd DL_law_7 15 rfl) ?_
      refine tz_iadd (zd DL_law_7 16 rfl) ?_
      refine tz_sld (zd DL_law_7 17 rfl) ?_
      refine tz_aload_n 0 rfl (zd DL_law_7 18 rfl) ?_
      refine tz_iload 4 rfl (zd DL_law_7 19 rfl) ?_
      refine tz_iconst (3 : Int32) zk_iconst_3 (zd DL_law_7 20 rfl) ?_
      refine tz_iadd (zd DL_law_7 21 rfl) ?_
      refine tz_sld (zd DL_law_7 22 rfl) ?_
      refine tz_cV_i kz8 (zs_74) rfl (rest := [.int v126]) (YX8_shifts) wk_1171 (tX8_shifts (xs ((nI (4 * k)) + (1 : Int32)).toNatClampNeg) (xs ((nI (4 * k)) + (2 : Int32)).toNatClampNeg) (xs ((nI (4 * k)) + (3 : Int32)).toNatClampNeg) w124) rfl rfl (Nat.le_of_ble_eq_true rfl) ⟨Nat.le_of_ble_eq_true rfl, Nat.le_of_ble_eq_true rfl⟩ (zd DL_law_7 23 rfl) (fun v129 w127 e128 => ?_)
      refine tz_icmp_eq 1469 (zd DL_law_7 24 rfl) rfl (fun q130 => ?_) (fun q130 => ?_)
      · exact hj2 w127
      refine tz_iconst (0 : Int32) zk_iconst_0 (zd DL_law_7 25 rfl) ?_
      exact tz_none
    refine tz_case (fun q131 => ?_) (fun q131 => ?_)
    · refine tz_tin (16) 776 (by rw [q131]; decide) (zd DL_law_0 24 rfl) (by decide) (by decide) rfl rfl ?_
      refine tz_lwk ?_
      refine tz_aload_n 1 rfl (zd DL_law_7 27 rfl) ?_
      refine tz_aload_n 0 rfl (zd DL_law_7 28 rfl) ?_
      refine tz_iload 4 rfl (zd DL_law_7 29 rfl) ?_
      refine tz_iconst (1 : Int32) zk_iconst_1 (zd DL_law_7 30 rfl) ?_
      refine tz_iadd (zd DL_law_7 31 rfl) ?_
      refine tz_sld (zd DL_law_7 32 rfl) ?_
      refine tz_cV_i kz7 (zs_0) rfl (rest := []) (YX7_clears) wk_563 (tX7_clears (xs ((nI (4 * k)) + (1 : Int32)).toNatClampNeg) w) rfl rfl (Nat.le_of_ble_eq_true rfl) ⟨Nat.le_of_ble_eq_true rfl, Nat.le_of_ble_eq_true rfl⟩ (zd DL_law_7 33 rfl) (fun v134 w132 e133 => ?_)
      refine tz_aload_n 2 rfl (zd DL_law_7 34 rfl) ?_
      refine tz_aload_n 0 rfl (zd DL_law_7 35 rfl) ?_
      refine tz_iload 4 rfl (zd DL_law_7 36 rfl) ?_
      refine tz_iconst (1 : Int32) zk_iconst_1 (zd DL_law_7 37 rfl) ?_
      refine tz_iadd (zd DL_law_7 38 rfl) ?_
      refine tz_sld (zd DL_law_7 39 rfl) ?_
      refine tz_cV_i kz8 (zs_74) rfl (rest := [.int v134]) (YX8_clears) wk_1184 (tX8_clears (xs ((nI (4 * k)) + (1 : Int32)).toNatClampNeg) w132) rfl rfl (Nat.le_of_ble_eq_true rfl) ⟨Nat.le_of_ble_eq_true rfl, Nat.le_of_ble_eq_true rfl⟩ (zd DL_law_7 40 rfl) (fun v137 w135 e136 => ?_)
      refine tz_icmp_eq 1469 (zd DL_law_7 41 rfl) rfl (fun q138 => ?_) (fun q138 => ?_)
      · exact hj2 w135
      refine tz_iconst (0 : Int32) zk_iconst_0 (zd DL_law_7 42 rfl) ?_
      exact tz_none
    refine tz_case (fun q139 => ?_) (fun q139 => ?_)
    · refine tz_tin (17) 801 (by rw [q139]; decide) (zd DL_law_0 24 rfl) (by decide) (by decide) rfl rfl ?_
      refine tz_lwk ?_
      refine tz_aload_n 1 rfl (zd DL_law_7 44 rfl) ?_
      refine tz_aload_n 0 rfl (zd DL_law_7 45 rfl) ?_
      refine tz_iload 4 rfl (zd DL_law_7 46 rfl) ?_
      refine tz_iconst (1 : Int32) zk_iconst_1 (zd DL_law_7 47 rfl) ?_
      refine tz_iadd (zd DL_law_7 48 rfl) ?_
      refine tz_sld (zd DL_law_7 49 rfl) ?_
      refine tz_cV_i kz7 (zs_0) rfl (rest := []) (YX7_run) wk_567 (tX7_run (xs ((nI (4 * k)) + (1 : Int32)).toNatClampNeg) w) rfl rfl (Nat.le_of_ble_eq_true rfl) ⟨Nat.le_of_ble_eq_true rfl, Nat.le_of_ble_eq_true rfl⟩ (zd DL_law_7 50 rfl) (fun v142 w140 e141 => ?_)
      refine tz_aload_n 2 rfl (zd DL_law_7 51 rfl) ?_
      refine tz_aload_n 0 rfl (zd DL_law_7 52 rfl) ?_
      refine tz_iload 4 rfl (zd DL_law_7 53 rfl) ?_
      refine tz_iconst (1 : Int32) zk_iconst_1 (zd DL_law_7 54 rfl) ?_
      refine tz_iadd (zd DL_law_7 55 rfl) ?_
      refine tz_sld (zd DL_law_7 56 rfl) ?_
      refine tz_cV_i kz8 (zs_74) rfl (rest := [.int v142]) (YX8_run) wk_1188 (tX8_run (xs ((nI (4 * k)) + (1 : Int32)).toNatClampNeg) w140) rfl rfl (Nat.le_of_ble_eq_true rfl) ⟨Nat.le_of_ble_eq_true rfl, Nat.le_of_ble_eq_true rfl⟩ (zd DL_law_7 57 rfl) (fun v145 w143 e144 => ?_)
      refine tz_icmp_eq 1469 (zd DL_law_7 58 rfl) rfl (fun q146 => ?_) (fun q146 => ?_)
      · exact hj2 w143
      refine tz_iconst (0 : Int32) zk_iconst_0 (zd DL_law_7 59 rfl) ?_
      exact tz_none
    refine tz_case (fun q147 => ?_) (fun q147 => ?_)
    · refine tz_tin (18) 826 (by rw [q147]; decide) (zd DL_law_0 24 rfl) (by decide) (by decide) rfl rfl ?_
      refine tz_lwk ?_
      refine tz_aload_n 1 rfl (zd DL_law_8 1 rfl) ?_
      refine tz_aload_n 0 rfl (zd DL_law_8 2 rfl) ?_
      refine tz_iload 4 rfl (zd DL_law_8 3 rfl) ?_
      refine tz_iconst (1 : Int32) zk_iconst_1 (zd DL_law_8 4 rfl) ?_
      refine tz_iadd (zd DL_law_8 5 rfl) ?_
      refine tz_sld (zd DL_law_8 6 rfl) ?_
      refine tz_cV_i kz7 (zs_0) rfl (rest := []) (YX7_sign) wk_601 (tX7_sign (xs ((nI (4 * k)) + (1 : Int32)).toNatClampNeg) w) rfl rfl (Nat.le_of_ble_eq_true rfl) ⟨Nat.le_of_ble_eq_true rfl, Nat.le_of_ble_eq_true rfl⟩ (zd DL_law_8 7 rfl) (fun v150 w148 e149 => ?_)
      refine tz_aload_n 2 rfl (zd DL_law_8 8 rfl) ?_
      refine tz_aload_n 0 rfl (zd DL_law_8 9 rfl) ?_
      refine tz_iload 4 rfl (zd DL_law_8 10 rfl) ?_
      refine tz_iconst (1 : Int32) zk_iconst_1 (zd DL_law_8 11 rfl) ?_
      refine tz_iadd (zd DL_law_8 12 rfl) ?_
      refine tz_sld (zd DL_law_8 13 rfl) ?_
      refine tz_cV_i kz8 (zs_74) rfl (rest := [.int v150]) (YX8_sign) wk_844 (tX8_sign (xs ((nI (4 * k)) + (1 : Int32)).toNatClampNeg) w148) rfl rfl (Nat.le_of_ble_eq_true rfl) ⟨Nat.le_of_ble_eq_true rfl, Nat.le_of_ble_eq_true rfl⟩ (zd DL_law_8 14 rfl) (fun v153 w151 e152 => ?_)
      refine tz_icmp_eq 1469 (zd DL_law_8 15 rfl) rfl (fun q154 => ?_) (fun q154 => ?_)
      · exact hj2 w151
      refine tz_iconst (0 : Int32) zk_iconst_0 (zd DL_law_8 16 rfl) ?_
      exact tz_none
    refine tz_case (fun q155 => ?_) (fun q155 => ?_)
    · refine tz_tin (19) 851 (by rw [q155]; decide) (zd DL_law_0 24 rfl) (by decide) (by decide) rfl rfl ?_
      refine tz_lwk ?_
      refine tz_aload_n 1 rfl (zd DL_law_8 18 rfl) ?_
      refine tz_aload_n 0 rfl (zd DL_law_8 19 rfl) ?_
      refine tz_iload 4 rfl (zd DL_law_8 20 rfl) ?_
      refine tz_iconst (1 : Int32) zk_iconst_1 (zd DL_law_8 21 rfl) ?_
      refine tz_iadd (zd DL_law_8 22 rfl) ?_
      refine tz_sld (zd DL_law_8 23 rfl) ?_
      refine tz_cV_z kz7 (zs_0) rfl (rest := []) (YX7_end) wk_610 (tX7_end (xs ((nI (4 * k)) + (1 : Int32)).toNatClampNeg) w) rfl rfl (Nat.le_of_ble_eq_true rfl) ⟨Nat.le_of_ble_eq_true rfl, Nat.le_of_ble_eq_true rfl⟩ (zd DL_law_8 24 rfl) (fun b158 w156 e157 => ?_)
      refine tz_aload_n 2 rfl (zd DL_law_8 25 rfl) ?_
      refine tz_aload_n 0 rfl (zd DL_law_8 26 rfl) ?_
      refine tz_iload 4 rfl (zd DL_law_8 27 rfl) ?_
      refine tz_iconst (1 : Int32) zk_iconst_1 (zd DL_law_8 28 rfl) ?_
      refine tz_iadd (zd DL_law_8 29 rfl) ?_
      refine tz_sld (zd DL_law_8 30 rfl) ?_
      refine tz_cV_z kz8 (zs_74) rfl (rest := [.int (zb b158)]) (YX8_end) wk_848 (tX8_end (xs ((nI (4 * k)) + (1 : Int32)).toNatClampNeg) w156) rfl rfl (Nat.le_of_ble_eq_true rfl) ⟨Nat.le_of_ble_eq_true rfl, Nat.le_of_ble_eq_true rfl⟩ (zd DL_law_8 31 rfl) (fun b161 w159 e160 => ?_)
      refine tz_icmp_eq 1469 (zd DL_law_8 32 rfl) rfl (fun q162 => ?_) (fun q162 => ?_)
      · exact hj2 w159
      refine tz_iconst (0 : Int32) zk_iconst_0 (zd DL_law_8 33 rfl) ?_
      exact tz_none
    refine tz_case (fun q163 => ?_) (fun q163 => ?_)
    · refine tz_tin (20) 876 (by rw [q163]; decide) (zd DL_law_0 24 rfl) (by decide) (by decide) rfl rfl ?_
      refine tz_lwk ?_
      refine tz_aload_n 1 rfl (zd DL_law_8 35 rfl) ?_
      refine tz_aload_n 0 rfl (zd DL_law_8 36 rfl) ?_
      refine tz_iload 4 rfl (zd DL_law_8 37 rfl) ?_
      refine tz_iconst (1 : Int32) zk_iconst_1 (zd DL_law_8 38 rfl) ?_
      refine tz_iadd (zd DL_law_8 39 rfl) ?_
      refine tz_sld (zd DL_law_8 40 rfl) ?_
      refine tz_cV_i kz7 (zs_0) rfl (rest := []) (YX7_sum) wk_614 (tX7_sum (xs ((nI (4 * k)) + (1 : Int32)).toNatClampNeg) w) rfl rfl (Nat.le_of_ble_eq_true rfl) ⟨Nat.le_of_ble_eq_true rfl, Nat.le_of_ble_eq_true rfl⟩ (zd DL_law_8 41 rfl) (fun v166 w164 e165 => ?_)
      refine tz_aload_n 2 rfl (zd DL_law_8 42 rfl) ?_
      refine tz_aload_n 0 rfl (zd DL_law_8 43 rfl) ?_
      refine tz_iload 4 rfl (zd DL_law_8 44 rfl) ?_
      refine tz_iconst (1 : Int32) zk_iconst_1 (zd DL_law_8 45 rfl) ?_
      refine tz_iadd (zd DL_law_8 46 rfl) ?_
      refine tz_sld (zd DL_law_8 47 rfl) ?_
      refine tz_cV_i kz8 (zs_74) rfl (rest := [.int v166]) (YX8_sum) wk_1204 (tX8_sum (xs ((nI (4 * k)) + (1 : Int32)).toNatClampNeg) w164) rfl rfl (Nat.le_of_ble_eq_true rfl) ⟨Nat.le_of_ble_eq_true rfl, Nat.le_of_ble_eq_true rfl⟩ (zd DL_law_8 48 rfl) (fun v169 w167 e168 => ?_)
      refine tz_icmp_eq 1469 (zd DL_law_8 49 rfl) rfl (fun q170 => ?_) (fun q170 => ?_)
      · exact hj2 w167
      refine tz_iconst (0 : Int32) zk_iconst_0 (zd DL_law_8 50 rfl) ?_
      exact tz_none
    refine tz_case (fun q171 => ?_) (fun q171 => ?_)
    · refine tz_tin (21) 901 (by rw [q171]; decide) (zd DL_law_0 24 rfl) (by decide) (by decide) rfl rfl ?_
      refine tz_aload_n 1 rfl (zd DL_law_8 52 rfl) ?_
      refine tz_aload_n 0 rfl (zd DL_law_8 53 rfl) ?_
      refine tz_iload 4 rfl (zd DL_law_8 54 rfl) ?_
      refine tz_iconst (1 : Int32) zk_iconst_1 (zd DL_law_8 55 rfl) ?_
      refine tz_iadd (zd DL_law_8 56 rfl) ?_
      refine tz_sld (zd DL_law_8 57 rfl) ?_
      refine tz_aload_n 0 rfl (zd DL_law_8 58 rfl) ?_
      refine tz_iload 4 rfl (zd DL_law_8 59 rfl) ?_
      refine tz_iconst (2 : Int32) zk_iconst_2 (zd DL_law_9 0 rfl) ?_
      refine tz_iadd (zd DL_law_9 1 rfl) ?_
      refine tz_sld (zd DL_law_9 2 rfl) ?_
      refine tz_aload_n 3 rfl (zd DL_law_9 3 rfl) ?_
      refine tz_cX1 (n := 4) (My := ML_item) (rest := []) (by omega) wk_760 wk_759 wk_0 wk_758 ⟨by decide, by decide, by decide +kernel⟩ rfl rfl ⟨Nat.le_of_ble_eq_true rfl, Nat.le_of_ble_eq_true rfl⟩ (tL_item (xs ((nI (4 * k)) + (1 : Int32)).toNatClampNeg) (xs ((nI (4 * k)) + (2 : Int32)).toNatClampNeg) w) rfl rfl (Nat.le_of_ble_eq_true rfl) (zd DL_law_9 4 rfl) (fun v172 w173 e174 => ?_)
      refine tz_istore [(5, .int v172), (0, .ref 94), (1, .ref 0), (2, .ref 74), (3, .ref 92), (4, .int (nI (4 * k)))] (Nat.le_of_ble_eq_true rfl) rfl (zd DL_law_9 5 rfl) ?_
      refine tz_aload_n 3 rfl (zd DL_law_9 6 rfl) ?_
      refine tz_aload_n 1 rfl (zd DL_law_9 7 rfl) ?_
      refine tz_iload 5 rfl (zd DL_law_9 8 rfl) ?_
      refine tz_iconst (1 : Int32) zk_iconst_1 (zd DL_law_9 9 rfl) ?_
      refine tz_iadd (zd DL_law_9 10 rfl) ?_
      refine tz_sld (zd DL_law_9 11 rfl) ?_
      refine tz_aload_n 1 rfl (zd DL_law_9 12 rfl) ?_
      refine tz_iload 5 rfl (zd DL_law_9 13 rfl) ?_
      refine tz_iconst (2 : Int32) zk_iconst_2 (zd DL_law_9 14 rfl) ?_
      refine tz_iadd (zd DL_law_9 15 rfl) ?_
      refine tz_sld (zd DL_law_9 16 rfl) ?_
      refine tz_cV_i kz8 (zs_74) rfl (rest := []) (YX8_item) wk_1208 (tX8_item (xs ((nI (4 * k)) + (1 : Int32)).toNatClampNeg) (xs ((nI (4 * k)) + (2 : Int32)).toNatClampNeg) w173) rfl rfl (Nat.le_of_ble_eq_true rfl) ⟨Nat.le_of_ble_eq_true rfl, Nat.le_of_ble_eq_true rfl⟩ (zd DL_law_9 17 rfl) (fun v177 w175 e176 => ?_)
      refine tz_istore [(6, .int v177), (5, .int v172), (0, .ref 94), (1, .ref 0), (2, .ref 74), (3, .ref 92), (4, .int (nI (4 * k)))] (Nat.le_of_ble_eq_true rfl) rfl (zd DL_law_9 18 rfl) ?_
      refine tz_aload_n 4 rfl (zd DL_law_9 19 rfl) ?_
      refine tz_cV_i kz8 (zs_74) rfl (rest := []) (YX8_thrown) wk_840 (tX8_thrown w175) rfl rfl (Nat.le_of_ble_eq_true rfl) ⟨Nat.le_of_ble_eq_true rfl, Nat.le_of_ble_eq_true rfl⟩ (zd DL_law_9 20 rfl) (fun v180 w178 e179 => ?_)
      refine tz_iload 1 rfl (zd DL_law_9 21 rfl) ?_
      refine tz_icmp_eq 949 (zd DL_law_9 22 rfl) rfl (fun q181 => ?_) (fun q181 => ?_)
      · refine tz_iload 1 rfl (zd DL_law_9 25 rfl) ?_
        refine tz_jp (P := fun j => ∀ (w182 : zW), Tz ML_law (zLw b L xs (k + 1)) (j w182) 966 [(0, .ref 94), (1, .ref 0), (2, .ref 74), (3, .ref 92), (4, .int (nI (4 * k)))] [] w182) ?_ (fun j182 hj182 => ?_)
        · intro w182
          refine tz_goto 1469 (zd DL_law_9 36 rfl) rfl ?_
          exact hj2 w182
        refine tz_if_ne 966 (zd DL_law_9 26 rfl) rfl (fun q183 => ?_) (fun q183 => ?_)
        · refine tz_lv (lv2 := [(0, .ref 94), (1, .ref 0), (2, .ref 74), (3, .ref 92), (4, .int (nI (4 * k)))]) [2, 3, 4, 5, 6] rfl ?_
          exact hj182 w178
        refine tz_aload_n 5 rfl (zd DL_law_9 27 rfl) ?_
        refine tz_iconst (0 : Int32) zk_iconst_0 (zd DL_law_9 28 rfl) ?_
        refine tz_lald (zs_92.1) (zs_92.2) (zd DL_law_9 29 rfl) ?_
        refine tz_iload 0 rfl (zd DL_law_9 30 rfl) ?_
        refine tz_i2l (zd DL_law_9 31 rfl) ?_
        refine tz_lcmp_eq 966 (zd DL_law_9 32 rfl) (zd DL_law_9 33 rfl) rfl (fun q184 => ?_) (fun q184 => ?_)
        · refine tz_lv (lv2 := [(0, .ref 94), (1, .ref 0), (2, .ref 74), (3, .ref 92), (4, .int (nI (4 * k)))]) [2, 3, 4, 5, 6] rfl ?_
          exact hj182 w178
        refine tz_iconst (0 : Int32) zk_iconst_0 (zd DL_law_9 34 rfl) ?_
        exact tz_none
      refine tz_iconst (0 : Int32) zk_iconst_0 (zd DL_law_9 23 rfl) ?_
      exact tz_none
    refine tz_case (fun q185 => ?_) (fun q185 => ?_)
    · refine tz_tin (22) 969 (by rw [q185]; decide) (zd DL_law_0 24 rfl) (by decide) (by decide) rfl rfl ?_
      refine tz_lwk ?_
      refine tz_aload_n 1 rfl (zd DL_law_9 37 rfl) ?_
      refine tz_aload_n 0 rfl (zd DL_law_9 38 rfl) ?_
      refine tz_iload 4 rfl (zd DL_law_9 39 rfl) ?_
      refine tz_iconst (1 : Int32) zk_iconst_1 (zd DL_law_9 40 rfl) ?_
      refine tz_iadd (zd DL_law_9 41 rfl) ?_
      refine tz_sld (zd DL_law_9 42 rfl) ?_
      refine tz_aload_n 0 rfl (zd DL_law_9 43 rfl) ?_
      refine tz_iload 4 rfl (zd DL_law_9 44 rfl) ?_
      refine tz_iconst (2 : Int32) zk_iconst_2 (zd DL_law_9 45 rfl) ?_
      refine tz_iadd (zd DL_law_9 46 rfl) ?_
      refine tz_sld (zd DL_law_9 47 rfl) ?_
      refine tz_aload_n 0 rfl (zd DL_law_9 48 rfl) ?_
      refine tz_iload 4 rfl (zd DL_law_9 49 rfl) ?_
      refine tz_iconst (3 : Int32) zk_iconst_3 (zd DL_law_9 50 rfl) ?_
      refine tz_iadd (zd DL_law_9 51 rfl) ?_
      refine tz_sld (zd DL_law_9 52 rfl) ?_
      refine tz_cV_i kz7 (zs_0) rfl (rest := []) (YX7_part) wk_618 (tX7_part (xs ((nI (4 * k)) + (1 : Int32)).toNatClampNeg) (xs ((nI (4 * k)) + (2 : Int32)).toNatClampNeg) (xs ((nI (4 * k)) + (3 : Int32)).toNatClampNeg) w) rfl rfl (Nat.le_of_ble_eq_true rfl) ⟨Nat.le_of_ble_eq_true rfl, Nat.le_of_ble_eq_true rfl⟩ (zd DL_law_9 53 rfl) (fun v188 w186 e187 => ?_)
      refine tz_aload_n 2 rfl (zd DL_law_9 54 rfl) ?_
      refine tz_aload_n 0 rfl (zd DL_law_9 55 rfl) ?_
      refine tz_iload 4 rfl (zd DL_law_9 56 rfl) ?_
      refine tz_iconst (1 : Int32) zk_iconst_1 (zd DL_law_9 57 rfl) ?_
      refine tz_iadd (zd DL_law_9 58 rfl) ?_
      refine tz_sld (zd DL_law_9 59 rfl) ?_
      refine tz_aload_n 0 rfl (zd DL_law_10 0 rfl) ?_
      refine tz_iload 4 rfl (zd DL_law_10 1 rfl) ?_
      refine tz_iconst (2 : Int32) zk_iconst_2 (zd DL_law_10 2 rfl) ?_
      refine tz_iadd (zd DL_law_10 3 rfl) ?_
      refine tz_sld (zd DL_law_10 4 rfl) ?_
      refine tz_aload_n 0 rfl (zd DL_law_10 5 rfl) ?_
      refine tz_iload 4 rfl (zd DL_law_10 6 rfl) ?_
      refine tz_iconst (3 : Int32) zk_iconst_3 (zd DL_law_10 7 rfl) ?_
      refine tz_iadd (zd DL_law_10 8 rfl) ?_
      refine tz_sld (zd DL_law_10 9 rfl) ?_
      refine tz_cV_i kz8 (zs_74) rfl (rest := [.int v188]) (YX8_part) wk_1212 (tX8_part (xs ((nI (4 * k)) + (1 : Int32)).toNatClampNeg) (xs ((nI (4 * k)) + (2 : Int32)).toNatClampNeg) (xs ((nI (4 * k)) + (3 : Int32)).toNatClampNeg) w186) rfl rfl (Nat.le_of_ble_eq_true rfl) ⟨Nat.le_of_ble_eq_true rfl, Nat.le_of_ble_eq_true rfl⟩ (zd DL_law_10 10 rfl) (fun v191 w189 e190 => ?_)
      refine tz_icmp_eq 1469 (zd DL_law_10 11 rfl) rfl (fun q192 => ?_) (fun q192 => ?_)
      · exact hj2 w189
      refine tz_iconst (0 : Int32) zk_iconst_0 (zd DL_law_10 12 rfl) ?_
      exact tz_none
    refine tz_case (fun q193 => ?_) (fun q193 => ?_)
    · refine tz_tin (23) 1018 (by rw [q193]; decide) (zd DL_law_0 24 rfl) (by decide) (by decide) rfl rfl ?_
      refine tz_lwk ?_
      refine tz_aload_n 1 rfl (zd DL_law_10 14 rfl) ?_
      refine tz_aload_n 0 rfl (zd DL_law_10 15 rfl) ?_
      refine tz_iload 4 rfl (zd DL_law_10 16 rfl) ?_
      refine tz_iconst (1 : Int32) zk_iconst_1 (zd DL_law_10 17 rfl) ?_
      refine tz_iadd (zd DL_law_10 18 rfl) ?_
      refine tz_sld (zd DL_law_10 19 rfl) ?_
      refine tz_aload_n 0 rfl (zd DL_law_10 20 rfl) ?_
      refine tz_iload 4 rfl (zd DL_law_10 21 rfl) ?_
      refine tz_iconst (2 : Int32) zk_iconst_2 (zd DL_law_10 22 rfl) ?_
      refine tz_iadd (zd DL_law_10 23 rfl) ?_
      refine tz_sld (zd DL_law_10 24 rfl) ?_
      refine tz_cV_i kz7 (zs_0) rfl (rest := []) (YX7_windows) wk_622 (tX7_windows (xs ((nI (4 * k)) + (1 : Int32)).toNatClampNeg) (xs ((nI (4 * k)) + (2 : Int32)).toNatClampNeg) w) rfl rfl (Nat.le_of_ble_eq_true rfl) ⟨Nat.le_of_ble_eq_true rfl, Nat.le_of_ble_eq_true rfl⟩ (zd DL_law_10 25 rfl) (fun v196 w194 e195 => ?_)
      refine tz_aload_n 2 rfl (zd DL_law_10 26 rfl) ?_
      refine tz_aload_n 0 rfl (zd DL_law_10 27 rfl) ?_
      refine tz_iload 4 rfl (zd DL_law_10 28 rfl) ?_
      refine tz_iconst (1 : Int32) zk_iconst_1 (zd DL_law_10 29 rfl) ?_
      refine tz_iadd (zd DL_law_10 30 rfl) ?_
      refine tz_sld (zd DL_law_10 31 rfl) ?_
      refine tz_aload_n 0 rfl (zd DL_law_10 32 rfl) ?_
      refine tz_iload 4 rfl (zd DL_law_10 33 rfl) ?_
      refine tz_iconst (2 : Int32) zk_iconst_2 (zd DL_law_10 34 rfl) ?_
      refine tz_iadd (zd DL_law_10 35 rfl) ?_
      refine tz_sld (zd DL_law_10 36 rfl) ?_
      refine tz_cV_i kz8 (zs_74) rfl (rest := [.int v196]) (YX8_windows) wk_1220 (tX8_windows (xs ((nI (4 * k)) + (1 : Int32)).toNatClampNeg) (xs ((nI (4 * k)) + (2 : Int32)).toNatClampNeg) w194) rfl rfl (Nat.le_of_ble_eq_true rfl) ⟨Nat.le_of_ble_eq_true rfl, Nat.le_of_ble_eq_true rfl⟩ (zd DL_law_10 37 rfl) (fun v199 w197 e198 => ?_)
      refine tz_icmp_eq 1469 (zd DL_law_10 38 rfl) rfl (fun q200 => ?_) (fun q200 => ?_)
      · exact hj2 w197
      refine tz_iconst (0 : Int32) zk_iconst_0 (zd DL_law_10 39 rfl) ?_
      exact tz_none
    refine tz_case (fun q201 => ?_) (fun q201 => ?_)
    · refine tz_tin (24) 1055 (by rw [q201]; decide) (zd DL_law_0 24 rfl) (by decide) (by decide) rfl rfl ?_
      refine tz_lwk ?_
      refine tz_aload_n 1 rfl (zd DL_law_10 41 rfl) ?_
      refine tz_aload_n 0 rfl (zd DL_law_10 42 rfl) ?_
      refine tz_iload 4 rfl (zd DL_law_10 43 rfl) ?_
      refine tz_iconst (1 : Int32) zk_iconst_1 (zd DL_law_10 44 rfl) ?_
      refine tz_iadd (zd DL_law_10 45 rfl) ?_
      refine tz_sld (zd DL_law_10 46 rfl) ?_
      refine tz_aload_n 0 rfl (zd DL_law_10 47 rfl) ?_
      refine tz_iload 4 rfl (zd DL_law_10 48 rfl) ?_
      refine tz_iconst (2 : Int32) zk_iconst_2 (zd DL_law_10 49 rfl) ?_
      refine tz_iadd (zd DL_law_10 50 rfl) ?_
      refine tz_sld (zd DL_law_10 51 rfl) ?_
      refine tz_cV_i kz7 (zs_0) rfl (rest := []) (YX7_first) wk_626 (tX7_first (xs ((nI (4 * k)) + (1 : Int32)).toNatClampNeg) (xs ((nI (4 * k)) + (2 : Int32)).toNatClampNeg) w) rfl rfl (Nat.le_of_ble_eq_true rfl) ⟨Nat.le_of_ble_eq_true rfl, Nat.le_of_ble_eq_true rfl⟩ (zd DL_law_10 52 rfl) (fun v204 w202 e203 => ?_)
      refine tz_aload_n 2 rfl (zd DL_law_10 53 rfl) ?_
      refine tz_aload_n 0 rfl (zd DL_law_10 54 rfl) ?_
      refine tz_iload 4 rfl (zd DL_law_10 55 rfl) ?_
      refine tz_iconst (1 : Int32) zk_iconst_1 (zd DL_law_10 56 rfl) ?_
      refine tz_iadd (zd DL_law_10 57 rfl) ?_
      refine tz_sld (zd DL_law_10 58 rfl) ?_
      refine tz_aload_n 0 rfl (zd DL_law_10 59 rfl) ?_
      refine tz_iload 4 rfl (zd DL_law_11 0 rfl) ?_
      refine tz_iconst (2 : Int32) zk_iconst_2 (zd DL_law_11 1 rfl) ?_
      refine tz_iadd (zd DL_law_11 2 rfl) ?_
      refine tz_sld (zd DL_law_11 3 rfl) ?_
      refine tz_cV_i kz8 (zs_74) rfl (rest := [.int v204]) (YX8_first) wk_1224 (tX8_first (xs ((nI (4 * k)) + (1 : Int32)).toNatClampNeg) (xs ((nI (4 * k)) + (2 : Int32)).toNatClampNeg) w202) rfl rfl (Nat.le_of_ble_eq_true rfl) ⟨Nat.le_of_ble_eq_true rfl, Nat.le_of_ble_eq_true rfl⟩ (zd DL_law_11 4 rfl) (fun v207 w205 e206 => ?_)
      refine tz_icmp_eq 1469 (zd DL_law_11 5 rfl) rfl (fun q208 => ?_) (fun q208 => ?_)
      · exact hj2 w205
      refine tz_iconst (0 : Int32) zk_iconst_0 (zd DL_law_11 6 rfl) ?_
      exact tz_none
    refine tz_case (fun q209 => ?_) (fun q209 => ?_)
    · refine tz_tin (25) 1092 (by rw [q209]; decide) (zd DL_law_0 24 rfl) (by decide) (by decide) rfl rfl ?_
      refine tz_lwk ?_
      refine tz_aload_n 1 rfl (zd DL_law_11 8 rfl) ?_
      refine tz_aload_n 0 rfl (zd DL_law_11 9 rfl) ?_
      refine tz_iload 4 rfl (zd DL_law_11 10 rfl) ?_
      refine tz_iconst (1 : Int32) zk_iconst_1 (zd DL_law_11 11 rfl) ?_
      refine tz_iadd (zd DL_law_11 12 rfl) ?_
      refine tz_sld (zd DL_law_11 13 rfl) ?_
      refine tz_aload_n 0 rfl (zd DL_law_11 14 rfl) ?_
      refine tz_iload 4 rfl (zd DL_law_11 15 rfl) ?_
      refine tz_iconst (2 : Int32) zk_iconst_2 (zd DL_law_11 16 rfl) ?_
      refine tz_iadd (zd DL_law_11 17 rfl) ?_
      refine tz_sld (zd DL_law_11 18 rfl) ?_
      refine tz_cV_i kz7 (zs_0) rfl (rest := []) (YX7_longest) wk_630 (tX7_longest (xs ((nI (4 * k)) + (1 : Int32)).toNatClampNeg) (xs ((nI (4 * k)) + (2 : Int32)).toNatClampNeg) w) rfl rfl (Nat.le_of_ble_eq_true rfl) ⟨Nat.le_of_ble_eq_true rfl, Nat.le_of_ble_eq_true rfl⟩ (zd DL_law_11 19 rfl) (fun v212 w210 e211 => ?_)
      refine tz_aload_n 2 rfl (zd DL_law_11 20 rfl) ?_
      refine tz_aload_n 0 rfl (zd DL_law_11 21 rfl) ?_
      refine tz_iload 4 rfl (zd DL_law_11 22 rfl) ?_
      refine tz_iconst (1 : Int32) zk_iconst_1 (zd DL_law_11 23 rfl) ?_
      refine tz_iadd (zd DL_law_11 24 rfl) ?_
      refine tz_sld (zd DL_law_11 25 rfl) ?_
      refine tz_aload_n 0 rfl (zd DL_law_11 26 rfl) ?_
      refine tz_iload 4 rfl (zd DL_law_11 27 rfl) ?_
      refine tz_iconst (2 : Int32) zk_iconst_2 (zd DL_law_11 28 rfl) ?_
      refine tz_iadd (zd DL_law_11 29 rfl) ?_
      refine tz_sld (zd DL_law_11 30 rfl) ?_
      refine tz_cV_i kz8 (zs_74) rfl (rest := [.int v212]) (YX8_longest) wk_1228 (tX8_longest (xs ((nI (4 * k)) + (1 : Int32)).toNatClampNeg) (xs ((nI (4 * k)) + (2 : Int32)).toNatClampNeg) w210) rfl rfl (Nat.le_of_ble_eq_true rfl) ⟨Nat.le_of_ble_eq_true rfl, Nat.le_of_ble_eq_true rfl⟩ (zd DL_law_11 31 rfl) (fun v215 w213 e214 => ?_)
      refine tz_icmp_eq 1469 (zd DL_law_11 32 rfl) rfl (fun q216 => ?_) (fun q216 => ?_)
      · exact hj2 w213
      refine tz_iconst (0 : Int32) zk_iconst_0 (zd DL_law_11 33 rfl) ?_
      exact tz_none
    refine tz_case (fun q217 => ?_) (fun q217 => ?_)
    · refine tz_tin (26) 1129 (by rw [q217]; decide) (zd DL_law_0 24 rfl) (by decide) (by decide) rfl rfl ?_
      refine tz_lwk ?_
      refine tz_aload_n 1 rfl (zd DL_law_11 35 rfl) ?_
      refine tz_aload_n 0 rfl (zd DL_law_11 36 rfl) ?_
      refine tz_iload 4 rfl (zd DL_law_11 37 rfl) ?_
      refine tz_iconst (1 : Int32) zk_iconst_1 (zd DL_law_11 38 rfl) ?_
      refine tz_iadd (zd DL_law_11 39 rfl) ?_
      refine tz_sld (zd DL_law_11 40 rfl) ?_
      refine tz_aload_n 0 rfl (zd DL_law_11 41 rfl) ?_
      refine tz_iload 4 rfl (zd DL_law_11 42 rfl) ?_
      refine tz_iconst (2 : Int32) zk_iconst_2 (zd DL_law_11 43 rfl) ?_
      refine tz_iadd (zd DL_law_11 44 rfl) ?_
      refine tz_sld (zd DL_law_11 45 rfl) ?_
      refine tz_cV_i kz7 (zs_0) rfl (rest := []) (YX7_greatest) wk_643 (tX7_greatest (xs ((nI (4 * k)) + (1 : Int32)).toNatClampNeg) (xs ((nI (4 * k)) + (2 : Int32)).toNatClampNeg) w) rfl rfl (Nat.le_of_ble_eq_true rfl) ⟨Nat.le_of_ble_eq_true rfl, Nat.le_of_ble_eq_true rfl⟩ (zd DL_law_11 46 rfl) (fun v220 w218 e219 => ?_)
      refine tz_aload_n 2 rfl (zd DL_law_11 47 rfl) ?_
      refine tz_aload_n 0 rfl (zd DL_law_11 48 rfl) ?_
      refine tz_iload 4 rfl (zd DL_law_11 49 rfl) ?_
      refine tz_iconst (1 : Int32) zk_iconst_1 (zd DL_law_11 50 rfl) ?_
      refine tz_iadd (zd DL_law_11 51 rfl) ?_
      refine tz_sld (zd DL_law_11 52 rfl) ?_
      refine tz_aload_n 0 rfl (zd DL_law_11 53 rfl) ?_
      refine tz_iload 4 rfl (zd DL_law_11 54 rfl) ?_
      refine tz_iconst (2 : Int32) zk_iconst_2 (zd DL_law_11 55 rfl) ?_
      refine tz_iadd (zd DL_law_11 56 rfl) ?_
      refine tz_sld (zd DL_law_11 57 rfl) ?_
      refine tz_cV_i kz8 (zs_74) rfl (rest := [.int v220]) (YX8_greatest) wk_1232 (tX8_greatest (xs ((nI (4 * k)) + (1 : Int32)).toNatClampNeg) (xs ((nI (4 * k)) + (2 : Int32)).toNatClampNeg) w218) rfl rfl (Nat.le_of_ble_eq_true rfl) ⟨Nat.le_of_ble_eq_true rfl, Nat.le_of_ble_eq_true rfl⟩ (zd DL_law_11 58 rfl) (fun v223 w221 e222 => ?_)
      refine tz_icmp_eq 1469 (zd DL_law_11 59 rfl) rfl (fun q224 => ?_) (fun q224 => ?_)
      · exact hj2 w221
      refine tz_iconst (0 : Int32) zk_iconst_0 (zd DL_law_12 0 rfl) ?_
      exact tz_none
    refine tz_case (fun q225 => ?_) (fun q225 => ?_)
    · refine tz_tin (27) 1166 (by rw [q225]; decide) (zd DL_law_0 24 rfl) (by decide) (by decide) rfl rfl ?_
      refine tz_lwk ?_
      refine tz_aload_n 1 rfl (zd DL_law_12 2 rfl) ?_
      refine tz_aload_n 0 rfl (zd DL_law_12 3 rfl) ?_
      refine tz_iload 4 rfl (zd DL_law_12 4 rfl) ?_
      refine tz_iconst (1 : Int32) zk_iconst_1 (zd DL_law_12 5 rfl) ?_
      refine tz_iadd (zd DL_law_12 6 rfl) ?_
      refine tz_sld (zd DL_law_12 7 rfl) ?_
      refine tz_aload_n 0 rfl (zd DL_law_12 8 rfl) ?_
      refine tz_iload 4 rfl (zd DL_law_12 9 rfl) ?_
      refine tz_iconst (2 : Int32) zk_iconst_2 (zd DL_law_12 10 rfl) ?_
      refine tz_iadd (zd DL_law_12 11 rfl) ?_
      refine tz_sld (zd DL_law_12 12 rfl) ?_
      refine tz_aload_n 0 rfl (zd DL_law_12 13 rfl) ?_
      refine tz_iload 4 rfl (zd DL_law_12 14 rfl) ?_
      refine tz_iconst (3 : Int32) zk_iconst_3 (zd DL_law_12 15 rfl) ?_
      refine tz_iadd (zd DL_law_12 16 rfl) ?_
      refine tz_sld (zd DL_law_12 17 rfl) ?_
      refine tz_cV_i kz7 (zs_0) rfl (rest := []) (YX7_finds) wk_647 (tX7_finds (xs ((nI (4 * k)) + (1 : Int32)).toNatClampNeg) (xs ((nI (4 * k)) + (2 : Int32)).toNatClampNeg) (xs ((nI (4 * k)) + (3 : Int32)).toNatClampNeg) w) rfl rfl (Nat.le_of_ble_eq_true rfl) ⟨Nat.le_of_ble_eq_true rfl, Nat.le_of_ble_eq_true rfl⟩ (zd DL_law_12 18 rfl) (fun v228 w226 e227 => ?_)
      refine tz_aload_n 2 rfl (zd DL_law_12 19 rfl) ?_
      refine tz_aload_n 0 rfl (zd DL_law_12 20 rfl) ?_
      refine tz_iload 4 rfl (zd DL_law_12 21 rfl) ?_
      refine tz_iconst (1 : Int32) zk_iconst_1 (zd DL_law_12 22 rfl) ?_
      refine tz_iadd (zd DL_law_12 23 rfl) ?_
      refine tz_sld (zd DL_law_12 24 rfl) ?_
      refine tz_aload_n 0 rfl (zd DL_law_12 25 rfl) ?_
      refine tz_iload 4 rfl (zd DL_law_12 26 rfl) ?_
      refine tz_iconst (2 : Int32) zk_iconst_2 (zd DL_law_12 27 rfl) ?_
      refine tz_iadd (zd DL_law_12 28 rfl) ?_
      refine tz_sld (zd DL_law_12 29 rfl) ?_
      refine tz_aload_n 0 rfl (zd DL_law_12 30 rfl) ?_
      refine tz_iload 4 rfl (zd DL_law_12 31 rfl) ?_
      refine tz_iconst (3 : Int32) zk_iconst_3 (zd DL_law_12 32 rfl) ?_
      refine tz_iadd (zd DL_law_12 33 rfl) ?_
      refine tz_sld (zd DL_law_12 34 rfl) ?_
      refine tz_cV_i kz8 (zs_74) rfl (rest := [.int v228]) (YX8_finds) wk_1236 (tX8_finds (xs ((nI (4 * k)) + (1 : Int32)).toNatClampNeg) (xs ((nI (4 * k)) + (2 : Int32)).toNatClampNeg) (xs ((nI (4 * k)) + (3 : Int32)).toNatClampNeg) w226) rfl rfl (Nat.le_of_ble_eq_true rfl) ⟨Nat.le_of_ble_eq_true rfl, Nat.le_of_ble_eq_true rfl⟩ (zd DL_law_12 35 rfl) (fun v231 w229 e230 => ?_)
      refine tz_icmp_eq 1469 (zd DL_law_12 36 rfl) rfl (fun q232 => ?_) (fun q232 => ?_)
      · exact hj2 w229
      refine tz_iconst (0 : Int32) zk_iconst_0 (zd DL_law_12 37 rfl) ?_
      exact tz_none
    refine tz_case (fun q233 => ?_) (fun q233 => ?_)
    · refine tz_tin (28) 1215 (by rw [q233]; decide) (zd DL_law_0 24 rfl) (by decide) (by decide) rfl rfl ?_
      refine tz_lwk ?_
      refine tz_aload_n 1 rfl (zd DL_law_12 39 rfl) ?_
      refine tz_aload_n 0 rfl (zd DL_law_12 40 rfl) ?_
      refine tz_iload 4 rfl (zd DL_law_12 41 rfl) ?_
      refine tz_iconst (1 : Int32) zk_iconst_1 (zd DL_law_12 42 rfl) ?_
      refine tz_iadd (zd DL_law_12 43 rfl) ?_
      refine tz_sld (zd DL_law_12 44 rfl) ?_
      refine tz_cV_i kz7 (zs_0) rfl (rest := []) (YX7_drains) wk_659 (tX7_drains (xs ((nI (4 * k)) + (1 : Int32)).toNatClampNeg) w) rfl rfl (Nat.le_of_ble_eq_true rfl) ⟨Nat.le_of_ble_eq_true rfl, Nat.le_of_ble_eq_true rfl⟩ (zd DL_law_12 45 rfl) (fun v236 w234 e235 => ?_)
      refine tz_aload_n 2 rfl (zd DL_law_12 46 rfl) ?_
      refine tz_aload_n 0 rfl (zd DL_law_12 47 rfl) ?_
      refine tz_iload 4 rfl (zd DL_law_12 48 rfl) ?_
      refine tz_iconst (1 : Int32) zk_iconst_1 (zd DL_law_12 49 rfl) ?_
      refine tz_iadd (zd DL_law_12 50 rfl) ?_
      refine tz_sld (zd DL_law_12 51 rfl) ?_
      refine tz_cV_i kz8 (zs_74) rfl (rest := [.int v236]) (YX8_drains) wk_1240 (tX8_drains (xs ((nI (4 * k)) + (1 : Int32)).toNatClampNeg) w234) rfl rfl (Nat.le_of_ble_eq_true rfl) ⟨Nat.le_of_ble_eq_true rfl, Nat.le_of_ble_eq_true rfl⟩ (zd DL_law_12 52 rfl) (fun v239 w237 e238 => ?_)
      refine tz_icmp_eq 1469 (zd DL_law_12 53 rfl) rfl (fun q240 => ?_) (fun q240 => ?_)
      · exact hj2 w237
      refine tz_iconst (0 : Int32) zk_iconst_0 (zd DL_law_12 54 rfl) ?_
      exact tz_none
    refine tz_case (fun q241 => ?_) (fun q241 => ?_)
    · refine tz_tin (29) 1240 (by rw [q241]; decide) (zd DL_law_0 24 rfl) (by decide) (by decide) rfl rfl ?_
      refine tz_lwk ?_
      refine tz_aload_n 1 rfl (zd DL_law_12 56 rfl) ?_
      refine tz_aload_n 0 rfl (zd DL_law_12 57 rfl) ?_
      refine tz_iload 4 rfl (zd DL_law_12 58 rfl) ?_
      refine tz_iconst (1 : Int32) zk_iconst_1 (zd DL_law_12 59 rfl) ?_
      refine tz_iadd (zd DL_law_13 0 rfl) ?_
      refine tz_sld (zd DL_law_13 1 rfl) ?_
      refine tz_cV_i kz7 (zs_0) rfl (rest := []) (YX7_unlike) wk_672 (tX7_unlike (xs ((nI (4 * k)) + (1 : Int32)).toNatClampNeg) w) rfl rfl (Nat.le_of_ble_eq_true rfl) ⟨Nat.le_of_ble_eq_true rfl, Nat.le_of_ble_eq_true rfl⟩ (zd DL_law_13 2 rfl) (fun v244 w242 e243 => ?_)
      refine tz_aload_n 2 rfl (zd DL_law_13 3 rfl) ?_
      refine tz_aload_n 0 rfl (zd DL_law_13 4 rfl) ?_
      refine tz_iload 4 rfl (zd DL_law_13 5 rfl) ?_
      refine tz_iconst (1 : Int32) zk_iconst_1 (zd DL_law_13 6 rfl) ?_
      refine tz_iadd (zd DL_law_13 7 rfl) ?_
      refine tz_sld (zd DL_law_13 8 rfl) ?_
      refine tz_cV_i kz8 (zs_74) rfl (rest := [.int v244]) (YX8_unlike) wk_1266 (tX8_unlike (xs ((nI (4 * k)) + (1 : Int32)).toNatClampNeg) w242) rfl rfl (Nat.le_of_ble_eq_true rfl) ⟨Nat.le_of_ble_eq_true rfl, Nat.le_of_ble_eq_true rfl⟩ (zd DL_law_13 9 rfl) (fun v247 w245 e246 => ?_)
      refine tz_icmp_eq 1469 (zd DL_law_13 10 rfl) rfl (fun q248 => ?_) (fun q248 => ?_)
      · exact hj2 w245
      refine tz_iconst (0 : Int32) zk_iconst_0 (zd DL_law_13 11 rfl) ?_
      exact tz_none
    refine tz_case (fun q249 => ?_) (fun q249 => ?_)
    · refine tz_tin (30) 1265 (by rw [q249]; decide) (zd DL_law_0 24 rfl) (by decide) (by decide) rfl rfl ?_
      refine tz_lwk ?_
      refine tz_aload_n 1 rfl (zd DL_law_13 13 rfl) ?_
      refine tz_aload_n 0 rfl (zd DL_law_13 14 rfl) ?_
      refine tz_iload 4 rfl (zd DL_law_13 15 rfl) ?_
      refine tz_iconst (1 : Int32) zk_iconst_1 (zd DL_law_13 16 rfl) ?_
      refine tz_iadd (zd DL_law_13 17 rfl) ?_
      refine tz_sld (zd DL_law_13 18 rfl) ?_
      refine tz_aload_n 0 rfl (zd DL_law_13 19 rfl) ?_
      refine tz_iload 4 rfl (zd DL_law_13 20 rfl) ?_
      refine tz_iconst (2 : Int32) zk_iconst_2 (zd DL_law_13 21 rfl) ?_
      refine tz_iadd (zd DL_law_13 22 rfl) ?_
      refine tz_sld (zd DL_law_13 23 rfl) ?_
      refine tz_cV_i kz7 (zs_0) rfl (rest := []) (YX7_same) wk_687 (tX7_same (xs ((nI (4 * k)) + (1 : Int32)).toNatClampNeg) (xs ((nI (4 * k)) + (2 : Int32)).toNatClampNeg) w) rfl rfl (Nat.le_of_ble_eq_true rfl) ⟨Nat.le_of_ble_eq_true rfl, Nat.le_of_ble_eq_true rfl⟩ (zd DL_law_13 24 rfl) (fun v252 w250 e251 => ?_)
      refine tz_aload_n 2 rfl (zd DL_law_13 25 rfl) ?_
      refine tz_aload_n 0 rfl (zd DL_law_13 26 rfl) ?_
      refine tz_iload 4 rfl (zd DL_law_13 27 rfl) ?_
      refine tz_iconst (1 : Int32) zk_iconst_1 (zd DL_law_13 28 rfl) ?_
      refine tz_iadd (zd DL_law_13 29 rfl) ?_
      refine tz_sld (zd DL_law_13 30 rfl) ?_
      refine tz_aload_n 0 rfl (zd DL_law_13 31 rfl) ?_
      refine tz_iload 4 rfl (zd DL_law_13 32 rfl) ?_
      refine tz_iconst (2 : Int32) zk_iconst_2 (zd DL_law_13 33 rfl) ?_
      refine tz_iadd (zd DL_law_13 34 rfl) ?_
      refine tz_sld (zd DL_law_13 35 rfl) ?_
      refine tz_cV_i kz8 (zs_74) rfl (rest := [.int v252]) (YX8_same) wk_1271 (tX8_same (xs ((nI (4 * k)) + (1 : Int32)).toNatClampNeg) (xs ((nI (4 * k)) + (2 : Int32)).toNatClampNeg) w250) rfl rfl (Nat.le_of_ble_eq_true rfl) ⟨Nat.le_of_ble_eq_true rfl, Nat.le_of_ble_eq_true rfl⟩ (zd DL_law_13 36 rfl) (fun v255 w253 e254 => ?_)
      refine tz_icmp_eq 1469 (zd DL_law_13 37 rfl) rfl (fun q256 => ?_) (fun q256 => ?_)
      · exact hj2 w253
      refine tz_iconst (0 : Int32) zk_iconst_0 (zd DL_law_13 38 rfl) ?_
      exact tz_none
    refine tz_case (fun q257 => ?_) (fun q257 => ?_)
    · refine tz_tin (31) 1302 (by rw [q257]; decide) (zd DL_law_0 24 rfl) (by decide) (by decide) rfl rfl ?_
      refine tz_lwk ?_
      refine tz_aload_n 1 rfl (zd DL_law_13 40 rfl) ?_
      refine tz_cV_i kz7 (zs_0) rfl (rest := []) (YX7_shared) wk_713 (tX7_shared w) rfl rfl (Nat.le_of_ble_eq_true rfl) ⟨Nat.le_of_ble_eq_true rfl, Nat.le_of_ble_eq_true rfl⟩ (zd DL_law_13 41 rfl) (fun v260 w258 e259 => ?_)
      refine tz_aload_n 2 rfl (zd DL_law_13 42 rfl) ?_
      refine tz_cV_i kz8 (zs_74) rfl (rest := [.int v260]) (YX8_shared) wk_1279 (tX8_shared w258) rfl rfl (Nat.le_of_ble_eq_true rfl) ⟨Nat.le_of_ble_eq_true rfl, Nat.le_of_ble_eq_true rfl⟩ (zd DL_law_13 43 rfl) (fun v263 w261 e262 => ?_)
      refine tz_icmp_eq 1469 (zd DL_law_13 44 rfl) rfl (fun q264 => ?_) (fun q264 => ?_)
      · exact hj2 w261
      refine tz_iconst (0 : Int32) zk_iconst_0 (zd DL_law_13 45 rfl) ?_
      exact tz_none
    refine tz_case (fun q265 => ?_) (fun q265 => ?_)
    · refine tz_tin (32) 1315 (by rw [q265]; decide) (zd DL_law_0 24 rfl) (by decide) (by decide) rfl rfl ?_
      refine tz_lwk ?_
      refine tz_aload_n 1 rfl (zd DL_law_13 47 rfl) ?_
      refine tz_aload_n 0 rfl (zd DL_law_13 48 rfl) ?_
      refine tz_iload 4 rfl (zd DL_law_13 49 rfl) ?_
      refine tz_iconst (1 : Int32) zk_iconst_1 (zd DL_law_13 50 rfl) ?_
      refine tz_iadd (zd DL_law_13 51 rfl) ?_
      refine tz_sld (zd DL_law_13 52 rfl) ?_
      refine tz_aload_n 0 rfl (zd DL_law_13 53 rfl) ?_
      refine tz_iload 4 rfl (zd DL_law_13 54 rfl) ?_
      refine tz_iconst (2 : Int32) zk_iconst_2 (zd DL_law_13 55 rfl) ?_
      refine tz_iadd (zd DL_law_13 56 rfl) ?_
      refine tz_sld (zd DL_law_13 57 rfl) ?_
      refine tz_cV_i kz7 (zs_0) rfl (rest := []) (YX7_would) wk_723 (tX7_would (xs ((nI (4 * k)) + (1 : Int32)).toNatClampNeg) (xs ((nI (4 * k)) + (2 : Int32)).toNatClampNeg) w) rfl rfl (Nat.le_of_ble_eq_true rfl) ⟨Nat.le_of_ble_eq_true rfl, Nat.le_of_ble_eq_true rfl⟩ (zd DL_law_13 58 rfl) (fun v268 w266 e267 => ?_)
      refine tz_aload_n 2 rfl (zd DL_law_13 59 rfl) ?_
      refine tz_aload_n 0 rfl (zd DL_law_14 0 rfl) ?_
      refine tz_iload 4 rfl (zd DL_law_14 1 rfl) ?_
      refine tz_iconst (1 : Int32) zk_iconst_1 (zd DL_law_14 2 rfl) ?_
      refine tz_iadd (zd DL_law_14 3 rfl) ?_
      refine tz_sld (zd DL_law_14 4 rfl) ?_
      refine tz_aload_n 0 rfl (zd DL_law_14 5 rfl) ?_
      refine tz_iload 4 rfl (zd DL_law_14 6 rfl) ?_
      refine tz_iconst (2 : Int32) zk_iconst_2 (zd DL_law_14 7 rfl) ?_
      refine tz_iadd (zd DL_law_14 8 rfl) ?_
      refine tz_sld (zd DL_law_14 9 rfl) ?_
      refine tz_cV_i kz8 (zs_74) rfl (rest := [.int v268]) (YX8_would) wk_1257 (tX8_would (xs ((nI (4 * k)) + (1 : Int32)).toNatClampNeg) (xs ((nI (4 * k)) + (2 : Int32)).toNatClampNeg) w266) rfl rfl (Nat.le_of_ble_eq_true rfl) ⟨Nat.le_of_ble_eq_true rfl, Nat.le_of_ble_eq_true rfl⟩ (zd DL_law_14 10 rfl) (fun v271 w269 e270 => ?_)
      refine tz_icmp_eq 1469 (zd DL_law_14 11 rfl) rfl (fun q272 => ?_) (fun q272 => ?_)
      · exact hj2 w269
      refine tz_iconst (0 : Int32) zk_iconst_0 (zd DL_law_14 12 rfl) ?_
      exact tz_none
    refine tz_case (fun q273 => ?_) (fun q273 => ?_)
    · refine tz_tin (33) 1352 (by rw [q273]; decide) (zd DL_law_0 24 rfl) (by decide) (by decide) rfl rfl ?_
      refine tz_lwk ?_
      refine tz_aload_n 1 rfl (zd DL_law_14 14 rfl) ?_
      refine tz_aload_n 0 rfl (zd DL_law_14 15 rfl) ?_
      refine tz_iload 4 rfl (zd DL_law_14 16 rfl) ?_
      refine tz_iconst (1 : Int32) zk_iconst_1 (zd DL_law_14 17 rfl) ?_
      refine tz_iadd (zd DL_law_14 18 rfl) ?_
      refine tz_sld (zd DL_law_14 19 rfl) ?_
      refine tz_aload_n 0 rfl (zd DL_law_14 20 rfl) ?_
      refine tz_iload 4 rfl (zd DL_law_14 21 rfl) ?_
      refine tz_iconst (2 : Int32) zk_iconst_2 (zd DL_law_14 22 rfl) ?_
      refine tz_iadd (zd DL_law_14 23 rfl) ?_
      refine tz_sld (zd DL_law_14 24 rfl) ?_
      refine tz_cV_i kz7 (zs_0) rfl (rest := []) (YX7_dearest) wk_729 (tX7_dearest (xs ((nI (4 * k)) + (1 : Int32)).toNatClampNeg) (xs ((nI (4 * k)) + (2 : Int32)).toNatClampNeg) w) rfl rfl (Nat.le_of_ble_eq_true rfl) ⟨Nat.le_of_ble_eq_true rfl, Nat.le_of_ble_eq_true rfl⟩ (zd DL_law_14 25 rfl) (fun v276 w274 e275 => ?_)
      refine tz_aload_n 2 rfl (zd DL_law_14 26 rfl) ?_
      refine tz_aload_n 0 rfl (zd DL_law_14 27 rfl) ?_
      refine tz_iload 4 rfl (zd DL_law_14 28 rfl) ?_
      refine tz_iconst (1 : Int32) zk_iconst_1 (zd DL_law_14 29 rfl) ?_
      refine tz_iadd (zd DL_law_14 30 rfl) ?_
      refine tz_sld (zd DL_law_14 31 rfl) ?_
      refine tz_aload_n 0 rfl (zd DL_law_14 32 rfl) ?_
      refine tz_iload 4 rfl (zd DL_law_14 33 rfl) ?_
      refine tz_iconst (2 : Int32) zk_iconst_2 (zd DL_law_14 34 rfl) ?_
      refine tz_iadd (zd DL_law_14 35 rfl) ?_
      refine tz_sld (zd DL_law_14 36 rfl) ?_
      refine tz_cV_i kz8 (zs_74) rfl (rest := [.int v276]) (YX8_dearest) wk_1261 (tX8_dearest (xs ((nI (4 * k)) + (1 : Int32)).toNatClampNeg) (xs ((nI (4 * k)) + (2 : Int32)).toNatClampNeg) w274) rfl rfl (Nat.le_of_ble_eq_true rfl) ⟨Nat.le_of_ble_eq_true rfl, Nat.le_of_ble_eq_true rfl⟩ (zd DL_law_14 37 rfl) (fun v279 w277 e278 => ?_)
      refine tz_icmp_eq 1469 (zd DL_law_14 38 rfl) rfl (fun q280 => ?_) (fun q280 => ?_)
      · exact hj2 w277
      refine tz_iconst (0 : Int32) zk_iconst_0 (zd DL_law_14 39 rfl) ?_
      exact tz_none
    refine tz_case (fun q281 => ?_) (fun q281 => ?_)
    · refine tz_tin (34) 1389 (by rw [q281]; decide) (zd DL_law_0 24 rfl) (by decide) (by decide) rfl rfl ?_
      refine tz_lwk ?_
      refine tz_aload_n 1 rfl (zd DL_law_14 41 rfl) ?_
      refine tz_aload_n 0 rfl (zd DL_law_14 42 rfl) ?_
      refine tz_iload 4 rfl (zd DL_law_14 43 rfl) ?_
      refine tz_iconst (1 : Int32) zk_iconst_1 (zd DL_law_14 44 rfl) ?_
      refine tz_iadd (zd DL_law_14 45 rfl) ?_
      refine tz_sld (zd DL_law_14 46 rfl) ?_
      refine tz_cV_i kz7 (zs_0) rfl (rest := []) (YX7_count) wk_754 (tX7_count (xs ((nI (4 * k)) + (1 : Int32)).toNatClampNeg) w) rfl rfl (Nat.le_of_ble_eq_true rfl) ⟨Nat.le_of_ble_eq_true rfl, Nat.le_of_ble_eq_true rfl⟩ (zd DL_law_14 47 rfl) (fun v284 w282 e283 => ?_)
      refine tz_aload_n 2 rfl (zd DL_law_14 48 rfl) ?_
      refine tz_aload_n 0 rfl (zd DL_law_14 49 rfl) ?_
      refine tz_iload 4 rfl (zd DL_law_14 50 rfl) ?_
      refine tz_iconst (1 : Int32) zk_iconst_1 (zd DL_law_14 51 rfl) ?_
      refine tz_iadd (zd DL_law_14 52 rfl) ?_
      refine tz_sld (zd DL_law_14 53 rfl) ?_
      refine tz_cV_i kz8 (zs_74) rfl (rest := [.int v284]) (YX8_count) wk_1283 (tX8_count (xs ((nI (4 * k)) + (1 : Int32)).toNatClampNeg) w282) rfl rfl (Nat.le_of_ble_eq_true rfl) ⟨Nat.le_of_ble_eq_true rfl, Nat.le_of_ble_eq_true rfl⟩ (zd DL_law_14 54 rfl) (fun v287 w285 e286 => ?_)
      refine tz_icmp_eq 1469 (zd DL_law_14 55 rfl) rfl (fun q288 => ?_) (fun q288 => ?_)
      · exact hj2 w285
      refine tz_iconst (0 : Int32) zk_iconst_0 (zd DL_law_14 56 rfl) ?_
      exact tz_none
    refine tz_case (fun q289 => ?_) (fun q289 => ?_)
    · refine tz_tin (35) 1414 (by rw [q289]; decide) (zd DL_law_0 24 rfl) (by decide) (by decide) rfl rfl ?_
      refine tz_aload_n 1 rfl (zd DL_law_14 58 rfl) ?_
      refine tz_aload_n 0 rfl (zd DL_law_14 59 rfl) ?_
      refine tz_iload 4 rfl (zd DL_law_15 0 rfl) ?_
      refine tz_iconst (1 : Int32) zk_iconst_1 (zd DL_law_15 1 rfl) ?_
      refine tz_iadd (zd DL_law_15 2 rfl) ?_
      refine tz_sld (zd DL_law_15 3 rfl) ?_
      refine tz_aload_n 3 rfl (zd DL_law_15 4 rfl) ?_
      refine tz_cX1 (n := 3) (My := ML_row) (rest := []) (by omega) wk_834 wk_833 wk_0 wk_832 ⟨by decide, by decide, by decide +kernel⟩ rfl rfl ⟨Nat.le_of_ble_eq_true rfl, Nat.le_of_ble_eq_true rfl⟩ (tL_row (xs ((nI (4 * k)) + (1 : Int32)).toNatClampNeg) w) rfl rfl (Nat.le_of_ble_eq_true rfl) (zd DL_law_15 5 rfl) (fun v290 w291 e292 => ?_)
      refine tz_istore [(5, .int v290), (0, .ref 94), (1, .ref 0), (2, .ref 74), (3, .ref 92), (4, .int (nI (4 * k)))] (Nat.le_of_ble_eq_true rfl) rfl (zd DL_law_15 6 rfl) ?_
      refine tz_aload_n 3 rfl (zd DL_law_15 7 rfl) ?_
      refine tz_aload_n 1 rfl (zd DL_law_15 8 rfl) ?_
      refine tz_iload 5 rfl (zd DL_law_15 9 rfl) ?_
      refine tz_iconst (1 : Int32) zk_iconst_1 (zd DL_law_15 10 rfl) ?_
      refine tz_iadd (zd DL_law_15 11 rfl) ?_
      refine tz_sld (zd DL_law_15 12 rfl) ?_
      refine tz_cV_l kz8 (zs_74) rfl (rest := []) (YX8_row) wk_1287 (tX8_row (xs ((nI (4 * k)) + (1 : Int32)).toNatClampNeg) w291) rfl rfl (Nat.le_of_ble_eq_true rfl) ⟨Nat.le_of_ble_eq_true rfl, Nat.le_of_ble_eq_true rfl⟩ (zd DL_law_15 13 rfl) (fun v295 w293 e294 => ?_)
      refine tz_lstore [(6, .long v295), (5, .int v290), (0, .ref 94), (1, .ref 0), (2, .ref 74), (3, .ref 92), (4, .int (nI (4 * k)))] (Nat.le_of_ble_eq_true rfl) rfl (zd DL_law_15 14 rfl) ?_
      refine tz_aload_n 4 rfl (zd DL_law_15 15 rfl) ?_
      refine tz_cV_i kz8 (zs_74) rfl (rest := []) (YX8_thrown) wk_840 (tX8_thrown w293) rfl rfl (Nat.le_of_ble_eq_true rfl) ⟨Nat.le_of_ble_eq_true rfl, Nat.le_of_ble_eq_true rfl⟩ (zd DL_law_15 16 rfl) (fun v298 w296 e297 => ?_)
      refine tz_iload 1 rfl (zd DL_law_15 17 rfl) ?_
      refine tz_icmp_eq 1450 (zd DL_law_15 18 rfl) rfl (fun q299 => ?_) (fun q299 => ?_)
      · refine tz_iload 1 rfl (zd DL_law_15 21 rfl) ?_
        refine tz_jp (P := fun j => ∀ (w300 : zW), Tz ML_law (zLw b L xs (k + 1)) (j w300) 1466 [(0, .ref 94), (1, .ref 0), (2, .ref 74), (3, .ref 92), (4, .int (nI (4 * k)))] [] w300) ?_ (fun j300 hj300 => ?_)
        · intro w300
          refine tz_goto 1469 (zd DL_law_15 31 rfl) rfl ?_
          exact hj2 w300
        refine tz_if_ne 1466 (zd DL_law_15 22 rfl) rfl (fun q301 => ?_) (fun q301 => ?_)
        · refine tz_lv (lv2 := [(0, .ref 94), (1, .ref 0), (2, .ref 74), (3, .ref 92), (4, .int (nI (4 * k)))]) [2, 3, 4, 5, 6] rfl ?_
          exact hj300 w296
        refine tz_aload_n 5 rfl (zd DL_law_15 23 rfl) ?_
        refine tz_iconst (0 : Int32) zk_iconst_0 (zd DL_law_15 24 rfl) ?_
        refine tz_lald (zs_92.1) (zs_92.2) (zd DL_law_15 25 rfl) ?_
        refine tz_lload 0 rfl (zd DL_law_15 26 rfl) ?_
        refine tz_lcmp_eq 1466 (zd DL_law_15 27 rfl) (zd DL_law_15 28 rfl) rfl (fun q302 => ?_) (fun q302 => ?_)
        · refine tz_lv (lv2 := [(0, .ref 94), (1, .ref 0), (2, .ref 74), (3, .ref 92), (4, .int (nI (4 * k)))]) [2, 3, 4, 5, 6] rfl ?_
          exact hj300 w296
        refine tz_iconst (0 : Int32) zk_iconst_0 (zd DL_law_15 29 rfl) ?_
        exact tz_none
      refine tz_iconst (0 : Int32) zk_iconst_0 (zd DL_law_15 19 rfl) ?_
      exact tz_none
    refine tz_tout 1469 (by have eq3 := z_ne q3; have eq11 := z_ne q11; have eq19 := z_ne q19; have eq27 := z_ne q27; have eq35 := z_ne q35; have eq43 := z_ne q43; have eq51 := z_ne q51; have eq59 := z_ne q59; have eq67 := z_ne q67; have eq75 := z_ne q75; have eq83 := z_ne q83; have eq91 := z_ne q91; have eq99 := z_ne q99; have eq107 := z_ne q107; have eq115 := z_ne q115; have eq123 := z_ne q123; have eq131 := z_ne q131; have eq139 := z_ne q139; have eq147 := z_ne q147; have eq155 := z_ne q155; have eq163 := z_ne q163; have eq171 := z_ne q171; have eq185 := z_ne q185; have eq193 := z_ne q193; have eq201 := z_ne q201; have eq209 := z_ne q209; have eq217 := z_ne q217; have eq225 := z_ne q225; have eq233 := z_ne q233; have eq241 := z_ne q241; have eq249 := z_ne q249; have eq257 := z_ne q257; have eq265 := z_ne q265; have eq273 := z_ne q273; have eq281 := z_ne q281; have eq289 := z_ne q289; rw [show ((0 : Int32)).toInt = 0 from rfl] at eq3; rw [show ((1 : Int32)).toInt = 1 from rfl] at eq11; rw [show ((2 : Int32)).toInt = 2 from rfl] at eq19; rw [show ((3 : Int32)).toInt = 3 from rfl] at eq27; rw [show ((4 : Int32)).toInt = 4 from rfl] at eq35; rw [show ((5 : Int32)).toInt = 5 from rfl] at eq43; rw [show ((6 : Int32)).toInt = 6 from rfl] at eq51; rw [show ((7 : Int32)).toInt = 7 from rfl] at eq59; rw [show ((8 : Int32)).toInt = 8 from rfl] at eq67; rw [show ((9 : Int32)).toInt = 9 from rfl] at eq75; rw [show ((10 : Int32)).toInt = 10 from rfl] at eq83; rw [show ((11 : Int32)).toInt = 11 from rfl] at eq91; rw [show ((12 : Int32)).toInt = 12 from rfl] at eq99; rw [show ((13 : Int32)).toInt = 13 from rfl] at eq107; rw [show ((14 : Int32)).toInt = 14 from rfl] at eq115; rw [show ((15 : Int32)).toInt = 15 from rfl] at eq123; rw [show ((16 : Int32)).toInt = 16 from rfl] at eq131; rw [show ((17 : Int32)).toInt = 17 from rfl] at eq139; rw [show ((18 : Int32)).toInt = 18 from rfl] at eq147; rw [show ((19 : Int32)).toInt = 19 from rfl] at eq155; rw [show ((20 : Int32)).toInt = 20 from rfl] at eq163; rw [show ((21 : Int32)).toInt = 21 from rfl] at eq171; rw [show ((22 : Int32)).toInt = 22 from rfl] at eq185; rw [show ((23 : Int32)).toInt = 23 from rfl] at eq193; rw [show ((24 : Int32)).toInt = 24 from rfl] at eq201; rw [show ((25 : Int32)).toInt = 25 from rfl] at eq209; rw [show ((26 : Int32)).toInt = 26 from rfl] at eq217; rw [show ((27 : Int32)).toInt = 27 from rfl] at eq225; rw [show ((28 : Int32)).toInt = 28 from rfl] at eq233; rw [show ((29 : Int32)).toInt = 29 from rfl] at eq241; rw [show ((30 : Int32)).toInt = 30 from rfl] at eq249; rw [show ((31 : Int32)).toInt = 31 from rfl] at eq257; rw [show ((32 : Int32)).toInt = 32 from rfl] at eq265; rw [show ((33 : Int32)).toInt = 33 from rfl] at eq273; rw [show ((34 : Int32)).toInt = 34 from rfl] at eq281; rw [show ((35 : Int32)).toInt = 35 from rfl] at eq289; omega) (zd DL_law_0 24 rfl) rfl ?_
    refine tz_lwk ?_
    exact hj2 w
