def R_law : String := "EndSumsLaw"
def lw_P (b : Addr) (xs : List Int32) (args : Array Value) (s : State) : Prop := args = #[.ref b] ∧ s.IntsAt b xs ∧ xs.length ≤ 2048 ∧ (Jvm.Cond.and given_1 narrow_1).before args s = true
def lw_Q (_ : Array Value) (s : State) (o : Outcome) (t : State) : Prop := o = .returned (some (.int 1)) ∧ Framed s o t [] 601024 7293034
def lw_Z (below : List Frame) (a : Array Value) (s : State) : State → Prop := fun t => ∃ o, t.status = .running ∧ Ended t below o ∧ lw_Q a s o t
/-- the law's own end, with 1 on the stack, nothing written that was there before, its room as the claim has it -/
theorem lw_ret {p : Program} {l : Launch} {e : Env} {s : State} {m : MethodId} {below : List Frame} {meth : Method} {c : Code} {b : Nat} (hx : p.tables.exec = Jvm.exec) (hb : c.code = code) (hr : meth.sig.returnType = ret) (hlocks : meth.locks = false) {pc : Nat} {H : Heap} {ls : Array Slot} (hdg : decode code pc = .ok (.ireturn, 1)) : W p l e room_1 s m #[Value.ref b] below meth c H [] 601024 7293034 (lw_Z below #[Value.ref b] s) (F0 m pc ls [.int 1]) := by
  intro T hT X
  obtain ⟨fs, hret, hrun, hended, hW, hframe⟩ := X.leave (v := some (.int 1)) (hlocks := hlocks) (fun h => by rw [hr] at h; cases h)
  have hmeth' : T.vm.method? m = some meth := X.method'
  refine ⟨T.setFrames fs, ?_, .returned (some (.int 1)), hrun, hended, rfl, ⟨_, rfl⟩, hW, hframe⟩
  jvm_step X.here [X.here.top, hx, hb, hdg, hmeth', hr, ret, narrow_b1]
  (try refine ⟨rfl, ?_⟩); (try refine ⟨rfl, ?_⟩)
  first | (intro acts; rw [hret _ acts rfl rfl rfl]) | rw [hret _ _ rfl rfl rfl]
  exact Steps.refl _
/-- what holds at the law's entry: the machine, the code, the tables' words (any of lw_tbl by 'hts w (by decide +kernel)'), the script of L ints xs at the cell b, what the Statement gives of the start (any of its parts by flat_of_before) -/
def lw_At (p : Program) (s : State) (m : MethodId) (meth : Method) (c : Code) (b L : Nat) (xs : Nat → Int32) : Prop :=
  p.tables.exec = Jvm.exec ∧ c.code = code ∧ meth.sig.returnType = ret ∧ c.maxLocals = 8 ∧ s.vm.findClass R_law = some m.cls ∧ (∀ w ∈ lw_tbl, w.before #[Value.ref b] s = true) ∧ va_X b L xs s s.heap ∧ b < s.heap.size ∧ meth.locks = false ∧ (Jvm.Cond.and given_1 narrow_1).before #[Value.ref b] s = true
theorem zk_bipush_63 : (Int8.ofInt (63)).toInt32 = (63 : Int32) := by decide
theorem wk_218 : Cond.methodLink "EndSumsLaw" 23 yX7_rule ∈ zTb := zTm (L := tables_1_1) zT1 218 rfl rfl
theorem wk_1029 : Cond.methodLink "EndSumsLaw" 27 yX8_rule ∈ zTb := zTm (L := tables_1_5) zT5 69 rfl rfl
theorem wk_340 : Cond.methodLink "EndSumsLaw" 28 yX7_table ∈ zTb := zTm (L := tables_1_2) zT2 100 rfl rfl
theorem wk_1065 : Cond.methodLink "EndSumsLaw" 32 yX8_table ∈ zTb := zTm (L := tables_1_5) zT5 105 rfl rfl
theorem wk_404 : Cond.methodLink "EndSumsLaw" 33 yX7_commutes ∈ zTb := zTm (L := tables_1_2) zT2 164 rfl rfl
theorem wk_954 : Cond.methodLink "EndSumsLaw" 36 yX8_commutes ∈ zTb := zTm (L := tables_1_4) zT4 234 rfl rfl
theorem wk_430 : Cond.methodLink "EndSumsLaw" 37 yX7_powers ∈ zTb := zTm (L := tables_1_2) zT2 190 rfl rfl
theorem wk_1006 : Cond.methodLink "EndSumsLaw" 40 yX8_powers ∈ zTb := zTm (L := tables_1_5) zT5 46 rfl rfl
theorem wk_447 : Cond.methodLink "EndSumsLaw" 41 yX7_order ∈ zTb := zTm (L := tables_1_2) zT2 207 rfl rfl
theorem wk_1021 : Cond.methodLink "EndSumsLaw" 44 yX8_order ∈ zTb := zTm (L := tables_1_5) zT5 61 rfl rfl
theorem wk_466 : Cond.methodLink "EndSumsLaw" 45 yX7_undoes ∈ zTb := zTm (L := tables_1_2) zT2 226 rfl rfl
theorem wk_1025 : Cond.methodLink "EndSumsLaw" 48 yX8_undoes ∈ zTb := zTm (L := tables_1_5) zT5 65 rfl rfl
theorem wk_479 : Cond.methodLink "EndSumsLaw" 49 yX7_puts ∈ zTb := zTm (L := tables_1_2) zT2 239 rfl rfl
theorem wk_1100 : Cond.methodLink "EndSumsLaw" 53 yX8_puts ∈ zTb := zTm (L := tables_1_5) zT5 140 rfl rfl
theorem wk_492 : Cond.methodLink "EndSumsLaw" 54 yX7_takes ∈ zTb := zTm (L := tables_1_3) zT3 12 rfl rfl
theorem wk_1111 : Cond.methodLink "EndSumsLaw" 57 yX8_takes ∈ zTb := zTm (L := tables_1_5) zT5 151 rfl rfl
theorem wk_500 : Cond.methodLink "EndSumsLaw" 58 yX7_copies ∈ zTb := zTm (L := tables_1_3) zT3 20 rfl rfl
theorem wk_1123 : Cond.methodLink "EndSumsLaw" 61 yX8_copies ∈ zTb := zTm (L := tables_1_5) zT5 163 rfl rfl
theorem wk_515 : Cond.methodLink "EndSumsLaw" 62 yX7_joins ∈ zTb := zTm (L := tables_1_3) zT3 35 rfl rfl
theorem wk_1131 : Cond.methodLink "EndSumsLaw" 65 yX8_joins ∈ zTb := zTm (L := tables_1_5) zT5 171 rfl rfl
theorem wk_519 : Cond.methodLink "EndSumsLaw" 66 yX7_parts ∈ zTb := zTm (L := tables_1_3) zT3 39 rfl rfl
theorem wk_1135 : Cond.methodLink "EndSumsLaw" 69 yX8_parts ∈ zTb := zTm (L := tables_1_5) zT5 175 rfl rfl
theorem wk_527 : Cond.methodLink "EndSumsLaw" 70 yX7_reverses ∈ zTb := zTm (L := tables_1_3) zT3 47 rfl rfl
theorem wk_1139 : Cond.methodLink "EndSumsLaw" 73 yX8_reverses ∈ zTb := zTm (L := tables_1_5) zT5 179 rfl rfl
theorem wk_535 : Cond.methodLink "EndSumsLaw" 74 yX7_changes ∈ zTb := zTm (L := tables_1_3) zT3 55 rfl rfl
theorem wk_1147 : Cond.methodLink "EndSumsLaw" 77 yX8_changes ∈ zTb := zTm (L := tables_1_5) zT5 187 rfl rfl
theorem wk_547 : Cond.methodLink "EndSumsLaw" 78 yX7_slips ∈ zTb := zTm (L := tables_1_3) zT3 67 rfl rfl
theorem wk_1159 : Cond.methodLink "EndSumsLaw" 81 yX8_slips ∈ zTb := zTm (L := tables_1_5) zT5 199 rfl rfl
theorem wk_551 : Cond.methodLink "EndSumsLaw" 82 yX7_drops ∈ zTb := zTm (L := tables_1_3) zT3 71 rfl rfl
theorem wk_1163 : Cond.methodLink "EndSumsLaw" 85 yX8_drops ∈ zTb := zTm (L := tables_1_5) zT5 203 rfl rfl
theorem wk_555 : Cond.methodLink "EndSumsLaw" 86 yX7_shifts ∈ zTb := zTm (L := tables_1_3) zT3 75 rfl rfl
theorem wk_1167 : Cond.methodLink "EndSumsLaw" 89 yX8_shifts ∈ zTb := zTm (L := tables_1_5) zT5 207 rfl rfl
theorem wk_563 : Cond.methodLink "EndSumsLaw" 90 yX7_clears ∈ zTb := zTm (L := tables_1_3) zT3 83 rfl rfl
theorem wk_1180 : Cond.methodLink "EndSumsLaw" 93 yX8_clears ∈ zTb := zTm (L := tables_1_5) zT5 220 rfl rfl
theorem wk_567 : Cond.methodLink "EndSumsLaw" 94 yX7_run ∈ zTb := zTm (L := tables_1_3) zT3 87 rfl rfl
theorem wk_1184 : Cond.methodLink "EndSumsLaw" 97 yX8_run ∈ zTb := zTm (L := tables_1_5) zT5 224 rfl rfl
theorem wk_601 : Cond.methodLink "EndSumsLaw" 98 yX7_sign ∈ zTb := zTm (L := tables_1_3) zT3 121 rfl rfl
theorem wk_840 : Cond.methodLink "EndSumsLaw" 101 yX8_sign ∈ zTb := zTm (L := tables_1_4) zT4 120 rfl rfl
theorem wk_610 : Cond.methodLink "EndSumsLaw" 102 yX7_end ∈ zTb := zTm (L := tables_1_3) zT3 130 rfl rfl
theorem wk_844 : Cond.methodLink "EndSumsLaw" 106 yX8_end ∈ zTb := zTm (L := tables_1_4) zT4 124 rfl rfl
theorem wk_614 : Cond.methodLink "EndSumsLaw" 107 yX7_sum ∈ zTb := zTm (L := tables_1_3) zT3 134 rfl rfl
theorem wk_1200 : Cond.methodLink "EndSumsLaw" 110 yX8_sum ∈ zTb := zTm (L := tables_1_6) zT6 0 rfl rfl
theorem wk_760 : Cond.codeWith yL_item cL_item 5 (some .int) [(0, 10, 13, 13)] ∈ zTb := zTm (L := tables_1_4) zT4 40 rfl rfl
theorem wk_759 : Cond.static yL_item ∈ zTb := zTm (L := tables_1_4) zT4 39 rfl rfl
theorem wk_0 : Cond.initialized "EndSumsLaw" ∈ zTb := zTm (L := tables_1_1) zT1 0 rfl rfl
theorem wk_758 : Cond.methodLink "EndSumsLaw" 111 yL_item ∈ zTb := zTm (L := tables_1_4) zT4 38 rfl rfl
theorem wk_1204 : Cond.methodLink "EndSumsLaw" 116 yX8_item ∈ zTb := zTm (L := tables_1_6) zT6 4 rfl rfl
theorem wk_618 : Cond.methodLink "EndSumsLaw" 117 yX7_part ∈ zTb := zTm (L := tables_1_3) zT3 138 rfl rfl
theorem wk_1208 : Cond.methodLink "EndSumsLaw" 120 yX8_part ∈ zTb := zTm (L := tables_1_6) zT6 8 rfl rfl
theorem wk_622 : Cond.methodLink "EndSumsLaw" 121 yX7_windows ∈ zTb := zTm (L := tables_1_3) zT3 142 rfl rfl
theorem wk_1216 : Cond.methodLink "EndSumsLaw" 124 yX8_windows ∈ zTb := zTm (L := tables_1_6) zT6 16 rfl rfl
theorem wk_626 : Cond.methodLink "EndSumsLaw" 125 yX7_first ∈ zTb := zTm (L := tables_1_3) zT3 146 rfl rfl
theorem wk_1220 : Cond.methodLink "EndSumsLaw" 128 yX8_first ∈ zTb := zTm (L := tables_1_6) zT6 20 rfl rfl
theorem wk_630 : Cond.methodLink "EndSumsLaw" 129 yX7_longest ∈ zTb := zTm (L := tables_1_3) zT3 150 rfl rfl
theorem wk_1224 : Cond.methodLink "EndSumsLaw" 132 yX8_longest ∈ zTb := zTm (L := tables_1_6) zT6 24 rfl rfl
theorem wk_643 : Cond.methodLink "EndSumsLaw" 133 yX7_greatest ∈ zTb := zTm (L := tables_1_3) zT3 163 rfl rfl
theorem wk_1228 : Cond.methodLink "EndSumsLaw" 136 yX8_greatest ∈ zTb := zTm (L := tables_1_6) zT6 28 rfl rfl
theorem wk_647 : Cond.methodLink "EndSumsLaw" 137 yX7_finds ∈ zTb := zTm (L := tables_1_3) zT3 167 rfl rfl
theorem wk_1232 : Cond.methodLink "EndSumsLaw" 140 yX8_finds ∈ zTb := zTm (L := tables_1_6) zT6 32 rfl rfl
theorem wk_659 : Cond.methodLink "EndSumsLaw" 141 yX7_drains ∈ zTb := zTm (L := tables_1_3) zT3 179 rfl rfl
theorem wk_1236 : Cond.methodLink "EndSumsLaw" 144 yX8_drains ∈ zTb := zTm (L := tables_1_6) zT6 36 rfl rfl
theorem wk_672 : Cond.methodLink "EndSumsLaw" 145 yX7_unlike ∈ zTb := zTm (L := tables_1_3) zT3 192 rfl rfl
theorem wk_1262 : Cond.methodLink "EndSumsLaw" 148 yX8_unlike ∈ zTb := zTm (L := tables_1_6) zT6 62 rfl rfl
theorem wk_687 : Cond.methodLink "EndSumsLaw" 149 yX7_same ∈ zTb := zTm (L := tables_1_3) zT3 207 rfl rfl
theorem wk_1267 : Cond.methodLink "EndSumsLaw" 152 yX8_same ∈ zTb := zTm (L := tables_1_6) zT6 67 rfl rfl
theorem wk_713 : Cond.methodLink "EndSumsLaw" 153 yX7_shared ∈ zTb := zTm (L := tables_1_3) zT3 233 rfl rfl
theorem wk_1275 : Cond.methodLink "EndSumsLaw" 156 yX8_shared ∈ zTb := zTm (L := tables_1_6) zT6 75 rfl rfl
theorem wk_723 : Cond.methodLink "EndSumsLaw" 157 yX7_would ∈ zTb := zTm (L := tables_1_4) zT4 3 rfl rfl
theorem wk_1253 : Cond.methodLink "EndSumsLaw" 160 yX8_would ∈ zTb := zTm (L := tables_1_6) zT6 53 rfl rfl
theorem wk_729 : Cond.methodLink "EndSumsLaw" 161 yX7_dearest ∈ zTb := zTm (L := tables_1_4) zT4 9 rfl rfl
theorem wk_1257 : Cond.methodLink "EndSumsLaw" 164 yX8_dearest ∈ zTb := zTm (L := tables_1_6) zT6 57 rfl rfl
theorem wk_754 : Cond.methodLink "EndSumsLaw" 165 yX7_count ∈ zTb := zTm (L := tables_1_4) zT4 34 rfl rfl
theorem wk_1279 : Cond.methodLink "EndSumsLaw" 168 yX8_count ∈ zTb := zTm (L := tables_1_6) zT6 79 rfl rfl
theorem wk_834 : Cond.codeWith yL_row cL_row 4 (some .int) [(0, 8, 11, 13)] ∈ zTb := zTm (L := tables_1_4) zT4 114 rfl rfl
theorem wk_833 : Cond.static yL_row ∈ zTb := zTm (L := tables_1_4) zT4 113 rfl rfl
theorem wk_832 : Cond.methodLink "EndSumsLaw" 169 yL_row ∈ zTb := zTm (L := tables_1_4) zT4 112 rfl rfl
theorem wk_1283 : Cond.methodLink "EndSumsLaw" 172 yX8_row ∈ zTb := zTm (L := tables_1_6) zT6 83 rfl rfl
abbrev ML_law : zM := (cL_law, "EndSumsLaw", 8, ret, room_1)
/-- the law's end: what it is told, and how much may have been made by now -/
def zLw (b L : Nat) (xs : Nat → Int32) (k : Nat) : zEnd Unit := (fun l s _ AD A cells slots => l.stackTraces = false ∧ zXp A s s.heap ∧ va_X b L xs s s.heap ∧ AD 94 = b ∧ b < s.heap.size ∧ A = (fun q => s.heap.size ≤ q) ∧ cells ≤ 93 + k ∧ slots ≤ 6965 + 6 * k, fun _ _ _ _ _ below args s => lw_Z below args s)
theorem z_lwret {p : Program} {l : Launch} {e : Env} {s : State} {m : MethodId} {args : Array Value} {below : List Frame} {meth : Method} {c : Code} (hx : p.tables.exec = Jvm.exec) (hb : c.code = code) (hr : meth.sig.returnType = ret) (hlocks : meth.locks = false) {pc : Nat} {H : Heap} {ls : Array Slot} (hdg : decode code pc = .ok (.ireturn, 1)) : W p l e room_1 s m args below meth c H [] 601024 7293034 (lw_Z below args s) (F0 m pc ls [.int 1]) := by
  intro T hT X
  obtain ⟨fs, hret, hrun, hended, hW, hframe⟩ := X.leave (v := some (.int 1)) (hlocks := hlocks) (fun h => by rw [hr] at h; cases h)
  have hmeth' : T.vm.method? m = some meth := X.method'
  refine ⟨T.setFrames fs, ?_, .returned (some (.int 1)), hrun, hended, rfl, ⟨_, rfl⟩, hW, hframe⟩
  jvm_step X.here [X.here.top, hx, hb, hdg, hmeth', hr, ret, narrow_b1]
  (try refine ⟨rfl, ?_⟩); (try refine ⟨rfl, ?_⟩)
  first | (intro acts; rw [hret _ acts rfl rfl rfl]) | rw [hret _ _ rfl rfl rfl]
  exact Steps.refl _
section TL
variable {b L k : Nat} {xs : Nat → Int32} {r : Option (Unit × zW)} {pc : Nat} {lv : List (Nat × Value)} {st : List Value} {w : zW}
theorem tz_lwret (d : decode code pc = .ok (.ireturn, 1)) : Tz ML_law (zLw b L xs k) (some ((), w)) pc lv [.int 1] w := by
  intro res h p l e s m args below meth c D cA AD A X cells slots hB hE H locs ls hP hS hl
  cases h
  obtain ⟨htr, hXp, hX, hAD, hbl, hAe, hc, hs⟩ := hE
  subst hAe
  refine va_forget (fun q hq => hS.2.2 q hq) ?_
  refine W.widen (k := 601024) (n := 7293034) hB.1 hB.2 ?_
  exact z_lwret X.1 X.2.1 X.2.2.1 X.2.2.2.2.2.2.1 d
theorem tz_lwk (k1 : Tz ML_law (zLw b L xs (k + 1)) r pc lv st w) : Tz ML_law (zLw b L xs k) r pc lv st w := by
  intro res h p l e s m args below meth c D cA AD A X cells slots hB hE H locs ls hP hS hl
  obtain ⟨htr, hXp, hX, hAD, hbl, hAe, hc, hs⟩ := hE
  exact k1 res h p l e s m args below meth c D cA AD A X cells slots hB ⟨htr, hXp, hX, hAD, hbl, hAe, by omega, by omega⟩ H locs ls hP hS hl
theorem tz_sld {i : Int32} (d : decode ML_law.1 pc = .ok (.iaload, 1)) (k1 : Tz ML_law (zLw b L xs k) r (pc + 1) lv (.int (xs i.toNatClampNeg) :: st) w) : Tz ML_law (zLw b L xs k) (zg (zin i L) r) pc lv (.int i :: .ref 94 :: st) w := by
  intro res h p l e s m args below meth c D cA AD A X cells slots hB hE H locs ls hP hS hl
  have hE' := hE
  obtain ⟨htr, hXp, hX, hAD, hbl, hAe, hc, hs⟩ := hE
  show W p l e _ s m args below meth c H locs cells slots _ (F0 m pc ls (.int i :: .ref (AD 94) :: zes AD st))
  rw [hAD]
  exact va_sld X.1 X.2.1 hX hbl (by rw [hAe]; exact Nat.not_le.mpr hbl) hS (zin_vp (zg_some h).1) d (k1 res (zg_some h).2 p l e s m args below meth c D cA AD A X cells slots hB hE' H locs ls hP hS hl)
theorem tz_slen (d : decode ML_law.1 pc = .ok (.arraylength, 1)) (k1 : Tz ML_law (zLw b L xs k) r (pc + 1) lv (.int (nI L) :: st) w) : Tz ML_law (zLw b L xs k) r pc lv (.ref 94 :: st) w := by
  intro res h p l e s m args below meth c D cA AD A X cells slots hB hE H locs ls hP hS hl
  have hE' := hE
  obtain ⟨htr, hXp, hX, hAD, hbl, hAe, hc, hs⟩ := hE
  show W p l e _ s m args below meth c H locs cells slots _ (F0 m pc ls (.ref (AD 94) :: zes AD st))
  rw [hAD]
  exact va_slen X.1 X.2.1 hX hbl (by rw [hAe]; exact Nat.not_le.mpr hbl) hS d (k1 res h p l e s m args below meth c D cA AD A X cells slots hB hE' H locs ls hP hS hl)
end TL
section ZC1
variable {p : Program} {l : Launch} {e : Env} {R : Room} {s : State} {m : MethodId} {args : Array Value} {below : List Frame} {meth : Method} {c : Code} {H : Heap} {locs : List Loc} {cells slots : Nat} {Q : State → Prop} {pc : Nat} {ls : Array Slot} {st0 rest : List Value} {a : Array Value}
theorem z_call1 {ρ : Type} {D : va_G} {cA : Nat → ClassId} {AD : Nat → Nat} {A : Nat → Prop} {inj : ρ → Option Value} {res : ρ × zW} (hr : va_Run p l e R s m args below meth c H locs cells slots 1 6 (F0 m pc ls st0) rest (zQ D cA AD (zA AD H.size) inj res a) (zA AD H.size)) (hS : va_S A s.heap H locs) (hA : ∀ q, zA AD H.size q → A q)
    (kk : ∀ (H1 : Heap) (locs1 : List Loc), va_P D vwCl (zws cA AD res.2) H1 → va_S A s.heap H1 locs1 → W p l e R s m args below meth c H1 locs1 (cells + 1) (slots + 6) Q (F0 m (pc + 3) ls (((inj res.1).map (zev AD)).toList ++ rest))) : W p l e R s m args below meth c H locs cells slots Q (F0 m pc ls st0) := by
  intro T hT X
  obtain ⟨v, st₀, t, T', L, h0, X', hL, e1, e2, ⟨⟨hv, hp⟩, hz, hk⟩, st⟩ := hr T hT X
  cases hv
  rw [h0] at hz hk
  obtain ⟨t2, a1, b1⟩ := kk T'.heap (locs ++ L) (by rw [e1]; exact hp)
    ⟨Nat.le_trans hS.1 (by rw [e1]; exact hz), fun q h1 h2 => by rw [e1, hk q (Nat.lt_of_lt_of_le h1 hS.1) (fun z => h2 (hA q z))]; exact hS.2.1 q h1 h2, fun q hq => by
      rcases List.mem_append.mp hq with h | h
      · exact hS.2.2 q h
      · exact hA _ (hL q h)⟩ T' rfl X'
  exact ⟨t2, st t2 a1, b1⟩
end ZC1
set_option maxHeartbeats 2000000 in
theorem tz_cX1 {b L k : Nat} {xs : Nat → Int32} {pc : Nat} {lv : List (Nat × Value)} {st rest : List Value} {w : zW} {y : MethodName} {My : zM} {hh : List (Nat × Nat × Nat × Nat)} {f : Option (Int32 × zW)} {F : Int32 → zW → Option (Unit × zW)} {As : List Value} {n index : Nat} (hk : k ≤ 100000) (hw1 : Cond.codeWith y My.1 My.2.2.1 My.2.2.2.1 hh ∈ zTb) (hw2 : Cond.static y ∈ zTb) (hw3 : Cond.initialized y.cls ∈ zTb) (hw4 : Cond.methodLink "EndSumsLaw" index y ∈ zTb) (hd : y.cls ≠ "java/lang/invoke/MethodHandle" ∧ y.cls ≠ "java/lang/invoke/VarHandle" ∧ (parseMethodDescriptor y.desc).map (fun d => d.parameters.length) = some n) (hr1 : My.2.2.2.2.cells = 1) (hr2 : My.2.2.2.2.slots = 6) (hR : My.2.2.2.2.frames + 1 ≤ 2048 ∧ 8 + (My.2.2.1 + 11) + My.2.2.2.2.locals ≤ 84000)
    (hS0 : Sm1 y My hh zi As w f) (hn : As.length = n) (hst : st = As.reverse ++ rest) (hcat : (rest.map fun v => v.category).sum ≤ 8) (d : decode ML_law.1 pc = .ok (.invokestatic index, 3)) (k1 : ∀ (v : Int32) (w1 : zW), f = some (v, w1) → Tz ML_law (zLw b L xs (k + 1)) (F v w1) (pc + 3) lv (.int v :: rest) w1) : Tz ML_law (zLw b L xs k) (bd f F) pc lv st w := by
  intro res h p l e s m args below meth c D cA AD A X cells slots hB hE H locs ls hP hS hl
  obtain ⟨v, w1, hf, hF⟩ := bd_some h
  obtain ⟨htr, hXp, hX, hAD, hbl, hAe, hc, hs⟩ := hE
  have hM := hS0 (v, w1) hf l htr D cA AD H.size
  subst hst
  have hG : GoodIn zTb (.codeWith y My.1 My.2.2.1 My.2.2.2.1 hh :: zTb) := zTb_goodIn fun w hw => (List.mem_cons.mp hw).elim (fun z => z ▸ hw1) id
  have hlen : ∀ sig, parseMethodDescriptor y.desc = some sig → n = sig.parameters.length := fun sig h9 => by
    have h2 := hd.2.2
    rw [h9] at h2
    exact (Option.some.inj h2).symm
  refine z_call1 (rest := zes AD rest) (vx_runSW (hh := hh) (bytes := My.1) (maxL := My.2.2.1) (ret := My.2.2.2.1) (rm := My.2.2.2.2) (mc := 1) (ms := 6) (n := n) (S := ⟨X.1, X.2.1, X.2.2.2.1, X.2.2.2.2.1, X.2.2.2.2.2.1⟩) (As := zes AD As) hM ⟨⟨hr1, hr2, hR.1, hR.2, pay_in X.2.2.2.2.2.1 hG, List.mem_cons_self⟩, X.2.2.2.2.2.1 _ hw1, X.2.2.2.2.2.1 _ hw3, ⟨hd.1, hd.2.1⟩, hlen, X.2.2.2.2.2.1 _ hw4, X.2.2.2.2.2.1 _ hw2⟩ ⟨zPcX_blind, fun U hU hW => ⟨rfl, zPre_of X hP hS hU hW, ?_⟩⟩ rfl (by simpa [zes] using hn) hl.1 (by simp [zes, zev]) ?_ d ?_) hS (zA_in X hS) (fun H1 locs1 hP1 hS1 => ?_)
  · rw [hU]
    exact zXp_moved hW (zXp_narrow (zXp_kept hXp hS.2.1) (zA_in X hS))
  · exact lv_room (by rw [zes_cat]; exact hcat)
  · constructor
    · exact Nat.le_trans (Nat.add_le_add_right hc 1) (by show _ ≤ 601024; omega)
    · exact Nat.le_trans (Nat.add_le_add_right hs 6) (by show _ ≤ 7293034; omega)
  · rw [zes_app]
    exact k1 v w1 hf res hF p l e s m args below meth c D cA AD A X (cells + 1) (slots + 6) ⟨Nat.le_trans (Nat.add_le_add_right hc 1) (by show _ ≤ 601024; omega), Nat.le_trans (Nat.add_le_add_right hs 6) (by show _ ≤ 7293034; omega)⟩ ⟨htr, hXp, hX, hAD, hbl, hAe, by omega, by omega⟩ H1 locs1 ls hP1 hS1 hl
theorem zlw_nx (k : Nat) : nI (4 * k) + (4 : Int32) = nI (4 * (k + 1)) := by
  have h : (4 : Int32) = nI 4 := rfl
  rw [h, nI_add]; congr 1
theorem zlw_bd {L k : Nat} (hL : L ≤ 2048) (hk : 4 * k ≤ L + 3) (q : ¬ (nI L - (4 : Int32)) < nI (4 * k)) : 4 * k + 4 ≤ L := by
  have h : (4 : Int32) = nI 4 := rfl
  rw [h, Int32.lt_iff_toInt_lt, pk_sub_toInt (by omega) (by omega), nI_toInt (by omega)] at q
  omega
def QL_law_0 : List (Nat × Instr × Nat) := [(0, .new 8, 3), (3, .dup, 1), (4, .invokespecial 19, 3), (7, .astore_n 1, 1), (8, .new 20, 3), (11, .dup, 1), (12, .invokespecial 22, 3), (15, .astore_n 2, 1), (16, .iconst 1, 1), (17, .newarray .long, 2), (19, .astore_n 3, 1), (20, .iconst 0, 1), (21, .istore 4, 2), (23, .iload 4, 2), (25, .aload_n 0, 1), (26, .arraylength, 1), (27, .iconst 4, 1), (28, .isub, 1), (29, .if_icmp .gt 1391, 3), (32, .aload_n 0, 1), (33, .iload 4, 2), (35, .iaload, 1), (36, .bipush 63, 2), (38, .iand, 1), (39, .tableswitch 1375 0 35 #[157, 182, 195, 232, 269, 294, 319, 368, 405, 442, 479, 528, 553, 602, 651, 688, 737, 762, 787, 812, 837, 862, 902, 951, 988, 1025, 1062, 1099, 1148, 1173, 1198, 1235, 1248, 1285, 1322, 1347], 157), (196, .aload_n 1, 1), (197, .aload_n 0, 1), (198, .iload 4, 2), (200, .iconst 1, 1), (201, .iadd, 1), (202, .iaload, 1), (203, .invokevirtual 23, 3), (206, .pop, 1), (207, .aload_n 2, 1), (208, .aload_n 0, 1), (209, .iload 4, 2), (211, .iconst 1, 1), (212, .iadd, 1), (213, .iaload, 1), (214, .invokevirtual 27, 3), (217, .pop, 1), (218, .goto 1196, 3), (221, .aload_n 1, 1), (222, .invokevirtual 28, 3), (225, .pop, 1), (226, .aload_n 2, 1), (227, .invokevirtual 32, 3), (230, .pop, 1), (231, .goto 1183, 3), (234, .aload_n 1, 1), (235, .aload_n 0, 1), (236, .iload 4, 2), (238, .iconst 1, 1), (239, .iadd, 1), (240, .iaload, 1), (241, .aload_n 0, 1), (242, .iload 4, 2), (244, .iconst 2, 1), (245, .iadd, 1), (246, .iaload, 1)]
set_option maxRecDepth 100000 in
theorem DL_law_0 : ∀ q ∈ QL_law_0, decode cL_law q.1 = .ok (q.2.1, q.2.2) := by decide +kernel
def QL_law_1 : List (Nat × Instr × Nat) := [(247, .invokevirtual 33, 3), (250, .pop, 1), (251, .aload_n 2, 1), (252, .aload_n 0, 1), (253, .iload 4, 2), (255, .iconst 1, 1), (256, .iadd, 1), (257, .iaload, 1), (258, .aload_n 0, 1), (259, .iload 4, 2), (261, .iconst 2, 1), (262, .iadd, 1), (263, .iaload, 1), (264, .invokevirtual 36, 3), (267, .pop, 1), (268, .goto 1146, 3), (271, .aload_n 1, 1), (272, .aload_n 0, 1), (273, .iload 4, 2), (275, .iconst 1, 1), (276, .iadd, 1), (277, .iaload, 1), (278, .aload_n 0, 1), (279, .iload 4, 2), (281, .iconst 2, 1), (282, .iadd, 1), (283, .iaload, 1), (284, .invokevirtual 37, 3), (287, .pop, 1), (288, .aload_n 2, 1), (289, .aload_n 0, 1), (290, .iload 4, 2), (292, .iconst 1, 1), (293, .iadd, 1), (294, .iaload, 1), (295, .aload_n 0, 1), (296, .iload 4, 2), (298, .iconst 2, 1), (299, .iadd, 1), (300, .iaload, 1), (301, .invokevirtual 40, 3), (304, .pop, 1), (305, .goto 1109, 3), (308, .aload_n 1, 1), (309, .aload_n 0, 1), (310, .iload 4, 2), (312, .iconst 1, 1), (313, .iadd, 1), (314, .iaload, 1), (315, .invokevirtual 41, 3), (318, .pop, 1), (319, .aload_n 2, 1), (320, .aload_n 0, 1), (321, .iload 4, 2), (323, .iconst 1, 1), (324, .iadd, 1), (325, .iaload, 1), (326, .invokevirtual 44, 3), (329, .pop, 1), (330, .goto 1084, 3)]
set_option maxRecDepth 100000 in
theorem DL_law_1 : ∀ q ∈ QL_law_1, decode cL_law q.1 = .ok (q.2.1, q.2.2) := by decide +kernel
def QL_law_2 : List (Nat × Instr × Nat) := [(333, .aload_n 1, 1), (334, .aload_n 0, 1), (335, .iload 4, 2), (337, .iconst 1, 1), (338, .iadd, 1), (339, .iaload, 1), (340, .invokevirtual 45, 3), (343, .pop, 1), (344, .aload_n 2, 1), (345, .aload_n 0, 1), (346, .iload 4, 2), (348, .iconst 1, 1), (349, .iadd, 1), (350, .iaload, 1), (351, .invokevirtual 48, 3), (354, .pop, 1), (355, .goto 1059, 3), (358, .aload_n 1, 1), (359, .aload_n 0, 1), (360, .iload 4, 2), (362, .iconst 1, 1), (363, .iadd, 1), (364, .iaload, 1), (365, .aload_n 0, 1), (366, .iload 4, 2), (368, .iconst 2, 1), (369, .iadd, 1), (370, .iaload, 1), (371, .aload_n 0, 1), (372, .iload 4, 2), (374, .iconst 3, 1), (375, .iadd, 1), (376, .iaload, 1), (377, .invokevirtual 49, 3), (380, .pop, 1), (381, .aload_n 2, 1), (382, .aload_n 0, 1), (383, .iload 4, 2), (385, .iconst 1, 1), (386, .iadd, 1), (387, .iaload, 1), (388, .aload_n 0, 1), (389, .iload 4, 2), (391, .iconst 2, 1), (392, .iadd, 1), (393, .iaload, 1), (394, .aload_n 0, 1), (395, .iload 4, 2), (397, .iconst 3, 1), (398, .iadd, 1), (399, .iaload, 1), (400, .invokevirtual 53, 3), (403, .pop, 1), (404, .goto 1010, 3), (407, .aload_n 1, 1), (408, .aload_n 0, 1), (409, .iload 4, 2), (411, .iconst 1, 1), (412, .iadd, 1), (413, .iaload, 1)]
set_option maxRecDepth 100000 in
theorem DL_law_2 : ∀ q ∈ QL_law_2, decode cL_law q.1 = .ok (q.2.1, q.2.2) := by decide +kernel
def QL_law_3 : List (Nat × Instr × Nat) := [(414, .aload_n 0, 1), (415, .iload 4, 2), (417, .iconst 2, 1), (418, .iadd, 1), (419, .iaload, 1), (420, .invokevirtual 54, 3), (423, .pop, 1), (424, .aload_n 2, 1), (425, .aload_n 0, 1), (426, .iload 4, 2), (428, .iconst 1, 1), (429, .iadd, 1), (430, .iaload, 1), (431, .aload_n 0, 1), (432, .iload 4, 2), (434, .iconst 2, 1), (435, .iadd, 1), (436, .iaload, 1), (437, .invokevirtual 57, 3), (440, .pop, 1), (441, .goto 973, 3), (444, .aload_n 1, 1), (445, .aload_n 0, 1), (446, .iload 4, 2), (448, .iconst 1, 1), (449, .iadd, 1), (450, .iaload, 1), (451, .aload_n 0, 1), (452, .iload 4, 2), (454, .iconst 2, 1), (455, .iadd, 1), (456, .iaload, 1), (457, .invokevirtual 58, 3), (460, .pop, 1), (461, .aload_n 2, 1), (462, .aload_n 0, 1), (463, .iload 4, 2), (465, .iconst 1, 1), (466, .iadd, 1), (467, .iaload, 1), (468, .aload_n 0, 1), (469, .iload 4, 2), (471, .iconst 2, 1), (472, .iadd, 1), (473, .iaload, 1), (474, .invokevirtual 61, 3), (477, .pop, 1), (478, .goto 936, 3), (481, .aload_n 1, 1), (482, .aload_n 0, 1), (483, .iload 4, 2), (485, .iconst 1, 1), (486, .iadd, 1), (487, .iaload, 1), (488, .aload_n 0, 1), (489, .iload 4, 2), (491, .iconst 2, 1), (492, .iadd, 1), (493, .iaload, 1), (494, .invokevirtual 62, 3)]
set_option maxRecDepth 100000 in
theorem DL_law_3 : ∀ q ∈ QL_law_3, decode cL_law q.1 = .ok (q.2.1, q.2.2) := by decide +kernel
def QL_law_4 : List (Nat × Instr × Nat) := [(497, .pop, 1), (498, .aload_n 2, 1), (499, .aload_n 0, 1), (500, .iload 4, 2), (502, .iconst 1, 1), (503, .iadd, 1), (504, .iaload, 1), (505, .aload_n 0, 1), (506, .iload 4, 2), (508, .iconst 2, 1), (509, .iadd, 1), (510, .iaload, 1), (511, .invokevirtual 65, 3), (514, .pop, 1), (515, .goto 899, 3), (518, .aload_n 1, 1), (519, .aload_n 0, 1), (520, .iload 4, 2), (522, .iconst 1, 1), (523, .iadd, 1), (524, .iaload, 1), (525, .aload_n 0, 1), (526, .iload 4, 2), (528, .iconst 2, 1), (529, .iadd, 1), (530, .iaload, 1), (531, .aload_n 0, 1), (532, .iload 4, 2), (534, .iconst 3, 1), (535, .iadd, 1), (536, .iaload, 1), (537, .invokevirtual 66, 3), (540, .pop, 1), (541, .aload_n 2, 1), (542, .aload_n 0, 1), (543, .iload 4, 2), (545, .iconst 1, 1), (546, .iadd, 1), (547, .iaload, 1), (548, .aload_n 0, 1), (549, .iload 4, 2), (551, .iconst 2, 1), (552, .iadd, 1), (553, .iaload, 1), (554, .aload_n 0, 1), (555, .iload 4, 2), (557, .iconst 3, 1), (558, .iadd, 1), (559, .iaload, 1), (560, .invokevirtual 69, 3), (563, .pop, 1), (564, .goto 850, 3), (567, .aload_n 1, 1), (568, .aload_n 0, 1), (569, .iload 4, 2), (571, .iconst 1, 1), (572, .iadd, 1), (573, .iaload, 1), (574, .invokevirtual 70, 3), (577, .pop, 1)]
set_option maxRecDepth 100000 in
theorem DL_law_4 : ∀ q ∈ QL_law_4, decode cL_law q.1 = .ok (q.2.1, q.2.2) := by decide +kernel
def QL_law_5 : List (Nat × Instr × Nat) := [(578, .aload_n 2, 1), (579, .aload_n 0, 1), (580, .iload 4, 2), (582, .iconst 1, 1), (583, .iadd, 1), (584, .iaload, 1), (585, .invokevirtual 73, 3), (588, .pop, 1), (589, .goto 825, 3), (592, .aload_n 1, 1), (593, .aload_n 0, 1), (594, .iload 4, 2), (596, .iconst 1, 1), (597, .iadd, 1), (598, .iaload, 1), (599, .aload_n 0, 1), (600, .iload 4, 2), (602, .iconst 2, 1), (603, .iadd, 1), (604, .iaload, 1), (605, .aload_n 0, 1), (606, .iload 4, 2), (608, .iconst 3, 1), (609, .iadd, 1), (610, .iaload, 1), (611, .invokevirtual 74, 3), (614, .pop, 1), (615, .aload_n 2, 1), (616, .aload_n 0, 1), (617, .iload 4, 2), (619, .iconst 1, 1), (620, .iadd, 1), (621, .iaload, 1), (622, .aload_n 0, 1), (623, .iload 4, 2), (625, .iconst 2, 1), (626, .iadd, 1), (627, .iaload, 1), (628, .aload_n 0, 1), (629, .iload 4, 2), (631, .iconst 3, 1), (632, .iadd, 1), (633, .iaload, 1), (634, .invokevirtual 77, 3), (637, .pop, 1), (638, .goto 776, 3), (641, .aload_n 1, 1), (642, .aload_n 0, 1), (643, .iload 4, 2), (645, .iconst 1, 1), (646, .iadd, 1), (647, .iaload, 1), (648, .aload_n 0, 1), (649, .iload 4, 2), (651, .iconst 2, 1), (652, .iadd, 1), (653, .iaload, 1), (654, .aload_n 0, 1), (655, .iload 4, 2), (657, .iconst 3, 1)]
set_option maxRecDepth 100000 in
theorem DL_law_5 : ∀ q ∈ QL_law_5, decode cL_law q.1 = .ok (q.2.1, q.2.2) := by decide +kernel
def QL_law_6 : List (Nat × Instr × Nat) := [(658, .iadd, 1), (659, .iaload, 1), (660, .invokevirtual 78, 3), (663, .pop, 1), (664, .aload_n 2, 1), (665, .aload_n 0, 1), (666, .iload 4, 2), (668, .iconst 1, 1), (669, .iadd, 1), (670, .iaload, 1), (671, .aload_n 0, 1), (672, .iload 4, 2), (674, .iconst 2, 1), (675, .iadd, 1), (676, .iaload, 1), (677, .aload_n 0, 1), (678, .iload 4, 2), (680, .iconst 3, 1), (681, .iadd, 1), (682, .iaload, 1), (683, .invokevirtual 81, 3), (686, .pop, 1), (687, .goto 727, 3), (690, .aload_n 1, 1), (691, .aload_n 0, 1), (692, .iload 4, 2), (694, .iconst 1, 1), (695, .iadd, 1), (696, .iaload, 1), (697, .aload_n 0, 1), (698, .iload 4, 2), (700, .iconst 2, 1), (701, .iadd, 1), (702, .iaload, 1), (703, .invokevirtual 82, 3), (706, .pop, 1), (707, .aload_n 2, 1), (708, .aload_n 0, 1), (709, .iload 4, 2), (711, .iconst 1, 1), (712, .iadd, 1), (713, .iaload, 1), (714, .aload_n 0, 1), (715, .iload 4, 2), (717, .iconst 2, 1), (718, .iadd, 1), (719, .iaload, 1), (720, .invokevirtual 85, 3), (723, .pop, 1), (724, .goto 690, 3), (727, .aload_n 1, 1), (728, .aload_n 0, 1), (729, .iload 4, 2), (731, .iconst 1, 1), (732, .iadd, 1), (733, .iaload, 1), (734, .aload_n 0, 1), (735, .iload 4, 2), (737, .iconst 2, 1), (738, .iadd, 1)]
set_option maxRecDepth 100000 in
theorem DL_law_6 : ∀ q ∈ QL_law_6, decode cL_law q.1 = .ok (q.2.1, q.2.2) := by decide +kernel
def QL_law_7 : List (Nat × Instr × Nat) := [(739, .iaload, 1), (740, .aload_n 0, 1), (741, .iload 4, 2), (743, .iconst 3, 1), (744, .iadd, 1), (745, .iaload, 1), (746, .invokevirtual 86, 3), (749, .pop, 1), (750, .aload_n 2, 1), (751, .aload_n 0, 1), (752, .iload 4, 2), (754, .iconst 1, 1), (755, .iadd, 1), (756, .iaload, 1), (757, .aload_n 0, 1), (758, .iload 4, 2), (760, .iconst 2, 1), (761, .iadd, 1), (762, .iaload, 1), (763, .aload_n 0, 1), (764, .iload 4, 2), (766, .iconst 3, 1), (767, .iadd, 1), (768, .iaload, 1), (769, .invokevirtual 89, 3), (772, .pop, 1), (773, .goto 641, 3), (776, .aload_n 1, 1), (777, .aload_n 0, 1), (778, .iload 4, 2), (780, .iconst 1, 1), (781, .iadd, 1), (782, .iaload, 1), (783, .invokevirtual 90, 3), (786, .pop, 1), (787, .aload_n 2, 1), (788, .aload_n 0, 1), (789, .iload 4, 2), (791, .iconst 1, 1), (792, .iadd, 1), (793, .iaload, 1), (794, .invokevirtual 93, 3), (797, .pop, 1), (798, .goto 616, 3), (801, .aload_n 1, 1), (802, .aload_n 0, 1), (803, .iload 4, 2), (805, .iconst 1, 1), (806, .iadd, 1), (807, .iaload, 1), (808, .invokevirtual 94, 3), (811, .pop, 1), (812, .aload_n 2, 1), (813, .aload_n 0, 1), (814, .iload 4, 2), (816, .iconst 1, 1), (817, .iadd, 1), (818, .iaload, 1), (819, .invokevirtual 97, 3), (822, .pop, 1)]
set_option maxRecDepth 100000 in
theorem DL_law_7 : ∀ q ∈ QL_law_7, decode cL_law q.1 = .ok (q.2.1, q.2.2) := by decide +kernel
def QL_law_8 : List (Nat × Instr × Nat) := [(823, .goto 591, 3), (826, .aload_n 1, 1), (827, .aload_n 0, 1), (828, .iload 4, 2), (830, .iconst 1, 1), (831, .iadd, 1), (832, .iaload, 1), (833, .invokevirtual 98, 3), (836, .pop, 1), (837, .aload_n 2, 1), (838, .aload_n 0, 1), (839, .iload 4, 2), (841, .iconst 1, 1), (842, .iadd, 1), (843, .iaload, 1), (844, .invokevirtual 101, 3), (847, .pop, 1), (848, .goto 566, 3), (851, .aload_n 1, 1), (852, .aload_n 0, 1), (853, .iload 4, 2), (855, .iconst 1, 1), (856, .iadd, 1), (857, .iaload, 1), (858, .invokevirtual 102, 3), (861, .pop, 1), (862, .aload_n 2, 1), (863, .aload_n 0, 1), (864, .iload 4, 2), (866, .iconst 1, 1), (867, .iadd, 1), (868, .iaload, 1), (869, .invokevirtual 106, 3), (872, .pop, 1), (873, .goto 541, 3), (876, .aload_n 1, 1), (877, .aload_n 0, 1), (878, .iload 4, 2), (880, .iconst 1, 1), (881, .iadd, 1), (882, .iaload, 1), (883, .invokevirtual 107, 3), (886, .pop, 1), (887, .aload_n 2, 1), (888, .aload_n 0, 1), (889, .iload 4, 2), (891, .iconst 1, 1), (892, .iadd, 1), (893, .iaload, 1), (894, .invokevirtual 110, 3), (897, .pop, 1), (898, .goto 516, 3), (901, .aload_n 1, 1), (902, .aload_n 0, 1), (903, .iload 4, 2), (905, .iconst 1, 1), (906, .iadd, 1), (907, .iaload, 1), (908, .aload_n 0, 1), (909, .iload 4, 2)]
set_option maxRecDepth 100000 in
theorem DL_law_8 : ∀ q ∈ QL_law_8, decode cL_law q.1 = .ok (q.2.1, q.2.2) := by decide +kernel
def QL_law_9 : List (Nat × Instr × Nat) := [(911, .iconst 2, 1), (912, .iadd, 1), (913, .iaload, 1), (914, .aload_n 3, 1), (915, .invokestatic 111, 3), (918, .istore 5, 2), (920, .aload_n 2, 1), (921, .aload_n 0, 1), (922, .iload 4, 2), (924, .iconst 1, 1), (925, .iadd, 1), (926, .iaload, 1), (927, .aload_n 0, 1), (928, .iload 4, 2), (930, .iconst 2, 1), (931, .iadd, 1), (932, .iaload, 1), (933, .invokevirtual 116, 3), (936, .istore 6, 2), (938, .goto 476, 3), (941, .aload_n 1, 1), (942, .aload_n 0, 1), (943, .iload 4, 2), (945, .iconst 1, 1), (946, .iadd, 1), (947, .iaload, 1), (948, .aload_n 0, 1), (949, .iload 4, 2), (951, .iconst 2, 1), (952, .iadd, 1), (953, .iaload, 1), (954, .aload_n 0, 1), (955, .iload 4, 2), (957, .iconst 3, 1), (958, .iadd, 1), (959, .iaload, 1), (960, .invokevirtual 117, 3), (963, .pop, 1), (964, .aload_n 2, 1), (965, .aload_n 0, 1), (966, .iload 4, 2), (968, .iconst 1, 1), (969, .iadd, 1), (970, .iaload, 1), (971, .aload_n 0, 1), (972, .iload 4, 2), (974, .iconst 2, 1), (975, .iadd, 1), (976, .iaload, 1), (977, .aload_n 0, 1), (978, .iload 4, 2), (980, .iconst 3, 1), (981, .iadd, 1), (982, .iaload, 1), (983, .invokevirtual 120, 3), (986, .pop, 1), (987, .goto 427, 3), (990, .aload_n 1, 1), (991, .aload_n 0, 1), (992, .iload 4, 2)]
set_option maxRecDepth 100000 in
theorem DL_law_9 : ∀ q ∈ QL_law_9, decode cL_law q.1 = .ok (q.2.1, q.2.2) := by decide +kernel
def QL_law_10 : List (Nat × Instr × Nat) := [(994, .iconst 1, 1), (995, .iadd, 1), (996, .iaload, 1), (997, .aload_n 0, 1), (998, .iload 4, 2), (1000, .iconst 2, 1), (1001, .iadd, 1), (1002, .iaload, 1), (1003, .invokevirtual 121, 3), (1006, .pop, 1), (1007, .aload_n 2, 1), (1008, .aload_n 0, 1), (1009, .iload 4, 2), (1011, .iconst 1, 1), (1012, .iadd, 1), (1013, .iaload, 1), (1014, .aload_n 0, 1), (1015, .iload 4, 2), (1017, .iconst 2, 1), (1018, .iadd, 1), (1019, .iaload, 1), (1020, .invokevirtual 124, 3), (1023, .pop, 1), (1024, .goto 390, 3), (1027, .aload_n 1, 1), (1028, .aload_n 0, 1), (1029, .iload 4, 2), (1031, .iconst 1, 1), (1032, .iadd, 1), (1033, .iaload, 1), (1034, .aload_n 0, 1), (1035, .iload 4, 2), (1037, .iconst 2, 1), (1038, .iadd, 1), (1039, .iaload, 1), (1040, .invokevirtual 125, 3), (1043, .pop, 1), (1044, .aload_n 2, 1), (1045, .aload_n 0, 1), (1046, .iload 4, 2), (1048, .iconst 1, 1), (1049, .iadd, 1), (1050, .iaload, 1), (1051, .aload_n 0, 1), (1052, .iload 4, 2), (1054, .iconst 2, 1), (1055, .iadd, 1), (1056, .iaload, 1), (1057, .invokevirtual 128, 3), (1060, .pop, 1), (1061, .goto 353, 3), (1064, .aload_n 1, 1), (1065, .aload_n 0, 1), (1066, .iload 4, 2), (1068, .iconst 1, 1), (1069, .iadd, 1), (1070, .iaload, 1), (1071, .aload_n 0, 1), (1072, .iload 4, 2), (1074, .iconst 2, 1)]
set_option maxRecDepth 100000 in
theorem DL_law_10 : ∀ q ∈ QL_law_10, decode cL_law q.1 = .ok (q.2.1, q.2.2) := by decide +kernel
def QL_law_11 : List (Nat × Instr × Nat) := [(1075, .iadd, 1), (1076, .iaload, 1), (1077, .invokevirtual 129, 3), (1080, .pop, 1), (1081, .aload_n 2, 1), (1082, .aload_n 0, 1), (1083, .iload 4, 2), (1085, .iconst 1, 1), (1086, .iadd, 1), (1087, .iaload, 1), (1088, .aload_n 0, 1), (1089, .iload 4, 2), (1091, .iconst 2, 1), (1092, .iadd, 1), (1093, .iaload, 1), (1094, .invokevirtual 132, 3), (1097, .pop, 1), (1098, .goto 316, 3), (1101, .aload_n 1, 1), (1102, .aload_n 0, 1), (1103, .iload 4, 2), (1105, .iconst 1, 1), (1106, .iadd, 1), (1107, .iaload, 1), (1108, .aload_n 0, 1), (1109, .iload 4, 2), (1111, .iconst 2, 1), (1112, .iadd, 1), (1113, .iaload, 1), (1114, .invokevirtual 133, 3), (1117, .pop, 1), (1118, .aload_n 2, 1), (1119, .aload_n 0, 1), (1120, .iload 4, 2), (1122, .iconst 1, 1), (1123, .iadd, 1), (1124, .iaload, 1), (1125, .aload_n 0, 1), (1126, .iload 4, 2), (1128, .iconst 2, 1), (1129, .iadd, 1), (1130, .iaload, 1), (1131, .invokevirtual 136, 3), (1134, .pop, 1), (1135, .goto 279, 3), (1138, .aload_n 1, 1), (1139, .aload_n 0, 1), (1140, .iload 4, 2), (1142, .iconst 1, 1), (1143, .iadd, 1), (1144, .iaload, 1), (1145, .aload_n 0, 1), (1146, .iload 4, 2), (1148, .iconst 2, 1), (1149, .iadd, 1), (1150, .iaload, 1), (1151, .aload_n 0, 1), (1152, .iload 4, 2), (1154, .iconst 3, 1), (1155, .iadd, 1)]
set_option maxRecDepth 100000 in
theorem DL_law_11 : ∀ q ∈ QL_law_11, decode cL_law q.1 = .ok (q.2.1, q.2.2) := by decide +kernel
def QL_law_12 : List (Nat × Instr × Nat) := [(1156, .iaload, 1), (1157, .invokevirtual 137, 3), (1160, .pop, 1), (1161, .aload_n 2, 1), (1162, .aload_n 0, 1), (1163, .iload 4, 2), (1165, .iconst 1, 1), (1166, .iadd, 1), (1167, .iaload, 1), (1168, .aload_n 0, 1), (1169, .iload 4, 2), (1171, .iconst 2, 1), (1172, .iadd, 1), (1173, .iaload, 1), (1174, .aload_n 0, 1), (1175, .iload 4, 2), (1177, .iconst 3, 1), (1178, .iadd, 1), (1179, .iaload, 1), (1180, .invokevirtual 140, 3), (1183, .pop, 1), (1184, .goto 230, 3), (1187, .aload_n 1, 1), (1188, .aload_n 0, 1), (1189, .iload 4, 2), (1191, .iconst 1, 1), (1192, .iadd, 1), (1193, .iaload, 1), (1194, .invokevirtual 141, 3), (1197, .pop, 1), (1198, .aload_n 2, 1), (1199, .aload_n 0, 1), (1200, .iload 4, 2), (1202, .iconst 1, 1), (1203, .iadd, 1), (1204, .iaload, 1), (1205, .invokevirtual 144, 3), (1208, .pop, 1), (1209, .goto 205, 3), (1212, .aload_n 1, 1), (1213, .aload_n 0, 1), (1214, .iload 4, 2), (1216, .iconst 1, 1), (1217, .iadd, 1), (1218, .iaload, 1), (1219, .invokevirtual 145, 3), (1222, .pop, 1), (1223, .aload_n 2, 1), (1224, .aload_n 0, 1), (1225, .iload 4, 2), (1227, .iconst 1, 1), (1228, .iadd, 1), (1229, .iaload, 1), (1230, .invokevirtual 148, 3), (1233, .pop, 1), (1234, .goto 180, 3), (1237, .aload_n 1, 1), (1238, .aload_n 0, 1), (1239, .iload 4, 2), (1241, .iconst 1, 1)]
set_option maxRecDepth 100000 in
theorem DL_law_12 : ∀ q ∈ QL_law_12, decode cL_law q.1 = .ok (q.2.1, q.2.2) := by decide +kernel
def QL_law_13 : List (Nat × Instr × Nat) := [(1242, .iadd, 1), (1243, .iaload, 1), (1244, .aload_n 0, 1), (1245, .iload 4, 2), (1247, .iconst 2, 1), (1248, .iadd, 1), (1249, .iaload, 1), (1250, .invokevirtual 149, 3), (1253, .pop, 1), (1254, .aload_n 2, 1), (1255, .aload_n 0, 1), (1256, .iload 4, 2), (1258, .iconst 1, 1), (1259, .iadd, 1), (1260, .iaload, 1), (1261, .aload_n 0, 1), (1262, .iload 4, 2), (1264, .iconst 2, 1), (1265, .iadd, 1), (1266, .iaload, 1), (1267, .invokevirtual 152, 3), (1270, .pop, 1), (1271, .goto 143, 3), (1274, .aload_n 1, 1), (1275, .invokevirtual 153, 3), (1278, .pop, 1), (1279, .aload_n 2, 1), (1280, .invokevirtual 156, 3), (1283, .pop, 1), (1284, .goto 130, 3), (1287, .aload_n 1, 1), (1288, .aload_n 0, 1), (1289, .iload 4, 2), (1291, .iconst 1, 1), (1292, .iadd, 1), (1293, .iaload, 1), (1294, .aload_n 0, 1), (1295, .iload 4, 2), (1297, .iconst 2, 1), (1298, .iadd, 1), (1299, .iaload, 1), (1300, .invokevirtual 157, 3), (1303, .pop, 1), (1304, .aload_n 2, 1), (1305, .aload_n 0, 1), (1306, .iload 4, 2), (1308, .iconst 1, 1), (1309, .iadd, 1), (1310, .iaload, 1), (1311, .aload_n 0, 1), (1312, .iload 4, 2), (1314, .iconst 2, 1), (1315, .iadd, 1), (1316, .iaload, 1), (1317, .invokevirtual 160, 3), (1320, .pop, 1), (1321, .goto 93, 3), (1324, .aload_n 1, 1), (1325, .aload_n 0, 1), (1326, .iload 4, 2)]
set_option maxRecDepth 100000 in
theorem DL_law_13 : ∀ q ∈ QL_law_13, decode cL_law q.1 = .ok (q.2.1, q.2.2) := by decide +kernel
def QL_law_14 : List (Nat × Instr × Nat) := [(1328, .iconst 1, 1), (1329, .iadd, 1), (1330, .iaload, 1), (1331, .aload_n 0, 1), (1332, .iload 4, 2), (1334, .iconst 2, 1), (1335, .iadd, 1), (1336, .iaload, 1), (1337, .invokevirtual 161, 3), (1340, .aload_n 2, 1), (1341, .aload_n 0, 1), (1342, .iload 4, 2), (1344, .iconst 1, 1), (1345, .iadd, 1), (1346, .iaload, 1), (1347, .aload_n 0, 1), (1348, .iload 4, 2), (1350, .iconst 2, 1), (1351, .iadd, 1), (1352, .iaload, 1), (1353, .invokevirtual 164, 3), (1356, .if_icmp .eq 58, 3), (1359, .iconst 0, 1), (1360, .ireturn, 1), (1361, .aload_n 1, 1), (1362, .aload_n 0, 1), (1363, .iload 4, 2), (1365, .iconst 1, 1), (1366, .iadd, 1), (1367, .iaload, 1), (1368, .invokevirtual 165, 3), (1371, .pop, 1), (1372, .aload_n 2, 1), (1373, .aload_n 0, 1), (1374, .iload 4, 2), (1376, .iconst 1, 1), (1377, .iadd, 1), (1378, .iaload, 1), (1379, .invokevirtual 168, 3), (1382, .pop, 1), (1383, .goto 31, 3), (1386, .aload_n 1, 1), (1387, .aload_n 0, 1), (1388, .iload 4, 2), (1390, .iconst 1, 1), (1391, .iadd, 1), (1392, .iaload, 1), (1393, .aload_n 3, 1), (1394, .invokestatic 169, 3), (1397, .istore 5, 2), (1399, .aload_n 2, 1), (1400, .aload_n 0, 1), (1401, .iload 4, 2), (1403, .iconst 1, 1), (1404, .iadd, 1), (1405, .iaload, 1), (1406, .invokevirtual 172, 3), (1409, .lstore 6, 2), (1411, .goto 3, 3), (1414, .iinc 4 4, 3)]
set_option maxRecDepth 100000 in
theorem DL_law_14 : ∀ q ∈ QL_law_14, decode cL_law q.1 = .ok (q.2.1, q.2.2) := by decide +kernel
def QL_law_15 : List (Nat × Instr × Nat) := [(1417, .goto (-1394), 3), (1420, .iconst 1, 1), (1421, .ireturn, 1)]
set_option maxRecDepth 100000 in
theorem DL_law_15 : ∀ q ∈ QL_law_15, decode cL_law q.1 = .ok (q.2.1, q.2.2) := by decide +kernel
def fL_law_L23 (L : Nat) (xs : Nat → Int32) : Nat → Int32 → zW → Option (Unit × zW)
  | 0, _, _ => none
  | n + 1, x4, w =>
    if ((nI L) - (4 : Int32)) < x4 then
      some ((), w)
    else
    zg (zin x4 L) <|
    lt (fun (w2 : zW) =>
      fL_law_L23 L xs n (x4 + (4 : Int32)) w2) fun j2 =>
    if ((xs x4.toNatClampNeg) &&& (63 : Int32)) = (0 : Int32) then
      zg (zin (x4 + (1 : Int32)) L) <|
      bd (fX7_rule (xs (x4 + (1 : Int32)).toNatClampNeg) w) fun v6 w4 =>
      zg (zin (x4 + (1 : Int32)) L) <|
      bd (fX8_rule (xs (x4 + (1 : Int32)).toNatClampNeg) w4) fun v9 w7 =>
      j2 w7
    else
    if ((xs x4.toNatClampNeg) &&& (63 : Int32)) = (1 : Int32) then
      bd (fX7_table w) fun v13 w11 =>
      bd (fX8_table w11) fun v16 w14 =>
      j2 w14
    else
    if ((xs x4.toNatClampNeg) &&& (63 : Int32)) = (2 : Int32) then
      zg (zin (x4 + (1 : Int32)) L) <|
      zg (zin (x4 + (2 : Int32)) L) <|
      bd (fX7_commutes (xs (x4 + (1 : Int32)).toNatClampNeg) (xs (x4 + (2 : Int32)).toNatClampNeg) w) fun v20 w18 =>
      zg (zin (x4 + (1 : Int32)) L) <|
      zg (zin (x4 + (2 : Int32)) L) <|
      bd (fX8_commutes (xs (x4 + (1 : Int32)).toNatClampNeg) (xs (x4 + (2 : Int32)).toNatClampNeg) w18) fun v23 w21 =>
      j2 w21
    else
    if ((xs x4.toNatClampNeg) &&& (63 : Int32)) = (3 : Int32) then
      zg (zin (x4 + (1 : Int32)) L) <|
      zg (zin (x4 + (2 : Int32)) L) <|
      bd (fX7_powers (xs (x4 + (1 : Int32)).toNatClampNeg) (xs (x4 + (2 : Int32)).toNatClampNeg) w) fun v27 w25 =>
      zg (zin (x4 + (1 : Int32)) L) <|
      zg (zin (x4 + (2 : Int32)) L) <|
      bd (fX8_powers (xs (x4 + (1 : Int32)).toNatClampNeg) (xs (x4 + (2 : Int32)).toNatClampNeg) w25) fun v30 w28 =>
      j2 w28
    else
    if ((xs x4.toNatClampNeg) &&& (63 : Int32)) = (4 : Int32) then
      zg (zin (x4 + (1 : Int32)) L) <|
      bd (fX7_order (xs (x4 + (1 : Int32)).toNatClampNeg) w) fun v34 w32 =>
      zg (zin (x4 + (1 : Int32)) L) <|
      bd (fX8_order (xs (x4 + (1 : Int32)).toNatClampNeg) w32) fun v37 w35 =>
      j2 w35
    else
    if ((xs x4.toNatClampNeg) &&& (63 : Int32)) = (5 : Int32) then
      zg (zin (x4 + (1 : Int32)) L) <|
      bd (fX7_undoes (xs (x4 + (1 : Int32)).toNatClampNeg) w) fun v41 w39 =>
      zg (zin (x4 + (1 : Int32)) L) <|
      bd (fX8_undoes (xs (x4 + (1 : Int32)).toNatClampNeg) w39) fun v44 w42 =>
      j2 w42
    else
    if ((xs x4.toNatClampNeg) &&& (63 : Int32)) = (6 : Int32) then
      zg (zin (x4 + (1 : Int32)) L) <|
      zg (zin (x4 + (2 : Int32)) L) <|
      zg (zin (x4 + (3 : Int32)) L) <|
      bd (fX7_puts (xs (x4 + (1 : Int32)).toNatClampNeg) (xs (x4 + (2 : Int32)).toNatClampNeg) (xs (x4 + (3 : Int32)).toNatClampNeg) w) fun v48 w46 =>
      zg (zin (x4 + (1 : Int32)) L) <|
      zg (zin (x4 + (2 : Int32)) L) <|
      zg (zin (x4 + (3 : Int32)) L) <|
      bd (fX8_puts (xs (x4 + (1 : Int32)).toNatClampNeg) (xs (x4 + (2 : Int32)).toNatClampNeg) (xs (x4 + (3 : Int32)).toNatClampNeg) w46) fun v51 w49 =>
      j2 w49
    else
    if ((xs x4.toNatClampNeg) &&& (63 : Int32)) = (7 : Int32) then
      zg (zin (x4 + (1 : Int32)) L) <|
      zg (zin (x4 + (2 : Int32)) L) <|
      bd (fX7_takes (xs (x4 + (1 : Int32)).toNatClampNeg) (xs (x4 + (2 : Int32)).toNatClampNeg) w) fun v55 w53 =>
      zg (zin (x4 + (1 : Int32)) L) <|
      zg (zin (x4 + (2 : Int32)) L) <|
      bd (fX8_takes (xs (x4 + (1 : Int32)).toNatClampNeg) (xs (x4 + (2 : Int32)).toNatClampNeg) w53) fun v58 w56 =>
      j2 w56
    else
    if ((xs x4.toNatClampNeg) &&& (63 : Int32)) = (8 : Int32) then
      zg (zin (x4 + (1 : Int32)) L) <|
      zg (zin (x4 + (2 : Int32)) L) <|
      bd (fX7_copies (xs (x4 + (1 : Int32)).toNatClampNeg) (xs (x4 + (2 : Int32)).toNatClampNeg) w) fun v62 w60 =>
      zg (zin (x4 + (1 : Int32)) L) <|
      zg (zin (x4 + (2 : Int32)) L) <|
      bd (fX8_copies (xs (x4 + (1 : Int32)).toNatClampNeg) (xs (x4 + (2 : Int32)).toNatClampNeg) w60) fun v65 w63 =>
      j2 w63
    else
    if ((xs x4.toNatClampNeg) &&& (63 : Int32)) = (9 : Int32) then
      zg (zin (x4 + (1 : Int32)) L) <|
      zg (zin (x4 + (2 : Int32)) L) <|
      bd (fX7_joins (xs (x4 + (1 : Int32)).toNatClampNeg) (xs (x4 + (2 : Int32)).toNatClampNeg) w) fun v69 w67 =>
      zg (zin (x4 + (1 : Int32)) L) <|
      zg (zin (x4 + (2 : Int32)) L) <|
      bd (fX8_joins (xs (x4 + (1 : Int32)).toNatClampNeg) (xs (x4 + (2 : Int32)).toNatClampNeg) w67) fun v72 w70 =>
      j2 w70
    else
    if ((xs x4.toNatClampNeg) &&& (63 : Int32)) = (10 : Int32) then
      zg (zin (x4 + (1 : Int32)) L) <|
      zg (zin (x4 + (2 : Int32)) L) <|
      zg (zin (x4 + (3 : Int32)) L) <|
      bd (fX7_parts (xs (x4 + (1 : Int32)).toNatClampNeg) (xs (x4 + (2 : Int32)).toNatClampNeg) (xs (x4 + (3 : Int32)).toNatClampNeg) w) fun v76 w74 =>
      zg (zin (x4 + (1 : Int32)) L) <|
      zg (zin (x4 + (2 : Int32)) L) <|
      zg (zin (x4 + (3 : Int32)) L) <|
      bd (fX8_parts (xs (x4 + (1 : Int32)).toNatClampNeg) (xs (x4 + (2 : Int32)).toNatClampNeg) (xs (x4 + (3 : Int32)).toNatClampNeg) w74) fun v79 w77 =>
      j2 w77
    else
    if ((xs x4.toNatClampNeg) &&& (63 : Int32)) = (11 : Int32) then
      zg (zin (x4 + (1 : Int32)) L) <|
      bd (fX7_reverses (xs (x4 + (1 : Int32)).toNatClampNeg) w) fun v83 w81 =>
      zg (zin (x4 + (1 : Int32)) L) <|
      bd (fX8_reverses (xs (x4 + (1 : Int32)).toNatClampNeg) w81) fun v86 w84 =>
      j2 w84
    else
    if ((xs x4.toNatClampNeg) &&& (63 : Int32)) = (12 : Int32) then
      zg (zin (x4 + (1 : Int32)) L) <|
      zg (zin (x4 + (2 : Int32)) L) <|
      zg (zin (x4 + (3 : Int32)) L) <|
      bd (fX7_changes (xs (x4 + (1 : Int32)).toNatClampNeg) (xs (x4 + (2 : Int32)).toNatClampNeg) (xs (x4 + (3 : Int32)).toNatClampNeg) w) fun v90 w88 =>
      zg (zin (x4 + (1 : Int32)) L) <|
      zg (zin (x4 + (2 : Int32)) L) <|
      zg (zin (x4 + (3 : Int32)) L) <|
      bd (fX8_changes (xs (x4 + (1 : Int32)).toNatClampNeg) (xs (x4 + (2 : Int32)).toNatClampNeg) (xs (x4 + (3 : Int32)).toNatClampNeg) w88) fun v93 w91 =>
      j2 w91
    else
    if ((xs x4.toNatClampNeg) &&& (63 : Int32)) = (13 : Int32) then
      zg (zin (x4 + (1 : Int32)) L) <|
      zg (zin (x4 + (2 : Int32)) L) <|
      zg (zin (x4 + (3 : Int32)) L) <|
      bd (fX7_slips (xs (x4 + (1 : Int32)).toNatClampNeg) (xs (x4 + (2 : Int32)).toNatClampNeg) (xs (x4 + (3 : Int32)).toNatClampNeg) w) fun v97 w95 =>
      zg (zin (x4 + (1 : Int32)) L) <|
      zg (zin (x4 + (2 : Int32)) L) <|
      zg (zin (x4 + (3 : Int32)) L) <|
      bd (fX8_slips (xs (x4 + (1 : Int32)).toNatClampNeg) (xs (x4 + (2 : Int32)).toNatClampNeg) (xs (x4 + (3 : Int32)).toNatClampNeg) w95) fun v100 w98 =>
      j2 w98
    else
    if ((xs x4.toNatClampNeg) &&& (63 : Int32)) = (14 : Int32) then
      zg (zin (x4 + (1 : Int32)) L) <|
      zg (zin (x4 + (2 : Int32)) L) <|
      bd (fX7_drops (xs (x4 + (1 : Int32)).toNatClampNeg) (xs (x4 + (2 : Int32)).toNatClampNeg) w) fun v104 w102 =>
      zg (zin (x4 + (1 : Int32)) L) <|
      zg (zin (x4 + (2 : Int32)) L) <|
      bd (fX8_drops (xs (x4 + (1 : Int32)).toNatClampNeg) (xs (x4 + (2 : Int32)).toNatClampNeg) w102) fun v107 w105 =>
      j2 w105
    else
    if ((xs x4.toNatClampNeg) &&& (63 : Int32)) = (15 : Int32) then
      zg (zin (x4 + (1 : Int32)) L) <|
      zg (zin (x4 + (2 : Int32)) L) <|
      zg (zin (x4 + (3 : Int32)) L) <|
      bd (fX7_shifts (xs (x4 + (1 : Int32)).toNatClampNeg) (xs (x4 + (2 : Int32)).toNatClampNeg) (xs (x4 + (3 : Int32)).toNatClampNeg) w) fun v111 w109 =>
      zg (zin (x4 + (1 : Int32)) L) <|
      zg (zin (x4 + (2 : Int32)) L) <|
      zg (zin (x4 + (3 : Int32)) L) <|
      bd (fX8_shifts (xs (x4 + (1 : Int32)).toNatClampNeg) (xs (x4 + (2 : Int32)).toNatClampNeg) (xs (x4 + (3 : Int32)).toNatClampNeg) w109) fun v114 w112 =>
      j2 w112
    else
    if ((xs x4.toNatClampNeg) &&& (63 : Int32)) = (16 : Int32) then
      zg (zin (x4 + (1 : Int32)) L) <|
      bd (fX7_clears (xs (x4 + (1 : Int32)).toNatClampNeg) w) fun v118 w116 =>
      zg (zin (x4 + (1 : Int32)) L) <|
      bd (fX8_clears (xs (x4 + (1 : Int32)).toNatClampNeg) w116) fun v121 w119 =>
      j2 w119
    else
    if ((xs x4.toNatClampNeg) &&& (63 : Int32)) = (17 : Int32) then
      zg (zin (x4 + (1 : Int32)) L) <|
      bd (fX7_run (xs (x4 + (1 : Int32)).toNatClampNeg) w) fun v125 w123 =>
      zg (zin (x4 + (1 : Int32)) L) <|
      bd (fX8_run (xs (x4 + (1 : Int32)).toNatClampNeg) w123) fun v128 w126 =>
      j2 w126
    else
    if ((xs x4.toNatClampNeg) &&& (63 : Int32)) = (18 : Int32) then
      zg (zin (x4 + (1 : Int32)) L) <|
      bd (fX7_sign (xs (x4 + (1 : Int32)).toNatClampNeg) w) fun v132 w130 =>
      zg (zin (x4 + (1 : Int32)) L) <|
      bd (fX8_sign (xs (x4 + (1 : Int32)).toNatClampNeg) w130) fun v135 w133 =>
      j2 w133
    else
    if ((xs x4.toNatClampNeg) &&& (63 : Int32)) = (19 : Int32) then
      zg (zin (x4 + (1 : Int32)) L) <|
      bd (fX7_end (xs (x4 + (1 : Int32)).toNatClampNeg) w) fun b139 w137 =>
      zg (zin (x4 + (1 : Int32)) L) <|
      bd (fX8_end (xs (x4 + (1 : Int32)).toNatClampNeg) w137) fun b142 w140 =>
      j2 w140
    else
    if ((xs x4.toNatClampNeg) &&& (63 : Int32)) = (20 : Int32) then
      zg (zin (x4 + (1 : Int32)) L) <|
      bd (fX7_sum (xs (x4 + (1 : Int32)).toNatClampNeg) w) fun v146 w144 =>
      zg (zin (x4 + (1 : Int32)) L) <|
      bd (fX8_sum (xs (x4 + (1 : Int32)).toNatClampNeg) w144) fun v149 w147 =>
      j2 w147
    else
    if ((xs x4.toNatClampNeg) &&& (63 : Int32)) = (21 : Int32) then
      zg (zin (x4 + (1 : Int32)) L) <|
      zg (zin (x4 + (2 : Int32)) L) <|
      bd (fL_item (xs (x4 + (1 : Int32)).toNatClampNeg) (xs (x4 + (2 : Int32)).toNatClampNeg) w) fun v151 w152 =>
      zg (zin (x4 + (1 : Int32)) L) <|
      zg (zin (x4 + (2 : Int32)) L) <|
      bd (fX8_item (xs (x4 + (1 : Int32)).toNatClampNeg) (xs (x4 + (2 : Int32)).toNatClampNeg) w152) fun v156 w154 =>
      j2 w154
    else
    if ((xs x4.toNatClampNeg) &&& (63 : Int32)) = (22 : Int32) then
      zg (zin (x4 + (1 : Int32)) L) <|
      zg (zin (x4 + (2 : Int32)) L) <|
      zg (zin (x4 + (3 : Int32)) L) <|
      bd (fX7_part (xs (x4 + (1 : Int32)).toNatClampNeg) (xs (x4 + (2 : Int32)).toNatClampNeg) (xs (x4 + (3 : Int32)).toNatClampNeg) w) fun v160 w158 =>
      zg (zin (x4 + (1 : Int32)) L) <|
      zg (zin (x4 + (2 : Int32)) L) <|
      zg (zin (x4 + (3 : Int32)) L) <|
      bd (fX8_part (xs (x4 + (1 : Int32)).toNatClampNeg) (xs (x4 + (2 : Int32)).toNatClampNeg) (xs (x4 + (3 : Int32)).toNatClampNeg) w158) fun v163 w161 =>
      j2 w161
    else
    if ((xs x4.toNatClampNeg) &&& (63 : Int32)) = (23 : Int32) then
      zg (zin (x4 + (1 : Int32)) L) <|
      zg (zin (x4 + (2 : Int32)) L) <|
      bd (fX7_windows (xs (x4 + (1 : Int32)).toNatClampNeg) (xs (x4 + (2 : Int32)).toNatClampNeg) w) fun v167 w165 =>
      zg (zin (x4 + (1 : Int32)) L) <|
      zg (zin (x4 + (2 : Int32)) L) <|
      bd (fX8_windows (xs (x4 + (1 : Int32)).toNatClampNeg) (xs (x4 + (2 : Int32)).toNatClampNeg) w165) fun v170 w168 =>
      j2 w168
    else
    if ((xs x4.toNatClampNeg) &&& (63 : Int32)) = (24 : Int32) then
      zg (zin (x4 + (1 : Int32)) L) <|
      zg (zin (x4 + (2 : Int32)) L) <|
      bd (fX7_first (xs (x4 + (1 : Int32)).toNatClampNeg) (xs (x4 + (2 : Int32)).toNatClampNeg) w) fun v174 w172 =>
      zg (zin (x4 + (1 : Int32)) L) <|
      zg (zin (x4 + (2 : Int32)) L) <|
      bd (fX8_first (xs (x4 + (1 : Int32)).toNatClampNeg) (xs (x4 + (2 : Int32)).toNatClampNeg) w172) fun v177 w175 =>
      j2 w175
    else
    if ((xs x4.toNatClampNeg) &&& (63 : Int32)) = (25 : Int32) then
      zg (zin (x4 + (1 : Int32)) L) <|
      zg (zin (x4 + (2 : Int32)) L) <|
      bd (fX7_longest (xs (x4 + (1 : Int32)).toNatClampNeg) (xs (x4 + (2 : Int32)).toNatClampNeg) w) fun v181 w179 =>
      zg (zin (x4 + (1 : Int32)) L) <|
      zg (zin (x4 + (2 : Int32)) L) <|
      bd (fX8_longest (xs (x4 + (1 : Int32)).toNatClampNeg) (xs (x4 + (2 : Int32)).toNatClampNeg) w179) fun v184 w182 =>
      j2 w182
    else
    if ((xs x4.toNatClampNeg) &&& (63 : Int32)) = (26 : Int32) then
      zg (zin (x4 + (1 : Int32)) L) <|
      zg (zin (x4 + (2 : Int32)) L) <|
      bd (fX7_greatest (xs (x4 + (1 : Int32)).toNatClampNeg) (xs (x4 + (2 : Int32)).toNatClampNeg) w) fun v188 w186 =>
      zg (zin (x4 + (1 : Int32)) L) <|
      zg (zin (x4 + (2 : Int32)) L) <|
      bd (fX8_greatest (xs (x4 + (1 : Int32)).toNatClampNeg) (xs (x4 + (2 : Int32)).toNatClampNeg) w186) fun v191 w189 =>
      j2 w189
    else
    if ((xs x4.toNatClampNeg) &&& (63 : Int32)) = (27 : Int32) then
      zg (zin (x4 + (1 : Int32)) L) <|
      zg (zin (x4 + (2 : Int32)) L) <|
      zg (zin (x4 + (3 : Int32)) L) <|
      bd (fX7_finds (xs (x4 + (1 : Int32)).toNatClampNeg) (xs (x4 + (2 : Int32)).toNatClampNeg) (xs (x4 + (3 : Int32)).toNatClampNeg) w) fun v195 w193 =>
      zg (zin (x4 + (1 : Int32)) L) <|
      zg (zin (x4 + (2 : Int32)) L) <|
      zg (zin (x4 + (3 : Int32)) L) <|
      bd (fX8_finds (xs (x4 + (1 : Int32)).toNatClampNeg) (xs (x4 + (2 : Int32)).toNatClampNeg) (xs (x4 + (3 : Int32)).toNatClampNeg) w193) fun v198 w196 =>
      j2 w196
    else
    if ((xs x4.toNatClampNeg) &&& (63 : Int32)) = (28 : Int32) then
      zg (zin (x4 + (1 : Int32)) L) <|
      bd (fX7_drains (xs (x4 + (1 : Int32)).toNatClampNeg) w) fun v202 w200 =>
      zg (zin (x4 + (1 : Int32)) L) <|
      bd (fX8_drains (xs (x4 + (1 : Int32)).toNatClampNeg) w200) fun v205 w203 =>
      j2 w203
    else
    if ((xs x4.toNatClampNeg) &&& (63 : Int32)) = (29 : Int32) then
      zg (zin (x4 + (1 : Int32)) L) <|
      bd (fX7_unlike (xs (x4 + (1 : Int32)).toNatClampNeg) w) fun v209 w207 =>
      zg (zin (x4 + (1 : Int32)) L) <|
      bd (fX8_unlike (xs (x4 + (1 : Int32)).toNatClampNeg) w207) fun v212 w210 =>
      j2 w210
    else
    if ((xs x4.toNatClampNeg) &&& (63 : Int32)) = (30 : Int32) then
      zg (zin (x4 + (1 : Int32)) L) <|
      zg (zin (x4 + (2 : Int32)) L) <|
      bd (fX7_same (xs (x4 + (1 : Int32)).toNatClampNeg) (xs (x4 + (2 : Int32)).toNatClampNeg) w) fun v216 w214 =>
      zg (zin (x4 + (1 : Int32)) L) <|
      zg (zin (x4 + (2 : Int32)) L) <|
      bd (fX8_same (xs (x4 + (1 : Int32)).toNatClampNeg) (xs (x4 + (2 : Int32)).toNatClampNeg) w214) fun v219 w217 =>
      j2 w217
    else
    if ((xs x4.toNatClampNeg) &&& (63 : Int32)) = (31 : Int32) then
      bd (fX7_shared w) fun v223 w221 =>
      bd (fX8_shared w221) fun v226 w224 =>
      j2 w224
    else
    if ((xs x4.toNatClampNeg) &&& (63 : Int32)) = (32 : Int32) then
      zg (zin (x4 + (1 : Int32)) L) <|
      zg (zin (x4 + (2 : Int32)) L) <|
      bd (fX7_would (xs (x4 + (1 : Int32)).toNatClampNeg) (xs (x4 + (2 : Int32)).toNatClampNeg) w) fun v230 w228 =>
      zg (zin (x4 + (1 : Int32)) L) <|
      zg (zin (x4 + (2 : Int32)) L) <|
      bd (fX8_would (xs (x4 + (1 : Int32)).toNatClampNeg) (xs (x4 + (2 : Int32)).toNatClampNeg) w228) fun v233 w231 =>
      j2 w231
    else
    if ((xs x4.toNatClampNeg) &&& (63 : Int32)) = (33 : Int32) then
      zg (zin (x4 + (1 : Int32)) L) <|
      zg (zin (x4 + (2 : Int32)) L) <|
      bd (fX7_dearest (xs (x4 + (1 : Int32)).toNatClampNeg) (xs (x4 + (2 : Int32)).toNatClampNeg) w) fun v237 w235 =>
      zg (zin (x4 + (1 : Int32)) L) <|
      zg (zin (x4 + (2 : Int32)) L) <|
      bd (fX8_dearest (xs (x4 + (1 : Int32)).toNatClampNeg) (xs (x4 + (2 : Int32)).toNatClampNeg) w235) fun v240 w238 =>
      if v237 = v240 then
        j2 w238
      else
      none
    else
    if ((xs x4.toNatClampNeg) &&& (63 : Int32)) = (34 : Int32) then
      zg (zin (x4 + (1 : Int32)) L) <|
      bd (fX7_count (xs (x4 + (1 : Int32)).toNatClampNeg) w) fun v245 w243 =>
      zg (zin (x4 + (1 : Int32)) L) <|
      bd (fX8_count (xs (x4 + (1 : Int32)).toNatClampNeg) w243) fun v248 w246 =>
      j2 w246
    else
    if ((xs x4.toNatClampNeg) &&& (63 : Int32)) = (35 : Int32) then
      zg (zin (x4 + (1 : Int32)) L) <|
      bd (fL_row (xs (x4 + (1 : Int32)).toNatClampNeg) w) fun v250 w251 =>
      zg (zin (x4 + (1 : Int32)) L) <|
      bd (fX8_row (xs (x4 + (1 : Int32)).toNatClampNeg) w251) fun v255 w253 =>
      j2 w253
    else
    j2 w
set_option maxHeartbeats 16000000 in
set_option maxRecDepth 100000 in
theorem lL_law {b L : Nat} {xs : Nat → Int32} (hL : L ≤ 2048) : ∀ (n k : Nat) (w : zW), 4 * k ≤ L + 3 → Tz ML_law (zLw b L xs k) (fL_law_L23 L xs n (nI (4 * k)) w) 23 [(0, .ref 94), (1, .ref 0), (2, .ref 74), (3, .ref 92), (4, .int (nI (4 * k)))] [] w := by
  intro n
  induction n with
  | zero => intro k w _; exact tz_eq (fL_law_L23.eq_1 _ _ _ _) tz_none
  | succ n ih =>
    intro k w hk
    refine tz_eq (fL_law_L23.eq_2 _ _ _ _ _) ?_
    refine tz_iload 4 rfl (zd DL_law_0 13 rfl) ?_
    refine tz_aload_n 0 rfl (zd DL_law_0 14 rfl) ?_
    refine tz_slen (zd DL_law_0 15 rfl) ?_
    refine tz_iconst (4 : Int32) zk_iconst_4 (zd DL_law_0 16 rfl) ?_
    refine tz_isub (zd DL_law_0 17 rfl) ?_
    refine tz_icmp_gt 1420 (zd DL_law_0 18 rfl) rfl (fun q1 => ?_) (fun q1 => ?_)
    · refine tz_iconst (1 : Int32) zk_iconst_1 (zd DL_law_15 1 rfl) ?_
      exact tz_lwret (zd DL_law_15 2 rfl)
    have hk2 := zlw_bd hL hk q1
    refine tz_aload_n 0 rfl (zd DL_law_0 19 rfl) ?_
    refine tz_iload 4 rfl (zd DL_law_0 20 rfl) ?_
    refine tz_sld (zd DL_law_0 21 rfl) ?_
    refine tz_bipush (63 : Int32) zk_bipush_63 (zd DL_law_0 22 rfl) ?_
    refine tz_iand (zd DL_law_0 23 rfl) ?_
    refine tz_jp (P := fun j => ∀ (w2 : zW), Tz ML_law (zLw b L xs (k + 1)) (j w2) 1414 [(0, .ref 94), (1, .ref 0), (2, .ref 74), (3, .ref 92), (4, .int (nI (4 * k)))] [] w2) ?_ (fun j2 hj2 => ?_)
    · intro w2
      refine tz_iinc 4 (4 : Int32) [(4, .int ((nI (4 * k)) + (4 : Int32))), (0, .ref 94), (1, .ref 0), (2, .ref 74), (3, .ref 92)] rfl zk_iconst_4 (Nat.le_of_ble_eq_true rfl) rfl (zd DL_law_14 59 rfl) ?_
      refine tz_goto 23 (zd DL_law_15 0 rfl) rfl ?_
      refine tz_lv (lv2 := [(0, .ref 94), (1, .ref 0), (2, .ref 74), (3, .ref 92), (4, .int ((nI (4 * k)) + (4 : Int32)))]) [1, 2, 3, 4, 0] rfl ?_
      rw [zlw_nx k]
      exact ih (k + 1) w2 (by omega)
    refine tz_case (fun q3 => ?_) (fun q3 => ?_)
    · refine tz_tin (0) 196 (by rw [q3]; decide) (zd DL_law_0 24 rfl) (by decide) (by decide) rfl rfl ?_
      refine tz_lwk ?_
      refine tz_aload_n 1 rfl (zd DL_law_0 25 rfl) ?_
      refine tz_aload_n 0 rfl (zd DL_law_0 26 rfl) ?_
      refine tz_iload 4 rfl (zd DL_law_0 27 rfl) ?_
      refine tz_iconst (1 : Int32) zk_iconst_1 (zd DL_law_0 28 rfl) ?_
      refine tz_iadd (zd DL_law_0 29 rfl) ?_
      refine tz_sld (zd DL_law_0 30 rfl) ?_
      refine tz_cV_i kz7 (zs_0) rfl (rest := []) (YX7_rule) wk_218 (tX7_rule (xs ((nI (4 * k)) + (1 : Int32)).toNatClampNeg) w) rfl rfl (Nat.le_of_ble_eq_true rfl) ⟨Nat.le_of_ble_eq_true rfl, Nat.le_of_ble_eq_true rfl⟩ (zd DL_law_0 31 rfl) (fun v6 w4 e5 => ?_)
      refine tz_popi (zd DL_law_0 32 rfl) ?_
      refine tz_aload_n 2 rfl (zd DL_law_0 33 rfl) ?_
      refine tz_aload_n 0 rfl (zd DL_law_0 34 rfl) ?_
      refine tz_iload 4 rfl (zd DL_law_0 35 rfl) ?_
      refine tz_iconst (1 : Int32) zk_iconst_1 (zd DL_law_0 36 rfl) ?_
      refine tz_iadd (zd DL_law_0 37 rfl) ?_
      refine tz_sld (zd DL_law_0 38 rfl) ?_
      refine tz_cV_i kz8 (zs_74) rfl (rest := []) (YX8_rule) wk_1029 (tX8_rule (xs ((nI (4 * k)) + (1 : Int32)).toNatClampNeg) w4) rfl rfl (Nat.le_of_ble_eq_true rfl) ⟨Nat.le_of_ble_eq_true rfl, Nat.le_of_ble_eq_true rfl⟩ (zd DL_law_0 39 rfl) (fun v9 w7 e8 => ?_)
      refine tz_popi (zd DL_law_0 40 rfl) ?_
      refine tz_goto 1414 (zd DL_law_0 41 rfl) rfl ?_
      exact hj2 w7
    refine tz_case (fun q10 => ?_) (fun q10 => ?_)
    · refine tz_tin (1) 221 (by rw [q10]; decide) (zd DL_law_0 24 rfl) (by decide) (by decide) rfl rfl ?_
      refine tz_lwk ?_
      refine tz_aload_n 1 rfl (zd DL_law_0 42 rfl) ?_
      refine tz_cV_i kz7 (zs_0) rfl (rest := []) (YX7_table) wk_340 (tX7_table w) rfl rfl (Nat.le_of_ble_eq_true rfl) ⟨Nat.le_of_ble_eq_true rfl, Nat.le_of_ble_eq_true rfl⟩ (zd DL_law_0 43 rfl) (fun v13 w11 e12 => ?_)
      refine tz_popi (zd DL_law_0 44 rfl) ?_
      refine tz_aload_n 2 rfl (zd DL_law_0 45 rfl) ?_
      refine tz_cV_i kz8 (zs_74) rfl (rest := []) (YX8_table) wk_1065 (tX8_table w11) rfl rfl (Nat.le_of_ble_eq_true rfl) ⟨Nat.le_of_ble_eq_true rfl, Nat.le_of_ble_eq_true rfl⟩ (zd DL_law_0 46 rfl) (fun v16 w14 e15 => ?_)
      refine tz_popi (zd DL_law_0 47 rfl) ?_
      refine tz_goto 1414 (zd DL_law_0 48 rfl) rfl ?_
      exact hj2 w14
    refine tz_case (fun q17 => ?_) (fun q17 => ?_)
    · refine tz_tin (2) 234 (by rw [q17]; decide) (zd DL_law_0 24 rfl) (by decide) (by decide) rfl rfl ?_
      refine tz_lwk ?_
      refine tz_aload_n 1 rfl (zd DL_law_0 49 rfl) ?_
      refine tz_aload_n 0 rfl (zd DL_law_0 50 rfl) ?_
      refine tz_iload 4 rfl (zd DL_law_0 51 rfl) ?_
      refine tz_iconst (1 : Int32) zk_iconst_1 (zd DL_law_0 52 rfl) ?_
      refine tz_iadd (zd DL_law_0 53 rfl) ?_
      refine tz_sld (zd DL_law_0 54 rfl) ?_
      refine tz_aload_n 0 rfl (zd DL_law_0 55 rfl) ?_
      refine tz_iload 4 rfl (zd DL_law_0 56 rfl) ?_
      refine tz_iconst (2 : Int32) zk_iconst_2 (zd DL_law_0 57 rfl) ?_
      refine tz_iadd (zd DL_law_0 58 rfl) ?_
      refine tz_sld (zd DL_law_0 59 rfl) ?_
      refine tz_cV_i kz7 (zs_0) rfl (rest := []) (YX7_commutes) wk_404 (tX7_commutes (xs ((nI (4 * k)) + (1 : Int32)).toNatClampNeg) (xs ((nI (4 * k)) + (2 : Int32)).toNatClampNeg) w) rfl rfl (Nat.le_of_ble_eq_true rfl) ⟨Nat.le_of_ble_eq_true rfl, Nat.le_of_ble_eq_true rfl⟩ (zd DL_law_1 0 rfl) (fun v20 w18 e19 => ?_)
      refine tz_popi (zd DL_law_1 1 rfl) ?_
      refine tz_aload_n 2 rfl (zd DL_law_1 2 rfl) ?_
      refine tz_aload_n 0 rfl (zd DL_law_1 3 rfl) ?_
      refine tz_iload 4 rfl (zd DL_law_1 4 rfl) ?_
      refine tz_iconst (1 : Int32) zk_iconst_1 (zd DL_law_1 5 rfl) ?_
      refine tz_iadd (zd DL_law_1 6 rfl) ?_
      refine tz_sld (zd DL_law_1 7 rfl) ?_
      refine tz_aload_n 0 rfl (zd DL_law_1 8 rfl) ?_
      refine tz_iload 4 rfl (zd DL_law_1 9 rfl) ?_
      refine tz_iconst (2 : Int32) zk_iconst_2 (zd DL_law_1 10 rfl) ?_
      refine tz_iadd (zd DL_law_1 11 rfl) ?_
      refine tz_sld (zd DL_law_1 12 rfl) ?_
      refine tz_cV_i kz8 (zs_74) rfl (rest := []) (YX8_commutes) wk_954 (tX8_commutes (xs ((nI (4 * k)) + (1 : Int32)).toNatClampNeg) (xs ((nI (4 * k)) + (2 : Int32)).toNatClampNeg) w18) rfl rfl (Nat.le_of_ble_eq_true rfl) ⟨Nat.le_of_ble_eq_true rfl, Nat.le_of_ble_eq_true rfl⟩ (zd DL_law_1 13 rfl) (fun v23 w21 e22 => ?_)
      refine tz_popi (zd DL_law_1 14 rfl) ?_
      refine tz_goto 1414 (zd DL_law_1 15 rfl) rfl ?_
      exact hj2 w21
    refine tz_case (fun q24 => ?_) (fun q24 => ?_)
    · refine tz_tin (3) 271 (by rw [q24]; decide) (zd DL_law_0 24 rfl) (by decide) (by decide) rfl rfl ?_
      refine tz_lwk ?_
      refine tz_aload_n 1 rfl (zd DL_law_1 16 rfl) ?_
      refine tz_aload_n 0 rfl (zd DL_law_1 17 rfl) ?_
      refine tz_iload 4 rfl (zd DL_law_1 18 rfl) ?_
      refine tz_iconst (1 : Int32) zk_iconst_1 (zd DL_law_1 19 rfl) ?_
      refine tz_iadd (zd DL_law_1 20 rfl) ?_
      refine tz_sld (zd DL_law_1 21 rfl) ?_
      refine tz_aload_n 0 rfl (zd DL_law_1 22 rfl) ?_
      refine tz_iload 4 rfl (zd DL_law_1 23 rfl) ?_
      refine tz_iconst (2 : Int32) zk_iconst_2 (zd DL_law_1 24 rfl) ?_
      refine tz_iadd (zd DL_law_1 25 rfl) ?_
      refine tz_sld (zd DL_law_1 26 rfl) ?_
      refine tz_cV_i kz7 (zs_0) rfl (rest := []) (YX7_powers) wk_430 (tX7_powers (xs ((nI (4 * k)) + (1 : Int32)).toNatClampNeg) (xs ((nI (4 * k)) + (2 : Int32)).toNatClampNeg) w) rfl rfl (Nat.le_of_ble_eq_true rfl) ⟨Nat.le_of_ble_eq_true rfl, Nat.le_of_ble_eq_true rfl⟩ (zd DL_law_1 27 rfl) (fun v27 w25 e26 => ?_)
      refine tz_popi (zd DL_law_1 28 rfl) ?_
      refine tz_aload_n 2 rfl (zd DL_law_1 29 rfl) ?_
      refine tz_aload_n 0 rfl (zd DL_law_1 30 rfl) ?_
      refine tz_iload 4 rfl (zd DL_law_1 31 rfl) ?_
      refine tz_iconst (1 : Int32) zk_iconst_1 (zd DL_law_1 32 rfl) ?_
      refine tz_iadd (zd DL_law_1 33 rfl) ?_
      refine tz_sld (zd DL_law_1 34 rfl) ?_
      refine tz_aload_n 0 rfl (zd DL_law_1 35 rfl) ?_
      refine tz_iload 4 rfl (zd DL_law_1 36 rfl) ?_
      refine tz_iconst (2 : Int32) zk_iconst_2 (zd DL_law_1 37 rfl) ?_
      refine tz_iadd (zd DL_law_1 38 rfl) ?_
      refine tz_sld (zd DL_law_1 39 rfl) ?_
      refine tz_cV_i kz8 (zs_74) rfl (rest := []) (YX8_powers) wk_1006 (tX8_powers (xs ((nI (4 * k)) + (1 : Int32)).toNatClampNeg) (xs ((nI (4 * k)) + (2 : Int32)).toNatClampNeg) w25) rfl rfl (Nat.le_of_ble_eq_true rfl) ⟨Nat.le_of_ble_eq_true rfl, Nat.le_of_ble_eq_true rfl⟩ (zd DL_law_1 40 rfl) (fun v30 w28 e29 => ?_)
      refine tz_popi (zd DL_law_1 41 rfl) ?_
      refine tz_goto 1414 (zd DL_law_1 42 rfl) rfl ?_
      exact hj2 w28
    refine tz_case (fun q31 => ?_) (fun q31 => ?_)
    · refine tz_tin (4) 308 (by rw [q31]; decide) (zd DL_law_0 24 rfl) (by decide) (by decide) rfl rfl ?_
      refine tz_lwk ?_
      refine tz_aload_n 1 rfl (zd DL_law_1 43 rfl) ?_
      refine tz_aload_n 0 rfl (zd DL_law_1 44 rfl) ?_
      refine tz_iload 4 rfl (zd DL_law_1 45 rfl) ?_
      refine tz_iconst (1 : Int32) zk_iconst_1 (zd DL_law_1 46 rfl) ?_
      refine tz_iadd (zd DL_law_1 47 rfl) ?_
      refine tz_sld (zd DL_law_1 48 rfl) ?_
      refine tz_cV_i kz7 (zs_0) rfl (rest := []) (YX7_order) wk_447 (tX7_order (xs ((nI (4 * k)) + (1 : Int32)).toNatClampNeg) w) rfl rfl (Nat.le_of_ble_eq_true rfl) ⟨Nat.le_of_ble_eq_true rfl, Nat.le_of_ble_eq_true rfl⟩ (zd DL_law_1 49 rfl) (fun v34 w32 e33 => ?_)
      refine tz_popi (zd DL_law_1 50 rfl) ?_
      refine tz_aload_n 2 rfl (zd DL_law_1 51 rfl) ?_
      refine tz_aload_n 0 rfl (zd DL_law_1 52 rfl) ?_
      refine tz_iload 4 rfl (zd DL_law_1 53 rfl) ?_
      refine tz_iconst (1 : Int32) zk_iconst_1 (zd DL_law_1 54 rfl) ?_
      refine tz_iadd (zd DL_law_1 55 rfl) ?_
      refine tz_sld (zd DL_law_1 56 rfl) ?_
      refine tz_cV_i kz8 (zs_74) rfl (rest := []) (YX8_order) wk_1021 (tX8_order (xs ((nI (4 * k)) + (1 : Int32)).toNatClampNeg) w32) rfl rfl (Nat.le_of_ble_eq_true rfl) ⟨Nat.le_of_ble_eq_true rfl, Nat.le_of_ble_eq_true rfl⟩ (zd DL_law_1 57 rfl) (fun v37 w35 e36 => ?_)
      refine tz_popi (zd DL_law_1 58 rfl) ?_
      refine tz_goto 1414 (zd DL_law_1 59 rfl) rfl ?_
      exact hj2 w35
    refine tz_case (fun q38 => ?_) (fun q38 => ?_)
    · refine tz_tin (5) 333 (by rw [q38]; decide) (zd DL_law_0 24 rfl) (by decide) (by decide) rfl rfl ?_
      refine tz_lwk ?_
      refine tz_aload_n 1 rfl (zd DL_law_2 0 rfl) ?_
      refine tz_aload_n 0 rfl (zd DL_law_2 1 rfl) ?_
      refine tz_iload 4 rfl (zd DL_law_2 2 rfl) ?_
      refine tz_iconst (1 : Int32) zk_iconst_1 (zd DL_law_2 3 rfl) ?_
      refine tz_iadd (zd DL_law_2 4 rfl) ?_
      refine tz_sld (zd DL_law_2 5 rfl) ?_
      refine tz_cV_i kz7 (zs_0) rfl (rest := []) (YX7_undoes) wk_466 (tX7_undoes (xs ((nI (4 * k)) + (1 : Int32)).toNatClampNeg) w) rfl rfl (Nat.le_of_ble_eq_true rfl) ⟨Nat.le_of_ble_eq_true rfl, Nat.le_of_ble_eq_true rfl⟩ (zd DL_law_2 6 rfl) (fun v41 w39 e40 => ?_)
      refine tz_popi (zd DL_law_2 7 rfl) ?_
      refine tz_aload_n 2 rfl (zd DL_law_2 8 rfl) ?_
      refine tz_aload_n 0 rfl (zd DL_law_2 9 rfl) ?_
      refine tz_iload 4 rfl (zd DL_law_2 10 rfl) ?_
      refine tz_iconst (1 : Int32) zk_iconst_1 (zd DL_law_2 11 rfl) ?_
      refine tz_iadd (zd DL_law_2 12 rfl) ?_
      refine tz_sld (zd DL_law_2 13 rfl) ?_
      refine tz_cV_i kz8 (zs_74) rfl (rest := []) (YX8_undoes) wk_1025 (tX8_undoes (xs ((nI (4 * k)) + (1 : Int32)).toNatClampNeg) w39) rfl rfl (Nat.le_of_ble_eq_true rfl) ⟨Nat.le_of_ble_eq_true rfl, Nat.le_of_ble_eq_true rfl⟩ (zd DL_law_2 14 rfl) (fun v44 w42 e43 => ?_)
      refine tz_popi (zd DL_law_2 15 rfl) ?_
      refine tz_goto 1414 (zd DL_law_2 16 rfl) rfl ?_
      exact hj2 w42
    refine tz_case (fun q45 => ?_) (fun q45 => ?_)
    · refine tz_tin (6) 358 (by rw [q45]; decide) (zd DL_law_0 24 rfl) (by decide) (by decide) rfl rfl ?_
      refine tz_lwk ?_
      refine tz_aload_n 1 rfl (zd DL_law_2 17 rfl) ?_
      refine tz_aload_n 0 rfl (zd DL_law_2 18 rfl) ?_
      refine tz_iload 4 rfl (zd DL_law_2 19 rfl) ?_
      refine tz_iconst (1 : Int32) zk_iconst_1 (zd DL_law_2 20 rfl) ?_
      refine tz_iadd (zd DL_law_2 21 rfl) ?_
      refine tz_sld (zd DL_law_2 22 rfl) ?_
      refine tz_aload_n 0 rfl (zd DL_law_2 23 rfl) ?_
      refine tz_iload 4 rfl (zd DL_law_2 24 rfl) ?_
      refine tz_iconst (2 : Int32) zk_iconst_2 (zd DL_law_2 25 rfl) ?_
      refine tz_iadd (zd DL_law_2 26 rfl) ?_
      refine tz_sld (zd DL_law_2 27 rfl) ?_
      refine tz_aload_n 0 rfl (zd DL_law_2 28 rfl) ?_
      refine tz_iload 4 rfl (zd DL_law_2 29 rfl) ?_
      refine tz_iconst (3 : Int32) zk_iconst_3 (zd DL_law_2 30 rfl) ?_
      refine tz_iadd (zd DL_law_2 31 rfl) ?_
      refine tz_sld (zd DL_law_2 32 rfl) ?_
      refine tz_cV_i kz7 (zs_0) rfl (rest := []) (YX7_puts) wk_479 (tX7_puts (xs ((nI (4 * k)) + (1 : Int32)).toNatClampNeg) (xs ((nI (4 * k)) + (2 : Int32)).toNatClampNeg) (xs ((nI (4 * k)) + (3 : Int32)).toNatClampNeg) w) rfl rfl (Nat.le_of_ble_eq_true rfl) ⟨Nat.le_of_ble_eq_true rfl, Nat.le_of_ble_eq_true rfl⟩ (zd DL_law_2 33 rfl) (fun v48 w46 e47 => ?_)
      refine tz_popi (zd DL_law_2 34 rfl) ?_
      refine tz_aload_n 2 rfl (zd DL_law_2 35 rfl) ?_
      refine tz_aload_n 0 rfl (zd DL_law_2 36 rfl) ?_
      refine tz_iload 4 rfl (zd DL_law_2 37 rfl) ?_
      refine tz_iconst (1 : Int32) zk_iconst_1 (zd DL_law_2 38 rfl) ?_
      refine tz_iadd (zd DL_law_2 39 rfl) ?_
      refine tz_sld (zd DL_law_2 40 rfl) ?_
      refine tz_aload_n 0 rfl (zd DL_law_2 41 rfl) ?_
      refine tz_iload 4 rfl (zd DL_law_2 42 rfl) ?_
      refine tz_iconst (2 : Int32) zk_iconst_2 (zd DL_law_2 43 rfl) ?_
      refine tz_iadd (zd DL_law_2 44 rfl) ?_
      refine tz_sld (zd DL_law_2 45 rfl) ?_
      refine tz_aload_n 0 rfl (zd DL_law_2 46 rfl) ?_
      refine tz_iload 4 rfl (zd DL_law_2 47 rfl) ?_
      refine tz_iconst (3 : Int32) zk_iconst_3 (zd DL_law_2 48 rfl) ?_
      refine tz_iadd (zd DL_law_2 49 rfl) ?_
      refine tz_sld (zd DL_law_2 50 rfl) ?_
      refine tz_cV_i kz8 (zs_74) rfl (rest := []) (YX8_puts) wk_1100 (tX8_puts (xs ((nI (4 * k)) + (1 : Int32)).toNatClampNeg) (xs ((nI (4 * k)) + (2 : Int32)).toNatClampNeg) (xs ((nI (4 * k)) + (3 : Int32)).toNatClampNeg) w46) rfl rfl (Nat.le_of_ble_eq_true rfl) ⟨Nat.le_of_ble_eq_true rfl, Nat.le_of_ble_eq_true rfl⟩ (zd DL_law_2 51 rfl) (fun v51 w49 e50 => ?_)
      refine tz_popi (zd DL_law_2 52 rfl) ?_
      refine tz_goto 1414 (zd DL_law_2 53 rfl) rfl ?_
      exact hj2 w49
    refine tz_case (fun q52 => ?_) (fun q52 => ?_)
    · refine tz_tin (7) 407 (by rw [q52]; decide) (zd DL_law_0 24 rfl) (by decide) (by decide) rfl rfl ?_
      refine tz_lwk ?_
      refine tz_aload_n 1 rfl (zd DL_law_2 54 rfl) ?_
      refine tz_aload_n 0 rfl (zd DL_law_2 55 rfl) ?_
      refine tz_iload 4 rfl (zd DL_law_2 56 rfl) ?_
      refine tz_iconst (1 : Int32) zk_iconst_1 (zd DL_law_2 57 rfl) ?_
      refine tz_iadd (zd DL_law_2 58 rfl) ?_
      refine tz_sld (zd DL_law_2 59 rfl) ?_
      refine tz_aload_n 0 rfl (zd DL_law_3 0 rfl) ?_
      refine tz_iload 4 rfl (zd DL_law_3 1 rfl) ?_
      refine tz_iconst (2 : Int32) zk_iconst_2 (zd DL_law_3 2 rfl) ?_
      refine tz_iadd (zd DL_law_3 3 rfl) ?_
      refine tz_sld (zd DL_law_3 4 rfl) ?_
      refine tz_cV_i kz7 (zs_0) rfl (rest := []) (YX7_takes) wk_492 (tX7_takes (xs ((nI (4 * k)) + (1 : Int32)).toNatClampNeg) (xs ((nI (4 * k)) + (2 : Int32)).toNatClampNeg) w) rfl rfl (Nat.le_of_ble_eq_true rfl) ⟨Nat.le_of_ble_eq_true rfl, Nat.le_of_ble_eq_true rfl⟩ (zd DL_law_3 5 rfl) (fun v55 w53 e54 => ?_)
      refine tz_popi (zd DL_law_3 6 rfl) ?_
      refine tz_aload_n 2 rfl (zd DL_law_3 7 rfl) ?_
      refine tz_aload_n 0 rfl (zd DL_law_3 8 rfl) ?_
      refine tz_iload 4 rfl (zd DL_law_3 9 rfl) ?_
      refine tz_iconst (1 : Int32) zk_iconst_1 (zd DL_law_3 10 rfl) ?_
      refine tz_iadd (zd DL_law_3 11 rfl) ?_
      refine tz_sld (zd DL_law_3 12 rfl) ?_
      refine tz_aload_n 0 rfl (zd DL_law_3 13 rfl) ?_
      refine tz_iload 4 rfl (zd DL_law_3 14 rfl) ?_
      refine tz_iconst (2 : Int32) zk_iconst_2 (zd DL_law_3 15 rfl) ?_
      refine tz_iadd (zd DL_law_3 16 rfl) ?_
      refine tz_sld (zd DL_law_3 17 rfl) ?_
      refine tz_cV_i kz8 (zs_74) rfl (rest := []) (YX8_takes) wk_1111 (tX8_takes (xs ((nI (4 * k)) + (1 : Int32)).toNatClampNeg) (xs ((nI (4 * k)) + (2 : Int32)).toNatClampNeg) w53) rfl rfl (Nat.le_of_ble_eq_true rfl) ⟨Nat.le_of_ble_eq_true rfl, Nat.le_of_ble_eq_true rfl⟩ (zd DL_law_3 18 rfl) (fun v58 w56 e57 => ?_)
      refine tz_popi (zd DL_law_3 19 rfl) ?_
      refine tz_goto 1414 (zd DL_law_3 20 rfl) rfl ?_
      exact hj2 w56
    refine tz_case (fun q59 => ?_) (fun q59 => ?_)
    · refine tz_tin (8) 444 (by rw [q59]; decide) (zd DL_law_0 24 rfl) (by decide) (by decide) rfl rfl ?_
      refine tz_lwk ?_
      refine tz_aload_n 1 rfl (zd DL_law_3 21 rfl) ?_
      refine tz_aload_n 0 rfl (zd DL_law_3 22 rfl) ?_
      refine tz_iload 4 rfl (zd DL_law_3 23 rfl) ?_
      refine tz_iconst (1 : Int32) zk_iconst_1 (zd DL_law_3 24 rfl) ?_
      refine tz_iadd (zd DL_law_3 25 rfl) ?_
      refine tz_sld (zd DL_law_3 26 rfl) ?_
      refine tz_aload_n 0 rfl (zd DL_law_3 27 rfl) ?_
      refine tz_iload 4 rfl (zd DL_law_3 28 rfl) ?_
      refine tz_iconst (2 : Int32) zk_iconst_2 (zd DL_law_3 29 rfl) ?_
      refine tz_iadd (zd DL_law_3 30 rfl) ?_
      refine tz_sld (zd DL_law_3 31 rfl) ?_
      refine tz_cV_i kz7 (zs_0) rfl (rest := []) (YX7_copies) wk_500 (tX7_copies (xs ((nI (4 * k)) + (1 : Int32)).toNatClampNeg) (xs ((nI (4 * k)) + (2 : Int32)).toNatClampNeg) w) rfl rfl (Nat.le_of_ble_eq_true rfl) ⟨Nat.le_of_ble_eq_true rfl, Nat.le_of_ble_eq_true rfl⟩ (zd DL_law_3 32 rfl) (fun v62 w60 e61 => ?_)
      refine tz_popi (zd DL_law_3 33 rfl) ?_
      refine tz_aload_n 2 rfl (zd DL_law_3 34 rfl) ?_
      refine tz_aload_n 0 rfl (zd DL_law_3 35 rfl) ?_
      refine tz_iload 4 rfl (zd DL_law_3 36 rfl) ?_
      refine tz_iconst (1 : Int32) zk_iconst_1 (zd DL_law_3 37 rfl) ?_
      refine tz_iadd (zd DL_law_3 38 rfl) ?_
      refine tz_sld (zd DL_law_3 39 rfl) ?_
      refine tz_aload_n 0 rfl (zd DL_law_3 40 rfl) ?_
      refine tz_iload 4 rfl (zd DL_law_3 41 rfl) ?_
      refine tz_iconst (2 : Int32) zk_iconst_2 (zd DL_law_3 42 rfl) ?_
      refine tz_iadd (zd DL_law_3 43 rfl) ?_
      refine tz_sld (zd DL_law_3 44 rfl) ?_
      refine tz_cV_i kz8 (zs_74) rfl (rest := []) (YX8_copies) wk_1123 (tX8_copies (xs ((nI (4 * k)) + (1 : Int32)).toNatClampNeg) (xs ((nI (4 * k)) + (2 : Int32)).toNatClampNeg) w60) rfl rfl (Nat.le_of_ble_eq_true rfl) ⟨Nat.le_of_ble_eq_true rfl, Nat.le_of_ble_eq_true rfl⟩ (zd DL_law_3 45 rfl) (fun v65 w63 e64 => ?_)
      refine tz_popi (zd DL_law_3 46 rfl) ?_
      refine tz_goto 1414 (zd DL_law_3 47 rfl) rfl ?_
      exact hj2 w63
    refine tz_case (fun q66 => ?_) (fun q66 => ?_)
    · refine tz_tin (9) 481 (by rw [q66]; decide) (zd DL_law_0 24 rfl) (by decide) (by decide) rfl rfl ?_
      refine tz_lwk ?_
      refine tz_aload_n 1 rfl (zd DL_law_3 48 rfl) ?_
      refine tz_aload_n 0 rfl (zd DL_law_3 49 rfl) ?_
      refine tz_iload 4 rfl (zd DL_law_3 50 rfl) ?_
      refine tz_iconst (1 : Int32) zk_iconst_1 (zd DL_law_3 51 rfl) ?_
      refine tz_iadd (zd DL_law_3 52 rfl) ?_
      refine tz_sld (zd DL_law_3 53 rfl) ?_
      refine tz_aload_n 0 rfl (zd DL_law_3 54 rfl) ?_
      refine tz_iload 4 rfl (zd DL_law_3 55 rfl) ?_
      refine tz_iconst (2 : Int32) zk_iconst_2 (zd DL_law_3 56 rfl) ?_
      refine tz_iadd (zd DL_law_3 57 rfl) ?_
      refine tz_sld (zd DL_law_3 58 rfl) ?_
      refine tz_cV_i kz7 (zs_0) rfl (rest := []) (YX7_joins) wk_515 (tX7_joins (xs ((nI (4 * k)) + (1 : Int32)).toNatClampNeg) (xs ((nI (4 * k)) + (2 : Int32)).toNatClampNeg) w) rfl rfl (Nat.le_of_ble_eq_true rfl) ⟨Nat.le_of_ble_eq_true rfl, Nat.le_of_ble_eq_true rfl⟩ (zd DL_law_3 59 rfl) (fun v69 w67 e68 => ?_)
      refine tz_popi (zd DL_law_4 0 rfl) ?_
      refine tz_aload_n 2 rfl (zd DL_law_4 1 rfl) ?_
      refine tz_aload_n 0 rfl (zd DL_law_4 2 rfl) ?_
      refine tz_iload 4 rfl (zd DL_law_4 3 rfl) ?_
      refine tz_iconst (1 : Int32) zk_iconst_1 (zd DL_law_4 4 rfl) ?_
      refine tz_iadd (zd DL_law_4 5 rfl) ?_
      refine tz_sld (zd DL_law_4 6 rfl) ?_
      refine tz_aload_n 0 rfl (zd DL_law_4 7 rfl) ?_
      refine tz_iload 4 rfl (zd DL_law_4 8 rfl) ?_
      refine tz_iconst (2 : Int32) zk_iconst_2 (zd DL_law_4 9 rfl) ?_
      refine tz_iadd (zd DL_law_4 10 rfl) ?_
      refine tz_sld (zd DL_law_4 11 rfl) ?_
      refine tz_cV_i kz8 (zs_74) rfl (rest := []) (YX8_joins) wk_1131 (tX8_joins (xs ((nI (4 * k)) + (1 : Int32)).toNatClampNeg) (xs ((nI (4 * k)) + (2 : Int32)).toNatClampNeg) w67) rfl rfl (Nat.le_of_ble_eq_true rfl) ⟨Nat.le_of_ble_eq_true rfl, Nat.le_of_ble_eq_true rfl⟩ (zd DL_law_4 12 rfl) (fun v72 w70 e71 => ?_)
      refine tz_popi (zd DL_law_4 13 rfl) ?_
      refine tz_goto 1414 (zd DL_law_4 14 rfl) rfl ?_
      exact hj2 w70
    refine tz_case (fun q73 => ?_) (fun q73 => ?_)
    · refine tz_tin (10) 518 (by rw [q73]; decide) (zd DL_law_0 24 rfl) (by decide) (by decide) rfl rfl ?_
      refine tz_lwk ?_
      refine tz_aload_n 1 rfl (zd DL_law_4 15 rfl) ?_
      refine tz_aload_n 0 rfl (zd DL_law_4 16 rfl) ?_
      refine tz_iload 4 rfl (zd DL_law_4 17 rfl) ?_
      refine tz_iconst (1 : Int32) zk_iconst_1 (zd DL_law_4 18 rfl) ?_
      refine tz_iadd (zd DL_law_4 19 rfl) ?_
      refine tz_sld (zd DL_law_4 20 rfl) ?_
      refine tz_aload_n 0 rfl (zd DL_law_4 21 rfl) ?_
      refine tz_iload 4 rfl (zd DL_law_4 22 rfl) ?_
      refine tz_iconst (2 : Int32) zk_iconst_2 (zd DL_law_4 23 rfl) ?_
      refine tz_iadd (zd DL_law_4 24 rfl) ?_
      refine tz_sld (zd DL_law_4 25 rfl) ?_
      refine tz_aload_n 0 rfl (zd DL_law_4 26 rfl) ?_
      refine tz_iload 4 rfl (zd DL_law_4 27 rfl) ?_
      refine tz_iconst (3 : Int32) zk_iconst_3 (zd DL_law_4 28 rfl) ?_
      refine tz_iadd (zd DL_law_4 29 rfl) ?_
      refine tz_sld (zd DL_law_4 30 rfl) ?_
      refine tz_cV_i kz7 (zs_0) rfl (rest := []) (YX7_parts) wk_519 (tX7_parts (xs ((nI (4 * k)) + (1 : Int32)).toNatClampNeg) (xs ((nI (4 * k)) + (2 : Int32)).toNatClampNeg) (xs ((nI (4 * k)) + (3 : Int32)).toNatClampNeg) w) rfl rfl (Nat.le_of_ble_eq_true rfl) ⟨Nat.le_of_ble_eq_true rfl, Nat.le_of_ble_eq_true rfl⟩ (zd DL_law_4 31 rfl) (fun v76 w74 e75 => ?_)
      refine tz_popi (zd DL_law_4 32 rfl) ?_
      refine tz_aload_n 2 rfl (zd DL_law_4 33 rfl) ?_
      refine tz_aload_n 0 rfl (zd DL_law_4 34 rfl) ?_
      refine tz_iload 4 rfl (zd DL_law_4 35 rfl) ?_
      refine tz_iconst (1 : Int32) zk_iconst_1 (zd DL_law_4 36 rfl) ?_
      refine tz_iadd (zd DL_law_4 37 rfl) ?_
      refine tz_sld (zd DL_law_4 38 rfl) ?_
      refine tz_aload_n 0 rfl (zd DL_law_4 39 rfl) ?_
      refine tz_iload 4 rfl (zd DL_law_4 40 rfl) ?_
      refine tz_iconst (2 : Int32) zk_iconst_2 (zd DL_law_4 41 rfl) ?_
      refine tz_iadd (zd DL_law_4 42 rfl) ?_
      refine tz_sld (zd DL_law_4 43 rfl) ?_
      refine tz_aload_n 0 rfl (zd DL_law_4 44 rfl) ?_
      refine tz_iload 4 rfl (zd DL_law_4 45 rfl) ?_
      refine tz_iconst (3 : Int32) zk_iconst_3 (zd DL_law_4 46 rfl) ?_
      refine tz_iadd (zd DL_law_4 47 rfl) ?_
      refine tz_sld (zd DL_law_4 48 rfl) ?_
      refine tz_cV_i kz8 (zs_74) rfl (rest := []) (YX8_parts) wk_1135 (tX8_parts (xs ((nI (4 * k)) + (1 : Int32)).toNatClampNeg) (xs ((nI (4 * k)) + (2 : Int32)).toNatClampNeg) (xs ((nI (4 * k)) + (3 : Int32)).toNatClampNeg) w74) rfl rfl (Nat.le_of_ble_eq_true rfl) ⟨Nat.le_of_ble_eq_true rfl, Nat.le_of_ble_eq_true rfl⟩ (zd DL_law_4 49 rfl) (fun v79 w77 e78 => ?_)
      refine tz_popi (zd DL_law_4 50 rfl) ?_
      refine tz_goto 1414 (zd DL_law_4 51 rfl) rfl ?_
      exact hj2 w77
    refine tz_case (fun q80 => ?_) (fun q80 => ?_)
    · refine tz_tin (11) 567 (by rw [q80]; decide) (zd DL_law_0 24 rfl) (by decide) (by decide) rfl rfl ?_
      refine tz_lwk ?_
      refine tz_aload_n 1 rfl (zd DL_law_4 52 rfl) ?_
      refine tz_aload_n 0 rfl (zd DL_law_4 53 rfl) ?_
      refine tz_iload 4 rfl (zd DL_law_4 54 rfl) ?_
      refine tz_iconst (1 : Int32) zk_iconst_1 (zd DL_law_4 55 rfl) ?_
      refine tz_iadd (zd DL_law_4 56 rfl) ?_
      refine tz_sld (zd DL_law_4 57 rfl) ?_
      refine tz_cV_i kz7 (zs_0) rfl (rest := []) (YX7_reverses) wk_527 (tX7_reverses (xs ((nI (4 * k)) + (1 : Int32)).toNatClampNeg) w) rfl rfl (Nat.le_of_ble_eq_true rfl) ⟨Nat.le_of_ble_eq_true rfl, Nat.le_of_ble_eq_true rfl⟩ (zd DL_law_4 58 rfl) (fun v83 w81 e82 => ?_)
      refine tz_popi (zd DL_law_4 59 rfl) ?_
      refine tz_aload_n 2 rfl (zd DL_law_5 0 rfl) ?_
      refine tz_aload_n 0 rfl (zd DL_law_5 1 rfl) ?_
      refine tz_iload 4 rfl (zd DL_law_5 2 rfl) ?_
      refine tz_iconst (1 : Int32) zk_iconst_1 (zd DL_law_5 3 rfl) ?_
      refine tz_iadd (zd DL_law_5 4 rfl) ?_
      refine tz_sld (zd DL_law_5 5 rfl) ?_
      refine tz_cV_i kz8 (zs_74) rfl (rest := []) (YX8_reverses) wk_1139 (tX8_reverses (xs ((nI (4 * k)) + (1 : Int32)).toNatClampNeg) w81) rfl rfl (Nat.le_of_ble_eq_true rfl) ⟨Nat.le_of_ble_eq_true rfl, Nat.le_of_ble_eq_true rfl⟩ (zd DL_law_5 6 rfl) (fun v86 w84 e85 => ?_)
      refine tz_popi (zd DL_law_5 7 rfl) ?_
      refine tz_goto 1414 (zd DL_law_5 8 rfl) rfl ?_
      exact hj2 w84
    refine tz_case (fun q87 => ?_) (fun q87 => ?_)
    · refine tz_tin (12) 592 (by rw [q87]; decide) (zd DL_law_0 24 rfl) (by decide) (by decide) rfl rfl ?_
      refine tz_lwk ?_
      refine tz_aload_n 1 rfl (zd DL_law_5 9 rfl) ?_
      refine tz_aload_n 0 rfl (zd DL_law_5 10 rfl) ?_
      refine tz_iload 4 rfl (zd DL_law_5 11 rfl) ?_
      refine tz_iconst (1 : Int32) zk_iconst_1 (zd DL_law_5 12 rfl) ?_
      refine tz_iadd (zd DL_law_5 13 rfl) ?_
      refine tz_sld (zd DL_law_5 14 rfl) ?_
      refine tz_aload_n 0 rfl (zd DL_law_5 15 rfl) ?_
      refine tz_iload 4 rfl (zd DL_law_5 16 rfl) ?_
      refine tz_iconst (2 : Int32) zk_iconst_2 (zd DL_law_5 17 rfl) ?_
      refine tz_iadd (zd DL_law_5 18 rfl) ?_
      refine tz_sld (zd DL_law_5 19 rfl) ?_
      refine tz_aload_n 0 rfl (zd DL_law_5 20 rfl) ?_
      refine tz_iload 4 rfl (zd DL_law_5 21 rfl) ?_
      refine tz_iconst (3 : Int32) zk_iconst_3 (zd DL_law_5 22 rfl) ?_
      refine tz_iadd (zd DL_law_5 23 rfl) ?_
      refine tz_sld (zd DL_law_5 24 rfl) ?_
      refine tz_cV_i kz7 (zs_0) rfl (rest := []) (YX7_changes) wk_535 (tX7_changes (xs ((nI (4 * k)) + (1 : Int32)).toNatClampNeg) (xs ((nI (4 * k)) + (2 : Int32)).toNatClampNeg) (xs ((nI (4 * k)) + (3 : Int32)).toNatClampNeg) w) rfl rfl (Nat.le_of_ble_eq_true rfl) ⟨Nat.le_of_ble_eq_true rfl, Nat.le_of_ble_eq_true rfl⟩ (zd DL_law_5 25 rfl) (fun v90 w88 e89 => ?_)
      refine tz_popi (zd DL_law_5 26 rfl) ?_
      refine tz_aload_n 2 rfl (zd DL_law_5 27 rfl) ?_
      refine tz_aload_n 0 rfl (zd DL_law_5 28 rfl) ?_
      refine tz_iload 4 rfl (zd DL_law_5 29 rfl) ?_
      refine tz_iconst (1 : Int32) zk_iconst_1 (zd DL_law_5 30 rfl) ?_
      refine tz_iadd (zd DL_law_5 31 rfl) ?_
      refine tz_sld (zd DL_law_5 32 rfl) ?_
      refine tz_aload_n 0 rfl (zd DL_law_5 33 rfl) ?_
      refine tz_iload 4 rfl (zd DL_law_5 34 rfl) ?_
      refine tz_iconst (2 : Int32) zk_iconst_2 (zd DL_law_5 35 rfl) ?_
      refine tz_iadd (zd DL_law_5 36 rfl) ?_
      refine tz_sld (zd DL_law_5 37 rfl) ?_
      refine tz_aload_n 0 rfl (zd DL_law_5 38 rfl) ?_
      refine tz_iload 4 rfl (zd DL_law_5 39 rfl) ?_
      refine tz_iconst (3 : Int32) zk_iconst_3 (zd DL_law_5 40 rfl) ?_
      refine tz_iadd (zd DL_law_5 41 rfl) ?_
      refine tz_sld (zd DL_law_5 42 rfl) ?_
      refine tz_cV_i kz8 (zs_74) rfl (rest := []) (YX8_changes) wk_1147 (tX8_changes (xs ((nI (4 * k)) + (1 : Int32)).toNatClampNeg) (xs ((nI (4 * k)) + (2 : Int32)).toNatClampNeg) (xs ((nI (4 * k)) + (3 : Int32)).toNatClampNeg) w88) rfl rfl (Nat.le_of_ble_eq_true rfl) ⟨Nat.le_of_ble_eq_true rfl, Nat.le_of_ble_eq_true rfl⟩ (zd DL_law_5 43 rfl) (fun v93 w91 e92 => ?_)
      refine tz_popi (zd DL_law_5 44 rfl) ?_
      refine tz_goto 1414 (zd DL_law_5 45 rfl) rfl ?_
      exact hj2 w91
    refine tz_case (fun q94 => ?_) (fun q94 => ?_)
    · refine tz_tin (13) 641 (by rw [q94]; decide) (zd DL_law_0 24 rfl) (by decide) (by decide) rfl rfl ?_
      refine tz_lwk ?_
      refine tz_aload_n 1 rfl (zd DL_law_5 46 rfl) ?_
      refine tz_aload_n 0 rfl (zd DL_law_5 47 rfl) ?_
      refine tz_iload 4 rfl (zd DL_law_5 48 rfl) ?_
      refine tz_iconst (1 : Int32) zk_iconst_1 (zd DL_law_5 49 rfl) ?_
      refine tz_iadd (zd DL_law_5 50 rfl) ?_
      refine tz_sld (zd DL_law_5 51 rfl) ?_
      refine tz_aload_n 0 rfl (zd DL_law_5 52 rfl) ?_
      refine tz_iload 4 rfl (zd DL_law_5 53 rfl) ?_
      refine tz_iconst (2 : Int32) zk_iconst_2 (zd DL_law_5 54 rfl) ?_
      refine tz_iadd (zd DL_law_5 55 rfl) ?_
      refine tz_sld (zd DL_law_5 56 rfl) ?_
      refine tz_aload_n 0 rfl (zd DL_law_5 57 rfl) ?_
      refine tz_iload 4 rfl (zd DL_law_5 58 rfl) ?_
      refine tz_iconst (3 : Int32) zk_iconst_3 (zd DL_law_5 59 rfl) ?_
      refine tz_iadd (zd DL_law_6 0 rfl) ?_
      refine tz_sld (zd DL_law_6 1 rfl) ?_
      refine tz_cV_i kz7 (zs_0) rfl (rest := []) (YX7_slips) wk_547 (tX7_slips (xs ((nI (4 * k)) + (1 : Int32)).toNatClampNeg) (xs ((nI (4 * k)) + (2 : Int32)).toNatClampNeg) (xs ((nI (4 * k)) + (3 : Int32)).toNatClampNeg) w) rfl rfl (Nat.le_of_ble_eq_true rfl) ⟨Nat.le_of_ble_eq_true rfl, Nat.le_of_ble_eq_true rfl⟩ (zd DL_law_6 2 rfl) (fun v97 w95 e96 => ?_)
      refine tz_popi (zd DL_law_6 3 rfl) ?_
      refine tz_aload_n 2 rfl (zd DL_law_6 4 rfl) ?_
      refine tz_aload_n 0 rfl (zd DL_law_6 5 rfl) ?_
      refine tz_iload 4 rfl (zd DL_law_6 6 rfl) ?_
      refine tz_iconst (1 : Int32) zk_iconst_1 (zd DL_law_6 7 rfl) ?_
      refine tz_iadd (zd DL_law_6 8 rfl) ?_
      refine tz_sld (zd DL_law_6 9 rfl) ?_
      refine tz_aload_n 0 rfl (zd DL_law_6 10 rfl) ?_
      refine tz_iload 4 rfl (zd DL_law_6 11 rfl) ?_
      refine tz_iconst (2 : Int32) zk_iconst_2 (zd DL_law_6 12 rfl) ?_
      refine tz_iadd (zd DL_law_6 13 rfl) ?_
      refine tz_sld (zd DL_law_6 14 rfl) ?_
      refine tz_aload_n 0 rfl (zd DL_law_6 15 rfl) ?_
      refine tz_iload 4 rfl (zd DL_law_6 16 rfl) ?_
      refine tz_iconst (3 : Int32) zk_iconst_3 (zd DL_law_6 17 rfl) ?_
      refine tz_iadd (zd DL_law_6 18 rfl) ?_
      refine tz_sld (zd DL_law_6 19 rfl) ?_
      refine tz_cV_i kz8 (zs_74) rfl (rest := []) (YX8_slips) wk_1159 (tX8_slips (xs ((nI (4 * k)) + (1 : Int32)).toNatClampNeg) (xs ((nI (4 * k)) + (2 : Int32)).toNatClampNeg) (xs ((nI (4 * k)) + (3 : Int32)).toNatClampNeg) w95) rfl rfl (Nat.le_of_ble_eq_true rfl) ⟨Nat.le_of_ble_eq_true rfl, Nat.le_of_ble_eq_true rfl⟩ (zd DL_law_6 20 rfl) (fun v100 w98 e99 => ?_)
      refine tz_popi (zd DL_law_6 21 rfl) ?_
      refine tz_goto 1414 (zd DL_law_6 22 rfl) rfl ?_
      exact hj2 w98
    refine tz_case (fun q101 => ?_) (fun q101 => ?_)
    · refine tz_tin (14) 690 (by rw [q101]; decide) (zd DL_law_0 24 rfl) (by decide) (by decide) rfl rfl ?_
      refine tz_lwk ?_
      refine tz_aload_n 1 rfl (zd DL_law_6 23 rfl) ?_
      refine tz_aload_n 0 rfl (zd DL_law_6 24 rfl) ?_
      refine tz_iload 4 rfl (zd DL_law_6 25 rfl) ?_
      refine tz_iconst (1 : Int32) zk_iconst_1 (zd DL_law_6 26 rfl) ?_
      refine tz_iadd (zd DL_law_6 27 rfl) ?_
      refine tz_sld (zd DL_law_6 28 rfl) ?_
      refine tz_aload_n 0 rfl (zd DL_law_6 29 rfl) ?_
      refine tz_iload 4 rfl (zd DL_law_6 30 rfl) ?_
      refine tz_iconst (2 : Int32) zk_iconst_2 (zd DL_law_6 31 rfl) ?_
      refine tz_iadd (zd DL_law_6 32 rfl) ?_
      refine tz_sld (zd DL_law_6 33 rfl) ?_
      refine tz_cV_i kz7 (zs_0) rfl (rest := []) (YX7_drops) wk_551 (tX7_drops (xs ((nI (4 * k)) + (1 : Int32)).toNatClampNeg) (xs ((nI (4 * k)) + (2 : Int32)).toNatClampNeg) w) rfl rfl (Nat.le_of_ble_eq_true rfl) ⟨Nat.le_of_ble_eq_true rfl, Nat.le_of_ble_eq_true rfl⟩ (zd DL_law_6 34 rfl) (fun v104 w102 e103 => ?_)
      refine tz_popi (zd DL_law_6 35 rfl) ?_
      refine tz_aload_n 2 rfl (zd DL_law_6 36 rfl) ?_
      refine tz_aload_n 0 rfl (zd DL_law_6 37 rfl) ?_
      refine tz_iload 4 rfl (zd DL_law_6 38 rfl) ?_
      refine tz_iconst (1 : Int32) zk_iconst_1 (zd DL_law_6 39 rfl) ?_
      refine tz_iadd (zd DL_law_6 40 rfl) ?_
      refine tz_sld (zd DL_law_6 41 rfl) ?_
      refine tz_aload_n 0 rfl (zd DL_law_6 42 rfl) ?_
      refine tz_iload 4 rfl (zd DL_law_6 43 rfl) ?_
      refine tz_iconst (2 : Int32) zk_iconst_2 (zd DL_law_6 44 rfl) ?_
      refine tz_iadd (zd DL_law_6 45 rfl) ?_
      refine tz_sld (zd DL_law_6 46 rfl) ?_
      refine tz_cV_i kz8 (zs_74) rfl (rest := []) (YX8_drops) wk_1163 (tX8_drops (xs ((nI (4 * k)) + (1 : Int32)).toNatClampNeg) (xs ((nI (4 * k)) + (2 : Int32)).toNatClampNeg) w102) rfl rfl (Nat.le_of_ble_eq_true rfl) ⟨Nat.le_of_ble_eq_true rfl, Nat.le_of_ble_eq_true rfl⟩ (zd DL_law_6 47 rfl) (fun v107 w105 e106 => ?_)
      refine tz_popi (zd DL_law_6 48 rfl) ?_
      refine tz_goto 1414 (zd DL_law_6 49 rfl) rfl ?_
      exact hj2 w105
    refine tz_case (fun q108 => ?_) (fun q108 => ?_)
    · refine tz_tin (15) 727 (by rw [q108]; decide) (zd DL_law_0 24 rfl) (by decide) (by decide) rfl rfl ?_
      refine tz_lwk ?_
      refine tz_aload_n 1 rfl (zd DL_law_6 50 rfl) ?_
      refine tz_aload_n 0 rfl (zd DL_law_6 51 rfl) ?_
      refine tz_iload 4 rfl (zd DL_law_6 52 rfl) ?_
      refine tz_iconst (1 : Int32) zk_iconst_1 (zd DL_law_6 53 rfl) ?_
      refine tz_iadd (zd DL_law_6 54 rfl) ?_
      refine tz_sld (zd DL_law_6 55 rfl) ?_
      refine tz_aload_n 0 rfl (zd DL_law_6 56 rfl) ?_
      refine tz_iload 4 rfl (zd DL_law_6 57 rfl) ?_
      refine tz_iconst (2 : Int32) zk_iconst_2 (zd DL_law_6 58 rfl) ?_
      refine tz_iadd (zd DL_law_6 59 rfl) ?_
      refine tz_sld (zd DL_law_7 0 rfl) ?_
      refine tz_aload_n 0 rfl (zd DL_law_7 1 rfl) ?_
      refine tz_iload 4 rfl (zd DL_law_7 2 rfl) ?_
      refine tz_iconst (3 : Int32) zk_iconst_3 (zd DL_law_7 3 rfl) ?_
      refine tz_iadd (zd DL_law_7 4 rfl) ?_
      refine tz_sld (zd DL_law_7 5 rfl) ?_
      refine tz_cV_i kz7 (zs_0) rfl (rest := []) (YX7_shifts) wk_555 (tX7_shifts (xs ((nI (4 * k)) + (1 : Int32)).toNatClampNeg) (xs ((nI (4 * k)) + (2 : Int32)).toNatClampNeg) (xs ((nI (4 * k)) + (3 : Int32)).toNatClampNeg) w) rfl rfl (Nat.le_of_ble_eq_true rfl) ⟨Nat.le_of_ble_eq_true rfl, Nat.le_of_ble_eq_true rfl⟩ (zd DL_law_7 6 rfl) (fun v111 w109 e110 => ?_)
      refine tz_popi (zd DL_law_7 7 rfl) ?_
      refine tz_aload_n 2 rfl (zd DL_law_7 8 rfl) ?_
      refine tz_aload_n 0 rfl (zd DL_law_7 9 rfl) ?_
      refine tz_iload 4 rfl (zd DL_law_7 10 rfl) ?_
      refine tz_iconst (1 : Int32) zk_iconst_1 (zd DL_law_7 11 rfl) ?_
      refine tz_iadd (zd DL_law_7 12 rfl) ?_
      refine tz_sld (zd DL_law_7 13 rfl) ?_
      refine tz_aload_n 0 rfl (zd DL_law_7 14 rfl) ?_
      refine tz_iload 4 rfl (zd DL_law_7 15 rfl) ?_
      refine tz_iconst (2 : Int32) zk_iconst_2 (zd DL_law_7 16 rfl) ?_
      refine tz_iadd (zd DL_law_7 17 rfl) ?_
      refine tz_sld (zd DL_law_7 18 rfl) ?_
      refine tz_aload_n 0 rfl (zd DL_law_7 19 rfl) ?_
      refine tz_iload 4 rfl (zd DL_law_7 20 rfl) ?_
      refine tz_iconst (3 : Int32) zk_iconst_3 (zd DL_law_7 21 rfl) ?_
      refine tz_iadd (zd DL_law_7 22 rfl) ?_
      refine tz_sld (zd DL_law_7 23 rfl) ?_
      refine tz_cV_i kz8 (zs_74) rfl (rest := []) (YX8_shifts) wk_1167 (tX8_shifts (xs ((nI (4 * k)) + (1 : Int32)).toNatClampNeg) (xs ((nI (4 * k)) + (2 : Int32)).toNatClampNeg) (xs ((nI (4 * k)) + (3 : Int32)).toNatClampNeg) w109) rfl rfl (Nat.le_of_ble_eq_true rfl) ⟨Nat.le_of_ble_eq_true rfl, Nat.le_of_ble_eq_true rfl⟩ (zd DL_law_7 24 rfl) (fun v114 w112 e113 => ?_)
      refine tz_popi (zd DL_law_7 25 rfl) ?_
      refine tz_goto 1414 (zd DL_law_7 26 rfl) rfl ?_
      exact hj2 w112
    refine tz_case (fun q115 => ?_) (fun q115 => ?_)
    · refine tz_tin (16) 776 (by rw [q115]; decide) (zd DL_law_0 24 rfl) (by decide) (by decide) rfl rfl ?_
      refine tz_lwk ?_
      refine tz_aload_n 1 rfl (zd DL_law_7 27 rfl) ?_
      refine tz_aload_n 0 rfl (zd DL_law_7 28 rfl) ?_
      refine tz_iload 4 rfl (zd DL_law_7 29 rfl) ?_
      refine tz_iconst (1 : Int32) zk_iconst_1 (zd DL_law_7 30 rfl) ?_
      refine tz_iadd (zd DL_law_7 31 rfl) ?_
      refine tz_sld (zd DL_law_7 32 rfl) ?_
      refine tz_cV_i kz7 (zs_0) rfl (rest := []) (YX7_clears) wk_563 (tX7_clears (xs ((nI (4 * k)) + (1 : Int32)).toNatClampNeg) w) rfl rfl (Nat.le_of_ble_eq_true rfl) ⟨Nat.le_of_ble_eq_true rfl, Nat.le_of_ble_eq_true rfl⟩ (zd DL_law_7 33 rfl) (fun v118 w116 e117 => ?_)
      refine tz_popi (zd DL_law_7 34 rfl) ?_
      refine tz_aload_n 2 rfl (zd DL_law_7 35 rfl) ?_
      refine tz_aload_n 0 rfl (zd DL_law_7 36 rfl) ?_
      refine tz_iload 4 rfl (zd DL_law_7 37 rfl) ?_
      refine tz_iconst (1 : Int32) zk_iconst_1 (zd DL_law_7 38 rfl) ?_
      refine tz_iadd (zd DL_law_7 39 rfl) ?_
      refine tz_sld (zd DL_law_7 40 rfl) ?_
      refine tz_cV_i kz8 (zs_74) rfl (rest := []) (YX8_clears) wk_1180 (tX8_clears (xs ((nI (4 * k)) + (1 : Int32)).toNatClampNeg) w116) rfl rfl (Nat.le_of_ble_eq_true rfl) ⟨Nat.le_of_ble_eq_true rfl, Nat.le_of_ble_eq_true rfl⟩ (zd DL_law_7 41 rfl) (fun v121 w119 e120 => ?_)
      refine tz_popi (zd DL_law_7 42 rfl) ?_
      refine tz_goto 1414 (zd DL_law_7 43 rfl) rfl ?_
      exact hj2 w119
    refine tz_case (fun q122 => ?_) (fun q122 => ?_)
    · refine tz_tin (17) 801 (by rw [q122]; decide) (zd DL_law_0 24 rfl) (by decide) (by decide) rfl rfl ?_
      refine tz_lwk ?_
      refine tz_aload_n 1 rfl (zd DL_law_7 44 rfl) ?_
      refine tz_aload_n 0 rfl (zd DL_law_7 45 rfl) ?_
      refine tz_iload 4 rfl (zd DL_law_7 46 rfl) ?_
      refine tz_iconst (1 : Int32) zk_iconst_1 (zd DL_law_7 47 rfl) ?_
      refine tz_iadd (zd DL_law_7 48 rfl) ?_
      refine tz_sld (zd DL_law_7 49 rfl) ?_
      refine tz_cV_i kz7 (zs_0) rfl (rest := []) (YX7_run) wk_567 (tX7_run (xs ((nI (4 * k)) + (1 : Int32)).toNatClampNeg) w) rfl rfl (Nat.le_of_ble_eq_true rfl) ⟨Nat.le_of_ble_eq_true rfl, Nat.le_of_ble_eq_true rfl⟩ (zd DL_law_7 50 rfl) (fun v125 w123 e124 => ?_)
      refine tz_popi (zd DL_law_7 51 rfl) ?_
      refine tz_aload_n 2 rfl (zd DL_law_7 52 rfl) ?_
      refine tz_aload_n 0 rfl (zd DL_law_7 53 rfl) ?_
      refine tz_iload 4 rfl (zd DL_law_7 54 rfl) ?_
      refine tz_iconst (1 : Int32) zk_iconst_1 (zd DL_law_7 55 rfl) ?_
      refine tz_iadd (zd DL_law_7 56 rfl) ?_
      refine tz_sld (zd DL_law_7 57 rfl) ?_
      refine tz_cV_i kz8 (zs_74) rfl (rest := []) (YX8_run) wk_1184 (tX8_run (xs ((nI (4 * k)) + (1 : Int32)).toNatClampNeg) w123) rfl rfl (Nat.le_of_ble_eq_true rfl) ⟨Nat.le_of_ble_eq_true rfl, Nat.le_of_ble_eq_true rfl⟩ (zd DL_law_7 58 rfl) (fun v128 w126 e127 => ?_)
      refine tz_popi (zd DL_law_7 59 rfl) ?_
      refine tz_goto 1414 (zd DL_law_8 0 rfl) rfl ?_
      exact hj2 w126
    refine tz_case (fun q129 => ?_) (fun q129 => ?_)
    · refine tz_tin (18) 826 (by rw [q129]; decide) (zd DL_law_0 24 rfl) (by decide) (by decide) rfl rfl ?_
      refine tz_lwk ?_
      refine tz_aload_n 1 rfl (zd DL_law_8 1 rfl) ?_
      refine tz_aload_n 0 rfl (zd DL_law_8 2 rfl) ?_
      refine tz_iload 4 rfl (zd DL_law_8 3 rfl) ?_
      refine tz_iconst (1 : Int32) zk_iconst_1 (zd DL_law_8 4 rfl) ?_
      refine tz_iadd (zd DL_law_8 5 rfl) ?_
      refine tz_sld (zd DL_law_8 6 rfl) ?_
      refine tz_cV_i kz7 (zs_0) rfl (rest := []) (YX7_sign) wk_601 (tX7_sign (xs ((nI (4 * k)) + (1 : Int32)).toNatClampNeg) w) rfl rfl (Nat.le_of_ble_eq_true rfl) ⟨Nat.le_of_ble_eq_true rfl, Nat.le_of_ble_eq_true rfl⟩ (zd DL_law_8 7 rfl) (fun v132 w130 e131 => ?_)
      refine tz_popi (zd DL_law_8 8 rfl) ?_
      refine tz_aload_n 2 rfl (zd DL_law_8 9 rfl) ?_
      refine tz_aload_n 0 rfl (zd DL_law_8 10 rfl) ?_
      refine tz_iload 4 rfl (zd DL_law_8 11 rfl) ?_
      refine tz_iconst (1 : Int32) zk_iconst_1 (zd DL_law_8 12 rfl) ?_
      refine tz_iadd (zd DL_law_8 13 rfl) ?_
      refine tz_sld (zd DL_law_8 14 rfl) ?_
      refine tz_cV_i kz8 (zs_74) rfl (rest := []) (YX8_sign) wk_840 (tX8_sign (xs ((nI (4 * k)) + (1 : Int32)).toNatClampNeg) w130) rfl rfl (Nat.le_of_ble_eq_true rfl) ⟨Nat.le_of_ble_eq_true rfl, Nat.le_of_ble_eq_true rfl⟩ (zd DL_law_8 15 rfl) (fun v135 w133 e134 => ?_)
      refine tz_popi (zd DL_law_8 16 rfl) ?_
      refine tz_goto 1414 (zd DL_law_8 17 rfl) rfl ?_
      exact hj2 w133
    refine tz_case (fun q136 => ?_) (fun q136 => ?_)
    · refine tz_tin (19) 851 (by rw [q136]; decide) (zd DL_law_0 24 rfl) (by decide) (by decide) rfl rfl ?_
      refine tz_lwk ?_
      refine tz_aload_n 1 rfl (zd DL_law_8 18 rfl) ?_
      refine tz_aload_n 0 rfl (zd DL_law_8 19 rfl) ?_
      refine tz_iload 4 rfl (zd DL_law_8 20 rfl) ?_
      refine tz_iconst (1 : Int32) zk_iconst_1 (zd DL_law_8 21 rfl) ?_
      refine tz_iadd (zd DL_law_8 22 rfl) ?_
      refine tz_sld (zd DL_law_8 23 rfl) ?_
      refine tz_cV_z kz7 (zs_0) rfl (rest := []) (YX7_end) wk_610 (tX7_end (xs ((nI (4 * k)) + (1 : Int32)).toNatClampNeg) w) rfl rfl (Nat.le_of_ble_eq_true rfl) ⟨Nat.le_of_ble_eq_true rfl, Nat.le_of_ble_eq_true rfl⟩ (zd DL_law_8 24 rfl) (fun b139 w137 e138 => ?_)
      refine tz_popi (zd DL_law_8 25 rfl) ?_
      refine tz_aload_n 2 rfl (zd DL_law_8 26 rfl) ?_
      refine tz_aload_n 0 rfl (zd DL_law_8 27 rfl) ?_
      refine tz_iload 4 rfl (zd DL_law_8 28 rfl) ?_
      refine tz_iconst (1 : Int32) zk_iconst_1 (zd DL_law_8 29 rfl) ?_
      refine tz_iadd (zd DL_law_8 30 rfl) ?_
      refine tz_sld (zd DL_law_8 31 rfl) ?_
      refine tz_cV_z kz8 (zs_74) rfl (rest := []) (YX8_end) wk_844 (tX8_end (xs ((nI (4 * k)) + (1 : Int32)).toNatClampNeg) w137) rfl rfl (Nat.le_of_ble_eq_true rfl) ⟨Nat.le_of_ble_eq_true rfl, Nat.le_of_ble_eq_true rfl⟩ (zd DL_law_8 32 rfl) (fun b142 w140 e141 => ?_)
      refine tz_popi (zd DL_law_8 33 rfl) ?_
      refine tz_goto 1414 (zd DL_law_8 34 rfl) rfl ?_
      exact hj2 w140
    refine tz_case (fun q143 => ?_) (fun q143 => ?_)
    · refine tz_tin (20) 876 (by rw [q143]; decide) (zd DL_law_0 24 rfl) (by decide) (by decide) rfl rfl ?_
      refine tz_lwk ?_
      refine tz_aload_n 1 rfl (zd DL_law_8 35 rfl) ?_
      refine tz_aload_n 0 rfl (zd DL_law_8 36 rfl) ?_
      refine tz_iload 4 rfl (zd DL_law_8 37 rfl) ?_
      refine tz_iconst (1 : Int32) zk_iconst_1 (zd DL_law_8 38 rfl) ?_
      refine tz_iadd (zd DL_law_8 39 rfl) ?_
      refine tz_sld (zd DL_law_8 40 rfl) ?_
      refine tz_cV_i kz7 (zs_0) rfl (rest := []) (YX7_sum) wk_614 (tX7_sum (xs ((nI (4 * k)) + (1 : Int32)).toNatClampNeg) w) rfl rfl (Nat.le_of_ble_eq_true rfl) ⟨Nat.le_of_ble_eq_true rfl, Nat.le_of_ble_eq_true rfl⟩ (zd DL_law_8 41 rfl) (fun v146 w144 e145 => ?_)
      refine tz_popi (zd DL_law_8 42 rfl) ?_
      refine tz_aload_n 2 rfl (zd DL_law_8 43 rfl) ?_
      refine tz_aload_n 0 rfl (zd DL_law_8 44 rfl) ?_
      refine tz_iload 4 rfl (zd DL_law_8 45 rfl) ?_
      refine tz_iconst (1 : Int32) zk_iconst_1 (zd DL_law_8 46 rfl) ?_
      refine tz_iadd (zd DL_law_8 47 rfl) ?_
      refine tz_sld (zd DL_law_8 48 rfl) ?_
      refine tz_cV_i kz8 (zs_74) rfl (rest := []) (YX8_sum) wk_1200 (tX8_sum (xs ((nI (4 * k)) + (1 : Int32)).toNatClampNeg) w144) rfl rfl (Nat.le_of_ble_eq_true rfl) ⟨Nat.le_of_ble_eq_true rfl, Nat.le_of_ble_eq_true rfl⟩ (zd DL_law_8 49 rfl) (fun v149 w147 e148 => ?_)
      refine tz_popi (zd DL_law_8 50 rfl) ?_
      refine tz_goto 1414 (zd DL_law_8 51 rfl) rfl ?_
      exact hj2 w147
    refine tz_case (fun q150 => ?_) (fun q150 => ?_)
    · refine tz_tin (21) 901 (by rw [q150]; decide) (zd DL_law_0 24 rfl) (by decide) (by decide) rfl rfl ?_
      refine tz_aload_n 1 rfl (zd DL_law_8 52 rfl) ?_
      refine tz_aload_n 0 rfl (zd DL_law_8 53 rfl) ?_
      refine tz_iload 4 rfl (zd DL_law_8 54 rfl) ?_
      refine tz_iconst (1 : Int32) zk_iconst_1 (zd DL_law_8 55 rfl) ?_
      refine tz_iadd (zd DL_law_8 56 rfl) ?_
      refine tz_sld (zd DL_law_8 57 rfl) ?_
      refine tz_aload_n 0 rfl (zd DL_law_8 58 rfl) ?_
      refine tz_iload 4 rfl (zd DL_law_8 59 rfl) ?_
      refine tz_iconst (2 : Int32) zk_iconst_2 (zd DL_law_9 0 rfl) ?_
      refine tz_iadd (zd DL_law_9 1 rfl) ?_
      refine tz_sld (zd DL_law_9 2 rfl) ?_
      refine tz_aload_n 3 rfl (zd DL_law_9 3 rfl) ?_
      refine tz_cX1 (n := 4) (My := ML_item) (rest := []) (by omega) wk_760 wk_759 wk_0 wk_758 ⟨by decide, by decide, by decide +kernel⟩ rfl rfl ⟨Nat.le_of_ble_eq_true rfl, Nat.le_of_ble_eq_true rfl⟩ (tL_item (xs ((nI (4 * k)) + (1 : Int32)).toNatClampNeg) (xs ((nI (4 * k)) + (2 : Int32)).toNatClampNeg) w) rfl rfl (Nat.le_of_ble_eq_true rfl) (zd DL_law_9 4 rfl) (fun v151 w152 e153 => ?_)
      refine tz_istore [(5, .int v151), (0, .ref 94), (1, .ref 0), (2, .ref 74), (3, .ref 92), (4, .int (nI (4 * k)))] (Nat.le_of_ble_eq_true rfl) rfl (zd DL_law_9 5 rfl) ?_
      refine tz_aload_n 3 rfl (zd DL_law_9 6 rfl) ?_
      refine tz_aload_n 1 rfl (zd DL_law_9 7 rfl) ?_
      refine tz_iload 5 rfl (zd DL_law_9 8 rfl) ?_
      refine tz_iconst (1 : Int32) zk_iconst_1 (zd DL_law_9 9 rfl) ?_
      refine tz_iadd (zd DL_law_9 10 rfl) ?_
      refine tz_sld (zd DL_law_9 11 rfl) ?_
      refine tz_aload_n 1 rfl (zd DL_law_9 12 rfl) ?_
      refine tz_iload 5 rfl (zd DL_law_9 13 rfl) ?_
      refine tz_iconst (2 : Int32) zk_iconst_2 (zd DL_law_9 14 rfl) ?_
      refine tz_iadd (zd DL_law_9 15 rfl) ?_
      refine tz_sld (zd DL_law_9 16 rfl) ?_
      refine tz_cV_i kz8 (zs_74) rfl (rest := []) (YX8_item) wk_1204 (tX8_item (xs ((nI (4 * k)) + (1 : Int32)).toNatClampNeg) (xs ((nI (4 * k)) + (2 : Int32)).toNatClampNeg) w152) rfl rfl (Nat.le_of_ble_eq_true rfl) ⟨Nat.le_of_ble_eq_true rfl, Nat.le_of_ble_eq_true rfl⟩ (zd DL_law_9 17 rfl) (fun v156 w154 e155 => ?_)
      refine tz_istore [(6, .int v156), (5, .int v151), (0, .ref 94), (1, .ref 0), (2, .ref 74), (3, .ref 92), (4, .int (nI (4 * k)))] (Nat.le_of_ble_eq_true rfl) rfl (zd DL_law_9 18 rfl) ?_
      refine tz_goto 1414 (zd DL_law_9 19 rfl) rfl ?_
      refine tz_lv (lv2 := [(0, .ref 94), (1, .ref 0), (2, .ref 74), (3, .ref 92), (4, .int (nI (4 * k)))]) [2, 3, 4, 5, 6] rfl ?_
      exact hj2 w154
    refine tz_case (fun q157 => ?_) (fun q157 => ?_)
    · refine tz_tin (22) 941 (by rw [q157]; decide) (zd DL_law_0 24 rfl) (by decide) (by decide) rfl rfl ?_
      refine tz_lwk ?_
      refine tz_aload_n 1 rfl (zd DL_law_9 20 rfl) ?_
      refine tz_aload_n 0 rfl (zd DL_law_9 21 rfl) ?_
      refine tz_iload 4 rfl (zd DL_law_9 22 rfl) ?_
      refine tz_iconst (1 : Int32) zk_iconst_1 (zd DL_law_9 23 rfl) ?_
      refine tz_iadd (zd DL_law_9 24 rfl) ?_
      refine tz_sld (zd DL_law_9 25 rfl) ?_
      refine tz_aload_n 0 rfl (zd DL_law_9 26 rfl) ?_
      refine tz_iload 4 rfl (zd DL_law_9 27 rfl) ?_
      refine tz_iconst (2 : Int32) zk_iconst_2 (zd DL_law_9 28 rfl) ?_
      refine tz_iadd (zd DL_law_9 29 rfl) ?_
      refine tz_sld (zd DL_law_9 30 rfl) ?_
      refine tz_aload_n 0 rfl (zd DL_law_9 31 rfl) ?_
      refine tz_iload 4 rfl (zd DL_law_9 32 rfl) ?_
      refine tz_iconst (3 : Int32) zk_iconst_3 (zd DL_law_9 33 rfl) ?_
      refine tz_iadd (zd DL_law_9 34 rfl) ?_
      refine tz_sld (zd DL_law_9 35 rfl) ?_
      refine tz_cV_i kz7 (zs_0) rfl (rest := []) (YX7_part) wk_618 (tX7_part (xs ((nI (4 * k)) + (1 : Int32)).toNatClampNeg) (xs ((nI (4 * k)) + (2 : Int32)).toNatClampNeg) (xs ((nI (4 * k)) + (3 : Int32)).toNatClampNeg) w) rfl rfl (Nat.le_of_ble_eq_true rfl) ⟨Nat.le_of_ble_eq_true rfl, Nat.le_of_ble_eq_true rfl⟩ (zd DL_law_9 36 rfl) (fun v160 w158 e159 => ?_)
      refine tz_popi (zd DL_law_9 37 rfl) ?_
      refine tz_aload_n 2 rfl (zd DL_law_9 38 rfl) ?_
      refine tz_aload_n 0 rfl (zd DL_law_9 39 rfl) ?_
      refine tz_iload 4 rfl (zd DL_law_9 40 rfl) ?_
      refine tz_iconst (1 : Int32) zk_iconst_1 (zd DL_law_9 41 rfl) ?_
      refine tz_iadd (zd DL_law_9 42 rfl) ?_
      refine tz_sld (zd DL_law_9 43 rfl) ?_
      refine tz_aload_n 0 rfl (zd DL_law_9 44 rfl) ?_
      refine tz_iload 4 rfl (zd DL_law_9 45 rfl) ?_
      refine tz_iconst (2 : Int32) zk_iconst_2 (zd DL_law_9 46 rfl) ?_
      refine tz_iadd (zd DL_law_9 47 rfl) ?_
      refine tz_sld (zd DL_law_9 48 rfl) ?_
      refine tz_aload_n 0 rfl (zd DL_law_9 49 rfl) ?_
      refine tz_iload 4 rfl (zd DL_law_9 50 rfl) ?_
      refine tz_iconst (3 : Int32) zk_iconst_3 (zd DL_law_9 51 rfl) ?_
      refine tz_iadd (zd DL_law_9 52 rfl) ?_
      refine tz_sld (zd DL_law_9 53 rfl) ?_
      refine tz_cV_i kz8 (zs_74) rfl (rest := []) (YX8_part) wk_1208 (tX8_part (xs ((nI (4 * k)) + (1 : Int32)).toNatClampNeg) (xs ((nI (4 * k)) + (2 : Int32)).toNatClampNeg) (xs ((nI (4 * k)) + (3 : Int32)).toNatClampNeg) w158) rfl rfl (Nat.le_of_ble_eq_true rfl) ⟨Nat.le_of_ble_eq_true rfl, Nat.le_of_ble_eq_true rfl⟩ (zd DL_law_9 54 rfl) (fun v163 w161 e162 => ?_)
      refine tz_popi (zd DL_law_9 55 rfl) ?_
      refine tz_goto 1414 (zd DL_law_9 56 rfl) rfl ?_
      exact hj2 w161
    refine tz_case (fun q164 => ?_) (fun q164 => ?_)
    · refine tz_tin (23) 990 (by rw [q164]; decide) (zd DL_law_0 24 rfl) (by decide) (by decide) rfl rfl ?_
      refine tz_lwk ?_
      refine tz_aload_n 1 rfl (zd DL_law_9 57 rfl) ?_
      refine tz_aload_n 0 rfl (zd DL_law_9 58 rfl) ?_
      refine tz_iload 4 rfl (zd DL_law_9 59 rfl) ?_
      refine tz_iconst (1 : Int32) zk_iconst_1 (zd DL_law_10 0 rfl) ?_
      refine tz_iadd (zd DL_law_10 1 rfl) ?_
      refine tz_sld (zd DL_law_10 2 rfl) ?_
      refine tz_aload_n 0 rfl (zd DL_law_10 3 rfl) ?_
      refine tz_iload 4 rfl (zd DL_law_10 4 rfl) ?_
      refine tz_iconst (2 : Int32) zk_iconst_2 (zd DL_law_10 5 rfl) ?_
      refine tz_iadd (zd DL_law_10 6 rfl) ?_
      refine tz_sld (zd DL_law_10 7 rfl) ?_
      refine tz_cV_i kz7 (zs_0) rfl (rest := []) (YX7_windows) wk_622 (tX7_windows (xs ((nI (4 * k)) + (1 : Int32)).toNatClampNeg) (xs ((nI (4 * k)) + (2 : Int32)).toNatClampNeg) w) rfl rfl (Nat.le_of_ble_eq_true rfl) ⟨Nat.le_of_ble_eq_true rfl, Nat.le_of_ble_eq_true rfl⟩ (zd DL_law_10 8 rfl) (fun v167 w165 e166 => ?_)
      refine tz_popi (zd DL_law_10 9 rfl) ?_
      refine tz_aload_n 2 rfl (zd DL_law_10 10 rfl) ?_
      refine tz_aload_n 0 rfl (zd DL_law_10 11 rfl) ?_
      refine tz_iload 4 rfl (zd DL_law_10 12 rfl) ?_
      refine tz_iconst (1 : Int32) zk_iconst_1 (zd DL_law_10 13 rfl) ?_
      refine tz_iadd (zd DL_law_10 14 rfl) ?_
      refine tz_sld (zd DL_law_10 15 rfl) ?_
      refine tz_aload_n 0 rfl (zd DL_law_10 16 rfl) ?_
      refine tz_iload 4 rfl (zd DL_law_10 17 rfl) ?_
      refine tz_iconst (2 : Int32) zk_iconst_2 (zd DL_law_10 18 rfl) ?_
      refine tz_iadd (zd DL_law_10 19 rfl) ?_
      refine tz_sld (zd DL_law_10 20 rfl) ?_
      refine tz_cV_i kz8 (zs_74) rfl (rest := []) (YX8_windows) wk_1216 (tX8_windows (xs ((nI (4 * k)) + (1 : Int32)).toNatClampNeg) (xs ((nI (4 * k)) + (2 : Int32)).toNatClampNeg) w165) rfl rfl (Nat.le_of_ble_eq_true rfl) ⟨Nat.le_of_ble_eq_true rfl, Nat.le_of_ble_eq_true rfl⟩ (zd DL_law_10 21 rfl) (fun v170 w168 e169 => ?_)
      refine tz_popi (zd DL_law_10 22 rfl) ?_
      refine tz_goto 1414 (zd DL_law_10 23 rfl) rfl ?_
      exact hj2 w168
    refine tz_case (fun q171 => ?_) (fun q171 => ?_)
    · refine tz_tin (24) 1027 (by rw [q171]; decide) (zd DL_law_0 24 rfl) (by decide) (by decide) rfl rfl ?_
      refine tz_lwk ?_
      refine tz_aload_n 1 rfl (zd DL_law_10 24 rfl) ?_
      refine tz_aload_n 0 rfl (zd DL_law_10 25 rfl) ?_
      refine tz_iload 4 rfl (zd DL_law_10 26 rfl) ?_
      refine tz_iconst (1 : Int32) zk_iconst_1 (zd DL_law_10 27 rfl) ?_
      refine tz_iadd (zd DL_law_10 28 rfl) ?_
      refine tz_sld (zd DL_law_10 29 rfl) ?_
      refine tz_aload_n 0 rfl (zd DL_law_10 30 rfl) ?_
      refine tz_iload 4 rfl (zd DL_law_10 31 rfl) ?_
      refine tz_iconst (2 : Int32) zk_iconst_2 (zd DL_law_10 32 rfl) ?_
      refine tz_iadd (zd DL_law_10 33 rfl) ?_
      refine tz_sld (zd DL_law_10 34 rfl) ?_
      refine tz_cV_i kz7 (zs_0) rfl (rest := []) (YX7_first) wk_626 (tX7_first (xs ((nI (4 * k)) + (1 : Int32)).toNatClampNeg) (xs ((nI (4 * k)) + (2 : Int32)).toNatClampNeg) w) rfl rfl (Nat.le_of_ble_eq_true rfl) ⟨Nat.le_of_ble_eq_true rfl, Nat.le_of_ble_eq_true rfl⟩ (zd DL_law_10 35 rfl) (fun v174 w172 e173 => ?_)
      refine tz_popi (zd DL_law_10 36 rfl) ?_
      refine tz_aload_n 2 rfl (zd DL_law_10 37 rfl) ?_
      refine tz_aload_n 0 rfl (zd DL_law_10 38 rfl) ?_
      refine tz_iload 4 rfl (zd DL_law_10 39 rfl) ?_
      refine tz_iconst (1 : Int32) zk_iconst_1 (zd DL_law_10 40 rfl) ?_
      refine tz_iadd (zd DL_law_10 41 rfl) ?_
      refine tz_sld (zd DL_law_10 42 rfl) ?_
      refine tz_aload_n 0 rfl (zd DL_law_10 43 rfl) ?_
      refine tz_iload 4 rfl (zd DL_law_10 44 rfl) ?_
      refine tz_iconst (2 : Int32) zk_iconst_2 (zd DL_law_10 45 rfl) ?_
      refine tz_iadd (zd DL_law_10 46 rfl) ?_
      refine tz_sld (zd DL_law_10 47 rfl) ?_
      refine tz_cV_i kz8 (zs_74) rfl (rest := []) (YX8_first) wk_1220 (tX8_first (xs ((nI (4 * k)) + (1 : Int32)).toNatClampNeg) (xs ((nI (4 * k)) + (2 : Int32)).toNatClampNeg) w172) rfl rfl (Nat.le_of_ble_eq_true rfl) ⟨Nat.le_of_ble_eq_true rfl, Nat.le_of_ble_eq_true rfl⟩ (zd DL_law_10 48 rfl) (fun v177 w175 e176 => ?_)
      refine tz_popi (zd DL_law_10 49 rfl) ?_
      refine tz_goto 1414 (zd DL_law_10 50 rfl) rfl ?_
      exact hj2 w175
    refine tz_case (fun q178 => ?_) (fun q178 => ?_)
    · refine tz_tin (25) 1064 (by rw [q178]; decide) (zd DL_law_0 24 rfl) (by decide) (by decide) rfl rfl ?_
      refine tz_lwk ?_
      refine tz_aload_n 1 rfl (zd DL_law_10 51 rfl) ?_
      refine tz_aload_n 0 rfl (zd DL_law_10 52 rfl) ?_
      refine tz_iload 4 rfl (zd DL_law_10 53 rfl) ?_
      refine tz_iconst (1 : Int32) zk_iconst_1 (zd DL_law_10 54 rfl) ?_
      refine tz_iadd (zd DL_law_10 55 rfl) ?_
      refine tz_sld (zd DL_law_10 56 rfl) ?_
      refine tz_aload_n 0 rfl (zd DL_law_10 57 rfl) ?_
      refine tz_iload 4 rfl (zd DL_law_10 58 rfl) ?_
      refine tz_iconst (2 : Int32) zk_iconst_2 (zd DL_law_10 59 rfl) ?_
      refine tz_iadd (zd DL_law_11 0 rfl) ?_
      refine tz_sld (zd DL_law_11 1 rfl) ?_
      refine tz_cV_i kz7 (zs_0) rfl (rest := []) (YX7_longest) wk_630 (tX7_longest (xs ((nI (4 * k)) + (1 : Int32)).toNatClampNeg) (xs ((nI (4 * k)) + (2 : Int32)).toNatClampNeg) w) rfl rfl (Nat.le_of_ble_eq_true rfl) ⟨Nat.le_of_ble_eq_true rfl, Nat.le_of_ble_eq_true rfl⟩ (zd DL_law_11 2 rfl) (fun v181 w179 e180 => ?_)
      refine tz_popi (zd DL_law_11 3 rfl) ?_
      refine tz_aload_n 2 rfl (zd DL_law_11 4 rfl) ?_
      refine tz_aload_n 0 rfl (zd DL_law_11 5 rfl) ?_
      refine tz_iload 4 rfl (zd DL_law_11 6 rfl) ?_
      refine tz_iconst (1 : Int32) zk_iconst_1 (zd DL_law_11 7 rfl) ?_
      refine tz_iadd (zd DL_law_11 8 rfl) ?_
      refine tz_sld (zd DL_law_11 9 rfl) ?_
      refine tz_aload_n 0 rfl (zd DL_law_11 10 rfl) ?_
      refine tz_iload 4 rfl (zd DL_law_11 11 rfl) ?_
      refine tz_iconst (2 : Int32) zk_iconst_2 (zd DL_law_11 12 rfl) ?_
      refine tz_iadd (zd DL_law_11 13 rfl) ?_
      refine tz_sld (zd DL_law_11 14 rfl) ?_
      refine tz_cV_i kz8 (zs_74) rfl (rest := []) (YX8_longest) wk_1224 (tX8_longest (xs ((nI (4 * k)) + (1 : Int32)).toNatClampNeg) (xs ((nI (4 * k)) + (2 : Int32)).toNatClampNeg) w179) rfl rfl (Nat.le_of_ble_eq_true rfl) ⟨Nat.le_of_ble_eq_true rfl, Nat.le_of_ble_eq_true rfl⟩ (zd DL_law_11 15 rfl) (fun v184 w182 e183 => ?_)
      refine tz_popi (zd DL_law_11 16 rfl) ?_
      refine tz_goto 1414 (zd DL_law_11 17 rfl) rfl ?_
      exact hj2 w182
    refine tz_case (fun q185 => ?_) (fun q185 => ?_)
    · refine tz_tin (26) 1101 (by rw [q185]; decide) (zd DL_law_0 24 rfl) (by decide) (by decide) rfl rfl ?_
      refine tz_lwk ?_
      refine tz_aload_n 1 rfl (zd DL_law_11 18 rfl) ?_
      refine tz_aload_n 0 rfl (zd DL_law_11 19 rfl) ?_
      refine tz_iload 4 rfl (zd DL_law_11 20 rfl) ?_
      refine tz_iconst (1 : Int32) zk_iconst_1 (zd DL_law_11 21 rfl) ?_
      refine tz_iadd (zd DL_law_11 22 rfl) ?_
      refine tz_sld (zd DL_law_11 23 rfl) ?_
      refine tz_aload_n 0 rfl (zd DL_law_11 24 rfl) ?_
      refine tz_iload 4 rfl (zd DL_law_11 25 rfl) ?_
      refine tz_iconst (2 : Int32) zk_iconst_2 (zd DL_law_11 26 rfl) ?_
      refine tz_iadd (zd DL_law_11 27 rfl) ?_
      refine tz_sld (zd DL_law_11 28 rfl) ?_
      refine tz_cV_i kz7 (zs_0) rfl (rest := []) (YX7_greatest) wk_643 (tX7_greatest (xs ((nI (4 * k)) + (1 : Int32)).toNatClampNeg) (xs ((nI (4 * k)) + (2 : Int32)).toNatClampNeg) w) rfl rfl (Nat.le_of_ble_eq_true rfl) ⟨Nat.le_of_ble_eq_true rfl, Nat.le_of_ble_eq_true rfl⟩ (zd DL_law_11 29 rfl) (fun v188 w186 e187 => ?_)
      refine tz_popi (zd DL_law_11 30 rfl) ?_
      refine tz_aload_n 2 rfl (zd DL_law_11 31 rfl) ?_
      refine tz_aload_n 0 rfl (zd DL_law_11 32 rfl) ?_
      refine tz_iload 4 rfl (zd DL_law_11 33 rfl) ?_
      refine tz_iconst (1 : Int32) zk_iconst_1 (zd DL_law_11 34 rfl) ?_
      refine tz_iadd (zd DL_law_11 35 rfl) ?_
      refine tz_sld (zd DL_law_11 36 rfl) ?_
      refine tz_aload_n 0 rfl (zd DL_law_11 37 rfl) ?_
      refine tz_iload 4 rfl (zd DL_law_11 38 rfl) ?_
      refine tz_iconst (2 : Int32) zk_iconst_2 (zd DL_law_11 39 rfl) ?_
      refine tz_iadd (zd DL_law_11 40 rfl) ?_
      refine tz_sld (zd DL_law_11 41 rfl) ?_
      refine tz_cV_i kz8 (zs_74) rfl (rest := []) (YX8_greatest) wk_1228 (tX8_greatest (xs ((nI (4 * k)) + (1 : Int32)).toNatClampNeg) (xs ((nI (4 * k)) + (2 : Int32)).toNatClampNeg) w186) rfl rfl (Nat.le_of_ble_eq_true rfl) ⟨Nat.le_of_ble_eq_true rfl, Nat.le_of_ble_eq_true rfl⟩ (zd DL_law_11 42 rfl) (fun v191 w189 e190 => ?_)
      refine tz_popi (zd DL_law_11 43 rfl) ?_
      refine tz_goto 1414 (zd DL_law_11 44 rfl) rfl ?_
      exact hj2 w189
    refine tz_case (fun q192 => ?_) (fun q192 => ?_)
    · refine tz_tin (27) 1138 (by rw [q192]; decide) (zd DL_law_0 24 rfl) (by decide) (by decide) rfl rfl ?_
      refine tz_lwk ?_
      refine tz_aload_n 1 rfl (zd DL_law_11 45 rfl) ?_
      refine tz_aload_n 0 rfl (zd DL_law_11 46 rfl) ?_
      refine tz_iload 4 rfl (zd DL_law_11 47 rfl) ?_
      refine tz_iconst (1 : Int32) zk_iconst_1 (zd DL_law_11 48 rfl) ?_
      refine tz_iadd (zd DL_law_11 49 rfl) ?_
      refine tz_sld (zd DL_law_11 50 rfl) ?_
      refine tz_aload_n 0 rfl (zd DL_law_11 51 rfl) ?_
      refine tz_iload 4 rfl (zd DL_law_11 52 rfl) ?_
      refine tz_iconst (2 : Int32) zk_iconst_2 (zd DL_law_11 53 rfl) ?_
      refine tz_iadd (zd DL_law_11 54 rfl) ?_
      refine tz_sld (zd DL_law_11 55 rfl) ?_
      refine tz_aload_n 0 rfl (zd DL_law_11 56 rfl) ?_
      refine tz_iload 4 rfl (zd DL_law_11 57 rfl) ?_
      refine tz_iconst (3 : Int32) zk_iconst_3 (zd DL_law_11 58 rfl) ?_
      refine tz_iadd (zd DL_law_11 59 rfl) ?_
      refine tz_sld (zd DL_law_12 0 rfl) ?_
      refine tz_cV_i kz7 (zs_0) rfl (rest := []) (YX7_finds) wk_647 (tX7_finds (xs ((nI (4 * k)) + (1 : Int32)).toNatClampNeg) (xs ((nI (4 * k)) + (2 : Int32)).toNatClampNeg) (xs ((nI (4 * k)) + (3 : Int32)).toNatClampNeg) w) rfl rfl (Nat.le_of_ble_eq_true rfl) ⟨Nat.le_of_ble_eq_true rfl, Nat.le_of_ble_eq_true rfl⟩ (zd DL_law_12 1 rfl) (fun v195 w193 e194 => ?_)
      refine tz_popi (zd DL_law_12 2 rfl) ?_
      refine tz_aload_n 2 rfl (zd DL_law_12 3 rfl) ?_
      refine tz_aload_n 0 rfl (zd DL_law_12 4 rfl) ?_
      refine tz_iload 4 rfl (zd DL_law_12 5 rfl) ?_
      refine tz_iconst (1 : Int32) zk_iconst_1 (zd DL_law_12 6 rfl) ?_
      refine tz_iadd (zd DL_law_12 7 rfl) ?_
      refine tz_sld (zd DL_law_12 8 rfl) ?_
      refine tz_aload_n 0 rfl (zd DL_law_12 9 rfl) ?_
      refine tz_iload 4 rfl (zd DL_law_12 10 rfl) ?_
      refine tz_iconst (2 : Int32) zk_iconst_2 (zd DL_law_12 11 rfl) ?_
      refine tz_iadd (zd DL_law_12 12 rfl) ?_
      refine tz_sld (zd DL_law_12 13 rfl) ?_
      refine tz_aload_n 0 rfl (zd DL_law_12 14 rfl) ?_
      refine tz_iload 4 rfl (zd DL_law_12 15 rfl) ?_
      refine tz_iconst (3 : Int32) zk_iconst_3 (zd DL_law_12 16 rfl) ?_
      refine tz_iadd (zd DL_law_12 17 rfl) ?_
      refine tz_sld (zd DL_law_12 18 rfl) ?_
      refine tz_cV_i kz8 (zs_74) rfl (rest := []) (YX8_finds) wk_1232 (tX8_finds (xs ((nI (4 * k)) + (1 : Int32)).toNatClampNeg) (xs ((nI (4 * k)) + (2 : Int32)).toNatClampNeg) (xs ((nI (4 * k)) + (3 : Int32)).toNatClampNeg) w193) rfl rfl (Nat.le_of_ble_eq_true rfl) ⟨Nat.le_of_ble_eq_true rfl, Nat.le_of_ble_eq_true rfl⟩ (zd DL_law_12 19 rfl) (fun v198 w196 e197 => ?_)
      refine tz_popi (zd DL_law_12 20 rfl) ?_
      refine tz_goto 1414 (zd DL_law_12 21 rfl) rfl ?_
      exact hj2 w196
    refine tz_case (fun q199 => ?_) (fun q199 => ?_)
    · refine tz_tin (28) 1187 (by rw [q199]; decide) (zd DL_law_0 24 rfl) (by decide) (by decide) rfl rfl ?_
      refine tz_lwk ?_
      refine tz_aload_n 1 rfl (zd DL_law_12 22 rfl) ?_
      refine tz_aload_n 0 rfl (zd DL_law_12 23 rfl) ?_
      refine tz_iload 4 rfl (zd DL_law_12 24 rfl) ?_
      refine tz_iconst (1 : Int32) zk_iconst_1 (zd DL_law_12 25 rfl) ?_
      refine tz_iadd (zd DL_law_12 26 rfl) ?_
      refine tz_sld (zd DL_law_12 27 rfl) ?_
      refine tz_cV_i kz7 (zs_0) rfl (rest := []) (YX7_drains) wk_659 (tX7_drains (xs ((nI (4 * k)) + (1 : Int32)).toNatClampNeg) w) rfl rfl (Nat.le_of_ble_eq_true rfl) ⟨Nat.le_of_ble_eq_true rfl, Nat.le_of_ble_eq_true rfl⟩ (zd DL_law_12 28 rfl) (fun v202 w200 e201 => ?_)
      refine tz_popi (zd DL_law_12 29 rfl) ?_
      refine tz_aload_n 2 rfl (zd DL_law_12 30 rfl) ?_
      refine tz_aload_n 0 rfl (zd DL_law_12 31 rfl) ?_
      refine tz_iload 4 rfl (zd DL_law_12 32 rfl) ?_
      refine tz_iconst (1 : Int32) zk_iconst_1 (zd DL_law_12 33 rfl) ?_
      refine tz_iadd (zd DL_law_12 34 rfl) ?_
      refine tz_sld (zd DL_law_12 35 rfl) ?_
      refine tz_cV_i kz8 (zs_74) rfl (rest := []) (YX8_drains) wk_1236 (tX8_drains (xs ((nI (4 * k)) + (1 : Int32)).toNatClampNeg) w200) rfl rfl (Nat.le_of_ble_eq_true rfl) ⟨Nat.le_of_ble_eq_true rfl, Nat.le_of_ble_eq_true rfl⟩ (zd DL_law_12 36 rfl) (fun v205 w203 e204 => ?_)
      refine tz_popi (zd DL_law_12 37 rfl) ?_
      refine tz_goto 1414 (zd DL_law_12 38 rfl) rfl ?_
      exact hj2 w203
    refine tz_case (fun q206 => ?_) (fun q206 => ?_)
    · refine tz_tin (29) 1212 (by rw [q206]; decide) (zd DL_law_0 24 rfl) (by decide) (by decide) rfl rfl ?_
      refine tz_lwk ?_
      refine tz_aload_n 1 rfl (zd DL_law_12 39 rfl) ?_
      refine tz_aload_n 0 rfl (zd DL_law_12 40 rfl) ?_
      refine tz_iload 4 rfl (zd DL_law_12 41 rfl) ?_
      refine tz_iconst (1 : Int32) zk_iconst_1 (zd DL_law_12 42 rfl) ?_
      refine tz_iadd (zd DL_law_12 43 rfl) ?_
      refine tz_sld (zd DL_law_12 44 rfl) ?_
      refine tz_cV_i kz7 (zs_0) rfl (rest := []) (YX7_unlike) wk_672 (tX7_unlike (xs ((nI (4 * k)) + (1 : Int32)).toNatClampNeg) w) rfl rfl (Nat.le_of_ble_eq_true rfl) ⟨Nat.le_of_ble_eq_true rfl, Nat.le_of_ble_eq_true rfl⟩ (zd DL_law_12 45 rfl) (fun v209 w207 e208 => ?_)
      refine tz_popi (zd DL_law_12 46 rfl) ?_
      refine tz_aload_n 2 rfl (zd DL_law_12 47 rfl) ?_
      refine tz_aload_n 0 rfl (zd DL_law_12 48 rfl) ?_
      refine tz_iload 4 rfl (zd DL_law_12 49 rfl) ?_
      refine tz_iconst (1 : Int32) zk_iconst_1 (zd DL_law_12 50 rfl) ?_
      refine tz_iadd (zd DL_law_12 51 rfl) ?_
      refine tz_sld (zd DL_law_12 52 rfl) ?_
      refine tz_cV_i kz8 (zs_74) rfl (rest := []) (YX8_unlike) wk_1262 (tX8_unlike (xs ((nI (4 * k)) + (1 : Int32)).toNatClampNeg) w207) rfl rfl (Nat.le_of_ble_eq_true rfl) ⟨Nat.le_of_ble_eq_true rfl, Nat.le_of_ble_eq_true rfl⟩ (zd DL_law_12 53 rfl) (fun v212 w210 e211 => ?_)
      refine tz_popi (zd DL_law_12 54 rfl) ?_
      refine tz_goto 1414 (zd DL_law_12 55 rfl) rfl ?_
      exact hj2 w210
    refine tz_case (fun q213 => ?_) (fun q213 => ?_)
    · refine tz_tin (30) 1237 (by rw [q213]; decide) (zd DL_law_0 24 rfl) (by decide) (by decide) rfl rfl ?_
      refine tz_lwk ?_
      refine tz_aload_n 1 rfl (zd DL_law_12 56 rfl) ?_
      refine tz_aload_n 0 rfl (zd DL_law_12 57 rfl) ?_
      refine tz_iload 4 rfl (zd DL_law_12 58 rfl) ?_
      refine tz_iconst (1 : Int32) zk_iconst_1 (zd DL_law_12 59 rfl) ?_
      refine tz_iadd (zd DL_law_13 0 rfl) ?_
      refine tz_sld (zd DL_law_13 1 rfl) ?_
      refine tz_aload_n 0 rfl (zd DL_law_13 2 rfl) ?_
      refine tz_iload 4 rfl (zd DL_law_13 3 rfl) ?_
      refine tz_iconst (2 : Int32) zk_iconst_2 (zd DL_law_13 4 rfl) ?_
      refine tz_iadd (zd DL_law_13 5 rfl) ?_
      refine tz_sld (zd DL_law_13 6 rfl) ?_
      refine tz_cV_i kz7 (zs_0) rfl (rest := []) (YX7_same) wk_687 (tX7_same (xs ((nI (4 * k)) + (1 : Int32)).toNatClampNeg) (xs ((nI (4 * k)) + (2 : Int32)).toNatClampNeg) w) rfl rfl (Nat.le_of_ble_eq_true rfl) ⟨Nat.le_of_ble_eq_true rfl, Nat.le_of_ble_eq_true rfl⟩ (zd DL_law_13 7 rfl) (fun v216 w214 e215 => ?_)
      refine tz_popi (zd DL_law_13 8 rfl) ?_
      refine tz_aload_n 2 rfl (zd DL_law_13 9 rfl) ?_
      refine tz_aload_n 0 rfl (zd DL_law_13 10 rfl) ?_
      refine tz_iload 4 rfl (zd DL_law_13 11 rfl) ?_
      refine tz_iconst (1 : Int32) zk_iconst_1 (zd DL_law_13 12 rfl) ?_
      refine tz_iadd (zd DL_law_13 13 rfl) ?_
      refine tz_sld (zd DL_law_13 14 rfl) ?_
      refine tz_aload_n 0 rfl (zd DL_law_13 15 rfl) ?_
      refine tz_iload 4 rfl (zd DL_law_13 16 rfl) ?_
      refine tz_iconst (2 : Int32) zk_iconst_2 (zd DL_law_13 17 rfl) ?_
      refine tz_iadd (zd DL_law_13 18 rfl) ?_
      refine tz_sld (zd DL_law_13 19 rfl) ?_
      refine tz_cV_i kz8 (zs_74) rfl (rest := []) (YX8_same) wk_1267 (tX8_same (xs ((nI (4 * k)) + (1 : Int32)).toNatClampNeg) (xs ((nI (4 * k)) + (2 : Int32)).toNatClampNeg) w214) rfl rfl (Nat.le_of_ble_eq_true rfl) ⟨Nat.le_of_ble_eq_true rfl, Nat.le_of_ble_eq_true rfl⟩ (zd DL_law_13 20 rfl) (fun v219 w217 e218 => ?_)
      refine tz_popi (zd DL_law_13 21 rfl) ?_
      refine tz_goto 1414 (zd DL_law_13 22 rfl) rfl ?_
      exact hj2 w217
    refine tz_case (fun q220 => ?_) (fun q220 => ?_)
    · refine tz_tin (31) 1274 (by rw [q220]; decide) (zd DL_law_0 24 rfl) (by decide) (by decide) rfl rfl ?_
      refine tz_lwk ?_
      refine tz_aload_n 1 rfl (zd DL_law_13 23 rfl) ?_
      refine tz_cV_i kz7 (zs_0) rfl (rest := []) (YX7_shared) wk_713 (tX7_shared w) rfl rfl (Nat.le_of_ble_eq_true rfl) ⟨Nat.le_of_ble_eq_true rfl, Nat.le_of_ble_eq_true rfl⟩ (zd DL_law_13 24 rfl) (fun v223 w221 e222 => ?_)
      refine tz_popi (zd DL_law_13 25 rfl) ?_
      refine tz_aload_n 2 rfl (zd DL_law_13 26 rfl) ?_
      refine tz_cV_i kz8 (zs_74) rfl (rest := []) (YX8_shared) wk_1275 (tX8_shared w221) rfl rfl (Nat.le_of_ble_eq_true rfl) ⟨Nat.le_of_ble_eq_true rfl, Nat.le_of_ble_eq_true rfl⟩ (zd DL_law_13 27 rfl) (fun v226 w224 e225 => ?_)
      refine tz_popi (zd DL_law_13 28 rfl) ?_
      refine tz_goto 1414 (zd DL_law_13 29 rfl) rfl ?_
      exact hj2 w224
    refine tz_case (fun q227 => ?_) (fun q227 => ?_)
    · refine tz_tin (32) 1287 (by rw [q227]; decide) (zd DL_law_0 24 rfl) (by decide) (by decide) rfl rfl ?_
      refine tz_lwk ?_
      refine tz_aload_n 1 rfl (zd DL_law_13 30 rfl) ?_
      refine tz_aload_n 0 rfl (zd DL_law_13 31 rfl) ?_
      refine tz_iload 4 rfl (zd DL_law_13 32 rfl) ?_
      refine tz_iconst (1 : Int32) zk_iconst_1 (zd DL_law_13 33 rfl) ?_
      refine tz_iadd (zd DL_law_13 34 rfl) ?_
      refine tz_sld (zd DL_law_13 35 rfl) ?_
      refine tz_aload_n 0 rfl (zd DL_law_13 36 rfl) ?_
      refine tz_iload 4 rfl (zd DL_law_13 37 rfl) ?_
      refine tz_iconst (2 : Int32) zk_iconst_2 (zd DL_law_13 38 rfl) ?_
      refine tz_iadd (zd DL_law_13 39 rfl) ?_
      refine tz_sld (zd DL_law_13 40 rfl) ?_
      refine tz_cV_i kz7 (zs_0) rfl (rest := []) (YX7_would) wk_723 (tX7_would (xs ((nI (4 * k)) + (1 : Int32)).toNatClampNeg) (xs ((nI (4 * k)) + (2 : Int32)).toNatClampNeg) w) rfl rfl (Nat.le_of_ble_eq_true rfl) ⟨Nat.le_of_ble_eq_true rfl, Nat.le_of_ble_eq_true rfl⟩ (zd DL_law_13 41 rfl) (fun v230 w228 e229 => ?_)
      refine tz_popi (zd DL_law_13 42 rfl) ?_
      refine tz_aload_n 2 rfl (zd DL_law_13 43 rfl) ?_
      refine tz_aload_n 0 rfl (zd DL_law_13 44 rfl) ?_
      refine tz_iload 4 rfl (zd DL_law_13 45 rfl) ?_
      refine tz_iconst (1 : Int32) zk_iconst_1 (zd DL_law_13 46 rfl) ?_
      refine tz_iadd (zd DL_law_13 47 rfl) ?_
      refine tz_sld (zd DL_law_13 48 rfl) ?_
      refine tz_aload_n 0 rfl (zd DL_law_13 49 rfl) ?_
      refine tz_iload 4 rfl (zd DL_law_13 50 rfl) ?_
      refine tz_iconst (2 : Int32) zk_iconst_2 (zd DL_law_13 51 rfl) ?_
      refine tz_iadd (zd DL_law_13 52 rfl) ?_
      refine tz_sld (zd DL_law_13 53 rfl) ?_
      refine tz_cV_i kz8 (zs_74) rfl (rest := []) (YX8_would) wk_1253 (tX8_would (xs ((nI (4 * k)) + (1 : Int32)).toNatClampNeg) (xs ((nI (4 * k)) + (2 : Int32)).toNatClampNeg) w228) rfl rfl (Nat.le_of_ble_eq_true rfl) ⟨Nat.le_of_ble_eq_true rfl, Nat.le_of_ble_eq_true rfl⟩ (zd DL_law_13 54 rfl) (fun v233 w231 e232 => ?_)
      refine tz_popi (zd DL_law_13 55 rfl) ?_
      refine tz_goto 1414 (zd DL_law_13 56 rfl) rfl ?_
      exact hj2 w231
    refine tz_case (fun q234 => ?_) (fun q234 => ?_)
    · refine tz_tin (33) 1324 (by rw [q234]; decide) (zd DL_law_0 24 rfl) (by decide) (by decide) rfl rfl ?_
      refine tz_lwk ?_
      refine tz_aload_n 1 rfl (zd DL_law_13 57 rfl) ?_
      refine tz_aload_n 0 rfl (zd DL_law_13 58 rfl) ?_
      refine tz_iload 4 rfl (zd DL_law_13 59 rfl) ?_
      refine tz_iconst (1 : Int32) zk_iconst_1 (zd DL_law_14 0 rfl) ?_
      refine tz_iadd (zd DL_law_14 1 rfl) ?_
      refine tz_sld (zd DL_law_14 2 rfl) ?_
      refine tz_aload_n 0 rfl (zd DL_law_14 3 rfl) ?_
      refine tz_iload 4 rfl (zd DL_law_14 4 rfl) ?_
      refine tz_iconst (2 : Int32) zk_iconst_2 (zd DL_law_14 5 rfl) ?_
      refine tz_iadd (zd DL_law_14 6 rfl) ?_
      refine tz_sld (zd DL_law_14 7 rfl) ?_
      refine tz_cV_i kz7 (zs_0) rfl (rest := []) (YX7_dearest) wk_729 (tX7_dearest (xs ((nI (4 * k)) + (1 : Int32)).toNatClampNeg) (xs ((nI (4 * k)) + (2 : Int32)).toNatClampNeg) w) rfl rfl (Nat.le_of_ble_eq_true rfl) ⟨Nat.le_of_ble_eq_true rfl, Nat.le_of_ble_eq_true rfl⟩ (zd DL_law_14 8 rfl) (fun v237 w235 e236 => ?_)
      refine tz_aload_n 2 rfl (zd DL_law_14 9 rfl) ?_
      refine tz_aload_n 0 rfl (zd DL_law_14 10 rfl) ?_
      refine tz_iload 4 rfl (zd DL_law_14 11 rfl) ?_
      refine tz_iconst (1 : Int32) zk_iconst_1 (zd DL_law_14 12 rfl) ?_
      refine tz_iadd (zd DL_law_14 13 rfl) ?_
      refine tz_sld (zd DL_law_14 14 rfl) ?_
      refine tz_aload_n 0 rfl (zd DL_law_14 15 rfl) ?_
      refine tz_iload 4 rfl (zd DL_law_14 16 rfl) ?_
      refine tz_iconst (2 : Int32) zk_iconst_2 (zd DL_law_14 17 rfl) ?_
      refine tz_iadd (zd DL_law_14 18 rfl) ?_
      refine tz_sld (zd DL_law_14 19 rfl) ?_
      refine tz_cV_i kz8 (zs_74) rfl (rest := [.int v237]) (YX8_dearest) wk_1257 (tX8_dearest (xs ((nI (4 * k)) + (1 : Int32)).toNatClampNeg) (xs ((nI (4 * k)) + (2 : Int32)).toNatClampNeg) w235) rfl rfl (Nat.le_of_ble_eq_true rfl) ⟨Nat.le_of_ble_eq_true rfl, Nat.le_of_ble_eq_true rfl⟩ (zd DL_law_14 20 rfl) (fun v240 w238 e239 => ?_)
      refine tz_icmp_eq 1414 (zd DL_law_14 21 rfl) rfl (fun q241 => ?_) (fun q241 => ?_)
      · exact hj2 w238
      refine tz_iconst (0 : Int32) zk_iconst_0 (zd DL_law_14 22 rfl) ?_
      exact tz_none
    refine tz_case (fun q242 => ?_) (fun q242 => ?_)
    · refine tz_tin (34) 1361 (by rw [q242]; decide) (zd DL_law_0 24 rfl) (by decide) (by decide) rfl rfl ?_
      refine tz_lwk ?_
      refine tz_aload_n 1 rfl (zd DL_law_14 24 rfl) ?_
      refine tz_aload_n 0 rfl (zd DL_law_14 25 rfl) ?_
      refine tz_iload 4 rfl (zd DL_law_14 26 rfl) ?_
      refine tz_iconst (1 : Int32) zk_iconst_1 (zd DL_law_14 27 rfl) ?_
      refine tz_iadd (zd DL_law_14 28 rfl) ?_
      refine tz_sld (zd DL_law_14 29 rfl) ?_
      refine tz_cV_i kz7 (zs_0) rfl (rest := []) (YX7_count) wk_754 (tX7_count (xs ((nI (4 * k)) + (1 : Int32)).toNatClampNeg) w) rfl rfl (Nat.le_of_ble_eq_true rfl) ⟨Nat.le_of_ble_eq_true rfl, Nat.le_of_ble_eq_true rfl⟩ (zd DL_law_14 30 rfl) (fun v245 w243 e244 => ?_)
      refine tz_popi (zd DL_law_14 31 rfl) ?_
      refine tz_aload_n 2 rfl (zd DL_law_14 32 rfl) ?_
      refine tz_aload_n 0 rfl (zd DL_law_14 33 rfl) ?_
      refine tz_iload 4 rfl (zd DL_law_14 34 rfl) ?_
      refine tz_iconst (1 : Int32) zk_iconst_1 (zd DL_law_14 35 rfl) ?_
      refine tz_iadd (zd DL_law_14 36 rfl) ?_
      refine tz_sld (zd DL_law_14 37 rfl) ?_
      refine tz_cV_i kz8 (zs_74) rfl (rest := []) (YX8_count) wk_1279 (tX8_count (xs ((nI (4 * k)) + (1 : Int32)).toNatClampNeg) w243) rfl rfl (Nat.le_of_ble_eq_true rfl) ⟨Nat.le_of_ble_eq_true rfl, Nat.le_of_ble_eq_true rfl⟩ (zd DL_law_14 38 rfl) (fun v248 w246 e247 => ?_)
      refine tz_popi (zd DL_law_14 39 rfl) ?_
      refine tz_goto 1414 (zd DL_law_14 40 rfl) rfl ?_
      exact hj2 w246
    refine tz_case (fun q249 => ?_) (fun q249 => ?_)
    · refine tz_tin (35) 1386 (by rw [q249]; decide) (zd DL_law_0 24 rfl) (by decide) (by decide) rfl rfl ?_
      refine tz_aload_n 1 rfl (zd DL_law_14 41 rfl) ?_
      refine tz_aload_n 0 rfl (zd DL_law_14 42 rfl) ?_
      refine tz_iload 4 rfl (zd DL_law_14 43 rfl) ?_
      refine tz_iconst (1 : Int32) zk_iconst_1 (zd DL_law_14 44 rfl) ?_
      refine tz_iadd (zd DL_law_14 45 rfl) ?_
      refine tz_sld (zd DL_law_14 46 rfl) ?_
      refine tz_aload_n 3 rfl (zd DL_law_14 47 rfl) ?_
      refine tz_cX1 (n := 3) (My := ML_row) (rest := []) (by omega) wk_834 wk_833 wk_0 wk_832 ⟨by decide, by decide, by decide +kernel⟩ rfl rfl ⟨Nat.le_of_ble_eq_true rfl, Nat.le_of_ble_eq_true rfl⟩ (tL_row (xs ((nI (4 * k)) + (1 : Int32)).toNatClampNeg) w) rfl rfl (Nat.le_of_ble_eq_true rfl) (zd DL_law_14 48 rfl) (fun v250 w251 e252 => ?_)
      refine tz_istore [(5, .int v250), (0, .ref 94), (1, .ref 0), (2, .ref 74), (3, .ref 92), (4, .int (nI (4 * k)))] (Nat.le_of_ble_eq_true rfl) rfl (zd DL_law_14 49 rfl) ?_
      refine tz_aload_n 3 rfl (zd DL_law_14 50 rfl) ?_
      refine tz_aload_n 1 rfl (zd DL_law_14 51 rfl) ?_
      refine tz_iload 5 rfl (zd DL_law_14 52 rfl) ?_
      refine tz_iconst (1 : Int32) zk_iconst_1 (zd DL_law_14 53 rfl) ?_
      refine tz_iadd (zd DL_law_14 54 rfl) ?_
      refine tz_sld (zd DL_law_14 55 rfl) ?_
      refine tz_cV_l kz8 (zs_74) rfl (rest := []) (YX8_row) wk_1283 (tX8_row (xs ((nI (4 * k)) + (1 : Int32)).toNatClampNeg) w251) rfl rfl (Nat.le_of_ble_eq_true rfl) ⟨Nat.le_of_ble_eq_true rfl, Nat.le_of_ble_eq_true rfl⟩ (zd DL_law_14 56 rfl) (fun v255 w253 e254 => ?_)
      refine tz_lstore [(6, .long v255), (5, .int v250), (0, .ref 94), (1, .ref 0), (2, .ref 74), (3, .ref 92), (4, .int (nI (4 * k)))] (Nat.le_of_ble_eq_true rfl) rfl (zd DL_law_14 57 rfl) ?_
      refine tz_goto 1414 (zd DL_law_14 58 rfl) rfl ?_
      refine tz_lv (lv2 := [(0, .ref 94), (1, .ref 0), (2, .ref 74), (3, .ref 92), (4, .int (nI (4 * k)))]) [2, 3, 4, 5, 6] rfl ?_
      exact hj2 w253
    refine tz_tout 1414 (by have eq3 := z_ne q3; have eq10 := z_ne q10; have eq17 := z_ne q17; have eq24 := z_ne q24; have eq31 := z_ne q31; have eq38 := z_ne q38; have eq45 := z_ne q45; have eq52 := z_ne q52; have eq59 := z_ne q59; have eq66 := z_ne q66; have eq73 := z_ne q73; have eq80 := z_ne q80; have eq87 := z_ne q87; have eq94 := z_ne q94; have eq101 := z_ne q101; have eq108 := z_ne q108; have eq115 := z_ne q115; have eq122 := z_ne q122; have eq129 := z_ne q129; have eq136 := z_ne q136; have eq143 := z_ne q143; have eq150 := z_ne q150; have eq157 := z_ne q157; have eq164 := z_ne q164; have eq171 := z_ne q171; have eq178 := z_ne q178; have eq185 := z_ne q185; have eq192 := z_ne q192; have eq199 := z_ne q199; have eq206 := z_ne q206; have eq213 := z_ne q213; have eq220 := z_ne q220; have eq227 := z_ne q227; have eq234 := z_ne q234; have eq242 := z_ne q242; have eq249 := z_ne q249; rw [show ((0 : Int32)).toInt = 0 from rfl] at eq3; rw [show ((1 : Int32)).toInt = 1 from rfl] at eq10; rw [show ((2 : Int32)).toInt = 2 from rfl] at eq17; rw [show ((3 : Int32)).toInt = 3 from rfl] at eq24; rw [show ((4 : Int32)).toInt = 4 from rfl] at eq31; rw [show ((5 : Int32)).toInt = 5 from rfl] at eq38; rw [show ((6 : Int32)).toInt = 6 from rfl] at eq45; rw [show ((7 : Int32)).toInt = 7 from rfl] at eq52; rw [show ((8 : Int32)).toInt = 8 from rfl] at eq59; rw [show ((9 : Int32)).toInt = 9 from rfl] at eq66; rw [show ((10 : Int32)).toInt = 10 from rfl] at eq73; rw [show ((11 : Int32)).toInt = 11 from rfl] at eq80; rw [show ((12 : Int32)).toInt = 12 from rfl] at eq87; rw [show ((13 : Int32)).toInt = 13 from rfl] at eq94; rw [show ((14 : Int32)).toInt = 14 from rfl] at eq101; rw [show ((15 : Int32)).toInt = 15 from rfl] at eq108; rw [show ((16 : Int32)).toInt = 16 from rfl] at eq115; rw [show ((17 : Int32)).toInt = 17 from rfl] at eq122; rw [show ((18 : Int32)).toInt = 18 from rfl] at eq129; rw [show ((19 : Int32)).toInt = 19 from rfl] at eq136; rw [show ((20 : Int32)).toInt = 20 from rfl] at eq143; rw [show ((21 : Int32)).toInt = 21 from rfl] at eq150; rw [show ((22 : Int32)).toInt = 22 from rfl] at eq157; rw [show ((23 : Int32)).toInt = 23 from rfl] at eq164; rw [show ((24 : Int32)).toInt = 24 from rfl] at eq171; rw [show ((25 : Int32)).toInt = 25 from rfl] at eq178; rw [show ((26 : Int32)).toInt = 26 from rfl] at eq185; rw [show ((27 : Int32)).toInt = 27 from rfl] at eq192; rw [show ((28 : Int32)).toInt = 28 from rfl] at eq199; rw [show ((29 : Int32)).toInt = 29 from rfl] at eq206; rw [show ((30 : Int32)).toInt = 30 from rfl] at eq213; rw [show ((31 : Int32)).toInt = 31 from rfl] at eq220; rw [show ((32 : Int32)).toInt = 32 from rfl] at eq227; rw [show ((33 : Int32)).toInt = 33 from rfl] at eq234; rw [show ((34 : Int32)).toInt = 34 from rfl] at eq242; rw [show ((35 : Int32)).toInt = 35 from rfl] at eq249; omega) (zd DL_law_0 24 rfl) rfl ?_
    refine tz_lwk ?_
    exact hj2 w
