def QX0_startWith : List (Nat × Instr × Nat) := [(0, .aload_n 0, 1), (1, .lload_n 1, 1), (2, .putfield 18, 3), (5, .aload_n 0, 1), (6, .lload_n 3, 1), (7, .putfield 22, 3), (10, .return_, 1)]
set_option maxRecDepth 100000 in
theorem DX0_startWith : ∀ q ∈ QX0_startWith, decode cX0_startWith q.1 = .ok (q.2.1, q.2.2) := by decide +kernel
abbrev MX0_startWith : zM := (cX0_startWith, "EndSums$Joining", 5, none, { frames := 0, cells := 0, slots := 0, locals := 0 })
def fX0_startWith (a1 : Int64) (a3 : Int64) (w : zW) : Option (Unit × zW) :=
  lt (zsL w 1 2 a1) fun w1 =>
  lt (zsL w1 1 3 a3) fun w2 =>
  some ((), w2)
theorem YX0_startWith : zYV yX0_startWith MX0_startWith 2 := ⟨wk_313, wk_2, ⟨wk_312, ws_17⟩, ⟨by decide, by decide, by decide +kernel⟩, rfl, rfl⟩
set_option maxHeartbeats 4000000 in
set_option maxRecDepth 100000 in
theorem tX0_startWith (a1 : Int64) (a3 : Int64) (w : zW) : Sm yX0_startWith MX0_startWith zn [.ref 1, .long a1, .long a3] w (fX0_startWith a1 a3 w) := by
  refine Sm_of (lv0 := [(0, .ref 1), (1, .long a1), (3, .long a3)]) (by decide) rfl (fun _ => Nat.le_of_ble_eq_true rfl) rfl ?_
  unfold fX0_startWith
  refine tz_aload_n 0 rfl (zd DX0_startWith 0 rfl) ?_
  refine tz_lload_n 1 rfl (zd DX0_startWith 1 rfl) ?_
  refine tz_putJ 2 kz0 (zs_1) (by decide) rfl rfl wk_54 (zd DX0_startWith 2 rfl) (fun w1 => ?_)
  refine tz_aload_n 0 rfl (zd DX0_startWith 3 rfl) ?_
  refine tz_lload_n 2 rfl (zd DX0_startWith 4 rfl) ?_
  refine tz_putJ 3 kz0 (zs_1) (by decide) rfl rfl wk_57 (zd DX0_startWith 5 rfl) (fun w2 => ?_)
  exact tz_vret rfl (zd DX0_startWith 6 rfl)
def QX0_comesTo : List (Nat × Instr × Nat) := [(0, .aload_n 0, 1), (1, .getfield 18, 3), (4, .lload_n 1, 1), (5, .lcmp, 1), (6, .ifCond .ne 16, 3), (9, .aload_n 0, 1), (10, .getfield 22, 3), (13, .lload_n 3, 1), (14, .lcmp, 1), (15, .ifCond .ne 7, 3), (18, .iconst 1, 1), (19, .goto 4, 3), (22, .iconst 0, 1), (23, .ireturn, 1)]
set_option maxRecDepth 100000 in
theorem DX0_comesTo : ∀ q ∈ QX0_comesTo, decode cX0_comesTo q.1 = .ok (q.2.1, q.2.2) := by decide +kernel
abbrev MX0_comesTo : zM := (cX0_comesTo, "EndSums$Joining", 5, (some .boolean), { frames := 0, cells := 0, slots := 0, locals := 0 })
def fX0_comesTo (a1 : Int64) (a3 : Int64) (w : zW) : Option (Bool × zW) :=
  if ¬ (zL w 1 2) = a1 then
    some (false, w)
  else
  if ¬ (zL w 1 3) = a3 then
    some (false, w)
  else
  some (true, w)
theorem YX0_comesTo : zYV yX0_comesTo MX0_comesTo 2 := ⟨wk_425, wk_2, ⟨wk_424, ws_35⟩, ⟨by decide, by decide, by decide +kernel⟩, rfl, rfl⟩
set_option maxHeartbeats 4000000 in
set_option maxRecDepth 100000 in
theorem tX0_comesTo (a1 : Int64) (a3 : Int64) (w : zW) : Sm yX0_comesTo MX0_comesTo zz [.ref 1, .long a1, .long a3] w (fX0_comesTo a1 a3 w) := by
  refine Sm_of (lv0 := [(0, .ref 1), (1, .long a1), (3, .long a3)]) (by decide) rfl (fun _ => Nat.le_of_ble_eq_true rfl) rfl ?_
  unfold fX0_comesTo
  refine tz_aload_n 0 rfl (zd DX0_comesTo 0 rfl) ?_
  refine tz_getJ 2 kz0 (zs_1) (by decide) rfl wk_54 (zd DX0_comesTo 1 rfl) ?_
  refine tz_lload_n 1 rfl (zd DX0_comesTo 2 rfl) ?_
  refine tz_lcmp_ne 22 (zd DX0_comesTo 3 rfl) (zd DX0_comesTo 4 rfl) rfl (fun q1 => ?_) (fun q1 => ?_)
  · refine tz_iconst (0 : Int32) zk_iconst_0 (zd DX0_comesTo 12 rfl) ?_
    exact tz_zret0 rfl (zd DX0_comesTo 13 rfl)
  refine tz_aload_n 0 rfl (zd DX0_comesTo 5 rfl) ?_
  refine tz_getJ 3 kz0 (zs_1) (by decide) rfl wk_57 (zd DX0_comesTo 6 rfl) ?_
  refine tz_lload_n 2 rfl (zd DX0_comesTo 7 rfl) ?_
  refine tz_lcmp_ne 22 (zd DX0_comesTo 8 rfl) (zd DX0_comesTo 9 rfl) rfl (fun q2 => ?_) (fun q2 => ?_)
  · refine tz_iconst (0 : Int32) zk_iconst_0 (zd DX0_comesTo 12 rfl) ?_
    exact tz_zret0 rfl (zd DX0_comesTo 13 rfl)
  refine tz_iconst (1 : Int32) zk_iconst_1 (zd DX0_comesTo 10 rfl) ?_
  refine tz_goto 23 (zd DX0_comesTo 11 rfl) rfl ?_
  exact tz_zret1 rfl (zd DX0_comesTo 13 rfl)
def QX0_emptyP : List (Nat × Instr × Nat) := [(0, .aload_n 0, 1), (1, .getfield 47, 3), (4, .tableswitch 63 1 7 #[44, 63, 48, 63, 63, 50, 54], 44), (48, .ldc2_w 51, 3), (51, .lreturn, 1), (52, .lconst 1, 1), (53, .lreturn, 1), (54, .ldc2_w 53, 3), (57, .lreturn, 1), (58, .aload_n 0, 1), (59, .getfield 12, 3), (62, .getfield 55, 3), (65, .i2l, 1), (66, .lreturn, 1), (67, .lconst 0, 1), (68, .lreturn, 1)]
set_option maxRecDepth 100000 in
theorem DX0_emptyP : ∀ q ∈ QX0_emptyP, decode cX0_emptyP q.1 = .ok (q.2.1, q.2.2) := by decide +kernel
abbrev MX0_emptyP : zM := (cX0_emptyP, "EndSums$Joining", 1, (some .long), { frames := 0, cells := 0, slots := 0, locals := 0 })
def fX0_emptyP  (w : zW) : Option (Int64 × zW) :=
  if (zI w 1 0) = (1 : Int32) then
    some ((10000 : Int64), w)
  else
  if (zI w 1 0) = (2 : Int32) then
    some ((0 : Int64), w)
  else
  if (zI w 1 0) = (3 : Int32) then
    some ((1 : Int64), w)
  else
  if (zI w 1 0) = (4 : Int32) then
    some ((0 : Int64), w)
  else
  if (zI w 1 0) = (5 : Int32) then
    some ((0 : Int64), w)
  else
  if (zI w 1 0) = (6 : Int32) then
    some ((-1 : Int64), w)
  else
  if (zI w 1 0) = (7 : Int32) then
    some ((zI w 2 1).toInt64, w)
  else
  some ((0 : Int64), w)
theorem YX0_emptyP : zYV yX0_emptyP MX0_emptyP 0 := ⟨wk_276, wk_2, ⟨wk_275, ws_11⟩, ⟨by decide, by decide, by decide +kernel⟩, rfl, rfl⟩
set_option maxHeartbeats 4000000 in
set_option maxRecDepth 100000 in
theorem tX0_emptyP  (w : zW) : Sm yX0_emptyP MX0_emptyP zl [.ref 1] w (fX0_emptyP w) := by
  refine Sm_of (lv0 := [(0, .ref 1)]) (by decide) rfl (fun _ => Nat.le_of_ble_eq_true rfl) rfl ?_
  unfold fX0_emptyP
  refine tz_aload_n 0 rfl (zd DX0_emptyP 0 rfl) ?_
  refine tz_getI 0 kz0 (zs_1) (by decide) rfl wk_51 (zd DX0_emptyP 1 rfl) ?_
  refine tz_case (fun q1 => ?_) (fun q1 => ?_)
  · refine tz_tin (1) 48 (by rw [q1]; decide) (zd DX0_emptyP 2 rfl) (by decide) (by decide) rfl rfl ?_
    refine tz_ldc2_w wk_277 (zd DX0_emptyP 3 rfl) ?_
    exact tz_lret rfl (zd DX0_emptyP 4 rfl)
  refine tz_case (fun q2 => ?_) (fun q2 => ?_)
  · refine tz_tin (2) 67 (by rw [q2]; decide) (zd DX0_emptyP 2 rfl) (by decide) (by decide) rfl rfl ?_
    refine tz_lconst (0 : Int64) rfl (zd DX0_emptyP 14 rfl) ?_
    exact tz_lret rfl (zd DX0_emptyP 15 rfl)
  refine tz_case (fun q3 => ?_) (fun q3 => ?_)
  · refine tz_tin (3) 52 (by rw [q3]; decide) (zd DX0_emptyP 2 rfl) (by decide) (by decide) rfl rfl ?_
    refine tz_lconst (1 : Int64) rfl (zd DX0_emptyP 5 rfl) ?_
    exact tz_lret rfl (zd DX0_emptyP 6 rfl)
  refine tz_case (fun q4 => ?_) (fun q4 => ?_)
  · refine tz_tin (4) 67 (by rw [q4]; decide) (zd DX0_emptyP 2 rfl) (by decide) (by decide) rfl rfl ?_
    refine tz_lconst (0 : Int64) rfl (zd DX0_emptyP 14 rfl) ?_
    exact tz_lret rfl (zd DX0_emptyP 15 rfl)
  refine tz_case (fun q5 => ?_) (fun q5 => ?_)
  · refine tz_tin (5) 67 (by rw [q5]; decide) (zd DX0_emptyP 2 rfl) (by decide) (by decide) rfl rfl ?_
    refine tz_lconst (0 : Int64) rfl (zd DX0_emptyP 14 rfl) ?_
    exact tz_lret rfl (zd DX0_emptyP 15 rfl)
  refine tz_case (fun q6 => ?_) (fun q6 => ?_)
  · refine tz_tin (6) 54 (by rw [q6]; decide) (zd DX0_emptyP 2 rfl) (by decide) (by decide) rfl rfl ?_
    refine tz_ldc2_w wk_278 (zd DX0_emptyP 7 rfl) ?_
    exact tz_lret rfl (zd DX0_emptyP 8 rfl)
  refine tz_case (fun q7 => ?_) (fun q7 => ?_)
  · refine tz_tin (7) 58 (by rw [q7]; decide) (zd DX0_emptyP 2 rfl) (by decide) (by decide) rfl rfl ?_
    refine tz_aload_n 0 rfl (zd DX0_emptyP 9 rfl) ?_
    refine tz_getR 2 1 kz0 (zs_1) (by decide) (by decide) rfl wk_52 (zd DX0_emptyP 10 rfl) ?_
    refine tz_getIN 1 kz3 (zs_2) (by decide) rfl wn_40 (zd DX0_emptyP 11 rfl) ?_
    refine tz_i2l (zd DX0_emptyP 12 rfl) ?_
    exact tz_lret rfl (zd DX0_emptyP 13 rfl)
  refine tz_tout 67 (by have eq1 := z_ne q1; have eq2 := z_ne q2; have eq3 := z_ne q3; have eq4 := z_ne q4; have eq5 := z_ne q5; have eq6 := z_ne q6; have eq7 := z_ne q7; rw [show ((1 : Int32)).toInt = 1 from rfl] at eq1; rw [show ((2 : Int32)).toInt = 2 from rfl] at eq2; rw [show ((3 : Int32)).toInt = 3 from rfl] at eq3; rw [show ((4 : Int32)).toInt = 4 from rfl] at eq4; rw [show ((5 : Int32)).toInt = 5 from rfl] at eq5; rw [show ((6 : Int32)).toInt = 6 from rfl] at eq6; rw [show ((7 : Int32)).toInt = 7 from rfl] at eq7; omega) (zd DX0_emptyP 2 rfl) rfl ?_
  refine tz_lconst (0 : Int64) rfl (zd DX0_emptyP 14 rfl) ?_
  exact tz_lret rfl (zd DX0_emptyP 15 rfl)
def QX0_emptyQ : List (Nat × Instr × Nat) := [(0, .aload_n 0, 1), (1, .getfield 47, 3), (4, .iconst 1, 1), (5, .if_icmp .eq 12, 3), (8, .aload_n 0, 1), (9, .getfield 47, 3), (12, .bipush 6, 2), (14, .if_icmp .ne 9, 3), (17, .ldc2_w 53, 3), (20, .goto 4, 3), (23, .lconst 0, 1), (24, .lreturn, 1)]
set_option maxRecDepth 100000 in
theorem DX0_emptyQ : ∀ q ∈ QX0_emptyQ, decode cX0_emptyQ q.1 = .ok (q.2.1, q.2.2) := by decide +kernel
abbrev MX0_emptyQ : zM := (cX0_emptyQ, "EndSums$Joining", 1, (some .long), { frames := 0, cells := 0, slots := 0, locals := 0 })
def fX0_emptyQ  (w : zW) : Option (Int64 × zW) :=
  lt (fun (w1 : zW) =>
    some ((-1 : Int64), w1)) fun j1 =>
  if (zI w 1 0) = (1 : Int32) then
    j1 w
  else
  if ¬ (zI w 1 0) = (6 : Int32) then
    some ((0 : Int64), w)
  else
  j1 w
theorem YX0_emptyQ : zYV yX0_emptyQ MX0_emptyQ 0 := ⟨wk_285, wk_2, ⟨wk_284, ws_12⟩, ⟨by decide, by decide, by decide +kernel⟩, rfl, rfl⟩
set_option maxHeartbeats 4000000 in
set_option maxRecDepth 100000 in
theorem tX0_emptyQ  (w : zW) : Sm yX0_emptyQ MX0_emptyQ zl [.ref 1] w (fX0_emptyQ w) := by
  refine Sm_of (lv0 := [(0, .ref 1)]) (by decide) rfl (fun _ => Nat.le_of_ble_eq_true rfl) rfl ?_
  unfold fX0_emptyQ
  refine tz_aload_n 0 rfl (zd DX0_emptyQ 0 rfl) ?_
  refine tz_getI 0 kz0 (zs_1) (by decide) rfl wk_51 (zd DX0_emptyQ 1 rfl) ?_
  refine tz_iconst (1 : Int32) zk_iconst_1 (zd DX0_emptyQ 2 rfl) ?_
  refine tz_jp (P := fun j => ∀ (w1 : zW), Tz MX0_emptyQ (zRet zl) (j w1) 17 [] [] w1) ?_ (fun j1 hj1 => ?_)
  · intro w1
    refine tz_ldc2_w wk_278 (zd DX0_emptyQ 8 rfl) ?_
    refine tz_goto 24 (zd DX0_emptyQ 9 rfl) rfl ?_
    exact tz_lret rfl (zd DX0_emptyQ 11 rfl)
  refine tz_icmp_eq 17 (zd DX0_emptyQ 3 rfl) rfl (fun q2 => ?_) (fun q2 => ?_)
  · refine tz_lv (lv2 := []) [] rfl ?_
    exact hj1 w
  refine tz_aload_n 0 rfl (zd DX0_emptyQ 4 rfl) ?_
  refine tz_getI 0 kz0 (zs_1) (by decide) rfl wk_51 (zd DX0_emptyQ 5 rfl) ?_
  refine tz_bipush (6 : Int32) zk_bipush_6 (zd DX0_emptyQ 6 rfl) ?_
  refine tz_icmp_ne 23 (zd DX0_emptyQ 7 rfl) rfl (fun q3 => ?_) (fun q3 => ?_)
  · refine tz_lconst (0 : Int64) rfl (zd DX0_emptyQ 10 rfl) ?_
    exact tz_lret rfl (zd DX0_emptyQ 11 rfl)
  refine tz_lv (lv2 := []) [] rfl ?_
  exact hj1 w
def QX0_startEmpty : List (Nat × Instr × Nat) := [(0, .aload_n 0, 1), (1, .aload_n 0, 1), (2, .invokevirtual 25, 3), (5, .aload_n 0, 1), (6, .invokevirtual 29, 3), (9, .invokevirtual 32, 3), (12, .return_, 1)]
set_option maxRecDepth 100000 in
theorem DX0_startEmpty : ∀ q ∈ QX0_startEmpty, decode cX0_startEmpty q.1 = .ok (q.2.1, q.2.2) := by decide +kernel
abbrev MX0_startEmpty : zM := (cX0_startEmpty, "EndSums$Joining", 1, none, { frames := 1, cells := 0, slots := 0, locals := 24 })
def fX0_startEmpty  (w : zW) : Option (Unit × zW) :=
  bd (fX0_emptyP w) fun v3 w1 =>
  bd (fX0_emptyQ w1) fun v6 w4 =>
  bd (fX0_startWith v3 v6 w4) fun _ w7 =>
  some ((), w7)
theorem YX0_startEmpty : zYV yX0_startEmpty MX0_startEmpty 0 := ⟨wk_442, wk_2, ⟨wk_441, ws_38⟩, ⟨by decide, by decide, by decide +kernel⟩, rfl, rfl⟩
set_option maxHeartbeats 4000000 in
set_option maxRecDepth 100000 in
theorem tX0_startEmpty  (w : zW) : Sm yX0_startEmpty MX0_startEmpty zn [.ref 1] w (fX0_startEmpty w) := by
  refine Sm_of (lv0 := [(0, .ref 1)]) (by decide) rfl (fun _ => Nat.le_of_ble_eq_true rfl) rfl ?_
  unfold fX0_startEmpty
  refine tz_aload_n 0 rfl (zd DX0_startEmpty 0 rfl) ?_
  refine tz_aload_n 0 rfl (zd DX0_startEmpty 1 rfl) ?_
  refine tz_cV_l kz0 (zs_1) rfl (rest := [.ref 1]) (YX0_emptyP) wk_443 (tX0_emptyP w) rfl rfl (Nat.le_of_ble_eq_true rfl) ⟨Nat.le_of_ble_eq_true rfl, Nat.le_of_ble_eq_true rfl⟩ (zd DX0_startEmpty 2 rfl) (fun v3 w1 e2 => ?_)
  refine tz_aload_n 0 rfl (zd DX0_startEmpty 3 rfl) ?_
  refine tz_cV_l kz0 (zs_1) rfl (rest := [.long v3, .ref 1]) (YX0_emptyQ) wk_444 (tX0_emptyQ w1) rfl rfl (Nat.le_of_ble_eq_true rfl) ⟨Nat.le_of_ble_eq_true rfl, Nat.le_of_ble_eq_true rfl⟩ (zd DX0_startEmpty 4 rfl) (fun v6 w4 e5 => ?_)
  refine tz_cV_n kz0 (zs_1) rfl (rest := []) (YX0_startWith) wk_310 (tX0_startWith v3 v6 w4) rfl rfl (Nat.le_of_ble_eq_true rfl) ⟨Nat.le_of_ble_eq_true rfl, Nat.le_of_ble_eq_true rfl⟩ (zd DX0_startEmpty 5 rfl) (fun v9 w7 e8 => ?_)
  exact tz_vret rfl (zd DX0_startEmpty 6 rfl)
def QX3_kindOf : List (Nat × Instr × Nat) := [(0, .aload_n 0, 1), (1, .getfield 9, 3), (4, .iconst 1, 1), (5, .if_icmp .ge 7, 3), (8, .iconst 0, 1), (9, .goto 9, 3), (12, .iload_n 1, 1), (13, .aload_n 0, 1), (14, .getfield 9, 3), (17, .irem, 1), (18, .ireturn, 1)]
set_option maxRecDepth 100000 in
theorem DX3_kindOf : ∀ q ∈ QX3_kindOf, decode cX3_kindOf q.1 = .ok (q.2.1, q.2.2) := by decide +kernel
abbrev MX3_kindOf : zM := (cX3_kindOf, "EndSums$Table", 2, (some .int), { frames := 0, cells := 0, slots := 0, locals := 0 })
def fX3_kindOf (h0 : Nat) (a1 : Int32) (w : zW) : Option (Int32 × zW) :=
  if (1 : Int32) ≤ (zI w h0 0) then
    if (zI w h0 0) = 0 then none else
    some ((a1 - a1 / (zI w h0 0) * (zI w h0 0)), w)
  else
  some ((0 : Int32), w)
theorem YX3_kindOf : zYV yX3_kindOf MX3_kindOf 1 := ⟨wk_293, wk_3, ⟨wk_292, ws_14⟩, ⟨by decide, by decide, by decide +kernel⟩, rfl, rfl⟩
set_option maxHeartbeats 4000000 in
set_option maxRecDepth 100000 in
theorem tX3_kindOf (h0 : Nat) (hh0 : zc 3 h0) (a1 : Int32) (w : zW) : Sm yX3_kindOf MX3_kindOf zi [.ref h0, .int a1] w (fX3_kindOf h0 a1 w) := by
  refine Sm_of (lv0 := [(0, .ref h0), (1, .int a1)]) (by decide) rfl (fun _ => Nat.le_of_ble_eq_true rfl) rfl ?_
  unfold fX3_kindOf
  refine tz_aload_n 0 rfl (zd DX3_kindOf 0 rfl) ?_
  refine tz_getI 0 kz3 (hh0) (by decide) rfl wk_35 (zd DX3_kindOf 1 rfl) ?_
  refine tz_iconst (1 : Int32) zk_iconst_1 (zd DX3_kindOf 2 rfl) ?_
  refine tz_icmp_ge 12 (zd DX3_kindOf 3 rfl) rfl (fun q1 => ?_) (fun q1 => ?_)
  · refine tz_iload_n 1 rfl (zd DX3_kindOf 6 rfl) ?_
    refine tz_aload_n 0 rfl (zd DX3_kindOf 7 rfl) ?_
    refine tz_getI 0 kz3 (hh0) (by decide) rfl wk_35 (zd DX3_kindOf 8 rfl) ?_
    refine tz_case (fun _ => tz_none) (fun q2 => ?_)
    refine tz_irem q2 (zd DX3_kindOf 9 rfl) ?_
    exact tz_iret rfl (zd DX3_kindOf 10 rfl)
  refine tz_iconst (0 : Int32) zk_iconst_0 (zd DX3_kindOf 4 rfl) ?_
  refine tz_goto 18 (zd DX3_kindOf 5 rfl) rfl ?_
  exact tz_iret rfl (zd DX3_kindOf 10 rfl)
def QX0_elementP : List (Nat × Instr × Nat) := [(0, .aload_n 0, 1), (1, .getfield 47, 3), (4, .tableswitch 79 3 7 #[36, 45, 63, 79, 69], 36), (40, .iload_n 1, 1), (41, .bipush 101, 2), (43, .idiv, 1), (44, .bipush 101, 2), (46, .irem, 1), (47, .i2l, 1), (48, .lreturn, 1), (49, .iload_n 1, 1), (50, .iconst 2, 1), (51, .irem, 1), (52, .ifCond .ne 7, 3), (55, .lconst 0, 1), (56, .goto 10, 3), (59, .iload_n 1, 1), (60, .iconst 2, 1), (61, .idiv, 1), (62, .bipush 10, 2), (64, .irem, 1), (65, .i2l, 1), (66, .lreturn, 1), (67, .iload_n 1, 1), (68, .bipush 24, 2), (70, .irem, 1), (71, .i2l, 1), (72, .lreturn, 1), (73, .aload_n 0, 1), (74, .getfield 12, 3), (77, .iload_n 1, 1), (78, .invokevirtual 58, 3), (81, .i2l, 1), (82, .lreturn, 1), (83, .iload_n 1, 1), (84, .i2l, 1), (85, .lreturn, 1)]
set_option maxRecDepth 100000 in
theorem DX0_elementP : ∀ q ∈ QX0_elementP, decode cX0_elementP q.1 = .ok (q.2.1, q.2.2) := by decide +kernel
abbrev MX0_elementP : zM := (cX0_elementP, "EndSums$Joining", 2, (some .long), { frames := 1, cells := 0, slots := 0, locals := 21 })
def fX0_elementP (a1 : Int32) (w : zW) : Option (Int64 × zW) :=
  if (zI w 1 0) = (3 : Int32) then
    some (((a1 / (101 : Int32)) - (a1 / (101 : Int32)) / (101 : Int32) * (101 : Int32)).toInt64, w)
  else
  if (zI w 1 0) = (4 : Int32) then
    if ¬ (a1 - a1 / (2 : Int32) * (2 : Int32)) = (0 : Int32) then
      some (((a1 / (2 : Int32)) - (a1 / (2 : Int32)) / (10 : Int32) * (10 : Int32)).toInt64, w)
    else
    some ((0 : Int64), w)
  else
  if (zI w 1 0) = (5 : Int32) then
    some ((a1 - a1 / (24 : Int32) * (24 : Int32)).toInt64, w)
  else
  if (zI w 1 0) = (6 : Int32) then
    some ((a1).toInt64, w)
  else
  if (zI w 1 0) = (7 : Int32) then
    bd (fX3_kindOf 2 a1 w) fun v9 w7 =>
    some ((v9).toInt64, w7)
  else
  some ((a1).toInt64, w)
theorem YX0_elementP : zYV yX0_elementP MX0_elementP 1 := ⟨wk_289, wk_2, ⟨wk_288, ws_13⟩, ⟨by decide, by decide, by decide +kernel⟩, rfl, rfl⟩
set_option maxHeartbeats 4000000 in
set_option maxRecDepth 100000 in
theorem tX0_elementP (a1 : Int32) (w : zW) : Sm yX0_elementP MX0_elementP zl [.ref 1, .int a1] w (fX0_elementP a1 w) := by
  refine Sm_of (lv0 := [(0, .ref 1), (1, .int a1)]) (by decide) rfl (fun _ => Nat.le_of_ble_eq_true rfl) rfl ?_
  unfold fX0_elementP
  refine tz_aload_n 0 rfl (zd DX0_elementP 0 rfl) ?_
  refine tz_getI 0 kz0 (zs_1) (by decide) rfl wk_51 (zd DX0_elementP 1 rfl) ?_
  refine tz_case (fun q1 => ?_) (fun q1 => ?_)
  · refine tz_tin (3) 40 (by rw [q1]; decide) (zd DX0_elementP 2 rfl) (by decide) (by decide) rfl rfl ?_
    refine tz_iload_n 1 rfl (zd DX0_elementP 3 rfl) ?_
    refine tz_bipush (101 : Int32) zk_bipush_101 (zd DX0_elementP 4 rfl) ?_
    refine tz_idiv (by decide) (zd DX0_elementP 5 rfl) ?_
    refine tz_bipush (101 : Int32) zk_bipush_101 (zd DX0_elementP 6 rfl) ?_
    refine tz_irem (by decide) (zd DX0_elementP 7 rfl) ?_
    refine tz_i2l (zd DX0_elementP 8 rfl) ?_
    exact tz_lret rfl (zd DX0_elementP 9 rfl)
  refine tz_case (fun q2 => ?_) (fun q2 => ?_)
  · refine tz_tin (4) 49 (by rw [q2]; decide) (zd DX0_elementP 2 rfl) (by decide) (by decide) rfl rfl ?_
    refine tz_iload_n 1 rfl (zd DX0_elementP 10 rfl) ?_
    refine tz_iconst (2 : Int32) zk_iconst_2 (zd DX0_elementP 11 rfl) ?_
    refine tz_irem (by decide) (zd DX0_elementP 12 rfl) ?_
    refine tz_if_ne 59 (zd DX0_elementP 13 rfl) rfl (fun q3 => ?_) (fun q3 => ?_)
    · refine tz_iload_n 1 rfl (zd DX0_elementP 16 rfl) ?_
      refine tz_iconst (2 : Int32) zk_iconst_2 (zd DX0_elementP 17 rfl) ?_
      refine tz_idiv (by decide) (zd DX0_elementP 18 rfl) ?_
      refine tz_bipush (10 : Int32) zk_bipush_10 (zd DX0_elementP 19 rfl) ?_
      refine tz_irem (by decide) (zd DX0_elementP 20 rfl) ?_
      refine tz_i2l (zd DX0_elementP 21 rfl) ?_
      exact tz_lret rfl (zd DX0_elementP 22 rfl)
    refine tz_lconst (0 : Int64) rfl (zd DX0_elementP 14 rfl) ?_
    refine tz_goto 66 (zd DX0_elementP 15 rfl) rfl ?_
    exact tz_lret rfl (zd DX0_elementP 22 rfl)
  refine tz_case (fun q4 => ?_) (fun q4 => ?_)
  · refine tz_tin (5) 67 (by rw [q4]; decide) (zd DX0_elementP 2 rfl) (by decide) (by decide) rfl rfl ?_
    refine tz_iload_n 1 rfl (zd DX0_elementP 23 rfl) ?_
    refine tz_bipush (24 : Int32) zk_bipush_24 (zd DX0_elementP 24 rfl) ?_
    refine tz_irem (by decide) (zd DX0_elementP 25 rfl) ?_
    refine tz_i2l (zd DX0_elementP 26 rfl) ?_
    exact tz_lret rfl (zd DX0_elementP 27 rfl)
  refine tz_case (fun q5 => ?_) (fun q5 => ?_)
  · refine tz_tin (6) 83 (by rw [q5]; decide) (zd DX0_elementP 2 rfl) (by decide) (by decide) rfl rfl ?_
    refine tz_iload_n 1 rfl (zd DX0_elementP 34 rfl) ?_
    refine tz_i2l (zd DX0_elementP 35 rfl) ?_
    exact tz_lret rfl (zd DX0_elementP 36 rfl)
  refine tz_case (fun q6 => ?_) (fun q6 => ?_)
  · refine tz_tin (7) 73 (by rw [q6]; decide) (zd DX0_elementP 2 rfl) (by decide) (by decide) rfl rfl ?_
    refine tz_aload_n 0 rfl (zd DX0_elementP 28 rfl) ?_
    refine tz_getR 2 1 kz0 (zs_1) (by decide) (by decide) rfl wk_52 (zd DX0_elementP 29 rfl) ?_
    refine tz_iload_n 1 rfl (zd DX0_elementP 30 rfl) ?_
    refine tz_cVN_i kz3 (zs_2) rfl (rest := []) (YX3_kindOf) wn_290 (tX3_kindOf 2 (zs_2) a1 w) rfl rfl (Nat.le_of_ble_eq_true rfl) ⟨Nat.le_of_ble_eq_true rfl, Nat.le_of_ble_eq_true rfl⟩ (zd DX0_elementP 31 rfl) (fun v9 w7 e8 => ?_)
    refine tz_i2l (zd DX0_elementP 32 rfl) ?_
    exact tz_lret rfl (zd DX0_elementP 33 rfl)
  refine tz_tout 83 (by have eq1 := z_ne q1; have eq2 := z_ne q2; have eq4 := z_ne q4; have eq5 := z_ne q5; have eq6 := z_ne q6; rw [show ((3 : Int32)).toInt = 3 from rfl] at eq1; rw [show ((4 : Int32)).toInt = 4 from rfl] at eq2; rw [show ((5 : Int32)).toInt = 5 from rfl] at eq4; rw [show ((6 : Int32)).toInt = 6 from rfl] at eq5; rw [show ((7 : Int32)).toInt = 7 from rfl] at eq6; omega) (zd DX0_elementP 2 rfl) rfl ?_
  refine tz_iload_n 1 rfl (zd DX0_elementP 34 rfl) ?_
  refine tz_i2l (zd DX0_elementP 35 rfl) ?_
  exact tz_lret rfl (zd DX0_elementP 36 rfl)
def QX0_arrangement : List (Nat × Instr × Nat) := [(0, .iload_n 0, 1), (1, .ifCond .lt 11, 3), (4, .iload_n 0, 1), (5, .getstatic 91, 3), (8, .arraylength, 1), (9, .if_icmp .lt 7, 3), (12, .iconst 0, 1), (13, .goto 8, 3), (16, .getstatic 91, 3), (19, .iload_n 0, 1), (20, .iaload, 1), (21, .ireturn, 1)]
set_option maxRecDepth 100000 in
theorem DX0_arrangement : ∀ q ∈ QX0_arrangement, decode cX0_arrangement q.1 = .ok (q.2.1, q.2.2) := by decide +kernel
abbrev MX0_arrangement : zM := (cX0_arrangement, "EndSums$Joining", 1, (some .int), { frames := 0, cells := 0, slots := 0, locals := 0 })
def fX0_arrangement (a0 : Int32) (w : zW) : Option (Int32 × zW) :=
  if a0 < (0 : Int32) then
    some ((0 : Int32), w)
  else
  if a0 < (24 : Int32) then
    zg (zin a0 24) <|
    some ((zarr.getD a0.toNatClampNeg 0), w)
  else
  some ((0 : Int32), w)
theorem YX0_arrangement : zYS yX0_arrangement MX0_arrangement 1 := ⟨wk_300, wk_2, wk_299, ⟨by decide, by decide, by decide +kernel⟩, rfl, rfl⟩
set_option maxHeartbeats 4000000 in
set_option maxRecDepth 100000 in
theorem tX0_arrangement (a0 : Int32) (w : zW) : Sm yX0_arrangement MX0_arrangement zi [.int a0] w (fX0_arrangement a0 w) := by
  refine Sm_of (lv0 := [(0, .int a0)]) (by decide) rfl (fun _ => Nat.le_of_ble_eq_true rfl) rfl ?_
  unfold fX0_arrangement
  refine tz_iload_n 0 rfl (zd DX0_arrangement 0 rfl) ?_
  refine tz_if_lt 12 (zd DX0_arrangement 1 rfl) rfl (fun q1 => ?_) (fun q1 => ?_)
  · refine tz_iconst (0 : Int32) zk_iconst_0 (zd DX0_arrangement 6 rfl) ?_
    refine tz_goto 21 (zd DX0_arrangement 7 rfl) rfl ?_
    exact tz_iret rfl (zd DX0_arrangement 11 rfl)
  refine tz_iload_n 0 rfl (zd DX0_arrangement 2 rfl) ?_
  refine tz_gets wk_301 (zd DX0_arrangement 3 rfl) ?_
  refine tz_tlen (zd DX0_arrangement 4 rfl) ?_
  refine tz_icmp_lt 16 (zd DX0_arrangement 5 rfl) rfl (fun q2 => ?_) (fun q2 => ?_)
  · refine tz_gets wk_301 (zd DX0_arrangement 8 rfl) ?_
    refine tz_iload_n 0 rfl (zd DX0_arrangement 9 rfl) ?_
    refine tz_tald (zd DX0_arrangement 10 rfl) ?_
    exact tz_iret rfl (zd DX0_arrangement 11 rfl)
  refine tz_iconst (0 : Int32) zk_iconst_0 (zd DX0_arrangement 6 rfl) ?_
  refine tz_goto 21 (zd DX0_arrangement 7 rfl) rfl ?_
  exact tz_iret rfl (zd DX0_arrangement 11 rfl)
def QX0_leaps : List (Nat × Instr × Nat) := [(0, .iconst 0, 1), (1, .istore_n 1, 1), (2, .iconst 0, 1), (3, .istore_n 2, 1), (4, .iload_n 2, 1), (5, .iconst 4, 1), (6, .if_icmp .ge 49, 3), (9, .iconst 0, 1), (10, .istore_n 3, 1), (11, .iload_n 3, 1), (12, .iload_n 2, 1), (13, .if_icmp .ge 36, 3), (16, .iload_n 1, 1), (17, .iload_n 0, 1), (18, .iconst 4, 1), (19, .iload_n 2, 1), (20, .imul, 1), (21, .ishr, 1), (22, .bipush 15, 2), (24, .iand, 1), (25, .iload_n 0, 1), (26, .iconst 4, 1), (27, .iload_n 3, 1), (28, .imul, 1), (29, .ishr, 1), (30, .bipush 15, 2), (32, .iand, 1), (33, .if_icmp .le 7, 3), (36, .iconst 1, 1), (37, .goto 4, 3), (40, .iconst 0, 1), (41, .iadd, 1), (42, .istore_n 1, 1), (43, .iinc 3 1, 3), (46, .goto (-35), 3), (49, .iinc 2 1, 3), (52, .goto (-48), 3), (55, .iload_n 1, 1), (56, .ireturn, 1)]
set_option maxRecDepth 100000 in
theorem DX0_leaps : ∀ q ∈ QX0_leaps, decode cX0_leaps q.1 = .ok (q.2.1, q.2.2) := by decide +kernel
abbrev MX0_leaps : zM := (cX0_leaps, "EndSums$Joining", 4, (some .int), { frames := 0, cells := 0, slots := 0, locals := 0 })
def fX0_leaps_L11 (x0 : Int32) (x2 : Int32) (j4 : Int32 → Int32 → zW → Option (Int32 × zW)) : Nat → Int32 → Int32 → zW → Option (Int32 × zW)
  | 0, _, _, _ => none
  | n + 1, x1, x3, w =>
    if x2 ≤ x3 then
      j4 x1 (x2 + (1 : Int32)) w
    else
    lt (if ((x0 >>> (((4 : Int32) * x2) &&& 31)) &&& (15 : Int32)) ≤ ((x0 >>> (((4 : Int32) * x3) &&& 31)) &&& (15 : Int32)) then (0 : Int32) else (1 : Int32)) fun v4 =>
    lt (x1 + v4) fun v5 =>
    fX0_leaps_L11 x0 x2 j4 n v5 (x3 + (1 : Int32)) w
def fX0_leaps_L4 (x0 : Int32) : Nat → Int32 → Int32 → zW → Option (Int32 × zW)
  | 0, _, _, _ => none
  | n + 1, x1, x2, w =>
    if (4 : Int32) ≤ x2 then
      some (x1, w)
    else
    fX0_leaps_L11 x0 x2 (fX0_leaps_L4 x0 n) zFU x1 (0 : Int32) w
def fX0_leaps (a0 : Int32) (w : zW) : Option (Int32 × zW) :=
  fX0_leaps_L4 a0 zFU (0 : Int32) (0 : Int32) w
theorem YX0_leaps : zYS yX0_leaps MX0_leaps 1 := ⟨wk_305, wk_2, wk_304, ⟨by decide, by decide, by decide +kernel⟩, rfl, rfl⟩
set_option maxHeartbeats 4000000 in
set_option maxRecDepth 100000 in
theorem lX0_leaps_L11 (x0 : Int32) (x2 : Int32) (j4 : Int32 → Int32 → zW → Option (Int32 × zW)) (hj4 : ∀ (y1 : Int32) (y2 : Int32) (w : zW), Tz MX0_leaps (zRet zi) (j4 y1 y2 w) 4 [(0, .int x0), (1, .int y1), (2, .int y2)] [] w) : ∀ (n : Nat) (x1 : Int32) (x3 : Int32) (w : zW), Tz MX0_leaps (zRet zi) (fX0_leaps_L11 x0 x2 j4 n x1 x3 w) 11 [(0, .int x0), (1, .int x1), (2, .int x2), (3, .int x3)] [] w := by
  intro n
  induction n with
  | zero => intro x1 x3 w; exact tz_eq (fX0_leaps_L11.eq_1 _ _ _ _ _ _) tz_none
  | succ n ih =>
    intro x1 x3 w
    refine tz_eq (fX0_leaps_L11.eq_2 _ _ _ _ _ _ _) ?_
    refine tz_iload_n 3 rfl (zd DX0_leaps 9 rfl) ?_
    refine tz_iload_n 2 rfl (zd DX0_leaps 10 rfl) ?_
    refine tz_icmp_ge 49 (zd DX0_leaps 11 rfl) rfl (fun q2 => ?_) (fun q2 => ?_)
    · refine tz_iinc 2 (1 : Int32) [(2, .int (x2 + (1 : Int32))), (0, .int x0), (1, .int x1), (3, .int x3)] rfl zk_iconst_1 (Nat.le_of_ble_eq_true rfl) rfl (zd DX0_leaps 35 rfl) ?_
      refine tz_goto 4 (zd DX0_leaps 36 rfl) rfl ?_
      refine tz_lv (lv2 := [(0, .int x0), (1, .int x1), (2, .int (x2 + (1 : Int32)))]) [1, 2, 0] rfl ?_
      exact hj4 x1 (x2 + (1 : Int32)) w
    refine tz_iload_n 1 rfl (zd DX0_leaps 12 rfl) ?_
    refine tz_iload_n 0 rfl (zd DX0_leaps 13 rfl) ?_
    refine tz_iconst (4 : Int32) zk_iconst_4 (zd DX0_leaps 14 rfl) ?_
    refine tz_iload_n 2 rfl (zd DX0_leaps 15 rfl) ?_
    refine tz_imul (zd DX0_leaps 16 rfl) ?_
    refine tz_ishr (zd DX0_leaps 17 rfl) ?_
    refine tz_bipush (15 : Int32) zk_bipush_15 (zd DX0_leaps 18 rfl) ?_
    refine tz_iand (zd DX0_leaps 19 rfl) ?_
    refine tz_iload_n 0 rfl (zd DX0_leaps 20 rfl) ?_
    refine tz_iconst (4 : Int32) zk_iconst_4 (zd DX0_leaps 21 rfl) ?_
    refine tz_iload_n 3 rfl (zd DX0_leaps 22 rfl) ?_
    refine tz_imul (zd DX0_leaps 23 rfl) ?_
    refine tz_ishr (zd DX0_leaps 24 rfl) ?_
    refine tz_bipush (15 : Int32) zk_bipush_15 (zd DX0_leaps 25 rfl) ?_
    refine tz_iand (zd DX0_leaps 26 rfl) ?_
    refine tz_dia (P := fun F => ∀ v : Int32, Tz MX0_leaps (zRet zi) (F v) 41 [(0, .int x0), (1, .int x1), (2, .int x2), (3, .int x3)] (.int v :: [.int x1]) w) ?_ (fun _ hJ41 => ?_)
    · intro v4
      refine tz_iadd (zd DX0_leaps 31 rfl) ?_
      refine tz_lti (fun v5 => ?_)
      refine tz_istore_n [(1, .int v5), (0, .int x0), (2, .int x2), (3, .int x3)] (Nat.le_of_ble_eq_true rfl) rfl (zd DX0_leaps 32 rfl) ?_
      refine tz_iinc 3 (1 : Int32) [(3, .int (x3 + (1 : Int32))), (1, .int v5), (0, .int x0), (2, .int x2)] rfl zk_iconst_1 (Nat.le_of_ble_eq_true rfl) rfl (zd DX0_leaps 33 rfl) ?_
      refine tz_goto 11 (zd DX0_leaps 34 rfl) rfl ?_
      refine tz_lv (lv2 := [(0, .int x0), (1, .int v5), (2, .int x2), (3, .int (x3 + (1 : Int32)))]) [2, 1, 3, 0] rfl ?_
      exact ih v5 (x3 + (1 : Int32)) w
    refine tz_ite ?_
    refine tz_icmp_le 40 (zd DX0_leaps 27 rfl) rfl (fun q3 => ?_) (fun q3 => ?_)
    · refine tz_iconst (0 : Int32) zk_iconst_0 (zd DX0_leaps 30 rfl) ?_
      exact hJ41 (0 : Int32)
    refine tz_iconst (1 : Int32) zk_iconst_1 (zd DX0_leaps 28 rfl) ?_
    refine tz_goto 41 (zd DX0_leaps 29 rfl) rfl ?_
    exact hJ41 (1 : Int32)
set_option maxHeartbeats 4000000 in
set_option maxRecDepth 100000 in
theorem lX0_leaps_L4 (x0 : Int32) : ∀ (n : Nat) (x1 : Int32) (x2 : Int32) (w : zW), Tz MX0_leaps (zRet zi) (fX0_leaps_L4 x0 n x1 x2 w) 4 [(0, .int x0), (1, .int x1), (2, .int x2)] [] w := by
  intro n
  induction n with
  | zero => intro x1 x2 w; exact tz_eq (fX0_leaps_L4.eq_1 _ _ _ _) tz_none
  | succ n ih =>
    intro x1 x2 w
    refine tz_eq (fX0_leaps_L4.eq_2 _ _ _ _ _) ?_
    refine tz_iload_n 2 rfl (zd DX0_leaps 4 rfl) ?_
    refine tz_iconst (4 : Int32) zk_iconst_4 (zd DX0_leaps 5 rfl) ?_
    refine tz_icmp_ge 55 (zd DX0_leaps 6 rfl) rfl (fun q1 => ?_) (fun q1 => ?_)
    · refine tz_iload_n 1 rfl (zd DX0_leaps 37 rfl) ?_
      exact tz_iret rfl (zd DX0_leaps 38 rfl)
    refine tz_iconst (0 : Int32) zk_iconst_0 (zd DX0_leaps 7 rfl) ?_
    refine tz_istore_n [(3, .int (0 : Int32)), (0, .int x0), (1, .int x1), (2, .int x2)] (Nat.le_of_ble_eq_true rfl) rfl (zd DX0_leaps 8 rfl) ?_
    refine tz_lv (lv2 := [(0, .int x0), (1, .int x1), (2, .int x2), (3, .int (0 : Int32))]) [1, 2, 3, 0] rfl ?_
    exact lX0_leaps_L11 x0 x2 _ ih zFU x1 (0 : Int32) w
set_option maxHeartbeats 4000000 in
set_option maxRecDepth 100000 in
theorem tX0_leaps (a0 : Int32) (w : zW) : Sm yX0_leaps MX0_leaps zi [.int a0] w (fX0_leaps a0 w) := by
  refine Sm_of (lv0 := [(0, .int a0)]) (by decide) rfl (fun _ => Nat.le_of_ble_eq_true rfl) rfl ?_
  unfold fX0_leaps
  refine tz_iconst (0 : Int32) zk_iconst_0 (zd DX0_leaps 0 rfl) ?_
  refine tz_istore_n [(1, .int (0 : Int32)), (0, .int a0)] (Nat.le_of_ble_eq_true rfl) rfl (zd DX0_leaps 1 rfl) ?_
  refine tz_iconst (0 : Int32) zk_iconst_0 (zd DX0_leaps 2 rfl) ?_
  refine tz_istore_n [(2, .int (0 : Int32)), (1, .int (0 : Int32)), (0, .int a0)] (Nat.le_of_ble_eq_true rfl) rfl (zd DX0_leaps 3 rfl) ?_
  refine tz_lv (lv2 := [(0, .int a0), (1, .int (0 : Int32)), (2, .int (0 : Int32))]) [2, 1, 0] rfl ?_
  exact lX0_leaps_L4 a0 zFU (0 : Int32) (0 : Int32) w
def QX0_elementQ : List (Nat × Instr × Nat) := [(0, .aload_n 0, 1), (1, .getfield 47, 3), (4, .tableswitch 90 0 7 #[48, 90, 90, 50, 56, 74, 90, 88], 48), (52, .lconst 1, 1), (53, .lreturn, 1), (54, .iload_n 1, 1), (55, .bipush 101, 2), (57, .irem, 1), (58, .i2l, 1), (59, .lreturn, 1), (60, .iload_n 1, 1), (61, .iconst 2, 1), (62, .irem, 1), (63, .ifCond .ne 13, 3), (66, .iload_n 1, 1), (67, .iconst 2, 1), (68, .idiv, 1), (69, .bipush 10, 2), (71, .irem, 1), (72, .i2l, 1), (73, .goto 4, 3), (76, .lconst 0, 1), (77, .lreturn, 1), (78, .iload_n 1, 1), (79, .bipush 24, 2), (81, .irem, 1), (82, .invokestatic 62, 3), (85, .invokestatic 65, 3), (88, .iconst 2, 1), (89, .irem, 1), (90, .i2l, 1), (91, .lreturn, 1), (92, .lconst 0, 1), (93, .lreturn, 1), (94, .iload_n 1, 1), (95, .i2l, 1), (96, .lreturn, 1)]
set_option maxRecDepth 100000 in
theorem DX0_elementQ : ∀ q ∈ QX0_elementQ, decode cX0_elementQ q.1 = .ok (q.2.1, q.2.2) := by decide +kernel
abbrev MX0_elementQ : zM := (cX0_elementQ, "EndSums$Joining", 2, (some .long), { frames := 1, cells := 0, slots := 0, locals := 23 })
def fX0_elementQ (a1 : Int32) (w : zW) : Option (Int64 × zW) :=
  if (zI w 1 0) = (0 : Int32) then
    some ((1 : Int64), w)
  else
  if (zI w 1 0) = (1 : Int32) then
    some ((a1).toInt64, w)
  else
  if (zI w 1 0) = (2 : Int32) then
    some ((a1).toInt64, w)
  else
  if (zI w 1 0) = (3 : Int32) then
    some ((a1 - a1 / (101 : Int32) * (101 : Int32)).toInt64, w)
  else
  if (zI w 1 0) = (4 : Int32) then
    if ¬ (a1 - a1 / (2 : Int32) * (2 : Int32)) = (0 : Int32) then
      some ((0 : Int64), w)
    else
    some (((a1 / (2 : Int32)) - (a1 / (2 : Int32)) / (10 : Int32) * (10 : Int32)).toInt64, w)
  else
  if (zI w 1 0) = (5 : Int32) then
    bd (fX0_arrangement (a1 - a1 / (24 : Int32) * (24 : Int32)) w) fun v10 w8 =>
    bd (fX0_leaps v10 w8) fun v13 w11 =>
    some ((v13 - v13 / (2 : Int32) * (2 : Int32)).toInt64, w11)
  else
  if (zI w 1 0) = (6 : Int32) then
    some ((a1).toInt64, w)
  else
  if (zI w 1 0) = (7 : Int32) then
    some ((0 : Int64), w)
  else
  some ((a1).toInt64, w)
theorem YX0_elementQ : zYV yX0_elementQ MX0_elementQ 1 := ⟨wk_297, wk_2, ⟨wk_296, ws_15⟩, ⟨by decide, by decide, by decide +kernel⟩, rfl, rfl⟩
set_option maxHeartbeats 4000000 in
set_option maxRecDepth 100000 in
theorem tX0_elementQ (a1 : Int32) (w : zW) : Sm yX0_elementQ MX0_elementQ zl [.ref 1, .int a1] w (fX0_elementQ a1 w) := by
  refine Sm_of (lv0 := [(0, .ref 1), (1, .int a1)]) (by decide) rfl (fun _ => Nat.le_of_ble_eq_true rfl) rfl ?_
  unfold fX0_elementQ
  refine tz_aload_n 0 rfl (zd DX0_elementQ 0 rfl) ?_
  refine tz_getI 0 kz0 (zs_1) (by decide) rfl wk_51 (zd DX0_elementQ 1 rfl) ?_
  refine tz_case (fun q1 => ?_) (fun q1 => ?_)
  · refine tz_tin (0) 52 (by rw [q1]; decide) (zd DX0_elementQ 2 rfl) (by decide) (by decide) rfl rfl ?_
    refine tz_lconst (1 : Int64) rfl (zd DX0_elementQ 3 rfl) ?_
    exact tz_lret rfl (zd DX0_elementQ 4 rfl)
  refine tz_case (fun q2 => ?_) (fun q2 => ?_)
  · refine tz_tin (1) 94 (by rw [q2]; decide) (zd DX0_elementQ 2 rfl) (by decide) (by decide) rfl rfl ?_
    refine tz_iload_n 1 rfl (zd DX0_elementQ 34 rfl) ?_
    refine tz_i2l (zd DX0_elementQ 35 rfl) ?_
    exact tz_lret rfl (zd DX0_elementQ 36 rfl)
  refine tz_case (fun q3 => ?_) (fun q3 => ?_)
  · refine tz_tin (2) 94 (by rw [q3]; decide) (zd DX0_elementQ 2 rfl) (by decide) (by decide) rfl rfl ?_
    refine tz_iload_n 1 rfl (zd DX0_elementQ 34 rfl) ?_
    refine tz_i2l (zd DX0_elementQ 35 rfl) ?_
    exact tz_lret rfl (zd DX0_elementQ 36 rfl)
  refine tz_case (fun q4 => ?_) (fun q4 => ?_)
  · refine tz_tin (3) 54 (by rw [q4]; decide) (zd DX0_elementQ 2 rfl) (by decide) (by decide) rfl rfl ?_
    refine tz_iload_n 1 rfl (zd DX0_elementQ 5 rfl) ?_
    refine tz_bipush (101 : Int32) zk_bipush_101 (zd DX0_elementQ 6 rfl) ?_
    refine tz_irem (by decide) (zd DX0_elementQ 7 rfl) ?_
    refine tz_i2l (zd DX0_elementQ 8 rfl) ?_
    exact tz_lret rfl (zd DX0_elementQ 9 rfl)
  refine tz_case (fun q5 => ?_) (fun q5 => ?_)
  · refine tz_tin (4) 60 (by rw [q5]; decide) (zd DX0_elementQ 2 rfl) (by decide) (by decide) rfl rfl ?_
    refine tz_iload_n 1 rfl (zd DX0_elementQ 10 rfl) ?_
    refine tz_iconst (2 : Int32) zk_iconst_2 (zd DX0_elementQ 11 rfl) ?_
    refine tz_irem (by decide) (zd DX0_elementQ 12 rfl) ?_
    refine tz_if_ne 76 (zd DX0_elementQ 13 rfl) rfl (fun q6 => ?_) (fun q6 => ?_)
    · refine tz_lconst (0 : Int64) rfl (zd DX0_elementQ 21 rfl) ?_
      exact tz_lret rfl (zd DX0_elementQ 22 rfl)
    refine tz_iload_n 1 rfl (zd DX0_elementQ 14 rfl) ?_
    refine tz_iconst (2 : Int32) zk_iconst_2 (zd DX0_elementQ 15 rfl) ?_
    refine tz_idiv (by decide) (zd DX0_elementQ 16 rfl) ?_
    refine tz_bipush (10 : Int32) zk_bipush_10 (zd DX0_elementQ 17 rfl) ?_
    refine tz_irem (by decide) (zd DX0_elementQ 18 rfl) ?_
    refine tz_i2l (zd DX0_elementQ 19 rfl) ?_
    refine tz_goto 77 (zd DX0_elementQ 20 rfl) rfl ?_
    exact tz_lret rfl (zd DX0_elementQ 22 rfl)
  refine tz_case (fun q7 => ?_) (fun q7 => ?_)
  · refine tz_tin (5) 78 (by rw [q7]; decide) (zd DX0_elementQ 2 rfl) (by decide) (by decide) rfl rfl ?_
    refine tz_iload_n 1 rfl (zd DX0_elementQ 23 rfl) ?_
    refine tz_bipush (24 : Int32) zk_bipush_24 (zd DX0_elementQ 24 rfl) ?_
    refine tz_irem (by decide) (zd DX0_elementQ 25 rfl) ?_
    refine tz_cS_i (rest := []) (YX0_arrangement) wk_298 (tX0_arrangement (a1 - a1 / (24 : Int32) * (24 : Int32)) w) rfl rfl (Nat.le_of_ble_eq_true rfl) ⟨Nat.le_of_ble_eq_true rfl, Nat.le_of_ble_eq_true rfl⟩ (zd DX0_elementQ 26 rfl) (fun v10 w8 e9 => ?_)
    refine tz_cS_i (rest := []) (YX0_leaps) wk_303 (tX0_leaps v10 w8) rfl rfl (Nat.le_of_ble_eq_true rfl) ⟨Nat.le_of_ble_eq_true rfl, Nat.le_of_ble_eq_true rfl⟩ (zd DX0_elementQ 27 rfl) (fun v13 w11 e12 => ?_)
    refine tz_iconst (2 : Int32) zk_iconst_2 (zd DX0_elementQ 28 rfl) ?_
    refine tz_irem (by decide) (zd DX0_elementQ 29 rfl) ?_
    refine tz_i2l (zd DX0_elementQ 30 rfl) ?_
    exact tz_lret rfl (zd DX0_elementQ 31 rfl)
  refine tz_case (fun q14 => ?_) (fun q14 => ?_)
  · refine tz_tin (6) 94 (by rw [q14]; decide) (zd DX0_elementQ 2 rfl) (by decide) (by decide) rfl rfl ?_
    refine tz_iload_n 1 rfl (zd DX0_elementQ 34 rfl) ?_
    refine tz_i2l (zd DX0_elementQ 35 rfl) ?_
    exact tz_lret rfl (zd DX0_elementQ 36 rfl)
  refine tz_case (fun q15 => ?_) (fun q15 => ?_)
  · refine tz_tin (7) 92 (by rw [q15]; decide) (zd DX0_elementQ 2 rfl) (by decide) (by decide) rfl rfl ?_
    refine tz_lconst (0 : Int64) rfl (zd DX0_elementQ 32 rfl) ?_
    exact tz_lret rfl (zd DX0_elementQ 33 rfl)
  refine tz_tout 94 (by have eq1 := z_ne q1; have eq2 := z_ne q2; have eq3 := z_ne q3; have eq4 := z_ne q4; have eq5 := z_ne q5; have eq7 := z_ne q7; have eq14 := z_ne q14; have eq15 := z_ne q15; rw [show ((0 : Int32)).toInt = 0 from rfl] at eq1; rw [show ((1 : Int32)).toInt = 1 from rfl] at eq2; rw [show ((2 : Int32)).toInt = 2 from rfl] at eq3; rw [show ((3 : Int32)).toInt = 3 from rfl] at eq4; rw [show ((4 : Int32)).toInt = 4 from rfl] at eq5; rw [show ((5 : Int32)).toInt = 5 from rfl] at eq7; rw [show ((6 : Int32)).toInt = 6 from rfl] at eq14; rw [show ((7 : Int32)).toInt = 7 from rfl] at eq15; omega) (zd DX0_elementQ 2 rfl) rfl ?_
  refine tz_iload_n 1 rfl (zd DX0_elementQ 34 rfl) ?_
  refine tz_i2l (zd DX0_elementQ 35 rfl) ?_
  exact tz_lret rfl (zd DX0_elementQ 36 rfl)
def QX0_start : List (Nat × Instr × Nat) := [(0, .aload_n 0, 1), (1, .aload_n 0, 1), (2, .iload_n 1, 1), (3, .invokevirtual 36, 3), (6, .aload_n 0, 1), (7, .iload_n 1, 1), (8, .invokevirtual 40, 3), (11, .invokevirtual 32, 3), (14, .return_, 1)]
set_option maxRecDepth 100000 in
theorem DX0_start : ∀ q ∈ QX0_start, decode cX0_start q.1 = .ok (q.2.1, q.2.2) := by decide +kernel
abbrev MX0_start : zM := (cX0_start, "EndSums$Joining", 2, none, { frames := 2, cells := 0, slots := 0, locals := 44 })
def fX0_start (a1 : Int32) (w : zW) : Option (Unit × zW) :=
  bd (fX0_elementP a1 w) fun v3 w1 =>
  bd (fX0_elementQ a1 w1) fun v6 w4 =>
  bd (fX0_startWith v3 v6 w4) fun _ w7 =>
  some ((), w7)
theorem YX0_start : zYV yX0_start MX0_start 1 := ⟨wk_414, wk_2, ⟨wk_413, ws_33⟩, ⟨by decide, by decide, by decide +kernel⟩, rfl, rfl⟩
set_option maxHeartbeats 4000000 in
set_option maxRecDepth 100000 in
theorem tX0_start (a1 : Int32) (w : zW) : Sm yX0_start MX0_start zn [.ref 1, .int a1] w (fX0_start a1 w) := by
  refine Sm_of (lv0 := [(0, .ref 1), (1, .int a1)]) (by decide) rfl (fun _ => Nat.le_of_ble_eq_true rfl) rfl ?_
  unfold fX0_start
  refine tz_aload_n 0 rfl (zd DX0_start 0 rfl) ?_
  refine tz_aload_n 0 rfl (zd DX0_start 1 rfl) ?_
  refine tz_iload_n 1 rfl (zd DX0_start 2 rfl) ?_
  refine tz_cV_l kz0 (zs_1) rfl (rest := [.ref 1]) (YX0_elementP) wk_415 (tX0_elementP a1 w) rfl rfl (Nat.le_of_ble_eq_true rfl) ⟨Nat.le_of_ble_eq_true rfl, Nat.le_of_ble_eq_true rfl⟩ (zd DX0_start 3 rfl) (fun v3 w1 e2 => ?_)
  refine tz_aload_n 0 rfl (zd DX0_start 4 rfl) ?_
  refine tz_iload_n 1 rfl (zd DX0_start 5 rfl) ?_
  refine tz_cV_l kz0 (zs_1) rfl (rest := [.long v3, .ref 1]) (YX0_elementQ) wk_416 (tX0_elementQ a1 w1) rfl rfl (Nat.le_of_ble_eq_true rfl) ⟨Nat.le_of_ble_eq_true rfl, Nat.le_of_ble_eq_true rfl⟩ (zd DX0_start 6 rfl) (fun v6 w4 e5 => ?_)
  refine tz_cV_n kz0 (zs_1) rfl (rest := []) (YX0_startWith) wk_310 (tX0_startWith v3 v6 w4) rfl rfl (Nat.le_of_ble_eq_true rfl) ⟨Nat.le_of_ble_eq_true rfl, Nat.le_of_ble_eq_true rfl⟩ (zd DX0_start 7 rfl) (fun v9 w7 e8 => ?_)
  exact tz_vret rfl (zd DX0_start 8 rfl)
def QX0_greatestDivisor : List (Nat × Instr × Nat) := [(0, .lload_n 0, 1), (1, .lstore 4, 2), (3, .lload_n 2, 1), (4, .lstore 6, 2), (6, .iconst 0, 1), (7, .istore 8, 2), (9, .iload 8, 2), (11, .bipush 100, 2), (13, .if_icmp .ge 31, 3), (16, .lload 6, 2), (18, .lconst 0, 1), (19, .lcmp, 1), (20, .ifCond .eq 24, 3), (23, .lload 4, 2), (25, .lload 6, 2), (27, .lrem, 1), (28, .lstore 9, 2), (30, .lload 6, 2), (32, .lstore 4, 2), (34, .lload 9, 2), (36, .lstore 6, 2), (38, .iinc 8 1, 3), (41, .goto (-32), 3), (44, .lload 4, 2), (46, .lreturn, 1)]
set_option maxRecDepth 100000 in
theorem DX0_greatestDivisor : ∀ q ∈ QX0_greatestDivisor, decode cX0_greatestDivisor q.1 = .ok (q.2.1, q.2.2) := by decide +kernel
abbrev MX0_greatestDivisor : zM := (cX0_greatestDivisor, "EndSums$Joining", 11, (some .long), { frames := 0, cells := 0, slots := 0, locals := 0 })
def fX0_greatestDivisor_L9  : Nat → Int64 → Int64 → Int32 → zW → Option (Int64 × zW)
  | 0, _, _, _, _ => none
  | n + 1, x4, x6, x8, w =>
    if (100 : Int32) ≤ x8 then
      some (x4, w)
    else
    if x6 = (0 : Int64) then
      some (x4, w)
    else
    if x6 = 0 then none else
    lt (x4 - x4 / x6 * x6) fun v4 =>
    fX0_greatestDivisor_L9 n x6 v4 (x8 + (1 : Int32)) w
def fX0_greatestDivisor (a0 : Int64) (a2 : Int64) (w : zW) : Option (Int64 × zW) :=
  fX0_greatestDivisor_L9 zFU a0 a2 (0 : Int32) w
theorem YX0_greatestDivisor : zYS yX0_greatestDivisor MX0_greatestDivisor 2 := ⟨wk_322, wk_2, wk_321, ⟨by decide, by decide, by decide +kernel⟩, rfl, rfl⟩
set_option maxHeartbeats 4000000 in
set_option maxRecDepth 100000 in
theorem lX0_greatestDivisor_L9  : ∀ (n : Nat) (x4 : Int64) (x6 : Int64) (x8 : Int32) (w : zW), Tz MX0_greatestDivisor (zRet zl) (fX0_greatestDivisor_L9 n x4 x6 x8 w) 9 [(4, .long x4), (6, .long x6), (8, .int x8)] [] w := by
  intro n
  induction n with
  | zero => intro x4 x6 x8 w; exact tz_eq (fX0_greatestDivisor_L9.eq_1 _ _ _ _) tz_none
  | succ n ih =>
    intro x4 x6 x8 w
    refine tz_eq (fX0_greatestDivisor_L9.eq_2 _ _ _ _ _) ?_
    refine tz_iload 2 rfl (zd DX0_greatestDivisor 6 rfl) ?_
    refine tz_bipush (100 : Int32) zk_bipush_100 (zd DX0_greatestDivisor 7 rfl) ?_
    refine tz_icmp_ge 44 (zd DX0_greatestDivisor 8 rfl) rfl (fun q1 => ?_) (fun q1 => ?_)
    · refine tz_lload 0 rfl (zd DX0_greatestDivisor 23 rfl) ?_
      exact tz_lret rfl (zd DX0_greatestDivisor 24 rfl)
    refine tz_lload 1 rfl (zd DX0_greatestDivisor 9 rfl) ?_
    refine tz_lconst (0 : Int64) rfl (zd DX0_greatestDivisor 10 rfl) ?_
    refine tz_lcmp_eq 44 (zd DX0_greatestDivisor 11 rfl) (zd DX0_greatestDivisor 12 rfl) rfl (fun q2 => ?_) (fun q2 => ?_)
    · refine tz_lload 0 rfl (zd DX0_greatestDivisor 23 rfl) ?_
      exact tz_lret rfl (zd DX0_greatestDivisor 24 rfl)
    refine tz_lload 0 rfl (zd DX0_greatestDivisor 13 rfl) ?_
    refine tz_lload 1 rfl (zd DX0_greatestDivisor 14 rfl) ?_
    refine tz_case (fun _ => tz_none) (fun q3 => ?_)
    refine tz_lrem q3 (zd DX0_greatestDivisor 15 rfl) ?_
    refine tz_ltl (fun v4 => ?_)
    refine tz_lstore [(9, .long v4), (4, .long x4), (6, .long x6), (8, .int x8)] (Nat.le_of_ble_eq_true rfl) rfl (zd DX0_greatestDivisor 16 rfl) ?_
    refine tz_lload 2 rfl (zd DX0_greatestDivisor 17 rfl) ?_
    refine tz_lstore [(4, .long x6), (9, .long v4), (6, .long x6), (8, .int x8)] (Nat.le_of_ble_eq_true rfl) rfl (zd DX0_greatestDivisor 18 rfl) ?_
    refine tz_lload 1 rfl (zd DX0_greatestDivisor 19 rfl) ?_
    refine tz_lstore [(6, .long v4), (4, .long x6), (9, .long v4), (8, .int x8)] (Nat.le_of_ble_eq_true rfl) rfl (zd DX0_greatestDivisor 20 rfl) ?_
    refine tz_iinc 3 (1 : Int32) [(8, .int (x8 + (1 : Int32))), (6, .long v4), (4, .long x6), (9, .long v4)] rfl zk_iconst_1 (Nat.le_of_ble_eq_true rfl) rfl (zd DX0_greatestDivisor 21 rfl) ?_
    refine tz_goto 9 (zd DX0_greatestDivisor 22 rfl) rfl ?_
    refine tz_lv (lv2 := [(4, .long x6), (6, .long v4), (8, .int (x8 + (1 : Int32)))]) [2, 1, 0] rfl ?_
    exact ih x6 v4 (x8 + (1 : Int32)) w
set_option maxHeartbeats 4000000 in
set_option maxRecDepth 100000 in
theorem tX0_greatestDivisor (a0 : Int64) (a2 : Int64) (w : zW) : Sm yX0_greatestDivisor MX0_greatestDivisor zl [.long a0, .long a2] w (fX0_greatestDivisor a0 a2 w) := by
  refine Sm_of (lv0 := [(0, .long a0), (2, .long a2)]) (by decide) rfl (fun _ => Nat.le_of_ble_eq_true rfl) rfl ?_
  unfold fX0_greatestDivisor
  refine tz_lload_n 0 rfl (zd DX0_greatestDivisor 0 rfl) ?_
  refine tz_lstore [(4, .long a0), (0, .long a0), (2, .long a2)] (Nat.le_of_ble_eq_true rfl) rfl (zd DX0_greatestDivisor 1 rfl) ?_
  refine tz_lload_n 2 rfl (zd DX0_greatestDivisor 2 rfl) ?_
  refine tz_lstore [(6, .long a2), (4, .long a0), (0, .long a0), (2, .long a2)] (Nat.le_of_ble_eq_true rfl) rfl (zd DX0_greatestDivisor 3 rfl) ?_
  refine tz_iconst (0 : Int32) zk_iconst_0 (zd DX0_greatestDivisor 4 rfl) ?_
  refine tz_istore [(8, .int (0 : Int32)), (6, .long a2), (4, .long a0), (0, .long a0), (2, .long a2)] (Nat.le_of_ble_eq_true rfl) rfl (zd DX0_greatestDivisor 5 rfl) ?_
  refine tz_lv (lv2 := [(4, .long a0), (6, .long a2), (8, .int (0 : Int32))]) [2, 1, 0] rfl ?_
  exact lX0_greatestDivisor_L9 zFU a0 a2 (0 : Int32) w
def QX0_arranged : List (Nat × Instr × Nat) := [(0, .iconst 0, 1), (1, .istore_n 2, 1), (2, .iconst 3, 1), (3, .istore_n 3, 1), (4, .iload_n 3, 1), (5, .ifCond .lt 35, 3), (8, .iload_n 0, 1), (9, .iconst 4, 1), (10, .iload_n 3, 1), (11, .imul, 1), (12, .ishr, 1), (13, .bipush 15, 2), (15, .iand, 1), (16, .istore 4, 2), (18, .iload_n 2, 1), (19, .iconst 4, 1), (20, .ishl, 1), (21, .iload_n 1, 1), (22, .iconst 4, 1), (23, .iconst 3, 1), (24, .iload 4, 2), (26, .isub, 1), (27, .imul, 1), (28, .ishr, 1), (29, .bipush 15, 2), (31, .iand, 1), (32, .ior, 1), (33, .istore_n 2, 1), (34, .iinc 3 (-1), 3), (37, .goto (-33), 3), (40, .iconst 0, 1), (41, .istore_n 3, 1), (42, .iload_n 3, 1), (43, .getstatic 91, 3), (46, .arraylength, 1), (47, .if_icmp .ge 20, 3), (50, .getstatic 91, 3), (53, .iload_n 3, 1), (54, .iaload, 1), (55, .iload_n 2, 1), (56, .if_icmp .ne 5, 3), (59, .iload_n 3, 1), (60, .ireturn, 1), (61, .iinc 3 1, 3), (64, .goto (-22), 3), (67, .iconst 0, 1), (68, .ireturn, 1)]
set_option maxRecDepth 100000 in
theorem DX0_arranged : ∀ q ∈ QX0_arranged, decode cX0_arranged q.1 = .ok (q.2.1, q.2.2) := by decide +kernel
abbrev MX0_arranged : zM := (cX0_arranged, "EndSums$Joining", 5, (some .int), { frames := 0, cells := 0, slots := 0, locals := 0 })
def fX0_arranged_L42 (x2 : Int32) : Nat → Int32 → zW → Option (Int32 × zW)
  | 0, _, _ => none
  | n + 1, x3, w =>
    if (24 : Int32) ≤ x3 then
      some ((0 : Int32), w)
    else
    zg (zin x3 24) <|
    if ¬ (zarr.getD x3.toNatClampNeg 0) = x2 then
      fX0_arranged_L42 x2 n (x3 + (1 : Int32)) w
    else
    some (x3, w)
def fX0_arranged_L4 (x0 : Int32) (x1 : Int32) : Nat → Int32 → Int32 → zW → Option (Int32 × zW)
  | 0, _, _, _ => none
  | n + 1, x2, x3, w =>
    if x3 < (0 : Int32) then
      fX0_arranged_L42 x2 zFU (0 : Int32) w
    else
    lt ((x0 >>> (((4 : Int32) * x3) &&& 31)) &&& (15 : Int32)) fun v4 =>
    lt ((x2 <<< ((4 : Int32) &&& 31)) ||| ((x1 >>> (((4 : Int32) * ((3 : Int32) - v4)) &&& 31)) &&& (15 : Int32))) fun v5 =>
    fX0_arranged_L4 x0 x1 n v5 (x3 + (-1 : Int32)) w
def fX0_arranged (a0 : Int32) (a1 : Int32) (w : zW) : Option (Int32 × zW) :=
  fX0_arranged_L4 a0 a1 zFU (0 : Int32) (3 : Int32) w
theorem YX0_arranged : zYS yX0_arranged MX0_arranged 2 := ⟨wk_326, wk_2, wk_325, ⟨by decide, by decide, by decide +kernel⟩, rfl, rfl⟩
set_option maxHeartbeats 4000000 in
set_option maxRecDepth 100000 in
theorem lX0_arranged_L42 (x2 : Int32) : ∀ (n : Nat) (x3 : Int32) (w : zW), Tz MX0_arranged (zRet zi) (fX0_arranged_L42 x2 n x3 w) 42 [(2, .int x2), (3, .int x3)] [] w := by
  intro n
  induction n with
  | zero => intro x3 w; exact tz_eq (fX0_arranged_L42.eq_1 _ _ _) tz_none
  | succ n ih =>
    intro x3 w
    refine tz_eq (fX0_arranged_L42.eq_2 _ _ _ _) ?_
    refine tz_iload_n 1 rfl (zd DX0_arranged 32 rfl) ?_
    refine tz_gets wk_301 (zd DX0_arranged 33 rfl) ?_
    refine tz_tlen (zd DX0_arranged 34 rfl) ?_
    refine tz_icmp_ge 67 (zd DX0_arranged 35 rfl) rfl (fun q2 => ?_) (fun q2 => ?_)
    · refine tz_iconst (0 : Int32) zk_iconst_0 (zd DX0_arranged 45 rfl) ?_
      exact tz_iret rfl (zd DX0_arranged 46 rfl)
    refine tz_gets wk_301 (zd DX0_arranged 36 rfl) ?_
    refine tz_iload_n 1 rfl (zd DX0_arranged 37 rfl) ?_
    refine tz_tald (zd DX0_arranged 38 rfl) ?_
    refine tz_iload_n 0 rfl (zd DX0_arranged 39 rfl) ?_
    refine tz_icmp_ne 61 (zd DX0_arranged 40 rfl) rfl (fun q3 => ?_) (fun q3 => ?_)
    · refine tz_iinc 1 (1 : Int32) [(3, .int (x3 + (1 : Int32))), (2, .int x2)] rfl zk_iconst_1 (Nat.le_of_ble_eq_true rfl) rfl (zd DX0_arranged 43 rfl) ?_
      refine tz_goto 42 (zd DX0_arranged 44 rfl) rfl ?_
      refine tz_lv (lv2 := [(2, .int x2), (3, .int (x3 + (1 : Int32)))]) [1, 0] rfl ?_
      exact ih (x3 + (1 : Int32)) w
    refine tz_iload_n 1 rfl (zd DX0_arranged 41 rfl) ?_
    exact tz_iret rfl (zd DX0_arranged 42 rfl)
set_option maxHeartbeats 4000000 in
set_option maxRecDepth 100000 in
theorem lX0_arranged_L4 (x0 : Int32) (x1 : Int32) : ∀ (n : Nat) (x2 : Int32) (x3 : Int32) (w : zW), Tz MX0_arranged (zRet zi) (fX0_arranged_L4 x0 x1 n x2 x3 w) 4 [(0, .int x0), (1, .int x1), (2, .int x2), (3, .int x3)] [] w := by
  intro n
  induction n with
  | zero => intro x2 x3 w; exact tz_eq (fX0_arranged_L4.eq_1 _ _ _ _ _) tz_none
  | succ n ih =>
    intro x2 x3 w
    refine tz_eq (fX0_arranged_L4.eq_2 _ _ _ _ _ _) ?_
    refine tz_iload_n 3 rfl (zd DX0_arranged 4 rfl) ?_
    refine tz_if_lt 40 (zd DX0_arranged 5 rfl) rfl (fun q1 => ?_) (fun q1 => ?_)
    · refine tz_iconst (0 : Int32) zk_iconst_0 (zd DX0_arranged 30 rfl) ?_
      refine tz_istore_n [(3, .int (0 : Int32)), (0, .int x0), (1, .int x1), (2, .int x2)] (Nat.le_of_ble_eq_true rfl) rfl (zd DX0_arranged 31 rfl) ?_
      refine tz_lv (lv2 := [(2, .int x2), (3, .int (0 : Int32))]) [3, 0] rfl ?_
      exact lX0_arranged_L42 x2 zFU (0 : Int32) w
    refine tz_iload_n 0 rfl (zd DX0_arranged 6 rfl) ?_
    refine tz_iconst (4 : Int32) zk_iconst_4 (zd DX0_arranged 7 rfl) ?_
    refine tz_iload_n 3 rfl (zd DX0_arranged 8 rfl) ?_
    refine tz_imul (zd DX0_arranged 9 rfl) ?_
    refine tz_ishr (zd DX0_arranged 10 rfl) ?_
    refine tz_bipush (15 : Int32) zk_bipush_15 (zd DX0_arranged 11 rfl) ?_
    refine tz_iand (zd DX0_arranged 12 rfl) ?_
    refine tz_lti (fun v4 => ?_)
    refine tz_istore [(4, .int v4), (0, .int x0), (1, .int x1), (2, .int x2), (3, .int x3)] (Nat.le_of_ble_eq_true rfl) rfl (zd DX0_arranged 13 rfl) ?_
    refine tz_iload_n 3 rfl (zd DX0_arranged 14 rfl) ?_
    refine tz_iconst (4 : Int32) zk_iconst_4 (zd DX0_arranged 15 rfl) ?_
    refine tz_ishl (zd DX0_arranged 16 rfl) ?_
    refine tz_iload_n 2 rfl (zd DX0_arranged 17 rfl) ?_
    refine tz_iconst (4 : Int32) zk_iconst_4 (zd DX0_arranged 18 rfl) ?_
    refine tz_iconst (3 : Int32) zk_iconst_3 (zd DX0_arranged 19 rfl) ?_
    refine tz_iload 0 rfl (zd DX0_arranged 20 rfl) ?_
    refine tz_isub (zd DX0_arranged 21 rfl) ?_
    refine tz_imul (zd DX0_arranged 22 rfl) ?_
    refine tz_ishr (zd DX0_arranged 23 rfl) ?_
    refine tz_bipush (15 : Int32) zk_bipush_15 (zd DX0_arranged 24 rfl) ?_
    refine tz_iand (zd DX0_arranged 25 rfl) ?_
    refine tz_ior (zd DX0_arranged 26 rfl) ?_
    refine tz_lti (fun v5 => ?_)
    refine tz_istore_n [(2, .int v5), (4, .int v4), (0, .int x0), (1, .int x1), (3, .int x3)] (Nat.le_of_ble_eq_true rfl) rfl (zd DX0_arranged 27 rfl) ?_
    refine tz_iinc 4 (-1 : Int32) [(3, .int (x3 + (-1 : Int32))), (2, .int v5), (4, .int v4), (0, .int x0), (1, .int x1)] rfl zk_iconst_m1 (Nat.le_of_ble_eq_true rfl) rfl (zd DX0_arranged 28 rfl) ?_
    refine tz_goto 4 (zd DX0_arranged 29 rfl) rfl ?_
    refine tz_lv (lv2 := [(0, .int x0), (1, .int x1), (2, .int v5), (3, .int (x3 + (-1 : Int32)))]) [3, 4, 1, 0] rfl ?_
    exact ih v5 (x3 + (-1 : Int32)) w
set_option maxHeartbeats 4000000 in
set_option maxRecDepth 100000 in
theorem tX0_arranged (a0 : Int32) (a1 : Int32) (w : zW) : Sm yX0_arranged MX0_arranged zi [.int a0, .int a1] w (fX0_arranged a0 a1 w) := by
  refine Sm_of (lv0 := [(0, .int a0), (1, .int a1)]) (by decide) rfl (fun _ => Nat.le_of_ble_eq_true rfl) rfl ?_
  unfold fX0_arranged
  refine tz_iconst (0 : Int32) zk_iconst_0 (zd DX0_arranged 0 rfl) ?_
  refine tz_istore_n [(2, .int (0 : Int32)), (0, .int a0), (1, .int a1)] (Nat.le_of_ble_eq_true rfl) rfl (zd DX0_arranged 1 rfl) ?_
  refine tz_iconst (3 : Int32) zk_iconst_3 (zd DX0_arranged 2 rfl) ?_
  refine tz_istore_n [(3, .int (3 : Int32)), (2, .int (0 : Int32)), (0, .int a0), (1, .int a1)] (Nat.le_of_ble_eq_true rfl) rfl (zd DX0_arranged 3 rfl) ?_
  refine tz_lv (lv2 := [(0, .int a0), (1, .int a1), (2, .int (0 : Int32)), (3, .int (3 : Int32))]) [2, 3, 1, 0] rfl ?_
  exact lX0_arranged_L4 a0 a1 zFU (0 : Int32) (3 : Int32) w
def QX3_entry : List (Nat × Instr × Nat) := [(0, .iload_n 1, 1), (1, .ifCond .lt 17, 3), (4, .iload_n 1, 1), (5, .iconst 5, 1), (6, .if_icmp .ge 12, 3), (9, .iload_n 2, 1), (10, .ifCond .lt 8, 3), (13, .iload_n 2, 1), (14, .iconst 5, 1), (15, .if_icmp .lt 5, 3), (18, .iconst 0, 1), (19, .ireturn, 1), (20, .iload_n 1, 1), (21, .iconst 5, 1), (22, .imul, 1), (23, .iload_n 2, 1), (24, .iadd, 1), (25, .istore_n 3, 1), (26, .iload_n 3, 1), (27, .aload_n 0, 1), (28, .getfield 15, 3), (31, .arraylength, 1), (32, .if_icmp .ge 12, 3), (35, .aload_n 0, 1), (36, .getfield 15, 3), (39, .iload_n 3, 1), (40, .iaload, 1), (41, .goto 4, 3), (44, .iconst 0, 1), (45, .ireturn, 1)]
set_option maxRecDepth 100000 in
theorem DX3_entry : ∀ q ∈ QX3_entry, decode cX3_entry q.1 = .ok (q.2.1, q.2.2) := by decide +kernel
abbrev MX3_entry : zM := (cX3_entry, "EndSums$Table", 4, (some .int), { frames := 0, cells := 0, slots := 0, locals := 0 })
def fX3_entry (h0 : Nat) (a1 : Int32) (a2 : Int32) (w : zW) : Option (Int32 × zW) :=
  if a1 < (0 : Int32) then
    some ((0 : Int32), w)
  else
  if (5 : Int32) ≤ a1 then
    some ((0 : Int32), w)
  else
  if a2 < (0 : Int32) then
    some ((0 : Int32), w)
  else
  if a2 < (5 : Int32) then
    lt ((a1 * (5 : Int32)) + a2) fun v5 =>
    if (nI 25) ≤ v5 then
      some ((0 : Int32), w)
    else
    zg (zin v5 25) <|
    some ((zI w (h0 + 1) v5.toNatClampNeg), w)
  else
  some ((0 : Int32), w)
theorem YX3_entry : zYV yX3_entry MX3_entry 2 := ⟨wk_331, wk_3, ⟨wk_330, ws_18⟩, ⟨by decide, by decide, by decide +kernel⟩, rfl, rfl⟩
set_option maxHeartbeats 4000000 in
set_option maxRecDepth 100000 in
theorem tX3_entry (h0 : Nat) (hh0 : zc 3 h0) (a1 : Int32) (a2 : Int32) (w : zW) : Sm yX3_entry MX3_entry zi [.ref h0, .int a1, .int a2] w (fX3_entry h0 a1 a2 w) := by
  refine Sm_of (lv0 := [(0, .ref h0), (1, .int a1), (2, .int a2)]) (by decide) rfl (fun _ => Nat.le_of_ble_eq_true rfl) rfl ?_
  unfold fX3_entry
  refine tz_iload_n 1 rfl (zd DX3_entry 0 rfl) ?_
  refine tz_if_lt 18 (zd DX3_entry 1 rfl) rfl (fun q1 => ?_) (fun q1 => ?_)
  · refine tz_iconst (0 : Int32) zk_iconst_0 (zd DX3_entry 10 rfl) ?_
    exact tz_iret rfl (zd DX3_entry 11 rfl)
  refine tz_iload_n 1 rfl (zd DX3_entry 2 rfl) ?_
  refine tz_iconst (5 : Int32) zk_iconst_5 (zd DX3_entry 3 rfl) ?_
  refine tz_icmp_ge 18 (zd DX3_entry 4 rfl) rfl (fun q2 => ?_) (fun q2 => ?_)
  · refine tz_iconst (0 : Int32) zk_iconst_0 (zd DX3_entry 10 rfl) ?_
    exact tz_iret rfl (zd DX3_entry 11 rfl)
  refine tz_iload_n 2 rfl (zd DX3_entry 5 rfl) ?_
  refine tz_if_lt 18 (zd DX3_entry 6 rfl) rfl (fun q3 => ?_) (fun q3 => ?_)
  · refine tz_iconst (0 : Int32) zk_iconst_0 (zd DX3_entry 10 rfl) ?_
    exact tz_iret rfl (zd DX3_entry 11 rfl)
  refine tz_iload_n 2 rfl (zd DX3_entry 7 rfl) ?_
  refine tz_iconst (5 : Int32) zk_iconst_5 (zd DX3_entry 8 rfl) ?_
  refine tz_icmp_lt 20 (zd DX3_entry 9 rfl) rfl (fun q4 => ?_) (fun q4 => ?_)
  · refine tz_iload_n 1 rfl (zd DX3_entry 12 rfl) ?_
    refine tz_iconst (5 : Int32) zk_iconst_5 (zd DX3_entry 13 rfl) ?_
    refine tz_imul (zd DX3_entry 14 rfl) ?_
    refine tz_iload_n 2 rfl (zd DX3_entry 15 rfl) ?_
    refine tz_iadd (zd DX3_entry 16 rfl) ?_
    refine tz_lti (fun v5 => ?_)
    refine tz_istore_n [(3, .int v5), (0, .ref h0), (1, .int a1), (2, .int a2)] (Nat.le_of_ble_eq_true rfl) rfl (zd DX3_entry 17 rfl) ?_
    refine tz_iload_n 0 rfl (zd DX3_entry 18 rfl) ?_
    refine tz_aload_n 1 rfl (zd DX3_entry 19 rfl) ?_
    refine tz_getR (h0 + 1) 2 kz3 (hh0) (by decide) (by decide) ((zf3_2 (hh0)).1) wk_41 (zd DX3_entry 20 rfl) ?_
    refine tz_alen0 ((zf3_2 (w := w) (hh0)).2.1) ((zf3_2 (w := w) (hh0)).2.2) (zd DX3_entry 21 rfl) ?_
    refine tz_icmp_ge 44 (zd DX3_entry 22 rfl) rfl (fun q6 => ?_) (fun q6 => ?_)
    · refine tz_iconst (0 : Int32) zk_iconst_0 (zd DX3_entry 28 rfl) ?_
      exact tz_iret rfl (zd DX3_entry 29 rfl)
    refine tz_aload_n 1 rfl (zd DX3_entry 23 rfl) ?_
    refine tz_getR (h0 + 1) 2 kz3 (hh0) (by decide) (by decide) ((zf3_2 (hh0)).1) wk_41 (zd DX3_entry 24 rfl) ?_
    refine tz_iload_n 0 rfl (zd DX3_entry 25 rfl) ?_
    refine tz_iald ((zf3_2 (w := w) (hh0)).2.1) ((zf3_2 (w := w) (hh0)).2.2) (zd DX3_entry 26 rfl) ?_
    refine tz_goto 45 (zd DX3_entry 27 rfl) rfl ?_
    exact tz_iret rfl (zd DX3_entry 29 rfl)
  refine tz_iconst (0 : Int32) zk_iconst_0 (zd DX3_entry 10 rfl) ?_
  exact tz_iret rfl (zd DX3_entry 11 rfl)
def QX0_join : List (Nat × Instr × Nat) := [(0, .aload_n 0, 1), (1, .getfield 47, 3), (4, .tableswitch 216 0 6 #[44, 59, 78, 95, 121, 150, 180], 44), (48, .aload_n 0, 1), (49, .lload_n 1, 1), (50, .lload 5, 2), (52, .ladd, 1), (53, .lload_n 3, 1), (54, .lload 7, 2), (56, .ladd, 1), (57, .invokevirtual 32, 3), (60, .goto 178, 3), (63, .aload_n 0, 1), (64, .lload_n 1, 1), (65, .lload 5, 2), (67, .invokestatic 68, 3), (70, .lload_n 3, 1), (71, .lload 7, 2), (73, .invokestatic 74, 3), (76, .invokevirtual 32, 3), (79, .goto 159, 3), (82, .aload_n 0, 1), (83, .lload_n 1, 1), (84, .lload 5, 2), (86, .invokestatic 77, 3), (89, .lload_n 3, 1), (90, .lload 7, 2), (92, .lxor, 1), (93, .invokevirtual 32, 3), (96, .goto 142, 3), (99, .aload_n 0, 1), (100, .lload_n 1, 1), (101, .lload 5, 2), (103, .lmul, 1), (104, .ldc2_w 80, 3), (107, .lrem, 1), (108, .lload 5, 2), (110, .lload_n 3, 1), (111, .lmul, 1), (112, .lload 7, 2), (114, .ladd, 1), (115, .ldc2_w 80, 3), (118, .lrem, 1), (119, .invokevirtual 32, 3), (122, .goto 116, 3), (125, .lload_n 3, 1), (126, .lload 5, 2), (128, .invokestatic 68, 3), (131, .lstore 9, 2), (133, .aload_n 0, 1), (134, .lload_n 1, 1), (135, .lload 5, 2), (137, .ladd, 1), (138, .lload 9, 2), (140, .lsub, 1), (141, .lload_n 3, 1), (142, .lload 7, 2), (144, .ladd, 1), (145, .lload 9, 2), (147, .lsub, 1), (148, .invokevirtual 32, 3), (151, .goto 87, 3), (154, .aload_n 0, 1), (155, .lload_n 1, 1), (156, .l2i, 1), (157, .invokestatic 62, 3), (160, .lload 5, 2), (162, .l2i, 1), (163, .invokestatic 62, 3), (166, .invokestatic 82, 3), (169, .i2l, 1), (170, .lload_n 3, 1), (171, .lload 7, 2), (173, .ladd, 1), (174, .ldc2_w 86, 3), (177, .lrem, 1), (178, .invokevirtual 32, 3), (181, .goto 57, 3), (184, .aload_n 0, 1), (185, .lload_n 1, 1), (186, .ldc2_w 53, 3), (189, .lcmp, 1), (190, .ifCond .ne 8, 3), (193, .lload 5, 2), (195, .goto 4, 3), (198, .lload_n 1, 1), (199, .lload 5, 2), (201, .ldc2_w 53, 3), (204, .lcmp, 1), (205, .ifCond .ne 7, 3), (208, .lload_n 3, 1), (209, .goto 5, 3), (212, .lload 7, 2), (214, .invokevirtual 32, 3), (217, .goto 21, 3), (220, .aload_n 0, 1), (221, .aload_n 0, 1), (222, .getfield 12, 3), (225, .lload_n 1, 1), (226, .l2i, 1), (227, .lload 5, 2), (229, .l2i, 1), (230, .invokevirtual 88, 3), (233, .i2l, 1), (234, .lconst 0, 1), (235, .invokevirtual 32, 3), (238, .return_, 1)]
set_option maxRecDepth 100000 in
theorem DX0_join : ∀ q ∈ QX0_join, decode cX0_join q.1 = .ok (q.2.1, q.2.2) := by decide +kernel
abbrev MX0_join : zM := (cX0_join, "EndSums$Joining", 11, none, { frames := 1, cells := 0, slots := 0, locals := 30 })
def fX0_join (a1 : Int64) (a3 : Int64) (a5 : Int64) (a7 : Int64) (w : zW) : Option (Unit × zW) :=
  if (zI w 1 0) = (0 : Int32) then
    bd (fX0_startWith (a1 + a5) (a3 + a7) w) fun _ w2 =>
    some ((), w2)
  else
  if (zI w 1 0) = (1 : Int32) then
    bd (fX0_startWith (if a5 < a1 then a5 else a1) (if a7 < a3 then a3 else a7) w) fun _ w6 =>
    some ((), w6)
  else
  if (zI w 1 0) = (2 : Int32) then
    bd (fX0_greatestDivisor a1 a5 w) fun v12 w10 =>
    bd (fX0_startWith v12 (a3 ^^^ a7) w10) fun _ w13 =>
    some ((), w13)
  else
  if (zI w 1 0) = (3 : Int32) then
    bd (fX0_startWith ((a1 * a5) - (a1 * a5) / (101 : Int64) * (101 : Int64)) (((a5 * a3) + a7) - ((a5 * a3) + a7) / (101 : Int64) * (101 : Int64)) w) fun _ w17 =>
    some ((), w17)
  else
  if (zI w 1 0) = (4 : Int32) then
    lt (if a5 < a3 then a5 else a3) fun v21 =>
    bd (fX0_startWith ((a1 + a5) - v21) ((a3 + a7) - v21) w) fun _ w22 =>
    some ((), w22)
  else
  if (zI w 1 0) = (5 : Int32) then
    bd (fX0_arrangement (a1.toInt32) w) fun v28 w26 =>
    bd (fX0_arrangement (a5.toInt32) w26) fun v31 w29 =>
    bd (fX0_arranged v28 v31 w29) fun v34 w32 =>
    bd (fX0_startWith (v34).toInt64 ((a3 + a7) - (a3 + a7) / (2 : Int64) * (2 : Int64)) w32) fun _ w35 =>
    some ((), w35)
  else
  if (zI w 1 0) = (6 : Int32) then
    if ¬ a1 = (-1 : Int64) then
      if ¬ a5 = (-1 : Int64) then
        bd (fX0_startWith a1 a7 w) fun _ w41 =>
        some ((), w41)
      else
      bd (fX0_startWith a1 a3 w) fun _ w44 =>
      some ((), w44)
    else
    if ¬ a5 = (-1 : Int64) then
      bd (fX0_startWith a5 a7 w) fun _ w48 =>
      some ((), w48)
    else
    bd (fX0_startWith a5 a3 w) fun _ w51 =>
    some ((), w51)
  else
  bd (fX3_entry 2 (a1.toInt32) (a5.toInt32) w) fun v56 w54 =>
  bd (fX0_startWith (v56).toInt64 (0 : Int64) w54) fun _ w57 =>
  some ((), w57)
theorem YX0_join : zYV yX0_join MX0_join 4 := ⟨wk_309, wk_2, ⟨wk_308, ws_16⟩, ⟨by decide, by decide, by decide +kernel⟩, rfl, rfl⟩
set_option maxHeartbeats 4000000 in
set_option maxRecDepth 100000 in
theorem tX0_join (a1 : Int64) (a3 : Int64) (a5 : Int64) (a7 : Int64) (w : zW) : Sm yX0_join MX0_join zn [.ref 1, .long a1, .long a3, .long a5, .long a7] w (fX0_join a1 a3 a5 a7 w) := by
  refine Sm_of (lv0 := [(0, .ref 1), (1, .long a1), (3, .long a3), (5, .long a5), (7, .long a7)]) (by decide) rfl (fun _ => Nat.le_of_ble_eq_true rfl) rfl ?_
  unfold fX0_join
  refine tz_aload_n 0 rfl (zd DX0_join 0 rfl) ?_
  refine tz_getI 0 kz0 (zs_1) (by decide) rfl wk_51 (zd DX0_join 1 rfl) ?_
  refine tz_case (fun q1 => ?_) (fun q1 => ?_)
  · refine tz_tin (0) 48 (by rw [q1]; decide) (zd DX0_join 2 rfl) (by decide) (by decide) rfl rfl ?_
    refine tz_aload_n 0 rfl (zd DX0_join 3 rfl) ?_
    refine tz_lload_n 1 rfl (zd DX0_join 4 rfl) ?_
    refine tz_lload 3 rfl (zd DX0_join 5 rfl) ?_
    refine tz_ladd (zd DX0_join 6 rfl) ?_
    refine tz_lload_n 2 rfl (zd DX0_join 7 rfl) ?_
    refine tz_lload 4 rfl (zd DX0_join 8 rfl) ?_
    refine tz_ladd (zd DX0_join 9 rfl) ?_
    refine tz_cV_n kz0 (zs_1) rfl (rest := []) (YX0_startWith) wk_310 (tX0_startWith (a1 + a5) (a3 + a7) w) rfl rfl (Nat.le_of_ble_eq_true rfl) ⟨Nat.le_of_ble_eq_true rfl, Nat.le_of_ble_eq_true rfl⟩ (zd DX0_join 10 rfl) (fun v4 w2 e3 => ?_)
    refine tz_goto 238 (zd DX0_join 11 rfl) rfl ?_
    exact tz_vret rfl (zd DX0_join 106 rfl)
  refine tz_case (fun q5 => ?_) (fun q5 => ?_)
  · refine tz_tin (1) 63 (by rw [q5]; decide) (zd DX0_join 2 rfl) (by decide) (by decide) rfl rfl ?_
    refine tz_aload_n 0 rfl (zd DX0_join 12 rfl) ?_
    refine tz_lload_n 1 rfl (zd DX0_join 13 rfl) ?_
    refine tz_lload 3 rfl (zd DX0_join 14 rfl) ?_
    refine tz_mmin_long wk_314 wk_315 wk_10 wk_316 (Nat.le_of_ble_eq_true rfl) (Nat.le_of_ble_eq_true rfl) (zd DX0_join 15 rfl) ?_
    refine tz_lload_n 2 rfl (zd DX0_join 16 rfl) ?_
    refine tz_lload 4 rfl (zd DX0_join 17 rfl) ?_
    refine tz_mmax_long wk_317 wk_318 wk_10 wk_319 (Nat.le_of_ble_eq_true rfl) (Nat.le_of_ble_eq_true rfl) (zd DX0_join 18 rfl) ?_
    refine tz_cV_n kz0 (zs_1) rfl (rest := []) (YX0_startWith) wk_310 (tX0_startWith (if a5 < a1 then a5 else a1) (if a7 < a3 then a3 else a7) w) rfl rfl (Nat.le_of_ble_eq_true rfl) ⟨Nat.le_of_ble_eq_true rfl, Nat.le_of_ble_eq_true rfl⟩ (zd DX0_join 19 rfl) (fun v8 w6 e7 => ?_)
    refine tz_goto 238 (zd DX0_join 20 rfl) rfl ?_
    exact tz_vret rfl (zd DX0_join 106 rfl)
  refine tz_case (fun q9 => ?_) (fun q9 => ?_)
  · refine tz_tin (2) 82 (by rw [q9]; decide) (zd DX0_join 2 rfl) (by decide) (by decide) rfl rfl ?_
    refine tz_aload_n 0 rfl (zd DX0_join 21 rfl) ?_
    refine tz_lload_n 1 rfl (zd DX0_join 22 rfl) ?_
    refine tz_lload 3 rfl (zd DX0_join 23 rfl) ?_
    refine tz_cS_l (rest := [.ref 1]) (YX0_greatestDivisor) wk_320 (tX0_greatestDivisor a1 a5 w) rfl rfl (Nat.le_of_ble_eq_true rfl) ⟨Nat.le_of_ble_eq_true rfl, Nat.le_of_ble_eq_true rfl⟩ (zd DX0_join 24 rfl) (fun v12 w10 e11 => ?_)
    refine tz_lload_n 2 rfl (zd DX0_join 25 rfl) ?_
    refine tz_lload 4 rfl (zd DX0_join 26 rfl) ?_
    refine tz_lxor (zd DX0_join 27 rfl) ?_
    refine tz_cV_n kz0 (zs_1) rfl (rest := []) (YX0_startWith) wk_310 (tX0_startWith v12 (a3 ^^^ a7) w10) rfl rfl (Nat.le_of_ble_eq_true rfl) ⟨Nat.le_of_ble_eq_true rfl, Nat.le_of_ble_eq_true rfl⟩ (zd DX0_join 28 rfl) (fun v15 w13 e14 => ?_)
    refine tz_goto 238 (zd DX0_join 29 rfl) rfl ?_
    exact tz_vret rfl (zd DX0_join 106 rfl)
  refine tz_case (fun q16 => ?_) (fun q16 => ?_)
  · refine tz_tin (3) 99 (by rw [q16]; decide) (zd DX0_join 2 rfl) (by decide) (by decide) rfl rfl ?_
    refine tz_aload_n 0 rfl (zd DX0_join 30 rfl) ?_
    refine tz_lload_n 1 rfl (zd DX0_join 31 rfl) ?_
    refine tz_lload 3 rfl (zd DX0_join 32 rfl) ?_
    refine tz_lmul (zd DX0_join 33 rfl) ?_
    refine tz_ldc2_w wk_323 (zd DX0_join 34 rfl) ?_
    refine tz_lrem (by decide) (zd DX0_join 35 rfl) ?_
    refine tz_lload 3 rfl (zd DX0_join 36 rfl) ?_
    refine tz_lload_n 2 rfl (zd DX0_join 37 rfl) ?_
    refine tz_lmul (zd DX0_join 38 rfl) ?_
    refine tz_lload 4 rfl (zd DX0_join 39 rfl) ?_
    refine tz_ladd (zd DX0_join 40 rfl) ?_
    refine tz_ldc2_w wk_323 (zd DX0_join 41 rfl) ?_
    refine tz_lrem (by decide) (zd DX0_join 42 rfl) ?_
    refine tz_cV_n kz0 (zs_1) rfl (rest := []) (YX0_startWith) wk_310 (tX0_startWith ((a1 * a5) - (a1 * a5) / (101 : Int64) * (101 : Int64)) (((a5 * a3) + a7) - ((a5 * a3) + a7) / (101 : Int64) * (101 : Int64)) w) rfl rfl (Nat.le_of_ble_eq_true rfl) ⟨Nat.le_of_ble_eq_true rfl, Nat.le_of_ble_eq_true rfl⟩ (zd DX0_join 43 rfl) (fun v19 w17 e18 => ?_)
    refine tz_goto 238 (zd DX0_join 44 rfl) rfl ?_
    exact tz_vret rfl (zd DX0_join 106 rfl)
  refine tz_case (fun q20 => ?_) (fun q20 => ?_)
  · refine tz_tin (4) 125 (by rw [q20]; decide) (zd DX0_join 2 rfl) (by decide) (by decide) rfl rfl ?_
    refine tz_lload_n 2 rfl (zd DX0_join 45 rfl) ?_
    refine tz_lload 3 rfl (zd DX0_join 46 rfl) ?_
    refine tz_mmin_long wk_314 wk_315 wk_10 wk_316 (Nat.le_of_ble_eq_true rfl) (Nat.le_of_ble_eq_true rfl) (zd DX0_join 47 rfl) ?_
    refine tz_ltl (fun v21 => ?_)
    refine tz_lstore [(9, .long v21), (0, .ref 1), (1, .long a1), (3, .long a3), (5, .long a5), (7, .long a7)] (Nat.le_of_ble_eq_true rfl) rfl (zd DX0_join 48 rfl) ?_
    refine tz_aload_n 1 rfl (zd DX0_join 49 rfl) ?_
    refine tz_lload_n 2 rfl (zd DX0_join 50 rfl) ?_
    refine tz_lload 4 rfl (zd DX0_join 51 rfl) ?_
    refine tz_ladd (zd DX0_join 52 rfl) ?_
    refine tz_lload 0 rfl (zd DX0_join 53 rfl) ?_
    refine tz_lsub (zd DX0_join 54 rfl) ?_
    refine tz_lload_n 3 rfl (zd DX0_join 55 rfl) ?_
    refine tz_lload 5 rfl (zd DX0_join 56 rfl) ?_
    refine tz_ladd (zd DX0_join 57 rfl) ?_
    refine tz_lload 0 rfl (zd DX0_join 58 rfl) ?_
    refine tz_lsub (zd DX0_join 59 rfl) ?_
    refine tz_cV_n kz0 (zs_1) rfl (rest := []) (YX0_startWith) wk_310 (tX0_startWith ((a1 + a5) - v21) ((a3 + a7) - v21) w) rfl rfl (Nat.le_of_ble_eq_true rfl) ⟨Nat.le_of_ble_eq_true rfl, Nat.le_of_ble_eq_true rfl⟩ (zd DX0_join 60 rfl) (fun v24 w22 e23 => ?_)
    refine tz_goto 238 (zd DX0_join 61 rfl) rfl ?_
    exact tz_vret rfl (zd DX0_join 106 rfl)
  refine tz_case (fun q25 => ?_) (fun q25 => ?_)
  · refine tz_tin (5) 154 (by rw [q25]; decide) (zd DX0_join 2 rfl) (by decide) (by decide) rfl rfl ?_
    refine tz_aload_n 0 rfl (zd DX0_join 62 rfl) ?_
    refine tz_lload_n 1 rfl (zd DX0_join 63 rfl) ?_
    refine tz_l2i (zd DX0_join 64 rfl) ?_
    refine tz_cS_i (rest := [.ref 1]) (YX0_arrangement) wk_298 (tX0_arrangement (a1.toInt32) w) rfl rfl (Nat.le_of_ble_eq_true rfl) ⟨Nat.le_of_ble_eq_true rfl, Nat.le_of_ble_eq_true rfl⟩ (zd DX0_join 65 rfl) (fun v28 w26 e27 => ?_)
    refine tz_lload 3 rfl (zd DX0_join 66 rfl) ?_
    refine tz_l2i (zd DX0_join 67 rfl) ?_
    refine tz_cS_i (rest := [.int v28, .ref 1]) (YX0_arrangement) wk_298 (tX0_arrangement (a5.toInt32) w26) rfl rfl (Nat.le_of_ble_eq_true rfl) ⟨Nat.le_of_ble_eq_true rfl, Nat.le_of_ble_eq_true rfl⟩ (zd DX0_join 68 rfl) (fun v31 w29 e30 => ?_)
    refine tz_cS_i (rest := [.ref 1]) (YX0_arranged) wk_324 (tX0_arranged v28 v31 w29) rfl rfl (Nat.le_of_ble_eq_true rfl) ⟨Nat.le_of_ble_eq_true rfl, Nat.le_of_ble_eq_true rfl⟩ (zd DX0_join 69 rfl) (fun v34 w32 e33 => ?_)
    refine tz_i2l (zd DX0_join 70 rfl) ?_
    refine tz_lload_n 2 rfl (zd DX0_join 71 rfl) ?_
    refine tz_lload 4 rfl (zd DX0_join 72 rfl) ?_
    refine tz_ladd (zd DX0_join 73 rfl) ?_
    refine tz_ldc2_w wk_327 (zd DX0_join 74 rfl) ?_
    refine tz_lrem (by decide) (zd DX0_join 75 rfl) ?_
    refine tz_cV_n kz0 (zs_1) rfl (rest := []) (YX0_startWith) wk_310 (tX0_startWith (v34).toInt64 ((a3 + a7) - (a3 + a7) / (2 : Int64) * (2 : Int64)) w32) rfl rfl (Nat.le_of_ble_eq_true rfl) ⟨Nat.le_of_ble_eq_true rfl, Nat.le_of_ble_eq_true rfl⟩ (zd DX0_join 76 rfl) (fun v37 w35 e36 => ?_)
    refine tz_goto 238 (zd DX0_join 77 rfl) rfl ?_
    exact tz_vret rfl (zd DX0_join 106 rfl)
  refine tz_case (fun q38 => ?_) (fun q38 => ?_)
  · refine tz_tin (6) 184 (by rw [q38]; decide) (zd DX0_join 2 rfl) (by decide) (by decide) rfl rfl ?_
    refine tz_aload_n 0 rfl (zd DX0_join 78 rfl) ?_
    refine tz_lload_n 1 rfl (zd DX0_join 79 rfl) ?_
    refine tz_ldc2_w wk_278 (zd DX0_join 80 rfl) ?_
    refine tz_lcmp_ne 198 (zd DX0_join 81 rfl) (zd DX0_join 82 rfl) rfl (fun q39 => ?_) (fun q39 => ?_)
    · refine tz_lload_n 1 rfl (zd DX0_join 85 rfl) ?_
      refine tz_lload 3 rfl (zd DX0_join 86 rfl) ?_
      refine tz_ldc2_w wk_278 (zd DX0_join 87 rfl) ?_
      refine tz_lcmp_ne 212 (zd DX0_join 88 rfl) (zd DX0_join 89 rfl) rfl (fun q40 => ?_) (fun q40 => ?_)
      · refine tz_lload 4 rfl (zd DX0_join 92 rfl) ?_
        refine tz_cV_n kz0 (zs_1) rfl (rest := []) (YX0_startWith) wk_310 (tX0_startWith a1 a7 w) rfl rfl (Nat.le_of_ble_eq_true rfl) ⟨Nat.le_of_ble_eq_true rfl, Nat.le_of_ble_eq_true rfl⟩ (zd DX0_join 93 rfl) (fun v43 w41 e42 => ?_)
        refine tz_goto 238 (zd DX0_join 94 rfl) rfl ?_
        exact tz_vret rfl (zd DX0_join 106 rfl)
      refine tz_lload_n 2 rfl (zd DX0_join 90 rfl) ?_
      refine tz_goto 214 (zd DX0_join 91 rfl) rfl ?_
      refine tz_cV_n kz0 (zs_1) rfl (rest := []) (YX0_startWith) wk_310 (tX0_startWith a1 a3 w) rfl rfl (Nat.le_of_ble_eq_true rfl) ⟨Nat.le_of_ble_eq_true rfl, Nat.le_of_ble_eq_true rfl⟩ (zd DX0_join 93 rfl) (fun v46 w44 e45 => ?_)
      refine tz_goto 238 (zd DX0_join 94 rfl) rfl ?_
      exact tz_vret rfl (zd DX0_join 106 rfl)
    refine tz_lload 3 rfl (zd DX0_join 83 rfl) ?_
    refine tz_goto 199 (zd DX0_join 84 rfl) rfl ?_
    refine tz_lload 3 rfl (zd DX0_join 86 rfl) ?_
    refine tz_ldc2_w wk_278 (zd DX0_join 87 rfl) ?_
    refine tz_lcmp_ne 212 (zd DX0_join 88 rfl) (zd DX0_join 89 rfl) rfl (fun q47 => ?_) (fun q47 => ?_)
    · refine tz_lload 4 rfl (zd DX0_join 92 rfl) ?_
      refine tz_cV_n kz0 (zs_1) rfl (rest := []) (YX0_startWith) wk_310 (tX0_startWith a5 a7 w) rfl rfl (Nat.le_of_ble_eq_true rfl) ⟨Nat.le_of_ble_eq_true rfl, Nat.le_of_ble_eq_true rfl⟩ (zd DX0_join 93 rfl) (fun v50 w48 e49 => ?_)
      refine tz_goto 238 (zd DX0_join 94 rfl) rfl ?_
      exact tz_vret rfl (zd DX0_join 106 rfl)
    refine tz_lload_n 2 rfl (zd DX0_join 90 rfl) ?_
    refine tz_goto 214 (zd DX0_join 91 rfl) rfl ?_
    refine tz_cV_n kz0 (zs_1) rfl (rest := []) (YX0_startWith) wk_310 (tX0_startWith a5 a3 w) rfl rfl (Nat.le_of_ble_eq_true rfl) ⟨Nat.le_of_ble_eq_true rfl, Nat.le_of_ble_eq_true rfl⟩ (zd DX0_join 93 rfl) (fun v53 w51 e52 => ?_)
    refine tz_goto 238 (zd DX0_join 94 rfl) rfl ?_
    exact tz_vret rfl (zd DX0_join 106 rfl)
  refine tz_tout 220 (by have eq1 := z_ne q1; have eq5 := z_ne q5; have eq9 := z_ne q9; have eq16 := z_ne q16; have eq20 := z_ne q20; have eq25 := z_ne q25; have eq38 := z_ne q38; rw [show ((0 : Int32)).toInt = 0 from rfl] at eq1; rw [show ((1 : Int32)).toInt = 1 from rfl] at eq5; rw [show ((2 : Int32)).toInt = 2 from rfl] at eq9; rw [show ((3 : Int32)).toInt = 3 from rfl] at eq16; rw [show ((4 : Int32)).toInt = 4 from rfl] at eq20; rw [show ((5 : Int32)).toInt = 5 from rfl] at eq25; rw [show ((6 : Int32)).toInt = 6 from rfl] at eq38; omega) (zd DX0_join 2 rfl) rfl ?_
  refine tz_aload_n 0 rfl (zd DX0_join 95 rfl) ?_
  refine tz_aload_n 0 rfl (zd DX0_join 96 rfl) ?_
  refine tz_getR 2 1 kz0 (zs_1) (by decide) (by decide) rfl wk_52 (zd DX0_join 97 rfl) ?_
  refine tz_lload_n 1 rfl (zd DX0_join 98 rfl) ?_
  refine tz_l2i (zd DX0_join 99 rfl) ?_
  refine tz_lload 3 rfl (zd DX0_join 100 rfl) ?_
  refine tz_l2i (zd DX0_join 101 rfl) ?_
  refine tz_cVN_i kz3 (zs_2) rfl (rest := [.ref 1]) (YX3_entry) wn_328 (tX3_entry 2 (zs_2) (a1.toInt32) (a5.toInt32) w) rfl rfl (Nat.le_of_ble_eq_true rfl) ⟨Nat.le_of_ble_eq_true rfl, Nat.le_of_ble_eq_true rfl⟩ (zd DX0_join 102 rfl) (fun v56 w54 e55 => ?_)
  refine tz_i2l (zd DX0_join 103 rfl) ?_
  refine tz_lconst (0 : Int64) rfl (zd DX0_join 104 rfl) ?_
  refine tz_cV_n kz0 (zs_1) rfl (rest := []) (YX0_startWith) wk_310 (tX0_startWith (v56).toInt64 (0 : Int64) w54) rfl rfl (Nat.le_of_ble_eq_true rfl) ⟨Nat.le_of_ble_eq_true rfl, Nat.le_of_ble_eq_true rfl⟩ (zd DX0_join 105 rfl) (fun v59 w57 e58 => ?_)
  exact tz_vret rfl (zd DX0_join 106 rfl)
def QX0_follow : List (Nat × Instr × Nat) := [(0, .aload_n 0, 1), (1, .aload_n 0, 1), (2, .getfield 18, 3), (5, .aload_n 0, 1), (6, .getfield 22, 3), (9, .aload_n 0, 1), (10, .iload_n 1, 1), (11, .invokevirtual 36, 3), (14, .aload_n 0, 1), (15, .iload_n 1, 1), (16, .invokevirtual 40, 3), (19, .invokevirtual 43, 3), (22, .return_, 1)]
set_option maxRecDepth 100000 in
theorem DX0_follow : ∀ q ∈ QX0_follow, decode cX0_follow q.1 = .ok (q.2.1, q.2.2) := by decide +kernel
abbrev MX0_follow : zM := (cX0_follow, "EndSums$Joining", 2, none, { frames := 2, cells := 0, slots := 0, locals := 60 })
def fX0_follow (a1 : Int32) (w : zW) : Option (Unit × zW) :=
  bd (fX0_elementP a1 w) fun v3 w1 =>
  bd (fX0_elementQ a1 w1) fun v6 w4 =>
  bd (fX0_join (zL w 1 2) (zL w 1 3) v3 v6 w4) fun _ w7 =>
  some ((), w7)
theorem YX0_follow : zYV yX0_follow MX0_follow 1 := ⟨wk_420, wk_2, ⟨wk_419, ws_34⟩, ⟨by decide, by decide, by decide +kernel⟩, rfl, rfl⟩
set_option maxHeartbeats 4000000 in
set_option maxRecDepth 100000 in
theorem tX0_follow (a1 : Int32) (w : zW) : Sm yX0_follow MX0_follow zn [.ref 1, .int a1] w (fX0_follow a1 w) := by
  refine Sm_of (lv0 := [(0, .ref 1), (1, .int a1)]) (by decide) rfl (fun _ => Nat.le_of_ble_eq_true rfl) rfl ?_
  unfold fX0_follow
  refine tz_aload_n 0 rfl (zd DX0_follow 0 rfl) ?_
  refine tz_aload_n 0 rfl (zd DX0_follow 1 rfl) ?_
  refine tz_getJ 2 kz0 (zs_1) (by decide) rfl wk_54 (zd DX0_follow 2 rfl) ?_
  refine tz_aload_n 0 rfl (zd DX0_follow 3 rfl) ?_
  refine tz_getJ 3 kz0 (zs_1) (by decide) rfl wk_57 (zd DX0_follow 4 rfl) ?_
  refine tz_aload_n 0 rfl (zd DX0_follow 5 rfl) ?_
  refine tz_iload_n 1 rfl (zd DX0_follow 6 rfl) ?_
  refine tz_cV_l kz0 (zs_1) rfl (rest := [.long (zL w 1 3), .long (zL w 1 2), .ref 1]) (YX0_elementP) wk_415 (tX0_elementP a1 w) rfl rfl (Nat.le_of_ble_eq_true rfl) ⟨Nat.le_of_ble_eq_true rfl, Nat.le_of_ble_eq_true rfl⟩ (zd DX0_follow 7 rfl) (fun v3 w1 e2 => ?_)
  refine tz_aload_n 0 rfl (zd DX0_follow 8 rfl) ?_
  refine tz_iload_n 1 rfl (zd DX0_follow 9 rfl) ?_
  refine tz_cV_l kz0 (zs_1) rfl (rest := [.long v3, .long (zL w 1 3), .long (zL w 1 2), .ref 1]) (YX0_elementQ) wk_416 (tX0_elementQ a1 w1) rfl rfl (Nat.le_of_ble_eq_true rfl) ⟨Nat.le_of_ble_eq_true rfl, Nat.le_of_ble_eq_true rfl⟩ (zd DX0_follow 10 rfl) (fun v6 w4 e5 => ?_)
  refine tz_cV_n kz0 (zs_1) rfl (rest := []) (YX0_join) wk_421 (tX0_join (zL w 1 2) (zL w 1 3) v3 v6 w4) rfl rfl (Nat.le_of_ble_eq_true rfl) ⟨Nat.le_of_ble_eq_true rfl, Nat.le_of_ble_eq_true rfl⟩ (zd DX0_follow 11 rfl) (fun v9 w7 e8 => ?_)
  exact tz_vret rfl (zd DX0_follow 12 rfl)
def QX0_power : List (Nat × Instr × Nat) := [(0, .iconst 0, 1), (1, .istore_n 3, 1), (2, .aload_n 0, 1), (3, .invokevirtual 95, 3), (6, .bipush 30, 2), (8, .istore 4, 2), (10, .iload 4, 2), (12, .ifCond .lt 74, 3), (15, .iload_n 2, 1), (16, .iload 4, 2), (18, .ishr, 1), (19, .istore 5, 2), (21, .iload 5, 2), (23, .iconst 1, 1), (24, .if_icmp .ne 11, 3), (27, .aload_n 0, 1), (28, .iload_n 1, 1), (29, .invokevirtual 98, 3), (32, .goto 48, 3), (35, .iload 5, 2), (37, .iconst 1, 1), (38, .if_icmp .le 42, 3), (41, .aload_n 0, 1), (42, .aload_n 0, 1), (43, .getfield 18, 3), (46, .aload_n 0, 1), (47, .getfield 22, 3), (50, .aload_n 0, 1), (51, .getfield 18, 3), (54, .aload_n 0, 1), (55, .getfield 22, 3), (58, .invokevirtual 43, 3), (61, .iinc 3 1, 3), (64, .iload 5, 2), (66, .iconst 2, 1), (67, .irem, 1), (68, .iconst 1, 1), (69, .if_icmp .ne 11, 3), (72, .aload_n 0, 1), (73, .iload_n 1, 1), (74, .invokevirtual 102, 3), (77, .iinc 3 1, 3), (80, .iinc 4 (-1), 3), (83, .goto (-73), 3), (86, .iload_n 3, 1), (87, .ireturn, 1)]
set_option maxRecDepth 100000 in
theorem DX0_power : ∀ q ∈ QX0_power, decode cX0_power q.1 = .ok (q.2.1, q.2.2) := by decide +kernel
abbrev MX0_power : zM := (cX0_power, "EndSums$Joining", 6, (some .int), { frames := 3, cells := 0, slots := 0, locals := 81 })
def fX0_power_L10 (x1 : Int32) (x2 : Int32) : Nat → Int32 → Int32 → zW → Option (Int32 × zW)
  | 0, _, _, _ => none
  | n + 1, x3, x4, w =>
    if x4 < (0 : Int32) then
      some (x3, w)
    else
    lt (x2 >>> (x4 &&& 31)) fun v5 =>
    lt (fun (y3_80 : Int32) (w6 : zW) =>
      fX0_power_L10 x1 x2 n y3_80 (x4 + (-1 : Int32)) w6) fun j6 =>
    if ¬ v5 = (1 : Int32) then
      if v5 ≤ (1 : Int32) then
        j6 x3 w
      else
      bd (fX0_join (zL w 1 2) (zL w 1 3) (zL w 1 2) (zL w 1 3) w) fun _ w9 =>
      if ¬ (v5 - v5 / (2 : Int32) * (2 : Int32)) = (1 : Int32) then
        j6 (x3 + (1 : Int32)) w9
      else
      bd (fX0_follow x1 w9) fun _ w13 =>
      j6 ((x3 + (1 : Int32)) + (1 : Int32)) w13
    else
    bd (fX0_start x1 w) fun _ w16 =>
    j6 x3 w16
def fX0_power (a1 : Int32) (a2 : Int32) (w : zW) : Option (Int32 × zW) :=
  bd (fX0_startEmpty w) fun _ w1 =>
  fX0_power_L10 a1 a2 zFU (0 : Int32) (30 : Int32) w1
theorem YX0_power : zYV yX0_power MX0_power 2 := ⟨wk_438, wk_2, ⟨wk_437, ws_37⟩, ⟨by decide, by decide, by decide +kernel⟩, rfl, rfl⟩
set_option maxHeartbeats 4000000 in
set_option maxRecDepth 100000 in
theorem lX0_power_L10 (x1 : Int32) (x2 : Int32) : ∀ (n : Nat) (x3 : Int32) (x4 : Int32) (w : zW), Tz MX0_power (zRet zi) (fX0_power_L10 x1 x2 n x3 x4 w) 10 [(0, .ref 1), (1, .int x1), (2, .int x2), (3, .int x3), (4, .int x4)] [] w := by
  intro n
  induction n with
  | zero => intro x3 x4 w; exact tz_eq (fX0_power_L10.eq_1 _ _ _ _ _) tz_none
  | succ n ih =>
    intro x3 x4 w
    refine tz_eq (fX0_power_L10.eq_2 _ _ _ _ _ _) ?_
    refine tz_iload 4 rfl (zd DX0_power 6 rfl) ?_
    refine tz_if_lt 86 (zd DX0_power 7 rfl) rfl (fun q4 => ?_) (fun q4 => ?_)
    · refine tz_iload_n 3 rfl (zd DX0_power 44 rfl) ?_
      exact tz_iret rfl (zd DX0_power 45 rfl)
    refine tz_iload_n 2 rfl (zd DX0_power 8 rfl) ?_
    refine tz_iload 4 rfl (zd DX0_power 9 rfl) ?_
    refine tz_ishr (zd DX0_power 10 rfl) ?_
    refine tz_lti (fun v5 => ?_)
    refine tz_istore [(5, .int v5), (0, .ref 1), (1, .int x1), (2, .int x2), (3, .int x3), (4, .int x4)] (Nat.le_of_ble_eq_true rfl) rfl (zd DX0_power 11 rfl) ?_
    refine tz_iload 0 rfl (zd DX0_power 12 rfl) ?_
    refine tz_iconst (1 : Int32) zk_iconst_1 (zd DX0_power 13 rfl) ?_
    refine tz_jp (P := fun j => ∀ (y3_80 : Int32) (w6 : zW), Tz MX0_power (zRet zi) (j y3_80 w6) 80 [(0, .ref 1), (1, .int x1), (2, .int x2), (3, .int y3_80), (4, .int x4)] [] w6) ?_ (fun j6 hj6 => ?_)
    · intro y3_80 w6
      refine tz_iinc 4 (-1 : Int32) [(4, .int (x4 + (-1 : Int32))), (0, .ref 1), (1, .int x1), (2, .int x2), (3, .int y3_80)] rfl zk_iconst_m1 (Nat.le_of_ble_eq_true rfl) rfl (zd DX0_power 42 rfl) ?_
      refine tz_goto 10 (zd DX0_power 43 rfl) rfl ?_
      refine tz_lv (lv2 := [(0, .ref 1), (1, .int x1), (2, .int x2), (3, .int y3_80), (4, .int (x4 + (-1 : Int32)))]) [1, 2, 3, 4, 0] rfl ?_
      exact ih y3_80 (x4 + (-1 : Int32)) w6
    refine tz_icmp_ne 35 (zd DX0_power 14 rfl) rfl (fun q7 => ?_) (fun q7 => ?_)
    · refine tz_iload 0 rfl (zd DX0_power 19 rfl) ?_
      refine tz_iconst (1 : Int32) zk_iconst_1 (zd DX0_power 20 rfl) ?_
      refine tz_icmp_le 80 (zd DX0_power 21 rfl) rfl (fun q8 => ?_) (fun q8 => ?_)
      · refine tz_lv (lv2 := [(0, .ref 1), (1, .int x1), (2, .int x2), (3, .int x3), (4, .int x4)]) [1, 2, 3, 4, 5] rfl ?_
        exact hj6 x3 w
      refine tz_aload_n 1 rfl (zd DX0_power 22 rfl) ?_
      refine tz_aload_n 1 rfl (zd DX0_power 23 rfl) ?_
      refine tz_getJ 2 kz0 (zs_1) (by decide) rfl wk_54 (zd DX0_power 24 rfl) ?_
      refine tz_aload_n 1 rfl (zd DX0_power 25 rfl) ?_
      refine tz_getJ 3 kz0 (zs_1) (by decide) rfl wk_57 (zd DX0_power 26 rfl) ?_
      refine tz_aload_n 1 rfl (zd DX0_power 27 rfl) ?_
      refine tz_getJ 2 kz0 (zs_1) (by decide) rfl wk_54 (zd DX0_power 28 rfl) ?_
      refine tz_aload_n 1 rfl (zd DX0_power 29 rfl) ?_
      refine tz_getJ 3 kz0 (zs_1) (by decide) rfl wk_57 (zd DX0_power 30 rfl) ?_
      refine tz_cV_n kz0 (zs_1) rfl (rest := []) (YX0_join) wk_421 (tX0_join (zL w 1 2) (zL w 1 3) (zL w 1 2) (zL w 1 3) w) rfl rfl (Nat.le_of_ble_eq_true rfl) ⟨Nat.le_of_ble_eq_true rfl, Nat.le_of_ble_eq_true rfl⟩ (zd DX0_power 31 rfl) (fun v11 w9 e10 => ?_)
      refine tz_iinc 4 (1 : Int32) [(3, .int (x3 + (1 : Int32))), (5, .int v5), (0, .ref 1), (1, .int x1), (2, .int x2), (4, .int x4)] rfl zk_iconst_1 (Nat.le_of_ble_eq_true rfl) rfl (zd DX0_power 32 rfl) ?_
      refine tz_iload 1 rfl (zd DX0_power 33 rfl) ?_
      refine tz_iconst (2 : Int32) zk_iconst_2 (zd DX0_power 34 rfl) ?_
      refine tz_irem (by decide) (zd DX0_power 35 rfl) ?_
      refine tz_iconst (1 : Int32) zk_iconst_1 (zd DX0_power 36 rfl) ?_
      refine tz_icmp_ne 80 (zd DX0_power 37 rfl) rfl (fun q12 => ?_) (fun q12 => ?_)
      · refine tz_lv (lv2 := [(0, .ref 1), (1, .int x1), (2, .int x2), (3, .int (x3 + (1 : Int32))), (4, .int x4)]) [2, 3, 4, 0, 5] rfl ?_
        exact hj6 (x3 + (1 : Int32)) w9
      refine tz_aload_n 2 rfl (zd DX0_power 38 rfl) ?_
      refine tz_iload_n 3 rfl (zd DX0_power 39 rfl) ?_
      refine tz_cV_n kz0 (zs_1) rfl (rest := []) (YX0_follow) wk_446 (tX0_follow x1 w9) rfl rfl (Nat.le_of_ble_eq_true rfl) ⟨Nat.le_of_ble_eq_true rfl, Nat.le_of_ble_eq_true rfl⟩ (zd DX0_power 40 rfl) (fun v15 w13 e14 => ?_)
      refine tz_iinc 0 (1 : Int32) [(3, .int ((x3 + (1 : Int32)) + (1 : Int32))), (5, .int v5), (0, .ref 1), (1, .int x1), (2, .int x2), (4, .int x4)] rfl zk_iconst_1 (Nat.le_of_ble_eq_true rfl) rfl (zd DX0_power 41 rfl) ?_
      refine tz_lv (lv2 := [(0, .ref 1), (1, .int x1), (2, .int x2), (3, .int ((x3 + (1 : Int32)) + (1 : Int32))), (4, .int x4)]) [2, 3, 4, 0, 5] rfl ?_
      exact hj6 ((x3 + (1 : Int32)) + (1 : Int32)) w13
    refine tz_aload_n 1 rfl (zd DX0_power 15 rfl) ?_
    refine tz_iload_n 2 rfl (zd DX0_power 16 rfl) ?_
    refine tz_cV_n kz0 (zs_1) rfl (rest := []) (YX0_start) wk_445 (tX0_start x1 w) rfl rfl (Nat.le_of_ble_eq_true rfl) ⟨Nat.le_of_ble_eq_true rfl, Nat.le_of_ble_eq_true rfl⟩ (zd DX0_power 17 rfl) (fun v18 w16 e17 => ?_)
    refine tz_goto 80 (zd DX0_power 18 rfl) rfl ?_
    refine tz_lv (lv2 := [(0, .ref 1), (1, .int x1), (2, .int x2), (3, .int x3), (4, .int x4)]) [1, 2, 3, 4, 5] rfl ?_
    exact hj6 x3 w16
set_option maxHeartbeats 4000000 in
set_option maxRecDepth 100000 in
theorem tX0_power (a1 : Int32) (a2 : Int32) (w : zW) : Sm yX0_power MX0_power zi [.ref 1, .int a1, .int a2] w (fX0_power a1 a2 w) := by
  refine Sm_of (lv0 := [(0, .ref 1), (1, .int a1), (2, .int a2)]) (by decide) rfl (fun _ => Nat.le_of_ble_eq_true rfl) rfl ?_
  unfold fX0_power
  refine tz_iconst (0 : Int32) zk_iconst_0 (zd DX0_power 0 rfl) ?_
  refine tz_istore_n [(3, .int (0 : Int32)), (0, .ref 1), (1, .int a1), (2, .int a2)] (Nat.le_of_ble_eq_true rfl) rfl (zd DX0_power 1 rfl) ?_
  refine tz_aload_n 1 rfl (zd DX0_power 2 rfl) ?_
  refine tz_cV_n kz0 (zs_1) rfl (rest := []) (YX0_startEmpty) wk_439 (tX0_startEmpty w) rfl rfl (Nat.le_of_ble_eq_true rfl) ⟨Nat.le_of_ble_eq_true rfl, Nat.le_of_ble_eq_true rfl⟩ (zd DX0_power 3 rfl) (fun v3 w1 e2 => ?_)
  refine tz_bipush (30 : Int32) zk_bipush_30 (zd DX0_power 4 rfl) ?_
  refine tz_istore [(4, .int (30 : Int32)), (3, .int (0 : Int32)), (0, .ref 1), (1, .int a1), (2, .int a2)] (Nat.le_of_ble_eq_true rfl) rfl (zd DX0_power 5 rfl) ?_
  refine tz_lv (lv2 := [(0, .ref 1), (1, .int a1), (2, .int a2), (3, .int (0 : Int32)), (4, .int (30 : Int32))]) [2, 3, 4, 1, 0] rfl ?_
  exact lX0_power_L10 a1 a2 zFU (0 : Int32) (30 : Int32) w1
def QX0_unlikeItems : List (Nat × Instr × Nat) := [(0, .aload_n 0, 1), (1, .getfield 47, 3), (4, .tableswitch 46 4 7 #[32, 35, 46, 38], 32), (36, .bipush 20, 2), (38, .ireturn, 1), (39, .bipush 24, 2), (41, .ireturn, 1), (42, .aload_n 0, 1), (43, .getfield 12, 3), (46, .getfield 105, 3), (49, .ireturn, 1), (50, .sipush 10000, 3), (53, .ireturn, 1)]
set_option maxRecDepth 100000 in
theorem DX0_unlikeItems : ∀ q ∈ QX0_unlikeItems, decode cX0_unlikeItems q.1 = .ok (q.2.1, q.2.2) := by decide +kernel
abbrev MX0_unlikeItems : zM := (cX0_unlikeItems, "EndSums$Joining", 1, (some .int), { frames := 0, cells := 0, slots := 0, locals := 0 })
def fX0_unlikeItems  (w : zW) : Option (Int32 × zW) :=
  if (zI w 1 0) = (4 : Int32) then
    some ((20 : Int32), w)
  else
  if (zI w 1 0) = (5 : Int32) then
    some ((24 : Int32), w)
  else
  if (zI w 1 0) = (6 : Int32) then
    some ((10000 : Int32), w)
  else
  if (zI w 1 0) = (7 : Int32) then
    some ((zI w 2 0), w)
  else
  some ((10000 : Int32), w)
theorem YX0_unlikeItems : zYV yX0_unlikeItems MX0_unlikeItems 0 := ⟨wk_473, wk_2, ⟨wk_472, ws_42⟩, ⟨by decide, by decide, by decide +kernel⟩, rfl, rfl⟩
set_option maxHeartbeats 4000000 in
set_option maxRecDepth 100000 in
theorem tX0_unlikeItems  (w : zW) : Sm yX0_unlikeItems MX0_unlikeItems zi [.ref 1] w (fX0_unlikeItems w) := by
  refine Sm_of (lv0 := [(0, .ref 1)]) (by decide) rfl (fun _ => Nat.le_of_ble_eq_true rfl) rfl ?_
  unfold fX0_unlikeItems
  refine tz_aload_n 0 rfl (zd DX0_unlikeItems 0 rfl) ?_
  refine tz_getI 0 kz0 (zs_1) (by decide) rfl wk_51 (zd DX0_unlikeItems 1 rfl) ?_
  refine tz_case (fun q1 => ?_) (fun q1 => ?_)
  · refine tz_tin (4) 36 (by rw [q1]; decide) (zd DX0_unlikeItems 2 rfl) (by decide) (by decide) rfl rfl ?_
    refine tz_bipush (20 : Int32) zk_bipush_20 (zd DX0_unlikeItems 3 rfl) ?_
    exact tz_iret rfl (zd DX0_unlikeItems 4 rfl)
  refine tz_case (fun q2 => ?_) (fun q2 => ?_)
  · refine tz_tin (5) 39 (by rw [q2]; decide) (zd DX0_unlikeItems 2 rfl) (by decide) (by decide) rfl rfl ?_
    refine tz_bipush (24 : Int32) zk_bipush_24 (zd DX0_unlikeItems 5 rfl) ?_
    exact tz_iret rfl (zd DX0_unlikeItems 6 rfl)
  refine tz_case (fun q3 => ?_) (fun q3 => ?_)
  · refine tz_tin (6) 50 (by rw [q3]; decide) (zd DX0_unlikeItems 2 rfl) (by decide) (by decide) rfl rfl ?_
    refine tz_sipush (10000 : Int32) zk_sipush_10000 (zd DX0_unlikeItems 11 rfl) ?_
    exact tz_iret rfl (zd DX0_unlikeItems 12 rfl)
  refine tz_case (fun q4 => ?_) (fun q4 => ?_)
  · refine tz_tin (7) 42 (by rw [q4]; decide) (zd DX0_unlikeItems 2 rfl) (by decide) (by decide) rfl rfl ?_
    refine tz_aload_n 0 rfl (zd DX0_unlikeItems 7 rfl) ?_
    refine tz_getR 2 1 kz0 (zs_1) (by decide) (by decide) rfl wk_52 (zd DX0_unlikeItems 8 rfl) ?_
    refine tz_getIN 0 kz3 (zs_2) (by decide) rfl wn_37 (zd DX0_unlikeItems 9 rfl) ?_
    exact tz_iret rfl (zd DX0_unlikeItems 10 rfl)
  refine tz_tout 50 (by have eq1 := z_ne q1; have eq2 := z_ne q2; have eq3 := z_ne q3; have eq4 := z_ne q4; rw [show ((4 : Int32)).toInt = 4 from rfl] at eq1; rw [show ((5 : Int32)).toInt = 5 from rfl] at eq2; rw [show ((6 : Int32)).toInt = 6 from rfl] at eq3; rw [show ((7 : Int32)).toInt = 7 from rfl] at eq4; omega) (zd DX0_unlikeItems 2 rfl) rfl ?_
  refine tz_sipush (10000 : Int32) zk_sipush_10000 (zd DX0_unlikeItems 11 rfl) ?_
  exact tz_iret rfl (zd DX0_unlikeItems 12 rfl)
def QX0_undo : List (Nat × Instr × Nat) := [(0, .aload_n 0, 1), (1, .iload_n 1, 1), (2, .invokevirtual 98, 3), (5, .aload_n 0, 1), (6, .iload_n 2, 1), (7, .invokevirtual 102, 3), (10, .aload_n 0, 1), (11, .aload_n 0, 1), (12, .invokevirtual 25, 3), (15, .aload_n 0, 1), (16, .invokevirtual 29, 3), (19, .invokevirtual 108, 3), (22, .ireturn, 1)]
set_option maxRecDepth 100000 in
theorem DX0_undo : ∀ q ∈ QX0_undo, decode cX0_undo q.1 = .ok (q.2.1, q.2.2) := by decide +kernel
abbrev MX0_undo : zM := (cX0_undo, "EndSums$Joining", 3, (some .boolean), { frames := 3, cells := 0, slots := 0, locals := 81 })
def fX0_undo (a1 : Int32) (a2 : Int32) (w : zW) : Option (Bool × zW) :=
  bd (fX0_start a1 w) fun _ w1 =>
  bd (fX0_follow a2 w1) fun _ w4 =>
  bd (fX0_emptyP w4) fun v9 w7 =>
  bd (fX0_emptyQ w7) fun v12 w10 =>
  bd (fX0_comesTo v9 v12 w10) fun b15 w13 =>
  some (b15, w13)
theorem YX0_undo : zYV yX0_undo MX0_undo 2 := ⟨wk_477, wk_2, ⟨wk_476, ws_43⟩, ⟨by decide, by decide, by decide +kernel⟩, rfl, rfl⟩
set_option maxHeartbeats 4000000 in
set_option maxRecDepth 100000 in
theorem tX0_undo (a1 : Int32) (a2 : Int32) (w : zW) : Sm yX0_undo MX0_undo zz [.ref 1, .int a1, .int a2] w (fX0_undo a1 a2 w) := by
  refine Sm_of (lv0 := [(0, .ref 1), (1, .int a1), (2, .int a2)]) (by decide) rfl (fun _ => Nat.le_of_ble_eq_true rfl) rfl ?_
  unfold fX0_undo
  refine tz_aload_n 0 rfl (zd DX0_undo 0 rfl) ?_
  refine tz_iload_n 1 rfl (zd DX0_undo 1 rfl) ?_
  refine tz_cV_n kz0 (zs_1) rfl (rest := []) (YX0_start) wk_445 (tX0_start a1 w) rfl rfl (Nat.le_of_ble_eq_true rfl) ⟨Nat.le_of_ble_eq_true rfl, Nat.le_of_ble_eq_true rfl⟩ (zd DX0_undo 2 rfl) (fun v3 w1 e2 => ?_)
  refine tz_aload_n 0 rfl (zd DX0_undo 3 rfl) ?_
  refine tz_iload_n 2 rfl (zd DX0_undo 4 rfl) ?_
  refine tz_cV_n kz0 (zs_1) rfl (rest := []) (YX0_follow) wk_446 (tX0_follow a2 w1) rfl rfl (Nat.le_of_ble_eq_true rfl) ⟨Nat.le_of_ble_eq_true rfl, Nat.le_of_ble_eq_true rfl⟩ (zd DX0_undo 5 rfl) (fun v6 w4 e5 => ?_)
  refine tz_aload_n 0 rfl (zd DX0_undo 6 rfl) ?_
  refine tz_aload_n 0 rfl (zd DX0_undo 7 rfl) ?_
  refine tz_cV_l kz0 (zs_1) rfl (rest := [.ref 1]) (YX0_emptyP) wk_443 (tX0_emptyP w4) rfl rfl (Nat.le_of_ble_eq_true rfl) ⟨Nat.le_of_ble_eq_true rfl, Nat.le_of_ble_eq_true rfl⟩ (zd DX0_undo 8 rfl) (fun v9 w7 e8 => ?_)
  refine tz_aload_n 0 rfl (zd DX0_undo 9 rfl) ?_
  refine tz_cV_l kz0 (zs_1) rfl (rest := [.long v9, .ref 1]) (YX0_emptyQ) wk_444 (tX0_emptyQ w7) rfl rfl (Nat.le_of_ble_eq_true rfl) ⟨Nat.le_of_ble_eq_true rfl, Nat.le_of_ble_eq_true rfl⟩ (zd DX0_undo 10 rfl) (fun v12 w10 e11 => ?_)
  refine tz_cV_z kz0 (zs_1) rfl (rest := []) (YX0_comesTo) wk_478 (tX0_comesTo v9 v12 w10) rfl rfl (Nat.le_of_ble_eq_true rfl) ⟨Nat.le_of_ble_eq_true rfl, Nat.le_of_ble_eq_true rfl⟩ (zd DX0_undo 11 rfl) (fun b15 w13 e14 => ?_)
  exact tz_zret rfl (zd DX0_undo 12 rfl)
def QX1_size : List (Nat × Instr × Nat) := [(0, .aload_n 0, 1), (1, .getfield 12, 3), (4, .getfield 21, 3), (7, .aload_n 0, 1), (8, .getfield 18, 3), (11, .getfield 21, 3), (14, .iadd, 1), (15, .ireturn, 1)]
set_option maxRecDepth 100000 in
theorem DX1_size : ∀ q ∈ QX1_size, decode cX1_size q.1 = .ok (q.2.1, q.2.2) := by decide +kernel
abbrev MX1_size : zM := (cX1_size, "EndSums$Line", 1, (some .int), { frames := 0, cells := 0, slots := 0, locals := 0 })
def fX1_size (h0 : Nat) (w : zW) : Option (Int32 × zW) :=
  some (((zI w (h0 + 1) 0) + (zI w (h0 + 6) 0)), w)
theorem YX1_size : zYV yX1_size MX1_size 0 := ⟨wk_241, wk_5, ⟨wk_240, ws_4⟩, ⟨by decide, by decide, by decide +kernel⟩, rfl, rfl⟩
set_option maxHeartbeats 4000000 in
set_option maxRecDepth 100000 in
theorem tX1_size (h0 : Nat) (hh0 : zc 1 h0) (w : zW) : Sm yX1_size MX1_size zi [.ref h0] w (fX1_size h0 w) := by
  refine Sm_of (lv0 := [(0, .ref h0)]) (by decide) rfl (fun _ => Nat.le_of_ble_eq_true rfl) rfl ?_
  unfold fX1_size
  refine tz_aload_n 0 rfl (zd DX1_size 0 rfl) ?_
  refine tz_getR (h0 + 1) 0 kz1 (hh0) (by decide) (by decide) ((zf1_0 (hh0)).1) wk_130 (zd DX1_size 1 rfl) ?_
  refine tz_getIN 0 kz2 ((zf1_0 (w := w) (hh0)).2) (by decide) rfl wn_105 (zd DX1_size 2 rfl) ?_
  refine tz_aload_n 0 rfl (zd DX1_size 3 rfl) ?_
  refine tz_getR (h0 + 6) 1 kz1 (hh0) (by decide) (by decide) ((zf1_1 (hh0)).1) wk_133 (zd DX1_size 4 rfl) ?_
  refine tz_getIN 0 kz2 ((zf1_1 (w := w) (hh0)).2) (by decide) rfl wn_105 (zd DX1_size 5 rfl) ?_
  refine tz_iadd (zd DX1_size 6 rfl) ?_
  exact tz_iret rfl (zd DX1_size 7 rfl)
def QX1_pile : List (Nat × Instr × Nat) := [(0, .iload_n 1, 1), (1, .ifCond .ne 10, 3), (4, .aload_n 0, 1), (5, .getfield 12, 3), (8, .goto 7, 3), (11, .aload_n 0, 1), (12, .getfield 18, 3), (15, .areturn, 1)]
set_option maxRecDepth 100000 in
theorem DX1_pile : ∀ q ∈ QX1_pile, decode cX1_pile q.1 = .ok (q.2.1, q.2.2) := by decide +kernel
abbrev MX1_pile : zM := (cX1_pile, "EndSums$Line", 2, (some (.object "EndSums$Pile")), { frames := 0, cells := 0, slots := 0, locals := 0 })
def fX1_pile (h0 : Nat) (a1 : Int32) (w : zW) : Option (Nat × zW) :=
  if ¬ a1 = (0 : Int32) then
    some ((h0 + 6), w)
  else
  some ((h0 + 1), w)
theorem YX1_pile : zYV yX1_pile MX1_pile 1 := ⟨wk_253, wk_5, ⟨wk_252, ws_7⟩, ⟨by decide, by decide, by decide +kernel⟩, rfl, rfl⟩
set_option maxHeartbeats 4000000 in
set_option maxRecDepth 100000 in
theorem tX1_pile (h0 : Nat) (hh0 : zc 1 h0) (a1 : Int32) (w : zW) : Sm yX1_pile MX1_pile zq [.ref h0, .int a1] w (fX1_pile h0 a1 w) := by
  refine Sm_of (lv0 := [(0, .ref h0), (1, .int a1)]) (by decide) rfl (fun _ => Nat.le_of_ble_eq_true rfl) rfl ?_
  unfold fX1_pile
  refine tz_iload_n 1 rfl (zd DX1_pile 0 rfl) ?_
  refine tz_if_ne 11 (zd DX1_pile 1 rfl) rfl (fun q1 => ?_) (fun q1 => ?_)
  · refine tz_aload_n 0 rfl (zd DX1_pile 5 rfl) ?_
    refine tz_getR (h0 + 6) 1 kz1 (hh0) (by decide) (by decide) ((zf1_1 (hh0)).1) wk_133 (zd DX1_pile 6 rfl) ?_
    exact tz_qret rfl (zd DX1_pile 7 rfl)
  refine tz_aload_n 0 rfl (zd DX1_pile 2 rfl) ?_
  refine tz_getR (h0 + 1) 0 kz1 (hh0) (by decide) (by decide) ((zf1_0 (hh0)).1) wk_130 (zd DX1_pile 3 rfl) ?_
  refine tz_goto 15 (zd DX1_pile 4 rfl) rfl ?_
  exact tz_qret rfl (zd DX1_pile 7 rfl)
theorem fX1_pile_c {h : Nat} (hh : zc 1 h) {a : Int32} {w w1 : zW} {t : Nat} (e : fX1_pile h a w = some (t, w1)) : zc 2 t := by
  unfold fX1_pile at e
  split at e
  · cases e; first | exact (zf1_0 (w := w) hh).2 | exact (zf1_1 (w := w) hh).2
  · cases e; first | exact (zf1_1 (w := w) hh).2 | exact (zf1_0 (w := w) hh).2
def QX1_endOf : List (Nat × Instr × Nat) := [(0, .iload_n 1, 1), (1, .aload_n 0, 1), (2, .getfield 12, 3), (5, .getfield 21, 3), (8, .if_icmp .ge 7, 3), (11, .iconst 0, 1), (12, .goto 4, 3), (15, .iconst 1, 1), (16, .ireturn, 1)]
set_option maxRecDepth 100000 in
theorem DX1_endOf : ∀ q ∈ QX1_endOf, decode cX1_endOf q.1 = .ok (q.2.1, q.2.2) := by decide +kernel
abbrev MX1_endOf : zM := (cX1_endOf, "EndSums$Line", 2, (some .int), { frames := 0, cells := 0, slots := 0, locals := 0 })
def fX1_endOf (h0 : Nat) (a1 : Int32) (w : zW) : Option (Int32 × zW) :=
  if (zI w (h0 + 1) 0) ≤ a1 then
    some ((1 : Int32), w)
  else
  some ((0 : Int32), w)
theorem YX1_endOf : zYV yX1_endOf MX1_endOf 1 := ⟨wk_249, wk_5, ⟨wk_248, ws_6⟩, ⟨by decide, by decide, by decide +kernel⟩, rfl, rfl⟩
set_option maxHeartbeats 4000000 in
set_option maxRecDepth 100000 in
theorem tX1_endOf (h0 : Nat) (hh0 : zc 1 h0) (a1 : Int32) (w : zW) : Sm yX1_endOf MX1_endOf zi [.ref h0, .int a1] w (fX1_endOf h0 a1 w) := by
  refine Sm_of (lv0 := [(0, .ref h0), (1, .int a1)]) (by decide) rfl (fun _ => Nat.le_of_ble_eq_true rfl) rfl ?_
  unfold fX1_endOf
  refine tz_iload_n 1 rfl (zd DX1_endOf 0 rfl) ?_
  refine tz_aload_n 0 rfl (zd DX1_endOf 1 rfl) ?_
  refine tz_getR (h0 + 1) 0 kz1 (hh0) (by decide) (by decide) ((zf1_0 (hh0)).1) wk_130 (zd DX1_endOf 2 rfl) ?_
  refine tz_getIN 0 kz2 ((zf1_0 (w := w) (hh0)).2) (by decide) rfl wn_105 (zd DX1_endOf 3 rfl) ?_
  refine tz_icmp_ge 15 (zd DX1_endOf 4 rfl) rfl (fun q1 => ?_) (fun q1 => ?_)
  · refine tz_iconst (1 : Int32) zk_iconst_1 (zd DX1_endOf 7 rfl) ?_
    exact tz_iret rfl (zd DX1_endOf 8 rfl)
  refine tz_iconst (0 : Int32) zk_iconst_0 (zd DX1_endOf 5 rfl) ?_
  refine tz_goto 16 (zd DX1_endOf 6 rfl) rfl ?_
  exact tz_iret rfl (zd DX1_endOf 8 rfl)
def QX1_heightOf : List (Nat × Instr × Nat) := [(0, .iload_n 1, 1), (1, .aload_n 0, 1), (2, .getfield 12, 3), (5, .getfield 21, 3), (8, .if_icmp .ge 17, 3), (11, .aload_n 0, 1), (12, .getfield 12, 3), (15, .getfield 21, 3), (18, .iconst 1, 1), (19, .isub, 1), (20, .iload_n 1, 1), (21, .isub, 1), (22, .goto 12, 3), (25, .iload_n 1, 1), (26, .aload_n 0, 1), (27, .getfield 12, 3), (30, .getfield 21, 3), (33, .isub, 1), (34, .ireturn, 1)]
set_option maxRecDepth 100000 in
theorem DX1_heightOf : ∀ q ∈ QX1_heightOf, decode cX1_heightOf q.1 = .ok (q.2.1, q.2.2) := by decide +kernel
abbrev MX1_heightOf : zM := (cX1_heightOf, "EndSums$Line", 2, (some .int), { frames := 0, cells := 0, slots := 0, locals := 0 })
def fX1_heightOf (h0 : Nat) (a1 : Int32) (w : zW) : Option (Int32 × zW) :=
  if (zI w (h0 + 1) 0) ≤ a1 then
    some ((a1 - (zI w (h0 + 1) 0)), w)
  else
  some ((((zI w (h0 + 1) 0) - (1 : Int32)) - a1), w)
theorem YX1_heightOf : zYV yX1_heightOf MX1_heightOf 1 := ⟨wk_257, wk_5, ⟨wk_256, ws_8⟩, ⟨by decide, by decide, by decide +kernel⟩, rfl, rfl⟩
set_option maxHeartbeats 4000000 in
set_option maxRecDepth 100000 in
theorem tX1_heightOf (h0 : Nat) (hh0 : zc 1 h0) (a1 : Int32) (w : zW) : Sm yX1_heightOf MX1_heightOf zi [.ref h0, .int a1] w (fX1_heightOf h0 a1 w) := by
  refine Sm_of (lv0 := [(0, .ref h0), (1, .int a1)]) (by decide) rfl (fun _ => Nat.le_of_ble_eq_true rfl) rfl ?_
  unfold fX1_heightOf
  refine tz_iload_n 1 rfl (zd DX1_heightOf 0 rfl) ?_
  refine tz_aload_n 0 rfl (zd DX1_heightOf 1 rfl) ?_
  refine tz_getR (h0 + 1) 0 kz1 (hh0) (by decide) (by decide) ((zf1_0 (hh0)).1) wk_130 (zd DX1_heightOf 2 rfl) ?_
  refine tz_getIN 0 kz2 ((zf1_0 (w := w) (hh0)).2) (by decide) rfl wn_105 (zd DX1_heightOf 3 rfl) ?_
  refine tz_icmp_ge 25 (zd DX1_heightOf 4 rfl) rfl (fun q1 => ?_) (fun q1 => ?_)
  · refine tz_iload_n 1 rfl (zd DX1_heightOf 13 rfl) ?_
    refine tz_aload_n 0 rfl (zd DX1_heightOf 14 rfl) ?_
    refine tz_getR (h0 + 1) 0 kz1 (hh0) (by decide) (by decide) ((zf1_0 (hh0)).1) wk_130 (zd DX1_heightOf 15 rfl) ?_
    refine tz_getIN 0 kz2 ((zf1_0 (w := w) (hh0)).2) (by decide) rfl wn_105 (zd DX1_heightOf 16 rfl) ?_
    refine tz_isub (zd DX1_heightOf 17 rfl) ?_
    exact tz_iret rfl (zd DX1_heightOf 18 rfl)
  refine tz_aload_n 0 rfl (zd DX1_heightOf 5 rfl) ?_
  refine tz_getR (h0 + 1) 0 kz1 (hh0) (by decide) (by decide) ((zf1_0 (hh0)).1) wk_130 (zd DX1_heightOf 6 rfl) ?_
  refine tz_getIN 0 kz2 ((zf1_0 (w := w) (hh0)).2) (by decide) rfl wn_105 (zd DX1_heightOf 7 rfl) ?_
  refine tz_iconst (1 : Int32) zk_iconst_1 (zd DX1_heightOf 8 rfl) ?_
  refine tz_isub (zd DX1_heightOf 9 rfl) ?_
  refine tz_iload_n 1 rfl (zd DX1_heightOf 10 rfl) ?_
  refine tz_isub (zd DX1_heightOf 11 rfl) ?_
  refine tz_goto 34 (zd DX1_heightOf 12 rfl) rfl ?_
  exact tz_iret rfl (zd DX1_heightOf 18 rfl)
def QX7_at : List (Nat × Instr × Nat) := [(0, .iload_n 1, 1), (1, .ifCond .lt 9, 3), (4, .iload_n 1, 1), (5, .aload_n 0, 1), (6, .arraylength, 1), (7, .if_icmp .lt 7, 3), (10, .iconst 0, 1), (11, .goto 6, 3), (14, .aload_n 0, 1), (15, .iload_n 1, 1), (16, .iaload, 1), (17, .ireturn, 1)]
set_option maxRecDepth 100000 in
theorem DX7_at : ∀ q ∈ QX7_at, decode cX7_at q.1 = .ok (q.2.1, q.2.2) := by decide +kernel
abbrev MX7_at : zM := (cX7_at, "EndSums", 2, (some .int), { frames := 0, cells := 0, slots := 0, locals := 0 })
def fX7_at (r0 : Nat) (a1 : Int32) (w : zW) : Option (Int32 × zW) :=
  if a1 < (0 : Int32) then
    some ((0 : Int32), w)
  else
  if a1 < (nI (zlen r0)) then
    zg (zin a1 (zlen r0)) <|
    some ((zI w r0 a1.toNatClampNeg), w)
  else
  some ((0 : Int32), w)
theorem YX7_at : zYS yX7_at MX7_at 2 := ⟨wk_260, wk_1, wk_259, ⟨by decide, by decide, by decide +kernel⟩, rfl, rfl⟩
set_option maxHeartbeats 4000000 in
set_option maxRecDepth 100000 in
theorem tX7_at (r0 : Nat) (hr0 : za 0 r0) (a1 : Int32) (w : zW) : Sm yX7_at MX7_at zi [.ref r0, .int a1] w (fX7_at r0 a1 w) := by
  refine Sm_of (lv0 := [(0, .ref r0), (1, .int a1)]) (by decide) rfl (fun _ => Nat.le_of_ble_eq_true rfl) rfl ?_
  unfold fX7_at
  refine tz_iload_n 1 rfl (zd DX7_at 0 rfl) ?_
  refine tz_if_lt 10 (zd DX7_at 1 rfl) rfl (fun q1 => ?_) (fun q1 => ?_)
  · refine tz_iconst (0 : Int32) zk_iconst_0 (zd DX7_at 6 rfl) ?_
    refine tz_goto 17 (zd DX7_at 7 rfl) rfl ?_
    exact tz_iret rfl (zd DX7_at 11 rfl)
  refine tz_iload_n 1 rfl (zd DX7_at 2 rfl) ?_
  refine tz_aload_n 0 rfl (zd DX7_at 3 rfl) ?_
  refine tz_alen0 (hr0) (rfl) (zd DX7_at 4 rfl) ?_
  refine tz_icmp_lt 14 (zd DX7_at 5 rfl) rfl (fun q2 => ?_) (fun q2 => ?_)
  · refine tz_aload_n 0 rfl (zd DX7_at 8 rfl) ?_
    refine tz_iload_n 1 rfl (zd DX7_at 9 rfl) ?_
    refine tz_iald (hr0) (rfl) (zd DX7_at 10 rfl) ?_
    exact tz_iret rfl (zd DX7_at 11 rfl)
  refine tz_iconst (0 : Int32) zk_iconst_0 (zd DX7_at 6 rfl) ?_
  refine tz_goto 17 (zd DX7_at 7 rfl) rfl ?_
  exact tz_iret rfl (zd DX7_at 11 rfl)
def QX1_itemAt : List (Nat × Instr × Nat) := [(0, .aload_n 0, 1), (1, .aload_n 0, 1), (2, .iload_n 1, 1), (3, .invokevirtual 25, 3), (6, .invokevirtual 29, 3), (9, .getfield 33, 3), (12, .aload_n 0, 1), (13, .iload_n 1, 1), (14, .invokevirtual 37, 3), (17, .invokestatic 40, 3), (20, .ireturn, 1)]
set_option maxRecDepth 100000 in
theorem DX1_itemAt : ∀ q ∈ QX1_itemAt, decode cX1_itemAt q.1 = .ok (q.2.1, q.2.2) := by decide +kernel
abbrev MX1_itemAt : zM := (cX1_itemAt, "EndSums$Line", 2, (some .int), { frames := 1, cells := 0, slots := 0, locals := 21 })
def fX1_itemAt (h0 : Nat) (a1 : Int32) (w : zW) : Option (Int32 × zW) :=
  bd (fX1_endOf h0 a1 w) fun v3 w1 =>
  bd (fX1_pile h0 v3 w1) fun v6 w4 =>
  bd (fX1_heightOf h0 a1 w4) fun v9 w7 =>
  bd (fX7_at (v6 + 1) v9 w7) fun v12 w10 =>
  some (v12, w10)
theorem YX1_itemAt : zYV yX1_itemAt MX1_itemAt 1 := ⟨wk_245, wk_5, ⟨wk_244, ws_5⟩, ⟨by decide, by decide, by decide +kernel⟩, rfl, rfl⟩
set_option maxHeartbeats 4000000 in
set_option maxRecDepth 100000 in
theorem tX1_itemAt (h0 : Nat) (hh0 : zc 1 h0) (a1 : Int32) (w : zW) : Sm yX1_itemAt MX1_itemAt zi [.ref h0, .int a1] w (fX1_itemAt h0 a1 w) := by
  refine Sm_of (lv0 := [(0, .ref h0), (1, .int a1)]) (by decide) rfl (fun _ => Nat.le_of_ble_eq_true rfl) rfl ?_
  unfold fX1_itemAt
  refine tz_aload_n 0 rfl (zd DX1_itemAt 0 rfl) ?_
  refine tz_aload_n 0 rfl (zd DX1_itemAt 1 rfl) ?_
  refine tz_iload_n 1 rfl (zd DX1_itemAt 2 rfl) ?_
  refine tz_cV_i kz1 (hh0) rfl (rest := [.ref h0]) (YX1_endOf) wk_246 (tX1_endOf h0 (hh0) a1 w) rfl rfl (Nat.le_of_ble_eq_true rfl) ⟨Nat.le_of_ble_eq_true rfl, Nat.le_of_ble_eq_true rfl⟩ (zd DX1_itemAt 3 rfl) (fun v3 w1 e2 => ?_)
  refine tz_cV_q kz1 (hh0) rfl (rest := []) (YX1_pile) wk_250 (tX1_pile h0 (hh0) v3 w1) rfl rfl (Nat.le_of_ble_eq_true rfl) ⟨Nat.le_of_ble_eq_true rfl, Nat.le_of_ble_eq_true rfl⟩ (zd DX1_itemAt 4 rfl) (fun v6 w4 e5 => ?_)
  refine tz_getRN (v6 + 1) 1 kz2 (fX1_pile_c (hh0) e5) (by decide) (by decide) ((zf2_1 (fX1_pile_c (hh0) e5)).1) wn_108 (zd DX1_itemAt 5 rfl) ?_
  refine tz_aload_n 0 rfl (zd DX1_itemAt 6 rfl) ?_
  refine tz_iload_n 1 rfl (zd DX1_itemAt 7 rfl) ?_
  refine tz_cV_i kz1 (hh0) rfl (rest := [.ref (v6 + 1)]) (YX1_heightOf) wk_254 (tX1_heightOf h0 (hh0) a1 w4) rfl rfl (Nat.le_of_ble_eq_true rfl) ⟨Nat.le_of_ble_eq_true rfl, Nat.le_of_ble_eq_true rfl⟩ (zd DX1_itemAt 8 rfl) (fun v9 w7 e8 => ?_)
  refine tz_cSN_i (rest := []) (YX7_at) wn_258 (tX7_at (v6 + 1) ((zf2_1 (w := w4) (fX1_pile_c (hh0) e5)).2.1) v9 w7) rfl rfl (Nat.le_of_ble_eq_true rfl) ⟨Nat.le_of_ble_eq_true rfl, Nat.le_of_ble_eq_true rfl⟩ (zd DX1_itemAt 9 rfl) (fun v12 w10 e11 => ?_)
  exact tz_iret rfl (zd DX1_itemAt 10 rfl)
def QX1_markOf : List (Nat × Instr × Nat) := [(0, .aload_n 0, 1), (1, .aload_n 0, 1), (2, .iload_n 1, 1), (3, .invokevirtual 25, 3), (6, .invokevirtual 29, 3), (9, .getfield 44, 3), (12, .aload_n 0, 1), (13, .iload_n 1, 1), (14, .invokevirtual 37, 3), (17, .invokestatic 40, 3), (20, .ireturn, 1)]
set_option maxRecDepth 100000 in
theorem DX1_markOf : ∀ q ∈ QX1_markOf, decode cX1_markOf q.1 = .ok (q.2.1, q.2.2) := by decide +kernel
abbrev MX1_markOf : zM := (cX1_markOf, "EndSums$Line", 2, (some .int), { frames := 1, cells := 0, slots := 0, locals := 21 })
def fX1_markOf (h0 : Nat) (a1 : Int32) (w : zW) : Option (Int32 × zW) :=
  bd (fX1_endOf h0 a1 w) fun v3 w1 =>
  bd (fX1_pile h0 v3 w1) fun v6 w4 =>
  bd (fX1_heightOf h0 a1 w4) fun v9 w7 =>
  bd (fX7_at (v6 + 4) v9 w7) fun v12 w10 =>
  some (v12, w10)
theorem YX1_markOf : zYV yX1_markOf MX1_markOf 1 := ⟨wk_699, wk_5, ⟨wk_698, ws_66⟩, ⟨by decide, by decide, by decide +kernel⟩, rfl, rfl⟩
set_option maxHeartbeats 4000000 in
set_option maxRecDepth 100000 in
theorem tX1_markOf (h0 : Nat) (hh0 : zc 1 h0) (a1 : Int32) (w : zW) : Sm yX1_markOf MX1_markOf zi [.ref h0, .int a1] w (fX1_markOf h0 a1 w) := by
  refine Sm_of (lv0 := [(0, .ref h0), (1, .int a1)]) (by decide) rfl (fun _ => Nat.le_of_ble_eq_true rfl) rfl ?_
  unfold fX1_markOf
  refine tz_aload_n 0 rfl (zd DX1_markOf 0 rfl) ?_
  refine tz_aload_n 0 rfl (zd DX1_markOf 1 rfl) ?_
  refine tz_iload_n 1 rfl (zd DX1_markOf 2 rfl) ?_
  refine tz_cV_i kz1 (hh0) rfl (rest := [.ref h0]) (YX1_endOf) wk_246 (tX1_endOf h0 (hh0) a1 w) rfl rfl (Nat.le_of_ble_eq_true rfl) ⟨Nat.le_of_ble_eq_true rfl, Nat.le_of_ble_eq_true rfl⟩ (zd DX1_markOf 3 rfl) (fun v3 w1 e2 => ?_)
  refine tz_cV_q kz1 (hh0) rfl (rest := []) (YX1_pile) wk_250 (tX1_pile h0 (hh0) v3 w1) rfl rfl (Nat.le_of_ble_eq_true rfl) ⟨Nat.le_of_ble_eq_true rfl, Nat.le_of_ble_eq_true rfl⟩ (zd DX1_markOf 4 rfl) (fun v6 w4 e5 => ?_)
  refine tz_getRN (v6 + 4) 4 kz2 (fX1_pile_c (hh0) e5) (by decide) (by decide) ((zf2_4 (fX1_pile_c (hh0) e5)).1) wn_117 (zd DX1_markOf 5 rfl) ?_
  refine tz_aload_n 0 rfl (zd DX1_markOf 6 rfl) ?_
  refine tz_iload_n 1 rfl (zd DX1_markOf 7 rfl) ?_
  refine tz_cV_i kz1 (hh0) rfl (rest := [.ref (v6 + 4)]) (YX1_heightOf) wk_254 (tX1_heightOf h0 (hh0) a1 w4) rfl rfl (Nat.le_of_ble_eq_true rfl) ⟨Nat.le_of_ble_eq_true rfl, Nat.le_of_ble_eq_true rfl⟩ (zd DX1_markOf 8 rfl) (fun v9 w7 e8 => ?_)
  refine tz_cSN_i (rest := []) (YX7_at) wn_258 (tX7_at (v6 + 4) ((zf2_4 (w := w4) (fX1_pile_c (hh0) e5)).2.1) v9 w7) rfl rfl (Nat.le_of_ble_eq_true rfl) ⟨Nat.le_of_ble_eq_true rfl, Nat.le_of_ble_eq_true rfl⟩ (zd DX1_markOf 9 rfl) (fun v12 w10 e11 => ?_)
  exact tz_iret rfl (zd DX1_markOf 10 rfl)
def QX7_at_ : List (Nat × Instr × Nat) := [(0, .iload_n 1, 1), (1, .ifCond .lt 9, 3), (4, .iload_n 1, 1), (5, .aload_n 0, 1), (6, .arraylength, 1), (7, .if_icmp .lt 7, 3), (10, .lconst 0, 1), (11, .goto 6, 3), (14, .aload_n 0, 1), (15, .iload_n 1, 1), (16, .laload, 1), (17, .lreturn, 1)]
set_option maxRecDepth 100000 in
theorem DX7_at_ : ∀ q ∈ QX7_at_, decode cX7_at_ q.1 = .ok (q.2.1, q.2.2) := by decide +kernel
abbrev MX7_at_ : zM := (cX7_at_, "EndSums", 2, (some .long), { frames := 0, cells := 0, slots := 0, locals := 0 })
def fX7_at_ (r0 : Nat) (a1 : Int32) (w : zW) : Option (Int64 × zW) :=
  lt (fun (w1 : zW) =>
    some ((0 : Int64), w1)) fun j1 =>
  if a1 < (0 : Int32) then
    j1 w
  else
  if a1 < (nI (zlen r0)) then
    zg (zin a1 (zlen r0)) <|
    some ((zL w r0 a1.toNatClampNeg), w)
  else
  j1 w
theorem YX7_at_ : zYS yX7_at_ MX7_at_ 2 := ⟨wk_281, wk_1, wk_280, ⟨by decide, by decide, by decide +kernel⟩, rfl, rfl⟩
set_option maxHeartbeats 4000000 in
set_option maxRecDepth 100000 in
theorem tX7_at_ (r0 : Nat) (hr0 : za 1 r0) (a1 : Int32) (w : zW) : Sm yX7_at_ MX7_at_ zl [.ref r0, .int a1] w (fX7_at_ r0 a1 w) := by
  refine Sm_of (lv0 := [(0, .ref r0), (1, .int a1)]) (by decide) rfl (fun _ => Nat.le_of_ble_eq_true rfl) rfl ?_
  unfold fX7_at_
  refine tz_iload_n 1 rfl (zd DX7_at_ 0 rfl) ?_
  refine tz_jp (P := fun j => ∀ (w1 : zW), Tz MX7_at_ (zRet zl) (j w1) 10 [] [] w1) ?_ (fun j1 hj1 => ?_)
  · intro w1
    refine tz_lconst (0 : Int64) rfl (zd DX7_at_ 6 rfl) ?_
    refine tz_goto 17 (zd DX7_at_ 7 rfl) rfl ?_
    exact tz_lret rfl (zd DX7_at_ 11 rfl)
  refine tz_if_lt 10 (zd DX7_at_ 1 rfl) rfl (fun q2 => ?_) (fun q2 => ?_)
  · refine tz_lv (lv2 := []) [] rfl ?_
    exact hj1 w
  refine tz_iload_n 1 rfl (zd DX7_at_ 2 rfl) ?_
  refine tz_aload_n 0 rfl (zd DX7_at_ 3 rfl) ?_
  refine tz_alen1 (hr0) (rfl) (zd DX7_at_ 4 rfl) ?_
  refine tz_icmp_lt 14 (zd DX7_at_ 5 rfl) rfl (fun q3 => ?_) (fun q3 => ?_)
  · refine tz_aload_n 0 rfl (zd DX7_at_ 8 rfl) ?_
    refine tz_iload_n 1 rfl (zd DX7_at_ 9 rfl) ?_
    refine tz_lald (hr0) (rfl) (zd DX7_at_ 10 rfl) ?_
    exact tz_lret rfl (zd DX7_at_ 11 rfl)
  refine tz_lv (lv2 := []) [] rfl ?_
  exact hj1 w
def QX7_set : List (Nat × Instr × Nat) := [(0, .iload_n 1, 1), (1, .ifCond .lt 13, 3), (4, .iload_n 1, 1), (5, .aload_n 0, 1), (6, .arraylength, 1), (7, .if_icmp .ge 7, 3), (10, .aload_n 0, 1), (11, .iload_n 1, 1), (12, .iload_n 2, 1), (13, .iastore, 1), (14, .return_, 1)]
set_option maxRecDepth 100000 in
theorem DX7_set : ∀ q ∈ QX7_set, decode cX7_set q.1 = .ok (q.2.1, q.2.2) := by decide +kernel
abbrev MX7_set : zM := (cX7_set, "EndSums", 3, none, { frames := 0, cells := 0, slots := 0, locals := 0 })
def fX7_set (r0 : Nat) (a1 : Int32) (a2 : Int32) (w : zW) : Option (Unit × zW) :=
  if a1 < (0 : Int32) then
    some ((), w)
  else
  if (nI (zlen r0)) ≤ a1 then
    some ((), w)
  else
  zg (zin a1 (zlen r0)) <| lt (zsI w r0 a1.toNatClampNeg a2) fun w3 =>
  some ((), w3)
theorem YX7_set : zYS yX7_set MX7_set 3 := ⟨wk_263, wk_1, wk_262, ⟨by decide, by decide, by decide +kernel⟩, rfl, rfl⟩
set_option maxHeartbeats 4000000 in
set_option maxRecDepth 100000 in
theorem tX7_set (r0 : Nat) (hr0 : za 0 r0) (a1 : Int32) (a2 : Int32) (w : zW) : Sm yX7_set MX7_set zn [.ref r0, .int a1, .int a2] w (fX7_set r0 a1 a2 w) := by
  refine Sm_of (lv0 := [(0, .ref r0), (1, .int a1), (2, .int a2)]) (by decide) rfl (fun _ => Nat.le_of_ble_eq_true rfl) rfl ?_
  unfold fX7_set
  refine tz_iload_n 1 rfl (zd DX7_set 0 rfl) ?_
  refine tz_if_lt 14 (zd DX7_set 1 rfl) rfl (fun q1 => ?_) (fun q1 => ?_)
  · exact tz_vret rfl (zd DX7_set 10 rfl)
  refine tz_iload_n 1 rfl (zd DX7_set 2 rfl) ?_
  refine tz_aload_n 0 rfl (zd DX7_set 3 rfl) ?_
  refine tz_alen0 (hr0) (rfl) (zd DX7_set 4 rfl) ?_
  refine tz_icmp_ge 14 (zd DX7_set 5 rfl) rfl (fun q2 => ?_) (fun q2 => ?_)
  · exact tz_vret rfl (zd DX7_set 10 rfl)
  refine tz_aload_n 0 rfl (zd DX7_set 6 rfl) ?_
  refine tz_iload_n 1 rfl (zd DX7_set 7 rfl) ?_
  refine tz_iload_n 2 rfl (zd DX7_set 8 rfl) ?_
  refine tz_iast (hr0) (rfl) (zd DX7_set 9 rfl) (fun w3 => ?_)
  exact tz_vret rfl (zd DX7_set 10 rfl)
def QX7_set_ : List (Nat × Instr × Nat) := [(0, .iload_n 1, 1), (1, .ifCond .lt 13, 3), (4, .iload_n 1, 1), (5, .aload_n 0, 1), (6, .arraylength, 1), (7, .if_icmp .ge 7, 3), (10, .aload_n 0, 1), (11, .iload_n 1, 1), (12, .lload_n 2, 1), (13, .lastore, 1), (14, .return_, 1)]
set_option maxRecDepth 100000 in
theorem DX7_set_ : ∀ q ∈ QX7_set_, decode cX7_set_ q.1 = .ok (q.2.1, q.2.2) := by decide +kernel
abbrev MX7_set_ : zM := (cX7_set_, "EndSums", 4, none, { frames := 0, cells := 0, slots := 0, locals := 0 })
def fX7_set_ (r0 : Nat) (a1 : Int32) (a2 : Int64) (w : zW) : Option (Unit × zW) :=
  if a1 < (0 : Int32) then
    some ((), w)
  else
  if (nI (zlen r0)) ≤ a1 then
    some ((), w)
  else
  zg (zin a1 (zlen r0)) <| lt (zsL w r0 a1.toNatClampNeg a2) fun w3 =>
  some ((), w3)
theorem YX7_set_ : zYS yX7_set_ MX7_set_ 3 := ⟨wk_339, wk_1, wk_338, ⟨by decide, by decide, by decide +kernel⟩, rfl, rfl⟩
set_option maxHeartbeats 4000000 in
set_option maxRecDepth 100000 in
theorem tX7_set_ (r0 : Nat) (hr0 : za 1 r0) (a1 : Int32) (a2 : Int64) (w : zW) : Sm yX7_set_ MX7_set_ zn [.ref r0, .int a1, .long a2] w (fX7_set_ r0 a1 a2 w) := by
  refine Sm_of (lv0 := [(0, .ref r0), (1, .int a1), (2, .long a2)]) (by decide) rfl (fun _ => Nat.le_of_ble_eq_true rfl) rfl ?_
  unfold fX7_set_
  refine tz_iload_n 1 rfl (zd DX7_set_ 0 rfl) ?_
  refine tz_if_lt 14 (zd DX7_set_ 1 rfl) rfl (fun q1 => ?_) (fun q1 => ?_)
  · exact tz_vret rfl (zd DX7_set_ 10 rfl)
  refine tz_iload_n 1 rfl (zd DX7_set_ 2 rfl) ?_
  refine tz_aload_n 0 rfl (zd DX7_set_ 3 rfl) ?_
  refine tz_alen1 (hr0) (rfl) (zd DX7_set_ 4 rfl) ?_
  refine tz_icmp_ge 14 (zd DX7_set_ 5 rfl) rfl (fun q2 => ?_) (fun q2 => ?_)
  · exact tz_vret rfl (zd DX7_set_ 10 rfl)
  refine tz_aload_n 0 rfl (zd DX7_set_ 6 rfl) ?_
  refine tz_iload_n 1 rfl (zd DX7_set_ 7 rfl) ?_
  refine tz_lload_n 2 rfl (zd DX7_set_ 8 rfl) ?_
  refine tz_last (hr0) (rfl) (zd DX7_set_ 9 rfl) (fun w3 => ?_)
  exact tz_vret rfl (zd DX7_set_ 10 rfl)
def QX2_grow : List (Nat × Instr × Nat) := [(0, .aload_n 0, 1), (1, .getfield 25, 3), (4, .bipush 64, 2), (6, .if_icmp .ge 63, 3), (9, .aload_n 0, 1), (10, .getfield 9, 3), (13, .aload_n 0, 1), (14, .getfield 25, 3), (17, .iload_n 1, 1), (18, .invokestatic 29, 3), (21, .aload_n 0, 1), (22, .getfield 15, 3), (25, .aload_n 0, 1), (26, .getfield 25, 3), (29, .lload_n 2, 1), (30, .invokestatic 33, 3), (33, .aload_n 0, 1), (34, .getfield 19, 3), (37, .aload_n 0, 1), (38, .getfield 25, 3), (41, .lload 4, 2), (43, .invokestatic 33, 3), (46, .aload_n 0, 1), (47, .getfield 22, 3), (50, .aload_n 0, 1), (51, .getfield 25, 3), (54, .iload 6, 2), (56, .invokestatic 29, 3), (59, .aload_n 0, 1), (60, .dup, 1), (61, .getfield 25, 3), (64, .iconst 1, 1), (65, .iadd, 1), (66, .putfield 25, 3), (69, .return_, 1)]
set_option maxRecDepth 100000 in
theorem DX2_grow : ∀ q ∈ QX2_grow, decode cX2_grow q.1 = .ok (q.2.1, q.2.2) := by decide +kernel
abbrev MX2_grow : zM := (cX2_grow, "EndSums$Pile", 7, none, { frames := 1, cells := 0, slots := 0, locals := 23 })
def fX2_grow (h0 : Nat) (a1 : Int32) (a2 : Int64) (a4 : Int64) (a6 : Int32) (w : zW) : Option (Unit × zW) :=
  if (64 : Int32) ≤ (zI w h0 0) then
    some ((), w)
  else
  bd (fX7_set (h0 + 1) (zI w h0 0) a1 w) fun _ w2 =>
  bd (fX7_set_ (h0 + 2) (zI w2 h0 0) a2 w2) fun _ w5 =>
  bd (fX7_set_ (h0 + 3) (zI w5 h0 0) a4 w5) fun _ w8 =>
  bd (fX7_set (h0 + 4) (zI w8 h0 0) a6 w8) fun _ w11 =>
  lt (zsI w11 h0 0 ((zI w11 h0 0) + (1 : Int32))) fun w14 =>
  some ((), w14)
theorem YX2_grow : zYV yX2_grow MX2_grow 4 := ⟨wk_335, wk_6, ⟨wk_334, ws_19⟩, ⟨by decide, by decide, by decide +kernel⟩, rfl, rfl⟩
set_option maxHeartbeats 4000000 in
set_option maxRecDepth 100000 in
theorem tX2_grow (h0 : Nat) (hh0 : zc 2 h0) (a1 : Int32) (a2 : Int64) (a4 : Int64) (a6 : Int32) (w : zW) : Sm yX2_grow MX2_grow zn [.ref h0, .int a1, .long a2, .long a4, .int a6] w (fX2_grow h0 a1 a2 a4 a6 w) := by
  refine Sm_of (lv0 := [(0, .ref h0), (1, .int a1), (2, .long a2), (4, .long a4), (6, .int a6)]) (by decide) rfl (fun _ => Nat.le_of_ble_eq_true rfl) rfl ?_
  unfold fX2_grow
  refine tz_aload_n 0 rfl (zd DX2_grow 0 rfl) ?_
  refine tz_getI 0 kz2 (hh0) (by decide) rfl wk_104 (zd DX2_grow 1 rfl) ?_
  refine tz_bipush (64 : Int32) zk_bipush_64 (zd DX2_grow 2 rfl) ?_
  refine tz_icmp_ge 69 (zd DX2_grow 3 rfl) rfl (fun q1 => ?_) (fun q1 => ?_)
  · exact tz_vret rfl (zd DX2_grow 34 rfl)
  refine tz_aload_n 0 rfl (zd DX2_grow 4 rfl) ?_
  refine tz_getR (h0 + 1) 1 kz2 (hh0) (by decide) (by decide) ((zf2_1 (hh0)).1) wk_107 (zd DX2_grow 5 rfl) ?_
  refine tz_aload_n 0 rfl (zd DX2_grow 6 rfl) ?_
  refine tz_getI 0 kz2 (hh0) (by decide) rfl wk_104 (zd DX2_grow 7 rfl) ?_
  refine tz_iload_n 1 rfl (zd DX2_grow 8 rfl) ?_
  refine tz_cSN_n (rest := []) (YX7_set) wn_336 (tX7_set (h0 + 1) ((zf2_1 (w := w) (hh0)).2.1) (zI w h0 0) a1 w) rfl rfl (Nat.le_of_ble_eq_true rfl) ⟨Nat.le_of_ble_eq_true rfl, Nat.le_of_ble_eq_true rfl⟩ (zd DX2_grow 9 rfl) (fun v4 w2 e3 => ?_)
  refine tz_aload_n 0 rfl (zd DX2_grow 10 rfl) ?_
  refine tz_getR (h0 + 2) 2 kz2 (hh0) (by decide) (by decide) ((zf2_2 (hh0)).1) wk_110 (zd DX2_grow 11 rfl) ?_
  refine tz_aload_n 0 rfl (zd DX2_grow 12 rfl) ?_
  refine tz_getI 0 kz2 (hh0) (by decide) rfl wk_104 (zd DX2_grow 13 rfl) ?_
  refine tz_lload_n 2 rfl (zd DX2_grow 14 rfl) ?_
  refine tz_cSN_n (rest := []) (YX7_set_) wn_337 (tX7_set_ (h0 + 2) ((zf2_2 (w := w2) (hh0)).2.1) (zI w2 h0 0) a2 w2) rfl rfl (Nat.le_of_ble_eq_true rfl) ⟨Nat.le_of_ble_eq_true rfl, Nat.le_of_ble_eq_true rfl⟩ (zd DX2_grow 15 rfl) (fun v7 w5 e6 => ?_)
  refine tz_aload_n 0 rfl (zd DX2_grow 16 rfl) ?_
  refine tz_getR (h0 + 3) 3 kz2 (hh0) (by decide) (by decide) ((zf2_3 (hh0)).1) wk_113 (zd DX2_grow 17 rfl) ?_
  refine tz_aload_n 0 rfl (zd DX2_grow 18 rfl) ?_
  refine tz_getI 0 kz2 (hh0) (by decide) rfl wk_104 (zd DX2_grow 19 rfl) ?_
  refine tz_lload 3 rfl (zd DX2_grow 20 rfl) ?_
  refine tz_cSN_n (rest := []) (YX7_set_) wn_337 (tX7_set_ (h0 + 3) ((zf2_3 (w := w5) (hh0)).2.1) (zI w5 h0 0) a4 w5) rfl rfl (Nat.le_of_ble_eq_true rfl) ⟨Nat.le_of_ble_eq_true rfl, Nat.le_of_ble_eq_true rfl⟩ (zd DX2_grow 21 rfl) (fun v10 w8 e9 => ?_)
  refine tz_aload_n 0 rfl (zd DX2_grow 22 rfl) ?_
  refine tz_getR (h0 + 4) 4 kz2 (hh0) (by decide) (by decide) ((zf2_4 (hh0)).1) wk_116 (zd DX2_grow 23 rfl) ?_
  refine tz_aload_n 0 rfl (zd DX2_grow 24 rfl) ?_
  refine tz_getI 0 kz2 (hh0) (by decide) rfl wk_104 (zd DX2_grow 25 rfl) ?_
  refine tz_iload 4 rfl (zd DX2_grow 26 rfl) ?_
  refine tz_cSN_n (rest := []) (YX7_set) wn_336 (tX7_set (h0 + 4) ((zf2_4 (w := w8) (hh0)).2.1) (zI w8 h0 0) a6 w8) rfl rfl (Nat.le_of_ble_eq_true rfl) ⟨Nat.le_of_ble_eq_true rfl, Nat.le_of_ble_eq_true rfl⟩ (zd DX2_grow 27 rfl) (fun v13 w11 e12 => ?_)
  refine tz_aload_n 0 rfl (zd DX2_grow 28 rfl) ?_
  refine tz_dupa (zd DX2_grow 29 rfl) ?_
  refine tz_getI 0 kz2 (hh0) (by decide) rfl wk_104 (zd DX2_grow 30 rfl) ?_
  refine tz_iconst (1 : Int32) zk_iconst_1 (zd DX2_grow 31 rfl) ?_
  refine tz_iadd (zd DX2_grow 32 rfl) ?_
  refine tz_putI 0 kz2 (hh0) (by decide) rfl rfl wk_104 (zd DX2_grow 33 rfl) (fun w14 => ?_)
  exact tz_vret rfl (zd DX2_grow 34 rfl)
def QX2_become : List (Nat × Instr × Nat) := [(0, .aload_n 0, 1), (1, .iconst 0, 1), (2, .putfield 25, 3), (5, .iconst 0, 1), (6, .istore_n 2, 1), (7, .iload_n 2, 1), (8, .aload_n 1, 1), (9, .getfield 25, 3), (12, .if_icmp .ge 45, 3), (15, .aload_n 0, 1), (16, .aload_n 1, 1), (17, .getfield 9, 3), (20, .iload_n 2, 1), (21, .invokestatic 36, 3), (24, .aload_n 1, 1), (25, .getfield 15, 3), (28, .iload_n 2, 1), (29, .invokestatic 40, 3), (32, .aload_n 1, 1), (33, .getfield 19, 3), (36, .iload_n 2, 1), (37, .invokestatic 40, 3), (40, .aload_n 1, 1), (41, .getfield 22, 3), (44, .iload_n 2, 1), (45, .invokestatic 36, 3), (48, .invokevirtual 43, 3), (51, .iinc 2 1, 3), (54, .goto (-47), 3), (57, .return_, 1)]
set_option maxRecDepth 100000 in
theorem DX2_become : ∀ q ∈ QX2_become, decode cX2_become q.1 = .ok (q.2.1, q.2.2) := by decide +kernel
abbrev MX2_become : zM := (cX2_become, "EndSums$Pile", 3, none, { frames := 2, cells := 0, slots := 0, locals := 49 })
def fX2_become_L7 (r0 : Nat) (r1 : Nat) : Nat → Int32 → zW → Option (Unit × zW)
  | 0, _, _ => none
  | n + 1, x2, w =>
    if (zI w r1 0) ≤ x2 then
      some ((), w)
    else
    bd (fX7_at (r1 + 1) x2 w) fun v5 w3 =>
    bd (fX7_at_ (r1 + 2) x2 w3) fun v8 w6 =>
    bd (fX7_at_ (r1 + 3) x2 w6) fun v11 w9 =>
    bd (fX7_at (r1 + 4) x2 w9) fun v14 w12 =>
    bd (fX2_grow r0 v5 v8 v11 v14 w12) fun _ w15 =>
    fX2_become_L7 r0 r1 n (x2 + (1 : Int32)) w15
def fX2_become (h0 : Nat) (r1 : Nat) (w : zW) : Option (Unit × zW) :=
  lt (zsI w h0 0 (0 : Int32)) fun w1 =>
  fX2_become_L7 h0 r1 zFU (0 : Int32) w1
theorem YX2_become : zYV yX2_become MX2_become 1 := ⟨wk_511, wk_6, ⟨wk_510, ws_47⟩, ⟨by decide, by decide, by decide +kernel⟩, rfl, rfl⟩
set_option maxHeartbeats 4000000 in
set_option maxRecDepth 100000 in
theorem lX2_become_L7 (r0 : Nat) (hr0 : zc 2 r0) (r1 : Nat) (hr1 : zc 2 r1) : ∀ (n : Nat) (x2 : Int32) (w : zW), Tz MX2_become (zRet zn) (fX2_become_L7 r0 r1 n x2 w) 7 [(0, .ref r0), (1, .ref r1), (2, .int x2)] [] w := by
  intro n
  induction n with
  | zero => intro x2 w; exact tz_eq (fX2_become_L7.eq_1 _ _ _ _) tz_none
  | succ n ih =>
    intro x2 w
    refine tz_eq (fX2_become_L7.eq_2 _ _ _ _ _) ?_
    refine tz_iload_n 2 rfl (zd DX2_become 5 rfl) ?_
    refine tz_aload_n 1 rfl (zd DX2_become 6 rfl) ?_
    refine tz_getI 0 kz2 (hr1) (by decide) rfl wk_104 (zd DX2_become 7 rfl) ?_
    refine tz_icmp_ge 57 (zd DX2_become 8 rfl) rfl (fun q2 => ?_) (fun q2 => ?_)
    · exact tz_vret rfl (zd DX2_become 29 rfl)
    refine tz_aload_n 0 rfl (zd DX2_become 9 rfl) ?_
    refine tz_aload_n 1 rfl (zd DX2_become 10 rfl) ?_
    refine tz_getR (r1 + 1) 1 kz2 (hr1) (by decide) (by decide) ((zf2_1 (hr1)).1) wk_107 (zd DX2_become 11 rfl) ?_
    refine tz_iload_n 2 rfl (zd DX2_become 12 rfl) ?_
    refine tz_cSN_i (rest := [.ref r0]) (YX7_at) wn_512 (tX7_at (r1 + 1) ((zf2_1 (w := w) (hr1)).2.1) x2 w) rfl rfl (Nat.le_of_ble_eq_true rfl) ⟨Nat.le_of_ble_eq_true rfl, Nat.le_of_ble_eq_true rfl⟩ (zd DX2_become 13 rfl) (fun v5 w3 e4 => ?_)
    refine tz_aload_n 1 rfl (zd DX2_become 14 rfl) ?_
    refine tz_getR (r1 + 2) 2 kz2 (hr1) (by decide) (by decide) ((zf2_2 (hr1)).1) wk_110 (zd DX2_become 15 rfl) ?_
    refine tz_iload_n 2 rfl (zd DX2_become 16 rfl) ?_
    refine tz_cSN_l (rest := [.int v5, .ref r0]) (YX7_at_) wn_513 (tX7_at_ (r1 + 2) ((zf2_2 (w := w3) (hr1)).2.1) x2 w3) rfl rfl (Nat.le_of_ble_eq_true rfl) ⟨Nat.le_of_ble_eq_true rfl, Nat.le_of_ble_eq_true rfl⟩ (zd DX2_become 17 rfl) (fun v8 w6 e7 => ?_)
    refine tz_aload_n 1 rfl (zd DX2_become 18 rfl) ?_
    refine tz_getR (r1 + 3) 3 kz2 (hr1) (by decide) (by decide) ((zf2_3 (hr1)).1) wk_113 (zd DX2_become 19 rfl) ?_
    refine tz_iload_n 2 rfl (zd DX2_become 20 rfl) ?_
    refine tz_cSN_l (rest := [.long v8, .int v5, .ref r0]) (YX7_at_) wn_513 (tX7_at_ (r1 + 3) ((zf2_3 (w := w6) (hr1)).2.1) x2 w6) rfl rfl (Nat.le_of_ble_eq_true rfl) ⟨Nat.le_of_ble_eq_true rfl, Nat.le_of_ble_eq_true rfl⟩ (zd DX2_become 21 rfl) (fun v11 w9 e10 => ?_)
    refine tz_aload_n 1 rfl (zd DX2_become 22 rfl) ?_
    refine tz_getR (r1 + 4) 4 kz2 (hr1) (by decide) (by decide) ((zf2_4 (hr1)).1) wk_116 (zd DX2_become 23 rfl) ?_
    refine tz_iload_n 2 rfl (zd DX2_become 24 rfl) ?_
    refine tz_cSN_i (rest := [.long v11, .long v8, .int v5, .ref r0]) (YX7_at) wn_512 (tX7_at (r1 + 4) ((zf2_4 (w := w9) (hr1)).2.1) x2 w9) rfl rfl (Nat.le_of_ble_eq_true rfl) ⟨Nat.le_of_ble_eq_true rfl, Nat.le_of_ble_eq_true rfl⟩ (zd DX2_become 25 rfl) (fun v14 w12 e13 => ?_)
    refine tz_cV_n kz2 (hr0) rfl (rest := []) (YX2_grow) wk_514 (tX2_grow r0 (hr0) v5 v8 v11 v14 w12) rfl rfl (Nat.le_of_ble_eq_true rfl) ⟨Nat.le_of_ble_eq_true rfl, Nat.le_of_ble_eq_true rfl⟩ (zd DX2_become 26 rfl) (fun v17 w15 e16 => ?_)
    refine tz_iinc 2 (1 : Int32) [(2, .int (x2 + (1 : Int32))), (0, .ref r0), (1, .ref r1)] rfl zk_iconst_1 (Nat.le_of_ble_eq_true rfl) rfl (zd DX2_become 27 rfl) ?_
    refine tz_goto 7 (zd DX2_become 28 rfl) rfl ?_
    refine tz_lv (lv2 := [(0, .ref r0), (1, .ref r1), (2, .int (x2 + (1 : Int32)))]) [1, 2, 0] rfl ?_
    exact ih (x2 + (1 : Int32)) w15
set_option maxHeartbeats 4000000 in
set_option maxRecDepth 100000 in
theorem tX2_become (h0 : Nat) (hh0 : zc 2 h0) (r1 : Nat) (hr1 : zc 2 r1) (w : zW) : Sm yX2_become MX2_become zn [.ref h0, .ref r1] w (fX2_become h0 r1 w) := by
  refine Sm_of (lv0 := [(0, .ref h0), (1, .ref r1)]) (by decide) rfl (fun _ => Nat.le_of_ble_eq_true rfl) rfl ?_
  unfold fX2_become
  refine tz_aload_n 0 rfl (zd DX2_become 0 rfl) ?_
  refine tz_iconst (0 : Int32) zk_iconst_0 (zd DX2_become 1 rfl) ?_
  refine tz_putI 0 kz2 (hh0) (by decide) rfl rfl wk_104 (zd DX2_become 2 rfl) (fun w1 => ?_)
  refine tz_iconst (0 : Int32) zk_iconst_0 (zd DX2_become 3 rfl) ?_
  refine tz_istore_n [(2, .int (0 : Int32)), (0, .ref h0), (1, .ref r1)] (Nat.le_of_ble_eq_true rfl) rfl (zd DX2_become 4 rfl) ?_
  refine tz_lv (lv2 := [(0, .ref h0), (1, .ref r1), (2, .int (0 : Int32))]) [1, 2, 0] rfl ?_
  exact lX2_become_L7 h0 (hh0) r1 (hr1) zFU (0 : Int32) w1
def QX1_become : List (Nat × Instr × Nat) := [(0, .aload_n 0, 1), (1, .getfield 12, 3), (4, .aload_n 1, 1), (5, .getfield 12, 3), (8, .invokevirtual 47, 3), (11, .aload_n 0, 1), (12, .getfield 18, 3), (15, .aload_n 1, 1), (16, .getfield 18, 3), (19, .invokevirtual 47, 3), (22, .return_, 1)]
set_option maxRecDepth 100000 in
theorem DX1_become : ∀ q ∈ QX1_become, decode cX1_become q.1 = .ok (q.2.1, q.2.2) := by decide +kernel
abbrev MX1_become : zM := (cX1_become, "EndSums$Line", 2, none, { frames := 3, cells := 0, slots := 0, locals := 71 })
def fX1_become (h0 : Nat) (r1 : Nat) (w : zW) : Option (Unit × zW) :=
  bd (fX2_become (h0 + 1) (r1 + 1) w) fun _ w1 =>
  bd (fX2_become (h0 + 6) (r1 + 6) w1) fun _ w4 =>
  some ((), w4)
theorem YX1_become : zYV yX1_become MX1_become 1 := ⟨wk_507, wk_5, ⟨wk_506, ws_46⟩, ⟨by decide, by decide, by decide +kernel⟩, rfl, rfl⟩
set_option maxHeartbeats 4000000 in
set_option maxRecDepth 100000 in
theorem tX1_become (h0 : Nat) (hh0 : zc 1 h0) (r1 : Nat) (hr1 : zc 1 r1) (w : zW) : Sm yX1_become MX1_become zn [.ref h0, .ref r1] w (fX1_become h0 r1 w) := by
  refine Sm_of (lv0 := [(0, .ref h0), (1, .ref r1)]) (by decide) rfl (fun _ => Nat.le_of_ble_eq_true rfl) rfl ?_
  unfold fX1_become
  refine tz_aload_n 0 rfl (zd DX1_become 0 rfl) ?_
  refine tz_getR (h0 + 1) 0 kz1 (hh0) (by decide) (by decide) ((zf1_0 (hh0)).1) wk_130 (zd DX1_become 1 rfl) ?_
  refine tz_aload_n 1 rfl (zd DX1_become 2 rfl) ?_
  refine tz_getR (r1 + 1) 0 kz1 (hr1) (by decide) (by decide) ((zf1_0 (hr1)).1) wk_130 (zd DX1_become 3 rfl) ?_
  refine tz_cVN_n kz2 ((zf1_0 (w := w) (hh0)).2) rfl (rest := []) (YX2_become) wn_508 (tX2_become (h0 + 1) ((zf1_0 (w := w) (hh0)).2) (r1 + 1) ((zf1_0 (w := w) (hr1)).2) w) rfl rfl (Nat.le_of_ble_eq_true rfl) ⟨Nat.le_of_ble_eq_true rfl, Nat.le_of_ble_eq_true rfl⟩ (zd DX1_become 4 rfl) (fun v3 w1 e2 => ?_)
  refine tz_aload_n 0 rfl (zd DX1_become 5 rfl) ?_
  refine tz_getR (h0 + 6) 1 kz1 (hh0) (by decide) (by decide) ((zf1_1 (hh0)).1) wk_133 (zd DX1_become 6 rfl) ?_
  refine tz_aload_n 1 rfl (zd DX1_become 7 rfl) ?_
  refine tz_getR (r1 + 6) 1 kz1 (hr1) (by decide) (by decide) ((zf1_1 (hr1)).1) wk_133 (zd DX1_become 8 rfl) ?_
  refine tz_cVN_n kz2 ((zf1_1 (w := w1) (hh0)).2) rfl (rest := []) (YX2_become) wn_508 (tX2_become (h0 + 6) ((zf1_1 (w := w1) (hh0)).2) (r1 + 6) ((zf1_1 (w := w1) (hr1)).2) w1) rfl rfl (Nat.le_of_ble_eq_true rfl) ⟨Nat.le_of_ble_eq_true rfl, Nat.le_of_ble_eq_true rfl⟩ (zd DX1_become 9 rfl) (fun v6 w4 e5 => ?_)
  exact tz_vret rfl (zd DX1_become 10 rfl)
def QX2_has : List (Nat × Instr × Nat) := [(0, .iload_n 1, 1), (1, .ifCond .lt 27, 3), (4, .iload_n 1, 1), (5, .aload_n 0, 1), (6, .getfield 25, 3), (9, .if_icmp .ge 19, 3), (12, .aload_n 0, 1), (13, .getfield 22, 3), (16, .iload_n 1, 1), (17, .invokestatic 36, 3), (20, .iload_n 2, 1), (21, .if_icmp .ne 7, 3), (24, .iconst 1, 1), (25, .goto 4, 3), (28, .iconst 0, 1), (29, .ireturn, 1)]
set_option maxRecDepth 100000 in
theorem DX2_has : ∀ q ∈ QX2_has, decode cX2_has q.1 = .ok (q.2.1, q.2.2) := by decide +kernel
abbrev MX2_has : zM := (cX2_has, "EndSums$Pile", 3, (some .boolean), { frames := 1, cells := 0, slots := 0, locals := 21 })
def fX2_has (h0 : Nat) (a1 : Int32) (a2 : Int32) (w : zW) : Option (Bool × zW) :=
  if a1 < (0 : Int32) then
    some (false, w)
  else
  if (zI w h0 0) ≤ a1 then
    some (false, w)
  else
  bd (fX7_at (h0 + 4) a1 w) fun v5 w3 =>
  if ¬ v5 = a2 then
    some (false, w3)
  else
  some (true, w3)
theorem YX2_has : zYV yX2_has MX2_has 2 := ⟨wk_707, wk_6, ⟨wk_706, ws_68⟩, ⟨by decide, by decide, by decide +kernel⟩, rfl, rfl⟩
set_option maxHeartbeats 4000000 in
set_option maxRecDepth 100000 in
theorem tX2_has (h0 : Nat) (hh0 : zc 2 h0) (a1 : Int32) (a2 : Int32) (w : zW) : Sm yX2_has MX2_has zz [.ref h0, .int a1, .int a2] w (fX2_has h0 a1 a2 w) := by
  refine Sm_of (lv0 := [(0, .ref h0), (1, .int a1), (2, .int a2)]) (by decide) rfl (fun _ => Nat.le_of_ble_eq_true rfl) rfl ?_
  unfold fX2_has
  refine tz_iload_n 1 rfl (zd DX2_has 0 rfl) ?_
  refine tz_if_lt 28 (zd DX2_has 1 rfl) rfl (fun q1 => ?_) (fun q1 => ?_)
  · refine tz_iconst (0 : Int32) zk_iconst_0 (zd DX2_has 14 rfl) ?_
    exact tz_zret0 rfl (zd DX2_has 15 rfl)
  refine tz_iload_n 1 rfl (zd DX2_has 2 rfl) ?_
  refine tz_aload_n 0 rfl (zd DX2_has 3 rfl) ?_
  refine tz_getI 0 kz2 (hh0) (by decide) rfl wk_104 (zd DX2_has 4 rfl) ?_
  refine tz_icmp_ge 28 (zd DX2_has 5 rfl) rfl (fun q2 => ?_) (fun q2 => ?_)
  · refine tz_iconst (0 : Int32) zk_iconst_0 (zd DX2_has 14 rfl) ?_
    exact tz_zret0 rfl (zd DX2_has 15 rfl)
  refine tz_aload_n 0 rfl (zd DX2_has 6 rfl) ?_
  refine tz_getR (h0 + 4) 4 kz2 (hh0) (by decide) (by decide) ((zf2_4 (hh0)).1) wk_116 (zd DX2_has 7 rfl) ?_
  refine tz_iload_n 1 rfl (zd DX2_has 8 rfl) ?_
  refine tz_cSN_i (rest := []) (YX7_at) wn_512 (tX7_at (h0 + 4) ((zf2_4 (w := w) (hh0)).2.1) a1 w) rfl rfl (Nat.le_of_ble_eq_true rfl) ⟨Nat.le_of_ble_eq_true rfl, Nat.le_of_ble_eq_true rfl⟩ (zd DX2_has 9 rfl) (fun v5 w3 e4 => ?_)
  refine tz_iload_n 2 rfl (zd DX2_has 10 rfl) ?_
  refine tz_icmp_ne 28 (zd DX2_has 11 rfl) rfl (fun q6 => ?_) (fun q6 => ?_)
  · refine tz_iconst (0 : Int32) zk_iconst_0 (zd DX2_has 14 rfl) ?_
    exact tz_zret0 rfl (zd DX2_has 15 rfl)
  refine tz_iconst (1 : Int32) zk_iconst_1 (zd DX2_has 12 rfl) ?_
  refine tz_goto 29 (zd DX2_has 13 rfl) rfl ?_
  exact tz_zret1 rfl (zd DX2_has 15 rfl)
def QX1_hasCell : List (Nat × Instr × Nat) := [(0, .aload_n 0, 1), (1, .iload_n 1, 1), (2, .invokevirtual 29, 3), (5, .iload_n 2, 1), (6, .iload_n 3, 1), (7, .invokevirtual 51, 3), (10, .ireturn, 1)]
set_option maxRecDepth 100000 in
theorem DX1_hasCell : ∀ q ∈ QX1_hasCell, decode cX1_hasCell q.1 = .ok (q.2.1, q.2.2) := by decide +kernel
abbrev MX1_hasCell : zM := (cX1_hasCell, "EndSums$Line", 4, (some .boolean), { frames := 2, cells := 0, slots := 0, locals := 43 })
def fX1_hasCell (h0 : Nat) (a1 : Int32) (a2 : Int32) (a3 : Int32) (w : zW) : Option (Bool × zW) :=
  bd (fX1_pile h0 a1 w) fun v3 w1 =>
  bd (fX2_has v3 a2 a3 w1) fun b6 w4 =>
  some (b6, w4)
theorem YX1_hasCell : zYV yX1_hasCell MX1_hasCell 3 := ⟨wk_703, wk_5, ⟨wk_702, ws_67⟩, ⟨by decide, by decide, by decide +kernel⟩, rfl, rfl⟩
set_option maxHeartbeats 4000000 in
set_option maxRecDepth 100000 in
theorem tX1_hasCell (h0 : Nat) (hh0 : zc 1 h0) (a1 : Int32) (a2 : Int32) (a3 : Int32) (w : zW) : Sm yX1_hasCell MX1_hasCell zz [.ref h0, .int a1, .int a2, .int a3] w (fX1_hasCell h0 a1 a2 a3 w) := by
  refine Sm_of (lv0 := [(0, .ref h0), (1, .int a1), (2, .int a2), (3, .int a3)]) (by decide) rfl (fun _ => Nat.le_of_ble_eq_true rfl) rfl ?_
  unfold fX1_hasCell
  refine tz_aload_n 0 rfl (zd DX1_hasCell 0 rfl) ?_
  refine tz_iload_n 1 rfl (zd DX1_hasCell 1 rfl) ?_
  refine tz_cV_q kz1 (hh0) rfl (rest := []) (YX1_pile) wk_250 (tX1_pile h0 (hh0) a1 w) rfl rfl (Nat.le_of_ble_eq_true rfl) ⟨Nat.le_of_ble_eq_true rfl, Nat.le_of_ble_eq_true rfl⟩ (zd DX1_hasCell 2 rfl) (fun v3 w1 e2 => ?_)
  refine tz_iload_n 2 rfl (zd DX1_hasCell 3 rfl) ?_
  refine tz_iload_n 3 rfl (zd DX1_hasCell 4 rfl) ?_
  refine tz_cVN_z kz2 (fX1_pile_c (hh0) e2) rfl (rest := []) (YX2_has) wn_704 (tX2_has v3 (fX1_pile_c (hh0) e2) a2 a3 w1) rfl rfl (Nat.le_of_ble_eq_true rfl) ⟨Nat.le_of_ble_eq_true rfl, Nat.le_of_ble_eq_true rfl⟩ (zd DX1_hasCell 5 rfl) (fun b6 w4 e5 => ?_)
  exact tz_zret rfl (zd DX1_hasCell 6 rfl)
