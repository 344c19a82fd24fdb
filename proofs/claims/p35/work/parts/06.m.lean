def QX1_cellsSharedWith : List (Nat × Instr × Nat) := [(0, .iconst 0, 1), (1, .istore_n 2, 1), (2, .iconst 0, 1), (3, .istore_n 3, 1), (4, .iload_n 3, 1), (5, .aload_n 0, 1), (6, .invokevirtual 55, 3), (9, .if_icmp .ge 39, 3), (12, .iload_n 2, 1), (13, .aload_n 1, 1), (14, .aload_n 0, 1), (15, .iload_n 3, 1), (16, .invokevirtual 25, 3), (19, .aload_n 0, 1), (20, .iload_n 3, 1), (21, .invokevirtual 37, 3), (24, .aload_n 0, 1), (25, .iload_n 3, 1), (26, .invokevirtual 58, 3), (29, .invokevirtual 61, 3), (32, .ifCond .eq 7, 3), (35, .iconst 1, 1), (36, .goto 4, 3), (39, .iconst 0, 1), (40, .iadd, 1), (41, .istore_n 2, 1), (42, .iinc 3 1, 3), (45, .goto (-41), 3), (48, .iload_n 2, 1), (49, .ireturn, 1)]
set_option maxRecDepth 100000 in
theorem DX1_cellsSharedWith : ∀ q ∈ QX1_cellsSharedWith, decode cX1_cellsSharedWith q.1 = .ok (q.2.1, q.2.2) := by decide +kernel
abbrev MX1_cellsSharedWith : zM := (cX1_cellsSharedWith, "EndSums$Line", 4, (some .int), { frames := 3, cells := 0, slots := 0, locals := 66 })
def fX1_cellsSharedWith_L4 (r0 : Nat) (r1 : Nat) : Nat → Int32 → Int32 → zW → Option (Int32 × zW)
  | 0, _, _, _ => none
  | n + 1, x2, x3, w =>
    bd (fX1_size r0 w) fun v3 w1 =>
    if v3 ≤ x3 then
      some (x2, w1)
    else
    bd (fX1_endOf r0 x3 w1) fun v7 w5 =>
    bd (fX1_heightOf r0 x3 w5) fun v10 w8 =>
    bd (fX1_markOf r0 x3 w8) fun v13 w11 =>
    bd (fX1_hasCell r1 v7 v10 v13 w11) fun b16 w14 =>
    lt (if b16 = true then (1 : Int32) else (0 : Int32)) fun v18 =>
    lt (x2 + v18) fun v19 =>
    fX1_cellsSharedWith_L4 r0 r1 n v19 (x3 + (1 : Int32)) w14
def fX1_cellsSharedWith (h0 : Nat) (r1 : Nat) (w : zW) : Option (Int32 × zW) :=
  fX1_cellsSharedWith_L4 h0 r1 zFU (0 : Int32) (0 : Int32) w
theorem YX1_cellsSharedWith : zYV yX1_cellsSharedWith MX1_cellsSharedWith 1 := ⟨wk_694, wk_5, ⟨wk_693, ws_65⟩, ⟨by decide, by decide, by decide +kernel⟩, rfl, rfl⟩
set_option maxHeartbeats 4000000 in
set_option maxRecDepth 100000 in
theorem lX1_cellsSharedWith_L4 (r0 : Nat) (hr0 : zc 1 r0) (r1 : Nat) (hr1 : zc 1 r1) : ∀ (n : Nat) (x2 : Int32) (x3 : Int32) (w : zW), Tz MX1_cellsSharedWith (zRet zi) (fX1_cellsSharedWith_L4 r0 r1 n x2 x3 w) 4 [(0, .ref r0), (1, .ref r1), (2, .int x2), (3, .int x3)] [] w := by
  intro n
  induction n with
  | zero => intro x2 x3 w; exact tz_eq (fX1_cellsSharedWith_L4.eq_1 _ _ _ _ _) tz_none
  | succ n ih =>
    intro x2 x3 w
    refine tz_eq (fX1_cellsSharedWith_L4.eq_2 _ _ _ _ _ _) ?_
    refine tz_iload_n 3 rfl (zd DX1_cellsSharedWith 4 rfl) ?_
    refine tz_aload_n 0 rfl (zd DX1_cellsSharedWith 5 rfl) ?_
    refine tz_cV_i kz1 (hr0) rfl (rest := [.int x3]) (YX1_size) wk_695 (tX1_size r0 (hr0) w) rfl rfl (Nat.le_of_ble_eq_true rfl) ⟨Nat.le_of_ble_eq_true rfl, Nat.le_of_ble_eq_true rfl⟩ (zd DX1_cellsSharedWith 6 rfl) (fun v3 w1 e2 => ?_)
    refine tz_icmp_ge 48 (zd DX1_cellsSharedWith 7 rfl) rfl (fun q4 => ?_) (fun q4 => ?_)
    · refine tz_iload_n 2 rfl (zd DX1_cellsSharedWith 28 rfl) ?_
      exact tz_iret rfl (zd DX1_cellsSharedWith 29 rfl)
    refine tz_iload_n 2 rfl (zd DX1_cellsSharedWith 8 rfl) ?_
    refine tz_aload_n 1 rfl (zd DX1_cellsSharedWith 9 rfl) ?_
    refine tz_aload_n 0 rfl (zd DX1_cellsSharedWith 10 rfl) ?_
    refine tz_iload_n 3 rfl (zd DX1_cellsSharedWith 11 rfl) ?_
    refine tz_cV_i kz1 (hr0) rfl (rest := [.ref r1, .int x2]) (YX1_endOf) wk_246 (tX1_endOf r0 (hr0) x3 w1) rfl rfl (Nat.le_of_ble_eq_true rfl) ⟨Nat.le_of_ble_eq_true rfl, Nat.le_of_ble_eq_true rfl⟩ (zd DX1_cellsSharedWith 12 rfl) (fun v7 w5 e6 => ?_)
    refine tz_aload_n 0 rfl (zd DX1_cellsSharedWith 13 rfl) ?_
    refine tz_iload_n 3 rfl (zd DX1_cellsSharedWith 14 rfl) ?_
    refine tz_cV_i kz1 (hr0) rfl (rest := [.int v7, .ref r1, .int x2]) (YX1_heightOf) wk_254 (tX1_heightOf r0 (hr0) x3 w5) rfl rfl (Nat.le_of_ble_eq_true rfl) ⟨Nat.le_of_ble_eq_true rfl, Nat.le_of_ble_eq_true rfl⟩ (zd DX1_cellsSharedWith 15 rfl) (fun v10 w8 e9 => ?_)
    refine tz_aload_n 0 rfl (zd DX1_cellsSharedWith 16 rfl) ?_
    refine tz_iload_n 3 rfl (zd DX1_cellsSharedWith 17 rfl) ?_
    refine tz_cV_i kz1 (hr0) rfl (rest := [.int v10, .int v7, .ref r1, .int x2]) (YX1_markOf) wk_696 (tX1_markOf r0 (hr0) x3 w8) rfl rfl (Nat.le_of_ble_eq_true rfl) ⟨Nat.le_of_ble_eq_true rfl, Nat.le_of_ble_eq_true rfl⟩ (zd DX1_cellsSharedWith 18 rfl) (fun v13 w11 e12 => ?_)
    refine tz_cV_z kz1 (hr1) rfl (rest := [.int x2]) (YX1_hasCell) wk_700 (tX1_hasCell r1 (hr1) v7 v10 v13 w11) rfl rfl (Nat.le_of_ble_eq_true rfl) ⟨Nat.le_of_ble_eq_true rfl, Nat.le_of_ble_eq_true rfl⟩ (zd DX1_cellsSharedWith 19 rfl) (fun b16 w14 e15 => ?_)
    refine tz_dia (P := fun F => ∀ v : Int32, Tz MX1_cellsSharedWith (zRet zi) (F v) 40 [(0, .ref r0), (1, .ref r1), (2, .int x2), (3, .int x3)] (.int v :: [.int x2]) w14) ?_ (fun _ hJ40 => ?_)
    · intro v18
      refine tz_iadd (zd DX1_cellsSharedWith 24 rfl) ?_
      refine tz_lti (fun v19 => ?_)
      refine tz_istore_n [(2, .int v19), (0, .ref r0), (1, .ref r1), (3, .int x3)] (Nat.le_of_ble_eq_true rfl) rfl (zd DX1_cellsSharedWith 25 rfl) ?_
      refine tz_iinc 3 (1 : Int32) [(3, .int (x3 + (1 : Int32))), (2, .int v19), (0, .ref r0), (1, .ref r1)] rfl zk_iconst_1 (Nat.le_of_ble_eq_true rfl) rfl (zd DX1_cellsSharedWith 26 rfl) ?_
      refine tz_goto 4 (zd DX1_cellsSharedWith 27 rfl) rfl ?_
      refine tz_lv (lv2 := [(0, .ref r0), (1, .ref r1), (2, .int v19), (3, .int (x3 + (1 : Int32)))]) [2, 3, 1, 0] rfl ?_
      exact ih v19 (x3 + (1 : Int32)) w14
    refine tz_ite ?_
    refine tz_bif_eq 39 (zd DX1_cellsSharedWith 20 rfl) rfl (fun q17 => ?_) (fun q17 => ?_)
    · refine tz_iconst (1 : Int32) zk_iconst_1 (zd DX1_cellsSharedWith 21 rfl) ?_
      refine tz_goto 40 (zd DX1_cellsSharedWith 22 rfl) rfl ?_
      exact hJ40 (1 : Int32)
    refine tz_iconst (0 : Int32) zk_iconst_0 (zd DX1_cellsSharedWith 23 rfl) ?_
    exact hJ40 (0 : Int32)
set_option maxHeartbeats 4000000 in
set_option maxRecDepth 100000 in
theorem tX1_cellsSharedWith (h0 : Nat) (hh0 : zc 1 h0) (r1 : Nat) (hr1 : zc 1 r1) (w : zW) : Sm yX1_cellsSharedWith MX1_cellsSharedWith zi [.ref h0, .ref r1] w (fX1_cellsSharedWith h0 r1 w) := by
  refine Sm_of (lv0 := [(0, .ref h0), (1, .ref r1)]) (by decide) rfl (fun _ => Nat.le_of_ble_eq_true rfl) rfl ?_
  unfold fX1_cellsSharedWith
  refine tz_iconst (0 : Int32) zk_iconst_0 (zd DX1_cellsSharedWith 0 rfl) ?_
  refine tz_istore_n [(2, .int (0 : Int32)), (0, .ref h0), (1, .ref r1)] (Nat.le_of_ble_eq_true rfl) rfl (zd DX1_cellsSharedWith 1 rfl) ?_
  refine tz_iconst (0 : Int32) zk_iconst_0 (zd DX1_cellsSharedWith 2 rfl) ?_
  refine tz_istore_n [(3, .int (0 : Int32)), (2, .int (0 : Int32)), (0, .ref h0), (1, .ref r1)] (Nat.le_of_ble_eq_true rfl) rfl (zd DX1_cellsSharedWith 3 rfl) ?_
  refine tz_lv (lv2 := [(0, .ref h0), (1, .ref r1), (2, .int (0 : Int32)), (3, .int (0 : Int32))]) [2, 3, 1, 0] rfl ?_
  exact lX1_cellsSharedWith_L4 h0 (hh0) r1 (hr1) zFU (0 : Int32) (0 : Int32) w
def QX1_hasItemsOf : List (Nat × Instr × Nat) := [(0, .aload_n 0, 1), (1, .invokevirtual 55, 3), (4, .aload_n 1, 1), (5, .invokevirtual 55, 3), (8, .if_icmp .ne 7, 3), (11, .iconst 1, 1), (12, .goto 4, 3), (15, .iconst 0, 1), (16, .istore_n 2, 1), (17, .iconst 0, 1), (18, .istore_n 3, 1), (19, .iload_n 3, 1), (20, .aload_n 0, 1), (21, .invokevirtual 55, 3), (24, .if_icmp .ge 32, 3), (27, .iload_n 2, 1), (28, .ifCond .eq 28, 3), (31, .aload_n 0, 1), (32, .iload_n 3, 1), (33, .invokevirtual 65, 3), (36, .aload_n 1, 1), (37, .iload_n 3, 1), (38, .invokevirtual 65, 3), (41, .if_icmp .ne 7, 3), (44, .iconst 1, 1), (45, .goto 4, 3), (48, .iconst 0, 1), (49, .istore_n 2, 1), (50, .iinc 3 1, 3), (53, .goto (-34), 3), (56, .iload_n 2, 1), (57, .ireturn, 1)]
set_option maxRecDepth 100000 in
theorem DX1_hasItemsOf : ∀ q ∈ QX1_hasItemsOf, decode cX1_hasItemsOf q.1 = .ok (q.2.1, q.2.2) := by decide +kernel
abbrev MX1_hasItemsOf : zM := (cX1_hasItemsOf, "EndSums$Line", 4, (some .boolean), { frames := 2, cells := 0, slots := 0, locals := 42 })
def fX1_hasItemsOf_L19 (r0 : Nat) (r1 : Nat) : Nat → Int32 → Int32 → zW → Option (Bool × zW)
  | 0, _, _, _ => none
  | n + 1, x2, x3, w =>
    bd (fX1_size r0 w) fun v11 w9 =>
    if v11 ≤ x3 then
      some (zvb x2, w9)
    else
    if x2 = (0 : Int32) then
      some (zvb x2, w9)
    else
    bd (fX1_itemAt r0 x3 w9) fun v16 w14 =>
    bd (fX1_itemAt r1 x3 w14) fun v19 w17 =>
    lt (if ¬ v16 = v19 then (0 : Int32) else (1 : Int32)) fun v21 =>
    fX1_hasItemsOf_L19 r0 r1 n v21 (x3 + (1 : Int32)) w17
def fX1_hasItemsOf (h0 : Nat) (r1 : Nat) (w : zW) : Option (Bool × zW) :=
  bd (fX1_size h0 w) fun v3 w1 =>
  bd (fX1_size r1 w1) fun v6 w4 =>
  lt (if ¬ v3 = v6 then (0 : Int32) else (1 : Int32)) fun v8 =>
  fX1_hasItemsOf_L19 h0 r1 zFU v8 (0 : Int32) w4
theorem YX1_hasItemsOf : zYV yX1_hasItemsOf MX1_hasItemsOf 1 := ⟨wk_711, wk_5, ⟨wk_710, ws_69⟩, ⟨by decide, by decide, by decide +kernel⟩, rfl, rfl⟩
set_option maxHeartbeats 4000000 in
set_option maxRecDepth 100000 in
theorem lX1_hasItemsOf_L19 (r0 : Nat) (hr0 : zc 1 r0) (r1 : Nat) (hr1 : zc 1 r1) : ∀ (n : Nat) (x2 : Int32) (x3 : Int32) (w : zW), Tz MX1_hasItemsOf (zRet zz) (fX1_hasItemsOf_L19 r0 r1 n x2 x3 w) 19 [(0, .ref r0), (1, .ref r1), (2, .int x2), (3, .int x3)] [] w := by
  intro n
  induction n with
  | zero => intro x2 x3 w; exact tz_eq (fX1_hasItemsOf_L19.eq_1 _ _ _ _ _) tz_none
  | succ n ih =>
    intro x2 x3 w
    refine tz_eq (fX1_hasItemsOf_L19.eq_2 _ _ _ _ _ _) ?_
    refine tz_iload_n 3 rfl (zd DX1_hasItemsOf 11 rfl) ?_
    refine tz_aload_n 0 rfl (zd DX1_hasItemsOf 12 rfl) ?_
    refine tz_cV_i kz1 (hr0) rfl (rest := [.int x3]) (YX1_size) wk_695 (tX1_size r0 (hr0) w) rfl rfl (Nat.le_of_ble_eq_true rfl) ⟨Nat.le_of_ble_eq_true rfl, Nat.le_of_ble_eq_true rfl⟩ (zd DX1_hasItemsOf 13 rfl) (fun v11 w9 e10 => ?_)
    refine tz_icmp_ge 56 (zd DX1_hasItemsOf 14 rfl) rfl (fun q12 => ?_) (fun q12 => ?_)
    · refine tz_iload_n 2 rfl (zd DX1_hasItemsOf 30 rfl) ?_
      exact tz_zretv rfl (zd DX1_hasItemsOf 31 rfl)
    refine tz_iload_n 2 rfl (zd DX1_hasItemsOf 15 rfl) ?_
    refine tz_if_eq 56 (zd DX1_hasItemsOf 16 rfl) rfl (fun q13 => ?_) (fun q13 => ?_)
    · refine tz_iload_n 2 rfl (zd DX1_hasItemsOf 30 rfl) ?_
      exact tz_zretv rfl (zd DX1_hasItemsOf 31 rfl)
    refine tz_aload_n 0 rfl (zd DX1_hasItemsOf 17 rfl) ?_
    refine tz_iload_n 3 rfl (zd DX1_hasItemsOf 18 rfl) ?_
    refine tz_cV_i kz1 (hr0) rfl (rest := []) (YX1_itemAt) wk_712 (tX1_itemAt r0 (hr0) x3 w9) rfl rfl (Nat.le_of_ble_eq_true rfl) ⟨Nat.le_of_ble_eq_true rfl, Nat.le_of_ble_eq_true rfl⟩ (zd DX1_hasItemsOf 19 rfl) (fun v16 w14 e15 => ?_)
    refine tz_aload_n 1 rfl (zd DX1_hasItemsOf 20 rfl) ?_
    refine tz_iload_n 3 rfl (zd DX1_hasItemsOf 21 rfl) ?_
    refine tz_cV_i kz1 (hr1) rfl (rest := [.int v16]) (YX1_itemAt) wk_712 (tX1_itemAt r1 (hr1) x3 w14) rfl rfl (Nat.le_of_ble_eq_true rfl) ⟨Nat.le_of_ble_eq_true rfl, Nat.le_of_ble_eq_true rfl⟩ (zd DX1_hasItemsOf 22 rfl) (fun v19 w17 e18 => ?_)
    refine tz_dia (P := fun F => ∀ v : Int32, Tz MX1_hasItemsOf (zRet zz) (F v) 49 [(0, .ref r0), (1, .ref r1), (2, .int x2), (3, .int x3)] (.int v :: []) w17) ?_ (fun _ hJ49 => ?_)
    · intro v21
      refine tz_istore_n [(2, .int v21), (0, .ref r0), (1, .ref r1), (3, .int x3)] (Nat.le_of_ble_eq_true rfl) rfl (zd DX1_hasItemsOf 27 rfl) ?_
      refine tz_iinc 3 (1 : Int32) [(3, .int (x3 + (1 : Int32))), (2, .int v21), (0, .ref r0), (1, .ref r1)] rfl zk_iconst_1 (Nat.le_of_ble_eq_true rfl) rfl (zd DX1_hasItemsOf 28 rfl) ?_
      refine tz_goto 19 (zd DX1_hasItemsOf 29 rfl) rfl ?_
      refine tz_lv (lv2 := [(0, .ref r0), (1, .ref r1), (2, .int v21), (3, .int (x3 + (1 : Int32)))]) [2, 3, 1, 0] rfl ?_
      exact ih v21 (x3 + (1 : Int32)) w17
    refine tz_ite ?_
    refine tz_icmp_ne 48 (zd DX1_hasItemsOf 23 rfl) rfl (fun q20 => ?_) (fun q20 => ?_)
    · refine tz_iconst (0 : Int32) zk_iconst_0 (zd DX1_hasItemsOf 26 rfl) ?_
      exact hJ49 (0 : Int32)
    refine tz_iconst (1 : Int32) zk_iconst_1 (zd DX1_hasItemsOf 24 rfl) ?_
    refine tz_goto 49 (zd DX1_hasItemsOf 25 rfl) rfl ?_
    exact hJ49 (1 : Int32)
set_option maxHeartbeats 4000000 in
set_option maxRecDepth 100000 in
theorem tX1_hasItemsOf (h0 : Nat) (hh0 : zc 1 h0) (r1 : Nat) (hr1 : zc 1 r1) (w : zW) : Sm yX1_hasItemsOf MX1_hasItemsOf zz [.ref h0, .ref r1] w (fX1_hasItemsOf h0 r1 w) := by
  refine Sm_of (lv0 := [(0, .ref h0), (1, .ref r1)]) (by decide) rfl (fun _ => Nat.le_of_ble_eq_true rfl) rfl ?_
  unfold fX1_hasItemsOf
  refine tz_aload_n 0 rfl (zd DX1_hasItemsOf 0 rfl) ?_
  refine tz_cV_i kz1 (hh0) rfl (rest := []) (YX1_size) wk_695 (tX1_size h0 (hh0) w) rfl rfl (Nat.le_of_ble_eq_true rfl) ⟨Nat.le_of_ble_eq_true rfl, Nat.le_of_ble_eq_true rfl⟩ (zd DX1_hasItemsOf 1 rfl) (fun v3 w1 e2 => ?_)
  refine tz_aload_n 1 rfl (zd DX1_hasItemsOf 2 rfl) ?_
  refine tz_cV_i kz1 (hr1) rfl (rest := [.int v3]) (YX1_size) wk_695 (tX1_size r1 (hr1) w1) rfl rfl (Nat.le_of_ble_eq_true rfl) ⟨Nat.le_of_ble_eq_true rfl, Nat.le_of_ble_eq_true rfl⟩ (zd DX1_hasItemsOf 3 rfl) (fun v6 w4 e5 => ?_)
  refine tz_dia (P := fun F => ∀ v : Int32, Tz MX1_hasItemsOf (zRet zz) (F v) 16 [(0, .ref h0), (1, .ref r1)] (.int v :: []) w4) ?_ (fun _ hJ16 => ?_)
  · intro v8
    refine tz_istore_n [(2, .int v8), (0, .ref h0), (1, .ref r1)] (Nat.le_of_ble_eq_true rfl) rfl (zd DX1_hasItemsOf 8 rfl) ?_
    refine tz_iconst (0 : Int32) zk_iconst_0 (zd DX1_hasItemsOf 9 rfl) ?_
    refine tz_istore_n [(3, .int (0 : Int32)), (2, .int v8), (0, .ref h0), (1, .ref r1)] (Nat.le_of_ble_eq_true rfl) rfl (zd DX1_hasItemsOf 10 rfl) ?_
    refine tz_lv (lv2 := [(0, .ref h0), (1, .ref r1), (2, .int v8), (3, .int (0 : Int32))]) [2, 3, 1, 0] rfl ?_
    exact lX1_hasItemsOf_L19 h0 (hh0) r1 (hr1) zFU v8 (0 : Int32) w4
  refine tz_ite ?_
  refine tz_icmp_ne 15 (zd DX1_hasItemsOf 4 rfl) rfl (fun q7 => ?_) (fun q7 => ?_)
  · refine tz_iconst (0 : Int32) zk_iconst_0 (zd DX1_hasItemsOf 7 rfl) ?_
    exact hJ16 (0 : Int32)
  refine tz_iconst (1 : Int32) zk_iconst_1 (zd DX1_hasItemsOf 5 rfl) ?_
  refine tz_goto 16 (zd DX1_hasItemsOf 6 rfl) rfl ?_
  exact hJ16 (1 : Int32)
def QX3_become : List (Nat × Instr × Nat) := [(0, .aload_n 0, 1), (1, .aload_n 1, 1), (2, .getfield 9, 3), (5, .putfield 9, 3), (8, .aload_n 0, 1), (9, .aload_n 1, 1), (10, .getfield 19, 3), (13, .putfield 19, 3), (16, .iconst 0, 1), (17, .istore_n 2, 1), (18, .iload_n 2, 1), (19, .aload_n 0, 1), (20, .getfield 15, 3), (23, .arraylength, 1), (24, .if_icmp .ge 25, 3), (27, .aload_n 0, 1), (28, .getfield 15, 3), (31, .iload_n 2, 1), (32, .aload_n 1, 1), (33, .getfield 15, 3), (36, .iload_n 2, 1), (37, .invokestatic 22, 3), (40, .invokestatic 26, 3), (43, .iinc 2 1, 3), (46, .goto (-28), 3), (49, .return_, 1)]
set_option maxRecDepth 100000 in
theorem DX3_become : ∀ q ∈ QX3_become, decode cX3_become q.1 = .ok (q.2.1, q.2.2) := by decide +kernel
abbrev MX3_become : zM := (cX3_become, "EndSums$Table", 3, none, { frames := 1, cells := 0, slots := 0, locals := 22 })
def fX3_become_L18 (r0 : Nat) (r1 : Nat) : Nat → Int32 → zW → Option (Unit × zW)
  | 0, _, _ => none
  | n + 1, x2, w =>
    if (nI 25) ≤ x2 then
      some ((), w)
    else
    bd (fX7_at (r1 + 1) x2 w) fun v6 w4 =>
    bd (fX7_set (r0 + 1) x2 v6 w4) fun _ w7 =>
    fX3_become_L18 r0 r1 n (x2 + (1 : Int32)) w7
def fX3_become (h0 : Nat) (r1 : Nat) (w : zW) : Option (Unit × zW) :=
  lt (zsI w h0 0 (zI w r1 0)) fun w1 =>
  lt (zsI w1 h0 1 (zI w1 r1 1)) fun w2 =>
  fX3_become_L18 h0 r1 zFU (0 : Int32) w2
theorem YX3_become : zYV yX3_become MX3_become 1 := ⟨wk_402, wk_3, ⟨wk_401, ws_32⟩, ⟨by decide, by decide, by decide +kernel⟩, rfl, rfl⟩
set_option maxHeartbeats 4000000 in
set_option maxRecDepth 100000 in
theorem lX3_become_L18 (r0 : Nat) (hr0 : zc 3 r0) (r1 : Nat) (hr1 : zc 3 r1) : ∀ (n : Nat) (x2 : Int32) (w : zW), Tz MX3_become (zRet zn) (fX3_become_L18 r0 r1 n x2 w) 18 [(0, .ref r0), (1, .ref r1), (2, .int x2)] [] w := by
  intro n
  induction n with
  | zero => intro x2 w; exact tz_eq (fX3_become_L18.eq_1 _ _ _ _) tz_none
  | succ n ih =>
    intro x2 w
    refine tz_eq (fX3_become_L18.eq_2 _ _ _ _ _) ?_
    refine tz_iload_n 2 rfl (zd DX3_become 10 rfl) ?_
    refine tz_aload_n 0 rfl (zd DX3_become 11 rfl) ?_
    refine tz_getR (r0 + 1) 2 kz3 (hr0) (by decide) (by decide) ((zf3_2 (hr0)).1) wk_41 (zd DX3_become 12 rfl) ?_
    refine tz_alen0 ((zf3_2 (w := w) (hr0)).2.1) ((zf3_2 (w := w) (hr0)).2.2) (zd DX3_become 13 rfl) ?_
    refine tz_icmp_ge 49 (zd DX3_become 14 rfl) rfl (fun q3 => ?_) (fun q3 => ?_)
    · exact tz_vret rfl (zd DX3_become 25 rfl)
    refine tz_aload_n 0 rfl (zd DX3_become 15 rfl) ?_
    refine tz_getR (r0 + 1) 2 kz3 (hr0) (by decide) (by decide) ((zf3_2 (hr0)).1) wk_41 (zd DX3_become 16 rfl) ?_
    refine tz_iload_n 2 rfl (zd DX3_become 17 rfl) ?_
    refine tz_aload_n 1 rfl (zd DX3_become 18 rfl) ?_
    refine tz_getR (r1 + 1) 2 kz3 (hr1) (by decide) (by decide) ((zf3_2 (hr1)).1) wk_41 (zd DX3_become 19 rfl) ?_
    refine tz_iload_n 2 rfl (zd DX3_become 20 rfl) ?_
    refine tz_cSN_i (rest := [.int x2, .ref (r0 + 1)]) (YX7_at) wn_403 (tX7_at (r1 + 1) ((zf3_2 (w := w) (hr1)).2.1) x2 w) rfl rfl (Nat.le_of_ble_eq_true rfl) ⟨Nat.le_of_ble_eq_true rfl, Nat.le_of_ble_eq_true rfl⟩ (zd DX3_become 21 rfl) (fun v6 w4 e5 => ?_)
    refine tz_cSN_n (rest := []) (YX7_set) wn_373 (tX7_set (r0 + 1) ((zf3_2 (w := w) (hr0)).2.1) x2 v6 w4) rfl rfl (Nat.le_of_ble_eq_true rfl) ⟨Nat.le_of_ble_eq_true rfl, Nat.le_of_ble_eq_true rfl⟩ (zd DX3_become 22 rfl) (fun v9 w7 e8 => ?_)
    refine tz_iinc 2 (1 : Int32) [(2, .int (x2 + (1 : Int32))), (0, .ref r0), (1, .ref r1)] rfl zk_iconst_1 (Nat.le_of_ble_eq_true rfl) rfl (zd DX3_become 23 rfl) ?_
    refine tz_goto 18 (zd DX3_become 24 rfl) rfl ?_
    refine tz_lv (lv2 := [(0, .ref r0), (1, .ref r1), (2, .int (x2 + (1 : Int32)))]) [1, 2, 0] rfl ?_
    exact ih (x2 + (1 : Int32)) w7
set_option maxHeartbeats 4000000 in
set_option maxRecDepth 100000 in
theorem tX3_become (h0 : Nat) (hh0 : zc 3 h0) (r1 : Nat) (hr1 : zc 3 r1) (w : zW) : Sm yX3_become MX3_become zn [.ref h0, .ref r1] w (fX3_become h0 r1 w) := by
  refine Sm_of (lv0 := [(0, .ref h0), (1, .ref r1)]) (by decide) rfl (fun _ => Nat.le_of_ble_eq_true rfl) rfl ?_
  unfold fX3_become
  refine tz_aload_n 0 rfl (zd DX3_become 0 rfl) ?_
  refine tz_aload_n 1 rfl (zd DX3_become 1 rfl) ?_
  refine tz_getI 0 kz3 (hr1) (by decide) rfl wk_35 (zd DX3_become 2 rfl) ?_
  refine tz_putI 0 kz3 (hh0) (by decide) rfl rfl wk_35 (zd DX3_become 3 rfl) (fun w1 => ?_)
  refine tz_aload_n 0 rfl (zd DX3_become 4 rfl) ?_
  refine tz_aload_n 1 rfl (zd DX3_become 5 rfl) ?_
  refine tz_getI 1 kz3 (hr1) (by decide) rfl wk_39 (zd DX3_become 6 rfl) ?_
  refine tz_putI 1 kz3 (hh0) (by decide) rfl rfl wk_39 (zd DX3_become 7 rfl) (fun w2 => ?_)
  refine tz_iconst (0 : Int32) zk_iconst_0 (zd DX3_become 8 rfl) ?_
  refine tz_istore_n [(2, .int (0 : Int32)), (0, .ref h0), (1, .ref r1)] (Nat.le_of_ble_eq_true rfl) rfl (zd DX3_become 9 rfl) ?_
  refine tz_lv (lv2 := [(0, .ref h0), (1, .ref r1), (2, .int (0 : Int32))]) [1, 2, 0] rfl ?_
  exact lX3_become_L18 h0 (hh0) r1 (hr1) zFU (0 : Int32) w2
def QX5_firstRow : List (Nat × Instr × Nat) := [(0, .iconst 0, 1), (1, .istore_n 1, 1), (2, .iload_n 1, 1), (3, .aload_n 0, 1), (4, .getfield 15, 3), (7, .if_icmp .ge 22, 3), (10, .aload_n 0, 1), (11, .getfield 9, 3), (14, .iload_n 1, 1), (15, .invokestatic 23, 3), (18, .bipush 47, 2), (20, .if_icmp .eq 9, 3), (23, .iinc 1 1, 3), (26, .goto (-24), 3), (29, .iload_n 1, 1), (30, .ireturn, 1)]
set_option maxRecDepth 100000 in
theorem DX5_firstRow : ∀ q ∈ QX5_firstRow, decode cX5_firstRow q.1 = .ok (q.2.1, q.2.2) := by decide +kernel
abbrev MX5_firstRow : zM := (cX5_firstRow, "EndSums$Text", 2, (some .int), { frames := 1, cells := 0, slots := 0, locals := 21 })
def fX5_firstRow_L2  : Nat → Int32 → zW → Option (Int32 × zW)
  | 0, _, _ => none
  | n + 1, x1, w =>
    if (zI w 64 0) ≤ x1 then
      some (x1, w)
    else
    bd (fX7_at 65 x1 w) fun v4 w2 =>
    if v4 = (47 : Int32) then
      some (x1, w2)
    else
    fX5_firstRow_L2 n (x1 + (1 : Int32)) w2
def fX5_firstRow  (w : zW) : Option (Int32 × zW) :=
  fX5_firstRow_L2 zFU (0 : Int32) w
theorem YX5_firstRow : zYV yX5_firstRow MX5_firstRow 0 := ⟨wk_351, wk_7, ⟨wk_350, ws_21⟩, ⟨by decide, by decide, by decide +kernel⟩, rfl, rfl⟩
set_option maxHeartbeats 4000000 in
set_option maxRecDepth 100000 in
theorem lX5_firstRow_L2  : ∀ (n : Nat) (x1 : Int32) (w : zW), Tz MX5_firstRow (zRet zi) (fX5_firstRow_L2 n x1 w) 2 [(0, .ref 64), (1, .int x1)] [] w := by
  intro n
  induction n with
  | zero => intro x1 w; exact tz_eq (fX5_firstRow_L2.eq_1 _ _) tz_none
  | succ n ih =>
    intro x1 w
    refine tz_eq (fX5_firstRow_L2.eq_2 _ _ _) ?_
    refine tz_iload_n 1 rfl (zd DX5_firstRow 2 rfl) ?_
    refine tz_aload_n 0 rfl (zd DX5_firstRow 3 rfl) ?_
    refine tz_getI 0 kz5 (zs_64) (by decide) rfl wk_149 (zd DX5_firstRow 4 rfl) ?_
    refine tz_icmp_ge 29 (zd DX5_firstRow 5 rfl) rfl (fun q1 => ?_) (fun q1 => ?_)
    · refine tz_iload_n 1 rfl (zd DX5_firstRow 14 rfl) ?_
      exact tz_iret rfl (zd DX5_firstRow 15 rfl)
    refine tz_aload_n 0 rfl (zd DX5_firstRow 6 rfl) ?_
    refine tz_getR 65 1 kz5 (zs_64) (by decide) (by decide) rfl wk_151 (zd DX5_firstRow 7 rfl) ?_
    refine tz_iload_n 1 rfl (zd DX5_firstRow 8 rfl) ?_
    refine tz_cSN_i (rest := []) (YX7_at) wn_352 (tX7_at 65 (zs_65.1) x1 w) rfl rfl (Nat.le_of_ble_eq_true rfl) ⟨Nat.le_of_ble_eq_true rfl, Nat.le_of_ble_eq_true rfl⟩ (zd DX5_firstRow 9 rfl) (fun v4 w2 e3 => ?_)
    refine tz_bipush (47 : Int32) zk_bipush_47 (zd DX5_firstRow 10 rfl) ?_
    refine tz_icmp_eq 29 (zd DX5_firstRow 11 rfl) rfl (fun q5 => ?_) (fun q5 => ?_)
    · refine tz_iload_n 1 rfl (zd DX5_firstRow 14 rfl) ?_
      exact tz_iret rfl (zd DX5_firstRow 15 rfl)
    refine tz_iinc 1 (1 : Int32) [(1, .int (x1 + (1 : Int32))), (0, .ref 64)] rfl zk_iconst_1 (Nat.le_of_ble_eq_true rfl) rfl (zd DX5_firstRow 12 rfl) ?_
    refine tz_goto 2 (zd DX5_firstRow 13 rfl) rfl ?_
    refine tz_lv (lv2 := [(0, .ref 64), (1, .int (x1 + (1 : Int32)))]) [1, 0] rfl ?_
    exact ih (x1 + (1 : Int32)) w2
set_option maxHeartbeats 4000000 in
set_option maxRecDepth 100000 in
theorem tX5_firstRow  (w : zW) : Sm yX5_firstRow MX5_firstRow zi [.ref 64] w (fX5_firstRow w) := by
  refine Sm_of (lv0 := [(0, .ref 64)]) (by decide) rfl (fun _ => Nat.le_of_ble_eq_true rfl) rfl ?_
  unfold fX5_firstRow
  refine tz_iconst (0 : Int32) zk_iconst_0 (zd DX5_firstRow 0 rfl) ?_
  refine tz_istore_n [(1, .int (0 : Int32)), (0, .ref 64)] (Nat.le_of_ble_eq_true rfl) rfl (zd DX5_firstRow 1 rfl) ?_
  refine tz_lv (lv2 := [(0, .ref 64), (1, .int (0 : Int32))]) [1, 0] rfl ?_
  exact lX5_firstRow_L2 zFU (0 : Int32) w
def QX5_signAt : List (Nat × Instr × Nat) := [(0, .aload_n 0, 1), (1, .getfield 9, 3), (4, .iload_n 1, 1), (5, .invokestatic 23, 3), (8, .ireturn, 1)]
set_option maxRecDepth 100000 in
theorem DX5_signAt : ∀ q ∈ QX5_signAt, decode cX5_signAt q.1 = .ok (q.2.1, q.2.2) := by decide +kernel
abbrev MX5_signAt : zM := (cX5_signAt, "EndSums$Text", 2, (some .int), { frames := 1, cells := 0, slots := 0, locals := 21 })
def fX5_signAt (a1 : Int32) (w : zW) : Option (Int32 × zW) :=
  bd (fX7_at 65 a1 w) fun v3 w1 =>
  some (v3, w1)
theorem YX5_signAt : zYV yX5_signAt MX5_signAt 1 := ⟨wk_372, wk_7, ⟨wk_371, ws_25⟩, ⟨by decide, by decide, by decide +kernel⟩, rfl, rfl⟩
set_option maxHeartbeats 4000000 in
set_option maxRecDepth 100000 in
theorem tX5_signAt (a1 : Int32) (w : zW) : Sm yX5_signAt MX5_signAt zi [.ref 64, .int a1] w (fX5_signAt a1 w) := by
  refine Sm_of (lv0 := [(0, .ref 64), (1, .int a1)]) (by decide) rfl (fun _ => Nat.le_of_ble_eq_true rfl) rfl ?_
  unfold fX5_signAt
  refine tz_aload_n 0 rfl (zd DX5_signAt 0 rfl) ?_
  refine tz_getR 65 1 kz5 (zs_64) (by decide) (by decide) rfl wk_151 (zd DX5_signAt 1 rfl) ?_
  refine tz_iload_n 1 rfl (zd DX5_signAt 2 rfl) ?_
  refine tz_cSN_i (rest := []) (YX7_at) wn_352 (tX7_at 65 (zs_65.1) a1 w) rfl rfl (Nat.le_of_ble_eq_true rfl) ⟨Nat.le_of_ble_eq_true rfl, Nat.le_of_ble_eq_true rfl⟩ (zd DX5_signAt 3 rfl) (fun v3 w1 e2 => ?_)
  exact tz_iret rfl (zd DX5_signAt 4 rfl)
def QX3_neutralOne : List (Nat × Instr × Nat) := [(0, .iconst 0, 1), (1, .istore_n 1, 1), (2, .iload_n 1, 1), (3, .aload_n 0, 1), (4, .getfield 9, 3), (7, .if_icmp .ge 63, 3), (10, .iconst 1, 1), (11, .istore_n 2, 1), (12, .iconst 0, 1), (13, .istore_n 3, 1), (14, .iload_n 3, 1), (15, .aload_n 0, 1), (16, .getfield 9, 3), (19, .if_icmp .ge 39, 3), (22, .iload_n 2, 1), (23, .ifCond .eq 27, 3), (26, .aload_n 0, 1), (27, .iload_n 1, 1), (28, .iload_n 3, 1), (29, .invokevirtual 43, 3), (32, .iload_n 3, 1), (33, .if_icmp .ne 17, 3), (36, .aload_n 0, 1), (37, .iload_n 3, 1), (38, .iload_n 1, 1), (39, .invokevirtual 43, 3), (42, .iload_n 3, 1), (43, .if_icmp .ne 7, 3), (46, .iconst 1, 1), (47, .goto 4, 3), (50, .iconst 0, 1), (51, .istore_n 2, 1), (52, .iinc 3 1, 3), (55, .goto (-41), 3), (58, .iload_n 2, 1), (59, .ifCond .eq 5, 3), (62, .iload_n 1, 1), (63, .ireturn, 1), (64, .iinc 1 1, 3), (67, .goto (-65), 3), (70, .iconst (-1), 1), (71, .ireturn, 1)]
set_option maxRecDepth 100000 in
theorem DX3_neutralOne : ∀ q ∈ QX3_neutralOne, decode cX3_neutralOne q.1 = .ok (q.2.1, q.2.2) := by decide +kernel
abbrev MX3_neutralOne : zM := (cX3_neutralOne, "EndSums$Table", 4, (some .int), { frames := 1, cells := 0, slots := 0, locals := 23 })
def fX3_neutralOne_L14 (r0 : Nat) (x1 : Int32) (j2 : Int32 → zW → Option (Int32 × zW)) : Nat → Int32 → Int32 → zW → Option (Int32 × zW)
  | 0, _, _, _ => none
  | n + 1, x2, x3, w =>
    if (zI w r0 0) ≤ x3 then
      if x2 = (0 : Int32) then
        j2 (x1 + (1 : Int32)) w
      else
      some (x1, w)
    else
    lt (fun (s_51 : Int32) (w5 : zW) =>
      fX3_neutralOne_L14 r0 x1 j2 n s_51 (x3 + (1 : Int32)) w5) fun j5 =>
    lt (fun (w6 : zW) =>
      j5 (0 : Int32) w6) fun j6 =>
    if x2 = (0 : Int32) then
      j6 w
    else
    bd (fX3_entry r0 x1 x3 w) fun v10 w8 =>
    if ¬ v10 = x3 then
      j6 w8
    else
    bd (fX3_entry r0 x3 x1 w8) fun v14 w12 =>
    if ¬ v14 = x3 then
      j6 w12
    else
    j5 (1 : Int32) w12
def fX3_neutralOne_L2 (r0 : Nat) : Nat → Int32 → zW → Option (Int32 × zW)
  | 0, _, _ => none
  | n + 1, x1, w =>
    if (zI w r0 0) ≤ x1 then
      some ((-1 : Int32), w)
    else
    fX3_neutralOne_L14 r0 x1 (fX3_neutralOne_L2 r0 n) zFU (1 : Int32) (0 : Int32) w
def fX3_neutralOne (h0 : Nat) (w : zW) : Option (Int32 × zW) :=
  fX3_neutralOne_L2 h0 zFU (0 : Int32) w
theorem YX3_neutralOne : zYV yX3_neutralOne MX3_neutralOne 0 := ⟨wk_377, wk_3, ⟨wk_376, ws_26⟩, ⟨by decide, by decide, by decide +kernel⟩, rfl, rfl⟩
set_option maxHeartbeats 4000000 in
set_option maxRecDepth 100000 in
theorem lX3_neutralOne_L14 (r0 : Nat) (hr0 : zc 3 r0) (x1 : Int32) (j2 : Int32 → zW → Option (Int32 × zW)) (hj2 : ∀ (y1 : Int32) (w : zW), Tz MX3_neutralOne (zRet zi) (j2 y1 w) 2 [(0, .ref r0), (1, .int y1)] [] w) : ∀ (n : Nat) (x2 : Int32) (x3 : Int32) (w : zW), Tz MX3_neutralOne (zRet zi) (fX3_neutralOne_L14 r0 x1 j2 n x2 x3 w) 14 [(0, .ref r0), (1, .int x1), (2, .int x2), (3, .int x3)] [] w := by
  intro n
  induction n with
  | zero => intro x2 x3 w; exact tz_eq (fX3_neutralOne_L14.eq_1 _ _ _ _ _ _) tz_none
  | succ n ih =>
    intro x2 x3 w
    refine tz_eq (fX3_neutralOne_L14.eq_2 _ _ _ _ _ _ _) ?_
    refine tz_iload_n 3 rfl (zd DX3_neutralOne 10 rfl) ?_
    refine tz_aload_n 0 rfl (zd DX3_neutralOne 11 rfl) ?_
    refine tz_getI 0 kz3 (hr0) (by decide) rfl wk_35 (zd DX3_neutralOne 12 rfl) ?_
    refine tz_icmp_ge 58 (zd DX3_neutralOne 13 rfl) rfl (fun q2 => ?_) (fun q2 => ?_)
    · refine tz_iload_n 2 rfl (zd DX3_neutralOne 34 rfl) ?_
      refine tz_if_eq 64 (zd DX3_neutralOne 35 rfl) rfl (fun q3 => ?_) (fun q3 => ?_)
      · refine tz_iinc 1 (1 : Int32) [(1, .int (x1 + (1 : Int32))), (0, .ref r0), (2, .int x2), (3, .int x3)] rfl zk_iconst_1 (Nat.le_of_ble_eq_true rfl) rfl (zd DX3_neutralOne 38 rfl) ?_
        refine tz_goto 2 (zd DX3_neutralOne 39 rfl) rfl ?_
        refine tz_lv (lv2 := [(0, .ref r0), (1, .int (x1 + (1 : Int32)))]) [1, 0] rfl ?_
        exact hj2 (x1 + (1 : Int32)) w
      refine tz_iload_n 1 rfl (zd DX3_neutralOne 36 rfl) ?_
      exact tz_iret rfl (zd DX3_neutralOne 37 rfl)
    refine tz_iload_n 2 rfl (zd DX3_neutralOne 14 rfl) ?_
    refine tz_jp (P := fun j => ∀ (s_51 : Int32) (w5 : zW), Tz MX3_neutralOne (zRet zi) (j s_51 w5) 51 [(0, .ref r0), (1, .int x1), (3, .int x3)] [.int s_51] w5) ?_ (fun j5 hj5 => ?_)
    · intro s_51 w5
      refine tz_istore_n [(2, .int s_51), (0, .ref r0), (1, .int x1), (3, .int x3)] (Nat.le_of_ble_eq_true rfl) rfl (zd DX3_neutralOne 31 rfl) ?_
      refine tz_iinc 3 (1 : Int32) [(3, .int (x3 + (1 : Int32))), (2, .int s_51), (0, .ref r0), (1, .int x1)] rfl zk_iconst_1 (Nat.le_of_ble_eq_true rfl) rfl (zd DX3_neutralOne 32 rfl) ?_
      refine tz_goto 14 (zd DX3_neutralOne 33 rfl) rfl ?_
      refine tz_lv (lv2 := [(0, .ref r0), (1, .int x1), (2, .int s_51), (3, .int (x3 + (1 : Int32)))]) [2, 3, 1, 0] rfl ?_
      exact ih s_51 (x3 + (1 : Int32)) w5
    refine tz_jp (P := fun j => ∀ (w6 : zW), Tz MX3_neutralOne (zRet zi) (j w6) 50 [(0, .ref r0), (1, .int x1), (3, .int x3)] [] w6) ?_ (fun j6 hj6 => ?_)
    · intro w6
      refine tz_iconst (0 : Int32) zk_iconst_0 (zd DX3_neutralOne 30 rfl) ?_
      exact hj5 (0 : Int32) w6
    refine tz_if_eq 50 (zd DX3_neutralOne 15 rfl) rfl (fun q7 => ?_) (fun q7 => ?_)
    · refine tz_lv (lv2 := [(0, .ref r0), (1, .int x1), (3, .int x3)]) [0, 1, 3] rfl ?_
      exact hj6 w
    refine tz_aload_n 0 rfl (zd DX3_neutralOne 16 rfl) ?_
    refine tz_iload_n 1 rfl (zd DX3_neutralOne 17 rfl) ?_
    refine tz_iload_n 3 rfl (zd DX3_neutralOne 18 rfl) ?_
    refine tz_cV_i kz3 (hr0) rfl (rest := []) (YX3_entry) wk_378 (tX3_entry r0 (hr0) x1 x3 w) rfl rfl (Nat.le_of_ble_eq_true rfl) ⟨Nat.le_of_ble_eq_true rfl, Nat.le_of_ble_eq_true rfl⟩ (zd DX3_neutralOne 19 rfl) (fun v10 w8 e9 => ?_)
    refine tz_iload_n 3 rfl (zd DX3_neutralOne 20 rfl) ?_
    refine tz_icmp_ne 50 (zd DX3_neutralOne 21 rfl) rfl (fun q11 => ?_) (fun q11 => ?_)
    · refine tz_lv (lv2 := [(0, .ref r0), (1, .int x1), (3, .int x3)]) [0, 1, 3] rfl ?_
      exact hj6 w8
    refine tz_aload_n 0 rfl (zd DX3_neutralOne 22 rfl) ?_
    refine tz_iload_n 3 rfl (zd DX3_neutralOne 23 rfl) ?_
    refine tz_iload_n 1 rfl (zd DX3_neutralOne 24 rfl) ?_
    refine tz_cV_i kz3 (hr0) rfl (rest := []) (YX3_entry) wk_378 (tX3_entry r0 (hr0) x3 x1 w8) rfl rfl (Nat.le_of_ble_eq_true rfl) ⟨Nat.le_of_ble_eq_true rfl, Nat.le_of_ble_eq_true rfl⟩ (zd DX3_neutralOne 25 rfl) (fun v14 w12 e13 => ?_)
    refine tz_iload_n 3 rfl (zd DX3_neutralOne 26 rfl) ?_
    refine tz_icmp_ne 50 (zd DX3_neutralOne 27 rfl) rfl (fun q15 => ?_) (fun q15 => ?_)
    · refine tz_lv (lv2 := [(0, .ref r0), (1, .int x1), (3, .int x3)]) [0, 1, 3] rfl ?_
      exact hj6 w12
    refine tz_iconst (1 : Int32) zk_iconst_1 (zd DX3_neutralOne 28 rfl) ?_
    refine tz_goto 51 (zd DX3_neutralOne 29 rfl) rfl ?_
    refine tz_lv (lv2 := [(0, .ref r0), (1, .int x1), (3, .int x3)]) [0, 1, 3] rfl ?_
    exact hj5 (1 : Int32) w12
set_option maxHeartbeats 4000000 in
set_option maxRecDepth 100000 in
theorem lX3_neutralOne_L2 (r0 : Nat) (hr0 : zc 3 r0) : ∀ (n : Nat) (x1 : Int32) (w : zW), Tz MX3_neutralOne (zRet zi) (fX3_neutralOne_L2 r0 n x1 w) 2 [(0, .ref r0), (1, .int x1)] [] w := by
  intro n
  induction n with
  | zero => intro x1 w; exact tz_eq (fX3_neutralOne_L2.eq_1 _ _ _) tz_none
  | succ n ih =>
    intro x1 w
    refine tz_eq (fX3_neutralOne_L2.eq_2 _ _ _ _) ?_
    refine tz_iload_n 1 rfl (zd DX3_neutralOne 2 rfl) ?_
    refine tz_aload_n 0 rfl (zd DX3_neutralOne 3 rfl) ?_
    refine tz_getI 0 kz3 (hr0) (by decide) rfl wk_35 (zd DX3_neutralOne 4 rfl) ?_
    refine tz_icmp_ge 70 (zd DX3_neutralOne 5 rfl) rfl (fun q1 => ?_) (fun q1 => ?_)
    · refine tz_iconst (-1 : Int32) zk_iconst_m1 (zd DX3_neutralOne 40 rfl) ?_
      exact tz_iret rfl (zd DX3_neutralOne 41 rfl)
    refine tz_iconst (1 : Int32) zk_iconst_1 (zd DX3_neutralOne 6 rfl) ?_
    refine tz_istore_n [(2, .int (1 : Int32)), (0, .ref r0), (1, .int x1)] (Nat.le_of_ble_eq_true rfl) rfl (zd DX3_neutralOne 7 rfl) ?_
    refine tz_iconst (0 : Int32) zk_iconst_0 (zd DX3_neutralOne 8 rfl) ?_
    refine tz_istore_n [(3, .int (0 : Int32)), (2, .int (1 : Int32)), (0, .ref r0), (1, .int x1)] (Nat.le_of_ble_eq_true rfl) rfl (zd DX3_neutralOne 9 rfl) ?_
    refine tz_lv (lv2 := [(0, .ref r0), (1, .int x1), (2, .int (1 : Int32)), (3, .int (0 : Int32))]) [2, 3, 1, 0] rfl ?_
    exact lX3_neutralOne_L14 r0 (hr0) x1 _ ih zFU (1 : Int32) (0 : Int32) w
set_option maxHeartbeats 4000000 in
set_option maxRecDepth 100000 in
theorem tX3_neutralOne (h0 : Nat) (hh0 : zc 3 h0) (w : zW) : Sm yX3_neutralOne MX3_neutralOne zi [.ref h0] w (fX3_neutralOne h0 w) := by
  refine Sm_of (lv0 := [(0, .ref h0)]) (by decide) rfl (fun _ => Nat.le_of_ble_eq_true rfl) rfl ?_
  unfold fX3_neutralOne
  refine tz_iconst (0 : Int32) zk_iconst_0 (zd DX3_neutralOne 0 rfl) ?_
  refine tz_istore_n [(1, .int (0 : Int32)), (0, .ref h0)] (Nat.le_of_ble_eq_true rfl) rfl (zd DX3_neutralOne 1 rfl) ?_
  refine tz_lv (lv2 := [(0, .ref h0), (1, .int (0 : Int32))]) [1, 0] rfl ?_
  exact lX3_neutralOne_L2 h0 (hh0) zFU (0 : Int32) w
def QX3_read : List (Nat × Instr × Nat) := [(0, .aload_n 0, 1), (1, .aload_n 1, 1), (2, .invokevirtual 30, 3), (5, .putfield 9, 3), (8, .iconst 0, 1), (9, .istore_n 2, 1), (10, .iload_n 2, 1), (11, .aload_n 0, 1), (12, .getfield 9, 3), (15, .if_icmp .ge 54, 3), (18, .iconst 0, 1), (19, .istore_n 3, 1), (20, .iload_n 3, 1), (21, .aload_n 0, 1), (22, .getfield 9, 3), (25, .if_icmp .ge 38, 3), (28, .aload_n 0, 1), (29, .getfield 15, 3), (32, .iload_n 2, 1), (33, .iconst 5, 1), (34, .imul, 1), (35, .iload_n 3, 1), (36, .iadd, 1), (37, .aload_n 1, 1), (38, .iload_n 2, 1), (39, .aload_n 0, 1), (40, .getfield 9, 3), (43, .iconst 1, 1), (44, .iadd, 1), (45, .imul, 1), (46, .iload_n 3, 1), (47, .iadd, 1), (48, .invokevirtual 36, 3), (51, .bipush 48, 2), (53, .isub, 1), (54, .invokestatic 26, 3), (57, .iinc 3 1, 3), (60, .goto (-40), 3), (63, .iinc 2 1, 3), (66, .goto (-56), 3), (69, .aload_n 0, 1), (70, .aload_n 0, 1), (71, .invokevirtual 40, 3), (74, .putfield 19, 3), (77, .return_, 1)]
set_option maxRecDepth 100000 in
theorem DX3_read : ∀ q ∈ QX3_read, decode cX3_read q.1 = .ok (q.2.1, q.2.2) := by decide +kernel
abbrev MX3_read : zM := (cX3_read, "EndSums$Table", 4, none, { frames := 2, cells := 0, slots := 0, locals := 46 })
def fX3_read_L20 (r0 : Nat) (x2 : Int32) (j10 : Int32 → zW → Option (Unit × zW)) : Nat → Int32 → zW → Option (Unit × zW)
  | 0, _, _ => none
  | n + 1, x3, w =>
    if (zI w r0 0) ≤ x3 then
      j10 (x2 + (1 : Int32)) w
    else
    bd (fX5_signAt ((x2 * ((zI w r0 0) + (1 : Int32))) + x3) w) fun v13 w11 =>
    bd (fX7_set (r0 + 1) ((x2 * (5 : Int32)) + x3) (v13 - (48 : Int32)) w11) fun _ w14 =>
    fX3_read_L20 r0 x2 j10 n (x3 + (1 : Int32)) w14
def fX3_read_L10 (r0 : Nat) : Nat → Int32 → zW → Option (Unit × zW)
  | 0, _, _ => none
  | n + 1, x2, w =>
    if (zI w r0 0) ≤ x2 then
      bd (fX3_neutralOne r0 w) fun v8 w6 =>
      lt (zsI w6 r0 1 v8) fun w9 =>
      some ((), w9)
    else
    fX3_read_L20 r0 x2 (fX3_read_L10 r0 n) zFU (0 : Int32) w
def fX3_read (h0 : Nat) (w : zW) : Option (Unit × zW) :=
  bd (fX5_firstRow w) fun v3 w1 =>
  lt (zsI w1 h0 0 v3) fun w4 =>
  fX3_read_L10 h0 zFU (0 : Int32) w4
theorem YX3_read : zYV yX3_read MX3_read 1 := ⟨wk_367, wk_3, ⟨wk_366, ws_24⟩, ⟨by decide, by decide, by decide +kernel⟩, rfl, rfl⟩
set_option maxHeartbeats 4000000 in
set_option maxRecDepth 100000 in
theorem lX3_read_L20 (r0 : Nat) (hr0 : zc 3 r0) (x2 : Int32) (j10 : Int32 → zW → Option (Unit × zW)) (hj10 : ∀ (y2 : Int32) (w : zW), Tz MX3_read (zRet zn) (j10 y2 w) 10 [(0, .ref r0), (1, .ref 64), (2, .int y2)] [] w) : ∀ (n : Nat) (x3 : Int32) (w : zW), Tz MX3_read (zRet zn) (fX3_read_L20 r0 x2 j10 n x3 w) 20 [(0, .ref r0), (1, .ref 64), (2, .int x2), (3, .int x3)] [] w := by
  intro n
  induction n with
  | zero => intro x3 w; exact tz_eq (fX3_read_L20.eq_1 _ _ _ _ _) tz_none
  | succ n ih =>
    intro x3 w
    refine tz_eq (fX3_read_L20.eq_2 _ _ _ _ _ _) ?_
    refine tz_iload_n 3 rfl (zd DX3_read 12 rfl) ?_
    refine tz_aload_n 0 rfl (zd DX3_read 13 rfl) ?_
    refine tz_getI 0 kz3 (hr0) (by decide) rfl wk_35 (zd DX3_read 14 rfl) ?_
    refine tz_icmp_ge 63 (zd DX3_read 15 rfl) rfl (fun q10 => ?_) (fun q10 => ?_)
    · refine tz_iinc 2 (1 : Int32) [(2, .int (x2 + (1 : Int32))), (0, .ref r0), (1, .ref 64), (3, .int x3)] rfl zk_iconst_1 (Nat.le_of_ble_eq_true rfl) rfl (zd DX3_read 38 rfl) ?_
      refine tz_goto 10 (zd DX3_read 39 rfl) rfl ?_
      refine tz_lv (lv2 := [(0, .ref r0), (1, .ref 64), (2, .int (x2 + (1 : Int32)))]) [1, 2, 0] rfl ?_
      exact hj10 (x2 + (1 : Int32)) w
    refine tz_aload_n 0 rfl (zd DX3_read 16 rfl) ?_
    refine tz_getR (r0 + 1) 2 kz3 (hr0) (by decide) (by decide) ((zf3_2 (hr0)).1) wk_41 (zd DX3_read 17 rfl) ?_
    refine tz_iload_n 2 rfl (zd DX3_read 18 rfl) ?_
    refine tz_iconst (5 : Int32) zk_iconst_5 (zd DX3_read 19 rfl) ?_
    refine tz_imul (zd DX3_read 20 rfl) ?_
    refine tz_iload_n 3 rfl (zd DX3_read 21 rfl) ?_
    refine tz_iadd (zd DX3_read 22 rfl) ?_
    refine tz_aload_n 1 rfl (zd DX3_read 23 rfl) ?_
    refine tz_iload_n 2 rfl (zd DX3_read 24 rfl) ?_
    refine tz_aload_n 0 rfl (zd DX3_read 25 rfl) ?_
    refine tz_getI 0 kz3 (hr0) (by decide) rfl wk_35 (zd DX3_read 26 rfl) ?_
    refine tz_iconst (1 : Int32) zk_iconst_1 (zd DX3_read 27 rfl) ?_
    refine tz_iadd (zd DX3_read 28 rfl) ?_
    refine tz_imul (zd DX3_read 29 rfl) ?_
    refine tz_iload_n 3 rfl (zd DX3_read 30 rfl) ?_
    refine tz_iadd (zd DX3_read 31 rfl) ?_
    refine tz_cVN_i kz5 (zs_64) rfl (rest := [.int ((x2 * (5 : Int32)) + x3), .ref (r0 + 1)]) (YX5_signAt) wn_369 (tX5_signAt ((x2 * ((zI w r0 0) + (1 : Int32))) + x3) w) rfl rfl (Nat.le_of_ble_eq_true rfl) ⟨Nat.le_of_ble_eq_true rfl, Nat.le_of_ble_eq_true rfl⟩ (zd DX3_read 32 rfl) (fun v13 w11 e12 => ?_)
    refine tz_bipush (48 : Int32) zk_bipush_48 (zd DX3_read 33 rfl) ?_
    refine tz_isub (zd DX3_read 34 rfl) ?_
    refine tz_cSN_n (rest := []) (YX7_set) wn_373 (tX7_set (r0 + 1) ((zf3_2 (w := w) (hr0)).2.1) ((x2 * (5 : Int32)) + x3) (v13 - (48 : Int32)) w11) rfl rfl (Nat.le_of_ble_eq_true rfl) ⟨Nat.le_of_ble_eq_true rfl, Nat.le_of_ble_eq_true rfl⟩ (zd DX3_read 35 rfl) (fun v16 w14 e15 => ?_)
    refine tz_iinc 3 (1 : Int32) [(3, .int (x3 + (1 : Int32))), (0, .ref r0), (1, .ref 64), (2, .int x2)] rfl zk_iconst_1 (Nat.le_of_ble_eq_true rfl) rfl (zd DX3_read 36 rfl) ?_
    refine tz_goto 20 (zd DX3_read 37 rfl) rfl ?_
    refine tz_lv (lv2 := [(0, .ref r0), (1, .ref 64), (2, .int x2), (3, .int (x3 + (1 : Int32)))]) [1, 2, 3, 0] rfl ?_
    exact ih (x3 + (1 : Int32)) w14
set_option maxHeartbeats 4000000 in
set_option maxRecDepth 100000 in
theorem lX3_read_L10 (r0 : Nat) (hr0 : zc 3 r0) : ∀ (n : Nat) (x2 : Int32) (w : zW), Tz MX3_read (zRet zn) (fX3_read_L10 r0 n x2 w) 10 [(0, .ref r0), (1, .ref 64), (2, .int x2)] [] w := by
  intro n
  induction n with
  | zero => intro x2 w; exact tz_eq (fX3_read_L10.eq_1 _ _ _) tz_none
  | succ n ih =>
    intro x2 w
    refine tz_eq (fX3_read_L10.eq_2 _ _ _ _) ?_
    refine tz_iload_n 2 rfl (zd DX3_read 6 rfl) ?_
    refine tz_aload_n 0 rfl (zd DX3_read 7 rfl) ?_
    refine tz_getI 0 kz3 (hr0) (by decide) rfl wk_35 (zd DX3_read 8 rfl) ?_
    refine tz_icmp_ge 69 (zd DX3_read 9 rfl) rfl (fun q5 => ?_) (fun q5 => ?_)
    · refine tz_aload_n 0 rfl (zd DX3_read 40 rfl) ?_
      refine tz_aload_n 0 rfl (zd DX3_read 41 rfl) ?_
      refine tz_cV_i kz3 (hr0) rfl (rest := [.ref r0]) (YX3_neutralOne) wk_374 (tX3_neutralOne r0 (hr0) w) rfl rfl (Nat.le_of_ble_eq_true rfl) ⟨Nat.le_of_ble_eq_true rfl, Nat.le_of_ble_eq_true rfl⟩ (zd DX3_read 42 rfl) (fun v8 w6 e7 => ?_)
      refine tz_putI 1 kz3 (hr0) (by decide) rfl rfl wk_39 (zd DX3_read 43 rfl) (fun w9 => ?_)
      exact tz_vret rfl (zd DX3_read 44 rfl)
    refine tz_iconst (0 : Int32) zk_iconst_0 (zd DX3_read 10 rfl) ?_
    refine tz_istore_n [(3, .int (0 : Int32)), (0, .ref r0), (1, .ref 64), (2, .int x2)] (Nat.le_of_ble_eq_true rfl) rfl (zd DX3_read 11 rfl) ?_
    refine tz_lv (lv2 := [(0, .ref r0), (1, .ref 64), (2, .int x2), (3, .int (0 : Int32))]) [1, 2, 3, 0] rfl ?_
    exact lX3_read_L20 r0 (hr0) x2 _ ih zFU (0 : Int32) w
set_option maxHeartbeats 4000000 in
set_option maxRecDepth 100000 in
theorem tX3_read (h0 : Nat) (hh0 : zc 3 h0) (w : zW) : Sm yX3_read MX3_read zn [.ref h0, .ref 64] w (fX3_read h0 w) := by
  refine Sm_of (lv0 := [(0, .ref h0), (1, .ref 64)]) (by decide) rfl (fun _ => Nat.le_of_ble_eq_true rfl) rfl ?_
  unfold fX3_read
  refine tz_aload_n 0 rfl (zd DX3_read 0 rfl) ?_
  refine tz_aload_n 1 rfl (zd DX3_read 1 rfl) ?_
  refine tz_cVN_i kz5 (zs_64) rfl (rest := [.ref h0]) (YX5_firstRow) wn_368 (tX5_firstRow w) rfl rfl (Nat.le_of_ble_eq_true rfl) ⟨Nat.le_of_ble_eq_true rfl, Nat.le_of_ble_eq_true rfl⟩ (zd DX3_read 2 rfl) (fun v3 w1 e2 => ?_)
  refine tz_putI 0 kz3 (hh0) (by decide) rfl rfl wk_35 (zd DX3_read 3 rfl) (fun w4 => ?_)
  refine tz_iconst (0 : Int32) zk_iconst_0 (zd DX3_read 4 rfl) ?_
  refine tz_istore_n [(2, .int (0 : Int32)), (0, .ref h0), (1, .ref 64)] (Nat.le_of_ble_eq_true rfl) rfl (zd DX3_read 5 rfl) ?_
  refine tz_lv (lv2 := [(0, .ref h0), (1, .ref 64), (2, .int (0 : Int32))]) [1, 2, 0] rfl ?_
  exact lX3_read_L10 h0 (hh0) zFU (0 : Int32) w4
def QX3_firstNotAlike : List (Nat × Instr × Nat) := [(0, .iconst 0, 1), (1, .istore_n 1, 1), (2, .iload_n 1, 1), (3, .aload_n 0, 1), (4, .getfield 9, 3), (7, .if_icmp .ge 78, 3), (10, .iconst 0, 1), (11, .istore_n 2, 1), (12, .iload_n 2, 1), (13, .aload_n 0, 1), (14, .getfield 9, 3), (17, .if_icmp .ge 62, 3), (20, .iconst 0, 1), (21, .istore_n 3, 1), (22, .iload_n 3, 1), (23, .aload_n 0, 1), (24, .getfield 9, 3), (27, .if_icmp .ge 46, 3), (30, .aload_n 0, 1), (31, .aload_n 0, 1), (32, .iload_n 1, 1), (33, .iload_n 2, 1), (34, .invokevirtual 43, 3), (37, .iload_n 3, 1), (38, .invokevirtual 43, 3), (41, .aload_n 0, 1), (42, .iload_n 1, 1), (43, .aload_n 0, 1), (44, .iload_n 2, 1), (45, .iload_n 3, 1), (46, .invokevirtual 43, 3), (49, .invokevirtual 43, 3), (52, .if_icmp .eq 15, 3), (55, .iload_n 1, 1), (56, .bipush 100, 2), (58, .imul, 1), (59, .iload_n 2, 1), (60, .bipush 10, 2), (62, .imul, 1), (63, .iadd, 1), (64, .iload_n 3, 1), (65, .iadd, 1), (66, .ireturn, 1), (67, .iinc 3 1, 3), (70, .goto (-48), 3), (73, .iinc 2 1, 3), (76, .goto (-64), 3), (79, .iinc 1 1, 3), (82, .goto (-80), 3), (85, .iconst (-1), 1), (86, .ireturn, 1)]
set_option maxRecDepth 100000 in
theorem DX3_firstNotAlike : ∀ q ∈ QX3_firstNotAlike, decode cX3_firstNotAlike q.1 = .ok (q.2.1, q.2.2) := by decide +kernel
abbrev MX3_firstNotAlike : zM := (cX3_firstNotAlike, "EndSums$Table", 4, (some .int), { frames := 1, cells := 0, slots := 0, locals := 23 })
def fX3_firstNotAlike_L22 (r0 : Nat) (x1 : Int32) (x2 : Int32) (j12 : Int32 → zW → Option (Int32 × zW)) : Nat → Int32 → zW → Option (Int32 × zW)
  | 0, _, _ => none
  | n + 1, x3, w =>
    if (zI w r0 0) ≤ x3 then
      j12 (x2 + (1 : Int32)) w
    else
    bd (fX3_entry r0 x1 x2 w) fun v6 w4 =>
    bd (fX3_entry r0 v6 x3 w4) fun v9 w7 =>
    bd (fX3_entry r0 x2 x3 w7) fun v12 w10 =>
    bd (fX3_entry r0 x1 v12 w10) fun v15 w13 =>
    if v9 = v15 then
      fX3_firstNotAlike_L22 r0 x1 x2 j12 n (x3 + (1 : Int32)) w13
    else
    some ((((x1 * (100 : Int32)) + (x2 * (10 : Int32))) + x3), w13)
def fX3_firstNotAlike_L12 (r0 : Nat) (x1 : Int32) (j2 : Int32 → zW → Option (Int32 × zW)) : Nat → Int32 → zW → Option (Int32 × zW)
  | 0, _, _ => none
  | n + 1, x2, w =>
    if (zI w r0 0) ≤ x2 then
      j2 (x1 + (1 : Int32)) w
    else
    fX3_firstNotAlike_L22 r0 x1 x2 (fX3_firstNotAlike_L12 r0 x1 j2 n) zFU (0 : Int32) w
def fX3_firstNotAlike_L2 (r0 : Nat) : Nat → Int32 → zW → Option (Int32 × zW)
  | 0, _, _ => none
  | n + 1, x1, w =>
    if (zI w r0 0) ≤ x1 then
      some ((-1 : Int32), w)
    else
    fX3_firstNotAlike_L12 r0 x1 (fX3_firstNotAlike_L2 r0 n) zFU (0 : Int32) w
def fX3_firstNotAlike (h0 : Nat) (w : zW) : Option (Int32 × zW) :=
  fX3_firstNotAlike_L2 h0 zFU (0 : Int32) w
theorem YX3_firstNotAlike : zYV yX3_firstNotAlike MX3_firstNotAlike 0 := ⟨wk_382, wk_3, ⟨wk_381, ws_27⟩, ⟨by decide, by decide, by decide +kernel⟩, rfl, rfl⟩
set_option maxHeartbeats 4000000 in
set_option maxRecDepth 100000 in
theorem lX3_firstNotAlike_L22 (r0 : Nat) (hr0 : zc 3 r0) (x1 : Int32) (x2 : Int32) (j12 : Int32 → zW → Option (Int32 × zW)) (hj12 : ∀ (y2 : Int32) (w : zW), Tz MX3_firstNotAlike (zRet zi) (j12 y2 w) 12 [(0, .ref r0), (1, .int x1), (2, .int y2)] [] w) : ∀ (n : Nat) (x3 : Int32) (w : zW), Tz MX3_firstNotAlike (zRet zi) (fX3_firstNotAlike_L22 r0 x1 x2 j12 n x3 w) 22 [(0, .ref r0), (1, .int x1), (2, .int x2), (3, .int x3)] [] w := by
  intro n
  induction n with
  | zero => intro x3 w; exact tz_eq (fX3_firstNotAlike_L22.eq_1 _ _ _ _ _ _) tz_none
  | succ n ih =>
    intro x3 w
    refine tz_eq (fX3_firstNotAlike_L22.eq_2 _ _ _ _ _ _ _) ?_
    refine tz_iload_n 3 rfl (zd DX3_firstNotAlike 14 rfl) ?_
    refine tz_aload_n 0 rfl (zd DX3_firstNotAlike 15 rfl) ?_
    refine tz_getI 0 kz3 (hr0) (by decide) rfl wk_35 (zd DX3_firstNotAlike 16 rfl) ?_
    refine tz_icmp_ge 73 (zd DX3_firstNotAlike 17 rfl) rfl (fun q3 => ?_) (fun q3 => ?_)
    · refine tz_iinc 2 (1 : Int32) [(2, .int (x2 + (1 : Int32))), (0, .ref r0), (1, .int x1), (3, .int x3)] rfl zk_iconst_1 (Nat.le_of_ble_eq_true rfl) rfl (zd DX3_firstNotAlike 45 rfl) ?_
      refine tz_goto 12 (zd DX3_firstNotAlike 46 rfl) rfl ?_
      refine tz_lv (lv2 := [(0, .ref r0), (1, .int x1), (2, .int (x2 + (1 : Int32)))]) [1, 2, 0] rfl ?_
      exact hj12 (x2 + (1 : Int32)) w
    refine tz_aload_n 0 rfl (zd DX3_firstNotAlike 18 rfl) ?_
    refine tz_aload_n 0 rfl (zd DX3_firstNotAlike 19 rfl) ?_
    refine tz_iload_n 1 rfl (zd DX3_firstNotAlike 20 rfl) ?_
    refine tz_iload_n 2 rfl (zd DX3_firstNotAlike 21 rfl) ?_
    refine tz_cV_i kz3 (hr0) rfl (rest := [.ref r0]) (YX3_entry) wk_378 (tX3_entry r0 (hr0) x1 x2 w) rfl rfl (Nat.le_of_ble_eq_true rfl) ⟨Nat.le_of_ble_eq_true rfl, Nat.le_of_ble_eq_true rfl⟩ (zd DX3_firstNotAlike 22 rfl) (fun v6 w4 e5 => ?_)
    refine tz_iload_n 3 rfl (zd DX3_firstNotAlike 23 rfl) ?_
    refine tz_cV_i kz3 (hr0) rfl (rest := []) (YX3_entry) wk_378 (tX3_entry r0 (hr0) v6 x3 w4) rfl rfl (Nat.le_of_ble_eq_true rfl) ⟨Nat.le_of_ble_eq_true rfl, Nat.le_of_ble_eq_true rfl⟩ (zd DX3_firstNotAlike 24 rfl) (fun v9 w7 e8 => ?_)
    refine tz_aload_n 0 rfl (zd DX3_firstNotAlike 25 rfl) ?_
    refine tz_iload_n 1 rfl (zd DX3_firstNotAlike 26 rfl) ?_
    refine tz_aload_n 0 rfl (zd DX3_firstNotAlike 27 rfl) ?_
    refine tz_iload_n 2 rfl (zd DX3_firstNotAlike 28 rfl) ?_
    refine tz_iload_n 3 rfl (zd DX3_firstNotAlike 29 rfl) ?_
    refine tz_cV_i kz3 (hr0) rfl (rest := [.int x1, .ref r0, .int v9]) (YX3_entry) wk_378 (tX3_entry r0 (hr0) x2 x3 w7) rfl rfl (Nat.le_of_ble_eq_true rfl) ⟨Nat.le_of_ble_eq_true rfl, Nat.le_of_ble_eq_true rfl⟩ (zd DX3_firstNotAlike 30 rfl) (fun v12 w10 e11 => ?_)
    refine tz_cV_i kz3 (hr0) rfl (rest := [.int v9]) (YX3_entry) wk_378 (tX3_entry r0 (hr0) x1 v12 w10) rfl rfl (Nat.le_of_ble_eq_true rfl) ⟨Nat.le_of_ble_eq_true rfl, Nat.le_of_ble_eq_true rfl⟩ (zd DX3_firstNotAlike 31 rfl) (fun v15 w13 e14 => ?_)
    refine tz_icmp_eq 67 (zd DX3_firstNotAlike 32 rfl) rfl (fun q16 => ?_) (fun q16 => ?_)
    · refine tz_iinc 3 (1 : Int32) [(3, .int (x3 + (1 : Int32))), (0, .ref r0), (1, .int x1), (2, .int x2)] rfl zk_iconst_1 (Nat.le_of_ble_eq_true rfl) rfl (zd DX3_firstNotAlike 43 rfl) ?_
      refine tz_goto 22 (zd DX3_firstNotAlike 44 rfl) rfl ?_
      refine tz_lv (lv2 := [(0, .ref r0), (1, .int x1), (2, .int x2), (3, .int (x3 + (1 : Int32)))]) [1, 2, 3, 0] rfl ?_
      exact ih (x3 + (1 : Int32)) w13
    refine tz_iload_n 1 rfl (zd DX3_firstNotAlike 33 rfl) ?_
    refine tz_bipush (100 : Int32) zk_bipush_100 (zd DX3_firstNotAlike 34 rfl) ?_
    refine tz_imul (zd DX3_firstNotAlike 35 rfl) ?_
    refine tz_iload_n 2 rfl (zd DX3_firstNotAlike 36 rfl) ?_
    refine tz_bipush (10 : Int32) zk_bipush_10 (zd DX3_firstNotAlike 37 rfl) ?_
    refine tz_imul (zd DX3_firstNotAlike 38 rfl) ?_
    refine tz_iadd (zd DX3_firstNotAlike 39 rfl) ?_
    refine tz_iload_n 3 rfl (zd DX3_firstNotAlike 40 rfl) ?_
    refine tz_iadd (zd DX3_firstNotAlike 41 rfl) ?_
    exact tz_iret rfl (zd DX3_firstNotAlike 42 rfl)
set_option maxHeartbeats 4000000 in
set_option maxRecDepth 100000 in
theorem lX3_firstNotAlike_L12 (r0 : Nat) (hr0 : zc 3 r0) (x1 : Int32) (j2 : Int32 → zW → Option (Int32 × zW)) (hj2 : ∀ (y1 : Int32) (w : zW), Tz MX3_firstNotAlike (zRet zi) (j2 y1 w) 2 [(0, .ref r0), (1, .int y1)] [] w) : ∀ (n : Nat) (x2 : Int32) (w : zW), Tz MX3_firstNotAlike (zRet zi) (fX3_firstNotAlike_L12 r0 x1 j2 n x2 w) 12 [(0, .ref r0), (1, .int x1), (2, .int x2)] [] w := by
  intro n
  induction n with
  | zero => intro x2 w; exact tz_eq (fX3_firstNotAlike_L12.eq_1 _ _ _ _ _) tz_none
  | succ n ih =>
    intro x2 w
    refine tz_eq (fX3_firstNotAlike_L12.eq_2 _ _ _ _ _ _) ?_
    refine tz_iload_n 2 rfl (zd DX3_firstNotAlike 8 rfl) ?_
    refine tz_aload_n 0 rfl (zd DX3_firstNotAlike 9 rfl) ?_
    refine tz_getI 0 kz3 (hr0) (by decide) rfl wk_35 (zd DX3_firstNotAlike 10 rfl) ?_
    refine tz_icmp_ge 79 (zd DX3_firstNotAlike 11 rfl) rfl (fun q2 => ?_) (fun q2 => ?_)
    · refine tz_iinc 1 (1 : Int32) [(1, .int (x1 + (1 : Int32))), (0, .ref r0), (2, .int x2)] rfl zk_iconst_1 (Nat.le_of_ble_eq_true rfl) rfl (zd DX3_firstNotAlike 47 rfl) ?_
      refine tz_goto 2 (zd DX3_firstNotAlike 48 rfl) rfl ?_
      refine tz_lv (lv2 := [(0, .ref r0), (1, .int (x1 + (1 : Int32)))]) [1, 0] rfl ?_
      exact hj2 (x1 + (1 : Int32)) w
    refine tz_iconst (0 : Int32) zk_iconst_0 (zd DX3_firstNotAlike 12 rfl) ?_
    refine tz_istore_n [(3, .int (0 : Int32)), (0, .ref r0), (1, .int x1), (2, .int x2)] (Nat.le_of_ble_eq_true rfl) rfl (zd DX3_firstNotAlike 13 rfl) ?_
    refine tz_lv (lv2 := [(0, .ref r0), (1, .int x1), (2, .int x2), (3, .int (0 : Int32))]) [1, 2, 3, 0] rfl ?_
    exact lX3_firstNotAlike_L22 r0 (hr0) x1 x2 _ ih zFU (0 : Int32) w
set_option maxHeartbeats 4000000 in
set_option maxRecDepth 100000 in
theorem lX3_firstNotAlike_L2 (r0 : Nat) (hr0 : zc 3 r0) : ∀ (n : Nat) (x1 : Int32) (w : zW), Tz MX3_firstNotAlike (zRet zi) (fX3_firstNotAlike_L2 r0 n x1 w) 2 [(0, .ref r0), (1, .int x1)] [] w := by
  intro n
  induction n with
  | zero => intro x1 w; exact tz_eq (fX3_firstNotAlike_L2.eq_1 _ _ _) tz_none
  | succ n ih =>
    intro x1 w
    refine tz_eq (fX3_firstNotAlike_L2.eq_2 _ _ _ _) ?_
    refine tz_iload_n 1 rfl (zd DX3_firstNotAlike 2 rfl) ?_
    refine tz_aload_n 0 rfl (zd DX3_firstNotAlike 3 rfl) ?_
    refine tz_getI 0 kz3 (hr0) (by decide) rfl wk_35 (zd DX3_firstNotAlike 4 rfl) ?_
    refine tz_icmp_ge 85 (zd DX3_firstNotAlike 5 rfl) rfl (fun q1 => ?_) (fun q1 => ?_)
    · refine tz_iconst (-1 : Int32) zk_iconst_m1 (zd DX3_firstNotAlike 49 rfl) ?_
      exact tz_iret rfl (zd DX3_firstNotAlike 50 rfl)
    refine tz_iconst (0 : Int32) zk_iconst_0 (zd DX3_firstNotAlike 6 rfl) ?_
    refine tz_istore_n [(2, .int (0 : Int32)), (0, .ref r0), (1, .int x1)] (Nat.le_of_ble_eq_true rfl) rfl (zd DX3_firstNotAlike 7 rfl) ?_
    refine tz_lv (lv2 := [(0, .ref r0), (1, .int x1), (2, .int (0 : Int32))]) [1, 2, 0] rfl ?_
    exact lX3_firstNotAlike_L12 r0 (hr0) x1 _ ih zFU (0 : Int32) w
set_option maxHeartbeats 4000000 in
set_option maxRecDepth 100000 in
theorem tX3_firstNotAlike (h0 : Nat) (hh0 : zc 3 h0) (w : zW) : Sm yX3_firstNotAlike MX3_firstNotAlike zi [.ref h0] w (fX3_firstNotAlike h0 w) := by
  refine Sm_of (lv0 := [(0, .ref h0)]) (by decide) rfl (fun _ => Nat.le_of_ble_eq_true rfl) rfl ?_
  unfold fX3_firstNotAlike
  refine tz_iconst (0 : Int32) zk_iconst_0 (zd DX3_firstNotAlike 0 rfl) ?_
  refine tz_istore_n [(1, .int (0 : Int32)), (0, .ref h0)] (Nat.le_of_ble_eq_true rfl) rfl (zd DX3_firstNotAlike 1 rfl) ?_
  refine tz_lv (lv2 := [(0, .ref h0), (1, .int (0 : Int32))]) [1, 0] rfl ?_
  exact lX3_firstNotAlike_L2 h0 (hh0) zFU (0 : Int32) w
def QX4_cost : List (Nat × Instr × Nat) := [(0, .iload_n 2, 1), (1, .ifCond .ne 7, 3), (4, .iload_n 0, 1), (5, .goto 6, 3), (8, .iload_n 1, 1), (9, .iload_n 0, 1), (10, .isub, 1), (11, .istore_n 3, 1), (12, .iload_n 3, 1), (13, .ifCond .ne 7, 3), (16, .iload_n 1, 1), (17, .goto 4, 3), (20, .iconst 0, 1), (21, .ireturn, 1)]
set_option maxRecDepth 100000 in
theorem DX4_cost : ∀ q ∈ QX4_cost, decode cX4_cost q.1 = .ok (q.2.1, q.2.2) := by decide +kernel
abbrev MX4_cost : zM := (cX4_cost, "EndSums$Takings", 4, (some .int), { frames := 0, cells := 0, slots := 0, locals := 0 })
def fX4_cost (a0 : Int32) (a1 : Int32) (a2 : Int32) (w : zW) : Option (Int32 × zW) :=
  lt (if ¬ a2 = (0 : Int32) then (a1 - a0) else a0) fun v2 =>
  if ¬ v2 = (0 : Int32) then
    some ((0 : Int32), w)
  else
  some (a1, w)
theorem YX4_cost : zYS yX4_cost MX4_cost 3 := ⟨wk_668, wk_8, wk_667, ⟨by decide, by decide, by decide +kernel⟩, rfl, rfl⟩
set_option maxHeartbeats 4000000 in
set_option maxRecDepth 100000 in
theorem tX4_cost (a0 : Int32) (a1 : Int32) (a2 : Int32) (w : zW) : Sm yX4_cost MX4_cost zi [.int a0, .int a1, .int a2] w (fX4_cost a0 a1 a2 w) := by
  refine Sm_of (lv0 := [(0, .int a0), (1, .int a1), (2, .int a2)]) (by decide) rfl (fun _ => Nat.le_of_ble_eq_true rfl) rfl ?_
  unfold fX4_cost
  refine tz_iload_n 2 rfl (zd DX4_cost 0 rfl) ?_
  refine tz_dia (P := fun F => ∀ v : Int32, Tz MX4_cost (zRet zi) (F v) 11 [(0, .int a0), (1, .int a1), (2, .int a2)] (.int v :: []) w) ?_ (fun _ hJ11 => ?_)
  · intro v2
    refine tz_istore_n [(3, .int v2), (0, .int a0), (1, .int a1), (2, .int a2)] (Nat.le_of_ble_eq_true rfl) rfl (zd DX4_cost 7 rfl) ?_
    refine tz_iload_n 0 rfl (zd DX4_cost 8 rfl) ?_
    refine tz_if_ne 20 (zd DX4_cost 9 rfl) rfl (fun q3 => ?_) (fun q3 => ?_)
    · refine tz_iconst (0 : Int32) zk_iconst_0 (zd DX4_cost 12 rfl) ?_
      exact tz_iret rfl (zd DX4_cost 13 rfl)
    refine tz_iload_n 2 rfl (zd DX4_cost 10 rfl) ?_
    refine tz_goto 21 (zd DX4_cost 11 rfl) rfl ?_
    exact tz_iret rfl (zd DX4_cost 13 rfl)
  refine tz_ite ?_
  refine tz_if_ne 8 (zd DX4_cost 1 rfl) rfl (fun q1 => ?_) (fun q1 => ?_)
  · refine tz_iload_n 1 rfl (zd DX4_cost 4 rfl) ?_
    refine tz_iload_n 0 rfl (zd DX4_cost 5 rfl) ?_
    refine tz_isub (zd DX4_cost 6 rfl) ?_
    exact hJ11 (a1 - a0)
  refine tz_iload_n 0 rfl (zd DX4_cost 2 rfl) ?_
  refine tz_goto 11 (zd DX4_cost 3 rfl) rfl ?_
  exact hJ11 a0
def QX4_frontBehind : List (Nat × Instr × Nat) := [(0, .iload_n 2, 1), (1, .ifCond .ne 7, 3), (4, .iload_n 0, 1), (5, .goto 6, 3), (8, .iload_n 1, 1), (9, .iload_n 0, 1), (10, .isub, 1), (11, .istore_n 3, 1), (12, .iload_n 3, 1), (13, .ifCond .ne 11, 3), (16, .iload_n 1, 1), (17, .iconst 1, 1), (18, .iadd, 1), (19, .iconst 2, 1), (20, .idiv, 1), (21, .goto 4, 3), (24, .iload_n 3, 1), (25, .iconst 1, 1), (26, .isub, 1), (27, .istore 4, 2), (29, .iload_n 2, 1), (30, .ifCond .ne 8, 3), (33, .iload 4, 2), (35, .goto 9, 3), (38, .iload_n 1, 1), (39, .iconst 1, 1), (40, .isub, 1), (41, .iload 4, 2), (43, .isub, 1), (44, .ireturn, 1)]
set_option maxRecDepth 100000 in
theorem DX4_frontBehind : ∀ q ∈ QX4_frontBehind, decode cX4_frontBehind q.1 = .ok (q.2.1, q.2.2) := by decide +kernel
abbrev MX4_frontBehind : zM := (cX4_frontBehind, "EndSums$Takings", 5, (some .int), { frames := 0, cells := 0, slots := 0, locals := 0 })
def fX4_frontBehind (a0 : Int32) (a1 : Int32) (a2 : Int32) (w : zW) : Option (Int32 × zW) :=
  lt (if ¬ a2 = (0 : Int32) then (a1 - a0) else a0) fun v2 =>
  lt (fun (s_25 : Int32) (w4 : zW) =>
    lt (s_25 - (1 : Int32)) fun v5 =>
    if ¬ a2 = (0 : Int32) then
      some (((a1 - (1 : Int32)) - v5), w4)
    else
    some (v5, w4)) fun j4 =>
  if ¬ v2 = (0 : Int32) then
    j4 v2 w
  else
  j4 ((a1 + (1 : Int32)) / (2 : Int32)) w
theorem YX4_frontBehind : zYS yX4_frontBehind MX4_frontBehind 3 := ⟨wk_671, wk_8, wk_670, ⟨by decide, by decide, by decide +kernel⟩, rfl, rfl⟩
set_option maxHeartbeats 4000000 in
set_option maxRecDepth 100000 in
theorem tX4_frontBehind (a0 : Int32) (a1 : Int32) (a2 : Int32) (w : zW) : Sm yX4_frontBehind MX4_frontBehind zi [.int a0, .int a1, .int a2] w (fX4_frontBehind a0 a1 a2 w) := by
  refine Sm_of (lv0 := [(0, .int a0), (1, .int a1), (2, .int a2)]) (by decide) rfl (fun _ => Nat.le_of_ble_eq_true rfl) rfl ?_
  unfold fX4_frontBehind
  refine tz_iload_n 2 rfl (zd DX4_frontBehind 0 rfl) ?_
  refine tz_dia (P := fun F => ∀ v : Int32, Tz MX4_frontBehind (zRet zi) (F v) 11 [(0, .int a0), (1, .int a1), (2, .int a2)] (.int v :: []) w) ?_ (fun _ hJ11 => ?_)
  · intro v2
    refine tz_istore_n [(3, .int v2), (0, .int a0), (1, .int a1), (2, .int a2)] (Nat.le_of_ble_eq_true rfl) rfl (zd DX4_frontBehind 7 rfl) ?_
    refine tz_iload_n 0 rfl (zd DX4_frontBehind 8 rfl) ?_
    refine tz_jp (P := fun j => ∀ (s_25 : Int32) (w4 : zW), Tz MX4_frontBehind (zRet zi) (j s_25 w4) 25 [(1, .int a1), (2, .int a2)] [.int s_25] w4) ?_ (fun j4 hj4 => ?_)
    · intro s_25 w4
      refine tz_iconst (1 : Int32) zk_iconst_1 (zd DX4_frontBehind 17 rfl) ?_
      refine tz_isub (zd DX4_frontBehind 18 rfl) ?_
      refine tz_lti (fun v5 => ?_)
      refine tz_istore [(4, .int v5), (1, .int a1), (2, .int a2)] (Nat.le_of_ble_eq_true rfl) rfl (zd DX4_frontBehind 19 rfl) ?_
      refine tz_iload_n 2 rfl (zd DX4_frontBehind 20 rfl) ?_
      refine tz_if_ne 38 (zd DX4_frontBehind 21 rfl) rfl (fun q6 => ?_) (fun q6 => ?_)
      · refine tz_iload_n 1 rfl (zd DX4_frontBehind 24 rfl) ?_
        refine tz_iconst (1 : Int32) zk_iconst_1 (zd DX4_frontBehind 25 rfl) ?_
        refine tz_isub (zd DX4_frontBehind 26 rfl) ?_
        refine tz_iload 0 rfl (zd DX4_frontBehind 27 rfl) ?_
        refine tz_isub (zd DX4_frontBehind 28 rfl) ?_
        exact tz_iret rfl (zd DX4_frontBehind 29 rfl)
      refine tz_iload 0 rfl (zd DX4_frontBehind 22 rfl) ?_
      refine tz_goto 44 (zd DX4_frontBehind 23 rfl) rfl ?_
      exact tz_iret rfl (zd DX4_frontBehind 29 rfl)
    refine tz_if_ne 24 (zd DX4_frontBehind 9 rfl) rfl (fun q7 => ?_) (fun q7 => ?_)
    · refine tz_iload_n 0 rfl (zd DX4_frontBehind 16 rfl) ?_
      refine tz_lv (lv2 := [(1, .int a1), (2, .int a2)]) [2, 3] rfl ?_
      exact hj4 v2 w
    refine tz_iload_n 2 rfl (zd DX4_frontBehind 10 rfl) ?_
    refine tz_iconst (1 : Int32) zk_iconst_1 (zd DX4_frontBehind 11 rfl) ?_
    refine tz_iadd (zd DX4_frontBehind 12 rfl) ?_
    refine tz_iconst (2 : Int32) zk_iconst_2 (zd DX4_frontBehind 13 rfl) ?_
    refine tz_idiv (by decide) (zd DX4_frontBehind 14 rfl) ?_
    refine tz_goto 25 (zd DX4_frontBehind 15 rfl) rfl ?_
    refine tz_lv (lv2 := [(1, .int a1), (2, .int a2)]) [2, 3] rfl ?_
    exact hj4 ((a1 + (1 : Int32)) / (2 : Int32)) w
  refine tz_ite ?_
  refine tz_if_ne 8 (zd DX4_frontBehind 1 rfl) rfl (fun q1 => ?_) (fun q1 => ?_)
  · refine tz_iload_n 1 rfl (zd DX4_frontBehind 4 rfl) ?_
    refine tz_iload_n 0 rfl (zd DX4_frontBehind 5 rfl) ?_
    refine tz_isub (zd DX4_frontBehind 6 rfl) ?_
    exact hJ11 (a1 - a0)
  refine tz_iload_n 0 rfl (zd DX4_frontBehind 2 rfl) ?_
  refine tz_goto 11 (zd DX4_frontBehind 3 rfl) rfl ?_
  exact hJ11 a0
def QX4_drain : List (Nat × Instr × Nat) := [(0, .iconst 0, 1), (1, .istore_n 2, 1), (2, .iload_n 0, 1), (3, .istore_n 3, 1), (4, .iload_n 0, 1), (5, .iload_n 1, 1), (6, .iadd, 1), (7, .istore 4, 2), (9, .iload 4, 2), (11, .ifCond .le 27, 3), (14, .iload_n 2, 1), (15, .iload_n 3, 1), (16, .iload 4, 2), (18, .iconst 0, 1), (19, .invokestatic 24, 3), (22, .iadd, 1), (23, .istore_n 2, 1), (24, .iload_n 3, 1), (25, .iload 4, 2), (27, .iconst 0, 1), (28, .invokestatic 28, 3), (31, .istore_n 3, 1), (32, .iinc 4 (-1), 3), (35, .goto (-26), 3), (38, .iload_n 2, 1), (39, .ireturn, 1)]
set_option maxRecDepth 100000 in
theorem DX4_drain : ∀ q ∈ QX4_drain, decode cX4_drain q.1 = .ok (q.2.1, q.2.2) := by decide +kernel
abbrev MX4_drain : zM := (cX4_drain, "EndSums$Takings", 5, (some .int), { frames := 1, cells := 0, slots := 0, locals := 24 })
def fX4_drain_L9  : Nat → Int32 → Int32 → Int32 → zW → Option (Int32 × zW)
  | 0, _, _, _, _ => none
  | n + 1, x2, x3, x4, w =>
    if x4 ≤ (0 : Int32) then
      some (x2, w)
    else
    bd (fX4_cost x3 x4 (0 : Int32) w) fun v5 w3 =>
    lt (x2 + v5) fun v6 =>
    bd (fX4_frontBehind x3 x4 (0 : Int32) w3) fun v9 w7 =>
    fX4_drain_L9 n v6 v9 (x4 + (-1 : Int32)) w7
def fX4_drain (a0 : Int32) (a1 : Int32) (w : zW) : Option (Int32 × zW) :=
  lt (a0 + a1) fun v1 =>
  fX4_drain_L9 zFU (0 : Int32) a0 v1 w
theorem YX4_drain : zYS yX4_drain MX4_drain 2 := ⟨wk_665, wk_8, wk_664, ⟨by decide, by decide, by decide +kernel⟩, rfl, rfl⟩
set_option maxHeartbeats 4000000 in
set_option maxRecDepth 100000 in
theorem lX4_drain_L9  : ∀ (n : Nat) (x2 : Int32) (x3 : Int32) (x4 : Int32) (w : zW), Tz MX4_drain (zRet zi) (fX4_drain_L9 n x2 x3 x4 w) 9 [(2, .int x2), (3, .int x3), (4, .int x4)] [] w := by
  intro n
  induction n with
  | zero => intro x2 x3 x4 w; exact tz_eq (fX4_drain_L9.eq_1 _ _ _ _) tz_none
  | succ n ih =>
    intro x2 x3 x4 w
    refine tz_eq (fX4_drain_L9.eq_2 _ _ _ _ _) ?_
    refine tz_iload 2 rfl (zd DX4_drain 8 rfl) ?_
    refine tz_if_le 38 (zd DX4_drain 9 rfl) rfl (fun q2 => ?_) (fun q2 => ?_)
    · refine tz_iload_n 0 rfl (zd DX4_drain 24 rfl) ?_
      exact tz_iret rfl (zd DX4_drain 25 rfl)
    refine tz_iload_n 0 rfl (zd DX4_drain 10 rfl) ?_
    refine tz_iload_n 1 rfl (zd DX4_drain 11 rfl) ?_
    refine tz_iload 2 rfl (zd DX4_drain 12 rfl) ?_
    refine tz_iconst (0 : Int32) zk_iconst_0 (zd DX4_drain 13 rfl) ?_
    refine tz_cS_i (rest := [.int x2]) (YX4_cost) wk_666 (tX4_cost x3 x4 (0 : Int32) w) rfl rfl (Nat.le_of_ble_eq_true rfl) ⟨Nat.le_of_ble_eq_true rfl, Nat.le_of_ble_eq_true rfl⟩ (zd DX4_drain 14 rfl) (fun v5 w3 e4 => ?_)
    refine tz_iadd (zd DX4_drain 15 rfl) ?_
    refine tz_lti (fun v6 => ?_)
    refine tz_istore_n [(2, .int v6), (3, .int x3), (4, .int x4)] (Nat.le_of_ble_eq_true rfl) rfl (zd DX4_drain 16 rfl) ?_
    refine tz_iload_n 1 rfl (zd DX4_drain 17 rfl) ?_
    refine tz_iload 2 rfl (zd DX4_drain 18 rfl) ?_
    refine tz_iconst (0 : Int32) zk_iconst_0 (zd DX4_drain 19 rfl) ?_
    refine tz_cS_i (rest := []) (YX4_frontBehind) wk_669 (tX4_frontBehind x3 x4 (0 : Int32) w3) rfl rfl (Nat.le_of_ble_eq_true rfl) ⟨Nat.le_of_ble_eq_true rfl, Nat.le_of_ble_eq_true rfl⟩ (zd DX4_drain 20 rfl) (fun v9 w7 e8 => ?_)
    refine tz_istore_n [(3, .int v9), (2, .int v6), (4, .int x4)] (Nat.le_of_ble_eq_true rfl) rfl (zd DX4_drain 21 rfl) ?_
    refine tz_iinc 2 (-1 : Int32) [(4, .int (x4 + (-1 : Int32))), (3, .int v9), (2, .int v6)] rfl zk_iconst_m1 (Nat.le_of_ble_eq_true rfl) rfl (zd DX4_drain 22 rfl) ?_
    refine tz_goto 9 (zd DX4_drain 23 rfl) rfl ?_
    refine tz_lv (lv2 := [(2, .int v6), (3, .int v9), (4, .int (x4 + (-1 : Int32)))]) [2, 1, 0] rfl ?_
    exact ih v6 v9 (x4 + (-1 : Int32)) w7
set_option maxHeartbeats 4000000 in
set_option maxRecDepth 100000 in
theorem tX4_drain (a0 : Int32) (a1 : Int32) (w : zW) : Sm yX4_drain MX4_drain zi [.int a0, .int a1] w (fX4_drain a0 a1 w) := by
  refine Sm_of (lv0 := [(0, .int a0), (1, .int a1)]) (by decide) rfl (fun _ => Nat.le_of_ble_eq_true rfl) rfl ?_
  unfold fX4_drain
  refine tz_iconst (0 : Int32) zk_iconst_0 (zd DX4_drain 0 rfl) ?_
  refine tz_istore_n [(2, .int (0 : Int32)), (0, .int a0), (1, .int a1)] (Nat.le_of_ble_eq_true rfl) rfl (zd DX4_drain 1 rfl) ?_
  refine tz_iload_n 1 rfl (zd DX4_drain 2 rfl) ?_
  refine tz_istore_n [(3, .int a0), (2, .int (0 : Int32)), (0, .int a0), (1, .int a1)] (Nat.le_of_ble_eq_true rfl) rfl (zd DX4_drain 3 rfl) ?_
  refine tz_iload_n 2 rfl (zd DX4_drain 4 rfl) ?_
  refine tz_iload_n 3 rfl (zd DX4_drain 5 rfl) ?_
  refine tz_iadd (zd DX4_drain 6 rfl) ?_
  refine tz_lti (fun v1 => ?_)
  refine tz_istore [(4, .int v1), (3, .int a0), (2, .int (0 : Int32)), (0, .int a0), (1, .int a1)] (Nat.le_of_ble_eq_true rfl) rfl (zd DX4_drain 7 rfl) ?_
  refine tz_lv (lv2 := [(2, .int (0 : Int32)), (3, .int a0), (4, .int v1)]) [2, 1, 0] rfl ?_
  exact lX4_drain_L9 zFU (0 : Int32) a0 v1 w
def QX4_forget : List (Nat × Instr × Nat) := [(0, .iconst 0, 1), (1, .istore_n 1, 1), (2, .iload_n 1, 1), (3, .aload_n 0, 1), (4, .arraylength, 1), (5, .if_icmp .ge 13, 3), (8, .aload_n 0, 1), (9, .iload_n 1, 1), (10, .iconst (-1), 1), (11, .iastore, 1), (12, .iinc 1 1, 3), (15, .goto (-13), 3), (18, .return_, 1)]
set_option maxRecDepth 100000 in
theorem DX4_forget : ∀ q ∈ QX4_forget, decode cX4_forget q.1 = .ok (q.2.1, q.2.2) := by decide +kernel
abbrev MX4_forget : zM := (cX4_forget, "EndSums$Takings", 2, none, { frames := 0, cells := 0, slots := 0, locals := 0 })
def fX4_forget_L2 (r0 : Nat) : Nat → Int32 → zW → Option (Unit × zW)
  | 0, _, _ => none
  | n + 1, x1, w =>
    if (nI (zlen r0)) ≤ x1 then
      some ((), w)
    else
    zg (zin x1 (zlen r0)) <| lt (zsI w r0 x1.toNatClampNeg (-1 : Int32)) fun w2 =>
    fX4_forget_L2 r0 n (x1 + (1 : Int32)) w2
def fX4_forget (r0 : Nat) (w : zW) : Option (Unit × zW) :=
  fX4_forget_L2 r0 zFU (0 : Int32) w
theorem YX4_forget : zYS yX4_forget MX4_forget 1 := ⟨wk_739, wk_8, wk_738, ⟨by decide, by decide, by decide +kernel⟩, rfl, rfl⟩
set_option maxHeartbeats 4000000 in
set_option maxRecDepth 100000 in
theorem lX4_forget_L2 (r0 : Nat) (hr0 : za 0 r0) : ∀ (n : Nat) (x1 : Int32) (w : zW), Tz MX4_forget (zRet zn) (fX4_forget_L2 r0 n x1 w) 2 [(0, .ref r0), (1, .int x1)] [] w := by
  intro n
  induction n with
  | zero => intro x1 w; exact tz_eq (fX4_forget_L2.eq_1 _ _ _) tz_none
  | succ n ih =>
    intro x1 w
    refine tz_eq (fX4_forget_L2.eq_2 _ _ _ _) ?_
    refine tz_iload_n 1 rfl (zd DX4_forget 2 rfl) ?_
    refine tz_aload_n 0 rfl (zd DX4_forget 3 rfl) ?_
    refine tz_alen0 (hr0) (rfl) (zd DX4_forget 4 rfl) ?_
    refine tz_icmp_ge 18 (zd DX4_forget 5 rfl) rfl (fun q1 => ?_) (fun q1 => ?_)
    · exact tz_vret rfl (zd DX4_forget 12 rfl)
    refine tz_aload_n 0 rfl (zd DX4_forget 6 rfl) ?_
    refine tz_iload_n 1 rfl (zd DX4_forget 7 rfl) ?_
    refine tz_iconst (-1 : Int32) zk_iconst_m1 (zd DX4_forget 8 rfl) ?_
    refine tz_iast (hr0) (rfl) (zd DX4_forget 9 rfl) (fun w2 => ?_)
    refine tz_iinc 1 (1 : Int32) [(1, .int (x1 + (1 : Int32))), (0, .ref r0)] rfl zk_iconst_1 (Nat.le_of_ble_eq_true rfl) rfl (zd DX4_forget 10 rfl) ?_
    refine tz_goto 2 (zd DX4_forget 11 rfl) rfl ?_
    refine tz_lv (lv2 := [(0, .ref r0), (1, .int (x1 + (1 : Int32)))]) [1, 0] rfl ?_
    exact ih (x1 + (1 : Int32)) w2
set_option maxHeartbeats 4000000 in
set_option maxRecDepth 100000 in
theorem tX4_forget (r0 : Nat) (hr0 : za 0 r0) (w : zW) : Sm yX4_forget MX4_forget zn [.ref r0] w (fX4_forget r0 w) := by
  refine Sm_of (lv0 := [(0, .ref r0)]) (by decide) rfl (fun _ => Nat.le_of_ble_eq_true rfl) rfl ?_
  unfold fX4_forget
  refine tz_iconst (0 : Int32) zk_iconst_0 (zd DX4_forget 0 rfl) ?_
  refine tz_istore_n [(1, .int (0 : Int32)), (0, .ref r0)] (Nat.le_of_ble_eq_true rfl) rfl (zd DX4_forget 1 rfl) ?_
  refine tz_lv (lv2 := [(0, .ref r0), (1, .int (0 : Int32))]) [1, 0] rfl ?_
  exact lX4_forget_L2 r0 (hr0) zFU (0 : Int32) w
def QX4_offer : List (Nat × Instr × Nat) := [(0, .iload_n 1, 1), (1, .iload_n 2, 1), (2, .iload 4, 2), (4, .invokestatic 28, 3), (7, .istore 5, 2), (9, .aload_n 0, 1), (10, .getfield 9, 3), (13, .iload_n 1, 1), (14, .invokestatic 39, 3), (17, .iload_n 1, 1), (18, .iload_n 2, 1), (19, .iload 4, 2), (21, .invokestatic 24, 3), (24, .iadd, 1), (25, .istore 6, 2), (27, .aload_n 0, 1), (28, .getfield 15, 3), (31, .iload_n 1, 1), (32, .invokestatic 39, 3), (35, .iload 4, 2), (37, .iload_n 3, 1), (38, .ishl, 1), (39, .ior, 1), (40, .istore 7, 2), (42, .iload 6, 2), (44, .aload_n 0, 1), (45, .getfield 18, 3), (48, .iload 5, 2), (50, .invokestatic 39, 3), (53, .if_icmp .gt 31, 3), (56, .iload 6, 2), (58, .aload_n 0, 1), (59, .getfield 18, 3), (62, .iload 5, 2), (64, .invokestatic 39, 3), (67, .if_icmp .ne 39, 3), (70, .iload 7, 2), (72, .aload_n 0, 1), (73, .getfield 21, 3), (76, .iload 5, 2), (78, .invokestatic 39, 3), (81, .if_icmp .ge 25, 3), (84, .aload_n 0, 1), (85, .getfield 18, 3), (88, .iload 5, 2), (90, .iload 6, 2), (92, .invokestatic 35, 3), (95, .aload_n 0, 1), (96, .getfield 21, 3), (99, .iload 5, 2), (101, .iload 7, 2), (103, .invokestatic 35, 3), (106, .return_, 1)]
set_option maxRecDepth 100000 in
theorem DX4_offer : ∀ q ∈ QX4_offer, decode cX4_offer q.1 = .ok (q.2.1, q.2.2) := by decide +kernel
abbrev MX4_offer : zM := (cX4_offer, "EndSums$Takings", 8, none, { frames := 1, cells := 0, slots := 0, locals := 24 })
def fX4_offer (a1 : Int32) (a2 : Int32) (a3 : Int32) (a4 : Int32) (w : zW) : Option (Unit × zW) :=
  bd (fX4_frontBehind a1 a2 a4 w) fun v3 w1 =>
  bd (fX7_at (zR w1 0) a1 w1) fun v6 w4 =>
  bd (fX4_cost a1 a2 a4 w4) fun v9 w7 =>
  lt (v6 + v9) fun v10 =>
  bd (fX7_at (zR w7 1) a1 w7) fun v13 w11 =>
  lt (v13 ||| (a4 <<< (a3 &&& 31))) fun v14 =>
  bd (fX7_at (zR w11 2) v3 w11) fun v17 w15 =>
  lt (fun (w18 : zW) =>
    bd (fX7_set (zR w18 2) v3 v10 w18) fun _ w19 =>
    bd (fX7_set (zR w19 3) v3 v14 w19) fun _ w22 =>
    some ((), w22)) fun j18 =>
  if v17 < v10 then
    j18 w15
  else
  bd (fX7_at (zR w15 2) v3 w15) fun v28 w26 =>
  if ¬ v10 = v28 then
    some ((), w26)
  else
  bd (fX7_at (zR w26 3) v3 w26) fun v32 w30 =>
  if v32 ≤ v14 then
    some ((), w30)
  else
  j18 w30
theorem YX4_offer : zYV yX4_offer MX4_offer 4 := ⟨wk_745, wk_8, ⟨wk_744, ws_72⟩, ⟨by decide, by decide, by decide +kernel⟩, rfl, rfl⟩
set_option maxHeartbeats 4000000 in
set_option maxRecDepth 100000 in
theorem tX4_offer (a1 : Int32) (a2 : Int32) (a3 : Int32) (a4 : Int32) (w : zW) : Sm yX4_offer MX4_offer zn [.ref 66, .int a1, .int a2, .int a3, .int a4] w (fX4_offer a1 a2 a3 a4 w) := by
  refine Sm_of (lv0 := [(0, .ref 66), (1, .int a1), (2, .int a2), (3, .int a3), (4, .int a4)]) (by decide) rfl (fun _ => Nat.le_of_ble_eq_true rfl) rfl ?_
  unfold fX4_offer
  refine tz_iload_n 1 rfl (zd DX4_offer 0 rfl) ?_
  refine tz_iload_n 2 rfl (zd DX4_offer 1 rfl) ?_
  refine tz_iload 4 rfl (zd DX4_offer 2 rfl) ?_
  refine tz_cS_i (rest := []) (YX4_frontBehind) wk_669 (tX4_frontBehind a1 a2 a4 w) rfl rfl (Nat.le_of_ble_eq_true rfl) ⟨Nat.le_of_ble_eq_true rfl, Nat.le_of_ble_eq_true rfl⟩ (zd DX4_offer 3 rfl) (fun v3 w1 e2 => ?_)
  refine tz_istore [(5, .int v3), (0, .ref 66), (1, .int a1), (2, .int a2), (3, .int a3), (4, .int a4)] (Nat.le_of_ble_eq_true rfl) rfl (zd DX4_offer 4 rfl) ?_
  refine tz_aload_n 1 rfl (zd DX4_offer 5 rfl) ?_
  refine tz_getR (zR w1 0) 0 kz4 (zs_66) (by decide) (by decide) rfl wk_163 (zd DX4_offer 6 rfl) ?_
  refine tz_iload_n 2 rfl (zd DX4_offer 7 rfl) ?_
  refine tz_cSN_i (rest := []) (YX7_at) wn_741 (tX7_at (zR w1 0) ((zR_a w1 0).1) a1 w1) rfl rfl (Nat.le_of_ble_eq_true rfl) ⟨Nat.le_of_ble_eq_true rfl, Nat.le_of_ble_eq_true rfl⟩ (zd DX4_offer 8 rfl) (fun v6 w4 e5 => ?_)
  refine tz_iload_n 2 rfl (zd DX4_offer 9 rfl) ?_
  refine tz_iload_n 3 rfl (zd DX4_offer 10 rfl) ?_
  refine tz_iload 5 rfl (zd DX4_offer 11 rfl) ?_
  refine tz_cS_i (rest := [.int v6]) (YX4_cost) wk_666 (tX4_cost a1 a2 a4 w4) rfl rfl (Nat.le_of_ble_eq_true rfl) ⟨Nat.le_of_ble_eq_true rfl, Nat.le_of_ble_eq_true rfl⟩ (zd DX4_offer 12 rfl) (fun v9 w7 e8 => ?_)
  refine tz_iadd (zd DX4_offer 13 rfl) ?_
  refine tz_lti (fun v10 => ?_)
  refine tz_istore [(6, .int v10), (5, .int v3), (0, .ref 66), (1, .int a1), (2, .int a2), (3, .int a3), (4, .int a4)] (Nat.le_of_ble_eq_true rfl) rfl (zd DX4_offer 14 rfl) ?_
  refine tz_aload_n 2 rfl (zd DX4_offer 15 rfl) ?_
  refine tz_getR (zR w7 1) 1 kz4 (zs_66) (by decide) (by decide) rfl wk_164 (zd DX4_offer 16 rfl) ?_
  refine tz_iload_n 3 rfl (zd DX4_offer 17 rfl) ?_
  refine tz_cSN_i (rest := []) (YX7_at) wn_741 (tX7_at (zR w7 1) ((zR_a w7 1).1) a1 w7) rfl rfl (Nat.le_of_ble_eq_true rfl) ⟨Nat.le_of_ble_eq_true rfl, Nat.le_of_ble_eq_true rfl⟩ (zd DX4_offer 18 rfl) (fun v13 w11 e12 => ?_)
  refine tz_iload 6 rfl (zd DX4_offer 19 rfl) ?_
  refine tz_iload_n 5 rfl (zd DX4_offer 20 rfl) ?_
  refine tz_ishl (zd DX4_offer 21 rfl) ?_
  refine tz_ior (zd DX4_offer 22 rfl) ?_
  refine tz_lti (fun v14 => ?_)
  refine tz_istore [(7, .int v14), (6, .int v10), (5, .int v3), (0, .ref 66), (1, .int a1), (2, .int a2), (3, .int a3), (4, .int a4)] (Nat.le_of_ble_eq_true rfl) rfl (zd DX4_offer 23 rfl) ?_
  refine tz_iload 1 rfl (zd DX4_offer 24 rfl) ?_
  refine tz_aload_n 3 rfl (zd DX4_offer 25 rfl) ?_
  refine tz_getR (zR w11 2) 2 kz4 (zs_66) (by decide) (by decide) rfl wk_165 (zd DX4_offer 26 rfl) ?_
  refine tz_iload 2 rfl (zd DX4_offer 27 rfl) ?_
  refine tz_cSN_i (rest := [.int v10]) (YX7_at) wn_741 (tX7_at (zR w11 2) ((zR_a w11 2).1) v3 w11) rfl rfl (Nat.le_of_ble_eq_true rfl) ⟨Nat.le_of_ble_eq_true rfl, Nat.le_of_ble_eq_true rfl⟩ (zd DX4_offer 28 rfl) (fun v17 w15 e16 => ?_)
  refine tz_jp (P := fun j => ∀ (w18 : zW), Tz MX4_offer (zRet zn) (j w18) 84 [(0, .ref 66), (5, .int v3), (6, .int v10), (7, .int v14)] [] w18) ?_ (fun j18 hj18 => ?_)
  · intro w18
    refine tz_aload_n 0 rfl (zd DX4_offer 42 rfl) ?_
    refine tz_getR (zR w18 2) 2 kz4 (zs_66) (by decide) (by decide) rfl wk_165 (zd DX4_offer 43 rfl) ?_
    refine tz_iload 1 rfl (zd DX4_offer 44 rfl) ?_
    refine tz_iload 2 rfl (zd DX4_offer 45 rfl) ?_
    refine tz_cSN_n (rest := []) (YX7_set) wn_740 (tX7_set (zR w18 2) ((zR_a w18 2).1) v3 v10 w18) rfl rfl (Nat.le_of_ble_eq_true rfl) ⟨Nat.le_of_ble_eq_true rfl, Nat.le_of_ble_eq_true rfl⟩ (zd DX4_offer 46 rfl) (fun v21 w19 e20 => ?_)
    refine tz_aload_n 0 rfl (zd DX4_offer 47 rfl) ?_
    refine tz_getR (zR w19 3) 3 kz4 (zs_66) (by decide) (by decide) rfl wk_166 (zd DX4_offer 48 rfl) ?_
    refine tz_iload 1 rfl (zd DX4_offer 49 rfl) ?_
    refine tz_iload 3 rfl (zd DX4_offer 50 rfl) ?_
    refine tz_cSN_n (rest := []) (YX7_set) wn_740 (tX7_set (zR w19 3) ((zR_a w19 3).1) v3 v14 w19) rfl rfl (Nat.le_of_ble_eq_true rfl) ⟨Nat.le_of_ble_eq_true rfl, Nat.le_of_ble_eq_true rfl⟩ (zd DX4_offer 51 rfl) (fun v24 w22 e23 => ?_)
    exact tz_vret rfl (zd DX4_offer 52 rfl)
  refine tz_icmp_gt 84 (zd DX4_offer 29 rfl) rfl (fun q25 => ?_) (fun q25 => ?_)
  · refine tz_lv (lv2 := [(0, .ref 66), (5, .int v3), (6, .int v10), (7, .int v14)]) [3, 2, 1, 0] rfl ?_
    exact hj18 w15
  refine tz_iload 1 rfl (zd DX4_offer 30 rfl) ?_
  refine tz_aload_n 3 rfl (zd DX4_offer 31 rfl) ?_
  refine tz_getR (zR w15 2) 2 kz4 (zs_66) (by decide) (by decide) rfl wk_165 (zd DX4_offer 32 rfl) ?_
  refine tz_iload 2 rfl (zd DX4_offer 33 rfl) ?_
  refine tz_cSN_i (rest := [.int v10]) (YX7_at) wn_741 (tX7_at (zR w15 2) ((zR_a w15 2).1) v3 w15) rfl rfl (Nat.le_of_ble_eq_true rfl) ⟨Nat.le_of_ble_eq_true rfl, Nat.le_of_ble_eq_true rfl⟩ (zd DX4_offer 34 rfl) (fun v28 w26 e27 => ?_)
  refine tz_icmp_ne 106 (zd DX4_offer 35 rfl) rfl (fun q29 => ?_) (fun q29 => ?_)
  · exact tz_vret rfl (zd DX4_offer 52 rfl)
  refine tz_iload 0 rfl (zd DX4_offer 36 rfl) ?_
  refine tz_aload_n 3 rfl (zd DX4_offer 37 rfl) ?_
  refine tz_getR (zR w26 3) 3 kz4 (zs_66) (by decide) (by decide) rfl wk_166 (zd DX4_offer 38 rfl) ?_
  refine tz_iload 2 rfl (zd DX4_offer 39 rfl) ?_
  refine tz_cSN_i (rest := [.int v14]) (YX7_at) wn_741 (tX7_at (zR w26 3) ((zR_a w26 3).1) v3 w26) rfl rfl (Nat.le_of_ble_eq_true rfl) ⟨Nat.le_of_ble_eq_true rfl, Nat.le_of_ble_eq_true rfl⟩ (zd DX4_offer 40 rfl) (fun v32 w30 e31 => ?_)
  refine tz_icmp_ge 106 (zd DX4_offer 41 rfl) rfl (fun q33 => ?_) (fun q33 => ?_)
  · exact tz_vret rfl (zd DX4_offer 52 rfl)
  refine tz_lv (lv2 := [(0, .ref 66), (5, .int v3), (6, .int v10), (7, .int v14)]) [3, 2, 1, 0] rfl ?_
  exact hj18 w30
def QX4_swap : List (Nat × Instr × Nat) := [(0, .aload_n 0, 1), (1, .getfield 9, 3), (4, .astore_n 1, 1), (5, .aload_n 0, 1), (6, .getfield 15, 3), (9, .astore_n 2, 1), (10, .aload_n 0, 1), (11, .aload_n 0, 1), (12, .getfield 18, 3), (15, .putfield 9, 3), (18, .aload_n 0, 1), (19, .aload_n 0, 1), (20, .getfield 21, 3), (23, .putfield 15, 3), (26, .aload_n 0, 1), (27, .aload_n 1, 1), (28, .putfield 18, 3), (31, .aload_n 0, 1), (32, .aload_n 2, 1), (33, .putfield 21, 3), (36, .return_, 1)]
set_option maxRecDepth 100000 in
theorem DX4_swap : ∀ q ∈ QX4_swap, decode cX4_swap q.1 = .ok (q.2.1, q.2.2) := by decide +kernel
abbrev MX4_swap : zM := (cX4_swap, "EndSums$Takings", 3, none, { frames := 0, cells := 0, slots := 0, locals := 0 })
def fX4_swap  (w : zW) : Option (Unit × zW) :=
  lt (zsR w 0 (zR w 2)) fun w1 =>
  lt (zsR w1 1 (zR w1 3)) fun w2 =>
  lt (zsR w2 2 (zR w 0)) fun w3 =>
  lt (zsR w3 3 (zR w 1)) fun w4 =>
  some ((), w4)
theorem YX4_swap : zYV yX4_swap MX4_swap 0 := ⟨wk_749, wk_8, ⟨wk_748, ws_73⟩, ⟨by decide, by decide, by decide +kernel⟩, rfl, rfl⟩
set_option maxHeartbeats 4000000 in
set_option maxRecDepth 100000 in
theorem tX4_swap  (w : zW) : Sm yX4_swap MX4_swap zn [.ref 66] w (fX4_swap w) := by
  refine Sm_of (lv0 := [(0, .ref 66)]) (by decide) rfl (fun _ => Nat.le_of_ble_eq_true rfl) rfl ?_
  unfold fX4_swap
  refine tz_aload_n 0 rfl (zd DX4_swap 0 rfl) ?_
  refine tz_getR (zR w 0) 0 kz4 (zs_66) (by decide) (by decide) rfl wk_163 (zd DX4_swap 1 rfl) ?_
  refine tz_astore_n [(1, .ref (zR w 0)), (0, .ref 66)] (Nat.le_of_ble_eq_true rfl) rfl (zd DX4_swap 2 rfl) ?_
  refine tz_aload_n 1 rfl (zd DX4_swap 3 rfl) ?_
  refine tz_getR (zR w 1) 1 kz4 (zs_66) (by decide) (by decide) rfl wk_164 (zd DX4_swap 4 rfl) ?_
  refine tz_astore_n [(2, .ref (zR w 1)), (1, .ref (zR w 0)), (0, .ref 66)] (Nat.le_of_ble_eq_true rfl) rfl (zd DX4_swap 5 rfl) ?_
  refine tz_aload_n 2 rfl (zd DX4_swap 6 rfl) ?_
  refine tz_aload_n 2 rfl (zd DX4_swap 7 rfl) ?_
  refine tz_getR (zR w 2) 2 kz4 (zs_66) (by decide) (by decide) rfl wk_165 (zd DX4_swap 8 rfl) ?_
  refine tz_putR 0 (by decide) (zR_or w 2) wk_163 (zd DX4_swap 9 rfl) (fun w1 => ?_)
  refine tz_aload_n 2 rfl (zd DX4_swap 10 rfl) ?_
  refine tz_aload_n 2 rfl (zd DX4_swap 11 rfl) ?_
  refine tz_getR (zR w1 3) 3 kz4 (zs_66) (by decide) (by decide) rfl wk_166 (zd DX4_swap 12 rfl) ?_
  refine tz_putR 1 (by decide) (zR_or w1 3) wk_164 (zd DX4_swap 13 rfl) (fun w2 => ?_)
  refine tz_aload_n 2 rfl (zd DX4_swap 14 rfl) ?_
  refine tz_aload_n 1 rfl (zd DX4_swap 15 rfl) ?_
  refine tz_putR 2 (by decide) (zR_or w 0) wk_165 (zd DX4_swap 16 rfl) (fun w3 => ?_)
  refine tz_aload_n 2 rfl (zd DX4_swap 17 rfl) ?_
  refine tz_aload_n 0 rfl (zd DX4_swap 18 rfl) ?_
  refine tz_putR 3 (by decide) (zR_or w 1) wk_166 (zd DX4_swap 19 rfl) (fun w4 => ?_)
  exact tz_vret rfl (zd DX4_swap 20 rfl)
def QX4_choose : List (Nat × Instr × Nat) := [(0, .aload_n 0, 1), (1, .iconst (-1), 1), (2, .putfield 54, 3), (5, .aload_n 0, 1), (6, .iconst 0, 1), (7, .putfield 58, 3), (10, .iconst 0, 1), (11, .istore_n 2, 1), (12, .iload_n 2, 1), (13, .iload_n 1, 1), (14, .if_icmp .gt 66, 3), (17, .aload_n 0, 1), (18, .getfield 9, 3), (21, .iload_n 2, 1), (22, .invokestatic 39, 3), (25, .istore_n 3, 1), (26, .iload_n 3, 1), (27, .aload_n 0, 1), (28, .getfield 54, 3), (31, .if_icmp .gt 26, 3), (34, .iload_n 3, 1), (35, .aload_n 0, 1), (36, .getfield 54, 3), (39, .if_icmp .ne 35, 3), (42, .aload_n 0, 1), (43, .getfield 15, 3), (46, .iload_n 2, 1), (47, .invokestatic 39, 3), (50, .aload_n 0, 1), (51, .getfield 58, 3), (54, .if_icmp .ge 20, 3), (57, .aload_n 0, 1), (58, .iload_n 3, 1), (59, .putfield 54, 3), (62, .aload_n 0, 1), (63, .aload_n 0, 1), (64, .getfield 15, 3), (67, .iload_n 2, 1), (68, .invokestatic 39, 3), (71, .putfield 58, 3), (74, .iinc 2 1, 3), (77, .goto (-65), 3), (80, .return_, 1)]
set_option maxRecDepth 100000 in
theorem DX4_choose : ∀ q ∈ QX4_choose, decode cX4_choose q.1 = .ok (q.2.1, q.2.2) := by decide +kernel
abbrev MX4_choose : zM := (cX4_choose, "EndSums$Takings", 4, none, { frames := 1, cells := 0, slots := 0, locals := 21 })
def fX4_choose_L12 (x1 : Int32) : Nat → Int32 → zW → Option (Unit × zW)
  | 0, _, _ => none
  | n + 1, x2, w =>
    if x1 < x2 then
      some ((), w)
    else
    bd (fX7_at (zR w 0) x2 w) fun v6 w4 =>
    lt (fun (w7 : zW) =>
      fX4_choose_L12 x1 n (x2 + (1 : Int32)) w7) fun j7 =>
    lt (fun (w8 : zW) =>
      lt (zsI w8 66 4 v6) fun w9 =>
      bd (fX7_at (zR w9 1) x2 w9) fun v12 w10 =>
      lt (zsI w10 66 5 v12) fun w13 =>
      j7 w13) fun j8 =>
    if (zI w4 66 4) < v6 then
      j8 w4
    else
    if ¬ v6 = (zI w4 66 4) then
      j7 w4
    else
    bd (fX7_at (zR w4 1) x2 w4) fun v18 w16 =>
    if (zI w16 66 5) ≤ v18 then
      j7 w16
    else
    j8 w16
def fX4_choose (a1 : Int32) (w : zW) : Option (Unit × zW) :=
  lt (zsI w 66 4 (-1 : Int32)) fun w1 =>
  lt (zsI w1 66 5 (0 : Int32)) fun w2 =>
  fX4_choose_L12 a1 zFU (0 : Int32) w2
theorem YX4_choose : zYV yX4_choose MX4_choose 1 := ⟨wk_753, wk_8, ⟨wk_752, ws_74⟩, ⟨by decide, by decide, by decide +kernel⟩, rfl, rfl⟩
set_option maxHeartbeats 4000000 in
set_option maxRecDepth 100000 in
theorem lX4_choose_L12 (x1 : Int32) : ∀ (n : Nat) (x2 : Int32) (w : zW), Tz MX4_choose (zRet zn) (fX4_choose_L12 x1 n x2 w) 12 [(0, .ref 66), (1, .int x1), (2, .int x2)] [] w := by
  intro n
  induction n with
  | zero => intro x2 w; exact tz_eq (fX4_choose_L12.eq_1 _ _ _) tz_none
  | succ n ih =>
    intro x2 w
    refine tz_eq (fX4_choose_L12.eq_2 _ _ _ _) ?_
    refine tz_iload_n 2 rfl (zd DX4_choose 8 rfl) ?_
    refine tz_iload_n 1 rfl (zd DX4_choose 9 rfl) ?_
    refine tz_icmp_gt 80 (zd DX4_choose 10 rfl) rfl (fun q3 => ?_) (fun q3 => ?_)
    · exact tz_vret rfl (zd DX4_choose 42 rfl)
    refine tz_aload_n 0 rfl (zd DX4_choose 11 rfl) ?_
    refine tz_getR (zR w 0) 0 kz4 (zs_66) (by decide) (by decide) rfl wk_163 (zd DX4_choose 12 rfl) ?_
    refine tz_iload_n 2 rfl (zd DX4_choose 13 rfl) ?_
    refine tz_cSN_i (rest := []) (YX7_at) wn_741 (tX7_at (zR w 0) ((zR_a w 0).1) x2 w) rfl rfl (Nat.le_of_ble_eq_true rfl) ⟨Nat.le_of_ble_eq_true rfl, Nat.le_of_ble_eq_true rfl⟩ (zd DX4_choose 14 rfl) (fun v6 w4 e5 => ?_)
    refine tz_istore_n [(3, .int v6), (0, .ref 66), (1, .int x1), (2, .int x2)] (Nat.le_of_ble_eq_true rfl) rfl (zd DX4_choose 15 rfl) ?_
    refine tz_iload_n 0 rfl (zd DX4_choose 16 rfl) ?_
    refine tz_aload_n 1 rfl (zd DX4_choose 17 rfl) ?_
    refine tz_getI 4 kz4 (zs_66) (by decide) rfl wk_167 (zd DX4_choose 18 rfl) ?_
    refine tz_jp (P := fun j => ∀ (w7 : zW), Tz MX4_choose (zRet zn) (j w7) 74 [(0, .ref 66), (1, .int x1), (2, .int x2)] [] w7) ?_ (fun j7 hj7 => ?_)
    · intro w7
      refine tz_iinc 2 (1 : Int32) [(2, .int (x2 + (1 : Int32))), (0, .ref 66), (1, .int x1)] rfl zk_iconst_1 (Nat.le_of_ble_eq_true rfl) rfl (zd DX4_choose 40 rfl) ?_
      refine tz_goto 12 (zd DX4_choose 41 rfl) rfl ?_
      refine tz_lv (lv2 := [(0, .ref 66), (1, .int x1), (2, .int (x2 + (1 : Int32)))]) [1, 2, 0] rfl ?_
      exact ih (x2 + (1 : Int32)) w7
    refine tz_jp (P := fun j => ∀ (w8 : zW), Tz MX4_choose (zRet zn) (j w8) 57 [(0, .ref 66), (1, .int x1), (2, .int x2), (3, .int v6)] [] w8) ?_ (fun j8 hj8 => ?_)
    · intro w8
      refine tz_aload_n 0 rfl (zd DX4_choose 31 rfl) ?_
      refine tz_iload_n 3 rfl (zd DX4_choose 32 rfl) ?_
      refine tz_putI 4 kz4 (zs_66) (by decide) rfl rfl wk_167 (zd DX4_choose 33 rfl) (fun w9 => ?_)
      refine tz_aload_n 0 rfl (zd DX4_choose 34 rfl) ?_
      refine tz_aload_n 0 rfl (zd DX4_choose 35 rfl) ?_
      refine tz_getR (zR w9 1) 1 kz4 (zs_66) (by decide) (by decide) rfl wk_164 (zd DX4_choose 36 rfl) ?_
      refine tz_iload_n 2 rfl (zd DX4_choose 37 rfl) ?_
      refine tz_cSN_i (rest := [.ref 66]) (YX7_at) wn_741 (tX7_at (zR w9 1) ((zR_a w9 1).1) x2 w9) rfl rfl (Nat.le_of_ble_eq_true rfl) ⟨Nat.le_of_ble_eq_true rfl, Nat.le_of_ble_eq_true rfl⟩ (zd DX4_choose 38 rfl) (fun v12 w10 e11 => ?_)
      refine tz_putI 5 kz4 (zs_66) (by decide) rfl rfl wk_169 (zd DX4_choose 39 rfl) (fun w13 => ?_)
      refine tz_lv (lv2 := [(0, .ref 66), (1, .int x1), (2, .int x2)]) [0, 1, 2] rfl ?_
      exact hj7 w13
    refine tz_icmp_gt 57 (zd DX4_choose 19 rfl) rfl (fun q14 => ?_) (fun q14 => ?_)
    · refine tz_lv (lv2 := [(0, .ref 66), (1, .int x1), (2, .int x2), (3, .int v6)]) [1, 2, 3, 0] rfl ?_
      exact hj8 w4
    refine tz_iload_n 0 rfl (zd DX4_choose 20 rfl) ?_
    refine tz_aload_n 1 rfl (zd DX4_choose 21 rfl) ?_
    refine tz_getI 4 kz4 (zs_66) (by decide) rfl wk_167 (zd DX4_choose 22 rfl) ?_
    refine tz_icmp_ne 74 (zd DX4_choose 23 rfl) rfl (fun q15 => ?_) (fun q15 => ?_)
    · refine tz_lv (lv2 := [(0, .ref 66), (1, .int x1), (2, .int x2)]) [1, 2, 3] rfl ?_
      exact hj7 w4
    refine tz_aload_n 1 rfl (zd DX4_choose 24 rfl) ?_
    refine tz_getR (zR w4 1) 1 kz4 (zs_66) (by decide) (by decide) rfl wk_164 (zd DX4_choose 25 rfl) ?_
    refine tz_iload_n 3 rfl (zd DX4_choose 26 rfl) ?_
    refine tz_cSN_i (rest := []) (YX7_at) wn_741 (tX7_at (zR w4 1) ((zR_a w4 1).1) x2 w4) rfl rfl (Nat.le_of_ble_eq_true rfl) ⟨Nat.le_of_ble_eq_true rfl, Nat.le_of_ble_eq_true rfl⟩ (zd DX4_choose 27 rfl) (fun v18 w16 e17 => ?_)
    refine tz_aload_n 1 rfl (zd DX4_choose 28 rfl) ?_
    refine tz_getI 5 kz4 (zs_66) (by decide) rfl wk_169 (zd DX4_choose 29 rfl) ?_
    refine tz_icmp_ge 74 (zd DX4_choose 30 rfl) rfl (fun q19 => ?_) (fun q19 => ?_)
    · refine tz_lv (lv2 := [(0, .ref 66), (1, .int x1), (2, .int x2)]) [1, 2, 3] rfl ?_
      exact hj7 w16
    refine tz_lv (lv2 := [(0, .ref 66), (1, .int x1), (2, .int x2), (3, .int v6)]) [1, 2, 3, 0] rfl ?_
    exact hj8 w16
set_option maxHeartbeats 4000000 in
set_option maxRecDepth 100000 in
theorem tX4_choose (a1 : Int32) (w : zW) : Sm yX4_choose MX4_choose zn [.ref 66, .int a1] w (fX4_choose a1 w) := by
  refine Sm_of (lv0 := [(0, .ref 66), (1, .int a1)]) (by decide) rfl (fun _ => Nat.le_of_ble_eq_true rfl) rfl ?_
  unfold fX4_choose
  refine tz_aload_n 0 rfl (zd DX4_choose 0 rfl) ?_
  refine tz_iconst (-1 : Int32) zk_iconst_m1 (zd DX4_choose 1 rfl) ?_
  refine tz_putI 4 kz4 (zs_66) (by decide) rfl rfl wk_167 (zd DX4_choose 2 rfl) (fun w1 => ?_)
  refine tz_aload_n 0 rfl (zd DX4_choose 3 rfl) ?_
  refine tz_iconst (0 : Int32) zk_iconst_0 (zd DX4_choose 4 rfl) ?_
  refine tz_putI 5 kz4 (zs_66) (by decide) rfl rfl wk_169 (zd DX4_choose 5 rfl) (fun w2 => ?_)
  refine tz_iconst (0 : Int32) zk_iconst_0 (zd DX4_choose 6 rfl) ?_
  refine tz_istore_n [(2, .int (0 : Int32)), (0, .ref 66), (1, .int a1)] (Nat.le_of_ble_eq_true rfl) rfl (zd DX4_choose 7 rfl) ?_
  refine tz_lv (lv2 := [(0, .ref 66), (1, .int a1), (2, .int (0 : Int32))]) [1, 2, 0] rfl ?_
  exact lX4_choose_L12 a1 zFU (0 : Int32) w2
def QX4_seek : List (Nat × Instr × Nat) := [(0, .aload_n 0, 1), (1, .getfield 9, 3), (4, .invokestatic 31, 3), (7, .aload_n 0, 1), (8, .getfield 9, 3), (11, .iload_n 1, 1), (12, .iconst 0, 1), (13, .invokestatic 35, 3), (16, .aload_n 0, 1), (17, .getfield 15, 3), (20, .iload_n 1, 1), (21, .iconst 0, 1), (22, .invokestatic 35, 3), (25, .iconst 0, 1), (26, .istore 4, 2), (28, .iload 4, 2), (30, .iload_n 3, 1), (31, .if_icmp .ge 77, 3), (34, .aload_n 0, 1), (35, .getfield 18, 3), (38, .invokestatic 31, 3), (41, .iconst 0, 1), (42, .istore 5, 2), (44, .iload 5, 2), (46, .iload_n 2, 1), (47, .iload 4, 2), (49, .isub, 1), (50, .if_icmp .gt 48, 3), (53, .aload_n 0, 1), (54, .getfield 9, 3), (57, .iload 5, 2), (59, .invokestatic 39, 3), (62, .iconst (-1), 1), (63, .if_icmp .eq 29, 3), (66, .aload_n 0, 1), (67, .iload 5, 2), (69, .iload_n 2, 1), (70, .iload 4, 2), (72, .isub, 1), (73, .iload 4, 2), (75, .iconst 0, 1), (76, .invokevirtual 43, 3), (79, .aload_n 0, 1), (80, .iload 5, 2), (82, .iload_n 2, 1), (83, .iload 4, 2), (85, .isub, 1), (86, .iload 4, 2), (88, .iconst 1, 1), (89, .invokevirtual 43, 3), (92, .iinc 5 1, 3), (95, .goto (-51), 3), (98, .aload_n 0, 1), (99, .invokevirtual 47, 3), (102, .iinc 4 1, 3), (105, .goto (-77), 3), (108, .aload_n 0, 1), (109, .iload_n 2, 1), (110, .iload_n 3, 1), (111, .isub, 1), (112, .invokevirtual 50, 3), (115, .return_, 1)]
set_option maxRecDepth 100000 in
theorem DX4_seek : ∀ q ∈ QX4_seek, decode cX4_seek q.1 = .ok (q.2.1, q.2.2) := by decide +kernel
abbrev MX4_seek : zM := (cX4_seek, "EndSums$Takings", 6, none, { frames := 2, cells := 0, slots := 0, locals := 51 })
def fX4_seek_L44 (x2 : Int32) (x3 : Int32) (x4 : Int32) (j28 : Int32 → zW → Option (Unit × zW)) : Nat → Int32 → zW → Option (Unit × zW)
  | 0, _, _ => none
  | n + 1, x5, w =>
    if (x2 - x4) < x5 then
      bd (fX4_swap w) fun _ w18 =>
      j28 (x4 + (1 : Int32)) w18
    else
    bd (fX7_at (zR w 0) x5 w) fun v23 w21 =>
    lt (fun (w24 : zW) =>
      fX4_seek_L44 x2 x3 x4 j28 n (x5 + (1 : Int32)) w24) fun j24 =>
    if v23 = (-1 : Int32) then
      j24 w21
    else
    bd (fX4_offer x5 (x2 - x4) x4 (0 : Int32) w21) fun _ w26 =>
    bd (fX4_offer x5 (x2 - x4) x4 (1 : Int32) w26) fun _ w29 =>
    j24 w29
def fX4_seek_L28 (x2 : Int32) (x3 : Int32) : Nat → Int32 → zW → Option (Unit × zW)
  | 0, _, _ => none
  | n + 1, x4, w =>
    if x3 ≤ x4 then
      bd (fX4_choose (x2 - x3) w) fun _ w11 =>
      some ((), w11)
    else
    bd (fX4_forget (zR w 2) w) fun _ w14 =>
    fX4_seek_L44 x2 x3 x4 (fX4_seek_L28 x2 x3 n) zFU (0 : Int32) w14
def fX4_seek (a1 : Int32) (a2 : Int32) (a3 : Int32) (w : zW) : Option (Unit × zW) :=
  bd (fX4_forget (zR w 0) w) fun _ w1 =>
  bd (fX7_set (zR w1 0) a1 (0 : Int32) w1) fun _ w4 =>
  bd (fX7_set (zR w4 1) a1 (0 : Int32) w4) fun _ w7 =>
  fX4_seek_L28 a2 a3 zFU (0 : Int32) w7
theorem YX4_seek : zYV yX4_seek MX4_seek 3 := ⟨wk_736, wk_8, ⟨wk_735, ws_71⟩, ⟨by decide, by decide, by decide +kernel⟩, rfl, rfl⟩
set_option maxHeartbeats 4000000 in
set_option maxRecDepth 100000 in
theorem lX4_seek_L44 (x2 : Int32) (x3 : Int32) (x4 : Int32) (j28 : Int32 → zW → Option (Unit × zW)) (hj28 : ∀ (y4 : Int32) (w : zW), Tz MX4_seek (zRet zn) (j28 y4 w) 28 [(0, .ref 66), (2, .int x2), (3, .int x3), (4, .int y4)] [] w) : ∀ (n : Nat) (x5 : Int32) (w : zW), Tz MX4_seek (zRet zn) (fX4_seek_L44 x2 x3 x4 j28 n x5 w) 44 [(0, .ref 66), (2, .int x2), (3, .int x3), (4, .int x4), (5, .int x5)] [] w := by
  intro n
  induction n with
  | zero => intro x5 w; exact tz_eq (fX4_seek_L44.eq_1 _ _ _ _ _ _) tz_none
  | succ n ih =>
    intro x5 w
    refine tz_eq (fX4_seek_L44.eq_2 _ _ _ _ _ _ _) ?_
    refine tz_iload 4 rfl (zd DX4_seek 23 rfl) ?_
    refine tz_iload_n 1 rfl (zd DX4_seek 24 rfl) ?_
    refine tz_iload 3 rfl (zd DX4_seek 25 rfl) ?_
    refine tz_isub (zd DX4_seek 26 rfl) ?_
    refine tz_icmp_gt 98 (zd DX4_seek 27 rfl) rfl (fun q17 => ?_) (fun q17 => ?_)
    · refine tz_aload_n 0 rfl (zd DX4_seek 52 rfl) ?_
      refine tz_cV_n kz4 (zs_66) rfl (rest := []) (YX4_swap) wk_746 (tX4_swap w) rfl rfl (Nat.le_of_ble_eq_true rfl) ⟨Nat.le_of_ble_eq_true rfl, Nat.le_of_ble_eq_true rfl⟩ (zd DX4_seek 53 rfl) (fun v20 w18 e19 => ?_)
      refine tz_iinc 3 (1 : Int32) [(4, .int (x4 + (1 : Int32))), (0, .ref 66), (2, .int x2), (3, .int x3), (5, .int x5)] rfl zk_iconst_1 (Nat.le_of_ble_eq_true rfl) rfl (zd DX4_seek 54 rfl) ?_
      refine tz_goto 28 (zd DX4_seek 55 rfl) rfl ?_
      refine tz_lv (lv2 := [(0, .ref 66), (2, .int x2), (3, .int x3), (4, .int (x4 + (1 : Int32)))]) [1, 2, 3, 0] rfl ?_
      exact hj28 (x4 + (1 : Int32)) w18
    refine tz_aload_n 0 rfl (zd DX4_seek 28 rfl) ?_
    refine tz_getR (zR w 0) 0 kz4 (zs_66) (by decide) (by decide) rfl wk_163 (zd DX4_seek 29 rfl) ?_
    refine tz_iload 4 rfl (zd DX4_seek 30 rfl) ?_
    refine tz_cSN_i (rest := []) (YX7_at) wn_741 (tX7_at (zR w 0) ((zR_a w 0).1) x5 w) rfl rfl (Nat.le_of_ble_eq_true rfl) ⟨Nat.le_of_ble_eq_true rfl, Nat.le_of_ble_eq_true rfl⟩ (zd DX4_seek 31 rfl) (fun v23 w21 e22 => ?_)
    refine tz_iconst (-1 : Int32) zk_iconst_m1 (zd DX4_seek 32 rfl) ?_
    refine tz_jp (P := fun j => ∀ (w24 : zW), Tz MX4_seek (zRet zn) (j w24) 92 [(0, .ref 66), (2, .int x2), (3, .int x3), (4, .int x4), (5, .int x5)] [] w24) ?_ (fun j24 hj24 => ?_)
    · intro w24
      refine tz_iinc 4 (1 : Int32) [(5, .int (x5 + (1 : Int32))), (0, .ref 66), (2, .int x2), (3, .int x3), (4, .int x4)] rfl zk_iconst_1 (Nat.le_of_ble_eq_true rfl) rfl (zd DX4_seek 50 rfl) ?_
      refine tz_goto 44 (zd DX4_seek 51 rfl) rfl ?_
      refine tz_lv (lv2 := [(0, .ref 66), (2, .int x2), (3, .int x3), (4, .int x4), (5, .int (x5 + (1 : Int32)))]) [1, 2, 3, 4, 0] rfl ?_
      exact ih (x5 + (1 : Int32)) w24
    refine tz_icmp_eq 92 (zd DX4_seek 33 rfl) rfl (fun q25 => ?_) (fun q25 => ?_)
    · exact hj24 w21
    refine tz_aload_n 0 rfl (zd DX4_seek 34 rfl) ?_
    refine tz_iload 4 rfl (zd DX4_seek 35 rfl) ?_
    refine tz_iload_n 1 rfl (zd DX4_seek 36 rfl) ?_
    refine tz_iload 3 rfl (zd DX4_seek 37 rfl) ?_
    refine tz_isub (zd DX4_seek 38 rfl) ?_
    refine tz_iload 3 rfl (zd DX4_seek 39 rfl) ?_
    refine tz_iconst (0 : Int32) zk_iconst_0 (zd DX4_seek 40 rfl) ?_
    refine tz_cV_n kz4 (zs_66) rfl (rest := []) (YX4_offer) wk_742 (tX4_offer x5 (x2 - x4) x4 (0 : Int32) w21) rfl rfl (Nat.le_of_ble_eq_true rfl) ⟨Nat.le_of_ble_eq_true rfl, Nat.le_of_ble_eq_true rfl⟩ (zd DX4_seek 41 rfl) (fun v28 w26 e27 => ?_)
    refine tz_aload_n 0 rfl (zd DX4_seek 42 rfl) ?_
    refine tz_iload 4 rfl (zd DX4_seek 43 rfl) ?_
    refine tz_iload_n 1 rfl (zd DX4_seek 44 rfl) ?_
    refine tz_iload 3 rfl (zd DX4_seek 45 rfl) ?_
    refine tz_isub (zd DX4_seek 46 rfl) ?_
    refine tz_iload 3 rfl (zd DX4_seek 47 rfl) ?_
    refine tz_iconst (1 : Int32) zk_iconst_1 (zd DX4_seek 48 rfl) ?_
    refine tz_cV_n kz4 (zs_66) rfl (rest := []) (YX4_offer) wk_742 (tX4_offer x5 (x2 - x4) x4 (1 : Int32) w26) rfl rfl (Nat.le_of_ble_eq_true rfl) ⟨Nat.le_of_ble_eq_true rfl, Nat.le_of_ble_eq_true rfl⟩ (zd DX4_seek 49 rfl) (fun v31 w29 e30 => ?_)
    exact hj24 w29
set_option maxHeartbeats 4000000 in
set_option maxRecDepth 100000 in
theorem lX4_seek_L28 (x2 : Int32) (x3 : Int32) : ∀ (n : Nat) (x4 : Int32) (w : zW), Tz MX4_seek (zRet zn) (fX4_seek_L28 x2 x3 n x4 w) 28 [(0, .ref 66), (2, .int x2), (3, .int x3), (4, .int x4)] [] w := by
  intro n
  induction n with
  | zero => intro x4 w; exact tz_eq (fX4_seek_L28.eq_1 _ _ _ _) tz_none
  | succ n ih =>
    intro x4 w
    refine tz_eq (fX4_seek_L28.eq_2 _ _ _ _ _) ?_
    refine tz_iload 3 rfl (zd DX4_seek 15 rfl) ?_
    refine tz_iload_n 2 rfl (zd DX4_seek 16 rfl) ?_
    refine tz_icmp_ge 108 (zd DX4_seek 17 rfl) rfl (fun q10 => ?_) (fun q10 => ?_)
    · refine tz_aload_n 0 rfl (zd DX4_seek 56 rfl) ?_
      refine tz_iload_n 1 rfl (zd DX4_seek 57 rfl) ?_
      refine tz_iload_n 2 rfl (zd DX4_seek 58 rfl) ?_
      refine tz_isub (zd DX4_seek 59 rfl) ?_
      refine tz_cV_n kz4 (zs_66) rfl (rest := []) (YX4_choose) wk_750 (tX4_choose (x2 - x3) w) rfl rfl (Nat.le_of_ble_eq_true rfl) ⟨Nat.le_of_ble_eq_true rfl, Nat.le_of_ble_eq_true rfl⟩ (zd DX4_seek 60 rfl) (fun v13 w11 e12 => ?_)
      exact tz_vret rfl (zd DX4_seek 61 rfl)
    refine tz_aload_n 0 rfl (zd DX4_seek 18 rfl) ?_
    refine tz_getR (zR w 2) 2 kz4 (zs_66) (by decide) (by decide) rfl wk_165 (zd DX4_seek 19 rfl) ?_
    refine tz_cS_n (rest := []) (YX4_forget) wk_737 (tX4_forget (zR w 2) ((zR_a w 2).1) w) rfl rfl (Nat.le_of_ble_eq_true rfl) ⟨Nat.le_of_ble_eq_true rfl, Nat.le_of_ble_eq_true rfl⟩ (zd DX4_seek 20 rfl) (fun v16 w14 e15 => ?_)
    refine tz_iconst (0 : Int32) zk_iconst_0 (zd DX4_seek 21 rfl) ?_
    refine tz_istore [(5, .int (0 : Int32)), (0, .ref 66), (2, .int x2), (3, .int x3), (4, .int x4)] (Nat.le_of_ble_eq_true rfl) rfl (zd DX4_seek 22 rfl) ?_
    refine tz_lv (lv2 := [(0, .ref 66), (2, .int x2), (3, .int x3), (4, .int x4), (5, .int (0 : Int32))]) [1, 2, 3, 4, 0] rfl ?_
    exact lX4_seek_L44 x2 x3 x4 _ ih zFU (0 : Int32) w14
set_option maxHeartbeats 4000000 in
set_option maxRecDepth 100000 in
theorem tX4_seek (a1 : Int32) (a2 : Int32) (a3 : Int32) (w : zW) : Sm yX4_seek MX4_seek zn [.ref 66, .int a1, .int a2, .int a3] w (fX4_seek a1 a2 a3 w) := by
  refine Sm_of (lv0 := [(0, .ref 66), (1, .int a1), (2, .int a2), (3, .int a3)]) (by decide) rfl (fun _ => Nat.le_of_ble_eq_true rfl) rfl ?_
  unfold fX4_seek
  refine tz_aload_n 0 rfl (zd DX4_seek 0 rfl) ?_
  refine tz_getR (zR w 0) 0 kz4 (zs_66) (by decide) (by decide) rfl wk_163 (zd DX4_seek 1 rfl) ?_
  refine tz_cS_n (rest := []) (YX4_forget) wk_737 (tX4_forget (zR w 0) ((zR_a w 0).1) w) rfl rfl (Nat.le_of_ble_eq_true rfl) ⟨Nat.le_of_ble_eq_true rfl, Nat.le_of_ble_eq_true rfl⟩ (zd DX4_seek 2 rfl) (fun v3 w1 e2 => ?_)
  refine tz_aload_n 0 rfl (zd DX4_seek 3 rfl) ?_
  refine tz_getR (zR w1 0) 0 kz4 (zs_66) (by decide) (by decide) rfl wk_163 (zd DX4_seek 4 rfl) ?_
  refine tz_iload_n 1 rfl (zd DX4_seek 5 rfl) ?_
  refine tz_iconst (0 : Int32) zk_iconst_0 (zd DX4_seek 6 rfl) ?_
  refine tz_cSN_n (rest := []) (YX7_set) wn_740 (tX7_set (zR w1 0) ((zR_a w1 0).1) a1 (0 : Int32) w1) rfl rfl (Nat.le_of_ble_eq_true rfl) ⟨Nat.le_of_ble_eq_true rfl, Nat.le_of_ble_eq_true rfl⟩ (zd DX4_seek 7 rfl) (fun v6 w4 e5 => ?_)
  refine tz_aload_n 0 rfl (zd DX4_seek 8 rfl) ?_
  refine tz_getR (zR w4 1) 1 kz4 (zs_66) (by decide) (by decide) rfl wk_164 (zd DX4_seek 9 rfl) ?_
  refine tz_iload_n 1 rfl (zd DX4_seek 10 rfl) ?_
  refine tz_iconst (0 : Int32) zk_iconst_0 (zd DX4_seek 11 rfl) ?_
  refine tz_cSN_n (rest := []) (YX7_set) wn_740 (tX7_set (zR w4 1) ((zR_a w4 1).1) a1 (0 : Int32) w4) rfl rfl (Nat.le_of_ble_eq_true rfl) ⟨Nat.le_of_ble_eq_true rfl, Nat.le_of_ble_eq_true rfl⟩ (zd DX4_seek 12 rfl) (fun v9 w7 e8 => ?_)
  refine tz_iconst (0 : Int32) zk_iconst_0 (zd DX4_seek 13 rfl) ?_
  refine tz_istore [(4, .int (0 : Int32)), (0, .ref 66), (1, .int a1), (2, .int a2), (3, .int a3)] (Nat.le_of_ble_eq_true rfl) rfl (zd DX4_seek 14 rfl) ?_
  refine tz_lv (lv2 := [(0, .ref 66), (2, .int a2), (3, .int a3), (4, .int (0 : Int32))]) [1, 3, 4, 0] rfl ?_
  exact lX4_seek_L28 a2 a3 zFU (0 : Int32) w7
def QX5_grow : List (Nat × Instr × Nat) := [(0, .aload_n 0, 1), (1, .getfield 15, 3), (4, .bipush 100, 2), (6, .if_icmp .ge 25, 3), (9, .aload_n 0, 1), (10, .getfield 9, 3), (13, .aload_n 0, 1), (14, .getfield 15, 3), (17, .iload_n 1, 1), (18, .invokestatic 19, 3), (21, .aload_n 0, 1), (22, .dup, 1), (23, .getfield 15, 3), (26, .iconst 1, 1), (27, .iadd, 1), (28, .putfield 15, 3), (31, .return_, 1)]
set_option maxRecDepth 100000 in
theorem DX5_grow : ∀ q ∈ QX5_grow, decode cX5_grow q.1 = .ok (q.2.1, q.2.2) := by decide +kernel
abbrev MX5_grow : zM := (cX5_grow, "EndSums$Text", 2, none, { frames := 1, cells := 0, slots := 0, locals := 22 })
def fX5_grow (a1 : Int32) (w : zW) : Option (Unit × zW) :=
  if (100 : Int32) ≤ (zI w 64 0) then
    some ((), w)
  else
  bd (fX7_set 65 (zI w 64 0) a1 w) fun _ w2 =>
  lt (zsI w2 64 0 ((zI w2 64 0) + (1 : Int32))) fun w5 =>
  some ((), w5)
theorem YX5_grow : zYV yX5_grow MX5_grow 1 := ⟨wk_608, wk_7, ⟨wk_607, ws_58⟩, ⟨by decide, by decide, by decide +kernel⟩, rfl, rfl⟩
set_option maxHeartbeats 4000000 in
set_option maxRecDepth 100000 in
theorem tX5_grow (a1 : Int32) (w : zW) : Sm yX5_grow MX5_grow zn [.ref 64, .int a1] w (fX5_grow a1 w) := by
  refine Sm_of (lv0 := [(0, .ref 64), (1, .int a1)]) (by decide) rfl (fun _ => Nat.le_of_ble_eq_true rfl) rfl ?_
  unfold fX5_grow
  refine tz_aload_n 0 rfl (zd DX5_grow 0 rfl) ?_
  refine tz_getI 0 kz5 (zs_64) (by decide) rfl wk_149 (zd DX5_grow 1 rfl) ?_
  refine tz_bipush (100 : Int32) zk_bipush_100 (zd DX5_grow 2 rfl) ?_
  refine tz_icmp_ge 31 (zd DX5_grow 3 rfl) rfl (fun q1 => ?_) (fun q1 => ?_)
  · exact tz_vret rfl (zd DX5_grow 16 rfl)
  refine tz_aload_n 0 rfl (zd DX5_grow 4 rfl) ?_
  refine tz_getR 65 1 kz5 (zs_64) (by decide) (by decide) rfl wk_151 (zd DX5_grow 5 rfl) ?_
  refine tz_aload_n 0 rfl (zd DX5_grow 6 rfl) ?_
  refine tz_getI 0 kz5 (zs_64) (by decide) rfl wk_149 (zd DX5_grow 7 rfl) ?_
  refine tz_iload_n 1 rfl (zd DX5_grow 8 rfl) ?_
  refine tz_cSN_n (rest := []) (YX7_set) wn_609 (tX7_set 65 (zs_65.1) (zI w 64 0) a1 w) rfl rfl (Nat.le_of_ble_eq_true rfl) ⟨Nat.le_of_ble_eq_true rfl, Nat.le_of_ble_eq_true rfl⟩ (zd DX5_grow 9 rfl) (fun v4 w2 e3 => ?_)
  refine tz_aload_n 0 rfl (zd DX5_grow 10 rfl) ?_
  refine tz_dupa (zd DX5_grow 11 rfl) ?_
  refine tz_getI 0 kz5 (zs_64) (by decide) rfl wk_149 (zd DX5_grow 12 rfl) ?_
  refine tz_iconst (1 : Int32) zk_iconst_1 (zd DX5_grow 13 rfl) ?_
  refine tz_iadd (zd DX5_grow 14 rfl) ?_
  refine tz_putI 0 kz5 (zs_64) (by decide) rfl rfl wk_149 (zd DX5_grow 15 rfl) (fun w5 => ?_)
  exact tz_vret rfl (zd DX5_grow 16 rfl)
def QX5_signOrBehind : List (Nat × Instr × Nat) := [(0, .iload_n 1, 1), (1, .aload_n 0, 1), (2, .getfield 15, 3), (5, .if_icmp .ge 14, 3), (8, .aload_n 0, 1), (9, .getfield 9, 3), (12, .iload_n 1, 1), (13, .invokestatic 23, 3), (16, .goto 4, 3), (19, .iconst (-1), 1), (20, .ireturn, 1)]
set_option maxRecDepth 100000 in
theorem DX5_signOrBehind : ∀ q ∈ QX5_signOrBehind, decode cX5_signOrBehind q.1 = .ok (q.2.1, q.2.2) := by decide +kernel
abbrev MX5_signOrBehind : zM := (cX5_signOrBehind, "EndSums$Text", 2, (some .int), { frames := 1, cells := 0, slots := 0, locals := 21 })
def fX5_signOrBehind (a1 : Int32) (w : zW) : Option (Int32 × zW) :=
  if (zI w 64 0) ≤ a1 then
    some ((-1 : Int32), w)
  else
  bd (fX7_at 65 a1 w) fun v4 w2 =>
  some (v4, w2)
theorem YX5_signOrBehind : zYV yX5_signOrBehind MX5_signOrBehind 1 := ⟨wk_360, wk_7, ⟨wk_359, ws_23⟩, ⟨by decide, by decide, by decide +kernel⟩, rfl, rfl⟩
set_option maxHeartbeats 4000000 in
set_option maxRecDepth 100000 in
theorem tX5_signOrBehind (a1 : Int32) (w : zW) : Sm yX5_signOrBehind MX5_signOrBehind zi [.ref 64, .int a1] w (fX5_signOrBehind a1 w) := by
  refine Sm_of (lv0 := [(0, .ref 64), (1, .int a1)]) (by decide) rfl (fun _ => Nat.le_of_ble_eq_true rfl) rfl ?_
  unfold fX5_signOrBehind
  refine tz_iload_n 1 rfl (zd DX5_signOrBehind 0 rfl) ?_
  refine tz_aload_n 0 rfl (zd DX5_signOrBehind 1 rfl) ?_
  refine tz_getI 0 kz5 (zs_64) (by decide) rfl wk_149 (zd DX5_signOrBehind 2 rfl) ?_
  refine tz_icmp_ge 19 (zd DX5_signOrBehind 3 rfl) rfl (fun q1 => ?_) (fun q1 => ?_)
  · refine tz_iconst (-1 : Int32) zk_iconst_m1 (zd DX5_signOrBehind 9 rfl) ?_
    exact tz_iret rfl (zd DX5_signOrBehind 10 rfl)
  refine tz_aload_n 0 rfl (zd DX5_signOrBehind 4 rfl) ?_
  refine tz_getR 65 1 kz5 (zs_64) (by decide) (by decide) rfl wk_151 (zd DX5_signOrBehind 5 rfl) ?_
  refine tz_iload_n 1 rfl (zd DX5_signOrBehind 6 rfl) ?_
  refine tz_cSN_i (rest := []) (YX7_at) wn_352 (tX7_at 65 (zs_65.1) a1 w) rfl rfl (Nat.le_of_ble_eq_true rfl) ⟨Nat.le_of_ble_eq_true rfl, Nat.le_of_ble_eq_true rfl⟩ (zd DX5_signOrBehind 7 rfl) (fun v4 w2 e3 => ?_)
  refine tz_goto 20 (zd DX5_signOrBehind 8 rfl) rfl ?_
  exact tz_iret rfl (zd DX5_signOrBehind 10 rfl)
def QX5_isDigit : List (Nat × Instr × Nat) := [(0, .iload_n 0, 1), (1, .bipush 48, 2), (3, .if_icmp .lt 13, 3), (6, .iload_n 0, 1), (7, .bipush 57, 2), (9, .if_icmp .gt 7, 3), (12, .iconst 1, 1), (13, .goto 4, 3), (16, .iconst 0, 1), (17, .ireturn, 1)]
set_option maxRecDepth 100000 in
theorem DX5_isDigit : ∀ q ∈ QX5_isDigit, decode cX5_isDigit q.1 = .ok (q.2.1, q.2.2) := by decide +kernel
abbrev MX5_isDigit : zM := (cX5_isDigit, "EndSums$Text", 1, (some .boolean), { frames := 0, cells := 0, slots := 0, locals := 0 })
def fX5_isDigit (a0 : Int32) (w : zW) : Option (Bool × zW) :=
  if a0 < (48 : Int32) then
    some (false, w)
  else
  if (57 : Int32) < a0 then
    some (false, w)
  else
  some (true, w)
theorem YX5_isDigit : zYS yX5_isDigit MX5_isDigit 1 := ⟨wk_590, wk_7, wk_589, ⟨by decide, by decide, by decide +kernel⟩, rfl, rfl⟩
set_option maxHeartbeats 4000000 in
set_option maxRecDepth 100000 in
theorem tX5_isDigit (a0 : Int32) (w : zW) : Sm yX5_isDigit MX5_isDigit zz [.int a0] w (fX5_isDigit a0 w) := by
  refine Sm_of (lv0 := [(0, .int a0)]) (by decide) rfl (fun _ => Nat.le_of_ble_eq_true rfl) rfl ?_
  unfold fX5_isDigit
  refine tz_iload_n 0 rfl (zd DX5_isDigit 0 rfl) ?_
  refine tz_bipush (48 : Int32) zk_bipush_48 (zd DX5_isDigit 1 rfl) ?_
  refine tz_icmp_lt 16 (zd DX5_isDigit 2 rfl) rfl (fun q1 => ?_) (fun q1 => ?_)
  · refine tz_iconst (0 : Int32) zk_iconst_0 (zd DX5_isDigit 8 rfl) ?_
    exact tz_zret0 rfl (zd DX5_isDigit 9 rfl)
  refine tz_iload_n 0 rfl (zd DX5_isDigit 3 rfl) ?_
  refine tz_bipush (57 : Int32) zk_bipush_57 (zd DX5_isDigit 4 rfl) ?_
  refine tz_icmp_gt 16 (zd DX5_isDigit 5 rfl) rfl (fun q2 => ?_) (fun q2 => ?_)
  · refine tz_iconst (0 : Int32) zk_iconst_0 (zd DX5_isDigit 8 rfl) ?_
    exact tz_zret0 rfl (zd DX5_isDigit 9 rfl)
  refine tz_iconst (1 : Int32) zk_iconst_1 (zd DX5_isDigit 6 rfl) ?_
  refine tz_goto 17 (zd DX5_isDigit 7 rfl) rfl ?_
  exact tz_zret1 rfl (zd DX5_isDigit 9 rfl)
def QX5_fitsTable : List (Nat × Instr × Nat) := [(0, .iload_n 2, 1), (1, .iconst 1, 1), (2, .if_icmp .ge 5, 3), (5, .iconst 0, 1), (6, .ireturn, 1), (7, .iload_n 1, 1), (8, .iload_n 2, 1), (9, .iconst 1, 1), (10, .iadd, 1), (11, .idiv, 1), (12, .istore_n 3, 1), (13, .iload_n 1, 1), (14, .iload_n 2, 1), (15, .iconst 1, 1), (16, .iadd, 1), (17, .irem, 1), (18, .istore 4, 2), (20, .aload_n 0, 1), (21, .iload_n 1, 1), (22, .invokevirtual 35, 3), (25, .istore 5, 2), (27, .iload 4, 2), (29, .iload_n 2, 1), (30, .if_icmp .ge 35, 3), (33, .iload 4, 2), (35, .iconst 5, 1), (36, .if_icmp .ge 27, 3), (39, .iload 5, 2), (41, .bipush 48, 2), (43, .if_icmp .lt 20, 3), (46, .iload 5, 2), (48, .bipush 48, 2), (50, .iload_n 2, 1), (51, .iconst 5, 1), (52, .invokestatic 39, 3), (55, .iadd, 1), (56, .if_icmp .ge 7, 3), (59, .iconst 1, 1), (60, .goto 4, 3), (63, .iconst 0, 1), (64, .ireturn, 1), (65, .iload_n 3, 1), (66, .iload_n 2, 1), (67, .iconst 1, 1), (68, .isub, 1), (69, .if_icmp .ne 17, 3), (72, .iload 5, 2), (74, .iconst (-1), 1), (75, .if_icmp .ne 7, 3), (78, .iconst 1, 1), (79, .goto 19, 3), (82, .iconst 0, 1), (83, .goto 15, 3), (86, .iload 5, 2), (88, .bipush 47, 2), (90, .if_icmp .ne 7, 3), (93, .iconst 1, 1), (94, .goto 4, 3), (97, .iconst 0, 1), (98, .ireturn, 1)]
set_option maxRecDepth 100000 in
theorem DX5_fitsTable : ∀ q ∈ QX5_fitsTable, decode cX5_fitsTable q.1 = .ok (q.2.1, q.2.2) := by decide +kernel
abbrev MX5_fitsTable : zM := (cX5_fitsTable, "EndSums$Text", 6, (some .boolean), { frames := 2, cells := 0, slots := 0, locals := 42 })
def fX5_fitsTable (a1 : Int32) (a2 : Int32) (w : zW) : Option (Bool × zW) :=
  if (1 : Int32) ≤ a2 then
    if (a2 + (1 : Int32)) = 0 then none else
    lt (a1 / (a2 + (1 : Int32))) fun v3 =>
    if (a2 + (1 : Int32)) = 0 then none else
    lt (a1 - a1 / (a2 + (1 : Int32)) * (a2 + (1 : Int32))) fun v5 =>
    bd (fX5_signOrBehind a1 w) fun v8 w6 =>
    if a2 ≤ v5 then
      if ¬ v3 = (a2 - (1 : Int32)) then
        if ¬ v8 = (47 : Int32) then
          some (false, w6)
        else
        some (true, w6)
      else
      if ¬ v8 = (-1 : Int32) then
        some (false, w6)
      else
      some (true, w6)
    else
    if (5 : Int32) ≤ v5 then
      some (false, w6)
    else
    if v8 < (48 : Int32) then
      some (false, w6)
    else
    if ((48 : Int32) + (if (5 : Int32) < a2 then (5 : Int32) else a2)) ≤ v8 then
      some (false, w6)
    else
    some (true, w6)
  else
  some (false, w)
theorem YX5_fitsTable : zYV yX5_fitsTable MX5_fitsTable 2 := ⟨wk_356, wk_7, ⟨wk_355, ws_22⟩, ⟨by decide, by decide, by decide +kernel⟩, rfl, rfl⟩
set_option maxHeartbeats 4000000 in
set_option maxRecDepth 100000 in
theorem tX5_fitsTable (a1 : Int32) (a2 : Int32) (w : zW) : Sm yX5_fitsTable MX5_fitsTable zz [.ref 64, .int a1, .int a2] w (fX5_fitsTable a1 a2 w) := by
  refine Sm_of (lv0 := [(0, .ref 64), (1, .int a1), (2, .int a2)]) (by decide) rfl (fun _ => Nat.le_of_ble_eq_true rfl) rfl ?_
  unfold fX5_fitsTable
  refine tz_iload_n 2 rfl (zd DX5_fitsTable 0 rfl) ?_
  refine tz_iconst (1 : Int32) zk_iconst_1 (zd DX5_fitsTable 1 rfl) ?_
  refine tz_icmp_ge 7 (zd DX5_fitsTable 2 rfl) rfl (fun q1 => ?_) (fun q1 => ?_)
  · refine tz_iload_n 1 rfl (zd DX5_fitsTable 5 rfl) ?_
    refine tz_iload_n 2 rfl (zd DX5_fitsTable 6 rfl) ?_
    refine tz_iconst (1 : Int32) zk_iconst_1 (zd DX5_fitsTable 7 rfl) ?_
    refine tz_iadd (zd DX5_fitsTable 8 rfl) ?_
    refine tz_case (fun _ => tz_none) (fun q2 => ?_)
    refine tz_idiv q2 (zd DX5_fitsTable 9 rfl) ?_
    refine tz_lti (fun v3 => ?_)
    refine tz_istore_n [(3, .int v3), (0, .ref 64), (1, .int a1), (2, .int a2)] (Nat.le_of_ble_eq_true rfl) rfl (zd DX5_fitsTable 10 rfl) ?_
    refine tz_iload_n 2 rfl (zd DX5_fitsTable 11 rfl) ?_
    refine tz_iload_n 3 rfl (zd DX5_fitsTable 12 rfl) ?_
    refine tz_iconst (1 : Int32) zk_iconst_1 (zd DX5_fitsTable 13 rfl) ?_
    refine tz_iadd (zd DX5_fitsTable 14 rfl) ?_
    refine tz_case (fun _ => tz_none) (fun q4 => ?_)
    refine tz_irem q4 (zd DX5_fitsTable 15 rfl) ?_
    refine tz_lti (fun v5 => ?_)
    refine tz_istore [(4, .int v5), (3, .int v3), (0, .ref 64), (1, .int a1), (2, .int a2)] (Nat.le_of_ble_eq_true rfl) rfl (zd DX5_fitsTable 16 rfl) ?_
    refine tz_aload_n 2 rfl (zd DX5_fitsTable 17 rfl) ?_
    refine tz_iload_n 3 rfl (zd DX5_fitsTable 18 rfl) ?_
    refine tz_cV_i kz5 (zs_64) rfl (rest := []) (YX5_signOrBehind) wk_357 (tX5_signOrBehind a1 w) rfl rfl (Nat.le_of_ble_eq_true rfl) ⟨Nat.le_of_ble_eq_true rfl, Nat.le_of_ble_eq_true rfl⟩ (zd DX5_fitsTable 19 rfl) (fun v8 w6 e7 => ?_)
    refine tz_istore [(5, .int v8), (4, .int v5), (3, .int v3), (0, .ref 64), (1, .int a1), (2, .int a2)] (Nat.le_of_ble_eq_true rfl) rfl (zd DX5_fitsTable 20 rfl) ?_
    refine tz_iload 1 rfl (zd DX5_fitsTable 21 rfl) ?_
    refine tz_iload_n 5 rfl (zd DX5_fitsTable 22 rfl) ?_
    refine tz_icmp_ge 65 (zd DX5_fitsTable 23 rfl) rfl (fun q9 => ?_) (fun q9 => ?_)
    · refine tz_iload_n 2 rfl (zd DX5_fitsTable 41 rfl) ?_
      refine tz_iload_n 5 rfl (zd DX5_fitsTable 42 rfl) ?_
      refine tz_iconst (1 : Int32) zk_iconst_1 (zd DX5_fitsTable 43 rfl) ?_
      refine tz_isub (zd DX5_fitsTable 44 rfl) ?_
      refine tz_icmp_ne 86 (zd DX5_fitsTable 45 rfl) rfl (fun q10 => ?_) (fun q10 => ?_)
      · refine tz_iload 0 rfl (zd DX5_fitsTable 53 rfl) ?_
        refine tz_bipush (47 : Int32) zk_bipush_47 (zd DX5_fitsTable 54 rfl) ?_
        refine tz_icmp_ne 97 (zd DX5_fitsTable 55 rfl) rfl (fun q11 => ?_) (fun q11 => ?_)
        · refine tz_iconst (0 : Int32) zk_iconst_0 (zd DX5_fitsTable 58 rfl) ?_
          exact tz_zret0 rfl (zd DX5_fitsTable 59 rfl)
        refine tz_iconst (1 : Int32) zk_iconst_1 (zd DX5_fitsTable 56 rfl) ?_
        refine tz_goto 98 (zd DX5_fitsTable 57 rfl) rfl ?_
        exact tz_zret1 rfl (zd DX5_fitsTable 59 rfl)
      refine tz_iload 0 rfl (zd DX5_fitsTable 46 rfl) ?_
      refine tz_iconst (-1 : Int32) zk_iconst_m1 (zd DX5_fitsTable 47 rfl) ?_
      refine tz_icmp_ne 82 (zd DX5_fitsTable 48 rfl) rfl (fun q12 => ?_) (fun q12 => ?_)
      · refine tz_iconst (0 : Int32) zk_iconst_0 (zd DX5_fitsTable 51 rfl) ?_
        refine tz_goto 98 (zd DX5_fitsTable 52 rfl) rfl ?_
        exact tz_zret0 rfl (zd DX5_fitsTable 59 rfl)
      refine tz_iconst (1 : Int32) zk_iconst_1 (zd DX5_fitsTable 49 rfl) ?_
      refine tz_goto 98 (zd DX5_fitsTable 50 rfl) rfl ?_
      exact tz_zret1 rfl (zd DX5_fitsTable 59 rfl)
    refine tz_iload 1 rfl (zd DX5_fitsTable 24 rfl) ?_
    refine tz_iconst (5 : Int32) zk_iconst_5 (zd DX5_fitsTable 25 rfl) ?_
    refine tz_icmp_ge 63 (zd DX5_fitsTable 26 rfl) rfl (fun q13 => ?_) (fun q13 => ?_)
    · refine tz_iconst (0 : Int32) zk_iconst_0 (zd DX5_fitsTable 39 rfl) ?_
      exact tz_zret0 rfl (zd DX5_fitsTable 40 rfl)
    refine tz_iload 0 rfl (zd DX5_fitsTable 27 rfl) ?_
    refine tz_bipush (48 : Int32) zk_bipush_48 (zd DX5_fitsTable 28 rfl) ?_
    refine tz_icmp_lt 63 (zd DX5_fitsTable 29 rfl) rfl (fun q14 => ?_) (fun q14 => ?_)
    · refine tz_iconst (0 : Int32) zk_iconst_0 (zd DX5_fitsTable 39 rfl) ?_
      exact tz_zret0 rfl (zd DX5_fitsTable 40 rfl)
    refine tz_iload 0 rfl (zd DX5_fitsTable 30 rfl) ?_
    refine tz_bipush (48 : Int32) zk_bipush_48 (zd DX5_fitsTable 31 rfl) ?_
    refine tz_iload_n 5 rfl (zd DX5_fitsTable 32 rfl) ?_
    refine tz_iconst (5 : Int32) zk_iconst_5 (zd DX5_fitsTable 33 rfl) ?_
    refine tz_mmin wk_361 wk_362 wk_10 wk_363 (Nat.le_of_ble_eq_true rfl) (Nat.le_of_ble_eq_true rfl) (zd DX5_fitsTable 34 rfl) ?_
    refine tz_iadd (zd DX5_fitsTable 35 rfl) ?_
    refine tz_icmp_ge 63 (zd DX5_fitsTable 36 rfl) rfl (fun q15 => ?_) (fun q15 => ?_)
    · refine tz_iconst (0 : Int32) zk_iconst_0 (zd DX5_fitsTable 39 rfl) ?_
      exact tz_zret0 rfl (zd DX5_fitsTable 40 rfl)
    refine tz_iconst (1 : Int32) zk_iconst_1 (zd DX5_fitsTable 37 rfl) ?_
    refine tz_goto 64 (zd DX5_fitsTable 38 rfl) rfl ?_
    exact tz_zret1 rfl (zd DX5_fitsTable 40 rfl)
  refine tz_iconst (0 : Int32) zk_iconst_0 (zd DX5_fitsTable 3 rfl) ?_
  exact tz_zret0 rfl (zd DX5_fitsTable 4 rfl)
def QX5_firstWrongInTable : List (Nat × Instr × Nat) := [(0, .aload_n 0, 1), (1, .invokevirtual 27, 3), (4, .istore_n 1, 1), (5, .iconst 0, 1), (6, .istore_n 2, 1), (7, .iload_n 2, 1), (8, .aload_n 0, 1), (9, .getfield 15, 3), (12, .if_icmp .gt 20, 3), (15, .aload_n 0, 1), (16, .iload_n 2, 1), (17, .iload_n 1, 1), (18, .invokevirtual 31, 3), (21, .ifCond .ne 5, 3), (24, .iload_n 2, 1), (25, .ireturn, 1), (26, .iinc 2 1, 3), (29, .goto (-22), 3), (32, .iconst (-1), 1), (33, .ireturn, 1)]
set_option maxRecDepth 100000 in
theorem DX5_firstWrongInTable : ∀ q ∈ QX5_firstWrongInTable, decode cX5_firstWrongInTable q.1 = .ok (q.2.1, q.2.2) := by decide +kernel
abbrev MX5_firstWrongInTable : zM := (cX5_firstWrongInTable, "EndSums$Text", 3, (some .int), { frames := 3, cells := 0, slots := 0, locals := 67 })
def fX5_firstWrongInTable_L7 (x1 : Int32) : Nat → Int32 → zW → Option (Int32 × zW)
  | 0, _, _ => none
  | n + 1, x2, w =>
    if (zI w 64 0) < x2 then
      some ((-1 : Int32), w)
    else
    bd (fX5_fitsTable x2 x1 w) fun b7 w5 =>
    if b7 = true then
      fX5_firstWrongInTable_L7 x1 n (x2 + (1 : Int32)) w5
    else
    some (x2, w5)
def fX5_firstWrongInTable  (w : zW) : Option (Int32 × zW) :=
  bd (fX5_firstRow w) fun v3 w1 =>
  fX5_firstWrongInTable_L7 v3 zFU (0 : Int32) w1
theorem YX5_firstWrongInTable : zYV yX5_firstWrongInTable MX5_firstWrongInTable 0 := ⟨wk_347, wk_7, ⟨wk_346, ws_20⟩, ⟨by decide, by decide, by decide +kernel⟩, rfl, rfl⟩
set_option maxHeartbeats 4000000 in
set_option maxRecDepth 100000 in
theorem lX5_firstWrongInTable_L7 (x1 : Int32) : ∀ (n : Nat) (x2 : Int32) (w : zW), Tz MX5_firstWrongInTable (zRet zi) (fX5_firstWrongInTable_L7 x1 n x2 w) 7 [(0, .ref 64), (1, .int x1), (2, .int x2)] [] w := by
  intro n
  induction n with
  | zero => intro x2 w; exact tz_eq (fX5_firstWrongInTable_L7.eq_1 _ _ _) tz_none
  | succ n ih =>
    intro x2 w
    refine tz_eq (fX5_firstWrongInTable_L7.eq_2 _ _ _ _) ?_
    refine tz_iload_n 2 rfl (zd DX5_firstWrongInTable 5 rfl) ?_
    refine tz_aload_n 0 rfl (zd DX5_firstWrongInTable 6 rfl) ?_
    refine tz_getI 0 kz5 (zs_64) (by decide) rfl wk_149 (zd DX5_firstWrongInTable 7 rfl) ?_
    refine tz_icmp_gt 32 (zd DX5_firstWrongInTable 8 rfl) rfl (fun q4 => ?_) (fun q4 => ?_)
    · refine tz_iconst (-1 : Int32) zk_iconst_m1 (zd DX5_firstWrongInTable 18 rfl) ?_
      exact tz_iret rfl (zd DX5_firstWrongInTable 19 rfl)
    refine tz_aload_n 0 rfl (zd DX5_firstWrongInTable 9 rfl) ?_
    refine tz_iload_n 2 rfl (zd DX5_firstWrongInTable 10 rfl) ?_
    refine tz_iload_n 1 rfl (zd DX5_firstWrongInTable 11 rfl) ?_
    refine tz_cV_z kz5 (zs_64) rfl (rest := []) (YX5_fitsTable) wk_353 (tX5_fitsTable x2 x1 w) rfl rfl (Nat.le_of_ble_eq_true rfl) ⟨Nat.le_of_ble_eq_true rfl, Nat.le_of_ble_eq_true rfl⟩ (zd DX5_firstWrongInTable 12 rfl) (fun b7 w5 e6 => ?_)
    refine tz_bif_ne 26 (zd DX5_firstWrongInTable 13 rfl) rfl (fun q8 => ?_) (fun q8 => ?_)
    · refine tz_iinc 2 (1 : Int32) [(2, .int (x2 + (1 : Int32))), (0, .ref 64), (1, .int x1)] rfl zk_iconst_1 (Nat.le_of_ble_eq_true rfl) rfl (zd DX5_firstWrongInTable 16 rfl) ?_
      refine tz_goto 7 (zd DX5_firstWrongInTable 17 rfl) rfl ?_
      refine tz_lv (lv2 := [(0, .ref 64), (1, .int x1), (2, .int (x2 + (1 : Int32)))]) [1, 2, 0] rfl ?_
      exact ih (x2 + (1 : Int32)) w5
    refine tz_iload_n 2 rfl (zd DX5_firstWrongInTable 14 rfl) ?_
    exact tz_iret rfl (zd DX5_firstWrongInTable 15 rfl)
set_option maxHeartbeats 4000000 in
set_option maxRecDepth 100000 in
theorem tX5_firstWrongInTable  (w : zW) : Sm yX5_firstWrongInTable MX5_firstWrongInTable zi [.ref 64] w (fX5_firstWrongInTable w) := by
  refine Sm_of (lv0 := [(0, .ref 64)]) (by decide) rfl (fun _ => Nat.le_of_ble_eq_true rfl) rfl ?_
  unfold fX5_firstWrongInTable
  refine tz_aload_n 0 rfl (zd DX5_firstWrongInTable 0 rfl) ?_
  refine tz_cV_i kz5 (zs_64) rfl (rest := []) (YX5_firstRow) wk_348 (tX5_firstRow w) rfl rfl (Nat.le_of_ble_eq_true rfl) ⟨Nat.le_of_ble_eq_true rfl, Nat.le_of_ble_eq_true rfl⟩ (zd DX5_firstWrongInTable 1 rfl) (fun v3 w1 e2 => ?_)
  refine tz_istore_n [(1, .int v3), (0, .ref 64)] (Nat.le_of_ble_eq_true rfl) rfl (zd DX5_firstWrongInTable 2 rfl) ?_
  refine tz_iconst (0 : Int32) zk_iconst_0 (zd DX5_firstWrongInTable 3 rfl) ?_
  refine tz_istore_n [(2, .int (0 : Int32)), (1, .int v3), (0, .ref 64)] (Nat.le_of_ble_eq_true rfl) rfl (zd DX5_firstWrongInTable 4 rfl) ?_
  refine tz_lv (lv2 := [(0, .ref 64), (1, .int v3), (2, .int (0 : Int32))]) [2, 1, 0] rfl ?_
  exact lX5_firstWrongInTable_L7 v3 zFU (0 : Int32) w1
def QX5_isAct : List (Nat × Instr × Nat) := [(0, .aload_n 0, 1), (1, .iload_n 1, 1), (2, .invokevirtual 45, 3), (5, .istore_n 2, 1), (6, .iload_n 2, 1), (7, .bipush 102, 2), (9, .if_icmp .eq 27, 3), (12, .iload_n 2, 1), (13, .bipush 98, 2), (15, .if_icmp .eq 21, 3), (18, .iload_n 2, 1), (19, .bipush 70, 2), (21, .if_icmp .eq 15, 3), (24, .iload_n 2, 1), (25, .bipush 66, 2), (27, .if_icmp .eq 9, 3), (30, .iload_n 2, 1), (31, .bipush 114, 2), (33, .if_icmp .ne 7, 3), (36, .iconst 1, 1), (37, .goto 4, 3), (40, .iconst 0, 1), (41, .ireturn, 1)]
set_option maxRecDepth 100000 in
theorem DX5_isAct : ∀ q ∈ QX5_isAct, decode cX5_isAct q.1 = .ok (q.2.1, q.2.2) := by decide +kernel
abbrev MX5_isAct : zM := (cX5_isAct, "EndSums$Text", 3, (some .boolean), { frames := 2, cells := 0, slots := 0, locals := 42 })
def fX5_isAct (a1 : Int32) (w : zW) : Option (Bool × zW) :=
  bd (fX5_signAt a1 w) fun v3 w1 =>
  if v3 = (102 : Int32) then
    some (true, w1)
  else
  if v3 = (98 : Int32) then
    some (true, w1)
  else
  if v3 = (70 : Int32) then
    some (true, w1)
  else
  if v3 = (66 : Int32) then
    some (true, w1)
  else
  if ¬ v3 = (114 : Int32) then
    some (false, w1)
  else
  some (true, w1)
theorem YX5_isAct : zYV yX5_isAct MX5_isAct 1 := ⟨wk_583, wk_7, ⟨wk_582, ws_54⟩, ⟨by decide, by decide, by decide +kernel⟩, rfl, rfl⟩
set_option maxHeartbeats 4000000 in
set_option maxRecDepth 100000 in
theorem tX5_isAct (a1 : Int32) (w : zW) : Sm yX5_isAct MX5_isAct zz [.ref 64, .int a1] w (fX5_isAct a1 w) := by
  refine Sm_of (lv0 := [(0, .ref 64), (1, .int a1)]) (by decide) rfl (fun _ => Nat.le_of_ble_eq_true rfl) rfl ?_
  unfold fX5_isAct
  refine tz_aload_n 0 rfl (zd DX5_isAct 0 rfl) ?_
  refine tz_iload_n 1 rfl (zd DX5_isAct 1 rfl) ?_
  refine tz_cV_i kz5 (zs_64) rfl (rest := []) (YX5_signAt) wk_579 (tX5_signAt a1 w) rfl rfl (Nat.le_of_ble_eq_true rfl) ⟨Nat.le_of_ble_eq_true rfl, Nat.le_of_ble_eq_true rfl⟩ (zd DX5_isAct 2 rfl) (fun v3 w1 e2 => ?_)
  refine tz_istore_n [(2, .int v3), (0, .ref 64), (1, .int a1)] (Nat.le_of_ble_eq_true rfl) rfl (zd DX5_isAct 3 rfl) ?_
  refine tz_iload_n 0 rfl (zd DX5_isAct 4 rfl) ?_
  refine tz_bipush (102 : Int32) zk_bipush_102 (zd DX5_isAct 5 rfl) ?_
  refine tz_icmp_eq 36 (zd DX5_isAct 6 rfl) rfl (fun q4 => ?_) (fun q4 => ?_)
  · refine tz_iconst (1 : Int32) zk_iconst_1 (zd DX5_isAct 19 rfl) ?_
    refine tz_goto 41 (zd DX5_isAct 20 rfl) rfl ?_
    exact tz_zret1 rfl (zd DX5_isAct 22 rfl)
  refine tz_iload_n 0 rfl (zd DX5_isAct 7 rfl) ?_
  refine tz_bipush (98 : Int32) zk_bipush_98 (zd DX5_isAct 8 rfl) ?_
  refine tz_icmp_eq 36 (zd DX5_isAct 9 rfl) rfl (fun q5 => ?_) (fun q5 => ?_)
  · refine tz_iconst (1 : Int32) zk_iconst_1 (zd DX5_isAct 19 rfl) ?_
    refine tz_goto 41 (zd DX5_isAct 20 rfl) rfl ?_
    exact tz_zret1 rfl (zd DX5_isAct 22 rfl)
  refine tz_iload_n 0 rfl (zd DX5_isAct 10 rfl) ?_
  refine tz_bipush (70 : Int32) zk_bipush_70 (zd DX5_isAct 11 rfl) ?_
  refine tz_icmp_eq 36 (zd DX5_isAct 12 rfl) rfl (fun q6 => ?_) (fun q6 => ?_)
  · refine tz_iconst (1 : Int32) zk_iconst_1 (zd DX5_isAct 19 rfl) ?_
    refine tz_goto 41 (zd DX5_isAct 20 rfl) rfl ?_
    exact tz_zret1 rfl (zd DX5_isAct 22 rfl)
  refine tz_iload_n 0 rfl (zd DX5_isAct 13 rfl) ?_
  refine tz_bipush (66 : Int32) zk_bipush_66 (zd DX5_isAct 14 rfl) ?_
  refine tz_icmp_eq 36 (zd DX5_isAct 15 rfl) rfl (fun q7 => ?_) (fun q7 => ?_)
  · refine tz_iconst (1 : Int32) zk_iconst_1 (zd DX5_isAct 19 rfl) ?_
    refine tz_goto 41 (zd DX5_isAct 20 rfl) rfl ?_
    exact tz_zret1 rfl (zd DX5_isAct 22 rfl)
  refine tz_iload_n 0 rfl (zd DX5_isAct 16 rfl) ?_
  refine tz_bipush (114 : Int32) zk_bipush_114 (zd DX5_isAct 17 rfl) ?_
  refine tz_icmp_ne 40 (zd DX5_isAct 18 rfl) rfl (fun q8 => ?_) (fun q8 => ?_)
  · refine tz_iconst (0 : Int32) zk_iconst_0 (zd DX5_isAct 21 rfl) ?_
    exact tz_zret0 rfl (zd DX5_isAct 22 rfl)
  refine tz_iconst (1 : Int32) zk_iconst_1 (zd DX5_isAct 19 rfl) ?_
  refine tz_goto 41 (zd DX5_isAct 20 rfl) rfl ?_
  exact tz_zret1 rfl (zd DX5_isAct 22 rfl)
def QX5_isPut : List (Nat × Instr × Nat) := [(0, .aload_n 0, 1), (1, .iload_n 1, 1), (2, .invokevirtual 45, 3), (5, .istore_n 2, 1), (6, .iload_n 2, 1), (7, .bipush 102, 2), (9, .if_icmp .eq 9, 3), (12, .iload_n 2, 1), (13, .bipush 98, 2), (15, .if_icmp .ne 7, 3), (18, .iconst 1, 1), (19, .goto 4, 3), (22, .iconst 0, 1), (23, .ireturn, 1)]
set_option maxRecDepth 100000 in
theorem DX5_isPut : ∀ q ∈ QX5_isPut, decode cX5_isPut q.1 = .ok (q.2.1, q.2.2) := by decide +kernel
abbrev MX5_isPut : zM := (cX5_isPut, "EndSums$Text", 3, (some .boolean), { frames := 2, cells := 0, slots := 0, locals := 42 })
def fX5_isPut (a1 : Int32) (w : zW) : Option (Bool × zW) :=
  bd (fX5_signAt a1 w) fun v3 w1 =>
  if v3 = (102 : Int32) then
    some (true, w1)
  else
  if ¬ v3 = (98 : Int32) then
    some (false, w1)
  else
  some (true, w1)
theorem YX5_isPut : zYV yX5_isPut MX5_isPut 1 := ⟨wk_578, wk_7, ⟨wk_577, ws_53⟩, ⟨by decide, by decide, by decide +kernel⟩, rfl, rfl⟩
set_option maxHeartbeats 4000000 in
set_option maxRecDepth 100000 in
theorem tX5_isPut (a1 : Int32) (w : zW) : Sm yX5_isPut MX5_isPut zz [.ref 64, .int a1] w (fX5_isPut a1 w) := by
  refine Sm_of (lv0 := [(0, .ref 64), (1, .int a1)]) (by decide) rfl (fun _ => Nat.le_of_ble_eq_true rfl) rfl ?_
  unfold fX5_isPut
  refine tz_aload_n 0 rfl (zd DX5_isPut 0 rfl) ?_
  refine tz_iload_n 1 rfl (zd DX5_isPut 1 rfl) ?_
  refine tz_cV_i kz5 (zs_64) rfl (rest := []) (YX5_signAt) wk_579 (tX5_signAt a1 w) rfl rfl (Nat.le_of_ble_eq_true rfl) ⟨Nat.le_of_ble_eq_true rfl, Nat.le_of_ble_eq_true rfl⟩ (zd DX5_isPut 2 rfl) (fun v3 w1 e2 => ?_)
  refine tz_istore_n [(2, .int v3), (0, .ref 64), (1, .int a1)] (Nat.le_of_ble_eq_true rfl) rfl (zd DX5_isPut 3 rfl) ?_
  refine tz_iload_n 0 rfl (zd DX5_isPut 4 rfl) ?_
  refine tz_bipush (102 : Int32) zk_bipush_102 (zd DX5_isPut 5 rfl) ?_
  refine tz_icmp_eq 18 (zd DX5_isPut 6 rfl) rfl (fun q4 => ?_) (fun q4 => ?_)
  · refine tz_iconst (1 : Int32) zk_iconst_1 (zd DX5_isPut 10 rfl) ?_
    refine tz_goto 23 (zd DX5_isPut 11 rfl) rfl ?_
    exact tz_zret1 rfl (zd DX5_isPut 13 rfl)
  refine tz_iload_n 0 rfl (zd DX5_isPut 7 rfl) ?_
  refine tz_bipush (98 : Int32) zk_bipush_98 (zd DX5_isPut 8 rfl) ?_
  refine tz_icmp_ne 22 (zd DX5_isPut 9 rfl) rfl (fun q5 => ?_) (fun q5 => ?_)
  · refine tz_iconst (0 : Int32) zk_iconst_0 (zd DX5_isPut 12 rfl) ?_
    exact tz_zret0 rfl (zd DX5_isPut 13 rfl)
  refine tz_iconst (1 : Int32) zk_iconst_1 (zd DX5_isPut 10 rfl) ?_
  refine tz_goto 23 (zd DX5_isPut 11 rfl) rfl ?_
  exact tz_zret1 rfl (zd DX5_isPut 13 rfl)
def QX5_digitsFrom : List (Nat × Instr × Nat) := [(0, .iconst 0, 1), (1, .istore_n 3, 1), (2, .iload_n 3, 1), (3, .iconst 4, 1), (4, .if_icmp .ge 29, 3), (7, .iload_n 1, 1), (8, .iload_n 3, 1), (9, .iadd, 1), (10, .iload_n 2, 1), (11, .if_icmp .ge 22, 3), (14, .aload_n 0, 1), (15, .iload_n 1, 1), (16, .iload_n 3, 1), (17, .iadd, 1), (18, .invokevirtual 45, 3), (21, .invokestatic 48, 3), (24, .ifCond .eq 9, 3), (27, .iinc 3 1, 3), (30, .goto (-28), 3), (33, .iload_n 3, 1), (34, .ireturn, 1)]
set_option maxRecDepth 100000 in
theorem DX5_digitsFrom : ∀ q ∈ QX5_digitsFrom, decode cX5_digitsFrom q.1 = .ok (q.2.1, q.2.2) := by decide +kernel
abbrev MX5_digitsFrom : zM := (cX5_digitsFrom, "EndSums$Text", 4, (some .int), { frames := 2, cells := 0, slots := 0, locals := 42 })
def fX5_digitsFrom_L2 (x1 : Int32) (x2 : Int32) : Nat → Int32 → zW → Option (Int32 × zW)
  | 0, _, _ => none
  | n + 1, x3, w =>
    if (4 : Int32) ≤ x3 then
      some (x3, w)
    else
    if x2 ≤ (x1 + x3) then
      some (x3, w)
    else
    bd (fX5_signAt (x1 + x3) w) fun v5 w3 =>
    bd (fX5_isDigit v5 w3) fun b8 w6 =>
    if b8 = true then
      fX5_digitsFrom_L2 x1 x2 n (x3 + (1 : Int32)) w6
    else
    some (x3, w6)
def fX5_digitsFrom (a1 : Int32) (a2 : Int32) (w : zW) : Option (Int32 × zW) :=
  fX5_digitsFrom_L2 a1 a2 zFU (0 : Int32) w
theorem YX5_digitsFrom : zYV yX5_digitsFrom MX5_digitsFrom 2 := ⟨wk_587, wk_7, ⟨wk_586, ws_55⟩, ⟨by decide, by decide, by decide +kernel⟩, rfl, rfl⟩
set_option maxHeartbeats 4000000 in
set_option maxRecDepth 100000 in
theorem lX5_digitsFrom_L2 (x1 : Int32) (x2 : Int32) : ∀ (n : Nat) (x3 : Int32) (w : zW), Tz MX5_digitsFrom (zRet zi) (fX5_digitsFrom_L2 x1 x2 n x3 w) 2 [(0, .ref 64), (1, .int x1), (2, .int x2), (3, .int x3)] [] w := by
  intro n
  induction n with
  | zero => intro x3 w; exact tz_eq (fX5_digitsFrom_L2.eq_1 _ _ _ _) tz_none
  | succ n ih =>
    intro x3 w
    refine tz_eq (fX5_digitsFrom_L2.eq_2 _ _ _ _ _) ?_
    refine tz_iload_n 3 rfl (zd DX5_digitsFrom 2 rfl) ?_
    refine tz_iconst (4 : Int32) zk_iconst_4 (zd DX5_digitsFrom 3 rfl) ?_
    refine tz_icmp_ge 33 (zd DX5_digitsFrom 4 rfl) rfl (fun q1 => ?_) (fun q1 => ?_)
    · refine tz_iload_n 3 rfl (zd DX5_digitsFrom 19 rfl) ?_
      exact tz_iret rfl (zd DX5_digitsFrom 20 rfl)
    refine tz_iload_n 1 rfl (zd DX5_digitsFrom 5 rfl) ?_
    refine tz_iload_n 3 rfl (zd DX5_digitsFrom 6 rfl) ?_
    refine tz_iadd (zd DX5_digitsFrom 7 rfl) ?_
    refine tz_iload_n 2 rfl (zd DX5_digitsFrom 8 rfl) ?_
    refine tz_icmp_ge 33 (zd DX5_digitsFrom 9 rfl) rfl (fun q2 => ?_) (fun q2 => ?_)
    · refine tz_iload_n 3 rfl (zd DX5_digitsFrom 19 rfl) ?_
      exact tz_iret rfl (zd DX5_digitsFrom 20 rfl)
    refine tz_aload_n 0 rfl (zd DX5_digitsFrom 10 rfl) ?_
    refine tz_iload_n 1 rfl (zd DX5_digitsFrom 11 rfl) ?_
    refine tz_iload_n 3 rfl (zd DX5_digitsFrom 12 rfl) ?_
    refine tz_iadd (zd DX5_digitsFrom 13 rfl) ?_
    refine tz_cV_i kz5 (zs_64) rfl (rest := []) (YX5_signAt) wk_579 (tX5_signAt (x1 + x3) w) rfl rfl (Nat.le_of_ble_eq_true rfl) ⟨Nat.le_of_ble_eq_true rfl, Nat.le_of_ble_eq_true rfl⟩ (zd DX5_digitsFrom 14 rfl) (fun v5 w3 e4 => ?_)
    refine tz_cS_z (rest := []) (YX5_isDigit) wk_588 (tX5_isDigit v5 w3) rfl rfl (Nat.le_of_ble_eq_true rfl) ⟨Nat.le_of_ble_eq_true rfl, Nat.le_of_ble_eq_true rfl⟩ (zd DX5_digitsFrom 15 rfl) (fun b8 w6 e7 => ?_)
    refine tz_bif_eq 33 (zd DX5_digitsFrom 16 rfl) rfl (fun q9 => ?_) (fun q9 => ?_)
    · refine tz_iinc 3 (1 : Int32) [(3, .int (x3 + (1 : Int32))), (0, .ref 64), (1, .int x1), (2, .int x2)] rfl zk_iconst_1 (Nat.le_of_ble_eq_true rfl) rfl (zd DX5_digitsFrom 17 rfl) ?_
      refine tz_goto 2 (zd DX5_digitsFrom 18 rfl) rfl ?_
      refine tz_lv (lv2 := [(0, .ref 64), (1, .int x1), (2, .int x2), (3, .int (x3 + (1 : Int32)))]) [1, 2, 3, 0] rfl ?_
      exact ih (x3 + (1 : Int32)) w6
    refine tz_iload_n 3 rfl (zd DX5_digitsFrom 19 rfl) ?_
    exact tz_iret rfl (zd DX5_digitsFrom 20 rfl)
set_option maxHeartbeats 4000000 in
set_option maxRecDepth 100000 in
theorem tX5_digitsFrom (a1 : Int32) (a2 : Int32) (w : zW) : Sm yX5_digitsFrom MX5_digitsFrom zi [.ref 64, .int a1, .int a2] w (fX5_digitsFrom a1 a2 w) := by
  refine Sm_of (lv0 := [(0, .ref 64), (1, .int a1), (2, .int a2)]) (by decide) rfl (fun _ => Nat.le_of_ble_eq_true rfl) rfl ?_
  unfold fX5_digitsFrom
  refine tz_iconst (0 : Int32) zk_iconst_0 (zd DX5_digitsFrom 0 rfl) ?_
  refine tz_istore_n [(3, .int (0 : Int32)), (0, .ref 64), (1, .int a1), (2, .int a2)] (Nat.le_of_ble_eq_true rfl) rfl (zd DX5_digitsFrom 1 rfl) ?_
  refine tz_lv (lv2 := [(0, .ref 64), (1, .int a1), (2, .int a2), (3, .int (0 : Int32))]) [1, 2, 3, 0] rfl ?_
  exact lX5_digitsFrom_L2 a1 a2 zFU (0 : Int32) w
def QX5_firstWrongInActs : List (Nat × Instr × Nat) := [(0, .iconst 0, 1), (1, .istore_n 1, 1), (2, .iload_n 1, 1), (3, .aload_n 0, 1), (4, .getfield 15, 3), (7, .if_icmp .ge 67, 3), (10, .aload_n 0, 1), (11, .iload_n 1, 1), (12, .invokevirtual 52, 3), (15, .istore_n 2, 1), (16, .aload_n 0, 1), (17, .iload_n 1, 1), (18, .invokevirtual 55, 3), (21, .ifCond .ne 15, 3), (24, .aload_n 0, 1), (25, .iload_n 1, 1), (26, .invokevirtual 45, 3), (29, .bipush 32, 2), (31, .if_icmp .eq 5, 3), (34, .iload_n 1, 1), (35, .ireturn, 1), (36, .iinc 1 1, 3), (39, .iload_n 2, 1), (40, .ifCond .eq 15, 3), (43, .aload_n 0, 1), (44, .iload_n 1, 1), (45, .aload_n 0, 1), (46, .getfield 15, 3), (49, .invokevirtual 58, 3), (52, .goto 4, 3), (55, .iconst 0, 1), (56, .istore_n 3, 1), (57, .iload_n 2, 1), (58, .ifCond .eq 9, 3), (61, .iload_n 3, 1), (62, .ifCond .ne 5, 3), (65, .iload_n 1, 1), (66, .ireturn, 1), (67, .iload_n 1, 1), (68, .iload_n 3, 1), (69, .iadd, 1), (70, .istore_n 1, 1), (71, .goto (-69), 3), (74, .iconst (-1), 1), (75, .ireturn, 1)]
set_option maxRecDepth 100000 in
theorem DX5_firstWrongInActs : ∀ q ∈ QX5_firstWrongInActs, decode cX5_firstWrongInActs q.1 = .ok (q.2.1, q.2.2) := by decide +kernel
abbrev MX5_firstWrongInActs : zM := (cX5_firstWrongInActs, "EndSums$Text", 4, (some .int), { frames := 3, cells := 0, slots := 0, locals := 65 })
def fX5_firstWrongInActs_L2  : Nat → Int32 → zW → Option (Int32 × zW)
  | 0, _, _ => none
  | n + 1, x1, w =>
    if (zI w 64 0) ≤ x1 then
      some ((-1 : Int32), w)
    else
    bd (fX5_isPut x1 w) fun b4 w2 =>
    lt (zb b4) fun v5 =>
    bd (fX5_isAct x1 w2) fun b8 w6 =>
    lt (fun (w9 : zW) =>
      lt (fun (s_56 : Int32) (w11 : zW) =>
        lt (fun (w12 : zW) =>
          lt ((x1 + (1 : Int32)) + s_56) fun v13 =>
          fX5_firstWrongInActs_L2 n v13 w12) fun j12 =>
        if v5 = (0 : Int32) then
          j12 w11
        else
        if ¬ s_56 = (0 : Int32) then
          j12 w11
        else
        some ((x1 + (1 : Int32)), w11)) fun j11 =>
      if v5 = (0 : Int32) then
        j11 (0 : Int32) w9
      else
      bd (fX5_digitsFrom (x1 + (1 : Int32)) (zI w9 64 0) w9) fun v19 w17 =>
      j11 v19 w17) fun j9 =>
    if b8 = true then
      j9 w6
    else
    bd (fX5_signAt x1 w6) fun v23 w21 =>
    if v23 = (32 : Int32) then
      j9 w21
    else
    some (x1, w21)
def fX5_firstWrongInActs  (w : zW) : Option (Int32 × zW) :=
  fX5_firstWrongInActs_L2 zFU (0 : Int32) w
theorem YX5_firstWrongInActs : zYV yX5_firstWrongInActs MX5_firstWrongInActs 0 := ⟨wk_574, wk_7, ⟨wk_573, ws_52⟩, ⟨by decide, by decide, by decide +kernel⟩, rfl, rfl⟩
set_option maxHeartbeats 4000000 in
set_option maxRecDepth 100000 in
theorem lX5_firstWrongInActs_L2  : ∀ (n : Nat) (x1 : Int32) (w : zW), Tz MX5_firstWrongInActs (zRet zi) (fX5_firstWrongInActs_L2 n x1 w) 2 [(0, .ref 64), (1, .int x1)] [] w := by
  intro n
  induction n with
  | zero => intro x1 w; exact tz_eq (fX5_firstWrongInActs_L2.eq_1 _ _) tz_none
  | succ n ih =>
    intro x1 w
    refine tz_eq (fX5_firstWrongInActs_L2.eq_2 _ _ _) ?_
    refine tz_iload_n 1 rfl (zd DX5_firstWrongInActs 2 rfl) ?_
    refine tz_aload_n 0 rfl (zd DX5_firstWrongInActs 3 rfl) ?_
    refine tz_getI 0 kz5 (zs_64) (by decide) rfl wk_149 (zd DX5_firstWrongInActs 4 rfl) ?_
    refine tz_icmp_ge 74 (zd DX5_firstWrongInActs 5 rfl) rfl (fun q1 => ?_) (fun q1 => ?_)
    · refine tz_iconst (-1 : Int32) zk_iconst_m1 (zd DX5_firstWrongInActs 43 rfl) ?_
      exact tz_iret rfl (zd DX5_firstWrongInActs 44 rfl)
    refine tz_aload_n 0 rfl (zd DX5_firstWrongInActs 6 rfl) ?_
    refine tz_iload_n 1 rfl (zd DX5_firstWrongInActs 7 rfl) ?_
    refine tz_cV_z kz5 (zs_64) rfl (rest := []) (YX5_isPut) wk_575 (tX5_isPut x1 w) rfl rfl (Nat.le_of_ble_eq_true rfl) ⟨Nat.le_of_ble_eq_true rfl, Nat.le_of_ble_eq_true rfl⟩ (zd DX5_firstWrongInActs 8 rfl) (fun b4 w2 e3 => ?_)
    refine tz_lti (fun v5 => ?_)
    refine tz_istore_n [(2, .int v5), (0, .ref 64), (1, .int x1)] (Nat.le_of_ble_eq_true rfl) rfl (zd DX5_firstWrongInActs 9 rfl) ?_
    refine tz_aload_n 1 rfl (zd DX5_firstWrongInActs 10 rfl) ?_
    refine tz_iload_n 2 rfl (zd DX5_firstWrongInActs 11 rfl) ?_
    refine tz_cV_z kz5 (zs_64) rfl (rest := []) (YX5_isAct) wk_580 (tX5_isAct x1 w2) rfl rfl (Nat.le_of_ble_eq_true rfl) ⟨Nat.le_of_ble_eq_true rfl, Nat.le_of_ble_eq_true rfl⟩ (zd DX5_firstWrongInActs 12 rfl) (fun b8 w6 e7 => ?_)
    refine tz_jp (P := fun j => ∀ (w9 : zW), Tz MX5_firstWrongInActs (zRet zi) (j w9) 36 [(0, .ref 64), (1, .int x1), (2, .int v5)] [] w9) ?_ (fun j9 hj9 => ?_)
    · intro w9
      refine tz_iinc 1 (1 : Int32) [(1, .int (x1 + (1 : Int32))), (0, .ref 64), (2, .int v5)] rfl zk_iconst_1 (Nat.le_of_ble_eq_true rfl) rfl (zd DX5_firstWrongInActs 21 rfl) ?_
      refine tz_iload_n 2 rfl (zd DX5_firstWrongInActs 22 rfl) ?_
      refine tz_jp (P := fun j => ∀ (s_56 : Int32) (w11 : zW), Tz MX5_firstWrongInActs (zRet zi) (j s_56 w11) 56 [(0, .ref 64), (1, .int (x1 + (1 : Int32))), (2, .int v5)] [.int s_56] w11) ?_ (fun j11 hj11 => ?_)
      · intro s_56 w11
        refine tz_istore_n [(3, .int s_56), (0, .ref 64), (1, .int (x1 + (1 : Int32))), (2, .int v5)] (Nat.le_of_ble_eq_true rfl) rfl (zd DX5_firstWrongInActs 31 rfl) ?_
        refine tz_iload_n 3 rfl (zd DX5_firstWrongInActs 32 rfl) ?_
        refine tz_jp (P := fun j => ∀ (w12 : zW), Tz MX5_firstWrongInActs (zRet zi) (j w12) 67 [(0, .ref 64), (1, .int (x1 + (1 : Int32))), (3, .int s_56)] [] w12) ?_ (fun j12 hj12 => ?_)
        · intro w12
          refine tz_iload_n 1 rfl (zd DX5_firstWrongInActs 38 rfl) ?_
          refine tz_iload_n 2 rfl (zd DX5_firstWrongInActs 39 rfl) ?_
          refine tz_iadd (zd DX5_firstWrongInActs 40 rfl) ?_
          refine tz_lti (fun v13 => ?_)
          refine tz_istore_n [(1, .int v13), (0, .ref 64), (3, .int s_56)] (Nat.le_of_ble_eq_true rfl) rfl (zd DX5_firstWrongInActs 41 rfl) ?_
          refine tz_goto 2 (zd DX5_firstWrongInActs 42 rfl) rfl ?_
          refine tz_lv (lv2 := [(0, .ref 64), (1, .int v13)]) [1, 0] rfl ?_
          exact ih v13 w12
        refine tz_if_eq 67 (zd DX5_firstWrongInActs 33 rfl) rfl (fun q14 => ?_) (fun q14 => ?_)
        · refine tz_lv (lv2 := [(0, .ref 64), (1, .int (x1 + (1 : Int32))), (3, .int s_56)]) [1, 2, 0] rfl ?_
          exact hj12 w11
        refine tz_iload_n 0 rfl (zd DX5_firstWrongInActs 34 rfl) ?_
        refine tz_if_ne 67 (zd DX5_firstWrongInActs 35 rfl) rfl (fun q15 => ?_) (fun q15 => ?_)
        · refine tz_lv (lv2 := [(0, .ref 64), (1, .int (x1 + (1 : Int32))), (3, .int s_56)]) [1, 2, 0] rfl ?_
          exact hj12 w11
        refine tz_iload_n 2 rfl (zd DX5_firstWrongInActs 36 rfl) ?_
        exact tz_iret rfl (zd DX5_firstWrongInActs 37 rfl)
      refine tz_if_eq 55 (zd DX5_firstWrongInActs 23 rfl) rfl (fun q16 => ?_) (fun q16 => ?_)
      · refine tz_iconst (0 : Int32) zk_iconst_0 (zd DX5_firstWrongInActs 30 rfl) ?_
        refine tz_lv (lv2 := [(0, .ref 64), (1, .int (x1 + (1 : Int32))), (2, .int v5)]) [1, 0, 2] rfl ?_
        exact hj11 (0 : Int32) w9
      refine tz_aload_n 1 rfl (zd DX5_firstWrongInActs 24 rfl) ?_
      refine tz_iload_n 0 rfl (zd DX5_firstWrongInActs 25 rfl) ?_
      refine tz_aload_n 1 rfl (zd DX5_firstWrongInActs 26 rfl) ?_
      refine tz_getI 0 kz5 (zs_64) (by decide) rfl wk_149 (zd DX5_firstWrongInActs 27 rfl) ?_
      refine tz_cV_i kz5 (zs_64) rfl (rest := []) (YX5_digitsFrom) wk_584 (tX5_digitsFrom (x1 + (1 : Int32)) (zI w9 64 0) w9) rfl rfl (Nat.le_of_ble_eq_true rfl) ⟨Nat.le_of_ble_eq_true rfl, Nat.le_of_ble_eq_true rfl⟩ (zd DX5_firstWrongInActs 28 rfl) (fun v19 w17 e18 => ?_)
      refine tz_goto 56 (zd DX5_firstWrongInActs 29 rfl) rfl ?_
      refine tz_lv (lv2 := [(0, .ref 64), (1, .int (x1 + (1 : Int32))), (2, .int v5)]) [1, 0, 2] rfl ?_
      exact hj11 v19 w17
    refine tz_bif_ne 36 (zd DX5_firstWrongInActs 13 rfl) rfl (fun q20 => ?_) (fun q20 => ?_)
    · refine tz_lv (lv2 := [(0, .ref 64), (1, .int x1), (2, .int v5)]) [1, 2, 0] rfl ?_
      exact hj9 w6
    refine tz_aload_n 1 rfl (zd DX5_firstWrongInActs 14 rfl) ?_
    refine tz_iload_n 2 rfl (zd DX5_firstWrongInActs 15 rfl) ?_
    refine tz_cV_i kz5 (zs_64) rfl (rest := []) (YX5_signAt) wk_579 (tX5_signAt x1 w6) rfl rfl (Nat.le_of_ble_eq_true rfl) ⟨Nat.le_of_ble_eq_true rfl, Nat.le_of_ble_eq_true rfl⟩ (zd DX5_firstWrongInActs 16 rfl) (fun v23 w21 e22 => ?_)
    refine tz_bipush (32 : Int32) zk_bipush_32 (zd DX5_firstWrongInActs 17 rfl) ?_
    refine tz_icmp_eq 36 (zd DX5_firstWrongInActs 18 rfl) rfl (fun q24 => ?_) (fun q24 => ?_)
    · refine tz_lv (lv2 := [(0, .ref 64), (1, .int x1), (2, .int v5)]) [1, 2, 0] rfl ?_
      exact hj9 w21
    refine tz_iload_n 2 rfl (zd DX5_firstWrongInActs 19 rfl) ?_
    exact tz_iret rfl (zd DX5_firstWrongInActs 20 rfl)
set_option maxHeartbeats 4000000 in
set_option maxRecDepth 100000 in
theorem tX5_firstWrongInActs  (w : zW) : Sm yX5_firstWrongInActs MX5_firstWrongInActs zi [.ref 64] w (fX5_firstWrongInActs w) := by
  refine Sm_of (lv0 := [(0, .ref 64)]) (by decide) rfl (fun _ => Nat.le_of_ble_eq_true rfl) rfl ?_
  unfold fX5_firstWrongInActs
  refine tz_iconst (0 : Int32) zk_iconst_0 (zd DX5_firstWrongInActs 0 rfl) ?_
  refine tz_istore_n [(1, .int (0 : Int32)), (0, .ref 64)] (Nat.le_of_ble_eq_true rfl) rfl (zd DX5_firstWrongInActs 1 rfl) ?_
  refine tz_lv (lv2 := [(0, .ref 64), (1, .int (0 : Int32))]) [1, 0] rfl ?_
  exact lX5_firstWrongInActs_L2 zFU (0 : Int32) w
