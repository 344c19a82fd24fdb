def QX8_hasCell : List (Nat × Instr × Nat) := [(0, .iconst 0, 1), (1, .istore_n 3, 1), (2, .iload_n 3, 1), (3, .aload_n 0, 1), (4, .iload_n 1, 1), (5, .invokevirtual 187, 3), (8, .if_icmp .ge 26, 3), (11, .aload_n 0, 1), (12, .getfield 69, 3), (15, .aload_n 0, 1), (16, .iload_n 1, 1), (17, .iload_n 3, 1), (18, .invokevirtual 181, 3), (21, .iaload, 1), (22, .iload_n 2, 1), (23, .if_icmp .ne 5, 3), (26, .iconst 1, 1), (27, .ireturn, 1), (28, .iinc 3 1, 3), (31, .goto (-29), 3), (34, .iconst 0, 1), (35, .ireturn, 1)]
set_option maxRecDepth 100000 in
theorem DX8_hasCell : ∀ q ∈ QX8_hasCell, decode cX8_hasCell q.1 = .ok (q.2.1, q.2.2) := by decide +kernel
abbrev MX8_hasCell : zM := (cX8_hasCell, "EndSumsModel", 4, (some .boolean), { frames := 2, cells := 0, slots := 0, locals := 44 })
def fX8_hasCell_L2 (x1 : Int32) (x2 : Int32) : Nat → Int32 → zW → Option (Bool × zW)
  | 0, _, _ => none
  | n + 1, x3, w =>
    bd (fX8_sizeOf x1 w) fun v3 w1 =>
    if v3 ≤ x3 then
      some (false, w1)
    else
    bd (fX8_placeOf x1 x3 w1) fun v7 w5 =>
    zg (zin v7 640) <|
    if ¬ (zI w5 84 v7.toNatClampNeg) = x2 then
      fX8_hasCell_L2 x1 x2 n (x3 + (1 : Int32)) w5
    else
    some (true, w5)
def fX8_hasCell (a1 : Int32) (a2 : Int32) (w : zW) : Option (Bool × zW) :=
  fX8_hasCell_L2 a1 a2 zFU (0 : Int32) w
theorem YX8_hasCell : zYV yX8_hasCell MX8_hasCell 2 := ⟨wk_1274, wk_9, ⟨wk_1273, ws_114⟩, ⟨by decide, by decide, by decide +kernel⟩, rfl, rfl⟩
set_option maxHeartbeats 4000000 in
set_option maxRecDepth 100000 in
theorem lX8_hasCell_L2 (x1 : Int32) (x2 : Int32) : ∀ (n : Nat) (x3 : Int32) (w : zW), Tz MX8_hasCell (zRet zz) (fX8_hasCell_L2 x1 x2 n x3 w) 2 [(0, .ref 74), (1, .int x1), (2, .int x2), (3, .int x3)] [] w := by
  intro n
  induction n with
  | zero => intro x3 w; exact tz_eq (fX8_hasCell_L2.eq_1 _ _ _ _) tz_none
  | succ n ih =>
    intro x3 w
    refine tz_eq (fX8_hasCell_L2.eq_2 _ _ _ _ _) ?_
    refine tz_iload_n 3 rfl (zd DX8_hasCell 2 rfl) ?_
    refine tz_aload_n 0 rfl (zd DX8_hasCell 3 rfl) ?_
    refine tz_iload_n 1 rfl (zd DX8_hasCell 4 rfl) ?_
    refine tz_cV_i kz8 (zs_74) rfl (rest := [.int x3]) (YX8_sizeOf) wk_1042 (tX8_sizeOf x1 w) rfl rfl (Nat.le_of_ble_eq_true rfl) ⟨Nat.le_of_ble_eq_true rfl, Nat.le_of_ble_eq_true rfl⟩ (zd DX8_hasCell 5 rfl) (fun v3 w1 e2 => ?_)
    refine tz_icmp_ge 34 (zd DX8_hasCell 6 rfl) rfl (fun q4 => ?_) (fun q4 => ?_)
    · refine tz_iconst (0 : Int32) zk_iconst_0 (zd DX8_hasCell 20 rfl) ?_
      exact tz_zret0 rfl (zd DX8_hasCell 21 rfl)
    refine tz_aload_n 0 rfl (zd DX8_hasCell 7 rfl) ?_
    refine tz_getR 84 19 kz8 (zs_74) (by decide) (by decide) rfl wk_876 (zd DX8_hasCell 8 rfl) ?_
    refine tz_aload_n 0 rfl (zd DX8_hasCell 9 rfl) ?_
    refine tz_iload_n 1 rfl (zd DX8_hasCell 10 rfl) ?_
    refine tz_iload_n 3 rfl (zd DX8_hasCell 11 rfl) ?_
    refine tz_cV_i kz8 (zs_74) rfl (rest := [.ref 84]) (YX8_placeOf) wk_1050 (tX8_placeOf x1 x3 w1) rfl rfl (Nat.le_of_ble_eq_true rfl) ⟨Nat.le_of_ble_eq_true rfl, Nat.le_of_ble_eq_true rfl⟩ (zd DX8_hasCell 12 rfl) (fun v7 w5 e6 => ?_)
    refine tz_iald (zs_84.1) (zs_84.2) (zd DX8_hasCell 13 rfl) ?_
    refine tz_iload_n 2 rfl (zd DX8_hasCell 14 rfl) ?_
    refine tz_icmp_ne 28 (zd DX8_hasCell 15 rfl) rfl (fun q8 => ?_) (fun q8 => ?_)
    · refine tz_iinc 3 (1 : Int32) [(3, .int (x3 + (1 : Int32))), (0, .ref 74), (1, .int x1), (2, .int x2)] rfl zk_iconst_1 (Nat.le_of_ble_eq_true rfl) rfl (zd DX8_hasCell 18 rfl) ?_
      refine tz_goto 2 (zd DX8_hasCell 19 rfl) rfl ?_
      refine tz_lv (lv2 := [(0, .ref 74), (1, .int x1), (2, .int x2), (3, .int (x3 + (1 : Int32)))]) [1, 2, 3, 0] rfl ?_
      exact ih (x3 + (1 : Int32)) w5
    refine tz_iconst (1 : Int32) zk_iconst_1 (zd DX8_hasCell 16 rfl) ?_
    exact tz_zret1 rfl (zd DX8_hasCell 17 rfl)
set_option maxHeartbeats 4000000 in
set_option maxRecDepth 100000 in
theorem tX8_hasCell (a1 : Int32) (a2 : Int32) (w : zW) : Sm yX8_hasCell MX8_hasCell zz [.ref 74, .int a1, .int a2] w (fX8_hasCell a1 a2 w) := by
  refine Sm_of (lv0 := [(0, .ref 74), (1, .int a1), (2, .int a2)]) (by decide) rfl (fun _ => Nat.le_of_ble_eq_true rfl) rfl ?_
  unfold fX8_hasCell
  refine tz_iconst (0 : Int32) zk_iconst_0 (zd DX8_hasCell 0 rfl) ?_
  refine tz_istore_n [(3, .int (0 : Int32)), (0, .ref 74), (1, .int a1), (2, .int a2)] (Nat.le_of_ble_eq_true rfl) rfl (zd DX8_hasCell 1 rfl) ?_
  refine tz_lv (lv2 := [(0, .ref 74), (1, .int a1), (2, .int a2), (3, .int (0 : Int32))]) [1, 2, 3, 0] rfl ?_
  exact lX8_hasCell_L2 a1 a2 zFU (0 : Int32) w
def QX8_same : List (Nat × Instr × Nat) := [(0, .aload_n 0, 1), (1, .iconst 0, 1), (2, .putfield 1, 3), (5, .iload_n 1, 1), (6, .invokestatic 237, 3), (9, .ifCond .eq 10, 3), (12, .iload_n 2, 1), (13, .invokestatic 237, 3), (16, .ifCond .ne 5, 3), (19, .iconst (-1), 1), (20, .ireturn, 1), (21, .aload_n 0, 1), (22, .iload_n 1, 1), (23, .invokevirtual 187, 3), (26, .aload_n 0, 1), (27, .iload_n 2, 1), (28, .invokevirtual 187, 3), (31, .if_icmp .ne 7, 3), (34, .iconst 1, 1), (35, .goto 4, 3), (38, .iconst 0, 1), (39, .istore_n 3, 1), (40, .iconst 0, 1), (41, .istore 4, 2), (43, .iconst 0, 1), (44, .istore 5, 2), (46, .iload 5, 2), (48, .aload_n 0, 1), (49, .iload_n 1, 1), (50, .invokevirtual 187, 3), (53, .if_icmp .ge 61, 3), (56, .iload_n 3, 1), (57, .ifCond .eq 24, 3), (60, .aload_n 0, 1), (61, .iload_n 1, 1), (62, .iload 5, 2), (64, .invokevirtual 190, 3), (67, .aload_n 0, 1), (68, .iload_n 2, 1), (69, .iload 5, 2), (71, .invokevirtual 190, 3), (74, .if_icmp .ne 7, 3), (77, .iconst 1, 1), (78, .goto 4, 3), (81, .iconst 0, 1), (82, .istore_n 3, 1), (83, .iload 4, 2), (85, .aload_n 0, 1), (86, .iload_n 2, 1), (87, .aload_n 0, 1), (88, .getfield 69, 3), (91, .aload_n 0, 1), (92, .iload_n 1, 1), (93, .iload 5, 2), (95, .invokevirtual 181, 3), (98, .iaload, 1), (99, .invokevirtual 305, 3), (102, .invokestatic 31, 3), (105, .iadd, 1), (106, .istore 4, 2), (108, .iinc 5 1, 3), (111, .goto (-65), 3), (114, .aload_n 0, 1), (115, .iload_n 1, 1), (116, .invokevirtual 263, 3), (119, .aload_n 0, 1), (120, .getfield 96, 3), (123, .lstore 5, 2), (125, .aload_n 0, 1), (126, .getfield 100, 3), (129, .lstore 7, 2), (131, .aload_n 0, 1), (132, .iload_n 2, 1), (133, .invokevirtual 263, 3), (136, .aload_n 0, 1), (137, .iconst 0, 1), (138, .putfield 11, 3), (141, .aload_n 0, 1), (142, .lload 5, 2), (144, .aload_n 0, 1), (145, .getfield 96, 3), (148, .lcmp, 1), (149, .ifCond .ne 17, 3), (152, .lload 7, 2), (154, .aload_n 0, 1), (155, .getfield 100, 3), (158, .lcmp, 1), (159, .ifCond .ne 7, 3), (162, .iconst 1, 1), (163, .goto 4, 3), (166, .iconst 0, 1), (167, .invokestatic 31, 3), (170, .i2l, 1), (171, .invokevirtual 164, 3), (174, .aload_n 0, 1), (175, .iload 4, 2), (177, .i2l, 1), (178, .invokevirtual 164, 3), (181, .iload_n 3, 1), (182, .invokestatic 31, 3), (185, .ireturn, 1)]
set_option maxRecDepth 100000 in
theorem DX8_same : ∀ q ∈ QX8_same, decode cX8_same q.1 = .ok (q.2.1, q.2.2) := by decide +kernel
abbrev MX8_same : zM := (cX8_same, "EndSumsModel", 9, (some .int), { frames := 5, cells := 0, slots := 0, locals := 125 })
def fX8_same_L46 (x1 : Int32) (x2 : Int32) : Nat → Int32 → Int32 → Int32 → zW → Option (Int32 × zW)
  | 0, _, _, _, _ => none
  | n + 1, x3, x4, x5, w =>
    bd (fX8_sizeOf x1 w) fun v20 w18 =>
    if v20 ≤ x5 then
      bd (fX8_summary x1 w18) fun _ w22 =>
      lt (zL w22 74 11) fun v25 =>
      lt (zL w22 74 12) fun v26 =>
      bd (fX8_summary x2 w22) fun _ w27 =>
      lt (zsI w27 74 1 (0 : Int32)) fun w30 =>
      if ¬ v25 = (zL w30 74 11) then
        bd (fX8_flag (0 : Int32) w30) fun v34 w32 =>
        bd (fX8_enters (v34).toInt64 w32) fun _ w35 =>
        bd (fX8_enters (x4).toInt64 w35) fun _ w38 =>
        bd (fX8_flag x3 w38) fun v43 w41 =>
        some (v43, w41)
      else
      if ¬ v26 = (zL w30 74 12) then
        bd (fX8_flag (0 : Int32) w30) fun v47 w45 =>
        bd (fX8_enters (v47).toInt64 w45) fun _ w48 =>
        bd (fX8_enters (x4).toInt64 w48) fun _ w51 =>
        bd (fX8_flag x3 w51) fun v56 w54 =>
        some (v56, w54)
      else
      bd (fX8_flag (1 : Int32) w30) fun v59 w57 =>
      bd (fX8_enters (v59).toInt64 w57) fun _ w60 =>
      bd (fX8_enters (x4).toInt64 w60) fun _ w63 =>
      bd (fX8_flag x3 w63) fun v68 w66 =>
      some (v68, w66)
    else
    lt (fun (s_82 : Int32) (w70 : zW) =>
      bd (fX8_placeOf x1 x5 w70) fun v73 w71 =>
      zg (zin v73 640) <|
      bd (fX8_hasCell x2 (zI w71 84 v73.toNatClampNeg) w71) fun b76 w74 =>
      bd (fX8_flag (zb b76) w74) fun v79 w77 =>
      lt (x4 + v79) fun v80 =>
      fX8_same_L46 x1 x2 n s_82 v80 (x5 + (1 : Int32)) w77) fun j70 =>
    lt (fun (w81 : zW) =>
      j70 (0 : Int32) w81) fun j81 =>
    if x3 = (0 : Int32) then
      j81 w18
    else
    bd (fX8_itemAt x1 x5 w18) fun v85 w83 =>
    bd (fX8_itemAt x2 x5 w83) fun v88 w86 =>
    if ¬ v85 = v88 then
      j81 w86
    else
    j70 (1 : Int32) w86
def fX8_same (a1 : Int32) (a2 : Int32) (w : zW) : Option (Int32 × zW) :=
  lt (zsI w 74 0 (0 : Int32)) fun w1 =>
  bd (fX8_isLine a1 w1) fun b4 w2 =>
  if b4 = true then
    bd (fX8_isLine a2 w2) fun b8 w6 =>
    if b8 = true then
      bd (fX8_sizeOf a1 w6) fun v12 w10 =>
      bd (fX8_sizeOf a2 w10) fun v15 w13 =>
      lt (if ¬ v12 = v15 then (0 : Int32) else (1 : Int32)) fun v17 =>
      fX8_same_L46 a1 a2 zFU v17 (0 : Int32) (0 : Int32) w13
    else
    some ((-1 : Int32), w6)
  else
  some ((-1 : Int32), w2)
theorem YX8_same : zYV yX8_same MX8_same 2 := ⟨wk_1270, wk_9, ⟨wk_1268, wk_1269⟩, ⟨by decide, by decide, by decide +kernel⟩, rfl, rfl⟩
set_option maxHeartbeats 4000000 in
set_option maxRecDepth 100000 in
theorem lX8_same_L46 (x1 : Int32) (x2 : Int32) : ∀ (n : Nat) (x3 : Int32) (x4 : Int32) (x5 : Int32) (w : zW), Tz MX8_same (zRet zi) (fX8_same_L46 x1 x2 n x3 x4 x5 w) 46 [(0, .ref 74), (1, .int x1), (2, .int x2), (3, .int x3), (4, .int x4), (5, .int x5)] [] w := by
  intro n
  induction n with
  | zero => intro x3 x4 x5 w; exact tz_eq (fX8_same_L46.eq_1 _ _ _ _ _ _) tz_none
  | succ n ih =>
    intro x3 x4 x5 w
    refine tz_eq (fX8_same_L46.eq_2 _ _ _ _ _ _ _) ?_
    refine tz_iload 5 rfl (zd DX8_same 26 rfl) ?_
    refine tz_aload_n 0 rfl (zd DX8_same 27 rfl) ?_
    refine tz_iload_n 1 rfl (zd DX8_same 28 rfl) ?_
    refine tz_cV_i kz8 (zs_74) rfl (rest := [.int x5]) (YX8_sizeOf) wk_1042 (tX8_sizeOf x1 w) rfl rfl (Nat.le_of_ble_eq_true rfl) ⟨Nat.le_of_ble_eq_true rfl, Nat.le_of_ble_eq_true rfl⟩ (zd DX8_same 29 rfl) (fun v20 w18 e19 => ?_)
    refine tz_icmp_ge 114 (zd DX8_same 30 rfl) rfl (fun q21 => ?_) (fun q21 => ?_)
    · refine tz_aload_n 0 rfl (zd DX8_same 62 rfl) ?_
      refine tz_iload_n 1 rfl (zd DX8_same 63 rfl) ?_
      refine tz_cV_n kz8 (zs_74) rfl (rest := []) (YX8_summary) wk_1176 (tX8_summary x1 w18) rfl rfl (Nat.le_of_ble_eq_true rfl) ⟨Nat.le_of_ble_eq_true rfl, Nat.le_of_ble_eq_true rfl⟩ (zd DX8_same 64 rfl) (fun v24 w22 e23 => ?_)
      refine tz_aload_n 0 rfl (zd DX8_same 65 rfl) ?_
      refine tz_getJ 11 kz8 (zs_74) (by decide) rfl wk_868 (zd DX8_same 66 rfl) ?_
      refine tz_ltl (fun v25 => ?_)
      refine tz_lstore [(5, .long v25), (0, .ref 74), (1, .int x1), (2, .int x2), (3, .int x3), (4, .int x4)] (Nat.le_of_ble_eq_true rfl) rfl (zd DX8_same 67 rfl) ?_
      refine tz_aload_n 1 rfl (zd DX8_same 68 rfl) ?_
      refine tz_getJ 12 kz8 (zs_74) (by decide) rfl wk_869 (zd DX8_same 69 rfl) ?_
      refine tz_ltl (fun v26 => ?_)
      refine tz_lstore [(7, .long v26), (5, .long v25), (0, .ref 74), (1, .int x1), (2, .int x2), (3, .int x3), (4, .int x4)] (Nat.le_of_ble_eq_true rfl) rfl (zd DX8_same 70 rfl) ?_
      refine tz_aload_n 2 rfl (zd DX8_same 71 rfl) ?_
      refine tz_iload_n 4 rfl (zd DX8_same 72 rfl) ?_
      refine tz_cV_n kz8 (zs_74) rfl (rest := []) (YX8_summary) wk_1176 (tX8_summary x2 w22) rfl rfl (Nat.le_of_ble_eq_true rfl) ⟨Nat.le_of_ble_eq_true rfl, Nat.le_of_ble_eq_true rfl⟩ (zd DX8_same 73 rfl) (fun v29 w27 e28 => ?_)
      refine tz_aload_n 2 rfl (zd DX8_same 74 rfl) ?_
      refine tz_iconst (0 : Int32) zk_iconst_0 (zd DX8_same 75 rfl) ?_
      refine tz_putI 1 kz8 (zs_74) (by decide) rfl rfl wk_858 (zd DX8_same 76 rfl) (fun w30 => ?_)
      refine tz_aload_n 2 rfl (zd DX8_same 77 rfl) ?_
      refine tz_lload 1 rfl (zd DX8_same 78 rfl) ?_
      refine tz_aload_n 2 rfl (zd DX8_same 79 rfl) ?_
      refine tz_getJ 11 kz8 (zs_74) (by decide) rfl wk_868 (zd DX8_same 80 rfl) ?_
      refine tz_lcmp_ne 166 (zd DX8_same 81 rfl) (zd DX8_same 82 rfl) rfl (fun q31 => ?_) (fun q31 => ?_)
      · refine tz_iconst (0 : Int32) zk_iconst_0 (zd DX8_same 90 rfl) ?_
        refine tz_cS_i (rest := [.ref 74]) (YX8_flag) wk_981 (tX8_flag (0 : Int32) w30) rfl rfl (Nat.le_of_ble_eq_true rfl) ⟨Nat.le_of_ble_eq_true rfl, Nat.le_of_ble_eq_true rfl⟩ (zd DX8_same 91 rfl) (fun v34 w32 e33 => ?_)
        refine tz_i2l (zd DX8_same 92 rfl) ?_
        refine tz_cV_n kz8 (zs_74) rfl (rest := []) (YX8_enters) wk_1002 (tX8_enters (v34).toInt64 w32) rfl rfl (Nat.le_of_ble_eq_true rfl) ⟨Nat.le_of_ble_eq_true rfl, Nat.le_of_ble_eq_true rfl⟩ (zd DX8_same 93 rfl) (fun v37 w35 e36 => ?_)
        refine tz_aload_n 2 rfl (zd DX8_same 94 rfl) ?_
        refine tz_iload 6 rfl (zd DX8_same 95 rfl) ?_
        refine tz_i2l (zd DX8_same 96 rfl) ?_
        refine tz_cV_n kz8 (zs_74) rfl (rest := []) (YX8_enters) wk_1002 (tX8_enters (x4).toInt64 w35) rfl rfl (Nat.le_of_ble_eq_true rfl) ⟨Nat.le_of_ble_eq_true rfl, Nat.le_of_ble_eq_true rfl⟩ (zd DX8_same 97 rfl) (fun v40 w38 e39 => ?_)
        refine tz_iload_n 5 rfl (zd DX8_same 98 rfl) ?_
        refine tz_cS_i (rest := []) (YX8_flag) wk_981 (tX8_flag x3 w38) rfl rfl (Nat.le_of_ble_eq_true rfl) ⟨Nat.le_of_ble_eq_true rfl, Nat.le_of_ble_eq_true rfl⟩ (zd DX8_same 99 rfl) (fun v43 w41 e42 => ?_)
        exact tz_iret rfl (zd DX8_same 100 rfl)
      refine tz_lload 0 rfl (zd DX8_same 83 rfl) ?_
      refine tz_aload_n 2 rfl (zd DX8_same 84 rfl) ?_
      refine tz_getJ 12 kz8 (zs_74) (by decide) rfl wk_869 (zd DX8_same 85 rfl) ?_
      refine tz_lcmp_ne 166 (zd DX8_same 86 rfl) (zd DX8_same 87 rfl) rfl (fun q44 => ?_) (fun q44 => ?_)
      · refine tz_iconst (0 : Int32) zk_iconst_0 (zd DX8_same 90 rfl) ?_
        refine tz_cS_i (rest := [.ref 74]) (YX8_flag) wk_981 (tX8_flag (0 : Int32) w30) rfl rfl (Nat.le_of_ble_eq_true rfl) ⟨Nat.le_of_ble_eq_true rfl, Nat.le_of_ble_eq_true rfl⟩ (zd DX8_same 91 rfl) (fun v47 w45 e46 => ?_)
        refine tz_i2l (zd DX8_same 92 rfl) ?_
        refine tz_cV_n kz8 (zs_74) rfl (rest := []) (YX8_enters) wk_1002 (tX8_enters (v47).toInt64 w45) rfl rfl (Nat.le_of_ble_eq_true rfl) ⟨Nat.le_of_ble_eq_true rfl, Nat.le_of_ble_eq_true rfl⟩ (zd DX8_same 93 rfl) (fun v50 w48 e49 => ?_)
        refine tz_aload_n 2 rfl (zd DX8_same 94 rfl) ?_
        refine tz_iload 6 rfl (zd DX8_same 95 rfl) ?_
        refine tz_i2l (zd DX8_same 96 rfl) ?_
        refine tz_cV_n kz8 (zs_74) rfl (rest := []) (YX8_enters) wk_1002 (tX8_enters (x4).toInt64 w48) rfl rfl (Nat.le_of_ble_eq_true rfl) ⟨Nat.le_of_ble_eq_true rfl, Nat.le_of_ble_eq_true rfl⟩ (zd DX8_same 97 rfl) (fun v53 w51 e52 => ?_)
        refine tz_iload_n 5 rfl (zd DX8_same 98 rfl) ?_
        refine tz_cS_i (rest := []) (YX8_flag) wk_981 (tX8_flag x3 w51) rfl rfl (Nat.le_of_ble_eq_true rfl) ⟨Nat.le_of_ble_eq_true rfl, Nat.le_of_ble_eq_true rfl⟩ (zd DX8_same 99 rfl) (fun v56 w54 e55 => ?_)
        exact tz_iret rfl (zd DX8_same 100 rfl)
      refine tz_iconst (1 : Int32) zk_iconst_1 (zd DX8_same 88 rfl) ?_
      refine tz_goto 167 (zd DX8_same 89 rfl) rfl ?_
      refine tz_cS_i (rest := [.ref 74]) (YX8_flag) wk_981 (tX8_flag (1 : Int32) w30) rfl rfl (Nat.le_of_ble_eq_true rfl) ⟨Nat.le_of_ble_eq_true rfl, Nat.le_of_ble_eq_true rfl⟩ (zd DX8_same 91 rfl) (fun v59 w57 e58 => ?_)
      refine tz_i2l (zd DX8_same 92 rfl) ?_
      refine tz_cV_n kz8 (zs_74) rfl (rest := []) (YX8_enters) wk_1002 (tX8_enters (v59).toInt64 w57) rfl rfl (Nat.le_of_ble_eq_true rfl) ⟨Nat.le_of_ble_eq_true rfl, Nat.le_of_ble_eq_true rfl⟩ (zd DX8_same 93 rfl) (fun v62 w60 e61 => ?_)
      refine tz_aload_n 2 rfl (zd DX8_same 94 rfl) ?_
      refine tz_iload 6 rfl (zd DX8_same 95 rfl) ?_
      refine tz_i2l (zd DX8_same 96 rfl) ?_
      refine tz_cV_n kz8 (zs_74) rfl (rest := []) (YX8_enters) wk_1002 (tX8_enters (x4).toInt64 w60) rfl rfl (Nat.le_of_ble_eq_true rfl) ⟨Nat.le_of_ble_eq_true rfl, Nat.le_of_ble_eq_true rfl⟩ (zd DX8_same 97 rfl) (fun v65 w63 e64 => ?_)
      refine tz_iload_n 5 rfl (zd DX8_same 98 rfl) ?_
      refine tz_cS_i (rest := []) (YX8_flag) wk_981 (tX8_flag x3 w63) rfl rfl (Nat.le_of_ble_eq_true rfl) ⟨Nat.le_of_ble_eq_true rfl, Nat.le_of_ble_eq_true rfl⟩ (zd DX8_same 99 rfl) (fun v68 w66 e67 => ?_)
      exact tz_iret rfl (zd DX8_same 100 rfl)
    refine tz_iload_n 3 rfl (zd DX8_same 31 rfl) ?_
    refine tz_jp (P := fun j => ∀ (s_82 : Int32) (w70 : zW), Tz MX8_same (zRet zi) (j s_82 w70) 82 [(0, .ref 74), (1, .int x1), (2, .int x2), (4, .int x4), (5, .int x5)] [.int s_82] w70) ?_ (fun j70 hj70 => ?_)
    · intro s_82 w70
      refine tz_istore_n [(3, .int s_82), (0, .ref 74), (1, .int x1), (2, .int x2), (4, .int x4), (5, .int x5)] (Nat.le_of_ble_eq_true rfl) rfl (zd DX8_same 45 rfl) ?_
      refine tz_iload 4 rfl (zd DX8_same 46 rfl) ?_
      refine tz_aload_n 1 rfl (zd DX8_same 47 rfl) ?_
      refine tz_iload_n 3 rfl (zd DX8_same 48 rfl) ?_
      refine tz_aload_n 1 rfl (zd DX8_same 49 rfl) ?_
      refine tz_getR 84 19 kz8 (zs_74) (by decide) (by decide) rfl wk_876 (zd DX8_same 50 rfl) ?_
      refine tz_aload_n 1 rfl (zd DX8_same 51 rfl) ?_
      refine tz_iload_n 2 rfl (zd DX8_same 52 rfl) ?_
      refine tz_iload 5 rfl (zd DX8_same 53 rfl) ?_
      refine tz_cV_i kz8 (zs_74) rfl (rest := [.ref 84, .int x2, .ref 74, .int x4]) (YX8_placeOf) wk_1050 (tX8_placeOf x1 x5 w70) rfl rfl (Nat.le_of_ble_eq_true rfl) ⟨Nat.le_of_ble_eq_true rfl, Nat.le_of_ble_eq_true rfl⟩ (zd DX8_same 54 rfl) (fun v73 w71 e72 => ?_)
      refine tz_iald (zs_84.1) (zs_84.2) (zd DX8_same 55 rfl) ?_
      refine tz_cV_z kz8 (zs_74) rfl (rest := [.int x4]) (YX8_hasCell) wk_1271 (tX8_hasCell x2 (zI w71 84 v73.toNatClampNeg) w71) rfl rfl (Nat.le_of_ble_eq_true rfl) ⟨Nat.le_of_ble_eq_true rfl, Nat.le_of_ble_eq_true rfl⟩ (zd DX8_same 56 rfl) (fun b76 w74 e75 => ?_)
      refine tz_cS_i (rest := [.int x4]) (YX8_flag) wk_981 (tX8_flag (zb b76) w74) rfl rfl (Nat.le_of_ble_eq_true rfl) ⟨Nat.le_of_ble_eq_true rfl, Nat.le_of_ble_eq_true rfl⟩ (zd DX8_same 57 rfl) (fun v79 w77 e78 => ?_)
      refine tz_iadd (zd DX8_same 58 rfl) ?_
      refine tz_lti (fun v80 => ?_)
      refine tz_istore [(4, .int v80), (3, .int s_82), (0, .ref 74), (1, .int x1), (2, .int x2), (5, .int x5)] (Nat.le_of_ble_eq_true rfl) rfl (zd DX8_same 59 rfl) ?_
      refine tz_iinc 5 (1 : Int32) [(5, .int (x5 + (1 : Int32))), (4, .int v80), (3, .int s_82), (0, .ref 74), (1, .int x1), (2, .int x2)] rfl zk_iconst_1 (Nat.le_of_ble_eq_true rfl) rfl (zd DX8_same 60 rfl) ?_
      refine tz_goto 46 (zd DX8_same 61 rfl) rfl ?_
      refine tz_lv (lv2 := [(0, .ref 74), (1, .int x1), (2, .int x2), (3, .int s_82), (4, .int v80), (5, .int (x5 + (1 : Int32)))]) [3, 4, 5, 2, 1, 0] rfl ?_
      exact ih s_82 v80 (x5 + (1 : Int32)) w77
    refine tz_jp (P := fun j => ∀ (w81 : zW), Tz MX8_same (zRet zi) (j w81) 81 [(0, .ref 74), (1, .int x1), (2, .int x2), (4, .int x4), (5, .int x5)] [] w81) ?_ (fun j81 hj81 => ?_)
    · intro w81
      refine tz_iconst (0 : Int32) zk_iconst_0 (zd DX8_same 44 rfl) ?_
      exact hj70 (0 : Int32) w81
    refine tz_if_eq 81 (zd DX8_same 32 rfl) rfl (fun q82 => ?_) (fun q82 => ?_)
    · refine tz_lv (lv2 := [(0, .ref 74), (1, .int x1), (2, .int x2), (4, .int x4), (5, .int x5)]) [0, 1, 2, 4, 5] rfl ?_
      exact hj81 w18
    refine tz_aload_n 0 rfl (zd DX8_same 33 rfl) ?_
    refine tz_iload_n 1 rfl (zd DX8_same 34 rfl) ?_
    refine tz_iload 5 rfl (zd DX8_same 35 rfl) ?_
    refine tz_cV_i kz8 (zs_74) rfl (rest := []) (YX8_itemAt) wk_1046 (tX8_itemAt x1 x5 w18) rfl rfl (Nat.le_of_ble_eq_true rfl) ⟨Nat.le_of_ble_eq_true rfl, Nat.le_of_ble_eq_true rfl⟩ (zd DX8_same 36 rfl) (fun v85 w83 e84 => ?_)
    refine tz_aload_n 0 rfl (zd DX8_same 37 rfl) ?_
    refine tz_iload_n 2 rfl (zd DX8_same 38 rfl) ?_
    refine tz_iload 5 rfl (zd DX8_same 39 rfl) ?_
    refine tz_cV_i kz8 (zs_74) rfl (rest := [.int v85]) (YX8_itemAt) wk_1046 (tX8_itemAt x2 x5 w83) rfl rfl (Nat.le_of_ble_eq_true rfl) ⟨Nat.le_of_ble_eq_true rfl, Nat.le_of_ble_eq_true rfl⟩ (zd DX8_same 40 rfl) (fun v88 w86 e87 => ?_)
    refine tz_icmp_ne 81 (zd DX8_same 41 rfl) rfl (fun q89 => ?_) (fun q89 => ?_)
    · refine tz_lv (lv2 := [(0, .ref 74), (1, .int x1), (2, .int x2), (4, .int x4), (5, .int x5)]) [0, 1, 2, 4, 5] rfl ?_
      exact hj81 w86
    refine tz_iconst (1 : Int32) zk_iconst_1 (zd DX8_same 42 rfl) ?_
    refine tz_goto 82 (zd DX8_same 43 rfl) rfl ?_
    refine tz_lv (lv2 := [(0, .ref 74), (1, .int x1), (2, .int x2), (4, .int x4), (5, .int x5)]) [0, 1, 2, 4, 5] rfl ?_
    exact hj70 (1 : Int32) w86
set_option maxHeartbeats 4000000 in
set_option maxRecDepth 100000 in
theorem tX8_same (a1 : Int32) (a2 : Int32) (w : zW) : Sm yX8_same MX8_same zi [.ref 74, .int a1, .int a2] w (fX8_same a1 a2 w) := by
  refine Sm_of (lv0 := [(0, .ref 74), (1, .int a1), (2, .int a2)]) (by decide) rfl (fun _ => Nat.le_of_ble_eq_true rfl) rfl ?_
  unfold fX8_same
  refine tz_aload_n 0 rfl (zd DX8_same 0 rfl) ?_
  refine tz_iconst (0 : Int32) zk_iconst_0 (zd DX8_same 1 rfl) ?_
  refine tz_putI 0 kz8 (zs_74) (by decide) rfl rfl wk_857 (zd DX8_same 2 rfl) (fun w1 => ?_)
  refine tz_iload_n 1 rfl (zd DX8_same 3 rfl) ?_
  refine tz_cS_z (rest := []) (YX8_isLine) wk_1104 (tX8_isLine a1 w1) rfl rfl (Nat.le_of_ble_eq_true rfl) ⟨Nat.le_of_ble_eq_true rfl, Nat.le_of_ble_eq_true rfl⟩ (zd DX8_same 4 rfl) (fun b4 w2 e3 => ?_)
  refine tz_bif_eq 19 (zd DX8_same 5 rfl) rfl (fun q5 => ?_) (fun q5 => ?_)
  · refine tz_iload_n 2 rfl (zd DX8_same 6 rfl) ?_
    refine tz_cS_z (rest := []) (YX8_isLine) wk_1104 (tX8_isLine a2 w2) rfl rfl (Nat.le_of_ble_eq_true rfl) ⟨Nat.le_of_ble_eq_true rfl, Nat.le_of_ble_eq_true rfl⟩ (zd DX8_same 7 rfl) (fun b8 w6 e7 => ?_)
    refine tz_bif_ne 21 (zd DX8_same 8 rfl) rfl (fun q9 => ?_) (fun q9 => ?_)
    · refine tz_aload_n 0 rfl (zd DX8_same 11 rfl) ?_
      refine tz_iload_n 1 rfl (zd DX8_same 12 rfl) ?_
      refine tz_cV_i kz8 (zs_74) rfl (rest := []) (YX8_sizeOf) wk_1042 (tX8_sizeOf a1 w6) rfl rfl (Nat.le_of_ble_eq_true rfl) ⟨Nat.le_of_ble_eq_true rfl, Nat.le_of_ble_eq_true rfl⟩ (zd DX8_same 13 rfl) (fun v12 w10 e11 => ?_)
      refine tz_aload_n 0 rfl (zd DX8_same 14 rfl) ?_
      refine tz_iload_n 2 rfl (zd DX8_same 15 rfl) ?_
      refine tz_cV_i kz8 (zs_74) rfl (rest := [.int v12]) (YX8_sizeOf) wk_1042 (tX8_sizeOf a2 w10) rfl rfl (Nat.le_of_ble_eq_true rfl) ⟨Nat.le_of_ble_eq_true rfl, Nat.le_of_ble_eq_true rfl⟩ (zd DX8_same 16 rfl) (fun v15 w13 e14 => ?_)
      refine tz_dia (P := fun F => ∀ v : Int32, Tz MX8_same (zRet zi) (F v) 39 [(0, .ref 74), (1, .int a1), (2, .int a2)] (.int v :: []) w13) ?_ (fun _ hJ39 => ?_)
      · intro v17
        refine tz_istore_n [(3, .int v17), (0, .ref 74), (1, .int a1), (2, .int a2)] (Nat.le_of_ble_eq_true rfl) rfl (zd DX8_same 21 rfl) ?_
        refine tz_iconst (0 : Int32) zk_iconst_0 (zd DX8_same 22 rfl) ?_
        refine tz_istore [(4, .int (0 : Int32)), (3, .int v17), (0, .ref 74), (1, .int a1), (2, .int a2)] (Nat.le_of_ble_eq_true rfl) rfl (zd DX8_same 23 rfl) ?_
        refine tz_iconst (0 : Int32) zk_iconst_0 (zd DX8_same 24 rfl) ?_
        refine tz_istore [(5, .int (0 : Int32)), (4, .int (0 : Int32)), (3, .int v17), (0, .ref 74), (1, .int a1), (2, .int a2)] (Nat.le_of_ble_eq_true rfl) rfl (zd DX8_same 25 rfl) ?_
        refine tz_lv (lv2 := [(0, .ref 74), (1, .int a1), (2, .int a2), (3, .int v17), (4, .int (0 : Int32)), (5, .int (0 : Int32))]) [3, 4, 5, 2, 1, 0] rfl ?_
        exact lX8_same_L46 a1 a2 zFU v17 (0 : Int32) (0 : Int32) w13
      refine tz_ite ?_
      refine tz_icmp_ne 38 (zd DX8_same 17 rfl) rfl (fun q16 => ?_) (fun q16 => ?_)
      · refine tz_iconst (0 : Int32) zk_iconst_0 (zd DX8_same 20 rfl) ?_
        exact hJ39 (0 : Int32)
      refine tz_iconst (1 : Int32) zk_iconst_1 (zd DX8_same 18 rfl) ?_
      refine tz_goto 39 (zd DX8_same 19 rfl) rfl ?_
      exact hJ39 (1 : Int32)
    refine tz_iconst (-1 : Int32) zk_iconst_m1 (zd DX8_same 9 rfl) ?_
    exact tz_iret rfl (zd DX8_same 10 rfl)
  refine tz_iconst (-1 : Int32) zk_iconst_m1 (zd DX8_same 9 rfl) ?_
  exact tz_iret rfl (zd DX8_same 10 rfl)
def QX8_shared : List (Nat × Instr × Nat) := [(0, .aload_n 0, 1), (1, .iconst 0, 1), (2, .putfield 1, 3), (5, .iconst 0, 1), (6, .istore_n 1, 1), (7, .iconst 0, 1), (8, .istore_n 2, 1), (9, .iconst 0, 1), (10, .istore_n 3, 1), (11, .iconst 0, 1), (12, .istore 4, 2), (14, .iload 4, 2), (16, .iconst 4, 1), (17, .if_icmp .ge 163, 3), (20, .iconst 0, 1), (21, .istore 5, 2), (23, .iload 5, 2), (25, .aload_n 0, 1), (26, .iload 4, 2), (28, .invokevirtual 187, 3), (31, .if_icmp .ge 143, 3), (34, .aload_n 0, 1), (35, .getfield 69, 3), (38, .aload_n 0, 1), (39, .iload 4, 2), (41, .iload 5, 2), (43, .invokevirtual 181, 3), (46, .iaload, 1), (47, .istore 6, 2), (49, .iconst 1, 1), (50, .istore 7, 2), (52, .iconst 0, 1), (53, .istore 8, 2), (55, .iconst 0, 1), (56, .istore 9, 2), (58, .iload 9, 2), (60, .iconst 4, 1), (61, .if_icmp .ge 75, 3), (64, .iload 9, 2), (66, .iload 4, 2), (68, .if_icmp .eq 18, 3), (71, .aload_n 0, 1), (72, .iload 9, 2), (74, .iload 6, 2), (76, .invokevirtual 305, 3), (79, .ifCond .eq 7, 3), (82, .iconst 1, 1), (83, .goto 4, 3), (86, .iconst 0, 1), (87, .istore 10, 2), (89, .iload 7, 2), (91, .ifCond .eq 19, 3), (94, .iload 10, 2), (96, .ifCond .eq 10, 3), (99, .iload 9, 2), (101, .iload 4, 2), (103, .if_icmp .lt 7, 3), (106, .iconst 1, 1), (107, .goto 4, 3), (110, .iconst 0, 1), (111, .istore 7, 2), (113, .iload 8, 2), (115, .ifCond .ne 8, 3), (118, .iload 10, 2), (120, .ifCond .eq 7, 3), (123, .iconst 1, 1), (124, .goto 4, 3), (127, .iconst 0, 1), (128, .istore 8, 2), (130, .iinc 9 1, 3), (133, .goto (-75), 3), (136, .iload_n 1, 1), (137, .iload 7, 2), (139, .invokestatic 31, 3), (142, .iadd, 1), (143, .istore_n 1, 1), (144, .iload_n 2, 1), (145, .iload 7, 2), (147, .ifCond .eq 12, 3), (150, .iload 8, 2), (152, .ifCond .eq 7, 3), (155, .iconst 1, 1), (156, .goto 4, 3), (159, .iconst 0, 1), (160, .invokestatic 31, 3), (163, .iadd, 1), (164, .istore_n 2, 1), (165, .iinc 3 1, 3), (168, .iinc 5 1, 3), (171, .goto (-148), 3), (174, .iinc 4 1, 3), (177, .goto (-163), 3), (180, .aload_n 0, 1), (181, .iconst 0, 1), (182, .putfield 11, 3), (185, .aload_n 0, 1), (186, .iload_n 2, 1), (187, .i2l, 1), (188, .invokevirtual 164, 3), (191, .aload_n 0, 1), (192, .iload_n 3, 1), (193, .i2l, 1), (194, .invokevirtual 164, 3), (197, .iload_n 1, 1), (198, .ireturn, 1)]
set_option maxRecDepth 100000 in
theorem DX8_shared : ∀ q ∈ QX8_shared, decode cX8_shared q.1 = .ok (q.2.1, q.2.2) := by decide +kernel
abbrev MX8_shared : zM := (cX8_shared, "EndSumsModel", 11, (some .int), { frames := 3, cells := 0, slots := 0, locals := 67 })
def fX8_shared_L58 (x1 : Int32) (x2 : Int32) (x3 : Int32) (x4 : Int32) (x5 : Int32) (x6 : Int32) (j23 : Int32 → Int32 → Int32 → Int32 → zW → Option (Int32 × zW)) : Nat → Int32 → Int32 → Int32 → zW → Option (Int32 × zW)
  | 0, _, _, _, _ => none
  | n + 1, x7, x8, x9, w =>
    if (4 : Int32) ≤ x9 then
      bd (fX8_flag x7 w) fun v21 w19 =>
      lt (x1 + v21) fun v22 =>
      lt (if x7 = (0 : Int32) then (0 : Int32) else if x8 = (0 : Int32) then (0 : Int32) else (1 : Int32)) fun v25 =>
      bd (fX8_flag v25 w19) fun v28 w26 =>
      lt (x2 + v28) fun v29 =>
      j23 v22 v29 (x3 + (1 : Int32)) (x5 + (1 : Int32)) w26
    else
    lt (fun (s_87 : Int32) (w31 : zW) =>
      lt (if x7 = (0 : Int32) then (0 : Int32) else if s_87 = (0 : Int32) then (1 : Int32) else if x9 < x4 then (0 : Int32) else (1 : Int32)) fun v35 =>
      lt (if ¬ x8 = (0 : Int32) then (1 : Int32) else if s_87 = (0 : Int32) then (0 : Int32) else (1 : Int32)) fun v38 =>
      fX8_shared_L58 x1 x2 x3 x4 x5 x6 j23 n v35 v38 (x9 + (1 : Int32)) w31) fun j31 =>
    lt (fun (w39 : zW) =>
      j31 (0 : Int32) w39) fun j39 =>
    if x9 = x4 then
      j39 w
    else
    bd (fX8_hasCell x9 x6 w) fun b43 w41 =>
    if b43 = true then
      j31 (1 : Int32) w41
    else
    j39 w41
def fX8_shared_L23 (x4 : Int32) (j14 : Int32 → Int32 → Int32 → Int32 → zW → Option (Int32 × zW)) : Nat → Int32 → Int32 → Int32 → Int32 → zW → Option (Int32 × zW)
  | 0, _, _, _, _, _ => none
  | n + 1, x1, x2, x3, x5, w =>
    bd (fX8_sizeOf x4 w) fun v12 w10 =>
    if v12 ≤ x5 then
      j14 x1 x2 x3 (x4 + (1 : Int32)) w10
    else
    bd (fX8_placeOf x4 x5 w10) fun v16 w14 =>
    zg (zin v16 640) <|
    lt (zI w14 84 v16.toNatClampNeg) fun v17 =>
    fX8_shared_L58 x1 x2 x3 x4 x5 v17 (fX8_shared_L23 x4 j14 n) zFU (1 : Int32) (0 : Int32) (0 : Int32) w14
def fX8_shared_L14  : Nat → Int32 → Int32 → Int32 → Int32 → zW → Option (Int32 × zW)
  | 0, _, _, _, _, _ => none
  | n + 1, x1, x2, x3, x4, w =>
    if (4 : Int32) ≤ x4 then
      lt (zsI w 74 1 (0 : Int32)) fun w3 =>
      bd (fX8_enters (x2).toInt64 w3) fun _ w4 =>
      bd (fX8_enters (x3).toInt64 w4) fun _ w7 =>
      some (x1, w7)
    else
    fX8_shared_L23 x4 (fX8_shared_L14 n) zFU x1 x2 x3 (0 : Int32) w
def fX8_shared  (w : zW) : Option (Int32 × zW) :=
  lt (zsI w 74 0 (0 : Int32)) fun w1 =>
  fX8_shared_L14 zFU (0 : Int32) (0 : Int32) (0 : Int32) (0 : Int32) w1
theorem YX8_shared : zYV yX8_shared MX8_shared 0 := ⟨wk_1278, wk_9, ⟨wk_1276, wk_1277⟩, ⟨by decide, by decide, by decide +kernel⟩, rfl, rfl⟩
set_option maxHeartbeats 4000000 in
set_option maxRecDepth 100000 in
theorem lX8_shared_L58 (x1 : Int32) (x2 : Int32) (x3 : Int32) (x4 : Int32) (x5 : Int32) (x6 : Int32) (j23 : Int32 → Int32 → Int32 → Int32 → zW → Option (Int32 × zW)) (hj23 : ∀ (y1 : Int32) (y2 : Int32) (y3 : Int32) (y5 : Int32) (w : zW), Tz MX8_shared (zRet zi) (j23 y1 y2 y3 y5 w) 23 [(0, .ref 74), (1, .int y1), (2, .int y2), (3, .int y3), (4, .int x4), (5, .int y5)] [] w) : ∀ (n : Nat) (x7 : Int32) (x8 : Int32) (x9 : Int32) (w : zW), Tz MX8_shared (zRet zi) (fX8_shared_L58 x1 x2 x3 x4 x5 x6 j23 n x7 x8 x9 w) 58 [(0, .ref 74), (1, .int x1), (2, .int x2), (3, .int x3), (4, .int x4), (5, .int x5), (6, .int x6), (7, .int x7), (8, .int x8), (9, .int x9)] [] w := by
  intro n
  induction n with
  | zero => intro x7 x8 x9 w; exact tz_eq (fX8_shared_L58.eq_1 _ _ _ _ _ _ _ _ _ _ _) tz_none
  | succ n ih =>
    intro x7 x8 x9 w
    refine tz_eq (fX8_shared_L58.eq_2 _ _ _ _ _ _ _ _ _ _ _ _) ?_
    refine tz_iload 9 rfl (zd DX8_shared 35 rfl) ?_
    refine tz_iconst (4 : Int32) zk_iconst_4 (zd DX8_shared 36 rfl) ?_
    refine tz_icmp_ge 136 (zd DX8_shared 37 rfl) rfl (fun q18 => ?_) (fun q18 => ?_)
    · refine tz_iload_n 1 rfl (zd DX8_shared 71 rfl) ?_
      refine tz_iload 7 rfl (zd DX8_shared 72 rfl) ?_
      refine tz_cS_i (rest := [.int x1]) (YX8_flag) wk_981 (tX8_flag x7 w) rfl rfl (Nat.le_of_ble_eq_true rfl) ⟨Nat.le_of_ble_eq_true rfl, Nat.le_of_ble_eq_true rfl⟩ (zd DX8_shared 73 rfl) (fun v21 w19 e20 => ?_)
      refine tz_iadd (zd DX8_shared 74 rfl) ?_
      refine tz_lti (fun v22 => ?_)
      refine tz_istore_n [(1, .int v22), (0, .ref 74), (2, .int x2), (3, .int x3), (4, .int x4), (5, .int x5), (6, .int x6), (7, .int x7), (8, .int x8), (9, .int x9)] (Nat.le_of_ble_eq_true rfl) rfl (zd DX8_shared 75 rfl) ?_
      refine tz_iload_n 2 rfl (zd DX8_shared 76 rfl) ?_
      refine tz_iload 7 rfl (zd DX8_shared 77 rfl) ?_
      refine tz_dia (P := fun F => ∀ v : Int32, Tz MX8_shared (zRet zi) (F v) 160 [(1, .int v22), (0, .ref 74), (2, .int x2), (3, .int x3), (4, .int x4), (5, .int x5), (6, .int x6), (7, .int x7), (8, .int x8), (9, .int x9)] (.int v :: [.int x2]) w19) ?_ (fun _ hJ160 => ?_)
      · intro v25
        refine tz_cS_i (rest := [.int x2]) (YX8_flag) wk_981 (tX8_flag v25 w19) rfl rfl (Nat.le_of_ble_eq_true rfl) ⟨Nat.le_of_ble_eq_true rfl, Nat.le_of_ble_eq_true rfl⟩ (zd DX8_shared 84 rfl) (fun v28 w26 e27 => ?_)
        refine tz_iadd (zd DX8_shared 85 rfl) ?_
        refine tz_lti (fun v29 => ?_)
        refine tz_istore_n [(2, .int v29), (1, .int v22), (0, .ref 74), (3, .int x3), (4, .int x4), (5, .int x5), (6, .int x6), (7, .int x7), (8, .int x8), (9, .int x9)] (Nat.le_of_ble_eq_true rfl) rfl (zd DX8_shared 86 rfl) ?_
        refine tz_iinc 3 (1 : Int32) [(3, .int (x3 + (1 : Int32))), (2, .int v29), (1, .int v22), (0, .ref 74), (4, .int x4), (5, .int x5), (6, .int x6), (7, .int x7), (8, .int x8), (9, .int x9)] rfl zk_iconst_1 (Nat.le_of_ble_eq_true rfl) rfl (zd DX8_shared 87 rfl) ?_
        refine tz_iinc 5 (1 : Int32) [(5, .int (x5 + (1 : Int32))), (3, .int (x3 + (1 : Int32))), (2, .int v29), (1, .int v22), (0, .ref 74), (4, .int x4), (6, .int x6), (7, .int x7), (8, .int x8), (9, .int x9)] rfl zk_iconst_1 (Nat.le_of_ble_eq_true rfl) rfl (zd DX8_shared 88 rfl) ?_
        refine tz_goto 23 (zd DX8_shared 89 rfl) rfl ?_
        refine tz_lv (lv2 := [(0, .ref 74), (1, .int v22), (2, .int v29), (3, .int (x3 + (1 : Int32))), (4, .int x4), (5, .int (x5 + (1 : Int32)))]) [4, 3, 2, 1, 5, 0] rfl ?_
        exact hj23 v22 v29 (x3 + (1 : Int32)) (x5 + (1 : Int32)) w26
      refine tz_ite ?_
      refine tz_if_eq 159 (zd DX8_shared 78 rfl) rfl (fun q23 => ?_) (fun q23 => ?_)
      · refine tz_iconst (0 : Int32) zk_iconst_0 (zd DX8_shared 83 rfl) ?_
        exact hJ160 (0 : Int32)
      refine tz_iload 8 rfl (zd DX8_shared 79 rfl) ?_
      refine tz_ite ?_
      refine tz_if_eq 159 (zd DX8_shared 80 rfl) rfl (fun q24 => ?_) (fun q24 => ?_)
      · refine tz_iconst (0 : Int32) zk_iconst_0 (zd DX8_shared 83 rfl) ?_
        exact hJ160 (0 : Int32)
      refine tz_iconst (1 : Int32) zk_iconst_1 (zd DX8_shared 81 rfl) ?_
      refine tz_goto 160 (zd DX8_shared 82 rfl) rfl ?_
      exact hJ160 (1 : Int32)
    refine tz_iload 9 rfl (zd DX8_shared 38 rfl) ?_
    refine tz_iload 4 rfl (zd DX8_shared 39 rfl) ?_
    refine tz_jp (P := fun j => ∀ (s_87 : Int32) (w31 : zW), Tz MX8_shared (zRet zi) (j s_87 w31) 87 [(0, .ref 74), (1, .int x1), (2, .int x2), (3, .int x3), (4, .int x4), (5, .int x5), (6, .int x6), (7, .int x7), (8, .int x8), (9, .int x9)] [.int s_87] w31) ?_ (fun j31 hj31 => ?_)
    · intro s_87 w31
      refine tz_istore [(10, .int s_87), (0, .ref 74), (1, .int x1), (2, .int x2), (3, .int x3), (4, .int x4), (5, .int x5), (6, .int x6), (7, .int x7), (8, .int x8), (9, .int x9)] (Nat.le_of_ble_eq_true rfl) rfl (zd DX8_shared 49 rfl) ?_
      refine tz_iload 8 rfl (zd DX8_shared 50 rfl) ?_
      refine tz_dia (P := fun F => ∀ v : Int32, Tz MX8_shared (zRet zi) (F v) 111 [(10, .int s_87), (0, .ref 74), (1, .int x1), (2, .int x2), (3, .int x3), (4, .int x4), (5, .int x5), (6, .int x6), (7, .int x7), (8, .int x8), (9, .int x9)] (.int v :: []) w31) ?_ (fun _ hJ111 => ?_)
      · intro v35
        refine tz_istore [(7, .int v35), (10, .int s_87), (0, .ref 74), (1, .int x1), (2, .int x2), (3, .int x3), (4, .int x4), (5, .int x5), (6, .int x6), (8, .int x8), (9, .int x9)] (Nat.le_of_ble_eq_true rfl) rfl (zd DX8_shared 60 rfl) ?_
        refine tz_iload 9 rfl (zd DX8_shared 61 rfl) ?_
        refine tz_dia (P := fun F => ∀ v : Int32, Tz MX8_shared (zRet zi) (F v) 128 [(7, .int v35), (10, .int s_87), (0, .ref 74), (1, .int x1), (2, .int x2), (3, .int x3), (4, .int x4), (5, .int x5), (6, .int x6), (8, .int x8), (9, .int x9)] (.int v :: []) w31) ?_ (fun _ hJ128 => ?_)
        · intro v38
          refine tz_istore [(8, .int v38), (7, .int v35), (10, .int s_87), (0, .ref 74), (1, .int x1), (2, .int x2), (3, .int x3), (4, .int x4), (5, .int x5), (6, .int x6), (9, .int x9)] (Nat.le_of_ble_eq_true rfl) rfl (zd DX8_shared 68 rfl) ?_
          refine tz_iinc 10 (1 : Int32) [(9, .int (x9 + (1 : Int32))), (8, .int v38), (7, .int v35), (10, .int s_87), (0, .ref 74), (1, .int x1), (2, .int x2), (3, .int x3), (4, .int x4), (5, .int x5), (6, .int x6)] rfl zk_iconst_1 (Nat.le_of_ble_eq_true rfl) rfl (zd DX8_shared 69 rfl) ?_
          refine tz_goto 58 (zd DX8_shared 70 rfl) rfl ?_
          refine tz_lv (lv2 := [(0, .ref 74), (1, .int x1), (2, .int x2), (3, .int x3), (4, .int x4), (5, .int x5), (6, .int x6), (7, .int v35), (8, .int v38), (9, .int (x9 + (1 : Int32)))]) [4, 5, 6, 7, 8, 9, 10, 2, 1, 0] rfl ?_
          exact ih v35 v38 (x9 + (1 : Int32)) w31
        refine tz_ite ?_
        refine tz_if_ne 123 (zd DX8_shared 62 rfl) rfl (fun q36 => ?_) (fun q36 => ?_)
        · refine tz_iconst (1 : Int32) zk_iconst_1 (zd DX8_shared 65 rfl) ?_
          refine tz_goto 128 (zd DX8_shared 66 rfl) rfl ?_
          exact hJ128 (1 : Int32)
        refine tz_iload 1 rfl (zd DX8_shared 63 rfl) ?_
        refine tz_ite ?_
        refine tz_if_eq 127 (zd DX8_shared 64 rfl) rfl (fun q37 => ?_) (fun q37 => ?_)
        · refine tz_iconst (0 : Int32) zk_iconst_0 (zd DX8_shared 67 rfl) ?_
          exact hJ128 (0 : Int32)
        refine tz_iconst (1 : Int32) zk_iconst_1 (zd DX8_shared 65 rfl) ?_
        refine tz_goto 128 (zd DX8_shared 66 rfl) rfl ?_
        exact hJ128 (1 : Int32)
      refine tz_ite ?_
      refine tz_if_eq 110 (zd DX8_shared 51 rfl) rfl (fun q32 => ?_) (fun q32 => ?_)
      · refine tz_iconst (0 : Int32) zk_iconst_0 (zd DX8_shared 59 rfl) ?_
        exact hJ111 (0 : Int32)
      refine tz_iload 0 rfl (zd DX8_shared 52 rfl) ?_
      refine tz_ite ?_
      refine tz_if_eq 106 (zd DX8_shared 53 rfl) rfl (fun q33 => ?_) (fun q33 => ?_)
      · refine tz_iconst (1 : Int32) zk_iconst_1 (zd DX8_shared 57 rfl) ?_
        refine tz_goto 111 (zd DX8_shared 58 rfl) rfl ?_
        exact hJ111 (1 : Int32)
      refine tz_iload 10 rfl (zd DX8_shared 54 rfl) ?_
      refine tz_iload 5 rfl (zd DX8_shared 55 rfl) ?_
      refine tz_ite ?_
      refine tz_icmp_lt 110 (zd DX8_shared 56 rfl) rfl (fun q34 => ?_) (fun q34 => ?_)
      · refine tz_iconst (0 : Int32) zk_iconst_0 (zd DX8_shared 59 rfl) ?_
        exact hJ111 (0 : Int32)
      refine tz_iconst (1 : Int32) zk_iconst_1 (zd DX8_shared 57 rfl) ?_
      refine tz_goto 111 (zd DX8_shared 58 rfl) rfl ?_
      exact hJ111 (1 : Int32)
    refine tz_jp (P := fun j => ∀ (w39 : zW), Tz MX8_shared (zRet zi) (j w39) 86 [(0, .ref 74), (1, .int x1), (2, .int x2), (3, .int x3), (4, .int x4), (5, .int x5), (6, .int x6), (7, .int x7), (8, .int x8), (9, .int x9)] [] w39) ?_ (fun j39 hj39 => ?_)
    · intro w39
      refine tz_iconst (0 : Int32) zk_iconst_0 (zd DX8_shared 48 rfl) ?_
      exact hj31 (0 : Int32) w39
    refine tz_icmp_eq 86 (zd DX8_shared 40 rfl) rfl (fun q40 => ?_) (fun q40 => ?_)
    · exact hj39 w
    refine tz_aload_n 0 rfl (zd DX8_shared 41 rfl) ?_
    refine tz_iload 9 rfl (zd DX8_shared 42 rfl) ?_
    refine tz_iload 6 rfl (zd DX8_shared 43 rfl) ?_
    refine tz_cV_z kz8 (zs_74) rfl (rest := []) (YX8_hasCell) wk_1271 (tX8_hasCell x9 x6 w) rfl rfl (Nat.le_of_ble_eq_true rfl) ⟨Nat.le_of_ble_eq_true rfl, Nat.le_of_ble_eq_true rfl⟩ (zd DX8_shared 44 rfl) (fun b43 w41 e42 => ?_)
    refine tz_bif_eq 86 (zd DX8_shared 45 rfl) rfl (fun q44 => ?_) (fun q44 => ?_)
    · refine tz_iconst (1 : Int32) zk_iconst_1 (zd DX8_shared 46 rfl) ?_
      refine tz_goto 87 (zd DX8_shared 47 rfl) rfl ?_
      exact hj31 (1 : Int32) w41
    exact hj39 w41
set_option maxHeartbeats 4000000 in
set_option maxRecDepth 100000 in
theorem lX8_shared_L23 (x4 : Int32) (j14 : Int32 → Int32 → Int32 → Int32 → zW → Option (Int32 × zW)) (hj14 : ∀ (y1 : Int32) (y2 : Int32) (y3 : Int32) (y4 : Int32) (w : zW), Tz MX8_shared (zRet zi) (j14 y1 y2 y3 y4 w) 14 [(0, .ref 74), (1, .int y1), (2, .int y2), (3, .int y3), (4, .int y4)] [] w) : ∀ (n : Nat) (x1 : Int32) (x2 : Int32) (x3 : Int32) (x5 : Int32) (w : zW), Tz MX8_shared (zRet zi) (fX8_shared_L23 x4 j14 n x1 x2 x3 x5 w) 23 [(0, .ref 74), (1, .int x1), (2, .int x2), (3, .int x3), (4, .int x4), (5, .int x5)] [] w := by
  intro n
  induction n with
  | zero => intro x1 x2 x3 x5 w; exact tz_eq (fX8_shared_L23.eq_1 _ _ _ _ _ _ _) tz_none
  | succ n ih =>
    intro x1 x2 x3 x5 w
    refine tz_eq (fX8_shared_L23.eq_2 _ _ _ _ _ _ _ _) ?_
    refine tz_iload 5 rfl (zd DX8_shared 16 rfl) ?_
    refine tz_aload_n 0 rfl (zd DX8_shared 17 rfl) ?_
    refine tz_iload 4 rfl (zd DX8_shared 18 rfl) ?_
    refine tz_cV_i kz8 (zs_74) rfl (rest := [.int x5]) (YX8_sizeOf) wk_1042 (tX8_sizeOf x4 w) rfl rfl (Nat.le_of_ble_eq_true rfl) ⟨Nat.le_of_ble_eq_true rfl, Nat.le_of_ble_eq_true rfl⟩ (zd DX8_shared 19 rfl) (fun v12 w10 e11 => ?_)
    refine tz_icmp_ge 174 (zd DX8_shared 20 rfl) rfl (fun q13 => ?_) (fun q13 => ?_)
    · refine tz_iinc 4 (1 : Int32) [(4, .int (x4 + (1 : Int32))), (0, .ref 74), (1, .int x1), (2, .int x2), (3, .int x3), (5, .int x5)] rfl zk_iconst_1 (Nat.le_of_ble_eq_true rfl) rfl (zd DX8_shared 90 rfl) ?_
      refine tz_goto 14 (zd DX8_shared 91 rfl) rfl ?_
      refine tz_lv (lv2 := [(0, .ref 74), (1, .int x1), (2, .int x2), (3, .int x3), (4, .int (x4 + (1 : Int32)))]) [1, 2, 3, 4, 0] rfl ?_
      exact hj14 x1 x2 x3 (x4 + (1 : Int32)) w10
    refine tz_aload_n 0 rfl (zd DX8_shared 21 rfl) ?_
    refine tz_getR 84 19 kz8 (zs_74) (by decide) (by decide) rfl wk_876 (zd DX8_shared 22 rfl) ?_
    refine tz_aload_n 0 rfl (zd DX8_shared 23 rfl) ?_
    refine tz_iload 4 rfl (zd DX8_shared 24 rfl) ?_
    refine tz_iload 5 rfl (zd DX8_shared 25 rfl) ?_
    refine tz_cV_i kz8 (zs_74) rfl (rest := [.ref 84]) (YX8_placeOf) wk_1050 (tX8_placeOf x4 x5 w10) rfl rfl (Nat.le_of_ble_eq_true rfl) ⟨Nat.le_of_ble_eq_true rfl, Nat.le_of_ble_eq_true rfl⟩ (zd DX8_shared 26 rfl) (fun v16 w14 e15 => ?_)
    refine tz_iald (zs_84.1) (zs_84.2) (zd DX8_shared 27 rfl) ?_
    refine tz_lti (fun v17 => ?_)
    refine tz_istore [(6, .int v17), (0, .ref 74), (1, .int x1), (2, .int x2), (3, .int x3), (4, .int x4), (5, .int x5)] (Nat.le_of_ble_eq_true rfl) rfl (zd DX8_shared 28 rfl) ?_
    refine tz_iconst (1 : Int32) zk_iconst_1 (zd DX8_shared 29 rfl) ?_
    refine tz_istore [(7, .int (1 : Int32)), (6, .int v17), (0, .ref 74), (1, .int x1), (2, .int x2), (3, .int x3), (4, .int x4), (5, .int x5)] (Nat.le_of_ble_eq_true rfl) rfl (zd DX8_shared 30 rfl) ?_
    refine tz_iconst (0 : Int32) zk_iconst_0 (zd DX8_shared 31 rfl) ?_
    refine tz_istore [(8, .int (0 : Int32)), (7, .int (1 : Int32)), (6, .int v17), (0, .ref 74), (1, .int x1), (2, .int x2), (3, .int x3), (4, .int x4), (5, .int x5)] (Nat.le_of_ble_eq_true rfl) rfl (zd DX8_shared 32 rfl) ?_
    refine tz_iconst (0 : Int32) zk_iconst_0 (zd DX8_shared 33 rfl) ?_
    refine tz_istore [(9, .int (0 : Int32)), (8, .int (0 : Int32)), (7, .int (1 : Int32)), (6, .int v17), (0, .ref 74), (1, .int x1), (2, .int x2), (3, .int x3), (4, .int x4), (5, .int x5)] (Nat.le_of_ble_eq_true rfl) rfl (zd DX8_shared 34 rfl) ?_
    refine tz_lv (lv2 := [(0, .ref 74), (1, .int x1), (2, .int x2), (3, .int x3), (4, .int x4), (5, .int x5), (6, .int v17), (7, .int (1 : Int32)), (8, .int (0 : Int32)), (9, .int (0 : Int32))]) [4, 5, 6, 7, 8, 9, 3, 2, 1, 0] rfl ?_
    exact lX8_shared_L58 x1 x2 x3 x4 x5 v17 _ ih zFU (1 : Int32) (0 : Int32) (0 : Int32) w14
set_option maxHeartbeats 4000000 in
set_option maxRecDepth 100000 in
theorem lX8_shared_L14  : ∀ (n : Nat) (x1 : Int32) (x2 : Int32) (x3 : Int32) (x4 : Int32) (w : zW), Tz MX8_shared (zRet zi) (fX8_shared_L14 n x1 x2 x3 x4 w) 14 [(0, .ref 74), (1, .int x1), (2, .int x2), (3, .int x3), (4, .int x4)] [] w := by
  intro n
  induction n with
  | zero => intro x1 x2 x3 x4 w; exact tz_eq (fX8_shared_L14.eq_1 _ _ _ _ _) tz_none
  | succ n ih =>
    intro x1 x2 x3 x4 w
    refine tz_eq (fX8_shared_L14.eq_2 _ _ _ _ _ _) ?_
    refine tz_iload 4 rfl (zd DX8_shared 11 rfl) ?_
    refine tz_iconst (4 : Int32) zk_iconst_4 (zd DX8_shared 12 rfl) ?_
    refine tz_icmp_ge 180 (zd DX8_shared 13 rfl) rfl (fun q2 => ?_) (fun q2 => ?_)
    · refine tz_aload_n 0 rfl (zd DX8_shared 92 rfl) ?_
      refine tz_iconst (0 : Int32) zk_iconst_0 (zd DX8_shared 93 rfl) ?_
      refine tz_putI 1 kz8 (zs_74) (by decide) rfl rfl wk_858 (zd DX8_shared 94 rfl) (fun w3 => ?_)
      refine tz_aload_n 0 rfl (zd DX8_shared 95 rfl) ?_
      refine tz_iload_n 2 rfl (zd DX8_shared 96 rfl) ?_
      refine tz_i2l (zd DX8_shared 97 rfl) ?_
      refine tz_cV_n kz8 (zs_74) rfl (rest := []) (YX8_enters) wk_1002 (tX8_enters (x2).toInt64 w3) rfl rfl (Nat.le_of_ble_eq_true rfl) ⟨Nat.le_of_ble_eq_true rfl, Nat.le_of_ble_eq_true rfl⟩ (zd DX8_shared 98 rfl) (fun v6 w4 e5 => ?_)
      refine tz_aload_n 0 rfl (zd DX8_shared 99 rfl) ?_
      refine tz_iload_n 3 rfl (zd DX8_shared 100 rfl) ?_
      refine tz_i2l (zd DX8_shared 101 rfl) ?_
      refine tz_cV_n kz8 (zs_74) rfl (rest := []) (YX8_enters) wk_1002 (tX8_enters (x3).toInt64 w4) rfl rfl (Nat.le_of_ble_eq_true rfl) ⟨Nat.le_of_ble_eq_true rfl, Nat.le_of_ble_eq_true rfl⟩ (zd DX8_shared 102 rfl) (fun v9 w7 e8 => ?_)
      refine tz_iload_n 1 rfl (zd DX8_shared 103 rfl) ?_
      exact tz_iret rfl (zd DX8_shared 104 rfl)
    refine tz_iconst (0 : Int32) zk_iconst_0 (zd DX8_shared 14 rfl) ?_
    refine tz_istore [(5, .int (0 : Int32)), (0, .ref 74), (1, .int x1), (2, .int x2), (3, .int x3), (4, .int x4)] (Nat.le_of_ble_eq_true rfl) rfl (zd DX8_shared 15 rfl) ?_
    refine tz_lv (lv2 := [(0, .ref 74), (1, .int x1), (2, .int x2), (3, .int x3), (4, .int x4), (5, .int (0 : Int32))]) [1, 2, 3, 4, 5, 0] rfl ?_
    exact lX8_shared_L23 x4 _ ih zFU x1 x2 x3 (0 : Int32) w
set_option maxHeartbeats 4000000 in
set_option maxRecDepth 100000 in
theorem tX8_shared  (w : zW) : Sm yX8_shared MX8_shared zi [.ref 74] w (fX8_shared w) := by
  refine Sm_of (lv0 := [(0, .ref 74)]) (by decide) rfl (fun _ => Nat.le_of_ble_eq_true rfl) rfl ?_
  unfold fX8_shared
  refine tz_aload_n 0 rfl (zd DX8_shared 0 rfl) ?_
  refine tz_iconst (0 : Int32) zk_iconst_0 (zd DX8_shared 1 rfl) ?_
  refine tz_putI 0 kz8 (zs_74) (by decide) rfl rfl wk_857 (zd DX8_shared 2 rfl) (fun w1 => ?_)
  refine tz_iconst (0 : Int32) zk_iconst_0 (zd DX8_shared 3 rfl) ?_
  refine tz_istore_n [(1, .int (0 : Int32)), (0, .ref 74)] (Nat.le_of_ble_eq_true rfl) rfl (zd DX8_shared 4 rfl) ?_
  refine tz_iconst (0 : Int32) zk_iconst_0 (zd DX8_shared 5 rfl) ?_
  refine tz_istore_n [(2, .int (0 : Int32)), (1, .int (0 : Int32)), (0, .ref 74)] (Nat.le_of_ble_eq_true rfl) rfl (zd DX8_shared 6 rfl) ?_
  refine tz_iconst (0 : Int32) zk_iconst_0 (zd DX8_shared 7 rfl) ?_
  refine tz_istore_n [(3, .int (0 : Int32)), (2, .int (0 : Int32)), (1, .int (0 : Int32)), (0, .ref 74)] (Nat.le_of_ble_eq_true rfl) rfl (zd DX8_shared 8 rfl) ?_
  refine tz_iconst (0 : Int32) zk_iconst_0 (zd DX8_shared 9 rfl) ?_
  refine tz_istore [(4, .int (0 : Int32)), (3, .int (0 : Int32)), (2, .int (0 : Int32)), (1, .int (0 : Int32)), (0, .ref 74)] (Nat.le_of_ble_eq_true rfl) rfl (zd DX8_shared 10 rfl) ?_
  refine tz_lv (lv2 := [(0, .ref 74), (1, .int (0 : Int32)), (2, .int (0 : Int32)), (3, .int (0 : Int32)), (4, .int (0 : Int32))]) [4, 3, 2, 1, 0] rfl ?_
  exact lX8_shared_L14 zFU (0 : Int32) (0 : Int32) (0 : Int32) (0 : Int32) w1
def QX8_count : List (Nat × Instr × Nat) := [(0, .aload_n 0, 1), (1, .iconst 0, 1), (2, .putfield 1, 3), (5, .iload_n 1, 1), (6, .tableswitch 99 0 10 #[58, 58, 58, 58, 64, 69, 74, 79, 84, 89, 94], 58), (64, .aload_n 0, 1), (65, .iload_n 1, 1), (66, .invokevirtual 187, 3), (69, .ireturn, 1), (70, .aload_n 0, 1), (71, .getfield 93, 3), (74, .ireturn, 1), (75, .aload_n 0, 1), (76, .getfield 45, 3), (79, .ireturn, 1), (80, .aload_n 0, 1), (81, .getfield 111, 3), (84, .ireturn, 1), (85, .aload_n 0, 1), (86, .getfield 184, 3), (89, .ireturn, 1), (90, .aload_n 0, 1), (91, .getfield 202, 3), (94, .ireturn, 1), (95, .aload_n 0, 1), (96, .getfield 11, 3), (99, .ireturn, 1), (100, .aload_n 0, 1), (101, .getfield 14, 3), (104, .ireturn, 1), (105, .iconst (-1), 1), (106, .ireturn, 1)]
set_option maxRecDepth 100000 in
theorem DX8_count : ∀ q ∈ QX8_count, decode cX8_count q.1 = .ok (q.2.1, q.2.2) := by decide +kernel
abbrev MX8_count : zM := (cX8_count, "EndSumsModel", 2, (some .int), { frames := 1, cells := 0, slots := 0, locals := 21 })
def fX8_count (a1 : Int32) (w : zW) : Option (Int32 × zW) :=
  lt (zsI w 74 0 (0 : Int32)) fun w1 =>
  if a1 = (0 : Int32) then
    bd (fX8_sizeOf a1 w1) fun v5 w3 =>
    some (v5, w3)
  else
  if a1 = (1 : Int32) then
    bd (fX8_sizeOf a1 w1) fun v9 w7 =>
    some (v9, w7)
  else
  if a1 = (2 : Int32) then
    bd (fX8_sizeOf a1 w1) fun v13 w11 =>
    some (v13, w11)
  else
  if a1 = (3 : Int32) then
    bd (fX8_sizeOf a1 w1) fun v17 w15 =>
    some (v17, w15)
  else
  if a1 = (4 : Int32) then
    some ((zI w1 74 7), w1)
  else
  if a1 = (5 : Int32) then
    some ((zI w1 74 8), w1)
  else
  if a1 = (6 : Int32) then
    some ((zI w1 74 9), w1)
  else
  if a1 = (7 : Int32) then
    some ((zI w1 74 23), w1)
  else
  if a1 = (8 : Int32) then
    some ((zI w1 74 24), w1)
  else
  if a1 = (9 : Int32) then
    some ((zI w1 74 1), w1)
  else
  if a1 = (10 : Int32) then
    some ((zI w1 74 4), w1)
  else
  some ((-1 : Int32), w1)
theorem YX8_count : zYV yX8_count MX8_count 1 := ⟨wk_1282, wk_9, ⟨wk_1280, wk_1281⟩, ⟨by decide, by decide, by decide +kernel⟩, rfl, rfl⟩
set_option maxHeartbeats 4000000 in
set_option maxRecDepth 100000 in
theorem tX8_count (a1 : Int32) (w : zW) : Sm yX8_count MX8_count zi [.ref 74, .int a1] w (fX8_count a1 w) := by
  refine Sm_of (lv0 := [(0, .ref 74), (1, .int a1)]) (by decide) rfl (fun _ => Nat.le_of_ble_eq_true rfl) rfl ?_
  unfold fX8_count
  refine tz_aload_n 0 rfl (zd DX8_count 0 rfl) ?_
  refine tz_iconst (0 : Int32) zk_iconst_0 (zd DX8_count 1 rfl) ?_
  refine tz_putI 0 kz8 (zs_74) (by decide) rfl rfl wk_857 (zd DX8_count 2 rfl) (fun w1 => ?_)
  refine tz_iload_n 1 rfl (zd DX8_count 3 rfl) ?_
  refine tz_case (fun q2 => ?_) (fun q2 => ?_)
  · refine tz_tin (0) 64 (by rw [q2]; decide) (zd DX8_count 4 rfl) (by decide) (by decide) rfl rfl ?_
    refine tz_aload_n 0 rfl (zd DX8_count 5 rfl) ?_
    refine tz_iload_n 1 rfl (zd DX8_count 6 rfl) ?_
    refine tz_cV_i kz8 (zs_74) rfl (rest := []) (YX8_sizeOf) wk_1042 (tX8_sizeOf a1 w1) rfl rfl (Nat.le_of_ble_eq_true rfl) ⟨Nat.le_of_ble_eq_true rfl, Nat.le_of_ble_eq_true rfl⟩ (zd DX8_count 7 rfl) (fun v5 w3 e4 => ?_)
    exact tz_iret rfl (zd DX8_count 8 rfl)
  refine tz_case (fun q6 => ?_) (fun q6 => ?_)
  · refine tz_tin (1) 64 (by rw [q6]; decide) (zd DX8_count 4 rfl) (by decide) (by decide) rfl rfl ?_
    refine tz_aload_n 0 rfl (zd DX8_count 5 rfl) ?_
    refine tz_iload_n 1 rfl (zd DX8_count 6 rfl) ?_
    refine tz_cV_i kz8 (zs_74) rfl (rest := []) (YX8_sizeOf) wk_1042 (tX8_sizeOf a1 w1) rfl rfl (Nat.le_of_ble_eq_true rfl) ⟨Nat.le_of_ble_eq_true rfl, Nat.le_of_ble_eq_true rfl⟩ (zd DX8_count 7 rfl) (fun v9 w7 e8 => ?_)
    exact tz_iret rfl (zd DX8_count 8 rfl)
  refine tz_case (fun q10 => ?_) (fun q10 => ?_)
  · refine tz_tin (2) 64 (by rw [q10]; decide) (zd DX8_count 4 rfl) (by decide) (by decide) rfl rfl ?_
    refine tz_aload_n 0 rfl (zd DX8_count 5 rfl) ?_
    refine tz_iload_n 1 rfl (zd DX8_count 6 rfl) ?_
    refine tz_cV_i kz8 (zs_74) rfl (rest := []) (YX8_sizeOf) wk_1042 (tX8_sizeOf a1 w1) rfl rfl (Nat.le_of_ble_eq_true rfl) ⟨Nat.le_of_ble_eq_true rfl, Nat.le_of_ble_eq_true rfl⟩ (zd DX8_count 7 rfl) (fun v13 w11 e12 => ?_)
    exact tz_iret rfl (zd DX8_count 8 rfl)
  refine tz_case (fun q14 => ?_) (fun q14 => ?_)
  · refine tz_tin (3) 64 (by rw [q14]; decide) (zd DX8_count 4 rfl) (by decide) (by decide) rfl rfl ?_
    refine tz_aload_n 0 rfl (zd DX8_count 5 rfl) ?_
    refine tz_iload_n 1 rfl (zd DX8_count 6 rfl) ?_
    refine tz_cV_i kz8 (zs_74) rfl (rest := []) (YX8_sizeOf) wk_1042 (tX8_sizeOf a1 w1) rfl rfl (Nat.le_of_ble_eq_true rfl) ⟨Nat.le_of_ble_eq_true rfl, Nat.le_of_ble_eq_true rfl⟩ (zd DX8_count 7 rfl) (fun v17 w15 e16 => ?_)
    exact tz_iret rfl (zd DX8_count 8 rfl)
  refine tz_case (fun q18 => ?_) (fun q18 => ?_)
  · refine tz_tin (4) 70 (by rw [q18]; decide) (zd DX8_count 4 rfl) (by decide) (by decide) rfl rfl ?_
    refine tz_aload_n 0 rfl (zd DX8_count 9 rfl) ?_
    refine tz_getI 7 kz8 (zs_74) (by decide) rfl wk_864 (zd DX8_count 10 rfl) ?_
    exact tz_iret rfl (zd DX8_count 11 rfl)
  refine tz_case (fun q19 => ?_) (fun q19 => ?_)
  · refine tz_tin (5) 75 (by rw [q19]; decide) (zd DX8_count 4 rfl) (by decide) (by decide) rfl rfl ?_
    refine tz_aload_n 0 rfl (zd DX8_count 12 rfl) ?_
    refine tz_getI 8 kz8 (zs_74) (by decide) rfl wk_865 (zd DX8_count 13 rfl) ?_
    exact tz_iret rfl (zd DX8_count 14 rfl)
  refine tz_case (fun q20 => ?_) (fun q20 => ?_)
  · refine tz_tin (6) 80 (by rw [q20]; decide) (zd DX8_count 4 rfl) (by decide) (by decide) rfl rfl ?_
    refine tz_aload_n 0 rfl (zd DX8_count 15 rfl) ?_
    refine tz_getI 9 kz8 (zs_74) (by decide) rfl wk_866 (zd DX8_count 16 rfl) ?_
    exact tz_iret rfl (zd DX8_count 17 rfl)
  refine tz_case (fun q21 => ?_) (fun q21 => ?_)
  · refine tz_tin (7) 85 (by rw [q21]; decide) (zd DX8_count 4 rfl) (by decide) (by decide) rfl rfl ?_
    refine tz_aload_n 0 rfl (zd DX8_count 18 rfl) ?_
    refine tz_getI 23 kz8 (zs_74) (by decide) rfl wk_880 (zd DX8_count 19 rfl) ?_
    exact tz_iret rfl (zd DX8_count 20 rfl)
  refine tz_case (fun q22 => ?_) (fun q22 => ?_)
  · refine tz_tin (8) 90 (by rw [q22]; decide) (zd DX8_count 4 rfl) (by decide) (by decide) rfl rfl ?_
    refine tz_aload_n 0 rfl (zd DX8_count 21 rfl) ?_
    refine tz_getI 24 kz8 (zs_74) (by decide) rfl wk_881 (zd DX8_count 22 rfl) ?_
    exact tz_iret rfl (zd DX8_count 23 rfl)
  refine tz_case (fun q23 => ?_) (fun q23 => ?_)
  · refine tz_tin (9) 95 (by rw [q23]; decide) (zd DX8_count 4 rfl) (by decide) (by decide) rfl rfl ?_
    refine tz_aload_n 0 rfl (zd DX8_count 24 rfl) ?_
    refine tz_getI 1 kz8 (zs_74) (by decide) rfl wk_858 (zd DX8_count 25 rfl) ?_
    exact tz_iret rfl (zd DX8_count 26 rfl)
  refine tz_case (fun q24 => ?_) (fun q24 => ?_)
  · refine tz_tin (10) 100 (by rw [q24]; decide) (zd DX8_count 4 rfl) (by decide) (by decide) rfl rfl ?_
    refine tz_aload_n 0 rfl (zd DX8_count 27 rfl) ?_
    refine tz_getI 4 kz8 (zs_74) (by decide) rfl wk_861 (zd DX8_count 28 rfl) ?_
    exact tz_iret rfl (zd DX8_count 29 rfl)
  refine tz_tout 105 (by have eq2 := z_ne q2; have eq6 := z_ne q6; have eq10 := z_ne q10; have eq14 := z_ne q14; have eq18 := z_ne q18; have eq19 := z_ne q19; have eq20 := z_ne q20; have eq21 := z_ne q21; have eq22 := z_ne q22; have eq23 := z_ne q23; have eq24 := z_ne q24; rw [show ((0 : Int32)).toInt = 0 from rfl] at eq2; rw [show ((1 : Int32)).toInt = 1 from rfl] at eq6; rw [show ((2 : Int32)).toInt = 2 from rfl] at eq10; rw [show ((3 : Int32)).toInt = 3 from rfl] at eq14; rw [show ((4 : Int32)).toInt = 4 from rfl] at eq18; rw [show ((5 : Int32)).toInt = 5 from rfl] at eq19; rw [show ((6 : Int32)).toInt = 6 from rfl] at eq20; rw [show ((7 : Int32)).toInt = 7 from rfl] at eq21; rw [show ((8 : Int32)).toInt = 8 from rfl] at eq22; rw [show ((9 : Int32)).toInt = 9 from rfl] at eq23; rw [show ((10 : Int32)).toInt = 10 from rfl] at eq24; omega) (zd DX8_count 4 rfl) rfl ?_
  refine tz_iconst (-1 : Int32) zk_iconst_m1 (zd DX8_count 30 rfl) ?_
  exact tz_iret rfl (zd DX8_count 31 rfl)
def QX8_row : List (Nat × Instr × Nat) := [(0, .aload_n 0, 1), (1, .iload_n 1, 1), (2, .i2l, 1), (3, .lconst 0, 1), (4, .aload_n 0, 1), (5, .getfield 11, 3), (8, .iconst 1, 1), (9, .isub, 1), (10, .i2l, 1), (11, .invokestatic 21, 3), (14, .ifCond .ne 7, 3), (17, .iconst 1, 1), (18, .goto 4, 3), (21, .iconst 0, 1), (22, .invokestatic 31, 3), (25, .putfield 1, 3), (28, .aload_n 0, 1), (29, .getfield 1, 3), (32, .iconst 1, 1), (33, .if_icmp .ne 7, 3), (36, .lconst 0, 1), (37, .goto 9, 3), (40, .aload_n 0, 1), (41, .getfield 7, 3), (44, .iload_n 1, 1), (45, .laload, 1), (46, .lreturn, 1)]
set_option maxRecDepth 100000 in
theorem DX8_row : ∀ q ∈ QX8_row, decode cX8_row q.1 = .ok (q.2.1, q.2.2) := by decide +kernel
abbrev MX8_row : zM := (cX8_row, "EndSumsModel", 2, (some .long), { frames := 1, cells := 0, slots := 0, locals := 25 })
def fX8_row (a1 : Int32) (w : zW) : Option (Int64 × zW) :=
  bd (fX8_in (a1).toInt64 (0 : Int64) ((zI w 74 1) - (1 : Int32)).toInt64 w) fun b3 w1 =>
  lt (if b3 = true then (0 : Int32) else (1 : Int32)) fun v5 =>
  bd (fX8_flag v5 w1) fun v8 w6 =>
  lt (zsI w6 74 0 v8) fun w9 =>
  if ¬ (zI w9 74 0) = (1 : Int32) then
    zg (zin a1 160) <|
    some ((zL w9 75 a1.toNatClampNeg), w9)
  else
  some ((0 : Int64), w9)
theorem YX8_row : zYV yX8_row MX8_row 1 := ⟨wk_1286, wk_9, ⟨wk_1284, wk_1285⟩, ⟨by decide, by decide, by decide +kernel⟩, rfl, rfl⟩
set_option maxHeartbeats 4000000 in
set_option maxRecDepth 100000 in
theorem tX8_row (a1 : Int32) (w : zW) : Sm yX8_row MX8_row zl [.ref 74, .int a1] w (fX8_row a1 w) := by
  refine Sm_of (lv0 := [(0, .ref 74), (1, .int a1)]) (by decide) rfl (fun _ => Nat.le_of_ble_eq_true rfl) rfl ?_
  unfold fX8_row
  refine tz_aload_n 0 rfl (zd DX8_row 0 rfl) ?_
  refine tz_iload_n 1 rfl (zd DX8_row 1 rfl) ?_
  refine tz_i2l (zd DX8_row 2 rfl) ?_
  refine tz_lconst (0 : Int64) rfl (zd DX8_row 3 rfl) ?_
  refine tz_aload_n 0 rfl (zd DX8_row 4 rfl) ?_
  refine tz_getI 1 kz8 (zs_74) (by decide) rfl wk_858 (zd DX8_row 5 rfl) ?_
  refine tz_iconst (1 : Int32) zk_iconst_1 (zd DX8_row 6 rfl) ?_
  refine tz_isub (zd DX8_row 7 rfl) ?_
  refine tz_i2l (zd DX8_row 8 rfl) ?_
  refine tz_cS_z (rest := [.ref 74]) (YX8_in) wk_848 (tX8_in (a1).toInt64 (0 : Int64) ((zI w 74 1) - (1 : Int32)).toInt64 w) rfl rfl (Nat.le_of_ble_eq_true rfl) ⟨Nat.le_of_ble_eq_true rfl, Nat.le_of_ble_eq_true rfl⟩ (zd DX8_row 9 rfl) (fun b3 w1 e2 => ?_)
  refine tz_dia (P := fun F => ∀ v : Int32, Tz MX8_row (zRet zl) (F v) 22 [(0, .ref 74), (1, .int a1)] (.int v :: [.ref 74]) w1) ?_ (fun _ hJ22 => ?_)
  · intro v5
    refine tz_cS_i (rest := [.ref 74]) (YX8_flag) wk_981 (tX8_flag v5 w1) rfl rfl (Nat.le_of_ble_eq_true rfl) ⟨Nat.le_of_ble_eq_true rfl, Nat.le_of_ble_eq_true rfl⟩ (zd DX8_row 14 rfl) (fun v8 w6 e7 => ?_)
    refine tz_putI 0 kz8 (zs_74) (by decide) rfl rfl wk_857 (zd DX8_row 15 rfl) (fun w9 => ?_)
    refine tz_aload_n 0 rfl (zd DX8_row 16 rfl) ?_
    refine tz_getI 0 kz8 (zs_74) (by decide) rfl wk_857 (zd DX8_row 17 rfl) ?_
    refine tz_iconst (1 : Int32) zk_iconst_1 (zd DX8_row 18 rfl) ?_
    refine tz_icmp_ne 40 (zd DX8_row 19 rfl) rfl (fun q10 => ?_) (fun q10 => ?_)
    · refine tz_aload_n 0 rfl (zd DX8_row 22 rfl) ?_
      refine tz_getR 75 2 kz8 (zs_74) (by decide) (by decide) rfl wk_859 (zd DX8_row 23 rfl) ?_
      refine tz_iload_n 1 rfl (zd DX8_row 24 rfl) ?_
      refine tz_lald (zs_75.1) (zs_75.2) (zd DX8_row 25 rfl) ?_
      exact tz_lret rfl (zd DX8_row 26 rfl)
    refine tz_lconst (0 : Int64) rfl (zd DX8_row 20 rfl) ?_
    refine tz_goto 46 (zd DX8_row 21 rfl) rfl ?_
    exact tz_lret rfl (zd DX8_row 26 rfl)
  refine tz_ite ?_
  refine tz_bif_ne 21 (zd DX8_row 10 rfl) rfl (fun q4 => ?_) (fun q4 => ?_)
  · refine tz_iconst (0 : Int32) zk_iconst_0 (zd DX8_row 13 rfl) ?_
    exact hJ22 (0 : Int32)
  refine tz_iconst (1 : Int32) zk_iconst_1 (zd DX8_row 11 rfl) ?_
  refine tz_goto 22 (zd DX8_row 12 rfl) rfl ?_
  exact hJ22 (1 : Int32)
