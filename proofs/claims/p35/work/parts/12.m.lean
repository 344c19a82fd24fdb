def QX8_rule : List (Nat × Instr × Nat) := [(0, .aload_n 0, 1), (1, .iconst 0, 1), (2, .putfield 1, 3), (5, .iload_n 1, 1), (6, .i2l, 1), (7, .lconst 0, 1), (8, .ldc2_w 205, 3), (11, .invokestatic 21, 3), (14, .ifCond .ne 5, 3), (17, .iconst (-1), 1), (18, .ireturn, 1), (19, .aload_n 0, 1), (20, .getfield 93, 3), (23, .iload_n 1, 1), (24, .if_icmp .ne 6, 3), (27, .bipush (-2), 2), (29, .ireturn, 1), (30, .aload_n 0, 1), (31, .getfield 93, 3), (34, .istore_n 2, 1), (35, .aload_n 0, 1), (36, .iload_n 1, 1), (37, .putfield 93, 3), (40, .aload_n 0, 1), (41, .invokevirtual 207, 3), (44, .iload_n 2, 1), (45, .ireturn, 1)]
set_option maxRecDepth 100000 in
theorem DX8_rule : ∀ q ∈ QX8_rule, decode cX8_rule q.1 = .ok (q.2.1, q.2.2) := by decide +kernel
abbrev MX8_rule : zM := (cX8_rule, "EndSumsModel", 3, (some .int), { frames := 7, cells := 0, slots := 0, locals := 175 })
def fX8_rule (a1 : Int32) (w : zW) : Option (Int32 × zW) :=
  lt (zsI w 74 0 (0 : Int32)) fun w1 =>
  bd (fX8_in (a1).toInt64 (0 : Int64) (7 : Int64) w1) fun b4 w2 =>
  if b4 = true then
    if ¬ (zI w2 74 7) = a1 then
      lt (zI w2 74 7) fun v7 =>
      lt (zsI w2 74 7 a1) fun w8 =>
      bd (fX8_laysAll w8) fun _ w9 =>
      some (v7, w9)
    else
    some ((-2 : Int32), w2)
  else
  some ((-1 : Int32), w2)
theorem YX8_rule : zYV yX8_rule MX8_rule 1 := ⟨wk_1032, wk_9, ⟨wk_1030, wk_1031⟩, ⟨by decide, by decide, by decide +kernel⟩, rfl, rfl⟩
set_option maxHeartbeats 4000000 in
set_option maxRecDepth 100000 in
theorem tX8_rule (a1 : Int32) (w : zW) : Sm yX8_rule MX8_rule zi [.ref 74, .int a1] w (fX8_rule a1 w) := by
  refine Sm_of (lv0 := [(0, .ref 74), (1, .int a1)]) (by decide) rfl (fun _ => Nat.le_of_ble_eq_true rfl) rfl ?_
  unfold fX8_rule
  refine tz_aload_n 0 rfl (zd DX8_rule 0 rfl) ?_
  refine tz_iconst (0 : Int32) zk_iconst_0 (zd DX8_rule 1 rfl) ?_
  refine tz_putI 0 kz8 (zs_74) (by decide) rfl rfl wk_857 (zd DX8_rule 2 rfl) (fun w1 => ?_)
  refine tz_iload_n 1 rfl (zd DX8_rule 3 rfl) ?_
  refine tz_i2l (zd DX8_rule 4 rfl) ?_
  refine tz_lconst (0 : Int64) rfl (zd DX8_rule 5 rfl) ?_
  refine tz_ldc2_w wk_1033 (zd DX8_rule 6 rfl) ?_
  refine tz_cS_z (rest := []) (YX8_in) wk_848 (tX8_in (a1).toInt64 (0 : Int64) (7 : Int64) w1) rfl rfl (Nat.le_of_ble_eq_true rfl) ⟨Nat.le_of_ble_eq_true rfl, Nat.le_of_ble_eq_true rfl⟩ (zd DX8_rule 7 rfl) (fun b4 w2 e3 => ?_)
  refine tz_bif_ne 19 (zd DX8_rule 8 rfl) rfl (fun q5 => ?_) (fun q5 => ?_)
  · refine tz_aload_n 0 rfl (zd DX8_rule 11 rfl) ?_
    refine tz_getI 7 kz8 (zs_74) (by decide) rfl wk_864 (zd DX8_rule 12 rfl) ?_
    refine tz_iload_n 1 rfl (zd DX8_rule 13 rfl) ?_
    refine tz_icmp_ne 30 (zd DX8_rule 14 rfl) rfl (fun q6 => ?_) (fun q6 => ?_)
    · refine tz_aload_n 0 rfl (zd DX8_rule 17 rfl) ?_
      refine tz_getI 7 kz8 (zs_74) (by decide) rfl wk_864 (zd DX8_rule 18 rfl) ?_
      refine tz_lti (fun v7 => ?_)
      refine tz_istore_n [(2, .int v7), (0, .ref 74), (1, .int a1)] (Nat.le_of_ble_eq_true rfl) rfl (zd DX8_rule 19 rfl) ?_
      refine tz_aload_n 1 rfl (zd DX8_rule 20 rfl) ?_
      refine tz_iload_n 2 rfl (zd DX8_rule 21 rfl) ?_
      refine tz_putI 7 kz8 (zs_74) (by decide) rfl rfl wk_864 (zd DX8_rule 22 rfl) (fun w8 => ?_)
      refine tz_aload_n 1 rfl (zd DX8_rule 23 rfl) ?_
      refine tz_cV_n kz8 (zs_74) rfl (rest := []) (YX8_laysAll) wk_1034 (tX8_laysAll w8) rfl rfl (Nat.le_of_ble_eq_true rfl) ⟨Nat.le_of_ble_eq_true rfl, Nat.le_of_ble_eq_true rfl⟩ (zd DX8_rule 24 rfl) (fun v11 w9 e10 => ?_)
      refine tz_iload_n 0 rfl (zd DX8_rule 25 rfl) ?_
      exact tz_iret rfl (zd DX8_rule 26 rfl)
    refine tz_bipush (-2 : Int32) zk_bipush_m2 (zd DX8_rule 15 rfl) ?_
    exact tz_iret rfl (zd DX8_rule 16 rfl)
  refine tz_iconst (-1 : Int32) zk_iconst_m1 (zd DX8_rule 9 rfl) ?_
  exact tz_iret rfl (zd DX8_rule 10 rfl)
def QX8_readsTable : List (Nat × Instr × Nat) := [(0, .aload_n 0, 1), (1, .iconst 0, 1), (2, .putfield 210, 3), (5, .aload_n 0, 1), (6, .getfield 210, 3), (9, .iconst 5, 1), (10, .if_icmp .ge 49, 3), (13, .aload_n 0, 1), (14, .getfield 210, 3), (17, .aload_n 0, 1), (18, .getfield 25, 3), (21, .if_icmp .ge 38, 3), (24, .aload_n 0, 1), (25, .getfield 17, 3), (28, .aload_n 0, 1), (29, .getfield 210, 3), (32, .iaload, 1), (33, .i2l, 1), (34, .ldc2_w 35, 3), (37, .ldc2_w 213, 3), (40, .invokestatic 21, 3), (43, .ifCond .eq 16, 3), (46, .aload_n 0, 1), (47, .dup, 1), (48, .getfield 210, 3), (51, .iconst 1, 1), (52, .iadd, 1), (53, .putfield 210, 3), (56, .goto (-51), 3), (59, .aload_n 0, 1), (60, .getfield 210, 3), (63, .ifCond .ne 5, 3), (66, .iconst 0, 1), (67, .ireturn, 1), (68, .iconst 0, 1), (69, .istore_n 1, 1), (70, .iload_n 1, 1), (71, .aload_n 0, 1), (72, .getfield 210, 3), (75, .if_icmp .ge 103, 3), (78, .iload_n 1, 1), (79, .ifCond .le 14, 3), (82, .aload_n 0, 1), (83, .bipush 47, 2), (85, .invokevirtual 215, 3), (88, .ifCond .ne 5, 3), (91, .iconst 0, 1), (92, .ireturn, 1), (93, .iconst 0, 1), (94, .istore_n 2, 1), (95, .iload_n 2, 1), (96, .aload_n 0, 1), (97, .getfield 210, 3), (100, .if_icmp .ge 72, 3), (103, .aload_n 0, 1), (104, .invokevirtual 218, 3), (107, .ifCond .eq 22, 3), (110, .aload_n 0, 1), (111, .getfield 17, 3), (114, .aload_n 0, 1), (115, .getfield 28, 3), (118, .iaload, 1), (119, .bipush 48, 2), (121, .isub, 1), (122, .aload_n 0, 1), (123, .getfield 210, 3), (126, .if_icmp .lt 5, 3), (129, .iconst 0, 1), (130, .ireturn, 1), (131, .aload_n 0, 1), (132, .getfield 84, 3), (135, .aload_n 0, 1), (136, .getfield 210, 3), (139, .iload_n 1, 1), (140, .imul, 1), (141, .iload_n 2, 1), (142, .iadd, 1), (143, .aload_n 0, 1), (144, .getfield 17, 3), (147, .aload_n 0, 1), (148, .getfield 28, 3), (151, .iaload, 1), (152, .bipush 48, 2), (154, .isub, 1), (155, .iastore, 1), (156, .aload_n 0, 1), (157, .dup, 1), (158, .getfield 28, 3), (161, .iconst 1, 1), (162, .iadd, 1), (163, .putfield 28, 3), (166, .iinc 2 1, 3), (169, .goto (-74), 3), (172, .iinc 1 1, 3), (175, .goto (-105), 3), (178, .aload_n 0, 1), (179, .getfield 28, 3), (182, .aload_n 0, 1), (183, .getfield 25, 3), (186, .if_icmp .ne 7, 3), (189, .iconst 1, 1), (190, .goto 4, 3), (193, .iconst 0, 1), (194, .ireturn, 1)]
set_option maxRecDepth 100000 in
theorem DX8_readsTable : ∀ q ∈ QX8_readsTable, decode cX8_readsTable q.1 = .ok (q.2.1, q.2.2) := by decide +kernel
abbrev MX8_readsTable : zM := (cX8_readsTable, "EndSumsModel", 3, (some .boolean), { frames := 2, cells := 0, slots := 0, locals := 45 })
def fX8_readsTable_L95 (x1 : Int32) (j70 : Int32 → zW → Option (Bool × zW)) : Nat → Int32 → zW → Option (Bool × zW)
  | 0, _, _ => none
  | n + 1, x2, w =>
    if (zI w 74 27) ≤ x2 then
      j70 (x1 + (1 : Int32)) w
    else
    bd (fX8_isDigit w) fun b10 w8 =>
    if b10 = true then
      zg (zin (zI w8 74 5) 100) <|
      if ((zI w8 76 (zI w8 74 5).toNatClampNeg) - (48 : Int32)) < (zI w8 74 27) then
        zg (zin (zI w8 74 5) 100) <|
        zg (zin (((zI w8 74 27) * x1) + x2) 25) <| lt (zsI w8 89 (((zI w8 74 27) * x1) + x2).toNatClampNeg ((zI w8 76 (zI w8 74 5).toNatClampNeg) - (48 : Int32))) fun w13 =>
        lt (zsI w13 74 5 ((zI w13 74 5) + (1 : Int32))) fun w14 =>
        fX8_readsTable_L95 x1 j70 n (x2 + (1 : Int32)) w14
      else
      some (false, w8)
    else
    some (false, w8)
def fX8_readsTable_L70  : Nat → Int32 → zW → Option (Bool × zW)
  | 0, _, _ => none
  | n + 1, x1, w =>
    if (zI w 74 27) ≤ x1 then
      if ¬ (zI w 74 5) = (zI w 74 6) then
        some (false, w)
      else
      some (true, w)
    else
    lt (fun (w6 : zW) =>
      fX8_readsTable_L95 x1 (fX8_readsTable_L70 n) zFU (0 : Int32) w6) fun j6 =>
    if x1 ≤ (0 : Int32) then
      j6 w
    else
    bd (fX8_takesSign (47 : Int32) w) fun b18 w16 =>
    if b18 = true then
      j6 w16
    else
    some (false, w16)
def fX8_readsTable_L5  : Nat → zW → Option (Bool × zW)
  | 0, _ => none
  | n + 1, w =>
    lt (fun (w2 : zW) =>
      if ¬ (zI w2 74 27) = (0 : Int32) then
        fX8_readsTable_L70 zFU (0 : Int32) w2
      else
      some (false, w2)) fun j2 =>
    if (5 : Int32) ≤ (zI w 74 27) then
      j2 w
    else
    if (zI w 74 6) ≤ (zI w 74 27) then
      j2 w
    else
    zg (zin (zI w 74 27) 100) <|
    bd (fX8_in (zI w 76 (zI w 74 27).toNatClampNeg).toInt64 (48 : Int64) (52 : Int64) w) fun b24 w22 =>
    if b24 = true then
      lt (zsI w22 74 27 ((zI w22 74 27) + (1 : Int32))) fun w26 =>
      fX8_readsTable_L5 n w26
    else
    j2 w22
def fX8_readsTable  (w : zW) : Option (Bool × zW) :=
  lt (zsI w 74 27 (0 : Int32)) fun w1 =>
  fX8_readsTable_L5 zFU w1
theorem YX8_readsTable : zYV yX8_readsTable MX8_readsTable 0 := ⟨wk_1076, wk_9, ⟨wk_1075, ws_93⟩, ⟨by decide, by decide, by decide +kernel⟩, rfl, rfl⟩
set_option maxHeartbeats 4000000 in
set_option maxRecDepth 100000 in
theorem lX8_readsTable_L95 (x1 : Int32) (j70 : Int32 → zW → Option (Bool × zW)) (hj70 : ∀ (y1 : Int32) (w : zW), Tz MX8_readsTable (zRet zz) (j70 y1 w) 70 [(0, .ref 74), (1, .int y1)] [] w) : ∀ (n : Nat) (x2 : Int32) (w : zW), Tz MX8_readsTable (zRet zz) (fX8_readsTable_L95 x1 j70 n x2 w) 95 [(0, .ref 74), (1, .int x1), (2, .int x2)] [] w := by
  intro n
  induction n with
  | zero => intro x2 w; exact tz_eq (fX8_readsTable_L95.eq_1 _ _ _ _) tz_none
  | succ n ih =>
    intro x2 w
    refine tz_eq (fX8_readsTable_L95.eq_2 _ _ _ _ _) ?_
    refine tz_iload_n 2 rfl (zd DX8_readsTable 50 rfl) ?_
    refine tz_aload_n 0 rfl (zd DX8_readsTable 51 rfl) ?_
    refine tz_getI 27 kz8 (zs_74) (by decide) rfl wk_884 (zd DX8_readsTable 52 rfl) ?_
    refine tz_icmp_ge 172 (zd DX8_readsTable 53 rfl) rfl (fun q7 => ?_) (fun q7 => ?_)
    · refine tz_iinc 1 (1 : Int32) [(1, .int (x1 + (1 : Int32))), (0, .ref 74), (2, .int x2)] rfl zk_iconst_1 (Nat.le_of_ble_eq_true rfl) rfl (zd DX8_readsTable 93 rfl) ?_
      refine tz_goto 70 (zd DX8_readsTable 94 rfl) rfl ?_
      refine tz_lv (lv2 := [(0, .ref 74), (1, .int (x1 + (1 : Int32)))]) [1, 0] rfl ?_
      exact hj70 (x1 + (1 : Int32)) w
    refine tz_aload_n 0 rfl (zd DX8_readsTable 54 rfl) ?_
    refine tz_cV_z kz8 (zs_74) rfl (rest := []) (YX8_isDigit) wk_1083 (tX8_isDigit w) rfl rfl (Nat.le_of_ble_eq_true rfl) ⟨Nat.le_of_ble_eq_true rfl, Nat.le_of_ble_eq_true rfl⟩ (zd DX8_readsTable 55 rfl) (fun b10 w8 e9 => ?_)
    refine tz_bif_eq 129 (zd DX8_readsTable 56 rfl) rfl (fun q11 => ?_) (fun q11 => ?_)
    · refine tz_aload_n 0 rfl (zd DX8_readsTable 57 rfl) ?_
      refine tz_getR 76 3 kz8 (zs_74) (by decide) (by decide) rfl wk_860 (zd DX8_readsTable 58 rfl) ?_
      refine tz_aload_n 0 rfl (zd DX8_readsTable 59 rfl) ?_
      refine tz_getI 5 kz8 (zs_74) (by decide) rfl wk_862 (zd DX8_readsTable 60 rfl) ?_
      refine tz_iald (zs_76.1) (zs_76.2) (zd DX8_readsTable 61 rfl) ?_
      refine tz_bipush (48 : Int32) zk_bipush_48 (zd DX8_readsTable 62 rfl) ?_
      refine tz_isub (zd DX8_readsTable 63 rfl) ?_
      refine tz_aload_n 0 rfl (zd DX8_readsTable 64 rfl) ?_
      refine tz_getI 27 kz8 (zs_74) (by decide) rfl wk_884 (zd DX8_readsTable 65 rfl) ?_
      refine tz_icmp_lt 131 (zd DX8_readsTable 66 rfl) rfl (fun q12 => ?_) (fun q12 => ?_)
      · refine tz_aload_n 0 rfl (zd DX8_readsTable 69 rfl) ?_
        refine tz_getR 89 26 kz8 (zs_74) (by decide) (by decide) rfl wk_883 (zd DX8_readsTable 70 rfl) ?_
        refine tz_aload_n 0 rfl (zd DX8_readsTable 71 rfl) ?_
        refine tz_getI 27 kz8 (zs_74) (by decide) rfl wk_884 (zd DX8_readsTable 72 rfl) ?_
        refine tz_iload_n 1 rfl (zd DX8_readsTable 73 rfl) ?_
        refine tz_imul (zd DX8_readsTable 74 rfl) ?_
        refine tz_iload_n 2 rfl (zd DX8_readsTable 75 rfl) ?_
        refine tz_iadd (zd DX8_readsTable 76 rfl) ?_
        refine tz_aload_n 0 rfl (zd DX8_readsTable 77 rfl) ?_
        refine tz_getR 76 3 kz8 (zs_74) (by decide) (by decide) rfl wk_860 (zd DX8_readsTable 78 rfl) ?_
        refine tz_aload_n 0 rfl (zd DX8_readsTable 79 rfl) ?_
        refine tz_getI 5 kz8 (zs_74) (by decide) rfl wk_862 (zd DX8_readsTable 80 rfl) ?_
        refine tz_iald (zs_76.1) (zs_76.2) (zd DX8_readsTable 81 rfl) ?_
        refine tz_bipush (48 : Int32) zk_bipush_48 (zd DX8_readsTable 82 rfl) ?_
        refine tz_isub (zd DX8_readsTable 83 rfl) ?_
        refine tz_iast (zs_89.1) (zs_89.2) (zd DX8_readsTable 84 rfl) (fun w13 => ?_)
        refine tz_aload_n 0 rfl (zd DX8_readsTable 85 rfl) ?_
        refine tz_dupa (zd DX8_readsTable 86 rfl) ?_
        refine tz_getI 5 kz8 (zs_74) (by decide) rfl wk_862 (zd DX8_readsTable 87 rfl) ?_
        refine tz_iconst (1 : Int32) zk_iconst_1 (zd DX8_readsTable 88 rfl) ?_
        refine tz_iadd (zd DX8_readsTable 89 rfl) ?_
        refine tz_putI 5 kz8 (zs_74) (by decide) rfl rfl wk_862 (zd DX8_readsTable 90 rfl) (fun w14 => ?_)
        refine tz_iinc 2 (1 : Int32) [(2, .int (x2 + (1 : Int32))), (0, .ref 74), (1, .int x1)] rfl zk_iconst_1 (Nat.le_of_ble_eq_true rfl) rfl (zd DX8_readsTable 91 rfl) ?_
        refine tz_goto 95 (zd DX8_readsTable 92 rfl) rfl ?_
        refine tz_lv (lv2 := [(0, .ref 74), (1, .int x1), (2, .int (x2 + (1 : Int32)))]) [1, 2, 0] rfl ?_
        exact ih (x2 + (1 : Int32)) w14
      refine tz_iconst (0 : Int32) zk_iconst_0 (zd DX8_readsTable 67 rfl) ?_
      exact tz_zret0 rfl (zd DX8_readsTable 68 rfl)
    refine tz_iconst (0 : Int32) zk_iconst_0 (zd DX8_readsTable 67 rfl) ?_
    exact tz_zret0 rfl (zd DX8_readsTable 68 rfl)
set_option maxHeartbeats 4000000 in
set_option maxRecDepth 100000 in
theorem lX8_readsTable_L70  : ∀ (n : Nat) (x1 : Int32) (w : zW), Tz MX8_readsTable (zRet zz) (fX8_readsTable_L70 n x1 w) 70 [(0, .ref 74), (1, .int x1)] [] w := by
  intro n
  induction n with
  | zero => intro x1 w; exact tz_eq (fX8_readsTable_L70.eq_1 _ _) tz_none
  | succ n ih =>
    intro x1 w
    refine tz_eq (fX8_readsTable_L70.eq_2 _ _ _) ?_
    refine tz_iload_n 1 rfl (zd DX8_readsTable 36 rfl) ?_
    refine tz_aload_n 0 rfl (zd DX8_readsTable 37 rfl) ?_
    refine tz_getI 27 kz8 (zs_74) (by decide) rfl wk_884 (zd DX8_readsTable 38 rfl) ?_
    refine tz_icmp_ge 178 (zd DX8_readsTable 39 rfl) rfl (fun q4 => ?_) (fun q4 => ?_)
    · refine tz_aload_n 0 rfl (zd DX8_readsTable 95 rfl) ?_
      refine tz_getI 5 kz8 (zs_74) (by decide) rfl wk_862 (zd DX8_readsTable 96 rfl) ?_
      refine tz_aload_n 0 rfl (zd DX8_readsTable 97 rfl) ?_
      refine tz_getI 6 kz8 (zs_74) (by decide) rfl wk_863 (zd DX8_readsTable 98 rfl) ?_
      refine tz_icmp_ne 193 (zd DX8_readsTable 99 rfl) rfl (fun q5 => ?_) (fun q5 => ?_)
      · refine tz_iconst (0 : Int32) zk_iconst_0 (zd DX8_readsTable 102 rfl) ?_
        exact tz_zret0 rfl (zd DX8_readsTable 103 rfl)
      refine tz_iconst (1 : Int32) zk_iconst_1 (zd DX8_readsTable 100 rfl) ?_
      refine tz_goto 194 (zd DX8_readsTable 101 rfl) rfl ?_
      exact tz_zret1 rfl (zd DX8_readsTable 103 rfl)
    refine tz_iload_n 1 rfl (zd DX8_readsTable 40 rfl) ?_
    refine tz_jp (P := fun j => ∀ (w6 : zW), Tz MX8_readsTable (zRet zz) (j w6) 93 [(0, .ref 74), (1, .int x1)] [] w6) ?_ (fun j6 hj6 => ?_)
    · intro w6
      refine tz_iconst (0 : Int32) zk_iconst_0 (zd DX8_readsTable 48 rfl) ?_
      refine tz_istore_n [(2, .int (0 : Int32)), (0, .ref 74), (1, .int x1)] (Nat.le_of_ble_eq_true rfl) rfl (zd DX8_readsTable 49 rfl) ?_
      refine tz_lv (lv2 := [(0, .ref 74), (1, .int x1), (2, .int (0 : Int32))]) [1, 2, 0] rfl ?_
      exact lX8_readsTable_L95 x1 _ ih zFU (0 : Int32) w6
    refine tz_if_le 93 (zd DX8_readsTable 41 rfl) rfl (fun q15 => ?_) (fun q15 => ?_)
    · exact hj6 w
    refine tz_aload_n 0 rfl (zd DX8_readsTable 42 rfl) ?_
    refine tz_bipush (47 : Int32) zk_bipush_47 (zd DX8_readsTable 43 rfl) ?_
    refine tz_cV_z kz8 (zs_74) rfl (rest := []) (YX8_takesSign) wk_1079 (tX8_takesSign (47 : Int32) w) rfl rfl (Nat.le_of_ble_eq_true rfl) ⟨Nat.le_of_ble_eq_true rfl, Nat.le_of_ble_eq_true rfl⟩ (zd DX8_readsTable 44 rfl) (fun b18 w16 e17 => ?_)
    refine tz_bif_ne 93 (zd DX8_readsTable 45 rfl) rfl (fun q19 => ?_) (fun q19 => ?_)
    · exact hj6 w16
    refine tz_iconst (0 : Int32) zk_iconst_0 (zd DX8_readsTable 46 rfl) ?_
    exact tz_zret0 rfl (zd DX8_readsTable 47 rfl)
set_option maxHeartbeats 4000000 in
set_option maxRecDepth 100000 in
theorem lX8_readsTable_L5  : ∀ (n : Nat)  (w : zW), Tz MX8_readsTable (zRet zz) (fX8_readsTable_L5 n w) 5 [(0, .ref 74)] [] w := by
  intro n
  induction n with
  | zero => intro  w; exact tz_eq (fX8_readsTable_L5.eq_1 _) tz_none
  | succ n ih =>
    intro  w
    refine tz_eq (fX8_readsTable_L5.eq_2 _ _) ?_
    refine tz_aload_n 0 rfl (zd DX8_readsTable 3 rfl) ?_
    refine tz_getI 27 kz8 (zs_74) (by decide) rfl wk_884 (zd DX8_readsTable 4 rfl) ?_
    refine tz_iconst (5 : Int32) zk_iconst_5 (zd DX8_readsTable 5 rfl) ?_
    refine tz_jp (P := fun j => ∀ (w2 : zW), Tz MX8_readsTable (zRet zz) (j w2) 59 [(0, .ref 74)] [] w2) ?_ (fun j2 hj2 => ?_)
    · intro w2
      refine tz_aload_n 0 rfl (zd DX8_readsTable 29 rfl) ?_
      refine tz_getI 27 kz8 (zs_74) (by decide) rfl wk_884 (zd DX8_readsTable 30 rfl) ?_
      refine tz_if_ne 68 (zd DX8_readsTable 31 rfl) rfl (fun q3 => ?_) (fun q3 => ?_)
      · refine tz_iconst (0 : Int32) zk_iconst_0 (zd DX8_readsTable 34 rfl) ?_
        refine tz_istore_n [(1, .int (0 : Int32)), (0, .ref 74)] (Nat.le_of_ble_eq_true rfl) rfl (zd DX8_readsTable 35 rfl) ?_
        refine tz_lv (lv2 := [(0, .ref 74), (1, .int (0 : Int32))]) [1, 0] rfl ?_
        exact lX8_readsTable_L70 zFU (0 : Int32) w2
      refine tz_iconst (0 : Int32) zk_iconst_0 (zd DX8_readsTable 32 rfl) ?_
      exact tz_zret0 rfl (zd DX8_readsTable 33 rfl)
    refine tz_icmp_ge 59 (zd DX8_readsTable 6 rfl) rfl (fun q20 => ?_) (fun q20 => ?_)
    · exact hj2 w
    refine tz_aload_n 0 rfl (zd DX8_readsTable 7 rfl) ?_
    refine tz_getI 27 kz8 (zs_74) (by decide) rfl wk_884 (zd DX8_readsTable 8 rfl) ?_
    refine tz_aload_n 0 rfl (zd DX8_readsTable 9 rfl) ?_
    refine tz_getI 6 kz8 (zs_74) (by decide) rfl wk_863 (zd DX8_readsTable 10 rfl) ?_
    refine tz_icmp_ge 59 (zd DX8_readsTable 11 rfl) rfl (fun q21 => ?_) (fun q21 => ?_)
    · exact hj2 w
    refine tz_aload_n 0 rfl (zd DX8_readsTable 12 rfl) ?_
    refine tz_getR 76 3 kz8 (zs_74) (by decide) (by decide) rfl wk_860 (zd DX8_readsTable 13 rfl) ?_
    refine tz_aload_n 0 rfl (zd DX8_readsTable 14 rfl) ?_
    refine tz_getI 27 kz8 (zs_74) (by decide) rfl wk_884 (zd DX8_readsTable 15 rfl) ?_
    refine tz_iald (zs_76.1) (zs_76.2) (zd DX8_readsTable 16 rfl) ?_
    refine tz_i2l (zd DX8_readsTable 17 rfl) ?_
    refine tz_ldc2_w wk_1077 (zd DX8_readsTable 18 rfl) ?_
    refine tz_ldc2_w wk_1078 (zd DX8_readsTable 19 rfl) ?_
    refine tz_cS_z (rest := []) (YX8_in) wk_848 (tX8_in (zI w 76 (zI w 74 27).toNatClampNeg).toInt64 (48 : Int64) (52 : Int64) w) rfl rfl (Nat.le_of_ble_eq_true rfl) ⟨Nat.le_of_ble_eq_true rfl, Nat.le_of_ble_eq_true rfl⟩ (zd DX8_readsTable 20 rfl) (fun b24 w22 e23 => ?_)
    refine tz_bif_eq 59 (zd DX8_readsTable 21 rfl) rfl (fun q25 => ?_) (fun q25 => ?_)
    · refine tz_aload_n 0 rfl (zd DX8_readsTable 22 rfl) ?_
      refine tz_dupa (zd DX8_readsTable 23 rfl) ?_
      refine tz_getI 27 kz8 (zs_74) (by decide) rfl wk_884 (zd DX8_readsTable 24 rfl) ?_
      refine tz_iconst (1 : Int32) zk_iconst_1 (zd DX8_readsTable 25 rfl) ?_
      refine tz_iadd (zd DX8_readsTable 26 rfl) ?_
      refine tz_putI 27 kz8 (zs_74) (by decide) rfl rfl wk_884 (zd DX8_readsTable 27 rfl) (fun w26 => ?_)
      refine tz_goto 5 (zd DX8_readsTable 28 rfl) rfl ?_
      exact ih w26
    exact hj2 w22
set_option maxHeartbeats 4000000 in
set_option maxRecDepth 100000 in
theorem tX8_readsTable  (w : zW) : Sm yX8_readsTable MX8_readsTable zz [.ref 74] w (fX8_readsTable w) := by
  refine Sm_of (lv0 := [(0, .ref 74)]) (by decide) rfl (fun _ => Nat.le_of_ble_eq_true rfl) rfl ?_
  unfold fX8_readsTable
  refine tz_aload_n 0 rfl (zd DX8_readsTable 0 rfl) ?_
  refine tz_iconst (0 : Int32) zk_iconst_0 (zd DX8_readsTable 1 rfl) ?_
  refine tz_putI 27 kz8 (zs_74) (by decide) rfl rfl wk_884 (zd DX8_readsTable 2 rfl) (fun w1 => ?_)
  exact lX8_readsTable_L5 zFU w1
def QX8_read : List (Nat × Instr × Nat) := [(0, .aload_n 0, 1), (1, .getfield 84, 3), (4, .aload_n 0, 1), (5, .getfield 210, 3), (8, .iload_n 1, 1), (9, .imul, 1), (10, .iload_n 2, 1), (11, .iadd, 1), (12, .iaload, 1), (13, .ireturn, 1)]
set_option maxRecDepth 100000 in
theorem DX8_read : ∀ q ∈ QX8_read, decode cX8_read q.1 = .ok (q.2.1, q.2.2) := by decide +kernel
abbrev MX8_read : zM := (cX8_read, "EndSumsModel", 3, (some .int), { frames := 0, cells := 0, slots := 0, locals := 0 })
def fX8_read (a1 : Int32) (a2 : Int32) (w : zW) : Option (Int32 × zW) :=
  zg (zin (((zI w 74 27) * a1) + a2) 25) <|
  some ((zI w 89 (((zI w 74 27) * a1) + a2).toNatClampNeg), w)
theorem YX8_read : zYV yX8_read MX8_read 2 := ⟨wk_1095, wk_9, ⟨wk_1094, ws_97⟩, ⟨by decide, by decide, by decide +kernel⟩, rfl, rfl⟩
set_option maxHeartbeats 4000000 in
set_option maxRecDepth 100000 in
theorem tX8_read (a1 : Int32) (a2 : Int32) (w : zW) : Sm yX8_read MX8_read zi [.ref 74, .int a1, .int a2] w (fX8_read a1 a2 w) := by
  refine Sm_of (lv0 := [(0, .ref 74), (1, .int a1), (2, .int a2)]) (by decide) rfl (fun _ => Nat.le_of_ble_eq_true rfl) rfl ?_
  unfold fX8_read
  refine tz_aload_n 0 rfl (zd DX8_read 0 rfl) ?_
  refine tz_getR 89 26 kz8 (zs_74) (by decide) (by decide) rfl wk_883 (zd DX8_read 1 rfl) ?_
  refine tz_aload_n 0 rfl (zd DX8_read 2 rfl) ?_
  refine tz_getI 27 kz8 (zs_74) (by decide) rfl wk_884 (zd DX8_read 3 rfl) ?_
  refine tz_iload_n 1 rfl (zd DX8_read 4 rfl) ?_
  refine tz_imul (zd DX8_read 5 rfl) ?_
  refine tz_iload_n 2 rfl (zd DX8_read 6 rfl) ?_
  refine tz_iadd (zd DX8_read 7 rfl) ?_
  refine tz_iald (zs_89.1) (zs_89.2) (zd DX8_read 8 rfl) ?_
  exact tz_iret rfl (zd DX8_read 9 rfl)
def QX8_hasUnlike : List (Nat × Instr × Nat) := [(0, .iconst 0, 1), (1, .istore_n 1, 1), (2, .iload_n 1, 1), (3, .aload_n 0, 1), (4, .getfield 210, 3), (7, .if_icmp .ge 91, 3), (10, .iconst 0, 1), (11, .istore_n 2, 1), (12, .iload_n 2, 1), (13, .aload_n 0, 1), (14, .getfield 210, 3), (17, .if_icmp .ge 75, 3), (20, .iconst 0, 1), (21, .istore_n 3, 1), (22, .iload_n 3, 1), (23, .aload_n 0, 1), (24, .getfield 210, 3), (27, .if_icmp .ge 59, 3), (30, .aload_n 0, 1), (31, .aload_n 0, 1), (32, .iload_n 1, 1), (33, .iload_n 2, 1), (34, .invokevirtual 222, 3), (37, .iload_n 3, 1), (38, .invokevirtual 222, 3), (41, .aload_n 0, 1), (42, .iload_n 1, 1), (43, .aload_n 0, 1), (44, .iload_n 2, 1), (45, .iload_n 3, 1), (46, .invokevirtual 222, 3), (49, .invokevirtual 222, 3), (52, .if_icmp .eq 28, 3), (55, .aload_n 0, 1), (56, .iconst 0, 1), (57, .putfield 11, 3), (60, .aload_n 0, 1), (61, .iload_n 1, 1), (62, .i2l, 1), (63, .invokevirtual 164, 3), (66, .aload_n 0, 1), (67, .iload_n 2, 1), (68, .i2l, 1), (69, .invokevirtual 164, 3), (72, .aload_n 0, 1), (73, .iload_n 3, 1), (74, .i2l, 1), (75, .invokevirtual 164, 3), (78, .iconst 1, 1), (79, .ireturn, 1), (80, .iinc 3 1, 3), (83, .goto (-61), 3), (86, .iinc 2 1, 3), (89, .goto (-77), 3), (92, .iinc 1 1, 3), (95, .goto (-93), 3), (98, .iconst 0, 1), (99, .ireturn, 1)]
set_option maxRecDepth 100000 in
theorem DX8_hasUnlike : ∀ q ∈ QX8_hasUnlike, decode cX8_hasUnlike q.1 = .ok (q.2.1, q.2.2) := by decide +kernel
abbrev MX8_hasUnlike : zM := (cX8_hasUnlike, "EndSumsModel", 4, (some .boolean), { frames := 1, cells := 0, slots := 0, locals := 22 })
def fX8_hasUnlike_L22 (x1 : Int32) (x2 : Int32) (j12 : Int32 → zW → Option (Bool × zW)) : Nat → Int32 → zW → Option (Bool × zW)
  | 0, _, _ => none
  | n + 1, x3, w =>
    if (zI w 74 27) ≤ x3 then
      j12 (x2 + (1 : Int32)) w
    else
    bd (fX8_read x1 x2 w) fun v6 w4 =>
    bd (fX8_read v6 x3 w4) fun v9 w7 =>
    bd (fX8_read x2 x3 w7) fun v12 w10 =>
    bd (fX8_read x1 v12 w10) fun v15 w13 =>
    if v9 = v15 then
      fX8_hasUnlike_L22 x1 x2 j12 n (x3 + (1 : Int32)) w13
    else
    lt (zsI w13 74 1 (0 : Int32)) fun w17 =>
    bd (fX8_enters (x1).toInt64 w17) fun _ w18 =>
    bd (fX8_enters (x2).toInt64 w18) fun _ w21 =>
    bd (fX8_enters (x3).toInt64 w21) fun _ w24 =>
    some (true, w24)
def fX8_hasUnlike_L12 (x1 : Int32) (j2 : Int32 → zW → Option (Bool × zW)) : Nat → Int32 → zW → Option (Bool × zW)
  | 0, _, _ => none
  | n + 1, x2, w =>
    if (zI w 74 27) ≤ x2 then
      j2 (x1 + (1 : Int32)) w
    else
    fX8_hasUnlike_L22 x1 x2 (fX8_hasUnlike_L12 x1 j2 n) zFU (0 : Int32) w
def fX8_hasUnlike_L2  : Nat → Int32 → zW → Option (Bool × zW)
  | 0, _, _ => none
  | n + 1, x1, w =>
    if (zI w 74 27) ≤ x1 then
      some (false, w)
    else
    fX8_hasUnlike_L12 x1 (fX8_hasUnlike_L2 n) zFU (0 : Int32) w
def fX8_hasUnlike  (w : zW) : Option (Bool × zW) :=
  fX8_hasUnlike_L2 zFU (0 : Int32) w
theorem YX8_hasUnlike : zYV yX8_hasUnlike MX8_hasUnlike 0 := ⟨wk_1091, wk_9, ⟨wk_1090, ws_96⟩, ⟨by decide, by decide, by decide +kernel⟩, rfl, rfl⟩
set_option maxHeartbeats 4000000 in
set_option maxRecDepth 100000 in
theorem lX8_hasUnlike_L22 (x1 : Int32) (x2 : Int32) (j12 : Int32 → zW → Option (Bool × zW)) (hj12 : ∀ (y2 : Int32) (w : zW), Tz MX8_hasUnlike (zRet zz) (j12 y2 w) 12 [(0, .ref 74), (1, .int x1), (2, .int y2)] [] w) : ∀ (n : Nat) (x3 : Int32) (w : zW), Tz MX8_hasUnlike (zRet zz) (fX8_hasUnlike_L22 x1 x2 j12 n x3 w) 22 [(0, .ref 74), (1, .int x1), (2, .int x2), (3, .int x3)] [] w := by
  intro n
  induction n with
  | zero => intro x3 w; exact tz_eq (fX8_hasUnlike_L22.eq_1 _ _ _ _ _) tz_none
  | succ n ih =>
    intro x3 w
    refine tz_eq (fX8_hasUnlike_L22.eq_2 _ _ _ _ _ _) ?_
    refine tz_iload_n 3 rfl (zd DX8_hasUnlike 14 rfl) ?_
    refine tz_aload_n 0 rfl (zd DX8_hasUnlike 15 rfl) ?_
    refine tz_getI 27 kz8 (zs_74) (by decide) rfl wk_884 (zd DX8_hasUnlike 16 rfl) ?_
    refine tz_icmp_ge 86 (zd DX8_hasUnlike 17 rfl) rfl (fun q3 => ?_) (fun q3 => ?_)
    · refine tz_iinc 2 (1 : Int32) [(2, .int (x2 + (1 : Int32))), (0, .ref 74), (1, .int x1), (3, .int x3)] rfl zk_iconst_1 (Nat.le_of_ble_eq_true rfl) rfl (zd DX8_hasUnlike 52 rfl) ?_
      refine tz_goto 12 (zd DX8_hasUnlike 53 rfl) rfl ?_
      refine tz_lv (lv2 := [(0, .ref 74), (1, .int x1), (2, .int (x2 + (1 : Int32)))]) [1, 2, 0] rfl ?_
      exact hj12 (x2 + (1 : Int32)) w
    refine tz_aload_n 0 rfl (zd DX8_hasUnlike 18 rfl) ?_
    refine tz_aload_n 0 rfl (zd DX8_hasUnlike 19 rfl) ?_
    refine tz_iload_n 1 rfl (zd DX8_hasUnlike 20 rfl) ?_
    refine tz_iload_n 2 rfl (zd DX8_hasUnlike 21 rfl) ?_
    refine tz_cV_i kz8 (zs_74) rfl (rest := [.ref 74]) (YX8_read) wk_1092 (tX8_read x1 x2 w) rfl rfl (Nat.le_of_ble_eq_true rfl) ⟨Nat.le_of_ble_eq_true rfl, Nat.le_of_ble_eq_true rfl⟩ (zd DX8_hasUnlike 22 rfl) (fun v6 w4 e5 => ?_)
    refine tz_iload_n 3 rfl (zd DX8_hasUnlike 23 rfl) ?_
    refine tz_cV_i kz8 (zs_74) rfl (rest := []) (YX8_read) wk_1092 (tX8_read v6 x3 w4) rfl rfl (Nat.le_of_ble_eq_true rfl) ⟨Nat.le_of_ble_eq_true rfl, Nat.le_of_ble_eq_true rfl⟩ (zd DX8_hasUnlike 24 rfl) (fun v9 w7 e8 => ?_)
    refine tz_aload_n 0 rfl (zd DX8_hasUnlike 25 rfl) ?_
    refine tz_iload_n 1 rfl (zd DX8_hasUnlike 26 rfl) ?_
    refine tz_aload_n 0 rfl (zd DX8_hasUnlike 27 rfl) ?_
    refine tz_iload_n 2 rfl (zd DX8_hasUnlike 28 rfl) ?_
    refine tz_iload_n 3 rfl (zd DX8_hasUnlike 29 rfl) ?_
    refine tz_cV_i kz8 (zs_74) rfl (rest := [.int x1, .ref 74, .int v9]) (YX8_read) wk_1092 (tX8_read x2 x3 w7) rfl rfl (Nat.le_of_ble_eq_true rfl) ⟨Nat.le_of_ble_eq_true rfl, Nat.le_of_ble_eq_true rfl⟩ (zd DX8_hasUnlike 30 rfl) (fun v12 w10 e11 => ?_)
    refine tz_cV_i kz8 (zs_74) rfl (rest := [.int v9]) (YX8_read) wk_1092 (tX8_read x1 v12 w10) rfl rfl (Nat.le_of_ble_eq_true rfl) ⟨Nat.le_of_ble_eq_true rfl, Nat.le_of_ble_eq_true rfl⟩ (zd DX8_hasUnlike 31 rfl) (fun v15 w13 e14 => ?_)
    refine tz_icmp_eq 80 (zd DX8_hasUnlike 32 rfl) rfl (fun q16 => ?_) (fun q16 => ?_)
    · refine tz_iinc 3 (1 : Int32) [(3, .int (x3 + (1 : Int32))), (0, .ref 74), (1, .int x1), (2, .int x2)] rfl zk_iconst_1 (Nat.le_of_ble_eq_true rfl) rfl (zd DX8_hasUnlike 50 rfl) ?_
      refine tz_goto 22 (zd DX8_hasUnlike 51 rfl) rfl ?_
      refine tz_lv (lv2 := [(0, .ref 74), (1, .int x1), (2, .int x2), (3, .int (x3 + (1 : Int32)))]) [1, 2, 3, 0] rfl ?_
      exact ih (x3 + (1 : Int32)) w13
    refine tz_aload_n 0 rfl (zd DX8_hasUnlike 33 rfl) ?_
    refine tz_iconst (0 : Int32) zk_iconst_0 (zd DX8_hasUnlike 34 rfl) ?_
    refine tz_putI 1 kz8 (zs_74) (by decide) rfl rfl wk_858 (zd DX8_hasUnlike 35 rfl) (fun w17 => ?_)
    refine tz_aload_n 0 rfl (zd DX8_hasUnlike 36 rfl) ?_
    refine tz_iload_n 1 rfl (zd DX8_hasUnlike 37 rfl) ?_
    refine tz_i2l (zd DX8_hasUnlike 38 rfl) ?_
    refine tz_cV_n kz8 (zs_74) rfl (rest := []) (YX8_enters) wk_1002 (tX8_enters (x1).toInt64 w17) rfl rfl (Nat.le_of_ble_eq_true rfl) ⟨Nat.le_of_ble_eq_true rfl, Nat.le_of_ble_eq_true rfl⟩ (zd DX8_hasUnlike 39 rfl) (fun v20 w18 e19 => ?_)
    refine tz_aload_n 0 rfl (zd DX8_hasUnlike 40 rfl) ?_
    refine tz_iload_n 2 rfl (zd DX8_hasUnlike 41 rfl) ?_
    refine tz_i2l (zd DX8_hasUnlike 42 rfl) ?_
    refine tz_cV_n kz8 (zs_74) rfl (rest := []) (YX8_enters) wk_1002 (tX8_enters (x2).toInt64 w18) rfl rfl (Nat.le_of_ble_eq_true rfl) ⟨Nat.le_of_ble_eq_true rfl, Nat.le_of_ble_eq_true rfl⟩ (zd DX8_hasUnlike 43 rfl) (fun v23 w21 e22 => ?_)
    refine tz_aload_n 0 rfl (zd DX8_hasUnlike 44 rfl) ?_
    refine tz_iload_n 3 rfl (zd DX8_hasUnlike 45 rfl) ?_
    refine tz_i2l (zd DX8_hasUnlike 46 rfl) ?_
    refine tz_cV_n kz8 (zs_74) rfl (rest := []) (YX8_enters) wk_1002 (tX8_enters (x3).toInt64 w21) rfl rfl (Nat.le_of_ble_eq_true rfl) ⟨Nat.le_of_ble_eq_true rfl, Nat.le_of_ble_eq_true rfl⟩ (zd DX8_hasUnlike 47 rfl) (fun v26 w24 e25 => ?_)
    refine tz_iconst (1 : Int32) zk_iconst_1 (zd DX8_hasUnlike 48 rfl) ?_
    exact tz_zret1 rfl (zd DX8_hasUnlike 49 rfl)
set_option maxHeartbeats 4000000 in
set_option maxRecDepth 100000 in
theorem lX8_hasUnlike_L12 (x1 : Int32) (j2 : Int32 → zW → Option (Bool × zW)) (hj2 : ∀ (y1 : Int32) (w : zW), Tz MX8_hasUnlike (zRet zz) (j2 y1 w) 2 [(0, .ref 74), (1, .int y1)] [] w) : ∀ (n : Nat) (x2 : Int32) (w : zW), Tz MX8_hasUnlike (zRet zz) (fX8_hasUnlike_L12 x1 j2 n x2 w) 12 [(0, .ref 74), (1, .int x1), (2, .int x2)] [] w := by
  intro n
  induction n with
  | zero => intro x2 w; exact tz_eq (fX8_hasUnlike_L12.eq_1 _ _ _ _) tz_none
  | succ n ih =>
    intro x2 w
    refine tz_eq (fX8_hasUnlike_L12.eq_2 _ _ _ _ _) ?_
    refine tz_iload_n 2 rfl (zd DX8_hasUnlike 8 rfl) ?_
    refine tz_aload_n 0 rfl (zd DX8_hasUnlike 9 rfl) ?_
    refine tz_getI 27 kz8 (zs_74) (by decide) rfl wk_884 (zd DX8_hasUnlike 10 rfl) ?_
    refine tz_icmp_ge 92 (zd DX8_hasUnlike 11 rfl) rfl (fun q2 => ?_) (fun q2 => ?_)
    · refine tz_iinc 1 (1 : Int32) [(1, .int (x1 + (1 : Int32))), (0, .ref 74), (2, .int x2)] rfl zk_iconst_1 (Nat.le_of_ble_eq_true rfl) rfl (zd DX8_hasUnlike 54 rfl) ?_
      refine tz_goto 2 (zd DX8_hasUnlike 55 rfl) rfl ?_
      refine tz_lv (lv2 := [(0, .ref 74), (1, .int (x1 + (1 : Int32)))]) [1, 0] rfl ?_
      exact hj2 (x1 + (1 : Int32)) w
    refine tz_iconst (0 : Int32) zk_iconst_0 (zd DX8_hasUnlike 12 rfl) ?_
    refine tz_istore_n [(3, .int (0 : Int32)), (0, .ref 74), (1, .int x1), (2, .int x2)] (Nat.le_of_ble_eq_true rfl) rfl (zd DX8_hasUnlike 13 rfl) ?_
    refine tz_lv (lv2 := [(0, .ref 74), (1, .int x1), (2, .int x2), (3, .int (0 : Int32))]) [1, 2, 3, 0] rfl ?_
    exact lX8_hasUnlike_L22 x1 x2 _ ih zFU (0 : Int32) w
set_option maxHeartbeats 4000000 in
set_option maxRecDepth 100000 in
theorem lX8_hasUnlike_L2  : ∀ (n : Nat) (x1 : Int32) (w : zW), Tz MX8_hasUnlike (zRet zz) (fX8_hasUnlike_L2 n x1 w) 2 [(0, .ref 74), (1, .int x1)] [] w := by
  intro n
  induction n with
  | zero => intro x1 w; exact tz_eq (fX8_hasUnlike_L2.eq_1 _ _) tz_none
  | succ n ih =>
    intro x1 w
    refine tz_eq (fX8_hasUnlike_L2.eq_2 _ _ _) ?_
    refine tz_iload_n 1 rfl (zd DX8_hasUnlike 2 rfl) ?_
    refine tz_aload_n 0 rfl (zd DX8_hasUnlike 3 rfl) ?_
    refine tz_getI 27 kz8 (zs_74) (by decide) rfl wk_884 (zd DX8_hasUnlike 4 rfl) ?_
    refine tz_icmp_ge 98 (zd DX8_hasUnlike 5 rfl) rfl (fun q1 => ?_) (fun q1 => ?_)
    · refine tz_iconst (0 : Int32) zk_iconst_0 (zd DX8_hasUnlike 56 rfl) ?_
      exact tz_zret0 rfl (zd DX8_hasUnlike 57 rfl)
    refine tz_iconst (0 : Int32) zk_iconst_0 (zd DX8_hasUnlike 6 rfl) ?_
    refine tz_istore_n [(2, .int (0 : Int32)), (0, .ref 74), (1, .int x1)] (Nat.le_of_ble_eq_true rfl) rfl (zd DX8_hasUnlike 7 rfl) ?_
    refine tz_lv (lv2 := [(0, .ref 74), (1, .int x1), (2, .int (0 : Int32))]) [1, 2, 0] rfl ?_
    exact lX8_hasUnlike_L12 x1 _ ih zFU (0 : Int32) w
set_option maxHeartbeats 4000000 in
set_option maxRecDepth 100000 in
theorem tX8_hasUnlike  (w : zW) : Sm yX8_hasUnlike MX8_hasUnlike zz [.ref 74] w (fX8_hasUnlike w) := by
  refine Sm_of (lv0 := [(0, .ref 74)]) (by decide) rfl (fun _ => Nat.le_of_ble_eq_true rfl) rfl ?_
  unfold fX8_hasUnlike
  refine tz_iconst (0 : Int32) zk_iconst_0 (zd DX8_hasUnlike 0 rfl) ?_
  refine tz_istore_n [(1, .int (0 : Int32)), (0, .ref 74)] (Nat.le_of_ble_eq_true rfl) rfl (zd DX8_hasUnlike 1 rfl) ?_
  refine tz_lv (lv2 := [(0, .ref 74), (1, .int (0 : Int32))]) [1, 0] rfl ?_
  exact lX8_hasUnlike_L2 zFU (0 : Int32) w
def QX8_isNeutral : List (Nat × Instr × Nat) := [(0, .iconst 1, 1), (1, .istore_n 2, 1), (2, .iconst 0, 1), (3, .istore_n 3, 1), (4, .iload_n 3, 1), (5, .aload_n 0, 1), (6, .getfield 210, 3), (9, .if_icmp .ge 39, 3), (12, .iload_n 2, 1), (13, .ifCond .eq 27, 3), (16, .aload_n 0, 1), (17, .iload_n 1, 1), (18, .iload_n 3, 1), (19, .invokevirtual 222, 3), (22, .iload_n 3, 1), (23, .if_icmp .ne 17, 3), (26, .aload_n 0, 1), (27, .iload_n 3, 1), (28, .iload_n 1, 1), (29, .invokevirtual 222, 3), (32, .iload_n 3, 1), (33, .if_icmp .ne 7, 3), (36, .iconst 1, 1), (37, .goto 4, 3), (40, .iconst 0, 1), (41, .istore_n 2, 1), (42, .iinc 3 1, 3), (45, .goto (-41), 3), (48, .iload_n 2, 1), (49, .ireturn, 1)]
set_option maxRecDepth 100000 in
theorem DX8_isNeutral : ∀ q ∈ QX8_isNeutral, decode cX8_isNeutral q.1 = .ok (q.2.1, q.2.2) := by decide +kernel
abbrev MX8_isNeutral : zM := (cX8_isNeutral, "EndSumsModel", 4, (some .boolean), { frames := 1, cells := 0, slots := 0, locals := 22 })
def fX8_isNeutral_L4 (x1 : Int32) : Nat → Int32 → Int32 → zW → Option (Bool × zW)
  | 0, _, _, _ => none
  | n + 1, x2, x3, w =>
    if (zI w 74 27) ≤ x3 then
      some (zvb x2, w)
    else
    lt (fun (s_41 : Int32) (w3 : zW) =>
      fX8_isNeutral_L4 x1 n s_41 (x3 + (1 : Int32)) w3) fun j3 =>
    lt (fun (w4 : zW) =>
      j3 (0 : Int32) w4) fun j4 =>
    if x2 = (0 : Int32) then
      j4 w
    else
    bd (fX8_read x1 x3 w) fun v8 w6 =>
    if ¬ v8 = x3 then
      j4 w6
    else
    bd (fX8_read x3 x1 w6) fun v12 w10 =>
    if ¬ v12 = x3 then
      j4 w10
    else
    j3 (1 : Int32) w10
def fX8_isNeutral (a1 : Int32) (w : zW) : Option (Bool × zW) :=
  fX8_isNeutral_L4 a1 zFU (1 : Int32) (0 : Int32) w
theorem YX8_isNeutral : zYV yX8_isNeutral MX8_isNeutral 1 := ⟨wk_1099, wk_9, ⟨wk_1098, ws_98⟩, ⟨by decide, by decide, by decide +kernel⟩, rfl, rfl⟩
set_option maxHeartbeats 4000000 in
set_option maxRecDepth 100000 in
theorem lX8_isNeutral_L4 (x1 : Int32) : ∀ (n : Nat) (x2 : Int32) (x3 : Int32) (w : zW), Tz MX8_isNeutral (zRet zz) (fX8_isNeutral_L4 x1 n x2 x3 w) 4 [(0, .ref 74), (1, .int x1), (2, .int x2), (3, .int x3)] [] w := by
  intro n
  induction n with
  | zero => intro x2 x3 w; exact tz_eq (fX8_isNeutral_L4.eq_1 _ _ _ _) tz_none
  | succ n ih =>
    intro x2 x3 w
    refine tz_eq (fX8_isNeutral_L4.eq_2 _ _ _ _ _) ?_
    refine tz_iload_n 3 rfl (zd DX8_isNeutral 4 rfl) ?_
    refine tz_aload_n 0 rfl (zd DX8_isNeutral 5 rfl) ?_
    refine tz_getI 27 kz8 (zs_74) (by decide) rfl wk_884 (zd DX8_isNeutral 6 rfl) ?_
    refine tz_icmp_ge 48 (zd DX8_isNeutral 7 rfl) rfl (fun q1 => ?_) (fun q1 => ?_)
    · refine tz_iload_n 2 rfl (zd DX8_isNeutral 28 rfl) ?_
      exact tz_zretv rfl (zd DX8_isNeutral 29 rfl)
    refine tz_iload_n 2 rfl (zd DX8_isNeutral 8 rfl) ?_
    refine tz_jp (P := fun j => ∀ (s_41 : Int32) (w3 : zW), Tz MX8_isNeutral (zRet zz) (j s_41 w3) 41 [(0, .ref 74), (1, .int x1), (3, .int x3)] [.int s_41] w3) ?_ (fun j3 hj3 => ?_)
    · intro s_41 w3
      refine tz_istore_n [(2, .int s_41), (0, .ref 74), (1, .int x1), (3, .int x3)] (Nat.le_of_ble_eq_true rfl) rfl (zd DX8_isNeutral 25 rfl) ?_
      refine tz_iinc 3 (1 : Int32) [(3, .int (x3 + (1 : Int32))), (2, .int s_41), (0, .ref 74), (1, .int x1)] rfl zk_iconst_1 (Nat.le_of_ble_eq_true rfl) rfl (zd DX8_isNeutral 26 rfl) ?_
      refine tz_goto 4 (zd DX8_isNeutral 27 rfl) rfl ?_
      refine tz_lv (lv2 := [(0, .ref 74), (1, .int x1), (2, .int s_41), (3, .int (x3 + (1 : Int32)))]) [2, 3, 1, 0] rfl ?_
      exact ih s_41 (x3 + (1 : Int32)) w3
    refine tz_jp (P := fun j => ∀ (w4 : zW), Tz MX8_isNeutral (zRet zz) (j w4) 40 [(0, .ref 74), (1, .int x1), (3, .int x3)] [] w4) ?_ (fun j4 hj4 => ?_)
    · intro w4
      refine tz_iconst (0 : Int32) zk_iconst_0 (zd DX8_isNeutral 24 rfl) ?_
      exact hj3 (0 : Int32) w4
    refine tz_if_eq 40 (zd DX8_isNeutral 9 rfl) rfl (fun q5 => ?_) (fun q5 => ?_)
    · refine tz_lv (lv2 := [(0, .ref 74), (1, .int x1), (3, .int x3)]) [0, 1, 3] rfl ?_
      exact hj4 w
    refine tz_aload_n 0 rfl (zd DX8_isNeutral 10 rfl) ?_
    refine tz_iload_n 1 rfl (zd DX8_isNeutral 11 rfl) ?_
    refine tz_iload_n 3 rfl (zd DX8_isNeutral 12 rfl) ?_
    refine tz_cV_i kz8 (zs_74) rfl (rest := []) (YX8_read) wk_1092 (tX8_read x1 x3 w) rfl rfl (Nat.le_of_ble_eq_true rfl) ⟨Nat.le_of_ble_eq_true rfl, Nat.le_of_ble_eq_true rfl⟩ (zd DX8_isNeutral 13 rfl) (fun v8 w6 e7 => ?_)
    refine tz_iload_n 3 rfl (zd DX8_isNeutral 14 rfl) ?_
    refine tz_icmp_ne 40 (zd DX8_isNeutral 15 rfl) rfl (fun q9 => ?_) (fun q9 => ?_)
    · refine tz_lv (lv2 := [(0, .ref 74), (1, .int x1), (3, .int x3)]) [0, 1, 3] rfl ?_
      exact hj4 w6
    refine tz_aload_n 0 rfl (zd DX8_isNeutral 16 rfl) ?_
    refine tz_iload_n 3 rfl (zd DX8_isNeutral 17 rfl) ?_
    refine tz_iload_n 1 rfl (zd DX8_isNeutral 18 rfl) ?_
    refine tz_cV_i kz8 (zs_74) rfl (rest := []) (YX8_read) wk_1092 (tX8_read x3 x1 w6) rfl rfl (Nat.le_of_ble_eq_true rfl) ⟨Nat.le_of_ble_eq_true rfl, Nat.le_of_ble_eq_true rfl⟩ (zd DX8_isNeutral 19 rfl) (fun v12 w10 e11 => ?_)
    refine tz_iload_n 3 rfl (zd DX8_isNeutral 20 rfl) ?_
    refine tz_icmp_ne 40 (zd DX8_isNeutral 21 rfl) rfl (fun q13 => ?_) (fun q13 => ?_)
    · refine tz_lv (lv2 := [(0, .ref 74), (1, .int x1), (3, .int x3)]) [0, 1, 3] rfl ?_
      exact hj4 w10
    refine tz_iconst (1 : Int32) zk_iconst_1 (zd DX8_isNeutral 22 rfl) ?_
    refine tz_goto 41 (zd DX8_isNeutral 23 rfl) rfl ?_
    refine tz_lv (lv2 := [(0, .ref 74), (1, .int x1), (3, .int x3)]) [0, 1, 3] rfl ?_
    exact hj3 (1 : Int32) w10
set_option maxHeartbeats 4000000 in
set_option maxRecDepth 100000 in
theorem tX8_isNeutral (a1 : Int32) (w : zW) : Sm yX8_isNeutral MX8_isNeutral zz [.ref 74, .int a1] w (fX8_isNeutral a1 w) := by
  refine Sm_of (lv0 := [(0, .ref 74), (1, .int a1)]) (by decide) rfl (fun _ => Nat.le_of_ble_eq_true rfl) rfl ?_
  unfold fX8_isNeutral
  refine tz_iconst (1 : Int32) zk_iconst_1 (zd DX8_isNeutral 0 rfl) ?_
  refine tz_istore_n [(2, .int (1 : Int32)), (0, .ref 74), (1, .int a1)] (Nat.le_of_ble_eq_true rfl) rfl (zd DX8_isNeutral 1 rfl) ?_
  refine tz_iconst (0 : Int32) zk_iconst_0 (zd DX8_isNeutral 2 rfl) ?_
  refine tz_istore_n [(3, .int (0 : Int32)), (2, .int (1 : Int32)), (0, .ref 74), (1, .int a1)] (Nat.le_of_ble_eq_true rfl) rfl (zd DX8_isNeutral 3 rfl) ?_
  refine tz_lv (lv2 := [(0, .ref 74), (1, .int a1), (2, .int (1 : Int32)), (3, .int (0 : Int32))]) [2, 3, 1, 0] rfl ?_
  exact lX8_isNeutral_L4 a1 zFU (1 : Int32) (0 : Int32) w
def QX8_table : List (Nat × Instr × Nat) := [(0, .aload_n 0, 1), (1, .iconst 0, 1), (2, .putfield 1, 3), (5, .aload_n 0, 1), (6, .invokevirtual 225, 3), (9, .aload_n 0, 1), (10, .invokevirtual 228, 3), (13, .ifCond .ne 11, 3), (16, .bipush (-21), 2), (18, .aload_n 0, 1), (19, .getfield 28, 3), (22, .isub, 1), (23, .ireturn, 1), (24, .aload_n 0, 1), (25, .invokevirtual 231, 3), (28, .ifCond .eq 6, 3), (31, .bipush (-10), 2), (33, .ireturn, 1), (34, .iconst 0, 1), (35, .istore_n 1, 1), (36, .iload_n 1, 1), (37, .aload_n 0, 1), (38, .getfield 210, 3), (41, .if_icmp .ge 17, 3), (44, .aload_n 0, 1), (45, .iload_n 1, 1), (46, .invokevirtual 234, 3), (49, .ifCond .ne 9, 3), (52, .iinc 1 1, 3), (55, .goto (-19), 3), (58, .iload_n 1, 1), (59, .aload_n 0, 1), (60, .getfield 210, 3), (63, .if_icmp .ne 6, 3), (66, .bipush (-11), 2), (68, .ireturn, 1), (69, .aload_n 0, 1), (70, .aload_n 0, 1), (71, .getfield 210, 3), (74, .putfield 45, 3), (77, .aload_n 0, 1), (78, .iload_n 1, 1), (79, .putfield 111, 3), (82, .iconst 0, 1), (83, .istore_n 2, 1), (84, .iload_n 2, 1), (85, .aload_n 0, 1), (86, .getfield 45, 3), (89, .aload_n 0, 1), (90, .getfield 45, 3), (93, .imul, 1), (94, .if_icmp .ge 21, 3), (97, .aload_n 0, 1), (98, .getfield 48, 3), (101, .iload_n 2, 1), (102, .aload_n 0, 1), (103, .getfield 84, 3), (106, .iload_n 2, 1), (107, .iaload, 1), (108, .iastore, 1), (109, .iinc 2 1, 3), (112, .goto (-28), 3), (115, .aload_n 0, 1), (116, .getfield 93, 3), (119, .bipush 7, 2), (121, .if_icmp .ne 7, 3), (124, .aload_n 0, 1), (125, .invokevirtual 207, 3), (128, .aload_n 0, 1), (129, .getfield 45, 3), (132, .ireturn, 1)]
set_option maxRecDepth 100000 in
theorem DX8_table : ∀ q ∈ QX8_table, decode cX8_table q.1 = .ok (q.2.1, q.2.2) := by decide +kernel
abbrev MX8_table : zM := (cX8_table, "EndSumsModel", 3, (some .int), { frames := 7, cells := 0, slots := 0, locals := 175 })
def fX8_table_L84  : Nat → Int32 → zW → Option (Int32 × zW)
  | 0, _, _ => none
  | n + 1, x2, w =>
    if ((zI w 74 8) * (zI w 74 8)) ≤ x2 then
      lt (fun (w18 : zW) =>
        some ((zI w18 74 8), w18)) fun j18 =>
      if ¬ (zI w 74 7) = (7 : Int32) then
        j18 w
      else
      bd (fX8_laysAll w) fun _ w20 =>
      j18 w20
    else
    zg (zin x2 25) <|
    zg (zin x2 25) <| lt (zsI w 77 x2.toNatClampNeg (zI w 89 x2.toNatClampNeg)) fun w23 =>
    fX8_table_L84 n (x2 + (1 : Int32)) w23
def fX8_table_L36  : Nat → Int32 → zW → Option (Int32 × zW)
  | 0, _, _ => none
  | n + 1, x1, w =>
    lt (fun (w13 : zW) =>
      if ¬ x1 = (zI w13 74 27) then
        lt (zsI w13 74 8 (zI w13 74 27)) fun w15 =>
        lt (zsI w15 74 9 x1) fun w16 =>
        fX8_table_L84 zFU (0 : Int32) w16
      else
      some ((-11 : Int32), w13)) fun j13 =>
    if (zI w 74 27) ≤ x1 then
      j13 w
    else
    bd (fX8_isNeutral x1 w) fun b27 w25 =>
    if b27 = true then
      j13 w25
    else
    fX8_table_L36 n (x1 + (1 : Int32)) w25
def fX8_table  (w : zW) : Option (Int32 × zW) :=
  lt (zsI w 74 0 (0 : Int32)) fun w1 =>
  bd (fX8_reads w1) fun _ w2 =>
  bd (fX8_readsTable w2) fun b7 w5 =>
  if b7 = true then
    bd (fX8_hasUnlike w5) fun b11 w9 =>
    if b11 = true then
      some ((-10 : Int32), w9)
    else
    fX8_table_L36 zFU (0 : Int32) w9
  else
  some (((-21 : Int32) - (zI w5 74 5)), w5)
theorem YX8_table : zYV yX8_table MX8_table 0 := ⟨wk_1068, wk_9, ⟨wk_1066, wk_1067⟩, ⟨by decide, by decide, by decide +kernel⟩, rfl, rfl⟩
set_option maxHeartbeats 4000000 in
set_option maxRecDepth 100000 in
theorem lX8_table_L84  : ∀ (n : Nat) (x2 : Int32) (w : zW), Tz MX8_table (zRet zi) (fX8_table_L84 n x2 w) 84 [(0, .ref 74), (2, .int x2)] [] w := by
  intro n
  induction n with
  | zero => intro x2 w; exact tz_eq (fX8_table_L84.eq_1 _ _) tz_none
  | succ n ih =>
    intro x2 w
    refine tz_eq (fX8_table_L84.eq_2 _ _ _) ?_
    refine tz_iload_n 1 rfl (zd DX8_table 45 rfl) ?_
    refine tz_aload_n 0 rfl (zd DX8_table 46 rfl) ?_
    refine tz_getI 8 kz8 (zs_74) (by decide) rfl wk_865 (zd DX8_table 47 rfl) ?_
    refine tz_aload_n 0 rfl (zd DX8_table 48 rfl) ?_
    refine tz_getI 8 kz8 (zs_74) (by decide) rfl wk_865 (zd DX8_table 49 rfl) ?_
    refine tz_imul (zd DX8_table 50 rfl) ?_
    refine tz_icmp_ge 115 (zd DX8_table 51 rfl) rfl (fun q17 => ?_) (fun q17 => ?_)
    · refine tz_aload_n 0 rfl (zd DX8_table 62 rfl) ?_
      refine tz_getI 7 kz8 (zs_74) (by decide) rfl wk_864 (zd DX8_table 63 rfl) ?_
      refine tz_bipush (7 : Int32) zk_bipush_7 (zd DX8_table 64 rfl) ?_
      refine tz_jp (P := fun j => ∀ (w18 : zW), Tz MX8_table (zRet zi) (j w18) 128 [(0, .ref 74)] [] w18) ?_ (fun j18 hj18 => ?_)
      · intro w18
        refine tz_aload_n 0 rfl (zd DX8_table 68 rfl) ?_
        refine tz_getI 8 kz8 (zs_74) (by decide) rfl wk_865 (zd DX8_table 69 rfl) ?_
        exact tz_iret rfl (zd DX8_table 70 rfl)
      refine tz_icmp_ne 128 (zd DX8_table 65 rfl) rfl (fun q19 => ?_) (fun q19 => ?_)
      · refine tz_lv (lv2 := [(0, .ref 74)]) [0] rfl ?_
        exact hj18 w
      refine tz_aload_n 0 rfl (zd DX8_table 66 rfl) ?_
      refine tz_cV_n kz8 (zs_74) rfl (rest := []) (YX8_laysAll) wk_1034 (tX8_laysAll w) rfl rfl (Nat.le_of_ble_eq_true rfl) ⟨Nat.le_of_ble_eq_true rfl, Nat.le_of_ble_eq_true rfl⟩ (zd DX8_table 67 rfl) (fun v22 w20 e21 => ?_)
      refine tz_lv (lv2 := [(0, .ref 74)]) [0] rfl ?_
      exact hj18 w20
    refine tz_aload_n 0 rfl (zd DX8_table 52 rfl) ?_
    refine tz_getR 77 10 kz8 (zs_74) (by decide) (by decide) rfl wk_867 (zd DX8_table 53 rfl) ?_
    refine tz_iload_n 1 rfl (zd DX8_table 54 rfl) ?_
    refine tz_aload_n 0 rfl (zd DX8_table 55 rfl) ?_
    refine tz_getR 89 26 kz8 (zs_74) (by decide) (by decide) rfl wk_883 (zd DX8_table 56 rfl) ?_
    refine tz_iload_n 1 rfl (zd DX8_table 57 rfl) ?_
    refine tz_iald (zs_89.1) (zs_89.2) (zd DX8_table 58 rfl) ?_
    refine tz_iast (zs_77.1) (zs_77.2) (zd DX8_table 59 rfl) (fun w23 => ?_)
    refine tz_iinc 1 (1 : Int32) [(2, .int (x2 + (1 : Int32))), (0, .ref 74)] rfl zk_iconst_1 (Nat.le_of_ble_eq_true rfl) rfl (zd DX8_table 60 rfl) ?_
    refine tz_goto 84 (zd DX8_table 61 rfl) rfl ?_
    refine tz_lv (lv2 := [(0, .ref 74), (2, .int (x2 + (1 : Int32)))]) [1, 0] rfl ?_
    exact ih (x2 + (1 : Int32)) w23
set_option maxHeartbeats 4000000 in
set_option maxRecDepth 100000 in
theorem lX8_table_L36  : ∀ (n : Nat) (x1 : Int32) (w : zW), Tz MX8_table (zRet zi) (fX8_table_L36 n x1 w) 36 [(0, .ref 74), (1, .int x1)] [] w := by
  intro n
  induction n with
  | zero => intro x1 w; exact tz_eq (fX8_table_L36.eq_1 _ _) tz_none
  | succ n ih =>
    intro x1 w
    refine tz_eq (fX8_table_L36.eq_2 _ _ _) ?_
    refine tz_iload_n 1 rfl (zd DX8_table 20 rfl) ?_
    refine tz_aload_n 0 rfl (zd DX8_table 21 rfl) ?_
    refine tz_getI 27 kz8 (zs_74) (by decide) rfl wk_884 (zd DX8_table 22 rfl) ?_
    refine tz_jp (P := fun j => ∀ (w13 : zW), Tz MX8_table (zRet zi) (j w13) 58 [(0, .ref 74), (1, .int x1)] [] w13) ?_ (fun j13 hj13 => ?_)
    · intro w13
      refine tz_iload_n 1 rfl (zd DX8_table 30 rfl) ?_
      refine tz_aload_n 0 rfl (zd DX8_table 31 rfl) ?_
      refine tz_getI 27 kz8 (zs_74) (by decide) rfl wk_884 (zd DX8_table 32 rfl) ?_
      refine tz_icmp_ne 69 (zd DX8_table 33 rfl) rfl (fun q14 => ?_) (fun q14 => ?_)
      · refine tz_aload_n 0 rfl (zd DX8_table 36 rfl) ?_
        refine tz_aload_n 0 rfl (zd DX8_table 37 rfl) ?_
        refine tz_getI 27 kz8 (zs_74) (by decide) rfl wk_884 (zd DX8_table 38 rfl) ?_
        refine tz_putI 8 kz8 (zs_74) (by decide) rfl rfl wk_865 (zd DX8_table 39 rfl) (fun w15 => ?_)
        refine tz_aload_n 0 rfl (zd DX8_table 40 rfl) ?_
        refine tz_iload_n 1 rfl (zd DX8_table 41 rfl) ?_
        refine tz_putI 9 kz8 (zs_74) (by decide) rfl rfl wk_866 (zd DX8_table 42 rfl) (fun w16 => ?_)
        refine tz_iconst (0 : Int32) zk_iconst_0 (zd DX8_table 43 rfl) ?_
        refine tz_istore_n [(2, .int (0 : Int32)), (0, .ref 74), (1, .int x1)] (Nat.le_of_ble_eq_true rfl) rfl (zd DX8_table 44 rfl) ?_
        refine tz_lv (lv2 := [(0, .ref 74), (2, .int (0 : Int32))]) [1, 0] rfl ?_
        exact lX8_table_L84 zFU (0 : Int32) w16
      refine tz_bipush (-11 : Int32) zk_bipush_m11 (zd DX8_table 34 rfl) ?_
      exact tz_iret rfl (zd DX8_table 35 rfl)
    refine tz_icmp_ge 58 (zd DX8_table 23 rfl) rfl (fun q24 => ?_) (fun q24 => ?_)
    · exact hj13 w
    refine tz_aload_n 0 rfl (zd DX8_table 24 rfl) ?_
    refine tz_iload_n 1 rfl (zd DX8_table 25 rfl) ?_
    refine tz_cV_z kz8 (zs_74) rfl (rest := []) (YX8_isNeutral) wk_1096 (tX8_isNeutral x1 w) rfl rfl (Nat.le_of_ble_eq_true rfl) ⟨Nat.le_of_ble_eq_true rfl, Nat.le_of_ble_eq_true rfl⟩ (zd DX8_table 26 rfl) (fun b27 w25 e26 => ?_)
    refine tz_bif_ne 58 (zd DX8_table 27 rfl) rfl (fun q28 => ?_) (fun q28 => ?_)
    · exact hj13 w25
    refine tz_iinc 1 (1 : Int32) [(1, .int (x1 + (1 : Int32))), (0, .ref 74)] rfl zk_iconst_1 (Nat.le_of_ble_eq_true rfl) rfl (zd DX8_table 28 rfl) ?_
    refine tz_goto 36 (zd DX8_table 29 rfl) rfl ?_
    refine tz_lv (lv2 := [(0, .ref 74), (1, .int (x1 + (1 : Int32)))]) [1, 0] rfl ?_
    exact ih (x1 + (1 : Int32)) w25
set_option maxHeartbeats 4000000 in
set_option maxRecDepth 100000 in
theorem tX8_table  (w : zW) : Sm yX8_table MX8_table zi [.ref 74] w (fX8_table w) := by
  refine Sm_of (lv0 := [(0, .ref 74)]) (by decide) rfl (fun _ => Nat.le_of_ble_eq_true rfl) rfl ?_
  unfold fX8_table
  refine tz_aload_n 0 rfl (zd DX8_table 0 rfl) ?_
  refine tz_iconst (0 : Int32) zk_iconst_0 (zd DX8_table 1 rfl) ?_
  refine tz_putI 0 kz8 (zs_74) (by decide) rfl rfl wk_857 (zd DX8_table 2 rfl) (fun w1 => ?_)
  refine tz_aload_n 0 rfl (zd DX8_table 3 rfl) ?_
  refine tz_cV_n kz8 (zs_74) rfl (rest := []) (YX8_reads) wk_1069 (tX8_reads w1) rfl rfl (Nat.le_of_ble_eq_true rfl) ⟨Nat.le_of_ble_eq_true rfl, Nat.le_of_ble_eq_true rfl⟩ (zd DX8_table 4 rfl) (fun v4 w2 e3 => ?_)
  refine tz_aload_n 0 rfl (zd DX8_table 5 rfl) ?_
  refine tz_cV_z kz8 (zs_74) rfl (rest := []) (YX8_readsTable) wk_1073 (tX8_readsTable w2) rfl rfl (Nat.le_of_ble_eq_true rfl) ⟨Nat.le_of_ble_eq_true rfl, Nat.le_of_ble_eq_true rfl⟩ (zd DX8_table 6 rfl) (fun b7 w5 e6 => ?_)
  refine tz_bif_ne 24 (zd DX8_table 7 rfl) rfl (fun q8 => ?_) (fun q8 => ?_)
  · refine tz_aload_n 0 rfl (zd DX8_table 13 rfl) ?_
    refine tz_cV_z kz8 (zs_74) rfl (rest := []) (YX8_hasUnlike) wk_1088 (tX8_hasUnlike w5) rfl rfl (Nat.le_of_ble_eq_true rfl) ⟨Nat.le_of_ble_eq_true rfl, Nat.le_of_ble_eq_true rfl⟩ (zd DX8_table 14 rfl) (fun b11 w9 e10 => ?_)
    refine tz_bif_eq 34 (zd DX8_table 15 rfl) rfl (fun q12 => ?_) (fun q12 => ?_)
    · refine tz_bipush (-10 : Int32) zk_bipush_m10 (zd DX8_table 16 rfl) ?_
      exact tz_iret rfl (zd DX8_table 17 rfl)
    refine tz_iconst (0 : Int32) zk_iconst_0 (zd DX8_table 18 rfl) ?_
    refine tz_istore_n [(1, .int (0 : Int32)), (0, .ref 74)] (Nat.le_of_ble_eq_true rfl) rfl (zd DX8_table 19 rfl) ?_
    refine tz_lv (lv2 := [(0, .ref 74), (1, .int (0 : Int32))]) [1, 0] rfl ?_
    exact lX8_table_L36 zFU (0 : Int32) w9
  refine tz_bipush (-21 : Int32) zk_bipush_m21 (zd DX8_table 8 rfl) ?_
  refine tz_aload_n 0 rfl (zd DX8_table 9 rfl) ?_
  refine tz_getI 5 kz8 (zs_74) (by decide) rfl wk_862 (zd DX8_table 10 rfl) ?_
  refine tz_isub (zd DX8_table 11 rfl) ?_
  exact tz_iret rfl (zd DX8_table 12 rfl)
def QX8_puts : List (Nat × Instr × Nat) := [(0, .aload_n 0, 1), (1, .iconst 0, 1), (2, .putfield 1, 3), (5, .iload_n 1, 1), (6, .invokestatic 237, 3), (9, .ifCond .eq 17, 3), (12, .iload_n 2, 1), (13, .invokestatic 240, 3), (16, .ifCond .eq 10, 3), (19, .iload_n 3, 1), (20, .invokestatic 156, 3), (23, .ifCond .ne 5, 3), (26, .iconst (-1), 1), (27, .ireturn, 1), (28, .aload_n 0, 1), (29, .iload_n 1, 1), (30, .invokevirtual 187, 3), (33, .bipush 64, 2), (35, .if_icmp .ne 6, 3), (38, .bipush (-3), 2), (40, .ireturn, 1), (41, .aload_n 0, 1), (42, .iconst 2, 1), (43, .iload_n 1, 1), (44, .imul, 1), (45, .iload_n 2, 1), (46, .iadd, 1), (47, .iload_n 3, 1), (48, .invokevirtual 193, 3), (51, .aload_n 0, 1), (52, .iload_n 1, 1), (53, .invokevirtual 187, 3), (56, .ireturn, 1)]
set_option maxRecDepth 100000 in
theorem DX8_puts : ∀ q ∈ QX8_puts, decode cX8_puts q.1 = .ok (q.2.1, q.2.2) := by decide +kernel
abbrev MX8_puts : zM := (cX8_puts, "EndSumsModel", 4, (some .int), { frames := 5, cells := 0, slots := 0, locals := 127 })
def fX8_puts (a1 : Int32) (a2 : Int32) (a3 : Int32) (w : zW) : Option (Int32 × zW) :=
  lt (zsI w 74 0 (0 : Int32)) fun w1 =>
  bd (fX8_isLine a1 w1) fun b4 w2 =>
  if b4 = true then
    bd (fX8_isEnd a2 w2) fun b8 w6 =>
    if b8 = true then
      bd (fX8_isItem a3 w6) fun b12 w10 =>
      if b12 = true then
        bd (fX8_sizeOf a1 w10) fun v16 w14 =>
        if ¬ v16 = (64 : Int32) then
          bd (fX8_makes (((2 : Int32) * a1) + a2) a3 w14) fun _ w18 =>
          bd (fX8_sizeOf a1 w18) fun v23 w21 =>
          some (v23, w21)
        else
        some ((-3 : Int32), w14)
      else
      some ((-1 : Int32), w10)
    else
    some ((-1 : Int32), w6)
  else
  some ((-1 : Int32), w2)
theorem YX8_puts : zYV yX8_puts MX8_puts 3 := ⟨wk_1103, wk_9, ⟨wk_1101, wk_1102⟩, ⟨by decide, by decide, by decide +kernel⟩, rfl, rfl⟩
set_option maxHeartbeats 4000000 in
set_option maxRecDepth 100000 in
theorem tX8_puts (a1 : Int32) (a2 : Int32) (a3 : Int32) (w : zW) : Sm yX8_puts MX8_puts zi [.ref 74, .int a1, .int a2, .int a3] w (fX8_puts a1 a2 a3 w) := by
  refine Sm_of (lv0 := [(0, .ref 74), (1, .int a1), (2, .int a2), (3, .int a3)]) (by decide) rfl (fun _ => Nat.le_of_ble_eq_true rfl) rfl ?_
  unfold fX8_puts
  refine tz_aload_n 0 rfl (zd DX8_puts 0 rfl) ?_
  refine tz_iconst (0 : Int32) zk_iconst_0 (zd DX8_puts 1 rfl) ?_
  refine tz_putI 0 kz8 (zs_74) (by decide) rfl rfl wk_857 (zd DX8_puts 2 rfl) (fun w1 => ?_)
  refine tz_iload_n 1 rfl (zd DX8_puts 3 rfl) ?_
  refine tz_cS_z (rest := []) (YX8_isLine) wk_1104 (tX8_isLine a1 w1) rfl rfl (Nat.le_of_ble_eq_true rfl) ⟨Nat.le_of_ble_eq_true rfl, Nat.le_of_ble_eq_true rfl⟩ (zd DX8_puts 4 rfl) (fun b4 w2 e3 => ?_)
  refine tz_bif_eq 26 (zd DX8_puts 5 rfl) rfl (fun q5 => ?_) (fun q5 => ?_)
  · refine tz_iload_n 2 rfl (zd DX8_puts 6 rfl) ?_
    refine tz_cS_z (rest := []) (YX8_isEnd) wk_1108 (tX8_isEnd a2 w2) rfl rfl (Nat.le_of_ble_eq_true rfl) ⟨Nat.le_of_ble_eq_true rfl, Nat.le_of_ble_eq_true rfl⟩ (zd DX8_puts 7 rfl) (fun b8 w6 e7 => ?_)
    refine tz_bif_eq 26 (zd DX8_puts 8 rfl) rfl (fun q9 => ?_) (fun q9 => ?_)
    · refine tz_iload_n 3 rfl (zd DX8_puts 9 rfl) ?_
      refine tz_cS_z (rest := []) (YX8_isItem) wk_958 (tX8_isItem a3 w6) rfl rfl (Nat.le_of_ble_eq_true rfl) ⟨Nat.le_of_ble_eq_true rfl, Nat.le_of_ble_eq_true rfl⟩ (zd DX8_puts 10 rfl) (fun b12 w10 e11 => ?_)
      refine tz_bif_ne 28 (zd DX8_puts 11 rfl) rfl (fun q13 => ?_) (fun q13 => ?_)
      · refine tz_aload_n 0 rfl (zd DX8_puts 14 rfl) ?_
        refine tz_iload_n 1 rfl (zd DX8_puts 15 rfl) ?_
        refine tz_cV_i kz8 (zs_74) rfl (rest := []) (YX8_sizeOf) wk_1042 (tX8_sizeOf a1 w10) rfl rfl (Nat.le_of_ble_eq_true rfl) ⟨Nat.le_of_ble_eq_true rfl, Nat.le_of_ble_eq_true rfl⟩ (zd DX8_puts 16 rfl) (fun v16 w14 e15 => ?_)
        refine tz_bipush (64 : Int32) zk_bipush_64 (zd DX8_puts 17 rfl) ?_
        refine tz_icmp_ne 41 (zd DX8_puts 18 rfl) rfl (fun q17 => ?_) (fun q17 => ?_)
        · refine tz_aload_n 0 rfl (zd DX8_puts 21 rfl) ?_
          refine tz_iconst (2 : Int32) zk_iconst_2 (zd DX8_puts 22 rfl) ?_
          refine tz_iload_n 1 rfl (zd DX8_puts 23 rfl) ?_
          refine tz_imul (zd DX8_puts 24 rfl) ?_
          refine tz_iload_n 2 rfl (zd DX8_puts 25 rfl) ?_
          refine tz_iadd (zd DX8_puts 26 rfl) ?_
          refine tz_iload_n 3 rfl (zd DX8_puts 27 rfl) ?_
          refine tz_cV_n kz8 (zs_74) rfl (rest := []) (YX8_makes) wk_1061 (tX8_makes (((2 : Int32) * a1) + a2) a3 w14) rfl rfl (Nat.le_of_ble_eq_true rfl) ⟨Nat.le_of_ble_eq_true rfl, Nat.le_of_ble_eq_true rfl⟩ (zd DX8_puts 28 rfl) (fun v20 w18 e19 => ?_)
          refine tz_aload_n 0 rfl (zd DX8_puts 29 rfl) ?_
          refine tz_iload_n 1 rfl (zd DX8_puts 30 rfl) ?_
          refine tz_cV_i kz8 (zs_74) rfl (rest := []) (YX8_sizeOf) wk_1042 (tX8_sizeOf a1 w18) rfl rfl (Nat.le_of_ble_eq_true rfl) ⟨Nat.le_of_ble_eq_true rfl, Nat.le_of_ble_eq_true rfl⟩ (zd DX8_puts 31 rfl) (fun v23 w21 e22 => ?_)
          exact tz_iret rfl (zd DX8_puts 32 rfl)
        refine tz_bipush (-3 : Int32) zk_bipush_m3 (zd DX8_puts 19 rfl) ?_
        exact tz_iret rfl (zd DX8_puts 20 rfl)
      refine tz_iconst (-1 : Int32) zk_iconst_m1 (zd DX8_puts 12 rfl) ?_
      exact tz_iret rfl (zd DX8_puts 13 rfl)
    refine tz_iconst (-1 : Int32) zk_iconst_m1 (zd DX8_puts 12 rfl) ?_
    exact tz_iret rfl (zd DX8_puts 13 rfl)
  refine tz_iconst (-1 : Int32) zk_iconst_m1 (zd DX8_puts 12 rfl) ?_
  exact tz_iret rfl (zd DX8_puts 13 rfl)
def QX8_tellsWork : List (Nat × Instr × Nat) := [(0, .aload_n 0, 1), (1, .iconst 0, 1), (2, .putfield 11, 3), (5, .aload_n 0, 1), (6, .aload_n 0, 1), (7, .getfield 184, 3), (10, .iload_n 1, 1), (11, .isub, 1), (12, .i2l, 1), (13, .invokevirtual 164, 3), (16, .iload_n 2, 1), (17, .ireturn, 1)]
set_option maxRecDepth 100000 in
theorem DX8_tellsWork : ∀ q ∈ QX8_tellsWork, decode cX8_tellsWork q.1 = .ok (q.2.1, q.2.2) := by decide +kernel
abbrev MX8_tellsWork : zM := (cX8_tellsWork, "EndSumsModel", 3, (some .int), { frames := 1, cells := 0, slots := 0, locals := 22 })
def fX8_tellsWork (a1 : Int32) (a2 : Int32) (w : zW) : Option (Int32 × zW) :=
  lt (zsI w 74 1 (0 : Int32)) fun w1 =>
  bd (fX8_enters ((zI w1 74 23) - a1).toInt64 w1) fun _ w2 =>
  some (a2, w2)
theorem YX8_tellsWork : zYV yX8_tellsWork MX8_tellsWork 2 := ⟨wk_1122, wk_9, ⟨wk_1121, ws_100⟩, ⟨by decide, by decide, by decide +kernel⟩, rfl, rfl⟩
set_option maxHeartbeats 4000000 in
set_option maxRecDepth 100000 in
theorem tX8_tellsWork (a1 : Int32) (a2 : Int32) (w : zW) : Sm yX8_tellsWork MX8_tellsWork zi [.ref 74, .int a1, .int a2] w (fX8_tellsWork a1 a2 w) := by
  refine Sm_of (lv0 := [(0, .ref 74), (1, .int a1), (2, .int a2)]) (by decide) rfl (fun _ => Nat.le_of_ble_eq_true rfl) rfl ?_
  unfold fX8_tellsWork
  refine tz_aload_n 0 rfl (zd DX8_tellsWork 0 rfl) ?_
  refine tz_iconst (0 : Int32) zk_iconst_0 (zd DX8_tellsWork 1 rfl) ?_
  refine tz_putI 1 kz8 (zs_74) (by decide) rfl rfl wk_858 (zd DX8_tellsWork 2 rfl) (fun w1 => ?_)
  refine tz_aload_n 0 rfl (zd DX8_tellsWork 3 rfl) ?_
  refine tz_aload_n 0 rfl (zd DX8_tellsWork 4 rfl) ?_
  refine tz_getI 23 kz8 (zs_74) (by decide) rfl wk_880 (zd DX8_tellsWork 5 rfl) ?_
  refine tz_iload_n 1 rfl (zd DX8_tellsWork 6 rfl) ?_
  refine tz_isub (zd DX8_tellsWork 7 rfl) ?_
  refine tz_i2l (zd DX8_tellsWork 8 rfl) ?_
  refine tz_cV_n kz8 (zs_74) rfl (rest := []) (YX8_enters) wk_1002 (tX8_enters ((zI w1 74 23) - a1).toInt64 w1) rfl rfl (Nat.le_of_ble_eq_true rfl) ⟨Nat.le_of_ble_eq_true rfl, Nat.le_of_ble_eq_true rfl⟩ (zd DX8_tellsWork 9 rfl) (fun v4 w2 e3 => ?_)
  refine tz_iload_n 2 rfl (zd DX8_tellsWork 10 rfl) ?_
  exact tz_iret rfl (zd DX8_tellsWork 11 rfl)
def QX8_takes : List (Nat × Instr × Nat) := [(0, .aload_n 0, 1), (1, .iconst 0, 1), (2, .putfield 1, 3), (5, .iload_n 1, 1), (6, .invokestatic 237, 3), (9, .ifCond .eq 10, 3), (12, .iload_n 2, 1), (13, .invokestatic 240, 3), (16, .ifCond .ne 5, 3), (19, .iconst (-1), 1), (20, .ireturn, 1), (21, .aload_n 0, 1), (22, .iload_n 1, 1), (23, .invokevirtual 187, 3), (26, .ifCond .ne 6, 3), (29, .bipush (-2), 2), (31, .ireturn, 1), (32, .aload_n 0, 1), (33, .getfield 184, 3), (36, .istore_n 3, 1), (37, .aload_n 0, 1), (38, .iload_n 1, 1), (39, .iload_n 2, 1), (40, .invokevirtual 243, 3), (43, .istore 4, 2), (45, .aload_n 0, 1), (46, .iload_n 3, 1), (47, .iload 4, 2), (49, .invokevirtual 246, 3), (52, .ireturn, 1)]
set_option maxRecDepth 100000 in
theorem DX8_takes : ∀ q ∈ QX8_takes, decode cX8_takes q.1 = .ok (q.2.1, q.2.2) := by decide +kernel
abbrev MX8_takes : zM := (cX8_takes, "EndSumsModel", 5, (some .int), { frames := 7, cells := 0, slots := 0, locals := 177 })
def fX8_takes (a1 : Int32) (a2 : Int32) (w : zW) : Option (Int32 × zW) :=
  lt (zsI w 74 0 (0 : Int32)) fun w1 =>
  bd (fX8_isLine a1 w1) fun b4 w2 =>
  if b4 = true then
    bd (fX8_isEnd a2 w2) fun b8 w6 =>
    if b8 = true then
      bd (fX8_sizeOf a1 w6) fun v12 w10 =>
      if ¬ v12 = (0 : Int32) then
        lt (zI w10 74 23) fun v14 =>
        bd (fX8_takesOne a1 a2 w10) fun v17 w15 =>
        bd (fX8_tellsWork v14 v17 w15) fun v20 w18 =>
        some (v20, w18)
      else
      some ((-2 : Int32), w10)
    else
    some ((-1 : Int32), w6)
  else
  some ((-1 : Int32), w2)
theorem YX8_takes : zYV yX8_takes MX8_takes 2 := ⟨wk_1114, wk_9, ⟨wk_1112, wk_1113⟩, ⟨by decide, by decide, by decide +kernel⟩, rfl, rfl⟩
set_option maxHeartbeats 4000000 in
set_option maxRecDepth 100000 in
theorem tX8_takes (a1 : Int32) (a2 : Int32) (w : zW) : Sm yX8_takes MX8_takes zi [.ref 74, .int a1, .int a2] w (fX8_takes a1 a2 w) := by
  refine Sm_of (lv0 := [(0, .ref 74), (1, .int a1), (2, .int a2)]) (by decide) rfl (fun _ => Nat.le_of_ble_eq_true rfl) rfl ?_
  unfold fX8_takes
  refine tz_aload_n 0 rfl (zd DX8_takes 0 rfl) ?_
  refine tz_iconst (0 : Int32) zk_iconst_0 (zd DX8_takes 1 rfl) ?_
  refine tz_putI 0 kz8 (zs_74) (by decide) rfl rfl wk_857 (zd DX8_takes 2 rfl) (fun w1 => ?_)
  refine tz_iload_n 1 rfl (zd DX8_takes 3 rfl) ?_
  refine tz_cS_z (rest := []) (YX8_isLine) wk_1104 (tX8_isLine a1 w1) rfl rfl (Nat.le_of_ble_eq_true rfl) ⟨Nat.le_of_ble_eq_true rfl, Nat.le_of_ble_eq_true rfl⟩ (zd DX8_takes 4 rfl) (fun b4 w2 e3 => ?_)
  refine tz_bif_eq 19 (zd DX8_takes 5 rfl) rfl (fun q5 => ?_) (fun q5 => ?_)
  · refine tz_iload_n 2 rfl (zd DX8_takes 6 rfl) ?_
    refine tz_cS_z (rest := []) (YX8_isEnd) wk_1108 (tX8_isEnd a2 w2) rfl rfl (Nat.le_of_ble_eq_true rfl) ⟨Nat.le_of_ble_eq_true rfl, Nat.le_of_ble_eq_true rfl⟩ (zd DX8_takes 7 rfl) (fun b8 w6 e7 => ?_)
    refine tz_bif_ne 21 (zd DX8_takes 8 rfl) rfl (fun q9 => ?_) (fun q9 => ?_)
    · refine tz_aload_n 0 rfl (zd DX8_takes 11 rfl) ?_
      refine tz_iload_n 1 rfl (zd DX8_takes 12 rfl) ?_
      refine tz_cV_i kz8 (zs_74) rfl (rest := []) (YX8_sizeOf) wk_1042 (tX8_sizeOf a1 w6) rfl rfl (Nat.le_of_ble_eq_true rfl) ⟨Nat.le_of_ble_eq_true rfl, Nat.le_of_ble_eq_true rfl⟩ (zd DX8_takes 13 rfl) (fun v12 w10 e11 => ?_)
      refine tz_if_ne 32 (zd DX8_takes 14 rfl) rfl (fun q13 => ?_) (fun q13 => ?_)
      · refine tz_aload_n 0 rfl (zd DX8_takes 17 rfl) ?_
        refine tz_getI 23 kz8 (zs_74) (by decide) rfl wk_880 (zd DX8_takes 18 rfl) ?_
        refine tz_lti (fun v14 => ?_)
        refine tz_istore_n [(3, .int v14), (0, .ref 74), (1, .int a1), (2, .int a2)] (Nat.le_of_ble_eq_true rfl) rfl (zd DX8_takes 19 rfl) ?_
        refine tz_aload_n 1 rfl (zd DX8_takes 20 rfl) ?_
        refine tz_iload_n 2 rfl (zd DX8_takes 21 rfl) ?_
        refine tz_iload_n 3 rfl (zd DX8_takes 22 rfl) ?_
        refine tz_cV_i kz8 (zs_74) rfl (rest := []) (YX8_takesOne) wk_1115 (tX8_takesOne a1 a2 w10) rfl rfl (Nat.le_of_ble_eq_true rfl) ⟨Nat.le_of_ble_eq_true rfl, Nat.le_of_ble_eq_true rfl⟩ (zd DX8_takes 23 rfl) (fun v17 w15 e16 => ?_)
        refine tz_istore [(4, .int v17), (3, .int v14), (0, .ref 74), (1, .int a1), (2, .int a2)] (Nat.le_of_ble_eq_true rfl) rfl (zd DX8_takes 24 rfl) ?_
        refine tz_aload_n 2 rfl (zd DX8_takes 25 rfl) ?_
        refine tz_iload_n 1 rfl (zd DX8_takes 26 rfl) ?_
        refine tz_iload 0 rfl (zd DX8_takes 27 rfl) ?_
        refine tz_cV_i kz8 (zs_74) rfl (rest := []) (YX8_tellsWork) wk_1119 (tX8_tellsWork v14 v17 w15) rfl rfl (Nat.le_of_ble_eq_true rfl) ⟨Nat.le_of_ble_eq_true rfl, Nat.le_of_ble_eq_true rfl⟩ (zd DX8_takes 28 rfl) (fun v20 w18 e19 => ?_)
        exact tz_iret rfl (zd DX8_takes 29 rfl)
      refine tz_bipush (-2 : Int32) zk_bipush_m2 (zd DX8_takes 15 rfl) ?_
      exact tz_iret rfl (zd DX8_takes 16 rfl)
    refine tz_iconst (-1 : Int32) zk_iconst_m1 (zd DX8_takes 9 rfl) ?_
    exact tz_iret rfl (zd DX8_takes 10 rfl)
  refine tz_iconst (-1 : Int32) zk_iconst_m1 (zd DX8_takes 9 rfl) ?_
  exact tz_iret rfl (zd DX8_takes 10 rfl)
def QX8_copies : List (Nat × Instr × Nat) := [(0, .aload_n 0, 1), (1, .iconst 0, 1), (2, .putfield 1, 3), (5, .iload_n 1, 1), (6, .invokestatic 237, 3), (9, .ifCond .eq 10, 3), (12, .iload_n 2, 1), (13, .invokestatic 237, 3), (16, .ifCond .ne 5, 3), (19, .iconst (-1), 1), (20, .ireturn, 1), (21, .iload_n 1, 1), (22, .iload_n 2, 1), (23, .if_icmp .ne 6, 3), (26, .bipush (-2), 2), (28, .ireturn, 1), (29, .aload_n 0, 1), (30, .iload_n 1, 1), (31, .iload_n 2, 1), (32, .invokevirtual 249, 3), (35, .aload_n 0, 1), (36, .iload_n 1, 1), (37, .invokevirtual 187, 3), (40, .ireturn, 1)]
set_option maxRecDepth 100000 in
theorem DX8_copies : ∀ q ∈ QX8_copies, decode cX8_copies q.1 = .ok (q.2.1, q.2.2) := by decide +kernel
abbrev MX8_copies : zM := (cX8_copies, "EndSumsModel", 3, (some .int), { frames := 2, cells := 0, slots := 0, locals := 47 })
def fX8_copies (a1 : Int32) (a2 : Int32) (w : zW) : Option (Int32 × zW) :=
  lt (zsI w 74 0 (0 : Int32)) fun w1 =>
  bd (fX8_isLine a1 w1) fun b4 w2 =>
  if b4 = true then
    bd (fX8_isLine a2 w2) fun b8 w6 =>
    if b8 = true then
      if ¬ a1 = a2 then
        bd (fX8_copiesTo a1 a2 w6) fun _ w11 =>
        bd (fX8_sizeOf a1 w11) fun v16 w14 =>
        some (v16, w14)
      else
      some ((-2 : Int32), w6)
    else
    some ((-1 : Int32), w6)
  else
  some ((-1 : Int32), w2)
theorem YX8_copies : zYV yX8_copies MX8_copies 2 := ⟨wk_1126, wk_9, ⟨wk_1124, wk_1125⟩, ⟨by decide, by decide, by decide +kernel⟩, rfl, rfl⟩
set_option maxHeartbeats 4000000 in
set_option maxRecDepth 100000 in
theorem tX8_copies (a1 : Int32) (a2 : Int32) (w : zW) : Sm yX8_copies MX8_copies zi [.ref 74, .int a1, .int a2] w (fX8_copies a1 a2 w) := by
  refine Sm_of (lv0 := [(0, .ref 74), (1, .int a1), (2, .int a2)]) (by decide) rfl (fun _ => Nat.le_of_ble_eq_true rfl) rfl ?_
  unfold fX8_copies
  refine tz_aload_n 0 rfl (zd DX8_copies 0 rfl) ?_
  refine tz_iconst (0 : Int32) zk_iconst_0 (zd DX8_copies 1 rfl) ?_
  refine tz_putI 0 kz8 (zs_74) (by decide) rfl rfl wk_857 (zd DX8_copies 2 rfl) (fun w1 => ?_)
  refine tz_iload_n 1 rfl (zd DX8_copies 3 rfl) ?_
  refine tz_cS_z (rest := []) (YX8_isLine) wk_1104 (tX8_isLine a1 w1) rfl rfl (Nat.le_of_ble_eq_true rfl) ⟨Nat.le_of_ble_eq_true rfl, Nat.le_of_ble_eq_true rfl⟩ (zd DX8_copies 4 rfl) (fun b4 w2 e3 => ?_)
  refine tz_bif_eq 19 (zd DX8_copies 5 rfl) rfl (fun q5 => ?_) (fun q5 => ?_)
  · refine tz_iload_n 2 rfl (zd DX8_copies 6 rfl) ?_
    refine tz_cS_z (rest := []) (YX8_isLine) wk_1104 (tX8_isLine a2 w2) rfl rfl (Nat.le_of_ble_eq_true rfl) ⟨Nat.le_of_ble_eq_true rfl, Nat.le_of_ble_eq_true rfl⟩ (zd DX8_copies 7 rfl) (fun b8 w6 e7 => ?_)
    refine tz_bif_ne 21 (zd DX8_copies 8 rfl) rfl (fun q9 => ?_) (fun q9 => ?_)
    · refine tz_iload_n 1 rfl (zd DX8_copies 11 rfl) ?_
      refine tz_iload_n 2 rfl (zd DX8_copies 12 rfl) ?_
      refine tz_icmp_ne 29 (zd DX8_copies 13 rfl) rfl (fun q10 => ?_) (fun q10 => ?_)
      · refine tz_aload_n 0 rfl (zd DX8_copies 16 rfl) ?_
        refine tz_iload_n 1 rfl (zd DX8_copies 17 rfl) ?_
        refine tz_iload_n 2 rfl (zd DX8_copies 18 rfl) ?_
        refine tz_cV_n kz8 (zs_74) rfl (rest := []) (YX8_copiesTo) wk_1127 (tX8_copiesTo a1 a2 w6) rfl rfl (Nat.le_of_ble_eq_true rfl) ⟨Nat.le_of_ble_eq_true rfl, Nat.le_of_ble_eq_true rfl⟩ (zd DX8_copies 19 rfl) (fun v13 w11 e12 => ?_)
        refine tz_aload_n 0 rfl (zd DX8_copies 20 rfl) ?_
        refine tz_iload_n 1 rfl (zd DX8_copies 21 rfl) ?_
        refine tz_cV_i kz8 (zs_74) rfl (rest := []) (YX8_sizeOf) wk_1042 (tX8_sizeOf a1 w11) rfl rfl (Nat.le_of_ble_eq_true rfl) ⟨Nat.le_of_ble_eq_true rfl, Nat.le_of_ble_eq_true rfl⟩ (zd DX8_copies 22 rfl) (fun v16 w14 e15 => ?_)
        exact tz_iret rfl (zd DX8_copies 23 rfl)
      refine tz_bipush (-2 : Int32) zk_bipush_m2 (zd DX8_copies 14 rfl) ?_
      exact tz_iret rfl (zd DX8_copies 15 rfl)
    refine tz_iconst (-1 : Int32) zk_iconst_m1 (zd DX8_copies 9 rfl) ?_
    exact tz_iret rfl (zd DX8_copies 10 rfl)
  refine tz_iconst (-1 : Int32) zk_iconst_m1 (zd DX8_copies 9 rfl) ?_
  exact tz_iret rfl (zd DX8_copies 10 rfl)
def QX8_joins : List (Nat × Instr × Nat) := [(0, .aload_n 0, 1), (1, .iconst 0, 1), (2, .putfield 1, 3), (5, .iload_n 1, 1), (6, .invokestatic 237, 3), (9, .ifCond .eq 10, 3), (12, .iload_n 2, 1), (13, .invokestatic 237, 3), (16, .ifCond .ne 5, 3), (19, .iconst (-1), 1), (20, .ireturn, 1), (21, .aload_n 0, 1), (22, .iload_n 1, 1), (23, .invokevirtual 187, 3), (26, .aload_n 0, 1), (27, .iload_n 2, 1), (28, .invokevirtual 187, 3), (31, .iadd, 1), (32, .bipush 64, 2), (34, .if_icmp .le 6, 3), (37, .bipush (-3), 2), (39, .ireturn, 1), (40, .aload_n 0, 1), (41, .getfield 184, 3), (44, .istore_n 3, 1), (45, .aload_n 0, 1), (46, .iload_n 2, 1), (47, .iconst 4, 1), (48, .invokevirtual 249, 3), (51, .aload_n 0, 1), (52, .iconst 4, 1), (53, .invokevirtual 187, 3), (56, .ifCond .le 25, 3), (59, .aload_n 0, 1), (60, .iconst 4, 1), (61, .iconst 0, 1), (62, .invokevirtual 243, 3), (65, .istore 4, 2), (67, .aload_n 0, 1), (68, .iconst 2, 1), (69, .iload_n 1, 1), (70, .imul, 1), (71, .iconst 1, 1), (72, .iadd, 1), (73, .iload 4, 2), (75, .invokevirtual 193, 3), (78, .goto (-27), 3), (81, .aload_n 0, 1), (82, .iload_n 3, 1), (83, .aload_n 0, 1), (84, .iload_n 1, 1), (85, .invokevirtual 187, 3), (88, .invokevirtual 246, 3), (91, .ireturn, 1)]
set_option maxRecDepth 100000 in
theorem DX8_joins : ∀ q ∈ QX8_joins, decode cX8_joins q.1 = .ok (q.2.1, q.2.2) := by decide +kernel
abbrev MX8_joins : zM := (cX8_joins, "EndSumsModel", 5, (some .int), { frames := 7, cells := 0, slots := 0, locals := 177 })
def fX8_joins_L51 (x1 : Int32) (x3 : Int32) : Nat → zW → Option (Int32 × zW)
  | 0, _ => none
  | n + 1, w =>
    bd (fX8_sizeOf (4 : Int32) w) fun v23 w21 =>
    if v23 ≤ (0 : Int32) then
      bd (fX8_sizeOf x1 w21) fun v27 w25 =>
      bd (fX8_tellsWork x3 v27 w25) fun v30 w28 =>
      some (v30, w28)
    else
    bd (fX8_takesOne (4 : Int32) (0 : Int32) w21) fun v33 w31 =>
    bd (fX8_makes (((2 : Int32) * x1) + (1 : Int32)) v33 w31) fun _ w34 =>
    fX8_joins_L51 x1 x3 n w34
def fX8_joins (a1 : Int32) (a2 : Int32) (w : zW) : Option (Int32 × zW) :=
  lt (zsI w 74 0 (0 : Int32)) fun w1 =>
  bd (fX8_isLine a1 w1) fun b4 w2 =>
  if b4 = true then
    bd (fX8_isLine a2 w2) fun b8 w6 =>
    if b8 = true then
      bd (fX8_sizeOf a1 w6) fun v12 w10 =>
      bd (fX8_sizeOf a2 w10) fun v15 w13 =>
      if (v12 + v15) ≤ (64 : Int32) then
        lt (zI w13 74 23) fun v17 =>
        bd (fX8_copiesTo a2 (4 : Int32) w13) fun _ w18 =>
        fX8_joins_L51 a1 v17 zFU w18
      else
      some ((-3 : Int32), w13)
    else
    some ((-1 : Int32), w6)
  else
  some ((-1 : Int32), w2)
theorem YX8_joins : zYV yX8_joins MX8_joins 2 := ⟨wk_1134, wk_9, ⟨wk_1132, wk_1133⟩, ⟨by decide, by decide, by decide +kernel⟩, rfl, rfl⟩
set_option maxHeartbeats 4000000 in
set_option maxRecDepth 100000 in
theorem lX8_joins_L51 (x1 : Int32) (x3 : Int32) : ∀ (n : Nat)  (w : zW), Tz MX8_joins (zRet zi) (fX8_joins_L51 x1 x3 n w) 51 [(0, .ref 74), (1, .int x1), (3, .int x3)] [] w := by
  intro n
  induction n with
  | zero => intro  w; exact tz_eq (fX8_joins_L51.eq_1 _ _ _) tz_none
  | succ n ih =>
    intro  w
    refine tz_eq (fX8_joins_L51.eq_2 _ _ _ _) ?_
    refine tz_aload_n 0 rfl (zd DX8_joins 29 rfl) ?_
    refine tz_iconst (4 : Int32) zk_iconst_4 (zd DX8_joins 30 rfl) ?_
    refine tz_cV_i kz8 (zs_74) rfl (rest := []) (YX8_sizeOf) wk_1042 (tX8_sizeOf (4 : Int32) w) rfl rfl (Nat.le_of_ble_eq_true rfl) ⟨Nat.le_of_ble_eq_true rfl, Nat.le_of_ble_eq_true rfl⟩ (zd DX8_joins 31 rfl) (fun v23 w21 e22 => ?_)
    refine tz_if_le 81 (zd DX8_joins 32 rfl) rfl (fun q24 => ?_) (fun q24 => ?_)
    · refine tz_aload_n 0 rfl (zd DX8_joins 47 rfl) ?_
      refine tz_iload_n 2 rfl (zd DX8_joins 48 rfl) ?_
      refine tz_aload_n 0 rfl (zd DX8_joins 49 rfl) ?_
      refine tz_iload_n 1 rfl (zd DX8_joins 50 rfl) ?_
      refine tz_cV_i kz8 (zs_74) rfl (rest := [.int x3, .ref 74]) (YX8_sizeOf) wk_1042 (tX8_sizeOf x1 w21) rfl rfl (Nat.le_of_ble_eq_true rfl) ⟨Nat.le_of_ble_eq_true rfl, Nat.le_of_ble_eq_true rfl⟩ (zd DX8_joins 51 rfl) (fun v27 w25 e26 => ?_)
      refine tz_cV_i kz8 (zs_74) rfl (rest := []) (YX8_tellsWork) wk_1119 (tX8_tellsWork x3 v27 w25) rfl rfl (Nat.le_of_ble_eq_true rfl) ⟨Nat.le_of_ble_eq_true rfl, Nat.le_of_ble_eq_true rfl⟩ (zd DX8_joins 52 rfl) (fun v30 w28 e29 => ?_)
      exact tz_iret rfl (zd DX8_joins 53 rfl)
    refine tz_aload_n 0 rfl (zd DX8_joins 33 rfl) ?_
    refine tz_iconst (4 : Int32) zk_iconst_4 (zd DX8_joins 34 rfl) ?_
    refine tz_iconst (0 : Int32) zk_iconst_0 (zd DX8_joins 35 rfl) ?_
    refine tz_cV_i kz8 (zs_74) rfl (rest := []) (YX8_takesOne) wk_1115 (tX8_takesOne (4 : Int32) (0 : Int32) w21) rfl rfl (Nat.le_of_ble_eq_true rfl) ⟨Nat.le_of_ble_eq_true rfl, Nat.le_of_ble_eq_true rfl⟩ (zd DX8_joins 36 rfl) (fun v33 w31 e32 => ?_)
    refine tz_istore [(4, .int v33), (0, .ref 74), (1, .int x1), (3, .int x3)] (Nat.le_of_ble_eq_true rfl) rfl (zd DX8_joins 37 rfl) ?_
    refine tz_aload_n 1 rfl (zd DX8_joins 38 rfl) ?_
    refine tz_iconst (2 : Int32) zk_iconst_2 (zd DX8_joins 39 rfl) ?_
    refine tz_iload_n 2 rfl (zd DX8_joins 40 rfl) ?_
    refine tz_imul (zd DX8_joins 41 rfl) ?_
    refine tz_iconst (1 : Int32) zk_iconst_1 (zd DX8_joins 42 rfl) ?_
    refine tz_iadd (zd DX8_joins 43 rfl) ?_
    refine tz_iload 0 rfl (zd DX8_joins 44 rfl) ?_
    refine tz_cV_n kz8 (zs_74) rfl (rest := []) (YX8_makes) wk_1061 (tX8_makes (((2 : Int32) * x1) + (1 : Int32)) v33 w31) rfl rfl (Nat.le_of_ble_eq_true rfl) ⟨Nat.le_of_ble_eq_true rfl, Nat.le_of_ble_eq_true rfl⟩ (zd DX8_joins 45 rfl) (fun v36 w34 e35 => ?_)
    refine tz_goto 51 (zd DX8_joins 46 rfl) rfl ?_
    refine tz_lv (lv2 := [(0, .ref 74), (1, .int x1), (3, .int x3)]) [1, 2, 3] rfl ?_
    exact ih w34
set_option maxHeartbeats 4000000 in
set_option maxRecDepth 100000 in
theorem tX8_joins (a1 : Int32) (a2 : Int32) (w : zW) : Sm yX8_joins MX8_joins zi [.ref 74, .int a1, .int a2] w (fX8_joins a1 a2 w) := by
  refine Sm_of (lv0 := [(0, .ref 74), (1, .int a1), (2, .int a2)]) (by decide) rfl (fun _ => Nat.le_of_ble_eq_true rfl) rfl ?_
  unfold fX8_joins
  refine tz_aload_n 0 rfl (zd DX8_joins 0 rfl) ?_
  refine tz_iconst (0 : Int32) zk_iconst_0 (zd DX8_joins 1 rfl) ?_
  refine tz_putI 0 kz8 (zs_74) (by decide) rfl rfl wk_857 (zd DX8_joins 2 rfl) (fun w1 => ?_)
  refine tz_iload_n 1 rfl (zd DX8_joins 3 rfl) ?_
  refine tz_cS_z (rest := []) (YX8_isLine) wk_1104 (tX8_isLine a1 w1) rfl rfl (Nat.le_of_ble_eq_true rfl) ⟨Nat.le_of_ble_eq_true rfl, Nat.le_of_ble_eq_true rfl⟩ (zd DX8_joins 4 rfl) (fun b4 w2 e3 => ?_)
  refine tz_bif_eq 19 (zd DX8_joins 5 rfl) rfl (fun q5 => ?_) (fun q5 => ?_)
  · refine tz_iload_n 2 rfl (zd DX8_joins 6 rfl) ?_
    refine tz_cS_z (rest := []) (YX8_isLine) wk_1104 (tX8_isLine a2 w2) rfl rfl (Nat.le_of_ble_eq_true rfl) ⟨Nat.le_of_ble_eq_true rfl, Nat.le_of_ble_eq_true rfl⟩ (zd DX8_joins 7 rfl) (fun b8 w6 e7 => ?_)
    refine tz_bif_ne 21 (zd DX8_joins 8 rfl) rfl (fun q9 => ?_) (fun q9 => ?_)
    · refine tz_aload_n 0 rfl (zd DX8_joins 11 rfl) ?_
      refine tz_iload_n 1 rfl (zd DX8_joins 12 rfl) ?_
      refine tz_cV_i kz8 (zs_74) rfl (rest := []) (YX8_sizeOf) wk_1042 (tX8_sizeOf a1 w6) rfl rfl (Nat.le_of_ble_eq_true rfl) ⟨Nat.le_of_ble_eq_true rfl, Nat.le_of_ble_eq_true rfl⟩ (zd DX8_joins 13 rfl) (fun v12 w10 e11 => ?_)
      refine tz_aload_n 0 rfl (zd DX8_joins 14 rfl) ?_
      refine tz_iload_n 2 rfl (zd DX8_joins 15 rfl) ?_
      refine tz_cV_i kz8 (zs_74) rfl (rest := [.int v12]) (YX8_sizeOf) wk_1042 (tX8_sizeOf a2 w10) rfl rfl (Nat.le_of_ble_eq_true rfl) ⟨Nat.le_of_ble_eq_true rfl, Nat.le_of_ble_eq_true rfl⟩ (zd DX8_joins 16 rfl) (fun v15 w13 e14 => ?_)
      refine tz_iadd (zd DX8_joins 17 rfl) ?_
      refine tz_bipush (64 : Int32) zk_bipush_64 (zd DX8_joins 18 rfl) ?_
      refine tz_icmp_le 40 (zd DX8_joins 19 rfl) rfl (fun q16 => ?_) (fun q16 => ?_)
      · refine tz_aload_n 0 rfl (zd DX8_joins 22 rfl) ?_
        refine tz_getI 23 kz8 (zs_74) (by decide) rfl wk_880 (zd DX8_joins 23 rfl) ?_
        refine tz_lti (fun v17 => ?_)
        refine tz_istore_n [(3, .int v17), (0, .ref 74), (1, .int a1), (2, .int a2)] (Nat.le_of_ble_eq_true rfl) rfl (zd DX8_joins 24 rfl) ?_
        refine tz_aload_n 1 rfl (zd DX8_joins 25 rfl) ?_
        refine tz_iload_n 3 rfl (zd DX8_joins 26 rfl) ?_
        refine tz_iconst (4 : Int32) zk_iconst_4 (zd DX8_joins 27 rfl) ?_
        refine tz_cV_n kz8 (zs_74) rfl (rest := []) (YX8_copiesTo) wk_1127 (tX8_copiesTo a2 (4 : Int32) w13) rfl rfl (Nat.le_of_ble_eq_true rfl) ⟨Nat.le_of_ble_eq_true rfl, Nat.le_of_ble_eq_true rfl⟩ (zd DX8_joins 28 rfl) (fun v20 w18 e19 => ?_)
        refine tz_lv (lv2 := [(0, .ref 74), (1, .int a1), (3, .int v17)]) [1, 2, 0] rfl ?_
        exact lX8_joins_L51 a1 v17 zFU w18
      refine tz_bipush (-3 : Int32) zk_bipush_m3 (zd DX8_joins 20 rfl) ?_
      exact tz_iret rfl (zd DX8_joins 21 rfl)
    refine tz_iconst (-1 : Int32) zk_iconst_m1 (zd DX8_joins 9 rfl) ?_
    exact tz_iret rfl (zd DX8_joins 10 rfl)
  refine tz_iconst (-1 : Int32) zk_iconst_m1 (zd DX8_joins 9 rfl) ?_
  exact tz_iret rfl (zd DX8_joins 10 rfl)
def QX8_parts : List (Nat × Instr × Nat) := [(0, .aload_n 0, 1), (1, .iconst 0, 1), (2, .putfield 1, 3), (5, .iload_n 1, 1), (6, .invokestatic 237, 3), (9, .ifCond .eq 14, 3), (12, .iload_n 3, 1), (13, .invokestatic 237, 3), (16, .ifCond .eq 7, 3), (19, .iload_n 2, 1), (20, .ifCond .ge 5, 3), (23, .iconst (-1), 1), (24, .ireturn, 1), (25, .iload_n 1, 1), (26, .iload_n 3, 1), (27, .if_icmp .ne 6, 3), (30, .bipush (-2), 2), (32, .ireturn, 1), (33, .aload_n 0, 1), (34, .iload_n 1, 1), (35, .invokevirtual 187, 3), (38, .istore 4, 2), (40, .iload_n 2, 1), (41, .iload 4, 2), (43, .if_icmp .le 6, 3), (46, .bipush (-3), 2), (48, .ireturn, 1), (49, .aload_n 0, 1), (50, .iload_n 1, 1), (51, .invokevirtual 196, 3), (54, .pop, 1), (55, .aload_n 0, 1), (56, .iload_n 1, 1), (57, .iconst 0, 1), (58, .iload_n 2, 1), (59, .iload_n 2, 1), (60, .iconst 1, 1), (61, .iadd, 1), (62, .iconst 2, 1), (63, .idiv, 1), (64, .invokevirtual 199, 3), (67, .aload_n 0, 1), (68, .iload_n 3, 1), (69, .iload_n 2, 1), (70, .iload 4, 2), (72, .iload_n 2, 1), (73, .isub, 1), (74, .iload 4, 2), (76, .iload_n 2, 1), (77, .isub, 1), (78, .iconst 1, 1), (79, .iadd, 1), (80, .iconst 2, 1), (81, .idiv, 1), (82, .invokevirtual 199, 3), (85, .iload 4, 2), (87, .iload_n 2, 1), (88, .isub, 1), (89, .ireturn, 1)]
set_option maxRecDepth 100000 in
theorem DX8_parts : ∀ q ∈ QX8_parts, decode cX8_parts q.1 = .ok (q.2.1, q.2.2) := by decide +kernel
abbrev MX8_parts : zM := (cX8_parts, "EndSumsModel", 5, (some .int), { frames := 6, cells := 0, slots := 0, locals := 152 })
def fX8_parts (a1 : Int32) (a2 : Int32) (a3 : Int32) (w : zW) : Option (Int32 × zW) :=
  lt (zsI w 74 0 (0 : Int32)) fun w1 =>
  bd (fX8_isLine a1 w1) fun b4 w2 =>
  if b4 = true then
    bd (fX8_isLine a3 w2) fun b8 w6 =>
    if b8 = true then
      if (0 : Int32) ≤ a2 then
        if ¬ a1 = a3 then
          bd (fX8_sizeOf a1 w6) fun v14 w12 =>
          if a2 ≤ v14 then
            bd (fX8_takesItems a1 w12) fun v18 w16 =>
            bd (fX8_lays_ a1 (0 : Int32) a2 ((a2 + (1 : Int32)) / (2 : Int32)) w16) fun _ w19 =>
            bd (fX8_lays_ a3 a2 (v14 - a2) (((v14 - a2) + (1 : Int32)) / (2 : Int32)) w19) fun _ w22 =>
            some ((v14 - a2), w22)
          else
          some ((-3 : Int32), w12)
        else
        some ((-2 : Int32), w6)
      else
      some ((-1 : Int32), w6)
    else
    some ((-1 : Int32), w6)
  else
  some ((-1 : Int32), w2)
theorem YX8_parts : zYV yX8_parts MX8_parts 3 := ⟨wk_1138, wk_9, ⟨wk_1136, wk_1137⟩, ⟨by decide, by decide, by decide +kernel⟩, rfl, rfl⟩
set_option maxHeartbeats 4000000 in
set_option maxRecDepth 100000 in
theorem tX8_parts (a1 : Int32) (a2 : Int32) (a3 : Int32) (w : zW) : Sm yX8_parts MX8_parts zi [.ref 74, .int a1, .int a2, .int a3] w (fX8_parts a1 a2 a3 w) := by
  refine Sm_of (lv0 := [(0, .ref 74), (1, .int a1), (2, .int a2), (3, .int a3)]) (by decide) rfl (fun _ => Nat.le_of_ble_eq_true rfl) rfl ?_
  unfold fX8_parts
  refine tz_aload_n 0 rfl (zd DX8_parts 0 rfl) ?_
  refine tz_iconst (0 : Int32) zk_iconst_0 (zd DX8_parts 1 rfl) ?_
  refine tz_putI 0 kz8 (zs_74) (by decide) rfl rfl wk_857 (zd DX8_parts 2 rfl) (fun w1 => ?_)
  refine tz_iload_n 1 rfl (zd DX8_parts 3 rfl) ?_
  refine tz_cS_z (rest := []) (YX8_isLine) wk_1104 (tX8_isLine a1 w1) rfl rfl (Nat.le_of_ble_eq_true rfl) ⟨Nat.le_of_ble_eq_true rfl, Nat.le_of_ble_eq_true rfl⟩ (zd DX8_parts 4 rfl) (fun b4 w2 e3 => ?_)
  refine tz_bif_eq 23 (zd DX8_parts 5 rfl) rfl (fun q5 => ?_) (fun q5 => ?_)
  · refine tz_iload_n 3 rfl (zd DX8_parts 6 rfl) ?_
    refine tz_cS_z (rest := []) (YX8_isLine) wk_1104 (tX8_isLine a3 w2) rfl rfl (Nat.le_of_ble_eq_true rfl) ⟨Nat.le_of_ble_eq_true rfl, Nat.le_of_ble_eq_true rfl⟩ (zd DX8_parts 7 rfl) (fun b8 w6 e7 => ?_)
    refine tz_bif_eq 23 (zd DX8_parts 8 rfl) rfl (fun q9 => ?_) (fun q9 => ?_)
    · refine tz_iload_n 2 rfl (zd DX8_parts 9 rfl) ?_
      refine tz_if_ge 25 (zd DX8_parts 10 rfl) rfl (fun q10 => ?_) (fun q10 => ?_)
      · refine tz_iload_n 1 rfl (zd DX8_parts 13 rfl) ?_
        refine tz_iload_n 3 rfl (zd DX8_parts 14 rfl) ?_
        refine tz_icmp_ne 33 (zd DX8_parts 15 rfl) rfl (fun q11 => ?_) (fun q11 => ?_)
        · refine tz_aload_n 0 rfl (zd DX8_parts 18 rfl) ?_
          refine tz_iload_n 1 rfl (zd DX8_parts 19 rfl) ?_
          refine tz_cV_i kz8 (zs_74) rfl (rest := []) (YX8_sizeOf) wk_1042 (tX8_sizeOf a1 w6) rfl rfl (Nat.le_of_ble_eq_true rfl) ⟨Nat.le_of_ble_eq_true rfl, Nat.le_of_ble_eq_true rfl⟩ (zd DX8_parts 20 rfl) (fun v14 w12 e13 => ?_)
          refine tz_istore [(4, .int v14), (0, .ref 74), (1, .int a1), (2, .int a2), (3, .int a3)] (Nat.le_of_ble_eq_true rfl) rfl (zd DX8_parts 21 rfl) ?_
          refine tz_iload_n 3 rfl (zd DX8_parts 22 rfl) ?_
          refine tz_iload 0 rfl (zd DX8_parts 23 rfl) ?_
          refine tz_icmp_le 49 (zd DX8_parts 24 rfl) rfl (fun q15 => ?_) (fun q15 => ?_)
          · refine tz_aload_n 1 rfl (zd DX8_parts 27 rfl) ?_
            refine tz_iload_n 2 rfl (zd DX8_parts 28 rfl) ?_
            refine tz_cV_i kz8 (zs_74) rfl (rest := []) (YX8_takesItems) wk_1038 (tX8_takesItems a1 w12) rfl rfl (Nat.le_of_ble_eq_true rfl) ⟨Nat.le_of_ble_eq_true rfl, Nat.le_of_ble_eq_true rfl⟩ (zd DX8_parts 29 rfl) (fun v18 w16 e17 => ?_)
            refine tz_popi (zd DX8_parts 30 rfl) ?_
            refine tz_aload_n 1 rfl (zd DX8_parts 31 rfl) ?_
            refine tz_iload_n 2 rfl (zd DX8_parts 32 rfl) ?_
            refine tz_iconst (0 : Int32) zk_iconst_0 (zd DX8_parts 33 rfl) ?_
            refine tz_iload_n 3 rfl (zd DX8_parts 34 rfl) ?_
            refine tz_iload_n 3 rfl (zd DX8_parts 35 rfl) ?_
            refine tz_iconst (1 : Int32) zk_iconst_1 (zd DX8_parts 36 rfl) ?_
            refine tz_iadd (zd DX8_parts 37 rfl) ?_
            refine tz_iconst (2 : Int32) zk_iconst_2 (zd DX8_parts 38 rfl) ?_
            refine tz_idiv (by decide) (zd DX8_parts 39 rfl) ?_
            refine tz_cV_n kz8 (zs_74) rfl (rest := []) (YX8_lays_) wk_1057 (tX8_lays_ a1 (0 : Int32) a2 ((a2 + (1 : Int32)) / (2 : Int32)) w16) rfl rfl (Nat.le_of_ble_eq_true rfl) ⟨Nat.le_of_ble_eq_true rfl, Nat.le_of_ble_eq_true rfl⟩ (zd DX8_parts 40 rfl) (fun v21 w19 e20 => ?_)
            refine tz_aload_n 1 rfl (zd DX8_parts 41 rfl) ?_
            refine tz_iload_n 4 rfl (zd DX8_parts 42 rfl) ?_
            refine tz_iload_n 3 rfl (zd DX8_parts 43 rfl) ?_
            refine tz_iload 0 rfl (zd DX8_parts 44 rfl) ?_
            refine tz_iload_n 3 rfl (zd DX8_parts 45 rfl) ?_
            refine tz_isub (zd DX8_parts 46 rfl) ?_
            refine tz_iload 0 rfl (zd DX8_parts 47 rfl) ?_
            refine tz_iload_n 3 rfl (zd DX8_parts 48 rfl) ?_
            refine tz_isub (zd DX8_parts 49 rfl) ?_
            refine tz_iconst (1 : Int32) zk_iconst_1 (zd DX8_parts 50 rfl) ?_
            refine tz_iadd (zd DX8_parts 51 rfl) ?_
            refine tz_iconst (2 : Int32) zk_iconst_2 (zd DX8_parts 52 rfl) ?_
            refine tz_idiv (by decide) (zd DX8_parts 53 rfl) ?_
            refine tz_cV_n kz8 (zs_74) rfl (rest := []) (YX8_lays_) wk_1057 (tX8_lays_ a3 a2 (v14 - a2) (((v14 - a2) + (1 : Int32)) / (2 : Int32)) w19) rfl rfl (Nat.le_of_ble_eq_true rfl) ⟨Nat.le_of_ble_eq_true rfl, Nat.le_of_ble_eq_true rfl⟩ (zd DX8_parts 54 rfl) (fun v24 w22 e23 => ?_)
            refine tz_iload 0 rfl (zd DX8_parts 55 rfl) ?_
            refine tz_iload_n 3 rfl (zd DX8_parts 56 rfl) ?_
            refine tz_isub (zd DX8_parts 57 rfl) ?_
            exact tz_iret rfl (zd DX8_parts 58 rfl)
          refine tz_bipush (-3 : Int32) zk_bipush_m3 (zd DX8_parts 25 rfl) ?_
          exact tz_iret rfl (zd DX8_parts 26 rfl)
        refine tz_bipush (-2 : Int32) zk_bipush_m2 (zd DX8_parts 16 rfl) ?_
        exact tz_iret rfl (zd DX8_parts 17 rfl)
      refine tz_iconst (-1 : Int32) zk_iconst_m1 (zd DX8_parts 11 rfl) ?_
      exact tz_iret rfl (zd DX8_parts 12 rfl)
    refine tz_iconst (-1 : Int32) zk_iconst_m1 (zd DX8_parts 11 rfl) ?_
    exact tz_iret rfl (zd DX8_parts 12 rfl)
  refine tz_iconst (-1 : Int32) zk_iconst_m1 (zd DX8_parts 11 rfl) ?_
  exact tz_iret rfl (zd DX8_parts 12 rfl)
def QX8_turns : List (Nat × Instr × Nat) := [(0, .aload_n 0, 1), (1, .getfield 66, 3), (4, .iconst 2, 1), (5, .iload_n 1, 1), (6, .imul, 1), (7, .iconst 1, 1), (8, .iadd, 1), (9, .iaload, 1), (10, .istore_n 2, 1), (11, .aload_n 0, 1), (12, .iload_n 1, 1), (13, .invokevirtual 196, 3), (16, .istore_n 3, 1), (17, .iconst 0, 1), (18, .istore 4, 2), (20, .iload 4, 2), (22, .iload_n 3, 1), (23, .iconst 2, 1), (24, .idiv, 1), (25, .if_icmp .ge 49, 3), (28, .aload_n 0, 1), (29, .getfield 81, 3), (32, .iload 4, 2), (34, .iaload, 1), (35, .istore 5, 2), (37, .aload_n 0, 1), (38, .getfield 81, 3), (41, .iload 4, 2), (43, .aload_n 0, 1), (44, .getfield 81, 3), (47, .iload_n 3, 1), (48, .iconst 1, 1), (49, .isub, 1), (50, .iload 4, 2), (52, .isub, 1), (53, .iaload, 1), (54, .iastore, 1), (55, .aload_n 0, 1), (56, .getfield 81, 3), (59, .iload_n 3, 1), (60, .iconst 1, 1), (61, .isub, 1), (62, .iload 4, 2), (64, .isub, 1), (65, .iload 5, 2), (67, .iastore, 1), (68, .iinc 4 1, 3), (71, .goto (-51), 3), (74, .aload_n 0, 1), (75, .iload_n 1, 1), (76, .iconst 0, 1), (77, .iload_n 3, 1), (78, .iload_n 2, 1), (79, .invokevirtual 199, 3), (82, .iload_n 3, 1), (83, .ireturn, 1)]
set_option maxRecDepth 100000 in
theorem DX8_turns : ∀ q ∈ QX8_turns, decode cX8_turns q.1 = .ok (q.2.1, q.2.2) := by decide +kernel
abbrev MX8_turns : zM := (cX8_turns, "EndSumsModel", 6, (some .int), { frames := 6, cells := 0, slots := 0, locals := 152 })
def fX8_turns_L20 (x1 : Int32) (x2 : Int32) (x3 : Int32) : Nat → Int32 → zW → Option (Int32 × zW)
  | 0, _, _ => none
  | n + 1, x4, w =>
    if (x3 / (2 : Int32)) ≤ x4 then
      bd (fX8_lays_ x1 (0 : Int32) x3 x2 w) fun _ w6 =>
      some (x3, w6)
    else
    zg (zin x4 65) <|
    lt (zI w 88 x4.toNatClampNeg) fun v9 =>
    zg (zin ((x3 - (1 : Int32)) - x4) 65) <|
    zg (zin x4 65) <| lt (zsI w 88 x4.toNatClampNeg (zI w 88 ((x3 - (1 : Int32)) - x4).toNatClampNeg)) fun w10 =>
    zg (zin ((x3 - (1 : Int32)) - x4) 65) <| lt (zsI w10 88 ((x3 - (1 : Int32)) - x4).toNatClampNeg v9) fun w11 =>
    fX8_turns_L20 x1 x2 x3 n (x4 + (1 : Int32)) w11
def fX8_turns (a1 : Int32) (w : zW) : Option (Int32 × zW) :=
  zg (zin (((2 : Int32) * a1) + (1 : Int32)) 10) <|
  lt (zI w 83 (((2 : Int32) * a1) + (1 : Int32)).toNatClampNeg) fun v1 =>
  bd (fX8_takesItems a1 w) fun v4 w2 =>
  fX8_turns_L20 a1 v1 v4 zFU (0 : Int32) w2
theorem YX8_turns : zYV yX8_turns MX8_turns 1 := ⟨wk_1146, wk_9, ⟨wk_1145, ws_102⟩, ⟨by decide, by decide, by decide +kernel⟩, rfl, rfl⟩
set_option maxHeartbeats 4000000 in
set_option maxRecDepth 100000 in
theorem lX8_turns_L20 (x1 : Int32) (x2 : Int32) (x3 : Int32) : ∀ (n : Nat) (x4 : Int32) (w : zW), Tz MX8_turns (zRet zi) (fX8_turns_L20 x1 x2 x3 n x4 w) 20 [(0, .ref 74), (1, .int x1), (2, .int x2), (3, .int x3), (4, .int x4)] [] w := by
  intro n
  induction n with
  | zero => intro x4 w; exact tz_eq (fX8_turns_L20.eq_1 _ _ _ _ _) tz_none
  | succ n ih =>
    intro x4 w
    refine tz_eq (fX8_turns_L20.eq_2 _ _ _ _ _ _) ?_
    refine tz_iload 4 rfl (zd DX8_turns 15 rfl) ?_
    refine tz_iload_n 3 rfl (zd DX8_turns 16 rfl) ?_
    refine tz_iconst (2 : Int32) zk_iconst_2 (zd DX8_turns 17 rfl) ?_
    refine tz_idiv (by decide) (zd DX8_turns 18 rfl) ?_
    refine tz_icmp_ge 74 (zd DX8_turns 19 rfl) rfl (fun q5 => ?_) (fun q5 => ?_)
    · refine tz_aload_n 0 rfl (zd DX8_turns 48 rfl) ?_
      refine tz_iload_n 1 rfl (zd DX8_turns 49 rfl) ?_
      refine tz_iconst (0 : Int32) zk_iconst_0 (zd DX8_turns 50 rfl) ?_
      refine tz_iload_n 3 rfl (zd DX8_turns 51 rfl) ?_
      refine tz_iload_n 2 rfl (zd DX8_turns 52 rfl) ?_
      refine tz_cV_n kz8 (zs_74) rfl (rest := []) (YX8_lays_) wk_1057 (tX8_lays_ x1 (0 : Int32) x3 x2 w) rfl rfl (Nat.le_of_ble_eq_true rfl) ⟨Nat.le_of_ble_eq_true rfl, Nat.le_of_ble_eq_true rfl⟩ (zd DX8_turns 53 rfl) (fun v8 w6 e7 => ?_)
      refine tz_iload_n 3 rfl (zd DX8_turns 54 rfl) ?_
      exact tz_iret rfl (zd DX8_turns 55 rfl)
    refine tz_aload_n 0 rfl (zd DX8_turns 20 rfl) ?_
    refine tz_getR 88 25 kz8 (zs_74) (by decide) (by decide) rfl wk_882 (zd DX8_turns 21 rfl) ?_
    refine tz_iload 4 rfl (zd DX8_turns 22 rfl) ?_
    refine tz_iald (zs_88.1) (zs_88.2) (zd DX8_turns 23 rfl) ?_
    refine tz_lti (fun v9 => ?_)
    refine tz_istore [(5, .int v9), (0, .ref 74), (1, .int x1), (2, .int x2), (3, .int x3), (4, .int x4)] (Nat.le_of_ble_eq_true rfl) rfl (zd DX8_turns 24 rfl) ?_
    refine tz_aload_n 1 rfl (zd DX8_turns 25 rfl) ?_
    refine tz_getR 88 25 kz8 (zs_74) (by decide) (by decide) rfl wk_882 (zd DX8_turns 26 rfl) ?_
    refine tz_iload 5 rfl (zd DX8_turns 27 rfl) ?_
    refine tz_aload_n 1 rfl (zd DX8_turns 28 rfl) ?_
    refine tz_getR 88 25 kz8 (zs_74) (by decide) (by decide) rfl wk_882 (zd DX8_turns 29 rfl) ?_
    refine tz_iload_n 4 rfl (zd DX8_turns 30 rfl) ?_
    refine tz_iconst (1 : Int32) zk_iconst_1 (zd DX8_turns 31 rfl) ?_
    refine tz_isub (zd DX8_turns 32 rfl) ?_
    refine tz_iload 5 rfl (zd DX8_turns 33 rfl) ?_
    refine tz_isub (zd DX8_turns 34 rfl) ?_
    refine tz_iald (zs_88.1) (zs_88.2) (zd DX8_turns 35 rfl) ?_
    refine tz_iast (zs_88.1) (zs_88.2) (zd DX8_turns 36 rfl) (fun w10 => ?_)
    refine tz_aload_n 1 rfl (zd DX8_turns 37 rfl) ?_
    refine tz_getR 88 25 kz8 (zs_74) (by decide) (by decide) rfl wk_882 (zd DX8_turns 38 rfl) ?_
    refine tz_iload_n 4 rfl (zd DX8_turns 39 rfl) ?_
    refine tz_iconst (1 : Int32) zk_iconst_1 (zd DX8_turns 40 rfl) ?_
    refine tz_isub (zd DX8_turns 41 rfl) ?_
    refine tz_iload 5 rfl (zd DX8_turns 42 rfl) ?_
    refine tz_isub (zd DX8_turns 43 rfl) ?_
    refine tz_iload 0 rfl (zd DX8_turns 44 rfl) ?_
    refine tz_iast (zs_88.1) (zs_88.2) (zd DX8_turns 45 rfl) (fun w11 => ?_)
    refine tz_iinc 5 (1 : Int32) [(4, .int (x4 + (1 : Int32))), (5, .int v9), (0, .ref 74), (1, .int x1), (2, .int x2), (3, .int x3)] rfl zk_iconst_1 (Nat.le_of_ble_eq_true rfl) rfl (zd DX8_turns 46 rfl) ?_
    refine tz_goto 20 (zd DX8_turns 47 rfl) rfl ?_
    refine tz_lv (lv2 := [(0, .ref 74), (1, .int x1), (2, .int x2), (3, .int x3), (4, .int (x4 + (1 : Int32)))]) [2, 3, 4, 5, 0] rfl ?_
    exact ih (x4 + (1 : Int32)) w11
set_option maxHeartbeats 4000000 in
set_option maxRecDepth 100000 in
theorem tX8_turns (a1 : Int32) (w : zW) : Sm yX8_turns MX8_turns zi [.ref 74, .int a1] w (fX8_turns a1 w) := by
  refine Sm_of (lv0 := [(0, .ref 74), (1, .int a1)]) (by decide) rfl (fun _ => Nat.le_of_ble_eq_true rfl) rfl ?_
  unfold fX8_turns
  refine tz_aload_n 0 rfl (zd DX8_turns 0 rfl) ?_
  refine tz_getR 83 18 kz8 (zs_74) (by decide) (by decide) rfl wk_875 (zd DX8_turns 1 rfl) ?_
  refine tz_iconst (2 : Int32) zk_iconst_2 (zd DX8_turns 2 rfl) ?_
  refine tz_iload_n 1 rfl (zd DX8_turns 3 rfl) ?_
  refine tz_imul (zd DX8_turns 4 rfl) ?_
  refine tz_iconst (1 : Int32) zk_iconst_1 (zd DX8_turns 5 rfl) ?_
  refine tz_iadd (zd DX8_turns 6 rfl) ?_
  refine tz_iald (zs_83.1) (zs_83.2) (zd DX8_turns 7 rfl) ?_
  refine tz_lti (fun v1 => ?_)
  refine tz_istore_n [(2, .int v1), (0, .ref 74), (1, .int a1)] (Nat.le_of_ble_eq_true rfl) rfl (zd DX8_turns 8 rfl) ?_
  refine tz_aload_n 1 rfl (zd DX8_turns 9 rfl) ?_
  refine tz_iload_n 2 rfl (zd DX8_turns 10 rfl) ?_
  refine tz_cV_i kz8 (zs_74) rfl (rest := []) (YX8_takesItems) wk_1038 (tX8_takesItems a1 w) rfl rfl (Nat.le_of_ble_eq_true rfl) ⟨Nat.le_of_ble_eq_true rfl, Nat.le_of_ble_eq_true rfl⟩ (zd DX8_turns 11 rfl) (fun v4 w2 e3 => ?_)
  refine tz_istore_n [(3, .int v4), (2, .int v1), (0, .ref 74), (1, .int a1)] (Nat.le_of_ble_eq_true rfl) rfl (zd DX8_turns 12 rfl) ?_
  refine tz_iconst (0 : Int32) zk_iconst_0 (zd DX8_turns 13 rfl) ?_
  refine tz_istore [(4, .int (0 : Int32)), (3, .int v4), (2, .int v1), (0, .ref 74), (1, .int a1)] (Nat.le_of_ble_eq_true rfl) rfl (zd DX8_turns 14 rfl) ?_
  refine tz_lv (lv2 := [(0, .ref 74), (1, .int a1), (2, .int v1), (3, .int v4), (4, .int (0 : Int32))]) [3, 4, 2, 1, 0] rfl ?_
  exact lX8_turns_L20 a1 v1 v4 zFU (0 : Int32) w2
def QX8_reverses : List (Nat × Instr × Nat) := [(0, .aload_n 0, 1), (1, .iconst 0, 1), (2, .putfield 1, 3), (5, .iload_n 1, 1), (6, .invokestatic 237, 3), (9, .ifCond .ne 5, 3), (12, .iconst (-1), 1), (13, .ireturn, 1), (14, .aload_n 0, 1), (15, .iload_n 1, 1), (16, .invokevirtual 252, 3), (19, .ireturn, 1)]
set_option maxRecDepth 100000 in
theorem DX8_reverses : ∀ q ∈ QX8_reverses, decode cX8_reverses q.1 = .ok (q.2.1, q.2.2) := by decide +kernel
abbrev MX8_reverses : zM := (cX8_reverses, "EndSumsModel", 2, (some .int), { frames := 7, cells := 0, slots := 0, locals := 177 })
def fX8_reverses (a1 : Int32) (w : zW) : Option (Int32 × zW) :=
  lt (zsI w 74 0 (0 : Int32)) fun w1 =>
  bd (fX8_isLine a1 w1) fun b4 w2 =>
  if b4 = true then
    bd (fX8_turns a1 w2) fun v8 w6 =>
    some (v8, w6)
  else
  some ((-1 : Int32), w2)
theorem YX8_reverses : zYV yX8_reverses MX8_reverses 1 := ⟨wk_1142, wk_9, ⟨wk_1140, wk_1141⟩, ⟨by decide, by decide, by decide +kernel⟩, rfl, rfl⟩
set_option maxHeartbeats 4000000 in
set_option maxRecDepth 100000 in
theorem tX8_reverses (a1 : Int32) (w : zW) : Sm yX8_reverses MX8_reverses zi [.ref 74, .int a1] w (fX8_reverses a1 w) := by
  refine Sm_of (lv0 := [(0, .ref 74), (1, .int a1)]) (by decide) rfl (fun _ => Nat.le_of_ble_eq_true rfl) rfl ?_
  unfold fX8_reverses
  refine tz_aload_n 0 rfl (zd DX8_reverses 0 rfl) ?_
  refine tz_iconst (0 : Int32) zk_iconst_0 (zd DX8_reverses 1 rfl) ?_
  refine tz_putI 0 kz8 (zs_74) (by decide) rfl rfl wk_857 (zd DX8_reverses 2 rfl) (fun w1 => ?_)
  refine tz_iload_n 1 rfl (zd DX8_reverses 3 rfl) ?_
  refine tz_cS_z (rest := []) (YX8_isLine) wk_1104 (tX8_isLine a1 w1) rfl rfl (Nat.le_of_ble_eq_true rfl) ⟨Nat.le_of_ble_eq_true rfl, Nat.le_of_ble_eq_true rfl⟩ (zd DX8_reverses 4 rfl) (fun b4 w2 e3 => ?_)
  refine tz_bif_ne 14 (zd DX8_reverses 5 rfl) rfl (fun q5 => ?_) (fun q5 => ?_)
  · refine tz_aload_n 0 rfl (zd DX8_reverses 8 rfl) ?_
    refine tz_iload_n 1 rfl (zd DX8_reverses 9 rfl) ?_
    refine tz_cV_i kz8 (zs_74) rfl (rest := []) (YX8_turns) wk_1143 (tX8_turns a1 w2) rfl rfl (Nat.le_of_ble_eq_true rfl) ⟨Nat.le_of_ble_eq_true rfl, Nat.le_of_ble_eq_true rfl⟩ (zd DX8_reverses 10 rfl) (fun v8 w6 e7 => ?_)
    exact tz_iret rfl (zd DX8_reverses 11 rfl)
  refine tz_iconst (-1 : Int32) zk_iconst_m1 (zd DX8_reverses 6 rfl) ?_
  exact tz_iret rfl (zd DX8_reverses 7 rfl)
def QX8_makesAgain : List (Nat × Instr × Nat) := [(0, .iload_n 2, 1), (1, .ifCond .eq 9, 3), (4, .iconst 2, 1), (5, .iload_n 1, 1), (6, .imul, 1), (7, .goto 8, 3), (10, .iconst 2, 1), (11, .iload_n 1, 1), (12, .imul, 1), (13, .iconst 1, 1), (14, .iadd, 1), (15, .istore 5, 2), (17, .iload_n 2, 1), (18, .ifCond .eq 33, 3), (21, .iload_n 3, 1), (22, .istore 6, 2), (24, .iload 6, 2), (26, .ifCond .lt 22, 3), (29, .aload_n 0, 1), (30, .iload 5, 2), (32, .aload_n 0, 1), (33, .getfield 81, 3), (36, .iload 6, 2), (38, .iaload, 1), (39, .invokevirtual 193, 3), (42, .iinc 6 (-1), 3), (45, .goto (-21), 3), (48, .goto 32, 3), (51, .iload_n 3, 1), (52, .istore 6, 2), (54, .iload 6, 2), (56, .iload 4, 2), (58, .if_icmp .ge 22, 3), (61, .aload_n 0, 1), (62, .iload 5, 2), (64, .aload_n 0, 1), (65, .getfield 81, 3), (68, .iload 6, 2), (70, .iaload, 1), (71, .invokevirtual 193, 3), (74, .iinc 6 1, 3), (77, .goto (-23), 3), (80, .return_, 1)]
set_option maxRecDepth 100000 in
theorem DX8_makesAgain : ∀ q ∈ QX8_makesAgain, decode cX8_makesAgain q.1 = .ok (q.2.1, q.2.2) := by decide +kernel
abbrev MX8_makesAgain : zM := (cX8_makesAgain, "EndSumsModel", 7, none, { frames := 5, cells := 0, slots := 0, locals := 127 })
def fX8_makesAgain_L54 (x4 : Int32) (x5 : Int32) : Nat → Int32 → zW → Option (Unit × zW)
  | 0, _, _ => none
  | n + 1, x6, w =>
    if x4 ≤ x6 then
      some ((), w)
    else
    zg (zin x6 65) <|
    bd (fX8_makes x5 (zI w 88 x6.toNatClampNeg) w) fun _ w5 =>
    fX8_makesAgain_L54 x4 x5 n (x6 + (1 : Int32)) w5
def fX8_makesAgain_L24 (x5 : Int32) : Nat → Int32 → zW → Option (Unit × zW)
  | 0, _, _ => none
  | n + 1, x6, w =>
    if x6 < (0 : Int32) then
      some ((), w)
    else
    zg (zin x6 65) <|
    bd (fX8_makes x5 (zI w 88 x6.toNatClampNeg) w) fun _ w9 =>
    fX8_makesAgain_L24 x5 n (x6 + (-1 : Int32)) w9
def fX8_makesAgain (a1 : Int32) (a2 : Int32) (a3 : Int32) (a4 : Int32) (w : zW) : Option (Unit × zW) :=
  lt (if a2 = (0 : Int32) then (((2 : Int32) * a1) + (1 : Int32)) else ((2 : Int32) * a1)) fun v2 =>
  if a2 = (0 : Int32) then
    fX8_makesAgain_L54 a4 v2 zFU a3 w
  else
  fX8_makesAgain_L24 v2 zFU a3 w
theorem YX8_makesAgain : zYV yX8_makesAgain MX8_makesAgain 4 := ⟨wk_1158, wk_9, ⟨wk_1157, ws_104⟩, ⟨by decide, by decide, by decide +kernel⟩, rfl, rfl⟩
set_option maxHeartbeats 4000000 in
set_option maxRecDepth 100000 in
theorem lX8_makesAgain_L54 (x4 : Int32) (x5 : Int32) : ∀ (n : Nat) (x6 : Int32) (w : zW), Tz MX8_makesAgain (zRet zn) (fX8_makesAgain_L54 x4 x5 n x6 w) 54 [(0, .ref 74), (4, .int x4), (5, .int x5), (6, .int x6)] [] w := by
  intro n
  induction n with
  | zero => intro x6 w; exact tz_eq (fX8_makesAgain_L54.eq_1 _ _ _ _) tz_none
  | succ n ih =>
    intro x6 w
    refine tz_eq (fX8_makesAgain_L54.eq_2 _ _ _ _ _) ?_
    refine tz_iload 3 rfl (zd DX8_makesAgain 30 rfl) ?_
    refine tz_iload 1 rfl (zd DX8_makesAgain 31 rfl) ?_
    refine tz_icmp_ge 80 (zd DX8_makesAgain 32 rfl) rfl (fun q4 => ?_) (fun q4 => ?_)
    · exact tz_vret rfl (zd DX8_makesAgain 42 rfl)
    refine tz_aload_n 0 rfl (zd DX8_makesAgain 33 rfl) ?_
    refine tz_iload 2 rfl (zd DX8_makesAgain 34 rfl) ?_
    refine tz_aload_n 0 rfl (zd DX8_makesAgain 35 rfl) ?_
    refine tz_getR 88 25 kz8 (zs_74) (by decide) (by decide) rfl wk_882 (zd DX8_makesAgain 36 rfl) ?_
    refine tz_iload 3 rfl (zd DX8_makesAgain 37 rfl) ?_
    refine tz_iald (zs_88.1) (zs_88.2) (zd DX8_makesAgain 38 rfl) ?_
    refine tz_cV_n kz8 (zs_74) rfl (rest := []) (YX8_makes) wk_1061 (tX8_makes x5 (zI w 88 x6.toNatClampNeg) w) rfl rfl (Nat.le_of_ble_eq_true rfl) ⟨Nat.le_of_ble_eq_true rfl, Nat.le_of_ble_eq_true rfl⟩ (zd DX8_makesAgain 39 rfl) (fun v7 w5 e6 => ?_)
    refine tz_iinc 3 (1 : Int32) [(6, .int (x6 + (1 : Int32))), (0, .ref 74), (4, .int x4), (5, .int x5)] rfl zk_iconst_1 (Nat.le_of_ble_eq_true rfl) rfl (zd DX8_makesAgain 40 rfl) ?_
    refine tz_goto 54 (zd DX8_makesAgain 41 rfl) rfl ?_
    refine tz_lv (lv2 := [(0, .ref 74), (4, .int x4), (5, .int x5), (6, .int (x6 + (1 : Int32)))]) [1, 2, 3, 0] rfl ?_
    exact ih (x6 + (1 : Int32)) w5
set_option maxHeartbeats 4000000 in
set_option maxRecDepth 100000 in
theorem lX8_makesAgain_L24 (x5 : Int32) : ∀ (n : Nat) (x6 : Int32) (w : zW), Tz MX8_makesAgain (zRet zn) (fX8_makesAgain_L24 x5 n x6 w) 24 [(0, .ref 74), (5, .int x5), (6, .int x6)] [] w := by
  intro n
  induction n with
  | zero => intro x6 w; exact tz_eq (fX8_makesAgain_L24.eq_1 _ _ _) tz_none
  | succ n ih =>
    intro x6 w
    refine tz_eq (fX8_makesAgain_L24.eq_2 _ _ _ _) ?_
    refine tz_iload 2 rfl (zd DX8_makesAgain 16 rfl) ?_
    refine tz_if_lt 48 (zd DX8_makesAgain 17 rfl) rfl (fun q8 => ?_) (fun q8 => ?_)
    · refine tz_goto 80 (zd DX8_makesAgain 27 rfl) rfl ?_
      exact tz_vret rfl (zd DX8_makesAgain 42 rfl)
    refine tz_aload_n 0 rfl (zd DX8_makesAgain 18 rfl) ?_
    refine tz_iload 1 rfl (zd DX8_makesAgain 19 rfl) ?_
    refine tz_aload_n 0 rfl (zd DX8_makesAgain 20 rfl) ?_
    refine tz_getR 88 25 kz8 (zs_74) (by decide) (by decide) rfl wk_882 (zd DX8_makesAgain 21 rfl) ?_
    refine tz_iload 2 rfl (zd DX8_makesAgain 22 rfl) ?_
    refine tz_iald (zs_88.1) (zs_88.2) (zd DX8_makesAgain 23 rfl) ?_
    refine tz_cV_n kz8 (zs_74) rfl (rest := []) (YX8_makes) wk_1061 (tX8_makes x5 (zI w 88 x6.toNatClampNeg) w) rfl rfl (Nat.le_of_ble_eq_true rfl) ⟨Nat.le_of_ble_eq_true rfl, Nat.le_of_ble_eq_true rfl⟩ (zd DX8_makesAgain 24 rfl) (fun v11 w9 e10 => ?_)
    refine tz_iinc 2 (-1 : Int32) [(6, .int (x6 + (-1 : Int32))), (0, .ref 74), (5, .int x5)] rfl zk_iconst_m1 (Nat.le_of_ble_eq_true rfl) rfl (zd DX8_makesAgain 25 rfl) ?_
    refine tz_goto 24 (zd DX8_makesAgain 26 rfl) rfl ?_
    refine tz_lv (lv2 := [(0, .ref 74), (5, .int x5), (6, .int (x6 + (-1 : Int32)))]) [1, 2, 0] rfl ?_
    exact ih (x6 + (-1 : Int32)) w9
set_option maxHeartbeats 4000000 in
set_option maxRecDepth 100000 in
theorem tX8_makesAgain (a1 : Int32) (a2 : Int32) (a3 : Int32) (a4 : Int32) (w : zW) : Sm yX8_makesAgain MX8_makesAgain zn [.ref 74, .int a1, .int a2, .int a3, .int a4] w (fX8_makesAgain a1 a2 a3 a4 w) := by
  refine Sm_of (lv0 := [(0, .ref 74), (1, .int a1), (2, .int a2), (3, .int a3), (4, .int a4)]) (by decide) rfl (fun _ => Nat.le_of_ble_eq_true rfl) rfl ?_
  unfold fX8_makesAgain
  refine tz_iload_n 2 rfl (zd DX8_makesAgain 0 rfl) ?_
  refine tz_dia (P := fun F => ∀ v : Int32, Tz MX8_makesAgain (zRet zn) (F v) 15 [(0, .ref 74), (1, .int a1), (2, .int a2), (3, .int a3), (4, .int a4)] (.int v :: []) w) ?_ (fun _ hJ15 => ?_)
  · intro v2
    refine tz_istore [(5, .int v2), (0, .ref 74), (1, .int a1), (2, .int a2), (3, .int a3), (4, .int a4)] (Nat.le_of_ble_eq_true rfl) rfl (zd DX8_makesAgain 11 rfl) ?_
    refine tz_iload_n 3 rfl (zd DX8_makesAgain 12 rfl) ?_
    refine tz_if_eq 51 (zd DX8_makesAgain 13 rfl) rfl (fun q3 => ?_) (fun q3 => ?_)
    · refine tz_iload_n 4 rfl (zd DX8_makesAgain 28 rfl) ?_
      refine tz_istore [(6, .int a3), (5, .int v2), (0, .ref 74), (1, .int a1), (2, .int a2), (3, .int a3), (4, .int a4)] (Nat.le_of_ble_eq_true rfl) rfl (zd DX8_makesAgain 29 rfl) ?_
      refine tz_lv (lv2 := [(0, .ref 74), (4, .int a4), (5, .int v2), (6, .int a3)]) [2, 6, 1, 0] rfl ?_
      exact lX8_makesAgain_L54 a4 v2 zFU a3 w
    refine tz_iload_n 4 rfl (zd DX8_makesAgain 14 rfl) ?_
    refine tz_istore [(6, .int a3), (5, .int v2), (0, .ref 74), (1, .int a1), (2, .int a2), (3, .int a3), (4, .int a4)] (Nat.le_of_ble_eq_true rfl) rfl (zd DX8_makesAgain 15 rfl) ?_
    refine tz_lv (lv2 := [(0, .ref 74), (5, .int v2), (6, .int a3)]) [2, 1, 0] rfl ?_
    exact lX8_makesAgain_L24 v2 zFU a3 w
  refine tz_ite ?_
  refine tz_if_eq 10 (zd DX8_makesAgain 1 rfl) rfl (fun q1 => ?_) (fun q1 => ?_)
  · refine tz_iconst (2 : Int32) zk_iconst_2 (zd DX8_makesAgain 6 rfl) ?_
    refine tz_iload_n 1 rfl (zd DX8_makesAgain 7 rfl) ?_
    refine tz_imul (zd DX8_makesAgain 8 rfl) ?_
    refine tz_iconst (1 : Int32) zk_iconst_1 (zd DX8_makesAgain 9 rfl) ?_
    refine tz_iadd (zd DX8_makesAgain 10 rfl) ?_
    exact hJ15 (((2 : Int32) * a1) + (1 : Int32))
  refine tz_iconst (2 : Int32) zk_iconst_2 (zd DX8_makesAgain 2 rfl) ?_
  refine tz_iload_n 1 rfl (zd DX8_makesAgain 3 rfl) ?_
  refine tz_imul (zd DX8_makesAgain 4 rfl) ?_
  refine tz_goto 15 (zd DX8_makesAgain 5 rfl) rfl ?_
  exact hJ15 ((2 : Int32) * a1)
def QX8_isAt : List (Nat × Instr × Nat) := [(0, .iload_n 2, 1), (1, .i2l, 1), (2, .lconst 0, 1), (3, .aload_n 0, 1), (4, .iload_n 1, 1), (5, .invokevirtual 187, 3), (8, .iconst 1, 1), (9, .isub, 1), (10, .i2l, 1), (11, .invokestatic 21, 3), (14, .ireturn, 1)]
set_option maxRecDepth 100000 in
theorem DX8_isAt : ∀ q ∈ QX8_isAt, decode cX8_isAt q.1 = .ok (q.2.1, q.2.2) := by decide +kernel
abbrev MX8_isAt : zM := (cX8_isAt, "EndSumsModel", 3, (some .boolean), { frames := 1, cells := 0, slots := 0, locals := 25 })
def fX8_isAt (a1 : Int32) (a2 : Int32) (w : zW) : Option (Bool × zW) :=
  bd (fX8_sizeOf a1 w) fun v3 w1 =>
  bd (fX8_in (a2).toInt64 (0 : Int64) (v3 - (1 : Int32)).toInt64 w1) fun b6 w4 =>
  some (b6, w4)
theorem YX8_isAt : zYV yX8_isAt MX8_isAt 2 := ⟨wk_1154, wk_9, ⟨wk_1153, ws_103⟩, ⟨by decide, by decide, by decide +kernel⟩, rfl, rfl⟩
set_option maxHeartbeats 4000000 in
set_option maxRecDepth 100000 in
theorem tX8_isAt (a1 : Int32) (a2 : Int32) (w : zW) : Sm yX8_isAt MX8_isAt zz [.ref 74, .int a1, .int a2] w (fX8_isAt a1 a2 w) := by
  refine Sm_of (lv0 := [(0, .ref 74), (1, .int a1), (2, .int a2)]) (by decide) rfl (fun _ => Nat.le_of_ble_eq_true rfl) rfl ?_
  unfold fX8_isAt
  refine tz_iload_n 2 rfl (zd DX8_isAt 0 rfl) ?_
  refine tz_i2l (zd DX8_isAt 1 rfl) ?_
  refine tz_lconst (0 : Int64) rfl (zd DX8_isAt 2 rfl) ?_
  refine tz_aload_n 0 rfl (zd DX8_isAt 3 rfl) ?_
  refine tz_iload_n 1 rfl (zd DX8_isAt 4 rfl) ?_
  refine tz_cV_i kz8 (zs_74) rfl (rest := [.long (0 : Int64), .long (a2).toInt64]) (YX8_sizeOf) wk_1042 (tX8_sizeOf a1 w) rfl rfl (Nat.le_of_ble_eq_true rfl) ⟨Nat.le_of_ble_eq_true rfl, Nat.le_of_ble_eq_true rfl⟩ (zd DX8_isAt 5 rfl) (fun v3 w1 e2 => ?_)
  refine tz_iconst (1 : Int32) zk_iconst_1 (zd DX8_isAt 6 rfl) ?_
  refine tz_isub (zd DX8_isAt 7 rfl) ?_
  refine tz_i2l (zd DX8_isAt 8 rfl) ?_
  refine tz_cS_z (rest := []) (YX8_in) wk_848 (tX8_in (a2).toInt64 (0 : Int64) (v3 - (1 : Int32)).toInt64 w1) rfl rfl (Nat.le_of_ble_eq_true rfl) ⟨Nat.le_of_ble_eq_true rfl, Nat.le_of_ble_eq_true rfl⟩ (zd DX8_isAt 9 rfl) (fun b6 w4 e5 => ?_)
  exact tz_zret rfl (zd DX8_isAt 10 rfl)
def QX8_changes : List (Nat × Instr × Nat) := [(0, .aload_n 0, 1), (1, .iconst 0, 1), (2, .putfield 1, 3), (5, .iload_n 1, 1), (6, .invokestatic 237, 3), (9, .ifCond .eq 10, 3), (12, .iload_n 3, 1), (13, .invokestatic 156, 3), (16, .ifCond .ne 5, 3), (19, .iconst (-1), 1), (20, .ireturn, 1), (21, .aload_n 0, 1), (22, .iload_n 1, 1), (23, .iload_n 2, 1), (24, .invokevirtual 255, 3), (27, .ifCond .ne 6, 3), (30, .bipush (-2), 2), (32, .ireturn, 1), (33, .aload_n 0, 1), (34, .iload_n 1, 1), (35, .iload_n 2, 1), (36, .invokevirtual 190, 3), (39, .istore 4, 2), (41, .iload 4, 2), (43, .iload_n 3, 1), (44, .if_icmp .ne 6, 3), (47, .bipush (-4), 2), (49, .ireturn, 1), (50, .aload_n 0, 1), (51, .getfield 184, 3), (54, .istore 5, 2), (56, .aload_n 0, 1), (57, .iload_n 1, 1), (58, .invokevirtual 196, 3), (61, .istore 6, 2), (63, .aload_n 0, 1), (64, .getfield 66, 3), (67, .iconst 2, 1), (68, .iload_n 1, 1), (69, .imul, 1), (70, .iaload, 1), (71, .istore 7, 2), (73, .aload_n 0, 1), (74, .getfield 81, 3), (77, .iload_n 2, 1), (78, .iload_n 3, 1), (79, .iastore, 1), (80, .iload_n 2, 1), (81, .iload 7, 2), (83, .if_icmp .ge 20, 3), (86, .aload_n 0, 1), (87, .getfield 66, 3), (90, .iconst 2, 1), (91, .iload_n 1, 1), (92, .imul, 1), (93, .iload 7, 2), (95, .iconst 1, 1), (96, .isub, 1), (97, .iload_n 2, 1), (98, .isub, 1), (99, .iastore, 1), (100, .goto 17, 3), (103, .aload_n 0, 1), (104, .getfield 66, 3), (107, .iconst 2, 1), (108, .iload_n 1, 1), (109, .imul, 1), (110, .iconst 1, 1), (111, .iadd, 1), (112, .iload_n 2, 1), (113, .iload 7, 2), (115, .isub, 1), (116, .iastore, 1), (117, .aload_n 0, 1), (118, .iload_n 1, 1), (119, .iload_n 2, 1), (120, .iload 7, 2), (122, .if_icmp .ge 7, 3), (125, .iconst 1, 1), (126, .goto 4, 3), (129, .iconst 0, 1), (130, .iload_n 2, 1), (131, .iload 6, 2), (133, .invokevirtual 259, 3), (136, .aload_n 0, 1), (137, .iload 5, 2), (139, .iload 4, 2), (141, .invokevirtual 246, 3), (144, .ireturn, 1)]
set_option maxRecDepth 100000 in
theorem DX8_changes : ∀ q ∈ QX8_changes, decode cX8_changes q.1 = .ok (q.2.1, q.2.2) := by decide +kernel
abbrev MX8_changes : zM := (cX8_changes, "EndSumsModel", 8, (some .int), { frames := 6, cells := 0, slots := 0, locals := 153 })
def fX8_changes (a1 : Int32) (a2 : Int32) (a3 : Int32) (w : zW) : Option (Int32 × zW) :=
  lt (zsI w 74 0 (0 : Int32)) fun w1 =>
  bd (fX8_isLine a1 w1) fun b4 w2 =>
  if b4 = true then
    bd (fX8_isItem a3 w2) fun b8 w6 =>
    if b8 = true then
      bd (fX8_isAt a1 a2 w6) fun b12 w10 =>
      if b12 = true then
        bd (fX8_itemAt a1 a2 w10) fun v16 w14 =>
        if ¬ v16 = a3 then
          lt (zI w14 74 23) fun v18 =>
          bd (fX8_takesItems a1 w14) fun v21 w19 =>
          zg (zin ((2 : Int32) * a1) 10) <|
          lt (zI w19 83 ((2 : Int32) * a1).toNatClampNeg) fun v22 =>
          zg (zin a2 65) <| lt (zsI w19 88 a2.toNatClampNeg a3) fun w23 =>
          lt (fun (w24 : zW) =>
            lt (if v22 ≤ a2 then (0 : Int32) else (1 : Int32)) fun v26 =>
            bd (fX8_makesAgain a1 v26 a2 v21 w24) fun _ w27 =>
            bd (fX8_tellsWork v18 v16 w27) fun v32 w30 =>
            some (v32, w30)) fun j24 =>
          if v22 ≤ a2 then
            zg (zin (((2 : Int32) * a1) + (1 : Int32)) 10) <| lt (zsI w23 83 (((2 : Int32) * a1) + (1 : Int32)).toNatClampNeg (a2 - v22)) fun w34 =>
            j24 w34
          else
          zg (zin ((2 : Int32) * a1) 10) <| lt (zsI w23 83 ((2 : Int32) * a1).toNatClampNeg ((v22 - (1 : Int32)) - a2)) fun w35 =>
          j24 w35
        else
        some ((-4 : Int32), w14)
      else
      some ((-2 : Int32), w10)
    else
    some ((-1 : Int32), w6)
  else
  some ((-1 : Int32), w2)
theorem YX8_changes : zYV yX8_changes MX8_changes 3 := ⟨wk_1150, wk_9, ⟨wk_1148, wk_1149⟩, ⟨by decide, by decide, by decide +kernel⟩, rfl, rfl⟩
set_option maxHeartbeats 4000000 in
set_option maxRecDepth 100000 in
theorem tX8_changes (a1 : Int32) (a2 : Int32) (a3 : Int32) (w : zW) : Sm yX8_changes MX8_changes zi [.ref 74, .int a1, .int a2, .int a3] w (fX8_changes a1 a2 a3 w) := by
  refine Sm_of (lv0 := [(0, .ref 74), (1, .int a1), (2, .int a2), (3, .int a3)]) (by decide) rfl (fun _ => Nat.le_of_ble_eq_true rfl) rfl ?_
  unfold fX8_changes
  refine tz_aload_n 0 rfl (zd DX8_changes 0 rfl) ?_
  refine tz_iconst (0 : Int32) zk_iconst_0 (zd DX8_changes 1 rfl) ?_
  refine tz_putI 0 kz8 (zs_74) (by decide) rfl rfl wk_857 (zd DX8_changes 2 rfl) (fun w1 => ?_)
  refine tz_iload_n 1 rfl (zd DX8_changes 3 rfl) ?_
  refine tz_cS_z (rest := []) (YX8_isLine) wk_1104 (tX8_isLine a1 w1) rfl rfl (Nat.le_of_ble_eq_true rfl) ⟨Nat.le_of_ble_eq_true rfl, Nat.le_of_ble_eq_true rfl⟩ (zd DX8_changes 4 rfl) (fun b4 w2 e3 => ?_)
  refine tz_bif_eq 19 (zd DX8_changes 5 rfl) rfl (fun q5 => ?_) (fun q5 => ?_)
  · refine tz_iload_n 3 rfl (zd DX8_changes 6 rfl) ?_
    refine tz_cS_z (rest := []) (YX8_isItem) wk_958 (tX8_isItem a3 w2) rfl rfl (Nat.le_of_ble_eq_true rfl) ⟨Nat.le_of_ble_eq_true rfl, Nat.le_of_ble_eq_true rfl⟩ (zd DX8_changes 7 rfl) (fun b8 w6 e7 => ?_)
    refine tz_bif_ne 21 (zd DX8_changes 8 rfl) rfl (fun q9 => ?_) (fun q9 => ?_)
    · refine tz_aload_n 0 rfl (zd DX8_changes 11 rfl) ?_
      refine tz_iload_n 1 rfl (zd DX8_changes 12 rfl) ?_
      refine tz_iload_n 2 rfl (zd DX8_changes 13 rfl) ?_
      refine tz_cV_z kz8 (zs_74) rfl (rest := []) (YX8_isAt) wk_1151 (tX8_isAt a1 a2 w6) rfl rfl (Nat.le_of_ble_eq_true rfl) ⟨Nat.le_of_ble_eq_true rfl, Nat.le_of_ble_eq_true rfl⟩ (zd DX8_changes 14 rfl) (fun b12 w10 e11 => ?_)
      refine tz_bif_ne 33 (zd DX8_changes 15 rfl) rfl (fun q13 => ?_) (fun q13 => ?_)
      · refine tz_aload_n 0 rfl (zd DX8_changes 18 rfl) ?_
        refine tz_iload_n 1 rfl (zd DX8_changes 19 rfl) ?_
        refine tz_iload_n 2 rfl (zd DX8_changes 20 rfl) ?_
        refine tz_cV_i kz8 (zs_74) rfl (rest := []) (YX8_itemAt) wk_1046 (tX8_itemAt a1 a2 w10) rfl rfl (Nat.le_of_ble_eq_true rfl) ⟨Nat.le_of_ble_eq_true rfl, Nat.le_of_ble_eq_true rfl⟩ (zd DX8_changes 21 rfl) (fun v16 w14 e15 => ?_)
        refine tz_istore [(4, .int v16), (0, .ref 74), (1, .int a1), (2, .int a2), (3, .int a3)] (Nat.le_of_ble_eq_true rfl) rfl (zd DX8_changes 22 rfl) ?_
        refine tz_iload 0 rfl (zd DX8_changes 23 rfl) ?_
        refine tz_iload_n 4 rfl (zd DX8_changes 24 rfl) ?_
        refine tz_icmp_ne 50 (zd DX8_changes 25 rfl) rfl (fun q17 => ?_) (fun q17 => ?_)
        · refine tz_aload_n 1 rfl (zd DX8_changes 28 rfl) ?_
          refine tz_getI 23 kz8 (zs_74) (by decide) rfl wk_880 (zd DX8_changes 29 rfl) ?_
          refine tz_lti (fun v18 => ?_)
          refine tz_istore [(5, .int v18), (4, .int v16), (0, .ref 74), (1, .int a1), (2, .int a2), (3, .int a3)] (Nat.le_of_ble_eq_true rfl) rfl (zd DX8_changes 30 rfl) ?_
          refine tz_aload_n 2 rfl (zd DX8_changes 31 rfl) ?_
          refine tz_iload_n 3 rfl (zd DX8_changes 32 rfl) ?_
          refine tz_cV_i kz8 (zs_74) rfl (rest := []) (YX8_takesItems) wk_1038 (tX8_takesItems a1 w14) rfl rfl (Nat.le_of_ble_eq_true rfl) ⟨Nat.le_of_ble_eq_true rfl, Nat.le_of_ble_eq_true rfl⟩ (zd DX8_changes 33 rfl) (fun v21 w19 e20 => ?_)
          refine tz_istore [(6, .int v21), (5, .int v18), (4, .int v16), (0, .ref 74), (1, .int a1), (2, .int a2), (3, .int a3)] (Nat.le_of_ble_eq_true rfl) rfl (zd DX8_changes 34 rfl) ?_
          refine tz_aload_n 3 rfl (zd DX8_changes 35 rfl) ?_
          refine tz_getR 83 18 kz8 (zs_74) (by decide) (by decide) rfl wk_875 (zd DX8_changes 36 rfl) ?_
          refine tz_iconst (2 : Int32) zk_iconst_2 (zd DX8_changes 37 rfl) ?_
          refine tz_iload_n 4 rfl (zd DX8_changes 38 rfl) ?_
          refine tz_imul (zd DX8_changes 39 rfl) ?_
          refine tz_iald (zs_83.1) (zs_83.2) (zd DX8_changes 40 rfl) ?_
          refine tz_lti (fun v22 => ?_)
          refine tz_istore [(7, .int v22), (6, .int v21), (5, .int v18), (4, .int v16), (0, .ref 74), (1, .int a1), (2, .int a2), (3, .int a3)] (Nat.le_of_ble_eq_true rfl) rfl (zd DX8_changes 41 rfl) ?_
          refine tz_aload_n 4 rfl (zd DX8_changes 42 rfl) ?_
          refine tz_getR 88 25 kz8 (zs_74) (by decide) (by decide) rfl wk_882 (zd DX8_changes 43 rfl) ?_
          refine tz_iload_n 6 rfl (zd DX8_changes 44 rfl) ?_
          refine tz_iload_n 7 rfl (zd DX8_changes 45 rfl) ?_
          refine tz_iast (zs_88.1) (zs_88.2) (zd DX8_changes 46 rfl) (fun w23 => ?_)
          refine tz_iload_n 6 rfl (zd DX8_changes 47 rfl) ?_
          refine tz_iload 0 rfl (zd DX8_changes 48 rfl) ?_
          refine tz_jp (P := fun j => ∀ (w24 : zW), Tz MX8_changes (zRet zi) (j w24) 117 [(0, .ref 74), (1, .int a1), (2, .int a2), (4, .int v16), (5, .int v18), (6, .int v21), (7, .int v22)] [] w24) ?_ (fun j24 hj24 => ?_)
          · intro w24
            refine tz_aload_n 0 rfl (zd DX8_changes 73 rfl) ?_
            refine tz_iload_n 1 rfl (zd DX8_changes 74 rfl) ?_
            refine tz_iload_n 2 rfl (zd DX8_changes 75 rfl) ?_
            refine tz_iload 6 rfl (zd DX8_changes 76 rfl) ?_
            refine tz_dia (P := fun F => ∀ v : Int32, Tz MX8_changes (zRet zi) (F v) 130 [(0, .ref 74), (1, .int a1), (2, .int a2), (4, .int v16), (5, .int v18), (6, .int v21), (7, .int v22)] (.int v :: [.int a1, .ref 74]) w24) ?_ (fun _ hJ130 => ?_)
            · intro v26
              refine tz_iload_n 2 rfl (zd DX8_changes 81 rfl) ?_
              refine tz_iload 5 rfl (zd DX8_changes 82 rfl) ?_
              refine tz_cV_n kz8 (zs_74) rfl (rest := []) (YX8_makesAgain) wk_1155 (tX8_makesAgain a1 v26 a2 v21 w24) rfl rfl (Nat.le_of_ble_eq_true rfl) ⟨Nat.le_of_ble_eq_true rfl, Nat.le_of_ble_eq_true rfl⟩ (zd DX8_changes 83 rfl) (fun v29 w27 e28 => ?_)
              refine tz_aload_n 0 rfl (zd DX8_changes 84 rfl) ?_
              refine tz_iload 4 rfl (zd DX8_changes 85 rfl) ?_
              refine tz_iload 3 rfl (zd DX8_changes 86 rfl) ?_
              refine tz_cV_i kz8 (zs_74) rfl (rest := []) (YX8_tellsWork) wk_1119 (tX8_tellsWork v18 v16 w27) rfl rfl (Nat.le_of_ble_eq_true rfl) ⟨Nat.le_of_ble_eq_true rfl, Nat.le_of_ble_eq_true rfl⟩ (zd DX8_changes 87 rfl) (fun v32 w30 e31 => ?_)
              exact tz_iret rfl (zd DX8_changes 88 rfl)
            refine tz_ite ?_
            refine tz_icmp_ge 129 (zd DX8_changes 77 rfl) rfl (fun q25 => ?_) (fun q25 => ?_)
            · refine tz_iconst (0 : Int32) zk_iconst_0 (zd DX8_changes 80 rfl) ?_
              exact hJ130 (0 : Int32)
            refine tz_iconst (1 : Int32) zk_iconst_1 (zd DX8_changes 78 rfl) ?_
            refine tz_goto 130 (zd DX8_changes 79 rfl) rfl ?_
            exact hJ130 (1 : Int32)
          refine tz_icmp_ge 103 (zd DX8_changes 49 rfl) rfl (fun q33 => ?_) (fun q33 => ?_)
          · refine tz_aload_n 4 rfl (zd DX8_changes 62 rfl) ?_
            refine tz_getR 83 18 kz8 (zs_74) (by decide) (by decide) rfl wk_875 (zd DX8_changes 63 rfl) ?_
            refine tz_iconst (2 : Int32) zk_iconst_2 (zd DX8_changes 64 rfl) ?_
            refine tz_iload_n 5 rfl (zd DX8_changes 65 rfl) ?_
            refine tz_imul (zd DX8_changes 66 rfl) ?_
            refine tz_iconst (1 : Int32) zk_iconst_1 (zd DX8_changes 67 rfl) ?_
            refine tz_iadd (zd DX8_changes 68 rfl) ?_
            refine tz_iload_n 6 rfl (zd DX8_changes 69 rfl) ?_
            refine tz_iload 0 rfl (zd DX8_changes 70 rfl) ?_
            refine tz_isub (zd DX8_changes 71 rfl) ?_
            refine tz_iast (zs_83.1) (zs_83.2) (zd DX8_changes 72 rfl) (fun w34 => ?_)
            refine tz_lv (lv2 := [(0, .ref 74), (1, .int a1), (2, .int a2), (4, .int v16), (5, .int v18), (6, .int v21), (7, .int v22)]) [4, 5, 6, 3, 2, 1, 0] rfl ?_
            exact hj24 w34
          refine tz_aload_n 4 rfl (zd DX8_changes 50 rfl) ?_
          refine tz_getR 83 18 kz8 (zs_74) (by decide) (by decide) rfl wk_875 (zd DX8_changes 51 rfl) ?_
          refine tz_iconst (2 : Int32) zk_iconst_2 (zd DX8_changes 52 rfl) ?_
          refine tz_iload_n 5 rfl (zd DX8_changes 53 rfl) ?_
          refine tz_imul (zd DX8_changes 54 rfl) ?_
          refine tz_iload 0 rfl (zd DX8_changes 55 rfl) ?_
          refine tz_iconst (1 : Int32) zk_iconst_1 (zd DX8_changes 56 rfl) ?_
          refine tz_isub (zd DX8_changes 57 rfl) ?_
          refine tz_iload_n 6 rfl (zd DX8_changes 58 rfl) ?_
          refine tz_isub (zd DX8_changes 59 rfl) ?_
          refine tz_iast (zs_83.1) (zs_83.2) (zd DX8_changes 60 rfl) (fun w35 => ?_)
          refine tz_goto 117 (zd DX8_changes 61 rfl) rfl ?_
          refine tz_lv (lv2 := [(0, .ref 74), (1, .int a1), (2, .int a2), (4, .int v16), (5, .int v18), (6, .int v21), (7, .int v22)]) [4, 5, 6, 3, 2, 1, 0] rfl ?_
          exact hj24 w35
        refine tz_bipush (-4 : Int32) zk_bipush_m4 (zd DX8_changes 26 rfl) ?_
        exact tz_iret rfl (zd DX8_changes 27 rfl)
      refine tz_bipush (-2 : Int32) zk_bipush_m2 (zd DX8_changes 16 rfl) ?_
      exact tz_iret rfl (zd DX8_changes 17 rfl)
    refine tz_iconst (-1 : Int32) zk_iconst_m1 (zd DX8_changes 9 rfl) ?_
    exact tz_iret rfl (zd DX8_changes 10 rfl)
  refine tz_iconst (-1 : Int32) zk_iconst_m1 (zd DX8_changes 9 rfl) ?_
  exact tz_iret rfl (zd DX8_changes 10 rfl)
