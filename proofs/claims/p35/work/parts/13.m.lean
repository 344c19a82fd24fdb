def QX8_slips : List (Nat × Instr × Nat) := [(0, .aload_n 0, 1), (1, .iconst 0, 1), (2, .putfield 1, 3), (5, .iload_n 1, 1), (6, .invokestatic 237, 3), (9, .ifCond .eq 10, 3), (12, .iload_n 3, 1), (13, .invokestatic 156, 3), (16, .ifCond .ne 5, 3), (19, .iconst (-1), 1), (20, .ireturn, 1), (21, .aload_n 0, 1), (22, .iload_n 1, 1), (23, .invokevirtual 187, 3), (26, .istore 4, 2), (28, .iload_n 2, 1), (29, .i2l, 1), (30, .lconst 0, 1), (31, .iload 4, 2), (33, .i2l, 1), (34, .invokestatic 21, 3), (37, .ifCond .ne 6, 3), (40, .bipush (-2), 2), (42, .ireturn, 1), (43, .iload 4, 2), (45, .bipush 64, 2), (47, .if_icmp .ne 6, 3), (50, .bipush (-3), 2), (52, .ireturn, 1), (53, .aload_n 0, 1), (54, .getfield 184, 3), (57, .istore 5, 2), (59, .aload_n 0, 1), (60, .iload_n 1, 1), (61, .invokevirtual 196, 3), (64, .pop, 1), (65, .iload 4, 2), (67, .istore 6, 2), (69, .iload 6, 2), (71, .iload_n 2, 1), (72, .if_icmp .le 25, 3), (75, .aload_n 0, 1), (76, .getfield 81, 3), (79, .iload 6, 2), (81, .aload_n 0, 1), (82, .getfield 81, 3), (85, .iload 6, 2), (87, .iconst 1, 1), (88, .isub, 1), (89, .iaload, 1), (90, .iastore, 1), (91, .iinc 6 (-1), 3), (94, .goto (-25), 3), (97, .aload_n 0, 1), (98, .getfield 81, 3), (101, .iload_n 2, 1), (102, .iload_n 3, 1), (103, .iastore, 1), (104, .aload_n 0, 1), (105, .getfield 66, 3), (108, .iconst 2, 1), (109, .iload_n 1, 1), (110, .imul, 1), (111, .iaload, 1), (112, .istore 6, 2), (114, .iload_n 2, 1), (115, .iload 6, 2), (117, .if_icmp .ge 18, 3), (120, .aload_n 0, 1), (121, .getfield 66, 3), (124, .iconst 2, 1), (125, .iload_n 1, 1), (126, .imul, 1), (127, .iload 6, 2), (129, .iload_n 2, 1), (130, .isub, 1), (131, .iastore, 1), (132, .goto 17, 3), (135, .aload_n 0, 1), (136, .getfield 66, 3), (139, .iconst 2, 1), (140, .iload_n 1, 1), (141, .imul, 1), (142, .iconst 1, 1), (143, .iadd, 1), (144, .iload_n 2, 1), (145, .iload 6, 2), (147, .isub, 1), (148, .iastore, 1), (149, .aload_n 0, 1), (150, .iload_n 1, 1), (151, .iload_n 2, 1), (152, .iload 6, 2), (154, .if_icmp .ge 7, 3), (157, .iconst 1, 1), (158, .goto 4, 3), (161, .iconst 0, 1), (162, .iload_n 2, 1), (163, .iload 4, 2), (165, .iconst 1, 1), (166, .iadd, 1), (167, .invokevirtual 259, 3), (170, .aload_n 0, 1), (171, .iload 5, 2), (173, .iload 4, 2), (175, .iconst 1, 1), (176, .iadd, 1), (177, .invokevirtual 246, 3), (180, .ireturn, 1)]
set_option maxRecDepth 100000 in
theorem DX8_slips : ∀ q ∈ QX8_slips, decode cX8_slips q.1 = .ok (q.2.1, q.2.2) := by decide +kernel
abbrev MX8_slips : zM := (cX8_slips, "EndSumsModel", 7, (some .int), { frames := 6, cells := 0, slots := 0, locals := 153 })
def fX8_slips_L69 (x1 : Int32) (x2 : Int32) (x3 : Int32) (x4 : Int32) (x5 : Int32) : Nat → Int32 → zW → Option (Int32 × zW)
  | 0, _, _ => none
  | n + 1, x6, w =>
    if x6 ≤ x2 then
      zg (zin x2 65) <| lt (zsI w 88 x2.toNatClampNeg x3) fun w23 =>
      zg (zin ((2 : Int32) * x1) 10) <|
      lt (zI w23 83 ((2 : Int32) * x1).toNatClampNeg) fun v24 =>
      lt (fun (w25 : zW) =>
        lt (if v24 ≤ x2 then (0 : Int32) else (1 : Int32)) fun v27 =>
        bd (fX8_makesAgain x1 v27 x2 (x4 + (1 : Int32)) w25) fun _ w28 =>
        bd (fX8_tellsWork x5 (x4 + (1 : Int32)) w28) fun v33 w31 =>
        some (v33, w31)) fun j25 =>
      if v24 ≤ x2 then
        zg (zin (((2 : Int32) * x1) + (1 : Int32)) 10) <| lt (zsI w23 83 (((2 : Int32) * x1) + (1 : Int32)).toNatClampNeg (x2 - v24)) fun w35 =>
        j25 w35
      else
      zg (zin ((2 : Int32) * x1) 10) <| lt (zsI w23 83 ((2 : Int32) * x1).toNatClampNeg (v24 - x2)) fun w36 =>
      j25 w36
    else
    zg (zin (x6 - (1 : Int32)) 65) <|
    zg (zin x6 65) <| lt (zsI w 88 x6.toNatClampNeg (zI w 88 (x6 - (1 : Int32)).toNatClampNeg)) fun w37 =>
    fX8_slips_L69 x1 x2 x3 x4 x5 n (x6 + (-1 : Int32)) w37
def fX8_slips (a1 : Int32) (a2 : Int32) (a3 : Int32) (w : zW) : Option (Int32 × zW) :=
  lt (zsI w 74 0 (0 : Int32)) fun w1 =>
  bd (fX8_isLine a1 w1) fun b4 w2 =>
  if b4 = true then
    bd (fX8_isItem a3 w2) fun b8 w6 =>
    if b8 = true then
      bd (fX8_sizeOf a1 w6) fun v12 w10 =>
      bd (fX8_in (a2).toInt64 (0 : Int64) (v12).toInt64 w10) fun b15 w13 =>
      if b15 = true then
        if ¬ v12 = (64 : Int32) then
          lt (zI w13 74 23) fun v18 =>
          bd (fX8_takesItems a1 w13) fun v21 w19 =>
          fX8_slips_L69 a1 a2 a3 v12 v18 zFU v12 w19
        else
        some ((-3 : Int32), w13)
      else
      some ((-2 : Int32), w13)
    else
    some ((-1 : Int32), w6)
  else
  some ((-1 : Int32), w2)
theorem YX8_slips : zYV yX8_slips MX8_slips 3 := ⟨wk_1162, wk_9, ⟨wk_1160, wk_1161⟩, ⟨by decide, by decide, by decide +kernel⟩, rfl, rfl⟩
set_option maxHeartbeats 4000000 in
set_option maxRecDepth 100000 in
theorem lX8_slips_L69 (x1 : Int32) (x2 : Int32) (x3 : Int32) (x4 : Int32) (x5 : Int32) : ∀ (n : Nat) (x6 : Int32) (w : zW), Tz MX8_slips (zRet zi) (fX8_slips_L69 x1 x2 x3 x4 x5 n x6 w) 69 [(0, .ref 74), (1, .int x1), (2, .int x2), (3, .int x3), (4, .int x4), (5, .int x5), (6, .int x6)] [] w := by
  intro n
  induction n with
  | zero => intro x6 w; exact tz_eq (fX8_slips_L69.eq_1 _ _ _ _ _ _ _) tz_none
  | succ n ih =>
    intro x6 w
    refine tz_eq (fX8_slips_L69.eq_2 _ _ _ _ _ _ _ _) ?_
    refine tz_iload 6 rfl (zd DX8_slips 38 rfl) ?_
    refine tz_iload_n 2 rfl (zd DX8_slips 39 rfl) ?_
    refine tz_icmp_le 97 (zd DX8_slips 40 rfl) rfl (fun q22 => ?_) (fun q22 => ?_)
    · refine tz_aload_n 0 rfl (zd DX8_slips 53 rfl) ?_
      refine tz_getR 88 25 kz8 (zs_74) (by decide) (by decide) rfl wk_882 (zd DX8_slips 54 rfl) ?_
      refine tz_iload_n 2 rfl (zd DX8_slips 55 rfl) ?_
      refine tz_iload_n 3 rfl (zd DX8_slips 56 rfl) ?_
      refine tz_iast (zs_88.1) (zs_88.2) (zd DX8_slips 57 rfl) (fun w23 => ?_)
      refine tz_aload_n 0 rfl (zd DX8_slips 58 rfl) ?_
      refine tz_getR 83 18 kz8 (zs_74) (by decide) (by decide) rfl wk_875 (zd DX8_slips 59 rfl) ?_
      refine tz_iconst (2 : Int32) zk_iconst_2 (zd DX8_slips 60 rfl) ?_
      refine tz_iload_n 1 rfl (zd DX8_slips 61 rfl) ?_
      refine tz_imul (zd DX8_slips 62 rfl) ?_
      refine tz_iald (zs_83.1) (zs_83.2) (zd DX8_slips 63 rfl) ?_
      refine tz_lti (fun v24 => ?_)
      refine tz_istore [(6, .int v24), (0, .ref 74), (1, .int x1), (2, .int x2), (3, .int x3), (4, .int x4), (5, .int x5)] (Nat.le_of_ble_eq_true rfl) rfl (zd DX8_slips 64 rfl) ?_
      refine tz_iload_n 3 rfl (zd DX8_slips 65 rfl) ?_
      refine tz_iload 0 rfl (zd DX8_slips 66 rfl) ?_
      refine tz_jp (P := fun j => ∀ (w25 : zW), Tz MX8_slips (zRet zi) (j w25) 149 [(0, .ref 74), (1, .int x1), (2, .int x2), (4, .int x4), (5, .int x5), (6, .int v24)] [] w25) ?_ (fun j25 hj25 => ?_)
      · intro w25
        refine tz_aload_n 0 rfl (zd DX8_slips 89 rfl) ?_
        refine tz_iload_n 1 rfl (zd DX8_slips 90 rfl) ?_
        refine tz_iload_n 2 rfl (zd DX8_slips 91 rfl) ?_
        refine tz_iload 5 rfl (zd DX8_slips 92 rfl) ?_
        refine tz_dia (P := fun F => ∀ v : Int32, Tz MX8_slips (zRet zi) (F v) 162 [(0, .ref 74), (1, .int x1), (2, .int x2), (4, .int x4), (5, .int x5), (6, .int v24)] (.int v :: [.int x1, .ref 74]) w25) ?_ (fun _ hJ162 => ?_)
        · intro v27
          refine tz_iload_n 2 rfl (zd DX8_slips 97 rfl) ?_
          refine tz_iload 3 rfl (zd DX8_slips 98 rfl) ?_
          refine tz_iconst (1 : Int32) zk_iconst_1 (zd DX8_slips 99 rfl) ?_
          refine tz_iadd (zd DX8_slips 100 rfl) ?_
          refine tz_cV_n kz8 (zs_74) rfl (rest := []) (YX8_makesAgain) wk_1155 (tX8_makesAgain x1 v27 x2 (x4 + (1 : Int32)) w25) rfl rfl (Nat.le_of_ble_eq_true rfl) ⟨Nat.le_of_ble_eq_true rfl, Nat.le_of_ble_eq_true rfl⟩ (zd DX8_slips 101 rfl) (fun v30 w28 e29 => ?_)
          refine tz_aload_n 0 rfl (zd DX8_slips 102 rfl) ?_
          refine tz_iload 4 rfl (zd DX8_slips 103 rfl) ?_
          refine tz_iload 3 rfl (zd DX8_slips 104 rfl) ?_
          refine tz_iconst (1 : Int32) zk_iconst_1 (zd DX8_slips 105 rfl) ?_
          refine tz_iadd (zd DX8_slips 106 rfl) ?_
          refine tz_cV_i kz8 (zs_74) rfl (rest := []) (YX8_tellsWork) wk_1119 (tX8_tellsWork x5 (x4 + (1 : Int32)) w28) rfl rfl (Nat.le_of_ble_eq_true rfl) ⟨Nat.le_of_ble_eq_true rfl, Nat.le_of_ble_eq_true rfl⟩ (zd DX8_slips 107 rfl) (fun v33 w31 e32 => ?_)
          exact tz_iret rfl (zd DX8_slips 108 rfl)
        refine tz_ite ?_
        refine tz_icmp_ge 161 (zd DX8_slips 93 rfl) rfl (fun q26 => ?_) (fun q26 => ?_)
        · refine tz_iconst (0 : Int32) zk_iconst_0 (zd DX8_slips 96 rfl) ?_
          exact hJ162 (0 : Int32)
        refine tz_iconst (1 : Int32) zk_iconst_1 (zd DX8_slips 94 rfl) ?_
        refine tz_goto 162 (zd DX8_slips 95 rfl) rfl ?_
        exact hJ162 (1 : Int32)
      refine tz_icmp_ge 135 (zd DX8_slips 67 rfl) rfl (fun q34 => ?_) (fun q34 => ?_)
      · refine tz_aload_n 1 rfl (zd DX8_slips 78 rfl) ?_
        refine tz_getR 83 18 kz8 (zs_74) (by decide) (by decide) rfl wk_875 (zd DX8_slips 79 rfl) ?_
        refine tz_iconst (2 : Int32) zk_iconst_2 (zd DX8_slips 80 rfl) ?_
        refine tz_iload_n 2 rfl (zd DX8_slips 81 rfl) ?_
        refine tz_imul (zd DX8_slips 82 rfl) ?_
        refine tz_iconst (1 : Int32) zk_iconst_1 (zd DX8_slips 83 rfl) ?_
        refine tz_iadd (zd DX8_slips 84 rfl) ?_
        refine tz_iload_n 3 rfl (zd DX8_slips 85 rfl) ?_
        refine tz_iload 0 rfl (zd DX8_slips 86 rfl) ?_
        refine tz_isub (zd DX8_slips 87 rfl) ?_
        refine tz_iast (zs_83.1) (zs_83.2) (zd DX8_slips 88 rfl) (fun w35 => ?_)
        refine tz_lv (lv2 := [(0, .ref 74), (1, .int x1), (2, .int x2), (4, .int x4), (5, .int x5), (6, .int v24)]) [1, 2, 3, 5, 6, 0] rfl ?_
        exact hj25 w35
      refine tz_aload_n 1 rfl (zd DX8_slips 68 rfl) ?_
      refine tz_getR 83 18 kz8 (zs_74) (by decide) (by decide) rfl wk_875 (zd DX8_slips 69 rfl) ?_
      refine tz_iconst (2 : Int32) zk_iconst_2 (zd DX8_slips 70 rfl) ?_
      refine tz_iload_n 2 rfl (zd DX8_slips 71 rfl) ?_
      refine tz_imul (zd DX8_slips 72 rfl) ?_
      refine tz_iload 0 rfl (zd DX8_slips 73 rfl) ?_
      refine tz_iload_n 3 rfl (zd DX8_slips 74 rfl) ?_
      refine tz_isub (zd DX8_slips 75 rfl) ?_
      refine tz_iast (zs_83.1) (zs_83.2) (zd DX8_slips 76 rfl) (fun w36 => ?_)
      refine tz_goto 149 (zd DX8_slips 77 rfl) rfl ?_
      refine tz_lv (lv2 := [(0, .ref 74), (1, .int x1), (2, .int x2), (4, .int x4), (5, .int x5), (6, .int v24)]) [1, 2, 3, 5, 6, 0] rfl ?_
      exact hj25 w36
    refine tz_aload_n 0 rfl (zd DX8_slips 41 rfl) ?_
    refine tz_getR 88 25 kz8 (zs_74) (by decide) (by decide) rfl wk_882 (zd DX8_slips 42 rfl) ?_
    refine tz_iload 6 rfl (zd DX8_slips 43 rfl) ?_
    refine tz_aload_n 0 rfl (zd DX8_slips 44 rfl) ?_
    refine tz_getR 88 25 kz8 (zs_74) (by decide) (by decide) rfl wk_882 (zd DX8_slips 45 rfl) ?_
    refine tz_iload 6 rfl (zd DX8_slips 46 rfl) ?_
    refine tz_iconst (1 : Int32) zk_iconst_1 (zd DX8_slips 47 rfl) ?_
    refine tz_isub (zd DX8_slips 48 rfl) ?_
    refine tz_iald (zs_88.1) (zs_88.2) (zd DX8_slips 49 rfl) ?_
    refine tz_iast (zs_88.1) (zs_88.2) (zd DX8_slips 50 rfl) (fun w37 => ?_)
    refine tz_iinc 6 (-1 : Int32) [(6, .int (x6 + (-1 : Int32))), (0, .ref 74), (1, .int x1), (2, .int x2), (3, .int x3), (4, .int x4), (5, .int x5)] rfl zk_iconst_m1 (Nat.le_of_ble_eq_true rfl) rfl (zd DX8_slips 51 rfl) ?_
    refine tz_goto 69 (zd DX8_slips 52 rfl) rfl ?_
    refine tz_lv (lv2 := [(0, .ref 74), (1, .int x1), (2, .int x2), (3, .int x3), (4, .int x4), (5, .int x5), (6, .int (x6 + (-1 : Int32)))]) [1, 2, 3, 4, 5, 6, 0] rfl ?_
    exact ih (x6 + (-1 : Int32)) w37
set_option maxHeartbeats 4000000 in
set_option maxRecDepth 100000 in
theorem tX8_slips (a1 : Int32) (a2 : Int32) (a3 : Int32) (w : zW) : Sm yX8_slips MX8_slips zi [.ref 74, .int a1, .int a2, .int a3] w (fX8_slips a1 a2 a3 w) := by
  refine Sm_of (lv0 := [(0, .ref 74), (1, .int a1), (2, .int a2), (3, .int a3)]) (by decide) rfl (fun _ => Nat.le_of_ble_eq_true rfl) rfl ?_
  unfold fX8_slips
  refine tz_aload_n 0 rfl (zd DX8_slips 0 rfl) ?_
  refine tz_iconst (0 : Int32) zk_iconst_0 (zd DX8_slips 1 rfl) ?_
  refine tz_putI 0 kz8 (zs_74) (by decide) rfl rfl wk_857 (zd DX8_slips 2 rfl) (fun w1 => ?_)
  refine tz_iload_n 1 rfl (zd DX8_slips 3 rfl) ?_
  refine tz_cS_z (rest := []) (YX8_isLine) wk_1104 (tX8_isLine a1 w1) rfl rfl (Nat.le_of_ble_eq_true rfl) ⟨Nat.le_of_ble_eq_true rfl, Nat.le_of_ble_eq_true rfl⟩ (zd DX8_slips 4 rfl) (fun b4 w2 e3 => ?_)
  refine tz_bif_eq 19 (zd DX8_slips 5 rfl) rfl (fun q5 => ?_) (fun q5 => ?_)
  · refine tz_iload_n 3 rfl (zd DX8_slips 6 rfl) ?_
    refine tz_cS_z (rest := []) (YX8_isItem) wk_958 (tX8_isItem a3 w2) rfl rfl (Nat.le_of_ble_eq_true rfl) ⟨Nat.le_of_ble_eq_true rfl, Nat.le_of_ble_eq_true rfl⟩ (zd DX8_slips 7 rfl) (fun b8 w6 e7 => ?_)
    refine tz_bif_ne 21 (zd DX8_slips 8 rfl) rfl (fun q9 => ?_) (fun q9 => ?_)
    · refine tz_aload_n 0 rfl (zd DX8_slips 11 rfl) ?_
      refine tz_iload_n 1 rfl (zd DX8_slips 12 rfl) ?_
      refine tz_cV_i kz8 (zs_74) rfl (rest := []) (YX8_sizeOf) wk_1042 (tX8_sizeOf a1 w6) rfl rfl (Nat.le_of_ble_eq_true rfl) ⟨Nat.le_of_ble_eq_true rfl, Nat.le_of_ble_eq_true rfl⟩ (zd DX8_slips 13 rfl) (fun v12 w10 e11 => ?_)
      refine tz_istore [(4, .int v12), (0, .ref 74), (1, .int a1), (2, .int a2), (3, .int a3)] (Nat.le_of_ble_eq_true rfl) rfl (zd DX8_slips 14 rfl) ?_
      refine tz_iload_n 3 rfl (zd DX8_slips 15 rfl) ?_
      refine tz_i2l (zd DX8_slips 16 rfl) ?_
      refine tz_lconst (0 : Int64) rfl (zd DX8_slips 17 rfl) ?_
      refine tz_iload 0 rfl (zd DX8_slips 18 rfl) ?_
      refine tz_i2l (zd DX8_slips 19 rfl) ?_
      refine tz_cS_z (rest := []) (YX8_in) wk_848 (tX8_in (a2).toInt64 (0 : Int64) (v12).toInt64 w10) rfl rfl (Nat.le_of_ble_eq_true rfl) ⟨Nat.le_of_ble_eq_true rfl, Nat.le_of_ble_eq_true rfl⟩ (zd DX8_slips 20 rfl) (fun b15 w13 e14 => ?_)
      refine tz_bif_ne 43 (zd DX8_slips 21 rfl) rfl (fun q16 => ?_) (fun q16 => ?_)
      · refine tz_iload 0 rfl (zd DX8_slips 24 rfl) ?_
        refine tz_bipush (64 : Int32) zk_bipush_64 (zd DX8_slips 25 rfl) ?_
        refine tz_icmp_ne 53 (zd DX8_slips 26 rfl) rfl (fun q17 => ?_) (fun q17 => ?_)
        · refine tz_aload_n 1 rfl (zd DX8_slips 29 rfl) ?_
          refine tz_getI 23 kz8 (zs_74) (by decide) rfl wk_880 (zd DX8_slips 30 rfl) ?_
          refine tz_lti (fun v18 => ?_)
          refine tz_istore [(5, .int v18), (4, .int v12), (0, .ref 74), (1, .int a1), (2, .int a2), (3, .int a3)] (Nat.le_of_ble_eq_true rfl) rfl (zd DX8_slips 31 rfl) ?_
          refine tz_aload_n 2 rfl (zd DX8_slips 32 rfl) ?_
          refine tz_iload_n 3 rfl (zd DX8_slips 33 rfl) ?_
          refine tz_cV_i kz8 (zs_74) rfl (rest := []) (YX8_takesItems) wk_1038 (tX8_takesItems a1 w13) rfl rfl (Nat.le_of_ble_eq_true rfl) ⟨Nat.le_of_ble_eq_true rfl, Nat.le_of_ble_eq_true rfl⟩ (zd DX8_slips 34 rfl) (fun v21 w19 e20 => ?_)
          refine tz_popi (zd DX8_slips 35 rfl) ?_
          refine tz_iload 1 rfl (zd DX8_slips 36 rfl) ?_
          refine tz_istore [(6, .int v12), (5, .int v18), (4, .int v12), (0, .ref 74), (1, .int a1), (2, .int a2), (3, .int a3)] (Nat.le_of_ble_eq_true rfl) rfl (zd DX8_slips 37 rfl) ?_
          refine tz_lv (lv2 := [(0, .ref 74), (1, .int a1), (2, .int a2), (3, .int a3), (4, .int v12), (5, .int v18), (6, .int v12)]) [3, 4, 5, 6, 2, 1, 0] rfl ?_
          exact lX8_slips_L69 a1 a2 a3 v12 v18 zFU v12 w19
        refine tz_bipush (-3 : Int32) zk_bipush_m3 (zd DX8_slips 27 rfl) ?_
        exact tz_iret rfl (zd DX8_slips 28 rfl)
      refine tz_bipush (-2 : Int32) zk_bipush_m2 (zd DX8_slips 22 rfl) ?_
      exact tz_iret rfl (zd DX8_slips 23 rfl)
    refine tz_iconst (-1 : Int32) zk_iconst_m1 (zd DX8_slips 9 rfl) ?_
    exact tz_iret rfl (zd DX8_slips 10 rfl)
  refine tz_iconst (-1 : Int32) zk_iconst_m1 (zd DX8_slips 9 rfl) ?_
  exact tz_iret rfl (zd DX8_slips 10 rfl)
def QX8_drops : List (Nat × Instr × Nat) := [(0, .aload_n 0, 1), (1, .iconst 0, 1), (2, .putfield 1, 3), (5, .iload_n 1, 1), (6, .invokestatic 237, 3), (9, .ifCond .ne 5, 3), (12, .iconst (-1), 1), (13, .ireturn, 1), (14, .aload_n 0, 1), (15, .iload_n 1, 1), (16, .iload_n 2, 1), (17, .invokevirtual 255, 3), (20, .ifCond .ne 6, 3), (23, .bipush (-2), 2), (25, .ireturn, 1), (26, .aload_n 0, 1), (27, .getfield 184, 3), (30, .istore_n 3, 1), (31, .aload_n 0, 1), (32, .iload_n 1, 1), (33, .iload_n 2, 1), (34, .invokevirtual 190, 3), (37, .istore 4, 2), (39, .aload_n 0, 1), (40, .iload_n 1, 1), (41, .invokevirtual 196, 3), (44, .istore 5, 2), (46, .aload_n 0, 1), (47, .getfield 66, 3), (50, .iconst 2, 1), (51, .iload_n 1, 1), (52, .imul, 1), (53, .iaload, 1), (54, .istore 6, 2), (56, .iload_n 2, 1), (57, .istore 7, 2), (59, .iload 7, 2), (61, .iconst 1, 1), (62, .iadd, 1), (63, .iload 5, 2), (65, .if_icmp .ge 25, 3), (68, .aload_n 0, 1), (69, .getfield 81, 3), (72, .iload 7, 2), (74, .aload_n 0, 1), (75, .getfield 81, 3), (78, .iload 7, 2), (80, .iconst 1, 1), (81, .iadd, 1), (82, .iaload, 1), (83, .iastore, 1), (84, .iinc 7 1, 3), (87, .goto (-28), 3), (90, .iload_n 2, 1), (91, .iload 6, 2), (93, .if_icmp .ge 33, 3), (96, .aload_n 0, 1), (97, .getfield 66, 3), (100, .iconst 2, 1), (101, .iload_n 1, 1), (102, .imul, 1), (103, .iload 6, 2), (105, .iconst 1, 1), (106, .isub, 1), (107, .iload_n 2, 1), (108, .isub, 1), (109, .iastore, 1), (110, .aload_n 0, 1), (111, .iload_n 1, 1), (112, .iconst 1, 1), (113, .iload_n 2, 1), (114, .iconst 1, 1), (115, .isub, 1), (116, .iload 5, 2), (118, .iconst 1, 1), (119, .isub, 1), (120, .invokevirtual 259, 3), (123, .goto 28, 3), (126, .aload_n 0, 1), (127, .getfield 66, 3), (130, .iconst 2, 1), (131, .iload_n 1, 1), (132, .imul, 1), (133, .iconst 1, 1), (134, .iadd, 1), (135, .iload_n 2, 1), (136, .iload 6, 2), (138, .isub, 1), (139, .iastore, 1), (140, .aload_n 0, 1), (141, .iload_n 1, 1), (142, .iconst 0, 1), (143, .iload_n 2, 1), (144, .iload 5, 2), (146, .iconst 1, 1), (147, .isub, 1), (148, .invokevirtual 259, 3), (151, .aload_n 0, 1), (152, .iload_n 3, 1), (153, .iload 4, 2), (155, .invokevirtual 246, 3), (158, .ireturn, 1)]
set_option maxRecDepth 100000 in
theorem DX8_drops : ∀ q ∈ QX8_drops, decode cX8_drops q.1 = .ok (q.2.1, q.2.2) := by decide +kernel
abbrev MX8_drops : zM := (cX8_drops, "EndSumsModel", 8, (some .int), { frames := 6, cells := 0, slots := 0, locals := 153 })
def fX8_drops_L59 (x1 : Int32) (x2 : Int32) (x3 : Int32) (x4 : Int32) (x5 : Int32) (x6 : Int32) : Nat → Int32 → zW → Option (Int32 × zW)
  | 0, _, _ => none
  | n + 1, x7, w =>
    if x5 ≤ (x7 + (1 : Int32)) then
      lt (fun (w19 : zW) =>
        bd (fX8_tellsWork x3 x4 w19) fun v22 w20 =>
        some (v22, w20)) fun j19 =>
      if x6 ≤ x2 then
        zg (zin (((2 : Int32) * x1) + (1 : Int32)) 10) <| lt (zsI w 83 (((2 : Int32) * x1) + (1 : Int32)).toNatClampNeg (x2 - x6)) fun w24 =>
        bd (fX8_makesAgain x1 (0 : Int32) x2 (x5 - (1 : Int32)) w24) fun _ w25 =>
        j19 w25
      else
      zg (zin ((2 : Int32) * x1) 10) <| lt (zsI w 83 ((2 : Int32) * x1).toNatClampNeg ((x6 - (1 : Int32)) - x2)) fun w28 =>
      bd (fX8_makesAgain x1 (1 : Int32) (x2 - (1 : Int32)) (x5 - (1 : Int32)) w28) fun _ w29 =>
      j19 w29
    else
    zg (zin (x7 + (1 : Int32)) 65) <|
    zg (zin x7 65) <| lt (zsI w 88 x7.toNatClampNeg (zI w 88 (x7 + (1 : Int32)).toNatClampNeg)) fun w32 =>
    fX8_drops_L59 x1 x2 x3 x4 x5 x6 n (x7 + (1 : Int32)) w32
def fX8_drops (a1 : Int32) (a2 : Int32) (w : zW) : Option (Int32 × zW) :=
  lt (zsI w 74 0 (0 : Int32)) fun w1 =>
  bd (fX8_isLine a1 w1) fun b4 w2 =>
  if b4 = true then
    bd (fX8_isAt a1 a2 w2) fun b8 w6 =>
    if b8 = true then
      lt (zI w6 74 23) fun v10 =>
      bd (fX8_itemAt a1 a2 w6) fun v13 w11 =>
      bd (fX8_takesItems a1 w11) fun v16 w14 =>
      zg (zin ((2 : Int32) * a1) 10) <|
      lt (zI w14 83 ((2 : Int32) * a1).toNatClampNeg) fun v17 =>
      fX8_drops_L59 a1 a2 v10 v13 v16 v17 zFU a2 w14
    else
    some ((-2 : Int32), w6)
  else
  some ((-1 : Int32), w2)
theorem YX8_drops : zYV yX8_drops MX8_drops 2 := ⟨wk_1166, wk_9, ⟨wk_1164, wk_1165⟩, ⟨by decide, by decide, by decide +kernel⟩, rfl, rfl⟩
set_option maxHeartbeats 4000000 in
set_option maxRecDepth 100000 in
theorem lX8_drops_L59 (x1 : Int32) (x2 : Int32) (x3 : Int32) (x4 : Int32) (x5 : Int32) (x6 : Int32) : ∀ (n : Nat) (x7 : Int32) (w : zW), Tz MX8_drops (zRet zi) (fX8_drops_L59 x1 x2 x3 x4 x5 x6 n x7 w) 59 [(0, .ref 74), (1, .int x1), (2, .int x2), (3, .int x3), (4, .int x4), (5, .int x5), (6, .int x6), (7, .int x7)] [] w := by
  intro n
  induction n with
  | zero => intro x7 w; exact tz_eq (fX8_drops_L59.eq_1 _ _ _ _ _ _ _ _) tz_none
  | succ n ih =>
    intro x7 w
    refine tz_eq (fX8_drops_L59.eq_2 _ _ _ _ _ _ _ _ _) ?_
    refine tz_iload 7 rfl (zd DX8_drops 36 rfl) ?_
    refine tz_iconst (1 : Int32) zk_iconst_1 (zd DX8_drops 37 rfl) ?_
    refine tz_iadd (zd DX8_drops 38 rfl) ?_
    refine tz_iload 5 rfl (zd DX8_drops 39 rfl) ?_
    refine tz_icmp_ge 90 (zd DX8_drops 40 rfl) rfl (fun q18 => ?_) (fun q18 => ?_)
    · refine tz_iload_n 2 rfl (zd DX8_drops 53 rfl) ?_
      refine tz_iload 6 rfl (zd DX8_drops 54 rfl) ?_
      refine tz_jp (P := fun j => ∀ (w19 : zW), Tz MX8_drops (zRet zi) (j w19) 151 [(0, .ref 74), (3, .int x3), (4, .int x4)] [] w19) ?_ (fun j19 hj19 => ?_)
      · intro w19
        refine tz_aload_n 0 rfl (zd DX8_drops 97 rfl) ?_
        refine tz_iload_n 1 rfl (zd DX8_drops 98 rfl) ?_
        refine tz_iload 2 rfl (zd DX8_drops 99 rfl) ?_
        refine tz_cV_i kz8 (zs_74) rfl (rest := []) (YX8_tellsWork) wk_1119 (tX8_tellsWork x3 x4 w19) rfl rfl (Nat.le_of_ble_eq_true rfl) ⟨Nat.le_of_ble_eq_true rfl, Nat.le_of_ble_eq_true rfl⟩ (zd DX8_drops 100 rfl) (fun v22 w20 e21 => ?_)
        exact tz_iret rfl (zd DX8_drops 101 rfl)
      refine tz_icmp_ge 126 (zd DX8_drops 55 rfl) rfl (fun q23 => ?_) (fun q23 => ?_)
      · refine tz_aload_n 0 rfl (zd DX8_drops 78 rfl) ?_
        refine tz_getR 83 18 kz8 (zs_74) (by decide) (by decide) rfl wk_875 (zd DX8_drops 79 rfl) ?_
        refine tz_iconst (2 : Int32) zk_iconst_2 (zd DX8_drops 80 rfl) ?_
        refine tz_iload_n 1 rfl (zd DX8_drops 81 rfl) ?_
        refine tz_imul (zd DX8_drops 82 rfl) ?_
        refine tz_iconst (1 : Int32) zk_iconst_1 (zd DX8_drops 83 rfl) ?_
        refine tz_iadd (zd DX8_drops 84 rfl) ?_
        refine tz_iload_n 2 rfl (zd DX8_drops 85 rfl) ?_
        refine tz_iload 6 rfl (zd DX8_drops 86 rfl) ?_
        refine tz_isub (zd DX8_drops 87 rfl) ?_
        refine tz_iast (zs_83.1) (zs_83.2) (zd DX8_drops 88 rfl) (fun w24 => ?_)
        refine tz_aload_n 0 rfl (zd DX8_drops 89 rfl) ?_
        refine tz_iload_n 1 rfl (zd DX8_drops 90 rfl) ?_
        refine tz_iconst (0 : Int32) zk_iconst_0 (zd DX8_drops 91 rfl) ?_
        refine tz_iload_n 2 rfl (zd DX8_drops 92 rfl) ?_
        refine tz_iload 5 rfl (zd DX8_drops 93 rfl) ?_
        refine tz_iconst (1 : Int32) zk_iconst_1 (zd DX8_drops 94 rfl) ?_
        refine tz_isub (zd DX8_drops 95 rfl) ?_
        refine tz_cV_n kz8 (zs_74) rfl (rest := []) (YX8_makesAgain) wk_1155 (tX8_makesAgain x1 (0 : Int32) x2 (x5 - (1 : Int32)) w24) rfl rfl (Nat.le_of_ble_eq_true rfl) ⟨Nat.le_of_ble_eq_true rfl, Nat.le_of_ble_eq_true rfl⟩ (zd DX8_drops 96 rfl) (fun v27 w25 e26 => ?_)
        refine tz_lv (lv2 := [(0, .ref 74), (3, .int x3), (4, .int x4)]) [0, 3, 4] rfl ?_
        exact hj19 w25
      refine tz_aload_n 0 rfl (zd DX8_drops 56 rfl) ?_
      refine tz_getR 83 18 kz8 (zs_74) (by decide) (by decide) rfl wk_875 (zd DX8_drops 57 rfl) ?_
      refine tz_iconst (2 : Int32) zk_iconst_2 (zd DX8_drops 58 rfl) ?_
      refine tz_iload_n 1 rfl (zd DX8_drops 59 rfl) ?_
      refine tz_imul (zd DX8_drops 60 rfl) ?_
      refine tz_iload 6 rfl (zd DX8_drops 61 rfl) ?_
      refine tz_iconst (1 : Int32) zk_iconst_1 (zd DX8_drops 62 rfl) ?_
      refine tz_isub (zd DX8_drops 63 rfl) ?_
      refine tz_iload_n 2 rfl (zd DX8_drops 64 rfl) ?_
      refine tz_isub (zd DX8_drops 65 rfl) ?_
      refine tz_iast (zs_83.1) (zs_83.2) (zd DX8_drops 66 rfl) (fun w28 => ?_)
      refine tz_aload_n 0 rfl (zd DX8_drops 67 rfl) ?_
      refine tz_iload_n 1 rfl (zd DX8_drops 68 rfl) ?_
      refine tz_iconst (1 : Int32) zk_iconst_1 (zd DX8_drops 69 rfl) ?_
      refine tz_iload_n 2 rfl (zd DX8_drops 70 rfl) ?_
      refine tz_iconst (1 : Int32) zk_iconst_1 (zd DX8_drops 71 rfl) ?_
      refine tz_isub (zd DX8_drops 72 rfl) ?_
      refine tz_iload 5 rfl (zd DX8_drops 73 rfl) ?_
      refine tz_iconst (1 : Int32) zk_iconst_1 (zd DX8_drops 74 rfl) ?_
      refine tz_isub (zd DX8_drops 75 rfl) ?_
      refine tz_cV_n kz8 (zs_74) rfl (rest := []) (YX8_makesAgain) wk_1155 (tX8_makesAgain x1 (1 : Int32) (x2 - (1 : Int32)) (x5 - (1 : Int32)) w28) rfl rfl (Nat.le_of_ble_eq_true rfl) ⟨Nat.le_of_ble_eq_true rfl, Nat.le_of_ble_eq_true rfl⟩ (zd DX8_drops 76 rfl) (fun v31 w29 e30 => ?_)
      refine tz_goto 151 (zd DX8_drops 77 rfl) rfl ?_
      refine tz_lv (lv2 := [(0, .ref 74), (3, .int x3), (4, .int x4)]) [0, 3, 4] rfl ?_
      exact hj19 w29
    refine tz_aload_n 0 rfl (zd DX8_drops 41 rfl) ?_
    refine tz_getR 88 25 kz8 (zs_74) (by decide) (by decide) rfl wk_882 (zd DX8_drops 42 rfl) ?_
    refine tz_iload 7 rfl (zd DX8_drops 43 rfl) ?_
    refine tz_aload_n 0 rfl (zd DX8_drops 44 rfl) ?_
    refine tz_getR 88 25 kz8 (zs_74) (by decide) (by decide) rfl wk_882 (zd DX8_drops 45 rfl) ?_
    refine tz_iload 7 rfl (zd DX8_drops 46 rfl) ?_
    refine tz_iconst (1 : Int32) zk_iconst_1 (zd DX8_drops 47 rfl) ?_
    refine tz_iadd (zd DX8_drops 48 rfl) ?_
    refine tz_iald (zs_88.1) (zs_88.2) (zd DX8_drops 49 rfl) ?_
    refine tz_iast (zs_88.1) (zs_88.2) (zd DX8_drops 50 rfl) (fun w32 => ?_)
    refine tz_iinc 7 (1 : Int32) [(7, .int (x7 + (1 : Int32))), (0, .ref 74), (1, .int x1), (2, .int x2), (3, .int x3), (4, .int x4), (5, .int x5), (6, .int x6)] rfl zk_iconst_1 (Nat.le_of_ble_eq_true rfl) rfl (zd DX8_drops 51 rfl) ?_
    refine tz_goto 59 (zd DX8_drops 52 rfl) rfl ?_
    refine tz_lv (lv2 := [(0, .ref 74), (1, .int x1), (2, .int x2), (3, .int x3), (4, .int x4), (5, .int x5), (6, .int x6), (7, .int (x7 + (1 : Int32)))]) [1, 2, 3, 4, 5, 6, 7, 0] rfl ?_
    exact ih (x7 + (1 : Int32)) w32
set_option maxHeartbeats 4000000 in
set_option maxRecDepth 100000 in
theorem tX8_drops (a1 : Int32) (a2 : Int32) (w : zW) : Sm yX8_drops MX8_drops zi [.ref 74, .int a1, .int a2] w (fX8_drops a1 a2 w) := by
  refine Sm_of (lv0 := [(0, .ref 74), (1, .int a1), (2, .int a2)]) (by decide) rfl (fun _ => Nat.le_of_ble_eq_true rfl) rfl ?_
  unfold fX8_drops
  refine tz_aload_n 0 rfl (zd DX8_drops 0 rfl) ?_
  refine tz_iconst (0 : Int32) zk_iconst_0 (zd DX8_drops 1 rfl) ?_
  refine tz_putI 0 kz8 (zs_74) (by decide) rfl rfl wk_857 (zd DX8_drops 2 rfl) (fun w1 => ?_)
  refine tz_iload_n 1 rfl (zd DX8_drops 3 rfl) ?_
  refine tz_cS_z (rest := []) (YX8_isLine) wk_1104 (tX8_isLine a1 w1) rfl rfl (Nat.le_of_ble_eq_true rfl) ⟨Nat.le_of_ble_eq_true rfl, Nat.le_of_ble_eq_true rfl⟩ (zd DX8_drops 4 rfl) (fun b4 w2 e3 => ?_)
  refine tz_bif_ne 14 (zd DX8_drops 5 rfl) rfl (fun q5 => ?_) (fun q5 => ?_)
  · refine tz_aload_n 0 rfl (zd DX8_drops 8 rfl) ?_
    refine tz_iload_n 1 rfl (zd DX8_drops 9 rfl) ?_
    refine tz_iload_n 2 rfl (zd DX8_drops 10 rfl) ?_
    refine tz_cV_z kz8 (zs_74) rfl (rest := []) (YX8_isAt) wk_1151 (tX8_isAt a1 a2 w2) rfl rfl (Nat.le_of_ble_eq_true rfl) ⟨Nat.le_of_ble_eq_true rfl, Nat.le_of_ble_eq_true rfl⟩ (zd DX8_drops 11 rfl) (fun b8 w6 e7 => ?_)
    refine tz_bif_ne 26 (zd DX8_drops 12 rfl) rfl (fun q9 => ?_) (fun q9 => ?_)
    · refine tz_aload_n 0 rfl (zd DX8_drops 15 rfl) ?_
      refine tz_getI 23 kz8 (zs_74) (by decide) rfl wk_880 (zd DX8_drops 16 rfl) ?_
      refine tz_lti (fun v10 => ?_)
      refine tz_istore_n [(3, .int v10), (0, .ref 74), (1, .int a1), (2, .int a2)] (Nat.le_of_ble_eq_true rfl) rfl (zd DX8_drops 17 rfl) ?_
      refine tz_aload_n 1 rfl (zd DX8_drops 18 rfl) ?_
      refine tz_iload_n 2 rfl (zd DX8_drops 19 rfl) ?_
      refine tz_iload_n 3 rfl (zd DX8_drops 20 rfl) ?_
      refine tz_cV_i kz8 (zs_74) rfl (rest := []) (YX8_itemAt) wk_1046 (tX8_itemAt a1 a2 w6) rfl rfl (Nat.le_of_ble_eq_true rfl) ⟨Nat.le_of_ble_eq_true rfl, Nat.le_of_ble_eq_true rfl⟩ (zd DX8_drops 21 rfl) (fun v13 w11 e12 => ?_)
      refine tz_istore [(4, .int v13), (3, .int v10), (0, .ref 74), (1, .int a1), (2, .int a2)] (Nat.le_of_ble_eq_true rfl) rfl (zd DX8_drops 22 rfl) ?_
      refine tz_aload_n 2 rfl (zd DX8_drops 23 rfl) ?_
      refine tz_iload_n 3 rfl (zd DX8_drops 24 rfl) ?_
      refine tz_cV_i kz8 (zs_74) rfl (rest := []) (YX8_takesItems) wk_1038 (tX8_takesItems a1 w11) rfl rfl (Nat.le_of_ble_eq_true rfl) ⟨Nat.le_of_ble_eq_true rfl, Nat.le_of_ble_eq_true rfl⟩ (zd DX8_drops 25 rfl) (fun v16 w14 e15 => ?_)
      refine tz_istore [(5, .int v16), (4, .int v13), (3, .int v10), (0, .ref 74), (1, .int a1), (2, .int a2)] (Nat.le_of_ble_eq_true rfl) rfl (zd DX8_drops 26 rfl) ?_
      refine tz_aload_n 3 rfl (zd DX8_drops 27 rfl) ?_
      refine tz_getR 83 18 kz8 (zs_74) (by decide) (by decide) rfl wk_875 (zd DX8_drops 28 rfl) ?_
      refine tz_iconst (2 : Int32) zk_iconst_2 (zd DX8_drops 29 rfl) ?_
      refine tz_iload_n 4 rfl (zd DX8_drops 30 rfl) ?_
      refine tz_imul (zd DX8_drops 31 rfl) ?_
      refine tz_iald (zs_83.1) (zs_83.2) (zd DX8_drops 32 rfl) ?_
      refine tz_lti (fun v17 => ?_)
      refine tz_istore [(6, .int v17), (5, .int v16), (4, .int v13), (3, .int v10), (0, .ref 74), (1, .int a1), (2, .int a2)] (Nat.le_of_ble_eq_true rfl) rfl (zd DX8_drops 33 rfl) ?_
      refine tz_iload_n 6 rfl (zd DX8_drops 34 rfl) ?_
      refine tz_istore [(7, .int a2), (6, .int v17), (5, .int v16), (4, .int v13), (3, .int v10), (0, .ref 74), (1, .int a1), (2, .int a2)] (Nat.le_of_ble_eq_true rfl) rfl (zd DX8_drops 35 rfl) ?_
      refine tz_lv (lv2 := [(0, .ref 74), (1, .int a1), (2, .int a2), (3, .int v10), (4, .int v13), (5, .int v16), (6, .int v17), (7, .int a2)]) [5, 6, 7, 4, 3, 2, 1, 0] rfl ?_
      exact lX8_drops_L59 a1 a2 v10 v13 v16 v17 zFU a2 w14
    refine tz_bipush (-2 : Int32) zk_bipush_m2 (zd DX8_drops 13 rfl) ?_
    exact tz_iret rfl (zd DX8_drops 14 rfl)
  refine tz_iconst (-1 : Int32) zk_iconst_m1 (zd DX8_drops 6 rfl) ?_
  exact tz_iret rfl (zd DX8_drops 7 rfl)
def QX8_summary : List (Nat × Instr × Nat) := [(0, .aload_n 0, 1), (1, .getfield 66, 3), (4, .iconst 2, 1), (5, .iload_n 1, 1), (6, .imul, 1), (7, .iaload, 1), (8, .istore_n 2, 1), (9, .aload_n 0, 1), (10, .getfield 66, 3), (13, .iconst 2, 1), (14, .iload_n 1, 1), (15, .imul, 1), (16, .iconst 1, 1), (17, .iadd, 1), (18, .iaload, 1), (19, .istore_n 3, 1), (20, .iconst 2, 1), (21, .iload_n 1, 1), (22, .imul, 1), (23, .iload_n 2, 1), (24, .iconst 1, 1), (25, .isub, 1), (26, .invokestatic 178, 3), (29, .istore 4, 2), (31, .iconst 2, 1), (32, .iload_n 1, 1), (33, .imul, 1), (34, .iconst 1, 1), (35, .iadd, 1), (36, .iload_n 3, 1), (37, .iconst 1, 1), (38, .isub, 1), (39, .invokestatic 178, 3), (42, .istore 5, 2), (44, .iload_n 2, 1), (45, .ifCond .ne 14, 3), (48, .iload_n 3, 1), (49, .ifCond .ne 10, 3), (52, .aload_n 0, 1), (53, .invokevirtual 168, 3), (56, .goto 85, 3), (59, .iload_n 2, 1), (60, .ifCond .ne 24, 3), (63, .aload_n 0, 1), (64, .aload_n 0, 1), (65, .getfield 75, 3), (68, .iload 5, 2), (70, .laload, 1), (71, .aload_n 0, 1), (72, .getfield 78, 3), (75, .iload 5, 2), (77, .laload, 1), (78, .invokevirtual 107, 3), (81, .goto 60, 3), (84, .iload_n 3, 1), (85, .ifCond .ne 24, 3), (88, .aload_n 0, 1), (89, .aload_n 0, 1), (90, .getfield 75, 3), (93, .iload 4, 2), (95, .laload, 1), (96, .aload_n 0, 1), (97, .getfield 78, 3), (100, .iload 4, 2), (102, .laload, 1), (103, .invokevirtual 107, 3), (106, .goto 35, 3), (109, .aload_n 0, 1), (110, .aload_n 0, 1), (111, .getfield 75, 3), (114, .iload 4, 2), (116, .laload, 1), (117, .aload_n 0, 1), (118, .getfield 78, 3), (121, .iload 4, 2), (123, .laload, 1), (124, .aload_n 0, 1), (125, .getfield 75, 3), (128, .iload 5, 2), (130, .laload, 1), (131, .aload_n 0, 1), (132, .getfield 78, 3), (135, .iload 5, 2), (137, .laload, 1), (138, .invokevirtual 152, 3), (141, .return_, 1)]
set_option maxRecDepth 100000 in
theorem DX8_summary : ∀ q ∈ QX8_summary, decode cX8_summary q.1 = .ok (q.2.1, q.2.2) := by decide +kernel
abbrev MX8_summary : zM := (cX8_summary, "EndSumsModel", 6, none, { frames := 4, cells := 0, slots := 0, locals := 100 })
def fX8_summary (a1 : Int32) (w : zW) : Option (Unit × zW) :=
  zg (zin ((2 : Int32) * a1) 10) <|
  lt (zI w 83 ((2 : Int32) * a1).toNatClampNeg) fun v1 =>
  zg (zin (((2 : Int32) * a1) + (1 : Int32)) 10) <|
  lt (zI w 83 (((2 : Int32) * a1) + (1 : Int32)).toNatClampNeg) fun v2 =>
  bd (fX8_place ((2 : Int32) * a1) (v1 - (1 : Int32)) w) fun v5 w3 =>
  bd (fX8_place (((2 : Int32) * a1) + (1 : Int32)) (v2 - (1 : Int32)) w3) fun v8 w6 =>
  lt (fun (w9 : zW) =>
    if ¬ v1 = (0 : Int32) then
      if ¬ v2 = (0 : Int32) then
        zg (zin v5 640) <|
        zg (zin v5 640) <|
        zg (zin v8 640) <|
        zg (zin v8 640) <|
        bd (fX8_join (zL w9 86 v5.toNatClampNeg) (zL w9 87 v5.toNatClampNeg) (zL w9 86 v8.toNatClampNeg) (zL w9 87 v8.toNatClampNeg) w9) fun _ w12 =>
        some ((), w12)
      else
      zg (zin v5 640) <|
      zg (zin v5 640) <|
      bd (fX8_is (zL w9 86 v5.toNatClampNeg) (zL w9 87 v5.toNatClampNeg) w9) fun _ w15 =>
      some ((), w15)
    else
    zg (zin v8 640) <|
    zg (zin v8 640) <|
    bd (fX8_is (zL w9 86 v8.toNatClampNeg) (zL w9 87 v8.toNatClampNeg) w9) fun _ w18 =>
    some ((), w18)) fun j9 =>
  if ¬ v1 = (0 : Int32) then
    j9 w6
  else
  if ¬ v2 = (0 : Int32) then
    j9 w6
  else
  bd (fX8_empty w6) fun _ w23 =>
  some ((), w23)
theorem YX8_summary : zYV yX8_summary MX8_summary 1 := ⟨wk_1179, wk_9, ⟨wk_1178, ws_106⟩, ⟨by decide, by decide, by decide +kernel⟩, rfl, rfl⟩
set_option maxHeartbeats 4000000 in
set_option maxRecDepth 100000 in
theorem tX8_summary (a1 : Int32) (w : zW) : Sm yX8_summary MX8_summary zn [.ref 74, .int a1] w (fX8_summary a1 w) := by
  refine Sm_of (lv0 := [(0, .ref 74), (1, .int a1)]) (by decide) rfl (fun _ => Nat.le_of_ble_eq_true rfl) rfl ?_
  unfold fX8_summary
  refine tz_aload_n 0 rfl (zd DX8_summary 0 rfl) ?_
  refine tz_getR 83 18 kz8 (zs_74) (by decide) (by decide) rfl wk_875 (zd DX8_summary 1 rfl) ?_
  refine tz_iconst (2 : Int32) zk_iconst_2 (zd DX8_summary 2 rfl) ?_
  refine tz_iload_n 1 rfl (zd DX8_summary 3 rfl) ?_
  refine tz_imul (zd DX8_summary 4 rfl) ?_
  refine tz_iald (zs_83.1) (zs_83.2) (zd DX8_summary 5 rfl) ?_
  refine tz_lti (fun v1 => ?_)
  refine tz_istore_n [(2, .int v1), (0, .ref 74), (1, .int a1)] (Nat.le_of_ble_eq_true rfl) rfl (zd DX8_summary 6 rfl) ?_
  refine tz_aload_n 1 rfl (zd DX8_summary 7 rfl) ?_
  refine tz_getR 83 18 kz8 (zs_74) (by decide) (by decide) rfl wk_875 (zd DX8_summary 8 rfl) ?_
  refine tz_iconst (2 : Int32) zk_iconst_2 (zd DX8_summary 9 rfl) ?_
  refine tz_iload_n 2 rfl (zd DX8_summary 10 rfl) ?_
  refine tz_imul (zd DX8_summary 11 rfl) ?_
  refine tz_iconst (1 : Int32) zk_iconst_1 (zd DX8_summary 12 rfl) ?_
  refine tz_iadd (zd DX8_summary 13 rfl) ?_
  refine tz_iald (zs_83.1) (zs_83.2) (zd DX8_summary 14 rfl) ?_
  refine tz_lti (fun v2 => ?_)
  refine tz_istore_n [(3, .int v2), (2, .int v1), (0, .ref 74), (1, .int a1)] (Nat.le_of_ble_eq_true rfl) rfl (zd DX8_summary 15 rfl) ?_
  refine tz_iconst (2 : Int32) zk_iconst_2 (zd DX8_summary 16 rfl) ?_
  refine tz_iload_n 3 rfl (zd DX8_summary 17 rfl) ?_
  refine tz_imul (zd DX8_summary 18 rfl) ?_
  refine tz_iload_n 1 rfl (zd DX8_summary 19 rfl) ?_
  refine tz_iconst (1 : Int32) zk_iconst_1 (zd DX8_summary 20 rfl) ?_
  refine tz_isub (zd DX8_summary 21 rfl) ?_
  refine tz_cS_i (rest := []) (YX8_place) wk_1054 (tX8_place ((2 : Int32) * a1) (v1 - (1 : Int32)) w) rfl rfl (Nat.le_of_ble_eq_true rfl) ⟨Nat.le_of_ble_eq_true rfl, Nat.le_of_ble_eq_true rfl⟩ (zd DX8_summary 22 rfl) (fun v5 w3 e4 => ?_)
  refine tz_istore [(4, .int v5), (3, .int v2), (2, .int v1), (0, .ref 74), (1, .int a1)] (Nat.le_of_ble_eq_true rfl) rfl (zd DX8_summary 23 rfl) ?_
  refine tz_iconst (2 : Int32) zk_iconst_2 (zd DX8_summary 24 rfl) ?_
  refine tz_iload_n 4 rfl (zd DX8_summary 25 rfl) ?_
  refine tz_imul (zd DX8_summary 26 rfl) ?_
  refine tz_iconst (1 : Int32) zk_iconst_1 (zd DX8_summary 27 rfl) ?_
  refine tz_iadd (zd DX8_summary 28 rfl) ?_
  refine tz_iload_n 1 rfl (zd DX8_summary 29 rfl) ?_
  refine tz_iconst (1 : Int32) zk_iconst_1 (zd DX8_summary 30 rfl) ?_
  refine tz_isub (zd DX8_summary 31 rfl) ?_
  refine tz_cS_i (rest := []) (YX8_place) wk_1054 (tX8_place (((2 : Int32) * a1) + (1 : Int32)) (v2 - (1 : Int32)) w3) rfl rfl (Nat.le_of_ble_eq_true rfl) ⟨Nat.le_of_ble_eq_true rfl, Nat.le_of_ble_eq_true rfl⟩ (zd DX8_summary 32 rfl) (fun v8 w6 e7 => ?_)
  refine tz_istore [(5, .int v8), (4, .int v5), (3, .int v2), (2, .int v1), (0, .ref 74), (1, .int a1)] (Nat.le_of_ble_eq_true rfl) rfl (zd DX8_summary 33 rfl) ?_
  refine tz_iload_n 3 rfl (zd DX8_summary 34 rfl) ?_
  refine tz_jp (P := fun j => ∀ (w9 : zW), Tz MX8_summary (zRet zn) (j w9) 59 [(0, .ref 74), (2, .int v1), (3, .int v2), (4, .int v5), (5, .int v8)] [] w9) ?_ (fun j9 hj9 => ?_)
  · intro w9
    refine tz_iload_n 1 rfl (zd DX8_summary 41 rfl) ?_
    refine tz_if_ne 84 (zd DX8_summary 42 rfl) rfl (fun q10 => ?_) (fun q10 => ?_)
    · refine tz_iload_n 2 rfl (zd DX8_summary 54 rfl) ?_
      refine tz_if_ne 109 (zd DX8_summary 55 rfl) rfl (fun q11 => ?_) (fun q11 => ?_)
      · refine tz_aload_n 0 rfl (zd DX8_summary 67 rfl) ?_
        refine tz_aload_n 0 rfl (zd DX8_summary 68 rfl) ?_
        refine tz_getR 86 21 kz8 (zs_74) (by decide) (by decide) rfl wk_878 (zd DX8_summary 69 rfl) ?_
        refine tz_iload 3 rfl (zd DX8_summary 70 rfl) ?_
        refine tz_lald (zs_86.1) (zs_86.2) (zd DX8_summary 71 rfl) ?_
        refine tz_aload_n 0 rfl (zd DX8_summary 72 rfl) ?_
        refine tz_getR 87 22 kz8 (zs_74) (by decide) (by decide) rfl wk_879 (zd DX8_summary 73 rfl) ?_
        refine tz_iload 3 rfl (zd DX8_summary 74 rfl) ?_
        refine tz_lald (zs_87.1) (zs_87.2) (zd DX8_summary 75 rfl) ?_
        refine tz_aload_n 0 rfl (zd DX8_summary 76 rfl) ?_
        refine tz_getR 86 21 kz8 (zs_74) (by decide) (by decide) rfl wk_878 (zd DX8_summary 77 rfl) ?_
        refine tz_iload 4 rfl (zd DX8_summary 78 rfl) ?_
        refine tz_lald (zs_86.1) (zs_86.2) (zd DX8_summary 79 rfl) ?_
        refine tz_aload_n 0 rfl (zd DX8_summary 80 rfl) ?_
        refine tz_getR 87 22 kz8 (zs_74) (by decide) (by decide) rfl wk_879 (zd DX8_summary 81 rfl) ?_
        refine tz_iload 4 rfl (zd DX8_summary 82 rfl) ?_
        refine tz_lald (zs_87.1) (zs_87.2) (zd DX8_summary 83 rfl) ?_
        refine tz_cV_n kz8 (zs_74) rfl (rest := []) (YX8_join) wk_984 (tX8_join (zL w9 86 v5.toNatClampNeg) (zL w9 87 v5.toNatClampNeg) (zL w9 86 v8.toNatClampNeg) (zL w9 87 v8.toNatClampNeg) w9) rfl rfl (Nat.le_of_ble_eq_true rfl) ⟨Nat.le_of_ble_eq_true rfl, Nat.le_of_ble_eq_true rfl⟩ (zd DX8_summary 84 rfl) (fun v14 w12 e13 => ?_)
        exact tz_vret rfl (zd DX8_summary 85 rfl)
      refine tz_aload_n 0 rfl (zd DX8_summary 56 rfl) ?_
      refine tz_aload_n 0 rfl (zd DX8_summary 57 rfl) ?_
      refine tz_getR 86 21 kz8 (zs_74) (by decide) (by decide) rfl wk_878 (zd DX8_summary 58 rfl) ?_
      refine tz_iload 3 rfl (zd DX8_summary 59 rfl) ?_
      refine tz_lald (zs_86.1) (zs_86.2) (zd DX8_summary 60 rfl) ?_
      refine tz_aload_n 0 rfl (zd DX8_summary 61 rfl) ?_
      refine tz_getR 87 22 kz8 (zs_74) (by decide) (by decide) rfl wk_879 (zd DX8_summary 62 rfl) ?_
      refine tz_iload 3 rfl (zd DX8_summary 63 rfl) ?_
      refine tz_lald (zs_87.1) (zs_87.2) (zd DX8_summary 64 rfl) ?_
      refine tz_cV_n kz8 (zs_74) rfl (rest := []) (YX8_is) wk_970 (tX8_is (zL w9 86 v5.toNatClampNeg) (zL w9 87 v5.toNatClampNeg) w9) rfl rfl (Nat.le_of_ble_eq_true rfl) ⟨Nat.le_of_ble_eq_true rfl, Nat.le_of_ble_eq_true rfl⟩ (zd DX8_summary 65 rfl) (fun v17 w15 e16 => ?_)
      refine tz_goto 141 (zd DX8_summary 66 rfl) rfl ?_
      exact tz_vret rfl (zd DX8_summary 85 rfl)
    refine tz_aload_n 0 rfl (zd DX8_summary 43 rfl) ?_
    refine tz_aload_n 0 rfl (zd DX8_summary 44 rfl) ?_
    refine tz_getR 86 21 kz8 (zs_74) (by decide) (by decide) rfl wk_878 (zd DX8_summary 45 rfl) ?_
    refine tz_iload 4 rfl (zd DX8_summary 46 rfl) ?_
    refine tz_lald (zs_86.1) (zs_86.2) (zd DX8_summary 47 rfl) ?_
    refine tz_aload_n 0 rfl (zd DX8_summary 48 rfl) ?_
    refine tz_getR 87 22 kz8 (zs_74) (by decide) (by decide) rfl wk_879 (zd DX8_summary 49 rfl) ?_
    refine tz_iload 4 rfl (zd DX8_summary 50 rfl) ?_
    refine tz_lald (zs_87.1) (zs_87.2) (zd DX8_summary 51 rfl) ?_
    refine tz_cV_n kz8 (zs_74) rfl (rest := []) (YX8_is) wk_970 (tX8_is (zL w9 86 v8.toNatClampNeg) (zL w9 87 v8.toNatClampNeg) w9) rfl rfl (Nat.le_of_ble_eq_true rfl) ⟨Nat.le_of_ble_eq_true rfl, Nat.le_of_ble_eq_true rfl⟩ (zd DX8_summary 52 rfl) (fun v20 w18 e19 => ?_)
    refine tz_goto 141 (zd DX8_summary 53 rfl) rfl ?_
    exact tz_vret rfl (zd DX8_summary 85 rfl)
  refine tz_if_ne 59 (zd DX8_summary 35 rfl) rfl (fun q21 => ?_) (fun q21 => ?_)
  · refine tz_lv (lv2 := [(0, .ref 74), (2, .int v1), (3, .int v2), (4, .int v5), (5, .int v8)]) [4, 3, 2, 1, 0] rfl ?_
    exact hj9 w6
  refine tz_iload_n 2 rfl (zd DX8_summary 36 rfl) ?_
  refine tz_if_ne 59 (zd DX8_summary 37 rfl) rfl (fun q22 => ?_) (fun q22 => ?_)
  · refine tz_lv (lv2 := [(0, .ref 74), (2, .int v1), (3, .int v2), (4, .int v5), (5, .int v8)]) [4, 3, 2, 1, 0] rfl ?_
    exact hj9 w6
  refine tz_aload_n 4 rfl (zd DX8_summary 38 rfl) ?_
  refine tz_cV_n kz8 (zs_74) rfl (rest := []) (YX8_empty) wk_1015 (tX8_empty w6) rfl rfl (Nat.le_of_ble_eq_true rfl) ⟨Nat.le_of_ble_eq_true rfl, Nat.le_of_ble_eq_true rfl⟩ (zd DX8_summary 39 rfl) (fun v25 w23 e24 => ?_)
  refine tz_goto 141 (zd DX8_summary 40 rfl) rfl ?_
  exact tz_vret rfl (zd DX8_summary 85 rfl)
def QX8_entersSummary : List (Nat × Instr × Nat) := [(0, .aload_n 0, 1), (1, .iload_n 1, 1), (2, .invokevirtual 263, 3), (5, .aload_n 0, 1), (6, .aload_n 0, 1), (7, .getfield 96, 3), (10, .invokevirtual 164, 3), (13, .aload_n 0, 1), (14, .aload_n 0, 1), (15, .getfield 100, 3), (18, .invokevirtual 164, 3), (21, .return_, 1)]
set_option maxRecDepth 100000 in
theorem DX8_entersSummary : ∀ q ∈ QX8_entersSummary, decode cX8_entersSummary q.1 = .ok (q.2.1, q.2.2) := by decide +kernel
abbrev MX8_entersSummary : zM := (cX8_entersSummary, "EndSumsModel", 2, none, { frames := 5, cells := 0, slots := 0, locals := 125 })
def fX8_entersSummary (a1 : Int32) (w : zW) : Option (Unit × zW) :=
  bd (fX8_summary a1 w) fun _ w1 =>
  bd (fX8_enters (zL w1 74 11) w1) fun _ w4 =>
  bd (fX8_enters (zL w4 74 12) w4) fun _ w7 =>
  some ((), w7)
theorem YX8_entersSummary : zYV yX8_entersSummary MX8_entersSummary 1 := ⟨wk_1175, wk_9, ⟨wk_1174, ws_105⟩, ⟨by decide, by decide, by decide +kernel⟩, rfl, rfl⟩
set_option maxHeartbeats 4000000 in
set_option maxRecDepth 100000 in
theorem tX8_entersSummary (a1 : Int32) (w : zW) : Sm yX8_entersSummary MX8_entersSummary zn [.ref 74, .int a1] w (fX8_entersSummary a1 w) := by
  refine Sm_of (lv0 := [(0, .ref 74), (1, .int a1)]) (by decide) rfl (fun _ => Nat.le_of_ble_eq_true rfl) rfl ?_
  unfold fX8_entersSummary
  refine tz_aload_n 0 rfl (zd DX8_entersSummary 0 rfl) ?_
  refine tz_iload_n 1 rfl (zd DX8_entersSummary 1 rfl) ?_
  refine tz_cV_n kz8 (zs_74) rfl (rest := []) (YX8_summary) wk_1176 (tX8_summary a1 w) rfl rfl (Nat.le_of_ble_eq_true rfl) ⟨Nat.le_of_ble_eq_true rfl, Nat.le_of_ble_eq_true rfl⟩ (zd DX8_entersSummary 2 rfl) (fun v3 w1 e2 => ?_)
  refine tz_aload_n 0 rfl (zd DX8_entersSummary 3 rfl) ?_
  refine tz_aload_n 0 rfl (zd DX8_entersSummary 4 rfl) ?_
  refine tz_getJ 11 kz8 (zs_74) (by decide) rfl wk_868 (zd DX8_entersSummary 5 rfl) ?_
  refine tz_cV_n kz8 (zs_74) rfl (rest := []) (YX8_enters) wk_1002 (tX8_enters (zL w1 74 11) w1) rfl rfl (Nat.le_of_ble_eq_true rfl) ⟨Nat.le_of_ble_eq_true rfl, Nat.le_of_ble_eq_true rfl⟩ (zd DX8_entersSummary 6 rfl) (fun v6 w4 e5 => ?_)
  refine tz_aload_n 0 rfl (zd DX8_entersSummary 7 rfl) ?_
  refine tz_aload_n 0 rfl (zd DX8_entersSummary 8 rfl) ?_
  refine tz_getJ 12 kz8 (zs_74) (by decide) rfl wk_869 (zd DX8_entersSummary 9 rfl) ?_
  refine tz_cV_n kz8 (zs_74) rfl (rest := []) (YX8_enters) wk_1002 (tX8_enters (zL w4 74 12) w4) rfl rfl (Nat.le_of_ble_eq_true rfl) ⟨Nat.le_of_ble_eq_true rfl, Nat.le_of_ble_eq_true rfl⟩ (zd DX8_entersSummary 10 rfl) (fun v9 w7 e8 => ?_)
  exact tz_vret rfl (zd DX8_entersSummary 11 rfl)
def QX8_shifts : List (Nat × Instr × Nat) := [(0, .aload_n 0, 1), (1, .iconst 0, 1), (2, .putfield 1, 3), (5, .iload_n 1, 1), (6, .invokestatic 237, 3), (9, .ifCond .eq 22, 3), (12, .iload_n 2, 1), (13, .invokestatic 240, 3), (16, .ifCond .eq 15, 3), (19, .iload_n 3, 1), (20, .i2l, 1), (21, .lconst 1, 1), (22, .ldc2_w 266, 3), (25, .invokestatic 21, 3), (28, .ifCond .ne 5, 3), (31, .iconst (-1), 1), (32, .ireturn, 1), (33, .aload_n 0, 1), (34, .iload_n 1, 1), (35, .invokevirtual 187, 3), (38, .ifCond .ne 6, 3), (41, .bipush (-2), 2), (43, .ireturn, 1), (44, .aload_n 0, 1), (45, .getfield 184, 3), (48, .istore 4, 2), (50, .iconst 0, 1), (51, .istore 5, 2), (53, .iload 5, 2), (55, .iload_n 3, 1), (56, .if_icmp .ge 30, 3), (59, .aload_n 0, 1), (60, .iload_n 1, 1), (61, .iload_n 2, 1), (62, .invokevirtual 243, 3), (65, .istore 6, 2), (67, .aload_n 0, 1), (68, .iconst 2, 1), (69, .iload_n 1, 1), (70, .imul, 1), (71, .iconst 1, 1), (72, .iadd, 1), (73, .iload_n 2, 1), (74, .isub, 1), (75, .iload 6, 2), (77, .invokevirtual 193, 3), (80, .iinc 5 1, 3), (83, .goto (-30), 3), (86, .aload_n 0, 1), (87, .iconst 0, 1), (88, .putfield 11, 3), (91, .aload_n 0, 1), (92, .iload_n 1, 1), (93, .invokevirtual 268, 3), (96, .aload_n 0, 1), (97, .getfield 184, 3), (100, .iload 4, 2), (102, .isub, 1), (103, .ireturn, 1)]
set_option maxRecDepth 100000 in
theorem DX8_shifts : ∀ q ∈ QX8_shifts, decode cX8_shifts q.1 = .ok (q.2.1, q.2.2) := by decide +kernel
abbrev MX8_shifts : zM := (cX8_shifts, "EndSumsModel", 7, (some .int), { frames := 7, cells := 0, slots := 0, locals := 177 })
def fX8_shifts_L53 (x1 : Int32) (x2 : Int32) (x3 : Int32) (x4 : Int32) : Nat → Int32 → zW → Option (Int32 × zW)
  | 0, _, _ => none
  | n + 1, x5, w =>
    if x3 ≤ x5 then
      lt (zsI w 74 1 (0 : Int32)) fun w20 =>
      bd (fX8_entersSummary x1 w20) fun _ w21 =>
      some (((zI w21 74 23) - x4), w21)
    else
    bd (fX8_takesOne x1 x2 w) fun v26 w24 =>
    bd (fX8_makes ((((2 : Int32) * x1) + (1 : Int32)) - x2) v26 w24) fun _ w27 =>
    fX8_shifts_L53 x1 x2 x3 x4 n (x5 + (1 : Int32)) w27
def fX8_shifts (a1 : Int32) (a2 : Int32) (a3 : Int32) (w : zW) : Option (Int32 × zW) :=
  lt (zsI w 74 0 (0 : Int32)) fun w1 =>
  bd (fX8_isLine a1 w1) fun b4 w2 =>
  if b4 = true then
    bd (fX8_isEnd a2 w2) fun b8 w6 =>
    if b8 = true then
      bd (fX8_in (a3).toInt64 (1 : Int64) (64 : Int64) w6) fun b12 w10 =>
      if b12 = true then
        bd (fX8_sizeOf a1 w10) fun v16 w14 =>
        if ¬ v16 = (0 : Int32) then
          lt (zI w14 74 23) fun v18 =>
          fX8_shifts_L53 a1 a2 a3 v18 zFU (0 : Int32) w14
        else
        some ((-2 : Int32), w14)
      else
      some ((-1 : Int32), w10)
    else
    some ((-1 : Int32), w6)
  else
  some ((-1 : Int32), w2)
theorem YX8_shifts : zYV yX8_shifts MX8_shifts 3 := ⟨wk_1170, wk_9, ⟨wk_1168, wk_1169⟩, ⟨by decide, by decide, by decide +kernel⟩, rfl, rfl⟩
set_option maxHeartbeats 4000000 in
set_option maxRecDepth 100000 in
theorem lX8_shifts_L53 (x1 : Int32) (x2 : Int32) (x3 : Int32) (x4 : Int32) : ∀ (n : Nat) (x5 : Int32) (w : zW), Tz MX8_shifts (zRet zi) (fX8_shifts_L53 x1 x2 x3 x4 n x5 w) 53 [(0, .ref 74), (1, .int x1), (2, .int x2), (3, .int x3), (4, .int x4), (5, .int x5)] [] w := by
  intro n
  induction n with
  | zero => intro x5 w; exact tz_eq (fX8_shifts_L53.eq_1 _ _ _ _ _ _) tz_none
  | succ n ih =>
    intro x5 w
    refine tz_eq (fX8_shifts_L53.eq_2 _ _ _ _ _ _ _) ?_
    refine tz_iload 5 rfl (zd DX8_shifts 28 rfl) ?_
    refine tz_iload_n 3 rfl (zd DX8_shifts 29 rfl) ?_
    refine tz_icmp_ge 86 (zd DX8_shifts 30 rfl) rfl (fun q19 => ?_) (fun q19 => ?_)
    · refine tz_aload_n 0 rfl (zd DX8_shifts 48 rfl) ?_
      refine tz_iconst (0 : Int32) zk_iconst_0 (zd DX8_shifts 49 rfl) ?_
      refine tz_putI 1 kz8 (zs_74) (by decide) rfl rfl wk_858 (zd DX8_shifts 50 rfl) (fun w20 => ?_)
      refine tz_aload_n 0 rfl (zd DX8_shifts 51 rfl) ?_
      refine tz_iload_n 1 rfl (zd DX8_shifts 52 rfl) ?_
      refine tz_cV_n kz8 (zs_74) rfl (rest := []) (YX8_entersSummary) wk_1172 (tX8_entersSummary x1 w20) rfl rfl (Nat.le_of_ble_eq_true rfl) ⟨Nat.le_of_ble_eq_true rfl, Nat.le_of_ble_eq_true rfl⟩ (zd DX8_shifts 53 rfl) (fun v23 w21 e22 => ?_)
      refine tz_aload_n 0 rfl (zd DX8_shifts 54 rfl) ?_
      refine tz_getI 23 kz8 (zs_74) (by decide) rfl wk_880 (zd DX8_shifts 55 rfl) ?_
      refine tz_iload 4 rfl (zd DX8_shifts 56 rfl) ?_
      refine tz_isub (zd DX8_shifts 57 rfl) ?_
      exact tz_iret rfl (zd DX8_shifts 58 rfl)
    refine tz_aload_n 0 rfl (zd DX8_shifts 31 rfl) ?_
    refine tz_iload_n 1 rfl (zd DX8_shifts 32 rfl) ?_
    refine tz_iload_n 2 rfl (zd DX8_shifts 33 rfl) ?_
    refine tz_cV_i kz8 (zs_74) rfl (rest := []) (YX8_takesOne) wk_1115 (tX8_takesOne x1 x2 w) rfl rfl (Nat.le_of_ble_eq_true rfl) ⟨Nat.le_of_ble_eq_true rfl, Nat.le_of_ble_eq_true rfl⟩ (zd DX8_shifts 34 rfl) (fun v26 w24 e25 => ?_)
    refine tz_istore [(6, .int v26), (0, .ref 74), (1, .int x1), (2, .int x2), (3, .int x3), (4, .int x4), (5, .int x5)] (Nat.le_of_ble_eq_true rfl) rfl (zd DX8_shifts 35 rfl) ?_
    refine tz_aload_n 1 rfl (zd DX8_shifts 36 rfl) ?_
    refine tz_iconst (2 : Int32) zk_iconst_2 (zd DX8_shifts 37 rfl) ?_
    refine tz_iload_n 2 rfl (zd DX8_shifts 38 rfl) ?_
    refine tz_imul (zd DX8_shifts 39 rfl) ?_
    refine tz_iconst (1 : Int32) zk_iconst_1 (zd DX8_shifts 40 rfl) ?_
    refine tz_iadd (zd DX8_shifts 41 rfl) ?_
    refine tz_iload_n 3 rfl (zd DX8_shifts 42 rfl) ?_
    refine tz_isub (zd DX8_shifts 43 rfl) ?_
    refine tz_iload 0 rfl (zd DX8_shifts 44 rfl) ?_
    refine tz_cV_n kz8 (zs_74) rfl (rest := []) (YX8_makes) wk_1061 (tX8_makes ((((2 : Int32) * x1) + (1 : Int32)) - x2) v26 w24) rfl rfl (Nat.le_of_ble_eq_true rfl) ⟨Nat.le_of_ble_eq_true rfl, Nat.le_of_ble_eq_true rfl⟩ (zd DX8_shifts 45 rfl) (fun v29 w27 e28 => ?_)
    refine tz_iinc 6 (1 : Int32) [(5, .int (x5 + (1 : Int32))), (6, .int v26), (0, .ref 74), (1, .int x1), (2, .int x2), (3, .int x3), (4, .int x4)] rfl zk_iconst_1 (Nat.le_of_ble_eq_true rfl) rfl (zd DX8_shifts 46 rfl) ?_
    refine tz_goto 53 (zd DX8_shifts 47 rfl) rfl ?_
    refine tz_lv (lv2 := [(0, .ref 74), (1, .int x1), (2, .int x2), (3, .int x3), (4, .int x4), (5, .int (x5 + (1 : Int32)))]) [2, 3, 4, 5, 6, 0] rfl ?_
    exact ih (x5 + (1 : Int32)) w27
set_option maxHeartbeats 4000000 in
set_option maxRecDepth 100000 in
theorem tX8_shifts (a1 : Int32) (a2 : Int32) (a3 : Int32) (w : zW) : Sm yX8_shifts MX8_shifts zi [.ref 74, .int a1, .int a2, .int a3] w (fX8_shifts a1 a2 a3 w) := by
  refine Sm_of (lv0 := [(0, .ref 74), (1, .int a1), (2, .int a2), (3, .int a3)]) (by decide) rfl (fun _ => Nat.le_of_ble_eq_true rfl) rfl ?_
  unfold fX8_shifts
  refine tz_aload_n 0 rfl (zd DX8_shifts 0 rfl) ?_
  refine tz_iconst (0 : Int32) zk_iconst_0 (zd DX8_shifts 1 rfl) ?_
  refine tz_putI 0 kz8 (zs_74) (by decide) rfl rfl wk_857 (zd DX8_shifts 2 rfl) (fun w1 => ?_)
  refine tz_iload_n 1 rfl (zd DX8_shifts 3 rfl) ?_
  refine tz_cS_z (rest := []) (YX8_isLine) wk_1104 (tX8_isLine a1 w1) rfl rfl (Nat.le_of_ble_eq_true rfl) ⟨Nat.le_of_ble_eq_true rfl, Nat.le_of_ble_eq_true rfl⟩ (zd DX8_shifts 4 rfl) (fun b4 w2 e3 => ?_)
  refine tz_bif_eq 31 (zd DX8_shifts 5 rfl) rfl (fun q5 => ?_) (fun q5 => ?_)
  · refine tz_iload_n 2 rfl (zd DX8_shifts 6 rfl) ?_
    refine tz_cS_z (rest := []) (YX8_isEnd) wk_1108 (tX8_isEnd a2 w2) rfl rfl (Nat.le_of_ble_eq_true rfl) ⟨Nat.le_of_ble_eq_true rfl, Nat.le_of_ble_eq_true rfl⟩ (zd DX8_shifts 7 rfl) (fun b8 w6 e7 => ?_)
    refine tz_bif_eq 31 (zd DX8_shifts 8 rfl) rfl (fun q9 => ?_) (fun q9 => ?_)
    · refine tz_iload_n 3 rfl (zd DX8_shifts 9 rfl) ?_
      refine tz_i2l (zd DX8_shifts 10 rfl) ?_
      refine tz_lconst (1 : Int64) rfl (zd DX8_shifts 11 rfl) ?_
      refine tz_ldc2_w wk_1171 (zd DX8_shifts 12 rfl) ?_
      refine tz_cS_z (rest := []) (YX8_in) wk_848 (tX8_in (a3).toInt64 (1 : Int64) (64 : Int64) w6) rfl rfl (Nat.le_of_ble_eq_true rfl) ⟨Nat.le_of_ble_eq_true rfl, Nat.le_of_ble_eq_true rfl⟩ (zd DX8_shifts 13 rfl) (fun b12 w10 e11 => ?_)
      refine tz_bif_ne 33 (zd DX8_shifts 14 rfl) rfl (fun q13 => ?_) (fun q13 => ?_)
      · refine tz_aload_n 0 rfl (zd DX8_shifts 17 rfl) ?_
        refine tz_iload_n 1 rfl (zd DX8_shifts 18 rfl) ?_
        refine tz_cV_i kz8 (zs_74) rfl (rest := []) (YX8_sizeOf) wk_1042 (tX8_sizeOf a1 w10) rfl rfl (Nat.le_of_ble_eq_true rfl) ⟨Nat.le_of_ble_eq_true rfl, Nat.le_of_ble_eq_true rfl⟩ (zd DX8_shifts 19 rfl) (fun v16 w14 e15 => ?_)
        refine tz_if_ne 44 (zd DX8_shifts 20 rfl) rfl (fun q17 => ?_) (fun q17 => ?_)
        · refine tz_aload_n 0 rfl (zd DX8_shifts 23 rfl) ?_
          refine tz_getI 23 kz8 (zs_74) (by decide) rfl wk_880 (zd DX8_shifts 24 rfl) ?_
          refine tz_lti (fun v18 => ?_)
          refine tz_istore [(4, .int v18), (0, .ref 74), (1, .int a1), (2, .int a2), (3, .int a3)] (Nat.le_of_ble_eq_true rfl) rfl (zd DX8_shifts 25 rfl) ?_
          refine tz_iconst (0 : Int32) zk_iconst_0 (zd DX8_shifts 26 rfl) ?_
          refine tz_istore [(5, .int (0 : Int32)), (4, .int v18), (0, .ref 74), (1, .int a1), (2, .int a2), (3, .int a3)] (Nat.le_of_ble_eq_true rfl) rfl (zd DX8_shifts 27 rfl) ?_
          refine tz_lv (lv2 := [(0, .ref 74), (1, .int a1), (2, .int a2), (3, .int a3), (4, .int v18), (5, .int (0 : Int32))]) [2, 3, 4, 5, 1, 0] rfl ?_
          exact lX8_shifts_L53 a1 a2 a3 v18 zFU (0 : Int32) w14
        refine tz_bipush (-2 : Int32) zk_bipush_m2 (zd DX8_shifts 21 rfl) ?_
        exact tz_iret rfl (zd DX8_shifts 22 rfl)
      refine tz_iconst (-1 : Int32) zk_iconst_m1 (zd DX8_shifts 15 rfl) ?_
      exact tz_iret rfl (zd DX8_shifts 16 rfl)
    refine tz_iconst (-1 : Int32) zk_iconst_m1 (zd DX8_shifts 15 rfl) ?_
    exact tz_iret rfl (zd DX8_shifts 16 rfl)
  refine tz_iconst (-1 : Int32) zk_iconst_m1 (zd DX8_shifts 15 rfl) ?_
  exact tz_iret rfl (zd DX8_shifts 16 rfl)
def QX8_clears : List (Nat × Instr × Nat) := [(0, .aload_n 0, 1), (1, .iconst 0, 1), (2, .putfield 1, 3), (5, .iload_n 1, 1), (6, .invokestatic 237, 3), (9, .ifCond .ne 5, 3), (12, .iconst (-1), 1), (13, .ireturn, 1), (14, .aload_n 0, 1), (15, .iload_n 1, 1), (16, .invokevirtual 187, 3), (19, .istore_n 2, 1), (20, .aload_n 0, 1), (21, .getfield 66, 3), (24, .iconst 2, 1), (25, .iload_n 1, 1), (26, .imul, 1), (27, .iconst 0, 1), (28, .iastore, 1), (29, .aload_n 0, 1), (30, .getfield 66, 3), (33, .iconst 2, 1), (34, .iload_n 1, 1), (35, .imul, 1), (36, .iconst 1, 1), (37, .iadd, 1), (38, .iconst 0, 1), (39, .iastore, 1), (40, .iload_n 2, 1), (41, .ireturn, 1)]
set_option maxRecDepth 100000 in
theorem DX8_clears : ∀ q ∈ QX8_clears, decode cX8_clears q.1 = .ok (q.2.1, q.2.2) := by decide +kernel
abbrev MX8_clears : zM := (cX8_clears, "EndSumsModel", 3, (some .int), { frames := 2, cells := 0, slots := 0, locals := 45 })
def fX8_clears (a1 : Int32) (w : zW) : Option (Int32 × zW) :=
  lt (zsI w 74 0 (0 : Int32)) fun w1 =>
  bd (fX8_isLine a1 w1) fun b4 w2 =>
  if b4 = true then
    bd (fX8_sizeOf a1 w2) fun v8 w6 =>
    zg (zin ((2 : Int32) * a1) 10) <| lt (zsI w6 83 ((2 : Int32) * a1).toNatClampNeg (0 : Int32)) fun w9 =>
    zg (zin (((2 : Int32) * a1) + (1 : Int32)) 10) <| lt (zsI w9 83 (((2 : Int32) * a1) + (1 : Int32)).toNatClampNeg (0 : Int32)) fun w10 =>
    some (v8, w10)
  else
  some ((-1 : Int32), w2)
theorem YX8_clears : zYV yX8_clears MX8_clears 1 := ⟨wk_1183, wk_9, ⟨wk_1181, wk_1182⟩, ⟨by decide, by decide, by decide +kernel⟩, rfl, rfl⟩
set_option maxHeartbeats 4000000 in
set_option maxRecDepth 100000 in
theorem tX8_clears (a1 : Int32) (w : zW) : Sm yX8_clears MX8_clears zi [.ref 74, .int a1] w (fX8_clears a1 w) := by
  refine Sm_of (lv0 := [(0, .ref 74), (1, .int a1)]) (by decide) rfl (fun _ => Nat.le_of_ble_eq_true rfl) rfl ?_
  unfold fX8_clears
  refine tz_aload_n 0 rfl (zd DX8_clears 0 rfl) ?_
  refine tz_iconst (0 : Int32) zk_iconst_0 (zd DX8_clears 1 rfl) ?_
  refine tz_putI 0 kz8 (zs_74) (by decide) rfl rfl wk_857 (zd DX8_clears 2 rfl) (fun w1 => ?_)
  refine tz_iload_n 1 rfl (zd DX8_clears 3 rfl) ?_
  refine tz_cS_z (rest := []) (YX8_isLine) wk_1104 (tX8_isLine a1 w1) rfl rfl (Nat.le_of_ble_eq_true rfl) ⟨Nat.le_of_ble_eq_true rfl, Nat.le_of_ble_eq_true rfl⟩ (zd DX8_clears 4 rfl) (fun b4 w2 e3 => ?_)
  refine tz_bif_ne 14 (zd DX8_clears 5 rfl) rfl (fun q5 => ?_) (fun q5 => ?_)
  · refine tz_aload_n 0 rfl (zd DX8_clears 8 rfl) ?_
    refine tz_iload_n 1 rfl (zd DX8_clears 9 rfl) ?_
    refine tz_cV_i kz8 (zs_74) rfl (rest := []) (YX8_sizeOf) wk_1042 (tX8_sizeOf a1 w2) rfl rfl (Nat.le_of_ble_eq_true rfl) ⟨Nat.le_of_ble_eq_true rfl, Nat.le_of_ble_eq_true rfl⟩ (zd DX8_clears 10 rfl) (fun v8 w6 e7 => ?_)
    refine tz_istore_n [(2, .int v8), (0, .ref 74), (1, .int a1)] (Nat.le_of_ble_eq_true rfl) rfl (zd DX8_clears 11 rfl) ?_
    refine tz_aload_n 1 rfl (zd DX8_clears 12 rfl) ?_
    refine tz_getR 83 18 kz8 (zs_74) (by decide) (by decide) rfl wk_875 (zd DX8_clears 13 rfl) ?_
    refine tz_iconst (2 : Int32) zk_iconst_2 (zd DX8_clears 14 rfl) ?_
    refine tz_iload_n 2 rfl (zd DX8_clears 15 rfl) ?_
    refine tz_imul (zd DX8_clears 16 rfl) ?_
    refine tz_iconst (0 : Int32) zk_iconst_0 (zd DX8_clears 17 rfl) ?_
    refine tz_iast (zs_83.1) (zs_83.2) (zd DX8_clears 18 rfl) (fun w9 => ?_)
    refine tz_aload_n 1 rfl (zd DX8_clears 19 rfl) ?_
    refine tz_getR 83 18 kz8 (zs_74) (by decide) (by decide) rfl wk_875 (zd DX8_clears 20 rfl) ?_
    refine tz_iconst (2 : Int32) zk_iconst_2 (zd DX8_clears 21 rfl) ?_
    refine tz_iload_n 2 rfl (zd DX8_clears 22 rfl) ?_
    refine tz_imul (zd DX8_clears 23 rfl) ?_
    refine tz_iconst (1 : Int32) zk_iconst_1 (zd DX8_clears 24 rfl) ?_
    refine tz_iadd (zd DX8_clears 25 rfl) ?_
    refine tz_iconst (0 : Int32) zk_iconst_0 (zd DX8_clears 26 rfl) ?_
    refine tz_iast (zs_83.1) (zs_83.2) (zd DX8_clears 27 rfl) (fun w10 => ?_)
    refine tz_iload_n 0 rfl (zd DX8_clears 28 rfl) ?_
    exact tz_iret rfl (zd DX8_clears 29 rfl)
  refine tz_iconst (-1 : Int32) zk_iconst_m1 (zd DX8_clears 6 rfl) ?_
  exact tz_iret rfl (zd DX8_clears 7 rfl)
def QX8_passes : List (Nat × Instr × Nat) := [(0, .aload_n 0, 1), (1, .getfield 28, 3), (4, .aload_n 0, 1), (5, .getfield 25, 3), (8, .if_icmp .ge 30, 3), (11, .aload_n 0, 1), (12, .getfield 17, 3), (15, .aload_n 0, 1), (16, .getfield 28, 3), (19, .iaload, 1), (20, .bipush 32, 2), (22, .if_icmp .ne 16, 3), (25, .aload_n 0, 1), (26, .dup, 1), (27, .getfield 28, 3), (30, .iconst 1, 1), (31, .iadd, 1), (32, .putfield 28, 3), (35, .goto (-35), 3), (38, .return_, 1)]
set_option maxRecDepth 100000 in
theorem DX8_passes : ∀ q ∈ QX8_passes, decode cX8_passes q.1 = .ok (q.2.1, q.2.2) := by decide +kernel
abbrev MX8_passes : zM := (cX8_passes, "EndSumsModel", 1, none, { frames := 0, cells := 0, slots := 0, locals := 0 })
def fX8_passes_L0  : Nat → zW → Option (Unit × zW)
  | 0, _ => none
  | n + 1, w =>
    if (zI w 74 6) ≤ (zI w 74 5) then
      some ((), w)
    else
    zg (zin (zI w 74 5) 100) <|
    if ¬ (zI w 76 (zI w 74 5).toNatClampNeg) = (32 : Int32) then
      some ((), w)
    else
    lt (zsI w 74 5 ((zI w 74 5) + (1 : Int32))) fun w3 =>
    fX8_passes_L0 n w3
def fX8_passes  (w : zW) : Option (Unit × zW) :=
  fX8_passes_L0 zFU w
theorem YX8_passes : zYV yX8_passes MX8_passes 0 := ⟨wk_1191, wk_9, ⟨wk_1190, ws_107⟩, ⟨by decide, by decide, by decide +kernel⟩, rfl, rfl⟩
set_option maxHeartbeats 4000000 in
set_option maxRecDepth 100000 in
theorem lX8_passes_L0  : ∀ (n : Nat)  (w : zW), Tz MX8_passes (zRet zn) (fX8_passes_L0 n w) 0 [(0, .ref 74)] [] w := by
  intro n
  induction n with
  | zero => intro  w; exact tz_eq (fX8_passes_L0.eq_1 _) tz_none
  | succ n ih =>
    intro  w
    refine tz_eq (fX8_passes_L0.eq_2 _ _) ?_
    refine tz_aload_n 0 rfl (zd DX8_passes 0 rfl) ?_
    refine tz_getI 5 kz8 (zs_74) (by decide) rfl wk_862 (zd DX8_passes 1 rfl) ?_
    refine tz_aload_n 0 rfl (zd DX8_passes 2 rfl) ?_
    refine tz_getI 6 kz8 (zs_74) (by decide) rfl wk_863 (zd DX8_passes 3 rfl) ?_
    refine tz_icmp_ge 38 (zd DX8_passes 4 rfl) rfl (fun q1 => ?_) (fun q1 => ?_)
    · exact tz_vret rfl (zd DX8_passes 19 rfl)
    refine tz_aload_n 0 rfl (zd DX8_passes 5 rfl) ?_
    refine tz_getR 76 3 kz8 (zs_74) (by decide) (by decide) rfl wk_860 (zd DX8_passes 6 rfl) ?_
    refine tz_aload_n 0 rfl (zd DX8_passes 7 rfl) ?_
    refine tz_getI 5 kz8 (zs_74) (by decide) rfl wk_862 (zd DX8_passes 8 rfl) ?_
    refine tz_iald (zs_76.1) (zs_76.2) (zd DX8_passes 9 rfl) ?_
    refine tz_bipush (32 : Int32) zk_bipush_32 (zd DX8_passes 10 rfl) ?_
    refine tz_icmp_ne 38 (zd DX8_passes 11 rfl) rfl (fun q2 => ?_) (fun q2 => ?_)
    · exact tz_vret rfl (zd DX8_passes 19 rfl)
    refine tz_aload_n 0 rfl (zd DX8_passes 12 rfl) ?_
    refine tz_dupa (zd DX8_passes 13 rfl) ?_
    refine tz_getI 5 kz8 (zs_74) (by decide) rfl wk_862 (zd DX8_passes 14 rfl) ?_
    refine tz_iconst (1 : Int32) zk_iconst_1 (zd DX8_passes 15 rfl) ?_
    refine tz_iadd (zd DX8_passes 16 rfl) ?_
    refine tz_putI 5 kz8 (zs_74) (by decide) rfl rfl wk_862 (zd DX8_passes 17 rfl) (fun w3 => ?_)
    refine tz_goto 0 (zd DX8_passes 18 rfl) rfl ?_
    exact ih w3
set_option maxHeartbeats 4000000 in
set_option maxRecDepth 100000 in
theorem tX8_passes  (w : zW) : Sm yX8_passes MX8_passes zn [.ref 74] w (fX8_passes w) := by
  refine Sm_of (lv0 := [(0, .ref 74)]) (by decide) rfl (fun _ => Nat.le_of_ble_eq_true rfl) rfl ?_
  unfold fX8_passes
  exact lX8_passes_L0 zFU w
def QX8_readsAct : List (Nat × Instr × Nat) := [(0, .aload_n 0, 1), (1, .getfield 17, 3), (4, .aload_n 0, 1), (5, .getfield 28, 3), (8, .iaload, 1), (9, .istore_n 2, 1), (10, .iload_n 2, 1), (11, .bipush 102, 2), (13, .if_icmp .eq 9, 3), (16, .iload_n 2, 1), (17, .bipush 98, 2), (19, .if_icmp .ne 7, 3), (22, .iconst 1, 1), (23, .goto 4, 3), (26, .iconst 0, 1), (27, .istore_n 3, 1), (28, .iload_n 3, 1), (29, .ifCond .ne 23, 3), (32, .iload_n 2, 1), (33, .bipush 70, 2), (35, .if_icmp .eq 17, 3), (38, .iload_n 2, 1), (39, .bipush 66, 2), (41, .if_icmp .eq 11, 3), (44, .iload_n 2, 1), (45, .bipush 114, 2), (47, .if_icmp .eq 5, 3), (50, .iconst 0, 1), (51, .ireturn, 1), (52, .aload_n 0, 1), (53, .dup, 1), (54, .getfield 28, 3), (57, .iconst 1, 1), (58, .iadd, 1), (59, .putfield 28, 3), (62, .aload_n 0, 1), (63, .getfield 87, 3), (66, .iload_n 1, 1), (67, .iload_n 2, 1), (68, .iastore, 1), (69, .iload_n 3, 1), (70, .ifCond .ne 5, 3), (73, .iconst 1, 1), (74, .ireturn, 1), (75, .iconst 0, 1), (76, .istore 4, 2), (78, .iconst 0, 1), (79, .istore 5, 2), (81, .aload_n 0, 1), (82, .invokevirtual 218, 3), (85, .ifCond .eq 45, 3), (88, .iload 5, 2), (90, .iconst 4, 1), (91, .if_icmp .ge 39, 3), (94, .bipush 10, 2), (96, .iload 4, 2), (98, .imul, 1), (99, .aload_n 0, 1), (100, .getfield 17, 3), (103, .aload_n 0, 1), (104, .getfield 28, 3), (107, .iaload, 1), (108, .iadd, 1), (109, .bipush 48, 2), (111, .isub, 1), (112, .istore 4, 2), (114, .aload_n 0, 1), (115, .dup, 1), (116, .getfield 28, 3), (119, .iconst 1, 1), (120, .iadd, 1), (121, .putfield 28, 3), (124, .iinc 5 1, 3), (127, .goto (-46), 3), (130, .aload_n 0, 1), (131, .getfield 90, 3), (134, .iload_n 1, 1), (135, .iload 4, 2), (137, .iastore, 1), (138, .iload 5, 2), (140, .ifCond .le 14, 3), (143, .aload_n 0, 1), (144, .invokevirtual 218, 3), (147, .ifCond .ne 7, 3), (150, .iconst 1, 1), (151, .goto 4, 3), (154, .iconst 0, 1), (155, .ireturn, 1)]
set_option maxRecDepth 100000 in
theorem DX8_readsAct : ∀ q ∈ QX8_readsAct, decode cX8_readsAct q.1 = .ok (q.2.1, q.2.2) := by decide +kernel
abbrev MX8_readsAct : zM := (cX8_readsAct, "EndSumsModel", 6, (some .boolean), { frames := 2, cells := 0, slots := 0, locals := 45 })
def fX8_readsAct_L81 (x1 : Int32) : Nat → Int32 → Int32 → zW → Option (Bool × zW)
  | 0, _, _, _ => none
  | n + 1, x4, x5, w =>
    bd (fX8_isDigit w) fun b11 w9 =>
    lt (fun (w12 : zW) =>
      zg (zin x1 100) <| lt (zsI w12 91 x1.toNatClampNeg x4) fun w13 =>
      if x5 ≤ (0 : Int32) then
        some (false, w13)
      else
      bd (fX8_isDigit w13) fun b17 w15 =>
      if b17 = true then
        some (false, w15)
      else
      some (true, w15)) fun j12 =>
    if b11 = true then
      if (4 : Int32) ≤ x5 then
        j12 w9
      else
      zg (zin (zI w9 74 5) 100) <|
      lt ((((10 : Int32) * x4) + (zI w9 76 (zI w9 74 5).toNatClampNeg)) - (48 : Int32)) fun v21 =>
      lt (zsI w9 74 5 ((zI w9 74 5) + (1 : Int32))) fun w22 =>
      fX8_readsAct_L81 x1 n v21 (x5 + (1 : Int32)) w22
    else
    j12 w9
def fX8_readsAct (a1 : Int32) (w : zW) : Option (Bool × zW) :=
  zg (zin (zI w 74 5) 100) <|
  lt (zI w 76 (zI w 74 5).toNatClampNeg) fun v1 =>
  lt (if v1 = (102 : Int32) then (1 : Int32) else if ¬ v1 = (98 : Int32) then (0 : Int32) else (1 : Int32)) fun v4 =>
  lt (fun (w5 : zW) =>
    lt (zsI w5 74 5 ((zI w5 74 5) + (1 : Int32))) fun w6 =>
    zg (zin a1 100) <| lt (zsI w6 90 a1.toNatClampNeg v1) fun w7 =>
    if ¬ v4 = (0 : Int32) then
      fX8_readsAct_L81 a1 zFU (0 : Int32) (0 : Int32) w7
    else
    some (true, w7)) fun j5 =>
  if ¬ v4 = (0 : Int32) then
    j5 w
  else
  if v1 = (70 : Int32) then
    j5 w
  else
  if v1 = (66 : Int32) then
    j5 w
  else
  if v1 = (114 : Int32) then
    j5 w
  else
  some (false, w)
theorem YX8_readsAct : zYV yX8_readsAct MX8_readsAct 1 := ⟨wk_1195, wk_9, ⟨wk_1194, ws_108⟩, ⟨by decide, by decide, by decide +kernel⟩, rfl, rfl⟩
set_option maxHeartbeats 4000000 in
set_option maxRecDepth 100000 in
theorem lX8_readsAct_L81 (x1 : Int32) : ∀ (n : Nat) (x4 : Int32) (x5 : Int32) (w : zW), Tz MX8_readsAct (zRet zz) (fX8_readsAct_L81 x1 n x4 x5 w) 81 [(0, .ref 74), (1, .int x1), (4, .int x4), (5, .int x5)] [] w := by
  intro n
  induction n with
  | zero => intro x4 x5 w; exact tz_eq (fX8_readsAct_L81.eq_1 _ _ _ _) tz_none
  | succ n ih =>
    intro x4 x5 w
    refine tz_eq (fX8_readsAct_L81.eq_2 _ _ _ _ _) ?_
    refine tz_aload_n 0 rfl (zd DX8_readsAct 48 rfl) ?_
    refine tz_cV_z kz8 (zs_74) rfl (rest := []) (YX8_isDigit) wk_1083 (tX8_isDigit w) rfl rfl (Nat.le_of_ble_eq_true rfl) ⟨Nat.le_of_ble_eq_true rfl, Nat.le_of_ble_eq_true rfl⟩ (zd DX8_readsAct 49 rfl) (fun b11 w9 e10 => ?_)
    refine tz_jp (P := fun j => ∀ (w12 : zW), Tz MX8_readsAct (zRet zz) (j w12) 130 [(0, .ref 74), (1, .int x1), (4, .int x4), (5, .int x5)] [] w12) ?_ (fun j12 hj12 => ?_)
    · intro w12
      refine tz_aload_n 0 rfl (zd DX8_readsAct 74 rfl) ?_
      refine tz_getR 91 29 kz8 (zs_74) (by decide) (by decide) rfl wk_886 (zd DX8_readsAct 75 rfl) ?_
      refine tz_iload_n 1 rfl (zd DX8_readsAct 76 rfl) ?_
      refine tz_iload 2 rfl (zd DX8_readsAct 77 rfl) ?_
      refine tz_iast (zs_91.1) (zs_91.2) (zd DX8_readsAct 78 rfl) (fun w13 => ?_)
      refine tz_iload 3 rfl (zd DX8_readsAct 79 rfl) ?_
      refine tz_if_le 154 (zd DX8_readsAct 80 rfl) rfl (fun q14 => ?_) (fun q14 => ?_)
      · refine tz_iconst (0 : Int32) zk_iconst_0 (zd DX8_readsAct 86 rfl) ?_
        exact tz_zret0 rfl (zd DX8_readsAct 87 rfl)
      refine tz_aload_n 0 rfl (zd DX8_readsAct 81 rfl) ?_
      refine tz_cV_z kz8 (zs_74) rfl (rest := []) (YX8_isDigit) wk_1083 (tX8_isDigit w13) rfl rfl (Nat.le_of_ble_eq_true rfl) ⟨Nat.le_of_ble_eq_true rfl, Nat.le_of_ble_eq_true rfl⟩ (zd DX8_readsAct 82 rfl) (fun b17 w15 e16 => ?_)
      refine tz_bif_ne 154 (zd DX8_readsAct 83 rfl) rfl (fun q18 => ?_) (fun q18 => ?_)
      · refine tz_iconst (0 : Int32) zk_iconst_0 (zd DX8_readsAct 86 rfl) ?_
        exact tz_zret0 rfl (zd DX8_readsAct 87 rfl)
      refine tz_iconst (1 : Int32) zk_iconst_1 (zd DX8_readsAct 84 rfl) ?_
      refine tz_goto 155 (zd DX8_readsAct 85 rfl) rfl ?_
      exact tz_zret1 rfl (zd DX8_readsAct 87 rfl)
    refine tz_bif_eq 130 (zd DX8_readsAct 50 rfl) rfl (fun q19 => ?_) (fun q19 => ?_)
    · refine tz_iload 3 rfl (zd DX8_readsAct 51 rfl) ?_
      refine tz_iconst (4 : Int32) zk_iconst_4 (zd DX8_readsAct 52 rfl) ?_
      refine tz_icmp_ge 130 (zd DX8_readsAct 53 rfl) rfl (fun q20 => ?_) (fun q20 => ?_)
      · exact hj12 w9
      refine tz_bipush (10 : Int32) zk_bipush_10 (zd DX8_readsAct 54 rfl) ?_
      refine tz_iload 2 rfl (zd DX8_readsAct 55 rfl) ?_
      refine tz_imul (zd DX8_readsAct 56 rfl) ?_
      refine tz_aload_n 0 rfl (zd DX8_readsAct 57 rfl) ?_
      refine tz_getR 76 3 kz8 (zs_74) (by decide) (by decide) rfl wk_860 (zd DX8_readsAct 58 rfl) ?_
      refine tz_aload_n 0 rfl (zd DX8_readsAct 59 rfl) ?_
      refine tz_getI 5 kz8 (zs_74) (by decide) rfl wk_862 (zd DX8_readsAct 60 rfl) ?_
      refine tz_iald (zs_76.1) (zs_76.2) (zd DX8_readsAct 61 rfl) ?_
      refine tz_iadd (zd DX8_readsAct 62 rfl) ?_
      refine tz_bipush (48 : Int32) zk_bipush_48 (zd DX8_readsAct 63 rfl) ?_
      refine tz_isub (zd DX8_readsAct 64 rfl) ?_
      refine tz_lti (fun v21 => ?_)
      refine tz_istore [(4, .int v21), (0, .ref 74), (1, .int x1), (5, .int x5)] (Nat.le_of_ble_eq_true rfl) rfl (zd DX8_readsAct 65 rfl) ?_
      refine tz_aload_n 1 rfl (zd DX8_readsAct 66 rfl) ?_
      refine tz_dupa (zd DX8_readsAct 67 rfl) ?_
      refine tz_getI 5 kz8 (zs_74) (by decide) rfl wk_862 (zd DX8_readsAct 68 rfl) ?_
      refine tz_iconst (1 : Int32) zk_iconst_1 (zd DX8_readsAct 69 rfl) ?_
      refine tz_iadd (zd DX8_readsAct 70 rfl) ?_
      refine tz_putI 5 kz8 (zs_74) (by decide) rfl rfl wk_862 (zd DX8_readsAct 71 rfl) (fun w22 => ?_)
      refine tz_iinc 3 (1 : Int32) [(5, .int (x5 + (1 : Int32))), (4, .int v21), (0, .ref 74), (1, .int x1)] rfl zk_iconst_1 (Nat.le_of_ble_eq_true rfl) rfl (zd DX8_readsAct 72 rfl) ?_
      refine tz_goto 81 (zd DX8_readsAct 73 rfl) rfl ?_
      refine tz_lv (lv2 := [(0, .ref 74), (1, .int x1), (4, .int v21), (5, .int (x5 + (1 : Int32)))]) [2, 3, 1, 0] rfl ?_
      exact ih v21 (x5 + (1 : Int32)) w22
    exact hj12 w9
set_option maxHeartbeats 4000000 in
set_option maxRecDepth 100000 in
theorem tX8_readsAct (a1 : Int32) (w : zW) : Sm yX8_readsAct MX8_readsAct zz [.ref 74, .int a1] w (fX8_readsAct a1 w) := by
  refine Sm_of (lv0 := [(0, .ref 74), (1, .int a1)]) (by decide) rfl (fun _ => Nat.le_of_ble_eq_true rfl) rfl ?_
  unfold fX8_readsAct
  refine tz_aload_n 0 rfl (zd DX8_readsAct 0 rfl) ?_
  refine tz_getR 76 3 kz8 (zs_74) (by decide) (by decide) rfl wk_860 (zd DX8_readsAct 1 rfl) ?_
  refine tz_aload_n 0 rfl (zd DX8_readsAct 2 rfl) ?_
  refine tz_getI 5 kz8 (zs_74) (by decide) rfl wk_862 (zd DX8_readsAct 3 rfl) ?_
  refine tz_iald (zs_76.1) (zs_76.2) (zd DX8_readsAct 4 rfl) ?_
  refine tz_lti (fun v1 => ?_)
  refine tz_istore_n [(2, .int v1), (0, .ref 74), (1, .int a1)] (Nat.le_of_ble_eq_true rfl) rfl (zd DX8_readsAct 5 rfl) ?_
  refine tz_iload_n 0 rfl (zd DX8_readsAct 6 rfl) ?_
  refine tz_bipush (102 : Int32) zk_bipush_102 (zd DX8_readsAct 7 rfl) ?_
  refine tz_dia (P := fun F => ∀ v : Int32, Tz MX8_readsAct (zRet zz) (F v) 27 [(2, .int v1), (0, .ref 74), (1, .int a1)] (.int v :: []) w) ?_ (fun _ hJ27 => ?_)
  · intro v4
    refine tz_istore_n [(3, .int v4), (2, .int v1), (0, .ref 74), (1, .int a1)] (Nat.le_of_ble_eq_true rfl) rfl (zd DX8_readsAct 15 rfl) ?_
    refine tz_iload_n 0 rfl (zd DX8_readsAct 16 rfl) ?_
    refine tz_jp (P := fun j => ∀ (w5 : zW), Tz MX8_readsAct (zRet zz) (j w5) 52 [(0, .ref 74), (1, .int a1), (2, .int v1), (3, .int v4)] [] w5) ?_ (fun j5 hj5 => ?_)
    · intro w5
      refine tz_aload_n 0 rfl (zd DX8_readsAct 29 rfl) ?_
      refine tz_dupa (zd DX8_readsAct 30 rfl) ?_
      refine tz_getI 5 kz8 (zs_74) (by decide) rfl wk_862 (zd DX8_readsAct 31 rfl) ?_
      refine tz_iconst (1 : Int32) zk_iconst_1 (zd DX8_readsAct 32 rfl) ?_
      refine tz_iadd (zd DX8_readsAct 33 rfl) ?_
      refine tz_putI 5 kz8 (zs_74) (by decide) rfl rfl wk_862 (zd DX8_readsAct 34 rfl) (fun w6 => ?_)
      refine tz_aload_n 0 rfl (zd DX8_readsAct 35 rfl) ?_
      refine tz_getR 90 28 kz8 (zs_74) (by decide) (by decide) rfl wk_885 (zd DX8_readsAct 36 rfl) ?_
      refine tz_iload_n 1 rfl (zd DX8_readsAct 37 rfl) ?_
      refine tz_iload_n 2 rfl (zd DX8_readsAct 38 rfl) ?_
      refine tz_iast (zs_90.1) (zs_90.2) (zd DX8_readsAct 39 rfl) (fun w7 => ?_)
      refine tz_iload_n 3 rfl (zd DX8_readsAct 40 rfl) ?_
      refine tz_if_ne 75 (zd DX8_readsAct 41 rfl) rfl (fun q8 => ?_) (fun q8 => ?_)
      · refine tz_iconst (0 : Int32) zk_iconst_0 (zd DX8_readsAct 44 rfl) ?_
        refine tz_istore [(4, .int (0 : Int32)), (0, .ref 74), (1, .int a1), (2, .int v1), (3, .int v4)] (Nat.le_of_ble_eq_true rfl) rfl (zd DX8_readsAct 45 rfl) ?_
        refine tz_iconst (0 : Int32) zk_iconst_0 (zd DX8_readsAct 46 rfl) ?_
        refine tz_istore [(5, .int (0 : Int32)), (4, .int (0 : Int32)), (0, .ref 74), (1, .int a1), (2, .int v1), (3, .int v4)] (Nat.le_of_ble_eq_true rfl) rfl (zd DX8_readsAct 47 rfl) ?_
        refine tz_lv (lv2 := [(0, .ref 74), (1, .int a1), (4, .int (0 : Int32)), (5, .int (0 : Int32))]) [2, 3, 1, 0] rfl ?_
        exact lX8_readsAct_L81 a1 zFU (0 : Int32) (0 : Int32) w7
      refine tz_iconst (1 : Int32) zk_iconst_1 (zd DX8_readsAct 42 rfl) ?_
      exact tz_zret1 rfl (zd DX8_readsAct 43 rfl)
    refine tz_if_ne 52 (zd DX8_readsAct 17 rfl) rfl (fun q23 => ?_) (fun q23 => ?_)
    · refine tz_lv (lv2 := [(0, .ref 74), (1, .int a1), (2, .int v1), (3, .int v4)]) [2, 3, 1, 0] rfl ?_
      exact hj5 w
    refine tz_iload_n 1 rfl (zd DX8_readsAct 18 rfl) ?_
    refine tz_bipush (70 : Int32) zk_bipush_70 (zd DX8_readsAct 19 rfl) ?_
    refine tz_icmp_eq 52 (zd DX8_readsAct 20 rfl) rfl (fun q24 => ?_) (fun q24 => ?_)
    · refine tz_lv (lv2 := [(0, .ref 74), (1, .int a1), (2, .int v1), (3, .int v4)]) [2, 3, 1, 0] rfl ?_
      exact hj5 w
    refine tz_iload_n 1 rfl (zd DX8_readsAct 21 rfl) ?_
    refine tz_bipush (66 : Int32) zk_bipush_66 (zd DX8_readsAct 22 rfl) ?_
    refine tz_icmp_eq 52 (zd DX8_readsAct 23 rfl) rfl (fun q25 => ?_) (fun q25 => ?_)
    · refine tz_lv (lv2 := [(0, .ref 74), (1, .int a1), (2, .int v1), (3, .int v4)]) [2, 3, 1, 0] rfl ?_
      exact hj5 w
    refine tz_iload_n 1 rfl (zd DX8_readsAct 24 rfl) ?_
    refine tz_bipush (114 : Int32) zk_bipush_114 (zd DX8_readsAct 25 rfl) ?_
    refine tz_icmp_eq 52 (zd DX8_readsAct 26 rfl) rfl (fun q26 => ?_) (fun q26 => ?_)
    · refine tz_lv (lv2 := [(0, .ref 74), (1, .int a1), (2, .int v1), (3, .int v4)]) [2, 3, 1, 0] rfl ?_
      exact hj5 w
    refine tz_iconst (0 : Int32) zk_iconst_0 (zd DX8_readsAct 27 rfl) ?_
    exact tz_zret0 rfl (zd DX8_readsAct 28 rfl)
  refine tz_ite ?_
  refine tz_icmp_eq 22 (zd DX8_readsAct 8 rfl) rfl (fun q2 => ?_) (fun q2 => ?_)
  · refine tz_iconst (1 : Int32) zk_iconst_1 (zd DX8_readsAct 12 rfl) ?_
    refine tz_goto 27 (zd DX8_readsAct 13 rfl) rfl ?_
    exact hJ27 (1 : Int32)
  refine tz_iload_n 0 rfl (zd DX8_readsAct 9 rfl) ?_
  refine tz_bipush (98 : Int32) zk_bipush_98 (zd DX8_readsAct 10 rfl) ?_
  refine tz_ite ?_
  refine tz_icmp_ne 26 (zd DX8_readsAct 11 rfl) rfl (fun q3 => ?_) (fun q3 => ?_)
  · refine tz_iconst (0 : Int32) zk_iconst_0 (zd DX8_readsAct 14 rfl) ?_
    exact hJ27 (0 : Int32)
  refine tz_iconst (1 : Int32) zk_iconst_1 (zd DX8_readsAct 12 rfl) ?_
  refine tz_goto 27 (zd DX8_readsAct 13 rfl) rfl ?_
  exact hJ27 (1 : Int32)
def QX8_does : List (Nat × Instr × Nat) := [(0, .aload_n 0, 1), (1, .getfield 87, 3), (4, .iload_n 2, 1), (5, .iaload, 1), (6, .lookupswitch 95 #[(98, 34), (102, 34), (114, 81)], 34), (40, .aload_n 0, 1), (41, .iload_n 1, 1), (42, .invokevirtual 187, 3), (45, .bipush 64, 2), (47, .if_icmp .ne 5, 3), (50, .iconst 0, 1), (51, .ireturn, 1), (52, .aload_n 0, 1), (53, .iconst 2, 1), (54, .iload_n 1, 1), (55, .imul, 1), (56, .aload_n 0, 1), (57, .getfield 87, 3), (60, .iload_n 2, 1), (61, .iaload, 1), (62, .bipush 98, 2), (64, .if_icmp .ne 7, 3), (67, .iconst 1, 1), (68, .goto 4, 3), (71, .iconst 0, 1), (72, .invokestatic 31, 3), (75, .iadd, 1), (76, .aload_n 0, 1), (77, .getfield 90, 3), (80, .iload_n 2, 1), (81, .iaload, 1), (82, .invokevirtual 193, 3), (85, .iconst 1, 1), (86, .ireturn, 1), (87, .aload_n 0, 1), (88, .iload_n 1, 1), (89, .invokevirtual 252, 3), (92, .ifCond .lt 7, 3), (95, .iconst 1, 1), (96, .goto 4, 3), (99, .iconst 0, 1), (100, .ireturn, 1), (101, .aload_n 0, 1), (102, .iload_n 1, 1), (103, .invokevirtual 187, 3), (106, .ifCond .le 34, 3), (109, .aload_n 0, 1), (110, .iload_n 1, 1), (111, .aload_n 0, 1), (112, .getfield 87, 3), (115, .iload_n 2, 1), (116, .iaload, 1), (117, .bipush 66, 2), (119, .if_icmp .ne 7, 3), (122, .iconst 1, 1), (123, .goto 4, 3), (126, .iconst 0, 1), (127, .invokestatic 31, 3), (130, .invokevirtual 243, 3), (133, .ifCond .lt 7, 3), (136, .iconst 1, 1), (137, .goto 4, 3), (140, .iconst 0, 1), (141, .ireturn, 1)]
set_option maxRecDepth 100000 in
theorem DX8_does : ∀ q ∈ QX8_does, decode cX8_does q.1 = .ok (q.2.1, q.2.2) := by decide +kernel
abbrev MX8_does : zM := (cX8_does, "EndSumsModel", 3, (some .boolean), { frames := 7, cells := 0, slots := 0, locals := 177 })
def fX8_does (a1 : Int32) (a2 : Int32) (w : zW) : Option (Bool × zW) :=
  zg (zin a2 100) <|
  if (zI w 90 a2.toNatClampNeg) = (98 : Int32) then
    bd (fX8_sizeOf a1 w) fun v4 w2 =>
    if ¬ v4 = (64 : Int32) then
      zg (zin a2 100) <|
      lt (if ¬ (zI w2 90 a2.toNatClampNeg) = (98 : Int32) then (0 : Int32) else (1 : Int32)) fun v7 =>
      bd (fX8_flag v7 w2) fun v10 w8 =>
      zg (zin a2 100) <|
      bd (fX8_makes (((2 : Int32) * a1) + v10) (zI w8 91 a2.toNatClampNeg) w8) fun _ w11 =>
      some (true, w11)
    else
    some (false, w2)
  else
  if (zI w 90 a2.toNatClampNeg) = (102 : Int32) then
    bd (fX8_sizeOf a1 w) fun v17 w15 =>
    if ¬ v17 = (64 : Int32) then
      zg (zin a2 100) <|
      lt (if ¬ (zI w15 90 a2.toNatClampNeg) = (98 : Int32) then (0 : Int32) else (1 : Int32)) fun v20 =>
      bd (fX8_flag v20 w15) fun v23 w21 =>
      zg (zin a2 100) <|
      bd (fX8_makes (((2 : Int32) * a1) + v23) (zI w21 91 a2.toNatClampNeg) w21) fun _ w24 =>
      some (true, w24)
    else
    some (false, w15)
  else
  if (zI w 90 a2.toNatClampNeg) = (114 : Int32) then
    bd (fX8_turns a1 w) fun v30 w28 =>
    if v30 < (0 : Int32) then
      some (false, w28)
    else
    some (true, w28)
  else
  bd (fX8_sizeOf a1 w) fun v34 w32 =>
  if v34 ≤ (0 : Int32) then
    some (false, w32)
  else
  zg (zin a2 100) <|
  lt (if ¬ (zI w32 90 a2.toNatClampNeg) = (66 : Int32) then (0 : Int32) else (1 : Int32)) fun v37 =>
  bd (fX8_flag v37 w32) fun v40 w38 =>
  bd (fX8_takesOne a1 v40 w38) fun v43 w41 =>
  if v43 < (0 : Int32) then
    some (false, w41)
  else
  some (true, w41)
theorem YX8_does : zYV yX8_does MX8_does 2 := ⟨wk_1199, wk_9, ⟨wk_1198, ws_109⟩, ⟨by decide, by decide, by decide +kernel⟩, rfl, rfl⟩
set_option maxHeartbeats 4000000 in
set_option maxRecDepth 100000 in
theorem tX8_does (a1 : Int32) (a2 : Int32) (w : zW) : Sm yX8_does MX8_does zz [.ref 74, .int a1, .int a2] w (fX8_does a1 a2 w) := by
  refine Sm_of (lv0 := [(0, .ref 74), (1, .int a1), (2, .int a2)]) (by decide) rfl (fun _ => Nat.le_of_ble_eq_true rfl) rfl ?_
  unfold fX8_does
  refine tz_aload_n 0 rfl (zd DX8_does 0 rfl) ?_
  refine tz_getR 90 28 kz8 (zs_74) (by decide) (by decide) rfl wk_885 (zd DX8_does 1 rfl) ?_
  refine tz_iload_n 2 rfl (zd DX8_does 2 rfl) ?_
  refine tz_iald (zs_90.1) (zs_90.2) (zd DX8_does 3 rfl) ?_
  refine tz_case (fun q1 => ?_) (fun q1 => ?_)
  · refine tz_lsw 40 (by decide) (off := 34) (by rw [q1]; decide) (zd DX8_does 4 rfl) rfl ?_
    refine tz_aload_n 0 rfl (zd DX8_does 5 rfl) ?_
    refine tz_iload_n 1 rfl (zd DX8_does 6 rfl) ?_
    refine tz_cV_i kz8 (zs_74) rfl (rest := []) (YX8_sizeOf) wk_1042 (tX8_sizeOf a1 w) rfl rfl (Nat.le_of_ble_eq_true rfl) ⟨Nat.le_of_ble_eq_true rfl, Nat.le_of_ble_eq_true rfl⟩ (zd DX8_does 7 rfl) (fun v4 w2 e3 => ?_)
    refine tz_bipush (64 : Int32) zk_bipush_64 (zd DX8_does 8 rfl) ?_
    refine tz_icmp_ne 52 (zd DX8_does 9 rfl) rfl (fun q5 => ?_) (fun q5 => ?_)
    · refine tz_aload_n 0 rfl (zd DX8_does 12 rfl) ?_
      refine tz_iconst (2 : Int32) zk_iconst_2 (zd DX8_does 13 rfl) ?_
      refine tz_iload_n 1 rfl (zd DX8_does 14 rfl) ?_
      refine tz_imul (zd DX8_does 15 rfl) ?_
      refine tz_aload_n 0 rfl (zd DX8_does 16 rfl) ?_
      refine tz_getR 90 28 kz8 (zs_74) (by decide) (by decide) rfl wk_885 (zd DX8_does 17 rfl) ?_
      refine tz_iload_n 2 rfl (zd DX8_does 18 rfl) ?_
      refine tz_iald (zs_90.1) (zs_90.2) (zd DX8_does 19 rfl) ?_
      refine tz_bipush (98 : Int32) zk_bipush_98 (zd DX8_does 20 rfl) ?_
      refine tz_dia (P := fun F => ∀ v : Int32, Tz MX8_does (zRet zz) (F v) 72 [(0, .ref 74), (1, .int a1), (2, .int a2)] (.int v :: [.int ((2 : Int32) * a1), .ref 74]) w2) ?_ (fun _ hJ72 => ?_)
      · intro v7
        refine tz_cS_i (rest := [.int ((2 : Int32) * a1), .ref 74]) (YX8_flag) wk_981 (tX8_flag v7 w2) rfl rfl (Nat.le_of_ble_eq_true rfl) ⟨Nat.le_of_ble_eq_true rfl, Nat.le_of_ble_eq_true rfl⟩ (zd DX8_does 25 rfl) (fun v10 w8 e9 => ?_)
        refine tz_iadd (zd DX8_does 26 rfl) ?_
        refine tz_aload_n 0 rfl (zd DX8_does 27 rfl) ?_
        refine tz_getR 91 29 kz8 (zs_74) (by decide) (by decide) rfl wk_886 (zd DX8_does 28 rfl) ?_
        refine tz_iload_n 2 rfl (zd DX8_does 29 rfl) ?_
        refine tz_iald (zs_91.1) (zs_91.2) (zd DX8_does 30 rfl) ?_
        refine tz_cV_n kz8 (zs_74) rfl (rest := []) (YX8_makes) wk_1061 (tX8_makes (((2 : Int32) * a1) + v10) (zI w8 91 a2.toNatClampNeg) w8) rfl rfl (Nat.le_of_ble_eq_true rfl) ⟨Nat.le_of_ble_eq_true rfl, Nat.le_of_ble_eq_true rfl⟩ (zd DX8_does 31 rfl) (fun v13 w11 e12 => ?_)
        refine tz_iconst (1 : Int32) zk_iconst_1 (zd DX8_does 32 rfl) ?_
        exact tz_zret1 rfl (zd DX8_does 33 rfl)
      refine tz_ite ?_
      refine tz_icmp_ne 71 (zd DX8_does 21 rfl) rfl (fun q6 => ?_) (fun q6 => ?_)
      · refine tz_iconst (0 : Int32) zk_iconst_0 (zd DX8_does 24 rfl) ?_
        exact hJ72 (0 : Int32)
      refine tz_iconst (1 : Int32) zk_iconst_1 (zd DX8_does 22 rfl) ?_
      refine tz_goto 72 (zd DX8_does 23 rfl) rfl ?_
      exact hJ72 (1 : Int32)
    refine tz_iconst (0 : Int32) zk_iconst_0 (zd DX8_does 10 rfl) ?_
    exact tz_zret0 rfl (zd DX8_does 11 rfl)
  refine tz_case (fun q14 => ?_) (fun q14 => ?_)
  · refine tz_lsw 40 (by decide) (off := 34) (by rw [q14]; decide) (zd DX8_does 4 rfl) rfl ?_
    refine tz_aload_n 0 rfl (zd DX8_does 5 rfl) ?_
    refine tz_iload_n 1 rfl (zd DX8_does 6 rfl) ?_
    refine tz_cV_i kz8 (zs_74) rfl (rest := []) (YX8_sizeOf) wk_1042 (tX8_sizeOf a1 w) rfl rfl (Nat.le_of_ble_eq_true rfl) ⟨Nat.le_of_ble_eq_true rfl, Nat.le_of_ble_eq_true rfl⟩ (zd DX8_does 7 rfl) (fun v17 w15 e16 => ?_)
    refine tz_bipush (64 : Int32) zk_bipush_64 (zd DX8_does 8 rfl) ?_
    refine tz_icmp_ne 52 (zd DX8_does 9 rfl) rfl (fun q18 => ?_) (fun q18 => ?_)
    · refine tz_aload_n 0 rfl (zd DX8_does 12 rfl) ?_
      refine tz_iconst (2 : Int32) zk_iconst_2 (zd DX8_does 13 rfl) ?_
      refine tz_iload_n 1 rfl (zd DX8_does 14 rfl) ?_
      refine tz_imul (zd DX8_does 15 rfl) ?_
      refine tz_aload_n 0 rfl (zd DX8_does 16 rfl) ?_
      refine tz_getR 90 28 kz8 (zs_74) (by decide) (by decide) rfl wk_885 (zd DX8_does 17 rfl) ?_
      refine tz_iload_n 2 rfl (zd DX8_does 18 rfl) ?_
      refine tz_iald (zs_90.1) (zs_90.2) (zd DX8_does 19 rfl) ?_
      refine tz_bipush (98 : Int32) zk_bipush_98 (zd DX8_does 20 rfl) ?_
      refine tz_dia (P := fun F => ∀ v : Int32, Tz MX8_does (zRet zz) (F v) 72 [(0, .ref 74), (1, .int a1), (2, .int a2)] (.int v :: [.int ((2 : Int32) * a1), .ref 74]) w15) ?_ (fun _ hJ72 => ?_)
      · intro v20
        refine tz_cS_i (rest := [.int ((2 : Int32) * a1), .ref 74]) (YX8_flag) wk_981 (tX8_flag v20 w15) rfl rfl (Nat.le_of_ble_eq_true rfl) ⟨Nat.le_of_ble_eq_true rfl, Nat.le_of_ble_eq_true rfl⟩ (zd DX8_does 25 rfl) (fun v23 w21 e22 => ?_)
        refine tz_iadd (zd DX8_does 26 rfl) ?_
        refine tz_aload_n 0 rfl (zd DX8_does 27 rfl) ?_
        refine tz_getR 91 29 kz8 (zs_74) (by decide) (by decide) rfl wk_886 (zd DX8_does 28 rfl) ?_
        refine tz_iload_n 2 rfl (zd DX8_does 29 rfl) ?_
        refine tz_iald (zs_91.1) (zs_91.2) (zd DX8_does 30 rfl) ?_
        refine tz_cV_n kz8 (zs_74) rfl (rest := []) (YX8_makes) wk_1061 (tX8_makes (((2 : Int32) * a1) + v23) (zI w21 91 a2.toNatClampNeg) w21) rfl rfl (Nat.le_of_ble_eq_true rfl) ⟨Nat.le_of_ble_eq_true rfl, Nat.le_of_ble_eq_true rfl⟩ (zd DX8_does 31 rfl) (fun v26 w24 e25 => ?_)
        refine tz_iconst (1 : Int32) zk_iconst_1 (zd DX8_does 32 rfl) ?_
        exact tz_zret1 rfl (zd DX8_does 33 rfl)
      refine tz_ite ?_
      refine tz_icmp_ne 71 (zd DX8_does 21 rfl) rfl (fun q19 => ?_) (fun q19 => ?_)
      · refine tz_iconst (0 : Int32) zk_iconst_0 (zd DX8_does 24 rfl) ?_
        exact hJ72 (0 : Int32)
      refine tz_iconst (1 : Int32) zk_iconst_1 (zd DX8_does 22 rfl) ?_
      refine tz_goto 72 (zd DX8_does 23 rfl) rfl ?_
      exact hJ72 (1 : Int32)
    refine tz_iconst (0 : Int32) zk_iconst_0 (zd DX8_does 10 rfl) ?_
    exact tz_zret0 rfl (zd DX8_does 11 rfl)
  refine tz_case (fun q27 => ?_) (fun q27 => ?_)
  · refine tz_lsw 87 (by decide) (off := 81) (by rw [q27]; decide) (zd DX8_does 4 rfl) rfl ?_
    refine tz_aload_n 0 rfl (zd DX8_does 34 rfl) ?_
    refine tz_iload_n 1 rfl (zd DX8_does 35 rfl) ?_
    refine tz_cV_i kz8 (zs_74) rfl (rest := []) (YX8_turns) wk_1143 (tX8_turns a1 w) rfl rfl (Nat.le_of_ble_eq_true rfl) ⟨Nat.le_of_ble_eq_true rfl, Nat.le_of_ble_eq_true rfl⟩ (zd DX8_does 36 rfl) (fun v30 w28 e29 => ?_)
    refine tz_if_lt 99 (zd DX8_does 37 rfl) rfl (fun q31 => ?_) (fun q31 => ?_)
    · refine tz_iconst (0 : Int32) zk_iconst_0 (zd DX8_does 40 rfl) ?_
      exact tz_zret0 rfl (zd DX8_does 41 rfl)
    refine tz_iconst (1 : Int32) zk_iconst_1 (zd DX8_does 38 rfl) ?_
    refine tz_goto 100 (zd DX8_does 39 rfl) rfl ?_
    exact tz_zret1 rfl (zd DX8_does 41 rfl)
  refine tz_lsw 101 (by decide) (off := 95) (by have eq1 := z_ne q1; have eq14 := z_ne q14; have eq27 := z_ne q27; rw [show ((98 : Int32)).toInt = 98 from rfl] at eq1; rw [show ((102 : Int32)).toInt = 102 from rfl] at eq14; rw [show ((114 : Int32)).toInt = 114 from rfl] at eq27; simp [Op.lookupswitch.offset, Ne.symm eq1, eq1, Ne.symm eq14, eq14, Ne.symm eq27, eq27]) (zd DX8_does 4 rfl) rfl ?_
  refine tz_aload_n 0 rfl (zd DX8_does 42 rfl) ?_
  refine tz_iload_n 1 rfl (zd DX8_does 43 rfl) ?_
  refine tz_cV_i kz8 (zs_74) rfl (rest := []) (YX8_sizeOf) wk_1042 (tX8_sizeOf a1 w) rfl rfl (Nat.le_of_ble_eq_true rfl) ⟨Nat.le_of_ble_eq_true rfl, Nat.le_of_ble_eq_true rfl⟩ (zd DX8_does 44 rfl) (fun v34 w32 e33 => ?_)
  refine tz_if_le 140 (zd DX8_does 45 rfl) rfl (fun q35 => ?_) (fun q35 => ?_)
  · refine tz_iconst (0 : Int32) zk_iconst_0 (zd DX8_does 62 rfl) ?_
    exact tz_zret0 rfl (zd DX8_does 63 rfl)
  refine tz_aload_n 0 rfl (zd DX8_does 46 rfl) ?_
  refine tz_iload_n 1 rfl (zd DX8_does 47 rfl) ?_
  refine tz_aload_n 0 rfl (zd DX8_does 48 rfl) ?_
  refine tz_getR 90 28 kz8 (zs_74) (by decide) (by decide) rfl wk_885 (zd DX8_does 49 rfl) ?_
  refine tz_iload_n 2 rfl (zd DX8_does 50 rfl) ?_
  refine tz_iald (zs_90.1) (zs_90.2) (zd DX8_does 51 rfl) ?_
  refine tz_bipush (66 : Int32) zk_bipush_66 (zd DX8_does 52 rfl) ?_
  refine tz_dia (P := fun F => ∀ v : Int32, Tz MX8_does (zRet zz) (F v) 127 [(0, .ref 74), (1, .int a1), (2, .int a2)] (.int v :: [.int a1, .ref 74]) w32) ?_ (fun _ hJ127 => ?_)
  · intro v37
    refine tz_cS_i (rest := [.int a1, .ref 74]) (YX8_flag) wk_981 (tX8_flag v37 w32) rfl rfl (Nat.le_of_ble_eq_true rfl) ⟨Nat.le_of_ble_eq_true rfl, Nat.le_of_ble_eq_true rfl⟩ (zd DX8_does 57 rfl) (fun v40 w38 e39 => ?_)
    refine tz_cV_i kz8 (zs_74) rfl (rest := []) (YX8_takesOne) wk_1115 (tX8_takesOne a1 v40 w38) rfl rfl (Nat.le_of_ble_eq_true rfl) ⟨Nat.le_of_ble_eq_true rfl, Nat.le_of_ble_eq_true rfl⟩ (zd DX8_does 58 rfl) (fun v43 w41 e42 => ?_)
    refine tz_if_lt 140 (zd DX8_does 59 rfl) rfl (fun q44 => ?_) (fun q44 => ?_)
    · refine tz_iconst (0 : Int32) zk_iconst_0 (zd DX8_does 62 rfl) ?_
      exact tz_zret0 rfl (zd DX8_does 63 rfl)
    refine tz_iconst (1 : Int32) zk_iconst_1 (zd DX8_does 60 rfl) ?_
    refine tz_goto 141 (zd DX8_does 61 rfl) rfl ?_
    exact tz_zret1 rfl (zd DX8_does 63 rfl)
  refine tz_ite ?_
  refine tz_icmp_ne 126 (zd DX8_does 53 rfl) rfl (fun q36 => ?_) (fun q36 => ?_)
  · refine tz_iconst (0 : Int32) zk_iconst_0 (zd DX8_does 56 rfl) ?_
    exact hJ127 (0 : Int32)
  refine tz_iconst (1 : Int32) zk_iconst_1 (zd DX8_does 54 rfl) ?_
  refine tz_goto 127 (zd DX8_does 55 rfl) rfl ?_
  exact hJ127 (1 : Int32)
def QX8_run : List (Nat × Instr × Nat) := [(0, .aload_n 0, 1), (1, .iconst 0, 1), (2, .putfield 1, 3), (5, .aload_n 0, 1), (6, .invokevirtual 225, 3), (9, .iload_n 1, 1), (10, .invokestatic 237, 3), (13, .ifCond .ne 5, 3), (16, .iconst (-1), 1), (17, .ireturn, 1), (18, .iconst 0, 1), (19, .istore_n 2, 1), (20, .aload_n 0, 1), (21, .invokevirtual 271, 3), (24, .aload_n 0, 1), (25, .getfield 28, 3), (28, .aload_n 0, 1), (29, .getfield 25, 3), (32, .if_icmp .ge 29, 3), (35, .aload_n 0, 1), (36, .iload_n 2, 1), (37, .invokevirtual 274, 3), (40, .ifCond .ne 11, 3), (43, .bipush (-21), 2), (45, .aload_n 0, 1), (46, .getfield 28, 3), (49, .isub, 1), (50, .ireturn, 1), (51, .iinc 2 1, 3), (54, .aload_n 0, 1), (55, .invokevirtual 271, 3), (58, .goto (-34), 3), (61, .aload_n 0, 1), (62, .getfield 184, 3), (65, .istore_n 3, 1), (66, .iconst 0, 1), (67, .istore 4, 2), (69, .iload 4, 2), (71, .iload_n 2, 1), (72, .if_icmp .ge 19, 3), (75, .aload_n 0, 1), (76, .iload_n 1, 1), (77, .iload 4, 2), (79, .invokevirtual 277, 3), (82, .ifCond .eq 9, 3), (85, .iinc 4 1, 3), (88, .goto (-19), 3), (91, .aload_n 0, 1), (92, .iconst 0, 1), (93, .putfield 11, 3), (96, .aload_n 0, 1), (97, .iload 4, 2), (99, .iload_n 2, 1), (100, .if_icmp .ge 7, 3), (103, .iconst 1, 1), (104, .goto 4, 3), (107, .iconst 0, 1), (108, .invokestatic 31, 3), (111, .i2l, 1), (112, .invokevirtual 164, 3), (115, .aload_n 0, 1), (116, .aload_n 0, 1), (117, .getfield 184, 3), (120, .iload_n 3, 1), (121, .isub, 1), (122, .i2l, 1), (123, .invokevirtual 164, 3), (126, .aload_n 0, 1), (127, .iload_n 1, 1), (128, .invokevirtual 268, 3), (131, .iload 4, 2), (133, .ireturn, 1)]
set_option maxRecDepth 100000 in
theorem DX8_run : ∀ q ∈ QX8_run, decode cX8_run q.1 = .ok (q.2.1, q.2.2) := by decide +kernel
abbrev MX8_run : zM := (cX8_run, "EndSumsModel", 5, (some .int), { frames := 8, cells := 0, slots := 0, locals := 199 })
def fX8_run_L69 (x1 : Int32) (x2 : Int32) (x3 : Int32) : Nat → Int32 → zW → Option (Int32 × zW)
  | 0, _, _ => none
  | n + 1, x4, w =>
    lt (fun (w14 : zW) =>
      lt (zsI w14 74 1 (0 : Int32)) fun w15 =>
      lt (if x2 ≤ x4 then (0 : Int32) else (1 : Int32)) fun v17 =>
      bd (fX8_flag v17 w15) fun v20 w18 =>
      bd (fX8_enters (v20).toInt64 w18) fun _ w21 =>
      bd (fX8_enters ((zI w21 74 23) - x3).toInt64 w21) fun _ w24 =>
      bd (fX8_entersSummary x1 w24) fun _ w27 =>
      some (x4, w27)) fun j14 =>
    if x2 ≤ x4 then
      j14 w
    else
    bd (fX8_does x1 x4 w) fun b33 w31 =>
    if b33 = true then
      fX8_run_L69 x1 x2 x3 n (x4 + (1 : Int32)) w31
    else
    j14 w31
def fX8_run_L24 (x1 : Int32) : Nat → Int32 → zW → Option (Int32 × zW)
  | 0, _, _ => none
  | n + 1, x2, w =>
    if (zI w 74 6) ≤ (zI w 74 5) then
      lt (zI w 74 23) fun v13 =>
      fX8_run_L69 x1 x2 v13 zFU (0 : Int32) w
    else
    bd (fX8_readsAct x2 w) fun b37 w35 =>
    if b37 = true then
      bd (fX8_passes w35) fun _ w39 =>
      fX8_run_L24 x1 n (x2 + (1 : Int32)) w39
    else
    some (((-21 : Int32) - (zI w35 74 5)), w35)
def fX8_run (a1 : Int32) (w : zW) : Option (Int32 × zW) :=
  lt (zsI w 74 0 (0 : Int32)) fun w1 =>
  bd (fX8_reads w1) fun _ w2 =>
  bd (fX8_isLine a1 w2) fun b7 w5 =>
  if b7 = true then
    bd (fX8_passes w5) fun _ w9 =>
    fX8_run_L24 a1 zFU (0 : Int32) w9
  else
  some ((-1 : Int32), w5)
theorem YX8_run : zYV yX8_run MX8_run 1 := ⟨wk_1187, wk_9, ⟨wk_1185, wk_1186⟩, ⟨by decide, by decide, by decide +kernel⟩, rfl, rfl⟩
set_option maxHeartbeats 4000000 in
set_option maxRecDepth 100000 in
theorem lX8_run_L69 (x1 : Int32) (x2 : Int32) (x3 : Int32) : ∀ (n : Nat) (x4 : Int32) (w : zW), Tz MX8_run (zRet zi) (fX8_run_L69 x1 x2 x3 n x4 w) 69 [(0, .ref 74), (1, .int x1), (2, .int x2), (3, .int x3), (4, .int x4)] [] w := by
  intro n
  induction n with
  | zero => intro x4 w; exact tz_eq (fX8_run_L69.eq_1 _ _ _ _ _) tz_none
  | succ n ih =>
    intro x4 w
    refine tz_eq (fX8_run_L69.eq_2 _ _ _ _ _ _) ?_
    refine tz_iload 4 rfl (zd DX8_run 37 rfl) ?_
    refine tz_iload_n 2 rfl (zd DX8_run 38 rfl) ?_
    refine tz_jp (P := fun j => ∀ (w14 : zW), Tz MX8_run (zRet zi) (j w14) 91 [(0, .ref 74), (1, .int x1), (2, .int x2), (3, .int x3), (4, .int x4)] [] w14) ?_ (fun j14 hj14 => ?_)
    · intro w14
      refine tz_aload_n 0 rfl (zd DX8_run 47 rfl) ?_
      refine tz_iconst (0 : Int32) zk_iconst_0 (zd DX8_run 48 rfl) ?_
      refine tz_putI 1 kz8 (zs_74) (by decide) rfl rfl wk_858 (zd DX8_run 49 rfl) (fun w15 => ?_)
      refine tz_aload_n 0 rfl (zd DX8_run 50 rfl) ?_
      refine tz_iload 4 rfl (zd DX8_run 51 rfl) ?_
      refine tz_iload_n 2 rfl (zd DX8_run 52 rfl) ?_
      refine tz_dia (P := fun F => ∀ v : Int32, Tz MX8_run (zRet zi) (F v) 108 [(0, .ref 74), (1, .int x1), (2, .int x2), (3, .int x3), (4, .int x4)] (.int v :: [.ref 74]) w15) ?_ (fun _ hJ108 => ?_)
      · intro v17
        refine tz_cS_i (rest := [.ref 74]) (YX8_flag) wk_981 (tX8_flag v17 w15) rfl rfl (Nat.le_of_ble_eq_true rfl) ⟨Nat.le_of_ble_eq_true rfl, Nat.le_of_ble_eq_true rfl⟩ (zd DX8_run 57 rfl) (fun v20 w18 e19 => ?_)
        refine tz_i2l (zd DX8_run 58 rfl) ?_
        refine tz_cV_n kz8 (zs_74) rfl (rest := []) (YX8_enters) wk_1002 (tX8_enters (v20).toInt64 w18) rfl rfl (Nat.le_of_ble_eq_true rfl) ⟨Nat.le_of_ble_eq_true rfl, Nat.le_of_ble_eq_true rfl⟩ (zd DX8_run 59 rfl) (fun v23 w21 e22 => ?_)
        refine tz_aload_n 0 rfl (zd DX8_run 60 rfl) ?_
        refine tz_aload_n 0 rfl (zd DX8_run 61 rfl) ?_
        refine tz_getI 23 kz8 (zs_74) (by decide) rfl wk_880 (zd DX8_run 62 rfl) ?_
        refine tz_iload_n 3 rfl (zd DX8_run 63 rfl) ?_
        refine tz_isub (zd DX8_run 64 rfl) ?_
        refine tz_i2l (zd DX8_run 65 rfl) ?_
        refine tz_cV_n kz8 (zs_74) rfl (rest := []) (YX8_enters) wk_1002 (tX8_enters ((zI w21 74 23) - x3).toInt64 w21) rfl rfl (Nat.le_of_ble_eq_true rfl) ⟨Nat.le_of_ble_eq_true rfl, Nat.le_of_ble_eq_true rfl⟩ (zd DX8_run 66 rfl) (fun v26 w24 e25 => ?_)
        refine tz_aload_n 0 rfl (zd DX8_run 67 rfl) ?_
        refine tz_iload_n 1 rfl (zd DX8_run 68 rfl) ?_
        refine tz_cV_n kz8 (zs_74) rfl (rest := []) (YX8_entersSummary) wk_1172 (tX8_entersSummary x1 w24) rfl rfl (Nat.le_of_ble_eq_true rfl) ⟨Nat.le_of_ble_eq_true rfl, Nat.le_of_ble_eq_true rfl⟩ (zd DX8_run 69 rfl) (fun v29 w27 e28 => ?_)
        refine tz_iload 4 rfl (zd DX8_run 70 rfl) ?_
        exact tz_iret rfl (zd DX8_run 71 rfl)
      refine tz_ite ?_
      refine tz_icmp_ge 107 (zd DX8_run 53 rfl) rfl (fun q16 => ?_) (fun q16 => ?_)
      · refine tz_iconst (0 : Int32) zk_iconst_0 (zd DX8_run 56 rfl) ?_
        exact hJ108 (0 : Int32)
      refine tz_iconst (1 : Int32) zk_iconst_1 (zd DX8_run 54 rfl) ?_
      refine tz_goto 108 (zd DX8_run 55 rfl) rfl ?_
      exact hJ108 (1 : Int32)
    refine tz_icmp_ge 91 (zd DX8_run 39 rfl) rfl (fun q30 => ?_) (fun q30 => ?_)
    · exact hj14 w
    refine tz_aload_n 0 rfl (zd DX8_run 40 rfl) ?_
    refine tz_iload_n 1 rfl (zd DX8_run 41 rfl) ?_
    refine tz_iload 4 rfl (zd DX8_run 42 rfl) ?_
    refine tz_cV_z kz8 (zs_74) rfl (rest := []) (YX8_does) wk_1196 (tX8_does x1 x4 w) rfl rfl (Nat.le_of_ble_eq_true rfl) ⟨Nat.le_of_ble_eq_true rfl, Nat.le_of_ble_eq_true rfl⟩ (zd DX8_run 43 rfl) (fun b33 w31 e32 => ?_)
    refine tz_bif_eq 91 (zd DX8_run 44 rfl) rfl (fun q34 => ?_) (fun q34 => ?_)
    · refine tz_iinc 4 (1 : Int32) [(4, .int (x4 + (1 : Int32))), (0, .ref 74), (1, .int x1), (2, .int x2), (3, .int x3)] rfl zk_iconst_1 (Nat.le_of_ble_eq_true rfl) rfl (zd DX8_run 45 rfl) ?_
      refine tz_goto 69 (zd DX8_run 46 rfl) rfl ?_
      refine tz_lv (lv2 := [(0, .ref 74), (1, .int x1), (2, .int x2), (3, .int x3), (4, .int (x4 + (1 : Int32)))]) [1, 2, 3, 4, 0] rfl ?_
      exact ih (x4 + (1 : Int32)) w31
    exact hj14 w31
set_option maxHeartbeats 4000000 in
set_option maxRecDepth 100000 in
theorem lX8_run_L24 (x1 : Int32) : ∀ (n : Nat) (x2 : Int32) (w : zW), Tz MX8_run (zRet zi) (fX8_run_L24 x1 n x2 w) 24 [(0, .ref 74), (1, .int x1), (2, .int x2)] [] w := by
  intro n
  induction n with
  | zero => intro x2 w; exact tz_eq (fX8_run_L24.eq_1 _ _ _) tz_none
  | succ n ih =>
    intro x2 w
    refine tz_eq (fX8_run_L24.eq_2 _ _ _ _) ?_
    refine tz_aload_n 0 rfl (zd DX8_run 14 rfl) ?_
    refine tz_getI 5 kz8 (zs_74) (by decide) rfl wk_862 (zd DX8_run 15 rfl) ?_
    refine tz_aload_n 0 rfl (zd DX8_run 16 rfl) ?_
    refine tz_getI 6 kz8 (zs_74) (by decide) rfl wk_863 (zd DX8_run 17 rfl) ?_
    refine tz_icmp_ge 61 (zd DX8_run 18 rfl) rfl (fun q12 => ?_) (fun q12 => ?_)
    · refine tz_aload_n 0 rfl (zd DX8_run 32 rfl) ?_
      refine tz_getI 23 kz8 (zs_74) (by decide) rfl wk_880 (zd DX8_run 33 rfl) ?_
      refine tz_lti (fun v13 => ?_)
      refine tz_istore_n [(3, .int v13), (0, .ref 74), (1, .int x1), (2, .int x2)] (Nat.le_of_ble_eq_true rfl) rfl (zd DX8_run 34 rfl) ?_
      refine tz_iconst (0 : Int32) zk_iconst_0 (zd DX8_run 35 rfl) ?_
      refine tz_istore [(4, .int (0 : Int32)), (3, .int v13), (0, .ref 74), (1, .int x1), (2, .int x2)] (Nat.le_of_ble_eq_true rfl) rfl (zd DX8_run 36 rfl) ?_
      refine tz_lv (lv2 := [(0, .ref 74), (1, .int x1), (2, .int x2), (3, .int v13), (4, .int (0 : Int32))]) [2, 3, 4, 1, 0] rfl ?_
      exact lX8_run_L69 x1 x2 v13 zFU (0 : Int32) w
    refine tz_aload_n 0 rfl (zd DX8_run 19 rfl) ?_
    refine tz_iload_n 2 rfl (zd DX8_run 20 rfl) ?_
    refine tz_cV_z kz8 (zs_74) rfl (rest := []) (YX8_readsAct) wk_1192 (tX8_readsAct x2 w) rfl rfl (Nat.le_of_ble_eq_true rfl) ⟨Nat.le_of_ble_eq_true rfl, Nat.le_of_ble_eq_true rfl⟩ (zd DX8_run 21 rfl) (fun b37 w35 e36 => ?_)
    refine tz_bif_ne 51 (zd DX8_run 22 rfl) rfl (fun q38 => ?_) (fun q38 => ?_)
    · refine tz_iinc 2 (1 : Int32) [(2, .int (x2 + (1 : Int32))), (0, .ref 74), (1, .int x1)] rfl zk_iconst_1 (Nat.le_of_ble_eq_true rfl) rfl (zd DX8_run 28 rfl) ?_
      refine tz_aload_n 1 rfl (zd DX8_run 29 rfl) ?_
      refine tz_cV_n kz8 (zs_74) rfl (rest := []) (YX8_passes) wk_1188 (tX8_passes w35) rfl rfl (Nat.le_of_ble_eq_true rfl) ⟨Nat.le_of_ble_eq_true rfl, Nat.le_of_ble_eq_true rfl⟩ (zd DX8_run 30 rfl) (fun v41 w39 e40 => ?_)
      refine tz_goto 24 (zd DX8_run 31 rfl) rfl ?_
      refine tz_lv (lv2 := [(0, .ref 74), (1, .int x1), (2, .int (x2 + (1 : Int32)))]) [1, 2, 0] rfl ?_
      exact ih (x2 + (1 : Int32)) w39
    refine tz_bipush (-21 : Int32) zk_bipush_m21 (zd DX8_run 23 rfl) ?_
    refine tz_aload_n 0 rfl (zd DX8_run 24 rfl) ?_
    refine tz_getI 5 kz8 (zs_74) (by decide) rfl wk_862 (zd DX8_run 25 rfl) ?_
    refine tz_isub (zd DX8_run 26 rfl) ?_
    exact tz_iret rfl (zd DX8_run 27 rfl)
set_option maxHeartbeats 4000000 in
set_option maxRecDepth 100000 in
theorem tX8_run (a1 : Int32) (w : zW) : Sm yX8_run MX8_run zi [.ref 74, .int a1] w (fX8_run a1 w) := by
  refine Sm_of (lv0 := [(0, .ref 74), (1, .int a1)]) (by decide) rfl (fun _ => Nat.le_of_ble_eq_true rfl) rfl ?_
  unfold fX8_run
  refine tz_aload_n 0 rfl (zd DX8_run 0 rfl) ?_
  refine tz_iconst (0 : Int32) zk_iconst_0 (zd DX8_run 1 rfl) ?_
  refine tz_putI 0 kz8 (zs_74) (by decide) rfl rfl wk_857 (zd DX8_run 2 rfl) (fun w1 => ?_)
  refine tz_aload_n 0 rfl (zd DX8_run 3 rfl) ?_
  refine tz_cV_n kz8 (zs_74) rfl (rest := []) (YX8_reads) wk_1069 (tX8_reads w1) rfl rfl (Nat.le_of_ble_eq_true rfl) ⟨Nat.le_of_ble_eq_true rfl, Nat.le_of_ble_eq_true rfl⟩ (zd DX8_run 4 rfl) (fun v4 w2 e3 => ?_)
  refine tz_iload_n 1 rfl (zd DX8_run 5 rfl) ?_
  refine tz_cS_z (rest := []) (YX8_isLine) wk_1104 (tX8_isLine a1 w2) rfl rfl (Nat.le_of_ble_eq_true rfl) ⟨Nat.le_of_ble_eq_true rfl, Nat.le_of_ble_eq_true rfl⟩ (zd DX8_run 6 rfl) (fun b7 w5 e6 => ?_)
  refine tz_bif_ne 18 (zd DX8_run 7 rfl) rfl (fun q8 => ?_) (fun q8 => ?_)
  · refine tz_iconst (0 : Int32) zk_iconst_0 (zd DX8_run 10 rfl) ?_
    refine tz_istore_n [(2, .int (0 : Int32)), (0, .ref 74), (1, .int a1)] (Nat.le_of_ble_eq_true rfl) rfl (zd DX8_run 11 rfl) ?_
    refine tz_aload_n 1 rfl (zd DX8_run 12 rfl) ?_
    refine tz_cV_n kz8 (zs_74) rfl (rest := []) (YX8_passes) wk_1188 (tX8_passes w5) rfl rfl (Nat.le_of_ble_eq_true rfl) ⟨Nat.le_of_ble_eq_true rfl, Nat.le_of_ble_eq_true rfl⟩ (zd DX8_run 13 rfl) (fun v11 w9 e10 => ?_)
    refine tz_lv (lv2 := [(0, .ref 74), (1, .int a1), (2, .int (0 : Int32))]) [1, 2, 0] rfl ?_
    exact lX8_run_L24 a1 zFU (0 : Int32) w9
  refine tz_iconst (-1 : Int32) zk_iconst_m1 (zd DX8_run 8 rfl) ?_
  exact tz_iret rfl (zd DX8_run 9 rfl)
def QX8_sum : List (Nat × Instr × Nat) := [(0, .aload_n 0, 1), (1, .iconst 0, 1), (2, .putfield 1, 3), (5, .iload_n 1, 1), (6, .invokestatic 237, 3), (9, .ifCond .ne 5, 3), (12, .iconst (-1), 1), (13, .ireturn, 1), (14, .aload_n 0, 1), (15, .iconst 0, 1), (16, .putfield 11, 3), (19, .aload_n 0, 1), (20, .iload_n 1, 1), (21, .invokevirtual 268, 3), (24, .aload_n 0, 1), (25, .iload_n 1, 1), (26, .invokevirtual 187, 3), (29, .ireturn, 1)]
set_option maxRecDepth 100000 in
theorem DX8_sum : ∀ q ∈ QX8_sum, decode cX8_sum q.1 = .ok (q.2.1, q.2.2) := by decide +kernel
abbrev MX8_sum : zM := (cX8_sum, "EndSumsModel", 2, (some .int), { frames := 6, cells := 0, slots := 0, locals := 146 })
def fX8_sum (a1 : Int32) (w : zW) : Option (Int32 × zW) :=
  lt (zsI w 74 0 (0 : Int32)) fun w1 =>
  bd (fX8_isLine a1 w1) fun b4 w2 =>
  if b4 = true then
    lt (zsI w2 74 1 (0 : Int32)) fun w6 =>
    bd (fX8_entersSummary a1 w6) fun _ w7 =>
    bd (fX8_sizeOf a1 w7) fun v12 w10 =>
    some (v12, w10)
  else
  some ((-1 : Int32), w2)
theorem YX8_sum : zYV yX8_sum MX8_sum 1 := ⟨wk_1203, wk_9, ⟨wk_1201, wk_1202⟩, ⟨by decide, by decide, by decide +kernel⟩, rfl, rfl⟩
set_option maxHeartbeats 4000000 in
set_option maxRecDepth 100000 in
theorem tX8_sum (a1 : Int32) (w : zW) : Sm yX8_sum MX8_sum zi [.ref 74, .int a1] w (fX8_sum a1 w) := by
  refine Sm_of (lv0 := [(0, .ref 74), (1, .int a1)]) (by decide) rfl (fun _ => Nat.le_of_ble_eq_true rfl) rfl ?_
  unfold fX8_sum
  refine tz_aload_n 0 rfl (zd DX8_sum 0 rfl) ?_
  refine tz_iconst (0 : Int32) zk_iconst_0 (zd DX8_sum 1 rfl) ?_
  refine tz_putI 0 kz8 (zs_74) (by decide) rfl rfl wk_857 (zd DX8_sum 2 rfl) (fun w1 => ?_)
  refine tz_iload_n 1 rfl (zd DX8_sum 3 rfl) ?_
  refine tz_cS_z (rest := []) (YX8_isLine) wk_1104 (tX8_isLine a1 w1) rfl rfl (Nat.le_of_ble_eq_true rfl) ⟨Nat.le_of_ble_eq_true rfl, Nat.le_of_ble_eq_true rfl⟩ (zd DX8_sum 4 rfl) (fun b4 w2 e3 => ?_)
  refine tz_bif_ne 14 (zd DX8_sum 5 rfl) rfl (fun q5 => ?_) (fun q5 => ?_)
  · refine tz_aload_n 0 rfl (zd DX8_sum 8 rfl) ?_
    refine tz_iconst (0 : Int32) zk_iconst_0 (zd DX8_sum 9 rfl) ?_
    refine tz_putI 1 kz8 (zs_74) (by decide) rfl rfl wk_858 (zd DX8_sum 10 rfl) (fun w6 => ?_)
    refine tz_aload_n 0 rfl (zd DX8_sum 11 rfl) ?_
    refine tz_iload_n 1 rfl (zd DX8_sum 12 rfl) ?_
    refine tz_cV_n kz8 (zs_74) rfl (rest := []) (YX8_entersSummary) wk_1172 (tX8_entersSummary a1 w6) rfl rfl (Nat.le_of_ble_eq_true rfl) ⟨Nat.le_of_ble_eq_true rfl, Nat.le_of_ble_eq_true rfl⟩ (zd DX8_sum 13 rfl) (fun v9 w7 e8 => ?_)
    refine tz_aload_n 0 rfl (zd DX8_sum 14 rfl) ?_
    refine tz_iload_n 1 rfl (zd DX8_sum 15 rfl) ?_
    refine tz_cV_i kz8 (zs_74) rfl (rest := []) (YX8_sizeOf) wk_1042 (tX8_sizeOf a1 w7) rfl rfl (Nat.le_of_ble_eq_true rfl) ⟨Nat.le_of_ble_eq_true rfl, Nat.le_of_ble_eq_true rfl⟩ (zd DX8_sum 16 rfl) (fun v12 w10 e11 => ?_)
    exact tz_iret rfl (zd DX8_sum 17 rfl)
  refine tz_iconst (-1 : Int32) zk_iconst_m1 (zd DX8_sum 6 rfl) ?_
  exact tz_iret rfl (zd DX8_sum 7 rfl)
def QX8_item : List (Nat × Instr × Nat) := [(0, .aload_n 0, 1), (1, .iload_n 1, 1), (2, .invokestatic 237, 3), (5, .ifCond .eq 12, 3), (8, .aload_n 0, 1), (9, .iload_n 1, 1), (10, .iload_n 2, 1), (11, .invokevirtual 255, 3), (14, .ifCond .ne 7, 3), (17, .iconst 1, 1), (18, .goto 4, 3), (21, .iconst 0, 1), (22, .invokestatic 31, 3), (25, .putfield 1, 3), (28, .aload_n 0, 1), (29, .getfield 1, 3), (32, .iconst 1, 1), (33, .if_icmp .ne 5, 3), (36, .iconst 0, 1), (37, .ireturn, 1), (38, .aload_n 0, 1), (39, .iload_n 1, 1), (40, .iload_n 2, 1), (41, .invokevirtual 181, 3), (44, .istore_n 3, 1), (45, .aload_n 0, 1), (46, .getfield 66, 3), (49, .iconst 2, 1), (50, .iload_n 1, 1), (51, .imul, 1), (52, .iaload, 1), (53, .istore 4, 2), (55, .aload_n 0, 1), (56, .iconst 0, 1), (57, .putfield 11, 3), (60, .aload_n 0, 1), (61, .iload_n 2, 1), (62, .iload 4, 2), (64, .if_icmp .lt 7, 3), (67, .iconst 1, 1), (68, .goto 4, 3), (71, .iconst 0, 1), (72, .invokestatic 31, 3), (75, .i2l, 1), (76, .invokevirtual 164, 3), (79, .aload_n 0, 1), (80, .iload_n 2, 1), (81, .iload 4, 2), (83, .if_icmp .ge 8, 3), (86, .iload_n 2, 1), (87, .i2l, 1), (88, .goto 13, 3), (91, .aload_n 0, 1), (92, .iload_n 1, 1), (93, .invokevirtual 187, 3), (96, .iconst 1, 1), (97, .isub, 1), (98, .iload_n 2, 1), (99, .isub, 1), (100, .i2l, 1), (101, .invokevirtual 164, 3), (104, .aload_n 0, 1), (105, .aload_n 0, 1), (106, .getfield 75, 3), (109, .iload_n 3, 1), (110, .laload, 1), (111, .invokevirtual 164, 3), (114, .aload_n 0, 1), (115, .aload_n 0, 1), (116, .getfield 78, 3), (119, .iload_n 3, 1), (120, .laload, 1), (121, .invokevirtual 164, 3), (124, .aload_n 0, 1), (125, .getfield 72, 3), (128, .iload_n 3, 1), (129, .iaload, 1), (130, .ireturn, 1)]
set_option maxRecDepth 100000 in
theorem DX8_item : ∀ q ∈ QX8_item, decode cX8_item q.1 = .ok (q.2.1, q.2.2) := by decide +kernel
abbrev MX8_item : zM := (cX8_item, "EndSumsModel", 5, (some .int), { frames := 2, cells := 0, slots := 0, locals := 47 })
def fX8_item (a1 : Int32) (a2 : Int32) (w : zW) : Option (Int32 × zW) :=
  bd (fX8_isLine a1 w) fun b3 w1 =>
  lt (fun (s_22 : Int32) (w5 : zW) =>
    bd (fX8_flag s_22 w5) fun v8 w6 =>
    lt (zsI w6 74 0 v8) fun w9 =>
    if ¬ (zI w9 74 0) = (1 : Int32) then
      bd (fX8_placeOf a1 a2 w9) fun v13 w11 =>
      zg (zin ((2 : Int32) * a1) 10) <|
      lt (zI w11 83 ((2 : Int32) * a1).toNatClampNeg) fun v14 =>
      lt (zsI w11 74 1 (0 : Int32)) fun w15 =>
      lt (if a2 < v14 then (0 : Int32) else (1 : Int32)) fun v17 =>
      bd (fX8_flag v17 w15) fun v20 w18 =>
      bd (fX8_enters (v20).toInt64 w18) fun _ w21 =>
      lt (fun (s_101 : Int64) (w24 : zW) =>
        bd (fX8_enters s_101 w24) fun _ w25 =>
        zg (zin v13 640) <|
        bd (fX8_enters (zL w25 86 v13.toNatClampNeg) w25) fun _ w28 =>
        zg (zin v13 640) <|
        bd (fX8_enters (zL w28 87 v13.toNatClampNeg) w28) fun _ w31 =>
        zg (zin v13 640) <|
        some ((zI w31 85 v13.toNatClampNeg), w31)) fun j24 =>
      if v14 ≤ a2 then
        bd (fX8_sizeOf a1 w21) fun v37 w35 =>
        j24 ((v37 - (1 : Int32)) - a2).toInt64 w35
      else
      j24 (a2).toInt64 w21
    else
    some ((0 : Int32), w9)) fun j5 =>
  lt (fun (w38 : zW) =>
    j5 (1 : Int32) w38) fun j38 =>
  if b3 = true then
    bd (fX8_isAt a1 a2 w1) fun b42 w40 =>
    if b42 = true then
      j5 (0 : Int32) w40
    else
    j38 w40
  else
  j38 w1
theorem YX8_item : zYV yX8_item MX8_item 2 := ⟨wk_1207, wk_9, ⟨wk_1205, wk_1206⟩, ⟨by decide, by decide, by decide +kernel⟩, rfl, rfl⟩
set_option maxHeartbeats 4000000 in
set_option maxRecDepth 100000 in
theorem tX8_item (a1 : Int32) (a2 : Int32) (w : zW) : Sm yX8_item MX8_item zi [.ref 74, .int a1, .int a2] w (fX8_item a1 a2 w) := by
  refine Sm_of (lv0 := [(0, .ref 74), (1, .int a1), (2, .int a2)]) (by decide) rfl (fun _ => Nat.le_of_ble_eq_true rfl) rfl ?_
  unfold fX8_item
  refine tz_aload_n 0 rfl (zd DX8_item 0 rfl) ?_
  refine tz_iload_n 1 rfl (zd DX8_item 1 rfl) ?_
  refine tz_cS_z (rest := [.ref 74]) (YX8_isLine) wk_1104 (tX8_isLine a1 w) rfl rfl (Nat.le_of_ble_eq_true rfl) ⟨Nat.le_of_ble_eq_true rfl, Nat.le_of_ble_eq_true rfl⟩ (zd DX8_item 2 rfl) (fun b3 w1 e2 => ?_)
  refine tz_jp (P := fun j => ∀ (s_22 : Int32) (w5 : zW), Tz MX8_item (zRet zi) (j s_22 w5) 22 [(0, .ref 74), (1, .int a1), (2, .int a2)] [.int s_22, .ref 74] w5) ?_ (fun j5 hj5 => ?_)
  · intro s_22 w5
    refine tz_cS_i (rest := [.ref 74]) (YX8_flag) wk_981 (tX8_flag s_22 w5) rfl rfl (Nat.le_of_ble_eq_true rfl) ⟨Nat.le_of_ble_eq_true rfl, Nat.le_of_ble_eq_true rfl⟩ (zd DX8_item 12 rfl) (fun v8 w6 e7 => ?_)
    refine tz_putI 0 kz8 (zs_74) (by decide) rfl rfl wk_857 (zd DX8_item 13 rfl) (fun w9 => ?_)
    refine tz_aload_n 0 rfl (zd DX8_item 14 rfl) ?_
    refine tz_getI 0 kz8 (zs_74) (by decide) rfl wk_857 (zd DX8_item 15 rfl) ?_
    refine tz_iconst (1 : Int32) zk_iconst_1 (zd DX8_item 16 rfl) ?_
    refine tz_icmp_ne 38 (zd DX8_item 17 rfl) rfl (fun q10 => ?_) (fun q10 => ?_)
    · refine tz_aload_n 0 rfl (zd DX8_item 20 rfl) ?_
      refine tz_iload_n 1 rfl (zd DX8_item 21 rfl) ?_
      refine tz_iload_n 2 rfl (zd DX8_item 22 rfl) ?_
      refine tz_cV_i kz8 (zs_74) rfl (rest := []) (YX8_placeOf) wk_1050 (tX8_placeOf a1 a2 w9) rfl rfl (Nat.le_of_ble_eq_true rfl) ⟨Nat.le_of_ble_eq_true rfl, Nat.le_of_ble_eq_true rfl⟩ (zd DX8_item 23 rfl) (fun v13 w11 e12 => ?_)
      refine tz_istore_n [(3, .int v13), (0, .ref 74), (1, .int a1), (2, .int a2)] (Nat.le_of_ble_eq_true rfl) rfl (zd DX8_item 24 rfl) ?_
      refine tz_aload_n 1 rfl (zd DX8_item 25 rfl) ?_
      refine tz_getR 83 18 kz8 (zs_74) (by decide) (by decide) rfl wk_875 (zd DX8_item 26 rfl) ?_
      refine tz_iconst (2 : Int32) zk_iconst_2 (zd DX8_item 27 rfl) ?_
      refine tz_iload_n 2 rfl (zd DX8_item 28 rfl) ?_
      refine tz_imul (zd DX8_item 29 rfl) ?_
      refine tz_iald (zs_83.1) (zs_83.2) (zd DX8_item 30 rfl) ?_
      refine tz_lti (fun v14 => ?_)
      refine tz_istore [(4, .int v14), (3, .int v13), (0, .ref 74), (1, .int a1), (2, .int a2)] (Nat.le_of_ble_eq_true rfl) rfl (zd DX8_item 31 rfl) ?_
      refine tz_aload_n 2 rfl (zd DX8_item 32 rfl) ?_
      refine tz_iconst (0 : Int32) zk_iconst_0 (zd DX8_item 33 rfl) ?_
      refine tz_putI 1 kz8 (zs_74) (by decide) rfl rfl wk_858 (zd DX8_item 34 rfl) (fun w15 => ?_)
      refine tz_aload_n 2 rfl (zd DX8_item 35 rfl) ?_
      refine tz_iload_n 4 rfl (zd DX8_item 36 rfl) ?_
      refine tz_iload 0 rfl (zd DX8_item 37 rfl) ?_
      refine tz_dia (P := fun F => ∀ v : Int32, Tz MX8_item (zRet zi) (F v) 72 [(4, .int v14), (3, .int v13), (0, .ref 74), (1, .int a1), (2, .int a2)] (.int v :: [.ref 74]) w15) ?_ (fun _ hJ72 => ?_)
      · intro v17
        refine tz_cS_i (rest := [.ref 74]) (YX8_flag) wk_981 (tX8_flag v17 w15) rfl rfl (Nat.le_of_ble_eq_true rfl) ⟨Nat.le_of_ble_eq_true rfl, Nat.le_of_ble_eq_true rfl⟩ (zd DX8_item 42 rfl) (fun v20 w18 e19 => ?_)
        refine tz_i2l (zd DX8_item 43 rfl) ?_
        refine tz_cV_n kz8 (zs_74) rfl (rest := []) (YX8_enters) wk_1002 (tX8_enters (v20).toInt64 w18) rfl rfl (Nat.le_of_ble_eq_true rfl) ⟨Nat.le_of_ble_eq_true rfl, Nat.le_of_ble_eq_true rfl⟩ (zd DX8_item 44 rfl) (fun v23 w21 e22 => ?_)
        refine tz_aload_n 2 rfl (zd DX8_item 45 rfl) ?_
        refine tz_iload_n 4 rfl (zd DX8_item 46 rfl) ?_
        refine tz_iload 0 rfl (zd DX8_item 47 rfl) ?_
        refine tz_jp (P := fun j => ∀ (s_101 : Int64) (w24 : zW), Tz MX8_item (zRet zi) (j s_101 w24) 101 [(0, .ref 74), (3, .int v13)] [.long s_101, .ref 74] w24) ?_ (fun j24 hj24 => ?_)
        · intro s_101 w24
          refine tz_cV_n kz8 (zs_74) rfl (rest := []) (YX8_enters) wk_1002 (tX8_enters s_101 w24) rfl rfl (Nat.le_of_ble_eq_true rfl) ⟨Nat.le_of_ble_eq_true rfl, Nat.le_of_ble_eq_true rfl⟩ (zd DX8_item 60 rfl) (fun v27 w25 e26 => ?_)
          refine tz_aload_n 0 rfl (zd DX8_item 61 rfl) ?_
          refine tz_aload_n 0 rfl (zd DX8_item 62 rfl) ?_
          refine tz_getR 86 21 kz8 (zs_74) (by decide) (by decide) rfl wk_878 (zd DX8_item 63 rfl) ?_
          refine tz_iload_n 1 rfl (zd DX8_item 64 rfl) ?_
          refine tz_lald (zs_86.1) (zs_86.2) (zd DX8_item 65 rfl) ?_
          refine tz_cV_n kz8 (zs_74) rfl (rest := []) (YX8_enters) wk_1002 (tX8_enters (zL w25 86 v13.toNatClampNeg) w25) rfl rfl (Nat.le_of_ble_eq_true rfl) ⟨Nat.le_of_ble_eq_true rfl, Nat.le_of_ble_eq_true rfl⟩ (zd DX8_item 66 rfl) (fun v30 w28 e29 => ?_)
          refine tz_aload_n 0 rfl (zd DX8_item 67 rfl) ?_
          refine tz_aload_n 0 rfl (zd DX8_item 68 rfl) ?_
          refine tz_getR 87 22 kz8 (zs_74) (by decide) (by decide) rfl wk_879 (zd DX8_item 69 rfl) ?_
          refine tz_iload_n 1 rfl (zd DX8_item 70 rfl) ?_
          refine tz_lald (zs_87.1) (zs_87.2) (zd DX8_item 71 rfl) ?_
          refine tz_cV_n kz8 (zs_74) rfl (rest := []) (YX8_enters) wk_1002 (tX8_enters (zL w28 87 v13.toNatClampNeg) w28) rfl rfl (Nat.le_of_ble_eq_true rfl) ⟨Nat.le_of_ble_eq_true rfl, Nat.le_of_ble_eq_true rfl⟩ (zd DX8_item 72 rfl) (fun v33 w31 e32 => ?_)
          refine tz_aload_n 0 rfl (zd DX8_item 73 rfl) ?_
          refine tz_getR 85 20 kz8 (zs_74) (by decide) (by decide) rfl wk_877 (zd DX8_item 74 rfl) ?_
          refine tz_iload_n 1 rfl (zd DX8_item 75 rfl) ?_
          refine tz_iald (zs_85.1) (zs_85.2) (zd DX8_item 76 rfl) ?_
          exact tz_iret rfl (zd DX8_item 77 rfl)
        refine tz_icmp_ge 91 (zd DX8_item 48 rfl) rfl (fun q34 => ?_) (fun q34 => ?_)
        · refine tz_aload_n 2 rfl (zd DX8_item 52 rfl) ?_
          refine tz_iload_n 3 rfl (zd DX8_item 53 rfl) ?_
          refine tz_cV_i kz8 (zs_74) rfl (rest := [.ref 74]) (YX8_sizeOf) wk_1042 (tX8_sizeOf a1 w21) rfl rfl (Nat.le_of_ble_eq_true rfl) ⟨Nat.le_of_ble_eq_true rfl, Nat.le_of_ble_eq_true rfl⟩ (zd DX8_item 54 rfl) (fun v37 w35 e36 => ?_)
          refine tz_iconst (1 : Int32) zk_iconst_1 (zd DX8_item 55 rfl) ?_
          refine tz_isub (zd DX8_item 56 rfl) ?_
          refine tz_iload_n 4 rfl (zd DX8_item 57 rfl) ?_
          refine tz_isub (zd DX8_item 58 rfl) ?_
          refine tz_i2l (zd DX8_item 59 rfl) ?_
          refine tz_lv (lv2 := [(0, .ref 74), (3, .int v13)]) [2, 1] rfl ?_
          exact hj24 ((v37 - (1 : Int32)) - a2).toInt64 w35
        refine tz_iload_n 4 rfl (zd DX8_item 49 rfl) ?_
        refine tz_i2l (zd DX8_item 50 rfl) ?_
        refine tz_goto 101 (zd DX8_item 51 rfl) rfl ?_
        refine tz_lv (lv2 := [(0, .ref 74), (3, .int v13)]) [2, 1] rfl ?_
        exact hj24 (a2).toInt64 w21
      refine tz_ite ?_
      refine tz_icmp_lt 71 (zd DX8_item 38 rfl) rfl (fun q16 => ?_) (fun q16 => ?_)
      · refine tz_iconst (0 : Int32) zk_iconst_0 (zd DX8_item 41 rfl) ?_
        exact hJ72 (0 : Int32)
      refine tz_iconst (1 : Int32) zk_iconst_1 (zd DX8_item 39 rfl) ?_
      refine tz_goto 72 (zd DX8_item 40 rfl) rfl ?_
      exact hJ72 (1 : Int32)
    refine tz_iconst (0 : Int32) zk_iconst_0 (zd DX8_item 18 rfl) ?_
    exact tz_iret rfl (zd DX8_item 19 rfl)
  refine tz_jp (P := fun j => ∀ (w38 : zW), Tz MX8_item (zRet zi) (j w38) 17 [(0, .ref 74), (1, .int a1), (2, .int a2)] [.ref 74] w38) ?_ (fun j38 hj38 => ?_)
  · intro w38
    refine tz_iconst (1 : Int32) zk_iconst_1 (zd DX8_item 9 rfl) ?_
    refine tz_goto 22 (zd DX8_item 10 rfl) rfl ?_
    exact hj5 (1 : Int32) w38
  refine tz_bif_eq 17 (zd DX8_item 3 rfl) rfl (fun q39 => ?_) (fun q39 => ?_)
  · refine tz_aload_n 0 rfl (zd DX8_item 4 rfl) ?_
    refine tz_iload_n 1 rfl (zd DX8_item 5 rfl) ?_
    refine tz_iload_n 2 rfl (zd DX8_item 6 rfl) ?_
    refine tz_cV_z kz8 (zs_74) rfl (rest := [.ref 74]) (YX8_isAt) wk_1151 (tX8_isAt a1 a2 w1) rfl rfl (Nat.le_of_ble_eq_true rfl) ⟨Nat.le_of_ble_eq_true rfl, Nat.le_of_ble_eq_true rfl⟩ (zd DX8_item 7 rfl) (fun b42 w40 e41 => ?_)
    refine tz_bif_ne 21 (zd DX8_item 8 rfl) rfl (fun q43 => ?_) (fun q43 => ?_)
    · refine tz_iconst (0 : Int32) zk_iconst_0 (zd DX8_item 11 rfl) ?_
      exact hj5 (0 : Int32) w40
    exact hj38 w40
  exact hj38 w1
