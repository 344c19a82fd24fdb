def QX5_itemBehind : List (Nat × Instr × Nat) := [(0, .aload_n 0, 1), (1, .iload_n 1, 1), (2, .iconst 1, 1), (3, .iadd, 1), (4, .iload_n 2, 1), (5, .invokevirtual 58, 3), (8, .istore_n 3, 1), (9, .iconst 0, 1), (10, .istore 4, 2), (12, .iconst 1, 1), (13, .istore 5, 2), (15, .iload 5, 2), (17, .iload_n 3, 1), (18, .if_icmp .gt 28, 3), (21, .iload 4, 2), (23, .bipush 10, 2), (25, .imul, 1), (26, .aload_n 0, 1), (27, .iload_n 1, 1), (28, .iload 5, 2), (30, .iadd, 1), (31, .invokevirtual 45, 3), (34, .iadd, 1), (35, .bipush 48, 2), (37, .isub, 1), (38, .istore 4, 2), (40, .iinc 5 1, 3), (43, .goto (-28), 3), (46, .iload 4, 2), (48, .ireturn, 1)]
set_option maxRecDepth 100000 in
theorem DX5_itemBehind : ∀ q ∈ QX5_itemBehind, decode cX5_itemBehind q.1 = .ok (q.2.1, q.2.2) := by decide +kernel
abbrev MX5_itemBehind : zM := (cX5_itemBehind, "EndSums$Text", 6, (some .int), { frames := 3, cells := 0, slots := 0, locals := 65 })
def fX5_itemBehind_L15 (x1 : Int32) (x3 : Int32) : Nat → Int32 → Int32 → zW → Option (Int32 × zW)
  | 0, _, _, _ => none
  | n + 1, x4, x5, w =>
    if x3 < x5 then
      some (x4, w)
    else
    bd (fX5_signAt (x1 + x5) w) fun v7 w5 =>
    lt (((x4 * (10 : Int32)) + v7) - (48 : Int32)) fun v8 =>
    fX5_itemBehind_L15 x1 x3 n v8 (x5 + (1 : Int32)) w5
def fX5_itemBehind (a1 : Int32) (a2 : Int32) (w : zW) : Option (Int32 × zW) :=
  bd (fX5_digitsFrom (a1 + (1 : Int32)) a2 w) fun v3 w1 =>
  fX5_itemBehind_L15 a1 v3 zFU (0 : Int32) (1 : Int32) w1
theorem YX5_itemBehind : zYV yX5_itemBehind MX5_itemBehind 2 := ⟨wk_596, wk_7, ⟨wk_595, ws_56⟩, ⟨by decide, by decide, by decide +kernel⟩, rfl, rfl⟩
set_option maxHeartbeats 4000000 in
set_option maxRecDepth 100000 in
theorem lX5_itemBehind_L15 (x1 : Int32) (x3 : Int32) : ∀ (n : Nat) (x4 : Int32) (x5 : Int32) (w : zW), Tz MX5_itemBehind (zRet zi) (fX5_itemBehind_L15 x1 x3 n x4 x5 w) 15 [(0, .ref 64), (1, .int x1), (3, .int x3), (4, .int x4), (5, .int x5)] [] w := by
  intro n
  induction n with
  | zero => intro x4 x5 w; exact tz_eq (fX5_itemBehind_L15.eq_1 _ _ _ _ _) tz_none
  | succ n ih =>
    intro x4 x5 w
    refine tz_eq (fX5_itemBehind_L15.eq_2 _ _ _ _ _ _) ?_
    refine tz_iload 4 rfl (zd DX5_itemBehind 11 rfl) ?_
    refine tz_iload_n 2 rfl (zd DX5_itemBehind 12 rfl) ?_
    refine tz_icmp_gt 46 (zd DX5_itemBehind 13 rfl) rfl (fun q4 => ?_) (fun q4 => ?_)
    · refine tz_iload 3 rfl (zd DX5_itemBehind 28 rfl) ?_
      exact tz_iret rfl (zd DX5_itemBehind 29 rfl)
    refine tz_iload 3 rfl (zd DX5_itemBehind 14 rfl) ?_
    refine tz_bipush (10 : Int32) zk_bipush_10 (zd DX5_itemBehind 15 rfl) ?_
    refine tz_imul (zd DX5_itemBehind 16 rfl) ?_
    refine tz_aload_n 0 rfl (zd DX5_itemBehind 17 rfl) ?_
    refine tz_iload_n 1 rfl (zd DX5_itemBehind 18 rfl) ?_
    refine tz_iload 4 rfl (zd DX5_itemBehind 19 rfl) ?_
    refine tz_iadd (zd DX5_itemBehind 20 rfl) ?_
    refine tz_cV_i kz5 (zs_64) rfl (rest := [.int (x4 * (10 : Int32))]) (YX5_signAt) wk_579 (tX5_signAt (x1 + x5) w) rfl rfl (Nat.le_of_ble_eq_true rfl) ⟨Nat.le_of_ble_eq_true rfl, Nat.le_of_ble_eq_true rfl⟩ (zd DX5_itemBehind 21 rfl) (fun v7 w5 e6 => ?_)
    refine tz_iadd (zd DX5_itemBehind 22 rfl) ?_
    refine tz_bipush (48 : Int32) zk_bipush_48 (zd DX5_itemBehind 23 rfl) ?_
    refine tz_isub (zd DX5_itemBehind 24 rfl) ?_
    refine tz_lti (fun v8 => ?_)
    refine tz_istore [(4, .int v8), (0, .ref 64), (1, .int x1), (3, .int x3), (5, .int x5)] (Nat.le_of_ble_eq_true rfl) rfl (zd DX5_itemBehind 25 rfl) ?_
    refine tz_iinc 4 (1 : Int32) [(5, .int (x5 + (1 : Int32))), (4, .int v8), (0, .ref 64), (1, .int x1), (3, .int x3)] rfl zk_iconst_1 (Nat.le_of_ble_eq_true rfl) rfl (zd DX5_itemBehind 26 rfl) ?_
    refine tz_goto 15 (zd DX5_itemBehind 27 rfl) rfl ?_
    refine tz_lv (lv2 := [(0, .ref 64), (1, .int x1), (3, .int x3), (4, .int v8), (5, .int (x5 + (1 : Int32)))]) [2, 3, 4, 1, 0] rfl ?_
    exact ih v8 (x5 + (1 : Int32)) w5
set_option maxHeartbeats 4000000 in
set_option maxRecDepth 100000 in
theorem tX5_itemBehind (a1 : Int32) (a2 : Int32) (w : zW) : Sm yX5_itemBehind MX5_itemBehind zi [.ref 64, .int a1, .int a2] w (fX5_itemBehind a1 a2 w) := by
  refine Sm_of (lv0 := [(0, .ref 64), (1, .int a1), (2, .int a2)]) (by decide) rfl (fun _ => Nat.le_of_ble_eq_true rfl) rfl ?_
  unfold fX5_itemBehind
  refine tz_aload_n 0 rfl (zd DX5_itemBehind 0 rfl) ?_
  refine tz_iload_n 1 rfl (zd DX5_itemBehind 1 rfl) ?_
  refine tz_iconst (1 : Int32) zk_iconst_1 (zd DX5_itemBehind 2 rfl) ?_
  refine tz_iadd (zd DX5_itemBehind 3 rfl) ?_
  refine tz_iload_n 2 rfl (zd DX5_itemBehind 4 rfl) ?_
  refine tz_cV_i kz5 (zs_64) rfl (rest := []) (YX5_digitsFrom) wk_584 (tX5_digitsFrom (a1 + (1 : Int32)) a2 w) rfl rfl (Nat.le_of_ble_eq_true rfl) ⟨Nat.le_of_ble_eq_true rfl, Nat.le_of_ble_eq_true rfl⟩ (zd DX5_itemBehind 5 rfl) (fun v3 w1 e2 => ?_)
  refine tz_istore_n [(3, .int v3), (0, .ref 64), (1, .int a1), (2, .int a2)] (Nat.le_of_ble_eq_true rfl) rfl (zd DX5_itemBehind 6 rfl) ?_
  refine tz_iconst (0 : Int32) zk_iconst_0 (zd DX5_itemBehind 7 rfl) ?_
  refine tz_istore [(4, .int (0 : Int32)), (3, .int v3), (0, .ref 64), (1, .int a1), (2, .int a2)] (Nat.le_of_ble_eq_true rfl) rfl (zd DX5_itemBehind 8 rfl) ?_
  refine tz_iconst (1 : Int32) zk_iconst_1 (zd DX5_itemBehind 9 rfl) ?_
  refine tz_istore [(5, .int (1 : Int32)), (4, .int (0 : Int32)), (3, .int v3), (0, .ref 64), (1, .int a1), (2, .int a2)] (Nat.le_of_ble_eq_true rfl) rfl (zd DX5_itemBehind 10 rfl) ?_
  refine tz_lv (lv2 := [(0, .ref 64), (1, .int a1), (3, .int v3), (4, .int (0 : Int32)), (5, .int (1 : Int32))]) [3, 4, 2, 1, 0] rfl ?_
  exact lX5_itemBehind_L15 a1 v3 zFU (0 : Int32) (1 : Int32) w1
def QX6_make : List (Nat × Instr × Nat) := [(0, .aload_n 1, 1), (1, .getfield 19, 3), (4, .iconst 1, 1), (5, .isub, 1), (6, .istore 4, 2), (8, .iload 4, 2), (10, .ifCond .ge 13, 3), (13, .aload_n 0, 1), (14, .getfield 15, 3), (17, .invokevirtual 25, 3), (20, .goto 12, 3), (23, .aload_n 1, 1), (24, .getfield 31, 3), (27, .iload 4, 2), (29, .invokestatic 35, 3), (32, .lstore 5, 2), (34, .iload 4, 2), (36, .ifCond .ge 13, 3), (39, .aload_n 0, 1), (40, .getfield 15, 3), (43, .invokevirtual 39, 3), (46, .goto 12, 3), (49, .aload_n 1, 1), (50, .getfield 42, 3), (53, .iload 4, 2), (55, .invokestatic 35, 3), (58, .lstore 7, 2), (60, .iload_n 2, 1), (61, .ifCond .ne 33, 3), (64, .aload_n 0, 1), (65, .getfield 15, 3), (68, .aload_n 0, 1), (69, .getfield 15, 3), (72, .iload_n 3, 1), (73, .invokevirtual 45, 3), (76, .aload_n 0, 1), (77, .getfield 15, 3), (80, .iload_n 3, 1), (81, .invokevirtual 49, 3), (84, .lload 5, 2), (86, .lload 7, 2), (88, .invokevirtual 52, 3), (91, .goto 30, 3), (94, .aload_n 0, 1), (95, .getfield 15, 3), (98, .lload 5, 2), (100, .lload 7, 2), (102, .aload_n 0, 1), (103, .getfield 15, 3), (106, .iload_n 3, 1), (107, .invokevirtual 45, 3), (110, .aload_n 0, 1), (111, .getfield 15, 3), (114, .iload_n 3, 1), (115, .invokevirtual 49, 3), (118, .invokevirtual 52, 3), (121, .aload_n 0, 1), (122, .dup, 1), (123, .getfield 56, 3), (126, .iconst 1, 1), (127, .iadd, 1), (128, .putfield 56, 3), (131, .aload_n 1, 1), (132, .iload_n 3, 1), (133, .aload_n 0, 1), (134, .getfield 15, 3), (137, .getfield 59, 3), (140, .aload_n 0, 1), (141, .getfield 15, 3), (144, .getfield 63, 3), (147, .aload_n 0, 1), (148, .getfield 56, 3), (151, .invokevirtual 66, 3), (154, .return_, 1)]
set_option maxRecDepth 100000 in
theorem DX6_make : ∀ q ∈ QX6_make, decode cX6_make q.1 = .ok (q.2.1, q.2.2) := by decide +kernel
abbrev MX6_make : zM := (cX6_make, "EndSums$Works", 9, none, { frames := 2, cells := 0, slots := 0, locals := 60 })
def fX6_make (r1 : Nat) (a2 : Int32) (a3 : Int32) (w : zW) : Option (Unit × zW) :=
  lt ((zI w r1 0) - (1 : Int32)) fun v1 =>
  lt (fun (s_32 : Int64) (w2 : zW) =>
    lt (fun (s_58 : Int64) (w3 : zW) =>
      lt (fun (w4 : zW) =>
        lt (zsI w4 4 1 ((zI w4 4 1) + (1 : Int32))) fun w5 =>
        bd (fX2_grow r1 a3 (zL w5 1 2) (zL w5 1 3) (zI w5 4 1) w5) fun _ w6 =>
        some ((), w6)) fun j4 =>
      if ¬ a2 = (0 : Int32) then
        bd (fX0_elementP a3 w3) fun v12 w10 =>
        bd (fX0_elementQ a3 w10) fun v15 w13 =>
        bd (fX0_join s_32 s_58 v12 v15 w13) fun _ w16 =>
        j4 w16
      else
      bd (fX0_elementP a3 w3) fun v21 w19 =>
      bd (fX0_elementQ a3 w19) fun v24 w22 =>
      bd (fX0_join v21 v24 s_32 s_58 w22) fun _ w25 =>
      j4 w25) fun j3 =>
    if (0 : Int32) ≤ v1 then
      bd (fX7_at_ (r1 + 3) v1 w2) fun v31 w29 =>
      j3 v31 w29
    else
    bd (fX0_emptyQ w2) fun v34 w32 =>
    j3 v34 w32) fun j2 =>
  if (0 : Int32) ≤ v1 then
    bd (fX7_at_ (r1 + 2) v1 w) fun v38 w36 =>
    j2 v38 w36
  else
  bd (fX0_emptyP w) fun v41 w39 =>
  j2 v41 w39
theorem YX6_make : zYV yX6_make MX6_make 3 := ⟨wk_272, wk_4, ⟨wk_271, ws_10⟩, ⟨by decide, by decide, by decide +kernel⟩, rfl, rfl⟩
set_option maxHeartbeats 4000000 in
set_option maxRecDepth 100000 in
theorem tX6_make (r1 : Nat) (hr1 : zc 2 r1) (a2 : Int32) (a3 : Int32) (w : zW) : Sm yX6_make MX6_make zn [.ref 4, .ref r1, .int a2, .int a3] w (fX6_make r1 a2 a3 w) := by
  refine Sm_of (lv0 := [(0, .ref 4), (1, .ref r1), (2, .int a2), (3, .int a3)]) (by decide) rfl (fun _ => Nat.le_of_ble_eq_true rfl) rfl ?_
  unfold fX6_make
  refine tz_aload_n 1 rfl (zd DX6_make 0 rfl) ?_
  refine tz_getIN 0 kz2 (hr1) (by decide) rfl wn_103 (zd DX6_make 1 rfl) ?_
  refine tz_iconst (1 : Int32) zk_iconst_1 (zd DX6_make 2 rfl) ?_
  refine tz_isub (zd DX6_make 3 rfl) ?_
  refine tz_lti (fun v1 => ?_)
  refine tz_istore [(4, .int v1), (0, .ref 4), (1, .ref r1), (2, .int a2), (3, .int a3)] (Nat.le_of_ble_eq_true rfl) rfl (zd DX6_make 4 rfl) ?_
  refine tz_iload 0 rfl (zd DX6_make 5 rfl) ?_
  refine tz_jp (P := fun j => ∀ (s_32 : Int64) (w2 : zW), Tz MX6_make (zRet zn) (j s_32 w2) 32 [(0, .ref 4), (1, .ref r1), (2, .int a2), (3, .int a3), (4, .int v1)] [.long s_32] w2) ?_ (fun j2 hj2 => ?_)
  · intro s_32 w2
    refine tz_lstore [(5, .long s_32), (0, .ref 4), (1, .ref r1), (2, .int a2), (3, .int a3), (4, .int v1)] (Nat.le_of_ble_eq_true rfl) rfl (zd DX6_make 15 rfl) ?_
    refine tz_iload 5 rfl (zd DX6_make 16 rfl) ?_
    refine tz_jp (P := fun j => ∀ (s_58 : Int64) (w3 : zW), Tz MX6_make (zRet zn) (j s_58 w3) 58 [(0, .ref 4), (1, .ref r1), (2, .int a2), (3, .int a3), (5, .long s_32)] [.long s_58] w3) ?_ (fun j3 hj3 => ?_)
    · intro s_58 w3
      refine tz_lstore [(7, .long s_58), (0, .ref 4), (1, .ref r1), (2, .int a2), (3, .int a3), (5, .long s_32)] (Nat.le_of_ble_eq_true rfl) rfl (zd DX6_make 26 rfl) ?_
      refine tz_iload_n 3 rfl (zd DX6_make 27 rfl) ?_
      refine tz_jp (P := fun j => ∀ (w4 : zW), Tz MX6_make (zRet zn) (j w4) 121 [(0, .ref 4), (1, .ref r1), (3, .int a3)] [] w4) ?_ (fun j4 hj4 => ?_)
      · intro w4
        refine tz_aload_n 0 rfl (zd DX6_make 56 rfl) ?_
        refine tz_dupa (zd DX6_make 57 rfl) ?_
        refine tz_getI 1 kz6 (zs_4) (by decide) rfl wk_76 (zd DX6_make 58 rfl) ?_
        refine tz_iconst (1 : Int32) zk_iconst_1 (zd DX6_make 59 rfl) ?_
        refine tz_iadd (zd DX6_make 60 rfl) ?_
        refine tz_putI 1 kz6 (zs_4) (by decide) rfl rfl wk_76 (zd DX6_make 61 rfl) (fun w5 => ?_)
        refine tz_aload_n 1 rfl (zd DX6_make 62 rfl) ?_
        refine tz_iload_n 2 rfl (zd DX6_make 63 rfl) ?_
        refine tz_aload_n 0 rfl (zd DX6_make 64 rfl) ?_
        refine tz_getR 1 0 kz6 (zs_4) (by decide) (by decide) rfl wk_75 (zd DX6_make 65 rfl) ?_
        refine tz_getJN 2 kz0 (zs_1) (by decide) rfl wn_55 (zd DX6_make 66 rfl) ?_
        refine tz_aload_n 0 rfl (zd DX6_make 67 rfl) ?_
        refine tz_getR 1 0 kz6 (zs_4) (by decide) (by decide) rfl wk_75 (zd DX6_make 68 rfl) ?_
        refine tz_getJN 3 kz0 (zs_1) (by decide) rfl wn_58 (zd DX6_make 69 rfl) ?_
        refine tz_aload_n 0 rfl (zd DX6_make 70 rfl) ?_
        refine tz_getI 1 kz6 (zs_4) (by decide) rfl wk_76 (zd DX6_make 71 rfl) ?_
        refine tz_cVN_n kz2 (hr1) rfl (rest := []) (YX2_grow) wn_332 (tX2_grow r1 (hr1) a3 (zL w5 1 2) (zL w5 1 3) (zI w5 4 1) w5) rfl rfl (Nat.le_of_ble_eq_true rfl) ⟨Nat.le_of_ble_eq_true rfl, Nat.le_of_ble_eq_true rfl⟩ (zd DX6_make 72 rfl) (fun v8 w6 e7 => ?_)
        exact tz_vret rfl (zd DX6_make 73 rfl)
      refine tz_if_ne 94 (zd DX6_make 28 rfl) rfl (fun q9 => ?_) (fun q9 => ?_)
      · refine tz_aload_n 1 rfl (zd DX6_make 43 rfl) ?_
        refine tz_getR 1 0 kz6 (zs_4) (by decide) (by decide) rfl wk_75 (zd DX6_make 44 rfl) ?_
        refine tz_lload 5 rfl (zd DX6_make 45 rfl) ?_
        refine tz_lload 0 rfl (zd DX6_make 46 rfl) ?_
        refine tz_aload_n 1 rfl (zd DX6_make 47 rfl) ?_
        refine tz_getR 1 0 kz6 (zs_4) (by decide) (by decide) rfl wk_75 (zd DX6_make 48 rfl) ?_
        refine tz_iload_n 4 rfl (zd DX6_make 49 rfl) ?_
        refine tz_cVN_l kz0 (zs_1) rfl (rest := [.long s_58, .long s_32, .ref 1]) (YX0_elementP) wn_286 (tX0_elementP a3 w3) rfl rfl (Nat.le_of_ble_eq_true rfl) ⟨Nat.le_of_ble_eq_true rfl, Nat.le_of_ble_eq_true rfl⟩ (zd DX6_make 50 rfl) (fun v12 w10 e11 => ?_)
        refine tz_aload_n 1 rfl (zd DX6_make 51 rfl) ?_
        refine tz_getR 1 0 kz6 (zs_4) (by decide) (by decide) rfl wk_75 (zd DX6_make 52 rfl) ?_
        refine tz_iload_n 4 rfl (zd DX6_make 53 rfl) ?_
        refine tz_cVN_l kz0 (zs_1) rfl (rest := [.long v12, .long s_58, .long s_32, .ref 1]) (YX0_elementQ) wn_294 (tX0_elementQ a3 w10) rfl rfl (Nat.le_of_ble_eq_true rfl) ⟨Nat.le_of_ble_eq_true rfl, Nat.le_of_ble_eq_true rfl⟩ (zd DX6_make 54 rfl) (fun v15 w13 e14 => ?_)
        refine tz_cVN_n kz0 (zs_1) rfl (rest := []) (YX0_join) wn_306 (tX0_join s_32 s_58 v12 v15 w13) rfl rfl (Nat.le_of_ble_eq_true rfl) ⟨Nat.le_of_ble_eq_true rfl, Nat.le_of_ble_eq_true rfl⟩ (zd DX6_make 55 rfl) (fun v18 w16 e17 => ?_)
        refine tz_lv (lv2 := [(0, .ref 4), (1, .ref r1), (3, .int a3)]) [1, 2, 4] rfl ?_
        exact hj4 w16
      refine tz_aload_n 1 rfl (zd DX6_make 29 rfl) ?_
      refine tz_getR 1 0 kz6 (zs_4) (by decide) (by decide) rfl wk_75 (zd DX6_make 30 rfl) ?_
      refine tz_aload_n 1 rfl (zd DX6_make 31 rfl) ?_
      refine tz_getR 1 0 kz6 (zs_4) (by decide) (by decide) rfl wk_75 (zd DX6_make 32 rfl) ?_
      refine tz_iload_n 4 rfl (zd DX6_make 33 rfl) ?_
      refine tz_cVN_l kz0 (zs_1) rfl (rest := [.ref 1]) (YX0_elementP) wn_286 (tX0_elementP a3 w3) rfl rfl (Nat.le_of_ble_eq_true rfl) ⟨Nat.le_of_ble_eq_true rfl, Nat.le_of_ble_eq_true rfl⟩ (zd DX6_make 34 rfl) (fun v21 w19 e20 => ?_)
      refine tz_aload_n 1 rfl (zd DX6_make 35 rfl) ?_
      refine tz_getR 1 0 kz6 (zs_4) (by decide) (by decide) rfl wk_75 (zd DX6_make 36 rfl) ?_
      refine tz_iload_n 4 rfl (zd DX6_make 37 rfl) ?_
      refine tz_cVN_l kz0 (zs_1) rfl (rest := [.long v21, .ref 1]) (YX0_elementQ) wn_294 (tX0_elementQ a3 w19) rfl rfl (Nat.le_of_ble_eq_true rfl) ⟨Nat.le_of_ble_eq_true rfl, Nat.le_of_ble_eq_true rfl⟩ (zd DX6_make 38 rfl) (fun v24 w22 e23 => ?_)
      refine tz_lload 5 rfl (zd DX6_make 39 rfl) ?_
      refine tz_lload 0 rfl (zd DX6_make 40 rfl) ?_
      refine tz_cVN_n kz0 (zs_1) rfl (rest := []) (YX0_join) wn_306 (tX0_join v21 v24 s_32 s_58 w22) rfl rfl (Nat.le_of_ble_eq_true rfl) ⟨Nat.le_of_ble_eq_true rfl, Nat.le_of_ble_eq_true rfl⟩ (zd DX6_make 41 rfl) (fun v27 w25 e26 => ?_)
      refine tz_goto 121 (zd DX6_make 42 rfl) rfl ?_
      refine tz_lv (lv2 := [(0, .ref 4), (1, .ref r1), (3, .int a3)]) [1, 2, 4] rfl ?_
      exact hj4 w25
    refine tz_if_ge 49 (zd DX6_make 17 rfl) rfl (fun q28 => ?_) (fun q28 => ?_)
    · refine tz_aload_n 2 rfl (zd DX6_make 22 rfl) ?_
      refine tz_getRN (r1 + 3) 3 kz2 (hr1) (by decide) (by decide) ((zf2_3 (hr1)).1) wn_114 (zd DX6_make 23 rfl) ?_
      refine tz_iload 5 rfl (zd DX6_make 24 rfl) ?_
      refine tz_cSN_l (rest := []) (YX7_at_) wn_279 (tX7_at_ (r1 + 3) ((zf2_3 (w := w2) (hr1)).2.1) v1 w2) rfl rfl (Nat.le_of_ble_eq_true rfl) ⟨Nat.le_of_ble_eq_true rfl, Nat.le_of_ble_eq_true rfl⟩ (zd DX6_make 25 rfl) (fun v31 w29 e30 => ?_)
      refine tz_lv (lv2 := [(0, .ref 4), (1, .ref r1), (2, .int a2), (3, .int a3), (5, .long s_32)]) [1, 2, 3, 4, 0] rfl ?_
      exact hj3 v31 w29
    refine tz_aload_n 1 rfl (zd DX6_make 18 rfl) ?_
    refine tz_getR 1 0 kz6 (zs_4) (by decide) (by decide) rfl wk_75 (zd DX6_make 19 rfl) ?_
    refine tz_cVN_l kz0 (zs_1) rfl (rest := []) (YX0_emptyQ) wn_282 (tX0_emptyQ w2) rfl rfl (Nat.le_of_ble_eq_true rfl) ⟨Nat.le_of_ble_eq_true rfl, Nat.le_of_ble_eq_true rfl⟩ (zd DX6_make 20 rfl) (fun v34 w32 e33 => ?_)
    refine tz_goto 58 (zd DX6_make 21 rfl) rfl ?_
    refine tz_lv (lv2 := [(0, .ref 4), (1, .ref r1), (2, .int a2), (3, .int a3), (5, .long s_32)]) [1, 2, 3, 4, 0] rfl ?_
    exact hj3 v34 w32
  refine tz_if_ge 23 (zd DX6_make 6 rfl) rfl (fun q35 => ?_) (fun q35 => ?_)
  · refine tz_aload_n 2 rfl (zd DX6_make 11 rfl) ?_
    refine tz_getRN (r1 + 2) 2 kz2 (hr1) (by decide) (by decide) ((zf2_2 (hr1)).1) wn_111 (zd DX6_make 12 rfl) ?_
    refine tz_iload 0 rfl (zd DX6_make 13 rfl) ?_
    refine tz_cSN_l (rest := []) (YX7_at_) wn_279 (tX7_at_ (r1 + 2) ((zf2_2 (w := w) (hr1)).2.1) v1 w) rfl rfl (Nat.le_of_ble_eq_true rfl) ⟨Nat.le_of_ble_eq_true rfl, Nat.le_of_ble_eq_true rfl⟩ (zd DX6_make 14 rfl) (fun v38 w36 e37 => ?_)
    refine tz_lv (lv2 := [(0, .ref 4), (1, .ref r1), (2, .int a2), (3, .int a3), (4, .int v1)]) [1, 2, 3, 4, 0] rfl ?_
    exact hj2 v38 w36
  refine tz_aload_n 1 rfl (zd DX6_make 7 rfl) ?_
  refine tz_getR 1 0 kz6 (zs_4) (by decide) (by decide) rfl wk_75 (zd DX6_make 8 rfl) ?_
  refine tz_cVN_l kz0 (zs_1) rfl (rest := []) (YX0_emptyP) wn_273 (tX0_emptyP w) rfl rfl (Nat.le_of_ble_eq_true rfl) ⟨Nat.le_of_ble_eq_true rfl, Nat.le_of_ble_eq_true rfl⟩ (zd DX6_make 9 rfl) (fun v41 w39 e40 => ?_)
  refine tz_goto 32 (zd DX6_make 10 rfl) rfl ?_
  refine tz_lv (lv2 := [(0, .ref 4), (1, .ref r1), (2, .int a2), (3, .int a3), (4, .int v1)]) [1, 2, 3, 4, 0] rfl ?_
  exact hj2 v41 w39
def QX6_put : List (Nat × Instr × Nat) := [(0, .aload_n 0, 1), (1, .aload_n 1, 1), (2, .iload_n 2, 1), (3, .invokevirtual 70, 3), (6, .iload_n 2, 1), (7, .iload_n 3, 1), (8, .invokevirtual 76, 3), (11, .return_, 1)]
set_option maxRecDepth 100000 in
theorem DX6_put : ∀ q ∈ QX6_put, decode cX6_put q.1 = .ok (q.2.1, q.2.2) := by decide +kernel
abbrev MX6_put : zM := (cX6_put, "EndSums$Works", 4, none, { frames := 3, cells := 0, slots := 0, locals := 88 })
def fX6_put (r1 : Nat) (a2 : Int32) (a3 : Int32) (w : zW) : Option (Unit × zW) :=
  bd (fX1_pile r1 a2 w) fun v3 w1 =>
  bd (fX6_make v3 a2 a3 w1) fun _ w4 =>
  some ((), w4)
theorem YX6_put : zYV yX6_put MX6_put 3 := ⟨wk_490, wk_4, ⟨wk_489, ws_44⟩, ⟨by decide, by decide, by decide +kernel⟩, rfl, rfl⟩
set_option maxHeartbeats 4000000 in
set_option maxRecDepth 100000 in
theorem tX6_put (r1 : Nat) (hr1 : zc 1 r1) (a2 : Int32) (a3 : Int32) (w : zW) : Sm yX6_put MX6_put zn [.ref 4, .ref r1, .int a2, .int a3] w (fX6_put r1 a2 a3 w) := by
  refine Sm_of (lv0 := [(0, .ref 4), (1, .ref r1), (2, .int a2), (3, .int a3)]) (by decide) rfl (fun _ => Nat.le_of_ble_eq_true rfl) rfl ?_
  unfold fX6_put
  refine tz_aload_n 0 rfl (zd DX6_put 0 rfl) ?_
  refine tz_aload_n 1 rfl (zd DX6_put 1 rfl) ?_
  refine tz_iload_n 2 rfl (zd DX6_put 2 rfl) ?_
  refine tz_cVN_q kz1 (hr1) rfl (rest := [.ref 4]) (YX1_pile) wn_491 (tX1_pile r1 (hr1) a2 w) rfl rfl (Nat.le_of_ble_eq_true rfl) ⟨Nat.le_of_ble_eq_true rfl, Nat.le_of_ble_eq_true rfl⟩ (zd DX6_put 3 rfl) (fun v3 w1 e2 => ?_)
  refine tz_iload_n 2 rfl (zd DX6_put 4 rfl) ?_
  refine tz_iload_n 3 rfl (zd DX6_put 5 rfl) ?_
  refine tz_cV_n kz6 (zs_4) rfl (rest := []) (YX6_make) wk_269 (tX6_make v3 (fX1_pile_c (hr1) e2) a2 a3 w1) rfl rfl (Nat.le_of_ble_eq_true rfl) ⟨Nat.le_of_ble_eq_true rfl, Nat.le_of_ble_eq_true rfl⟩ (zd DX6_put 6 rfl) (fun v6 w4 e5 => ?_)
  exact tz_vret rfl (zd DX6_put 7 rfl)
def QX6_hold : List (Nat × Instr × Nat) := [(0, .iconst 0, 1), (1, .istore_n 2, 1), (2, .iload_n 2, 1), (3, .aload_n 1, 1), (4, .invokevirtual 80, 3), (7, .if_icmp .ge 22, 3), (10, .aload_n 0, 1), (11, .getfield 9, 3), (14, .iload_n 2, 1), (15, .aload_n 1, 1), (16, .iload_n 2, 1), (17, .invokevirtual 83, 3), (20, .invokestatic 87, 3), (23, .iinc 2 1, 3), (26, .goto (-24), 3), (29, .return_, 1)]
set_option maxRecDepth 100000 in
theorem DX6_hold : ∀ q ∈ QX6_hold, decode cX6_hold q.1 = .ok (q.2.1, q.2.2) := by decide +kernel
abbrev MX6_hold : zM := (cX6_hold, "EndSums$Works", 3, none, { frames := 2, cells := 0, slots := 0, locals := 42 })
def fX6_hold_L2 (r1 : Nat) : Nat → Int32 → zW → Option (Unit × zW)
  | 0, _, _ => none
  | n + 1, x2, w =>
    bd (fX1_size r1 w) fun v3 w1 =>
    if v3 ≤ x2 then
      some ((), w1)
    else
    bd (fX1_itemAt r1 x2 w1) fun v7 w5 =>
    bd (fX7_set 5 x2 v7 w5) fun _ w8 =>
    fX6_hold_L2 r1 n (x2 + (1 : Int32)) w8
def fX6_hold (r1 : Nat) (w : zW) : Option (Unit × zW) :=
  fX6_hold_L2 r1 zFU (0 : Int32) w
theorem YX6_hold : zYV yX6_hold MX6_hold 1 := ⟨wk_237, wk_4, ⟨wk_236, ws_3⟩, ⟨by decide, by decide, by decide +kernel⟩, rfl, rfl⟩
set_option maxHeartbeats 4000000 in
set_option maxRecDepth 100000 in
theorem lX6_hold_L2 (r1 : Nat) (hr1 : zc 1 r1) : ∀ (n : Nat) (x2 : Int32) (w : zW), Tz MX6_hold (zRet zn) (fX6_hold_L2 r1 n x2 w) 2 [(0, .ref 4), (1, .ref r1), (2, .int x2)] [] w := by
  intro n
  induction n with
  | zero => intro x2 w; exact tz_eq (fX6_hold_L2.eq_1 _ _ _) tz_none
  | succ n ih =>
    intro x2 w
    refine tz_eq (fX6_hold_L2.eq_2 _ _ _ _) ?_
    refine tz_iload_n 2 rfl (zd DX6_hold 2 rfl) ?_
    refine tz_aload_n 1 rfl (zd DX6_hold 3 rfl) ?_
    refine tz_cVN_i kz1 (hr1) rfl (rest := [.int x2]) (YX1_size) wn_238 (tX1_size r1 (hr1) w) rfl rfl (Nat.le_of_ble_eq_true rfl) ⟨Nat.le_of_ble_eq_true rfl, Nat.le_of_ble_eq_true rfl⟩ (zd DX6_hold 4 rfl) (fun v3 w1 e2 => ?_)
    refine tz_icmp_ge 29 (zd DX6_hold 5 rfl) rfl (fun q4 => ?_) (fun q4 => ?_)
    · exact tz_vret rfl (zd DX6_hold 15 rfl)
    refine tz_aload_n 0 rfl (zd DX6_hold 6 rfl) ?_
    refine tz_getR 5 3 kz6 (zs_4) (by decide) (by decide) rfl wk_80 (zd DX6_hold 7 rfl) ?_
    refine tz_iload_n 2 rfl (zd DX6_hold 8 rfl) ?_
    refine tz_aload_n 1 rfl (zd DX6_hold 9 rfl) ?_
    refine tz_iload_n 2 rfl (zd DX6_hold 10 rfl) ?_
    refine tz_cVN_i kz1 (hr1) rfl (rest := [.int x2, .ref 5]) (YX1_itemAt) wn_242 (tX1_itemAt r1 (hr1) x2 w1) rfl rfl (Nat.le_of_ble_eq_true rfl) ⟨Nat.le_of_ble_eq_true rfl, Nat.le_of_ble_eq_true rfl⟩ (zd DX6_hold 11 rfl) (fun v7 w5 e6 => ?_)
    refine tz_cSN_n (rest := []) (YX7_set) wn_261 (tX7_set 5 (zs_5.1) x2 v7 w5) rfl rfl (Nat.le_of_ble_eq_true rfl) ⟨Nat.le_of_ble_eq_true rfl, Nat.le_of_ble_eq_true rfl⟩ (zd DX6_hold 12 rfl) (fun v10 w8 e9 => ?_)
    refine tz_iinc 2 (1 : Int32) [(2, .int (x2 + (1 : Int32))), (0, .ref 4), (1, .ref r1)] rfl zk_iconst_1 (Nat.le_of_ble_eq_true rfl) rfl (zd DX6_hold 13 rfl) ?_
    refine tz_goto 2 (zd DX6_hold 14 rfl) rfl ?_
    refine tz_lv (lv2 := [(0, .ref 4), (1, .ref r1), (2, .int (x2 + (1 : Int32)))]) [1, 2, 0] rfl ?_
    exact ih (x2 + (1 : Int32)) w8
set_option maxHeartbeats 4000000 in
set_option maxRecDepth 100000 in
theorem tX6_hold (r1 : Nat) (hr1 : zc 1 r1) (w : zW) : Sm yX6_hold MX6_hold zn [.ref 4, .ref r1] w (fX6_hold r1 w) := by
  refine Sm_of (lv0 := [(0, .ref 4), (1, .ref r1)]) (by decide) rfl (fun _ => Nat.le_of_ble_eq_true rfl) rfl ?_
  unfold fX6_hold
  refine tz_iconst (0 : Int32) zk_iconst_0 (zd DX6_hold 0 rfl) ?_
  refine tz_istore_n [(2, .int (0 : Int32)), (0, .ref 4), (1, .ref r1)] (Nat.le_of_ble_eq_true rfl) rfl (zd DX6_hold 1 rfl) ?_
  refine tz_lv (lv2 := [(0, .ref 4), (1, .ref r1), (2, .int (0 : Int32))]) [1, 2, 0] rfl ?_
  exact lX6_hold_L2 r1 (hr1) zFU (0 : Int32) w
def QX6_lay : List (Nat × Instr × Nat) := [(0, .aload_n 1, 1), (1, .getfield 91, 3), (4, .iconst 0, 1), (5, .putfield 19, 3), (8, .aload_n 1, 1), (9, .getfield 95, 3), (12, .iconst 0, 1), (13, .putfield 19, 3), (16, .iload 4, 2), (18, .iconst 1, 1), (19, .isub, 1), (20, .istore 5, 2), (22, .iload 5, 2), (24, .ifCond .lt 29, 3), (27, .aload_n 0, 1), (28, .aload_n 1, 1), (29, .getfield 91, 3), (32, .iconst 0, 1), (33, .aload_n 0, 1), (34, .getfield 9, 3), (37, .iload_n 2, 1), (38, .iload 5, 2), (40, .iadd, 1), (41, .invokestatic 98, 3), (44, .invokevirtual 76, 3), (47, .iinc 5 (-1), 3), (50, .goto (-28), 3), (53, .iload 4, 2), (55, .istore 5, 2), (57, .iload 5, 2), (59, .iload_n 3, 1), (60, .if_icmp .ge 29, 3), (63, .aload_n 0, 1), (64, .aload_n 1, 1), (65, .getfield 95, 3), (68, .iconst 1, 1), (69, .aload_n 0, 1), (70, .getfield 9, 3), (73, .iload_n 2, 1), (74, .iload 5, 2), (76, .iadd, 1), (77, .invokestatic 98, 3), (80, .invokevirtual 76, 3), (83, .iinc 5 1, 3), (86, .goto (-29), 3), (89, .return_, 1)]
set_option maxRecDepth 100000 in
theorem DX6_lay : ∀ q ∈ QX6_lay, decode cX6_lay q.1 = .ok (q.2.1, q.2.2) := by decide +kernel
abbrev MX6_lay : zM := (cX6_lay, "EndSums$Works", 6, none, { frames := 3, cells := 0, slots := 0, locals := 88 })
def fX6_lay_L57 (r1 : Nat) (x2 : Int32) (x3 : Int32) : Nat → Int32 → zW → Option (Unit × zW)
  | 0, _, _ => none
  | n + 1, x5, w =>
    if x3 ≤ x5 then
      some ((), w)
    else
    bd (fX7_at 5 (x2 + x5) w) fun v8 w6 =>
    bd (fX6_make (r1 + 6) (1 : Int32) v8 w6) fun _ w9 =>
    fX6_lay_L57 r1 x2 x3 n (x5 + (1 : Int32)) w9
def fX6_lay_L22 (r1 : Nat) (x2 : Int32) (x3 : Int32) (x4 : Int32) : Nat → Int32 → zW → Option (Unit × zW)
  | 0, _, _ => none
  | n + 1, x5, w =>
    if x5 < (0 : Int32) then
      fX6_lay_L57 r1 x2 x3 zFU x4 w
    else
    bd (fX7_at 5 (x2 + x5) w) fun v14 w12 =>
    bd (fX6_make (r1 + 1) (0 : Int32) v14 w12) fun _ w15 =>
    fX6_lay_L22 r1 x2 x3 x4 n (x5 + (-1 : Int32)) w15
def fX6_lay (r1 : Nat) (a2 : Int32) (a3 : Int32) (a4 : Int32) (w : zW) : Option (Unit × zW) :=
  lt (zsI w (r1 + 1) 0 (0 : Int32)) fun w1 =>
  lt (zsI w1 (r1 + 6) 0 (0 : Int32)) fun w2 =>
  lt (a4 - (1 : Int32)) fun v3 =>
  fX6_lay_L22 r1 a2 a3 a4 zFU v3 w2
theorem YX6_lay : zYV yX6_lay MX6_lay 4 := ⟨wk_267, wk_4, ⟨wk_266, ws_9⟩, ⟨by decide, by decide, by decide +kernel⟩, rfl, rfl⟩
set_option maxHeartbeats 4000000 in
set_option maxRecDepth 100000 in
theorem lX6_lay_L57 (r1 : Nat) (hr1 : zc 1 r1) (x2 : Int32) (x3 : Int32) : ∀ (n : Nat) (x5 : Int32) (w : zW), Tz MX6_lay (zRet zn) (fX6_lay_L57 r1 x2 x3 n x5 w) 57 [(0, .ref 4), (1, .ref r1), (2, .int x2), (3, .int x3), (5, .int x5)] [] w := by
  intro n
  induction n with
  | zero => intro x5 w; exact tz_eq (fX6_lay_L57.eq_1 _ _ _ _ _) tz_none
  | succ n ih =>
    intro x5 w
    refine tz_eq (fX6_lay_L57.eq_2 _ _ _ _ _ _) ?_
    refine tz_iload 4 rfl (zd DX6_lay 29 rfl) ?_
    refine tz_iload_n 3 rfl (zd DX6_lay 30 rfl) ?_
    refine tz_icmp_ge 89 (zd DX6_lay 31 rfl) rfl (fun q5 => ?_) (fun q5 => ?_)
    · exact tz_vret rfl (zd DX6_lay 45 rfl)
    refine tz_aload_n 0 rfl (zd DX6_lay 32 rfl) ?_
    refine tz_aload_n 1 rfl (zd DX6_lay 33 rfl) ?_
    refine tz_getRN (r1 + 6) 1 kz1 (hr1) (by decide) (by decide) ((zf1_1 (hr1)).1) wn_134 (zd DX6_lay 34 rfl) ?_
    refine tz_iconst (1 : Int32) zk_iconst_1 (zd DX6_lay 35 rfl) ?_
    refine tz_aload_n 0 rfl (zd DX6_lay 36 rfl) ?_
    refine tz_getR 5 3 kz6 (zs_4) (by decide) (by decide) rfl wk_80 (zd DX6_lay 37 rfl) ?_
    refine tz_iload_n 2 rfl (zd DX6_lay 38 rfl) ?_
    refine tz_iload 4 rfl (zd DX6_lay 39 rfl) ?_
    refine tz_iadd (zd DX6_lay 40 rfl) ?_
    refine tz_cSN_i (rest := [.int (1 : Int32), .ref (r1 + 6), .ref 4]) (YX7_at) wn_268 (tX7_at 5 (zs_5.1) (x2 + x5) w) rfl rfl (Nat.le_of_ble_eq_true rfl) ⟨Nat.le_of_ble_eq_true rfl, Nat.le_of_ble_eq_true rfl⟩ (zd DX6_lay 41 rfl) (fun v8 w6 e7 => ?_)
    refine tz_cV_n kz6 (zs_4) rfl (rest := []) (YX6_make) wk_269 (tX6_make (r1 + 6) ((zf1_1 (w := w) (hr1)).2) (1 : Int32) v8 w6) rfl rfl (Nat.le_of_ble_eq_true rfl) ⟨Nat.le_of_ble_eq_true rfl, Nat.le_of_ble_eq_true rfl⟩ (zd DX6_lay 42 rfl) (fun v11 w9 e10 => ?_)
    refine tz_iinc 4 (1 : Int32) [(5, .int (x5 + (1 : Int32))), (0, .ref 4), (1, .ref r1), (2, .int x2), (3, .int x3)] rfl zk_iconst_1 (Nat.le_of_ble_eq_true rfl) rfl (zd DX6_lay 43 rfl) ?_
    refine tz_goto 57 (zd DX6_lay 44 rfl) rfl ?_
    refine tz_lv (lv2 := [(0, .ref 4), (1, .ref r1), (2, .int x2), (3, .int x3), (5, .int (x5 + (1 : Int32)))]) [1, 2, 3, 4, 0] rfl ?_
    exact ih (x5 + (1 : Int32)) w9
set_option maxHeartbeats 4000000 in
set_option maxRecDepth 100000 in
theorem lX6_lay_L22 (r1 : Nat) (hr1 : zc 1 r1) (x2 : Int32) (x3 : Int32) (x4 : Int32) : ∀ (n : Nat) (x5 : Int32) (w : zW), Tz MX6_lay (zRet zn) (fX6_lay_L22 r1 x2 x3 x4 n x5 w) 22 [(0, .ref 4), (1, .ref r1), (2, .int x2), (3, .int x3), (4, .int x4), (5, .int x5)] [] w := by
  intro n
  induction n with
  | zero => intro x5 w; exact tz_eq (fX6_lay_L22.eq_1 _ _ _ _ _ _) tz_none
  | succ n ih =>
    intro x5 w
    refine tz_eq (fX6_lay_L22.eq_2 _ _ _ _ _ _ _) ?_
    refine tz_iload 5 rfl (zd DX6_lay 12 rfl) ?_
    refine tz_if_lt 53 (zd DX6_lay 13 rfl) rfl (fun q4 => ?_) (fun q4 => ?_)
    · refine tz_iload 4 rfl (zd DX6_lay 27 rfl) ?_
      refine tz_istore [(5, .int x4), (0, .ref 4), (1, .ref r1), (2, .int x2), (3, .int x3), (4, .int x4)] (Nat.le_of_ble_eq_true rfl) rfl (zd DX6_lay 28 rfl) ?_
      refine tz_lv (lv2 := [(0, .ref 4), (1, .ref r1), (2, .int x2), (3, .int x3), (5, .int x4)]) [1, 2, 3, 4, 0] rfl ?_
      exact lX6_lay_L57 r1 (hr1) x2 x3 zFU x4 w
    refine tz_aload_n 0 rfl (zd DX6_lay 14 rfl) ?_
    refine tz_aload_n 1 rfl (zd DX6_lay 15 rfl) ?_
    refine tz_getRN (r1 + 1) 0 kz1 (hr1) (by decide) (by decide) ((zf1_0 (hr1)).1) wn_131 (zd DX6_lay 16 rfl) ?_
    refine tz_iconst (0 : Int32) zk_iconst_0 (zd DX6_lay 17 rfl) ?_
    refine tz_aload_n 0 rfl (zd DX6_lay 18 rfl) ?_
    refine tz_getR 5 3 kz6 (zs_4) (by decide) (by decide) rfl wk_80 (zd DX6_lay 19 rfl) ?_
    refine tz_iload_n 2 rfl (zd DX6_lay 20 rfl) ?_
    refine tz_iload 5 rfl (zd DX6_lay 21 rfl) ?_
    refine tz_iadd (zd DX6_lay 22 rfl) ?_
    refine tz_cSN_i (rest := [.int (0 : Int32), .ref (r1 + 1), .ref 4]) (YX7_at) wn_268 (tX7_at 5 (zs_5.1) (x2 + x5) w) rfl rfl (Nat.le_of_ble_eq_true rfl) ⟨Nat.le_of_ble_eq_true rfl, Nat.le_of_ble_eq_true rfl⟩ (zd DX6_lay 23 rfl) (fun v14 w12 e13 => ?_)
    refine tz_cV_n kz6 (zs_4) rfl (rest := []) (YX6_make) wk_269 (tX6_make (r1 + 1) ((zf1_0 (w := w) (hr1)).2) (0 : Int32) v14 w12) rfl rfl (Nat.le_of_ble_eq_true rfl) ⟨Nat.le_of_ble_eq_true rfl, Nat.le_of_ble_eq_true rfl⟩ (zd DX6_lay 24 rfl) (fun v17 w15 e16 => ?_)
    refine tz_iinc 5 (-1 : Int32) [(5, .int (x5 + (-1 : Int32))), (0, .ref 4), (1, .ref r1), (2, .int x2), (3, .int x3), (4, .int x4)] rfl zk_iconst_m1 (Nat.le_of_ble_eq_true rfl) rfl (zd DX6_lay 25 rfl) ?_
    refine tz_goto 22 (zd DX6_lay 26 rfl) rfl ?_
    refine tz_lv (lv2 := [(0, .ref 4), (1, .ref r1), (2, .int x2), (3, .int x3), (4, .int x4), (5, .int (x5 + (-1 : Int32)))]) [1, 2, 3, 4, 5, 0] rfl ?_
    exact ih (x5 + (-1 : Int32)) w15
set_option maxHeartbeats 4000000 in
set_option maxRecDepth 100000 in
theorem tX6_lay (r1 : Nat) (hr1 : zc 1 r1) (a2 : Int32) (a3 : Int32) (a4 : Int32) (w : zW) : Sm yX6_lay MX6_lay zn [.ref 4, .ref r1, .int a2, .int a3, .int a4] w (fX6_lay r1 a2 a3 a4 w) := by
  refine Sm_of (lv0 := [(0, .ref 4), (1, .ref r1), (2, .int a2), (3, .int a3), (4, .int a4)]) (by decide) rfl (fun _ => Nat.le_of_ble_eq_true rfl) rfl ?_
  unfold fX6_lay
  refine tz_aload_n 1 rfl (zd DX6_lay 0 rfl) ?_
  refine tz_getRN (r1 + 1) 0 kz1 (hr1) (by decide) (by decide) ((zf1_0 (hr1)).1) wn_131 (zd DX6_lay 1 rfl) ?_
  refine tz_iconst (0 : Int32) zk_iconst_0 (zd DX6_lay 2 rfl) ?_
  refine tz_putIN 0 kz2 ((zf1_0 (w := w) (hr1)).2) (by decide) rfl rfl wn_103 (zd DX6_lay 3 rfl) (fun w1 => ?_)
  refine tz_aload_n 1 rfl (zd DX6_lay 4 rfl) ?_
  refine tz_getRN (r1 + 6) 1 kz1 (hr1) (by decide) (by decide) ((zf1_1 (hr1)).1) wn_134 (zd DX6_lay 5 rfl) ?_
  refine tz_iconst (0 : Int32) zk_iconst_0 (zd DX6_lay 6 rfl) ?_
  refine tz_putIN 0 kz2 ((zf1_1 (w := w1) (hr1)).2) (by decide) rfl rfl wn_103 (zd DX6_lay 7 rfl) (fun w2 => ?_)
  refine tz_iload 4 rfl (zd DX6_lay 8 rfl) ?_
  refine tz_iconst (1 : Int32) zk_iconst_1 (zd DX6_lay 9 rfl) ?_
  refine tz_isub (zd DX6_lay 10 rfl) ?_
  refine tz_lti (fun v3 => ?_)
  refine tz_istore [(5, .int v3), (0, .ref 4), (1, .ref r1), (2, .int a2), (3, .int a3), (4, .int a4)] (Nat.le_of_ble_eq_true rfl) rfl (zd DX6_lay 11 rfl) ?_
  refine tz_lv (lv2 := [(0, .ref 4), (1, .ref r1), (2, .int a2), (3, .int a3), (4, .int a4), (5, .int v3)]) [1, 2, 3, 4, 5, 0] rfl ?_
  exact lX6_lay_L22 r1 (hr1) a2 a3 a4 zFU v3 w2
def QX6_layAsItLies : List (Nat × Instr × Nat) := [(0, .aload_n 0, 1), (1, .aload_n 1, 1), (2, .invokevirtual 101, 3), (5, .aload_n 0, 1), (6, .aload_n 1, 1), (7, .iconst 0, 1), (8, .aload_n 1, 1), (9, .invokevirtual 80, 3), (12, .aload_n 1, 1), (13, .getfield 91, 3), (16, .getfield 19, 3), (19, .invokevirtual 105, 3), (22, .return_, 1)]
set_option maxRecDepth 100000 in
theorem DX6_layAsItLies : ∀ q ∈ QX6_layAsItLies, decode cX6_layAsItLies q.1 = .ok (q.2.1, q.2.2) := by decide +kernel
abbrev MX6_layAsItLies : zM := (cX6_layAsItLies, "EndSums$Works", 2, none, { frames := 4, cells := 0, slots := 0, locals := 113 })
def fX6_layAsItLies (r1 : Nat) (w : zW) : Option (Unit × zW) :=
  bd (fX6_hold r1 w) fun _ w1 =>
  bd (fX1_size r1 w1) fun v6 w4 =>
  bd (fX6_lay r1 (0 : Int32) v6 (zI w4 (r1 + 1) 0) w4) fun _ w7 =>
  some ((), w7)
theorem YX6_layAsItLies : zYV yX6_layAsItLies MX6_layAsItLies 1 := ⟨wk_233, wk_4, ⟨wk_232, ws_2⟩, ⟨by decide, by decide, by decide +kernel⟩, rfl, rfl⟩
set_option maxHeartbeats 4000000 in
set_option maxRecDepth 100000 in
theorem tX6_layAsItLies (r1 : Nat) (hr1 : zc 1 r1) (w : zW) : Sm yX6_layAsItLies MX6_layAsItLies zn [.ref 4, .ref r1] w (fX6_layAsItLies r1 w) := by
  refine Sm_of (lv0 := [(0, .ref 4), (1, .ref r1)]) (by decide) rfl (fun _ => Nat.le_of_ble_eq_true rfl) rfl ?_
  unfold fX6_layAsItLies
  refine tz_aload_n 0 rfl (zd DX6_layAsItLies 0 rfl) ?_
  refine tz_aload_n 1 rfl (zd DX6_layAsItLies 1 rfl) ?_
  refine tz_cV_n kz6 (zs_4) rfl (rest := []) (YX6_hold) wk_234 (tX6_hold r1 (hr1) w) rfl rfl (Nat.le_of_ble_eq_true rfl) ⟨Nat.le_of_ble_eq_true rfl, Nat.le_of_ble_eq_true rfl⟩ (zd DX6_layAsItLies 2 rfl) (fun v3 w1 e2 => ?_)
  refine tz_aload_n 0 rfl (zd DX6_layAsItLies 3 rfl) ?_
  refine tz_aload_n 1 rfl (zd DX6_layAsItLies 4 rfl) ?_
  refine tz_iconst (0 : Int32) zk_iconst_0 (zd DX6_layAsItLies 5 rfl) ?_
  refine tz_aload_n 1 rfl (zd DX6_layAsItLies 6 rfl) ?_
  refine tz_cVN_i kz1 (hr1) rfl (rest := [.int (0 : Int32), .ref r1, .ref 4]) (YX1_size) wn_238 (tX1_size r1 (hr1) w1) rfl rfl (Nat.le_of_ble_eq_true rfl) ⟨Nat.le_of_ble_eq_true rfl, Nat.le_of_ble_eq_true rfl⟩ (zd DX6_layAsItLies 7 rfl) (fun v6 w4 e5 => ?_)
  refine tz_aload_n 1 rfl (zd DX6_layAsItLies 8 rfl) ?_
  refine tz_getRN (r1 + 1) 0 kz1 (hr1) (by decide) (by decide) ((zf1_0 (hr1)).1) wn_131 (zd DX6_layAsItLies 9 rfl) ?_
  refine tz_getIN 0 kz2 ((zf1_0 (w := w4) (hr1)).2) (by decide) rfl wn_103 (zd DX6_layAsItLies 10 rfl) ?_
  refine tz_cV_n kz6 (zs_4) rfl (rest := []) (YX6_lay) wk_264 (tX6_lay r1 (hr1) (0 : Int32) v6 (zI w4 (r1 + 1) 0) w4) rfl rfl (Nat.le_of_ble_eq_true rfl) ⟨Nat.le_of_ble_eq_true rfl, Nat.le_of_ble_eq_true rfl⟩ (zd DX6_layAsItLies 11 rfl) (fun v9 w7 e8 => ?_)
  exact tz_vret rfl (zd DX6_layAsItLies 12 rfl)
def QX6_take : List (Nat × Instr × Nat) := [(0, .aload_n 1, 1), (1, .iload_n 2, 1), (2, .invokevirtual 70, 3), (5, .astore_n 3, 1), (6, .aload_n 1, 1), (7, .invokevirtual 80, 3), (10, .istore 4, 2), (12, .aload_n 3, 1), (13, .getfield 19, 3), (16, .ifCond .ne 53, 3), (19, .iload 4, 2), (21, .ifCond .le 48, 3), (24, .iload 4, 2), (26, .iconst 1, 1), (27, .iadd, 1), (28, .iconst 2, 1), (29, .idiv, 1), (30, .istore 5, 2), (32, .aload_n 0, 1), (33, .aload_n 1, 1), (34, .invokevirtual 101, 3), (37, .aload_n 0, 1), (38, .aload_n 1, 1), (39, .iconst 0, 1), (40, .iload 4, 2), (42, .iload_n 2, 1), (43, .ifCond .ne 8, 3), (46, .iload 5, 2), (48, .goto 8, 3), (51, .iload 4, 2), (53, .iload 5, 2), (55, .isub, 1), (56, .invokevirtual 105, 3), (59, .aload_n 0, 1), (60, .dup, 1), (61, .getfield 109, 3), (64, .iconst 1, 1), (65, .iadd, 1), (66, .putfield 109, 3), (69, .aload_n 3, 1), (70, .getfield 19, 3), (73, .ifCond .ne 5, 3), (76, .iconst (-1), 1), (77, .ireturn, 1), (78, .aload_n 3, 1), (79, .dup, 1), (80, .getfield 19, 3), (83, .iconst 1, 1), (84, .isub, 1), (85, .putfield 19, 3), (88, .aload_n 3, 1), (89, .getfield 112, 3), (92, .aload_n 3, 1), (93, .getfield 19, 3), (96, .invokestatic 98, 3), (99, .ireturn, 1)]
set_option maxRecDepth 100000 in
theorem DX6_take : ∀ q ∈ QX6_take, decode cX6_take q.1 = .ok (q.2.1, q.2.2) := by decide +kernel
abbrev MX6_take : zM := (cX6_take, "EndSums$Works", 6, (some .int), { frames := 4, cells := 0, slots := 0, locals := 113 })
def fX6_take (r1 : Nat) (a2 : Int32) (w : zW) : Option (Int32 × zW) :=
  bd (fX1_pile r1 a2 w) fun v3 w1 =>
  bd (fX1_size r1 w1) fun v6 w4 =>
  lt (fun (w7 : zW) =>
    if ¬ (zI w7 v3 0) = (0 : Int32) then
      lt (zsI w7 v3 0 ((zI w7 v3 0) - (1 : Int32))) fun w9 =>
      bd (fX7_at (v3 + 1) (zI w9 v3 0) w9) fun v12 w10 =>
      some (v12, w10)
    else
    some ((-1 : Int32), w7)) fun j7 =>
  if ¬ (zI w4 v3 0) = (0 : Int32) then
    j7 w4
  else
  if v6 ≤ (0 : Int32) then
    j7 w4
  else
  lt ((v6 + (1 : Int32)) / (2 : Int32)) fun v15 =>
  bd (fX6_hold r1 w4) fun _ w16 =>
  lt (if ¬ a2 = (0 : Int32) then (v6 - v15) else v15) fun v20 =>
  bd (fX6_lay r1 (0 : Int32) v6 v20 w16) fun _ w21 =>
  lt (zsI w21 4 2 ((zI w21 4 2) + (1 : Int32))) fun w24 =>
  j7 w24
theorem YX6_take : zYV yX6_take MX6_take 2 := ⟨wk_499, wk_4, ⟨wk_498, ws_45⟩, ⟨by decide, by decide, by decide +kernel⟩, rfl, rfl⟩
set_option maxHeartbeats 4000000 in
set_option maxRecDepth 100000 in
theorem tX6_take (r1 : Nat) (hr1 : zc 1 r1) (a2 : Int32) (w : zW) : Sm yX6_take MX6_take zi [.ref 4, .ref r1, .int a2] w (fX6_take r1 a2 w) := by
  refine Sm_of (lv0 := [(0, .ref 4), (1, .ref r1), (2, .int a2)]) (by decide) rfl (fun _ => Nat.le_of_ble_eq_true rfl) rfl ?_
  unfold fX6_take
  refine tz_aload_n 1 rfl (zd DX6_take 0 rfl) ?_
  refine tz_iload_n 2 rfl (zd DX6_take 1 rfl) ?_
  refine tz_cVN_q kz1 (hr1) rfl (rest := []) (YX1_pile) wn_491 (tX1_pile r1 (hr1) a2 w) rfl rfl (Nat.le_of_ble_eq_true rfl) ⟨Nat.le_of_ble_eq_true rfl, Nat.le_of_ble_eq_true rfl⟩ (zd DX6_take 2 rfl) (fun v3 w1 e2 => ?_)
  refine tz_astore_n [(3, .ref v3), (0, .ref 4), (1, .ref r1), (2, .int a2)] (Nat.le_of_ble_eq_true rfl) rfl (zd DX6_take 3 rfl) ?_
  refine tz_aload_n 2 rfl (zd DX6_take 4 rfl) ?_
  refine tz_cVN_i kz1 (hr1) rfl (rest := []) (YX1_size) wn_238 (tX1_size r1 (hr1) w1) rfl rfl (Nat.le_of_ble_eq_true rfl) ⟨Nat.le_of_ble_eq_true rfl, Nat.le_of_ble_eq_true rfl⟩ (zd DX6_take 5 rfl) (fun v6 w4 e5 => ?_)
  refine tz_istore [(4, .int v6), (3, .ref v3), (0, .ref 4), (1, .ref r1), (2, .int a2)] (Nat.le_of_ble_eq_true rfl) rfl (zd DX6_take 6 rfl) ?_
  refine tz_aload_n 1 rfl (zd DX6_take 7 rfl) ?_
  refine tz_getIN 0 kz2 (fX1_pile_c (hr1) e2) (by decide) rfl wn_103 (zd DX6_take 8 rfl) ?_
  refine tz_jp (P := fun j => ∀ (w7 : zW), Tz MX6_take (zRet zi) (j w7) 69 [(3, .ref v3)] [] w7) ?_ (fun j7 hj7 => ?_)
  · intro w7
    refine tz_aload_n 0 rfl (zd DX6_take 39 rfl) ?_
    refine tz_getIN 0 kz2 (fX1_pile_c (hr1) e2) (by decide) rfl wn_103 (zd DX6_take 40 rfl) ?_
    refine tz_if_ne 78 (zd DX6_take 41 rfl) rfl (fun q8 => ?_) (fun q8 => ?_)
    · refine tz_aload_n 0 rfl (zd DX6_take 44 rfl) ?_
      refine tz_dupa (zd DX6_take 45 rfl) ?_
      refine tz_getIN 0 kz2 (fX1_pile_c (hr1) e2) (by decide) rfl wn_103 (zd DX6_take 46 rfl) ?_
      refine tz_iconst (1 : Int32) zk_iconst_1 (zd DX6_take 47 rfl) ?_
      refine tz_isub (zd DX6_take 48 rfl) ?_
      refine tz_putIN 0 kz2 (fX1_pile_c (hr1) e2) (by decide) rfl rfl wn_103 (zd DX6_take 49 rfl) (fun w9 => ?_)
      refine tz_aload_n 0 rfl (zd DX6_take 50 rfl) ?_
      refine tz_getRN (v3 + 1) 1 kz2 (fX1_pile_c (hr1) e2) (by decide) (by decide) ((zf2_1 (fX1_pile_c (hr1) e2)).1) wn_109 (zd DX6_take 51 rfl) ?_
      refine tz_aload_n 0 rfl (zd DX6_take 52 rfl) ?_
      refine tz_getIN 0 kz2 (fX1_pile_c (hr1) e2) (by decide) rfl wn_103 (zd DX6_take 53 rfl) ?_
      refine tz_cSN_i (rest := []) (YX7_at) wn_268 (tX7_at (v3 + 1) ((zf2_1 (w := w9) (fX1_pile_c (hr1) e2)).2.1) (zI w9 v3 0) w9) rfl rfl (Nat.le_of_ble_eq_true rfl) ⟨Nat.le_of_ble_eq_true rfl, Nat.le_of_ble_eq_true rfl⟩ (zd DX6_take 54 rfl) (fun v12 w10 e11 => ?_)
      exact tz_iret rfl (zd DX6_take 55 rfl)
    refine tz_iconst (-1 : Int32) zk_iconst_m1 (zd DX6_take 42 rfl) ?_
    exact tz_iret rfl (zd DX6_take 43 rfl)
  refine tz_if_ne 69 (zd DX6_take 9 rfl) rfl (fun q13 => ?_) (fun q13 => ?_)
  · refine tz_lv (lv2 := [(3, .ref v3)]) [1] rfl ?_
    exact hj7 w4
  refine tz_iload 0 rfl (zd DX6_take 10 rfl) ?_
  refine tz_if_le 69 (zd DX6_take 11 rfl) rfl (fun q14 => ?_) (fun q14 => ?_)
  · refine tz_lv (lv2 := [(3, .ref v3)]) [1] rfl ?_
    exact hj7 w4
  refine tz_iload 0 rfl (zd DX6_take 12 rfl) ?_
  refine tz_iconst (1 : Int32) zk_iconst_1 (zd DX6_take 13 rfl) ?_
  refine tz_iadd (zd DX6_take 14 rfl) ?_
  refine tz_iconst (2 : Int32) zk_iconst_2 (zd DX6_take 15 rfl) ?_
  refine tz_idiv (by decide) (zd DX6_take 16 rfl) ?_
  refine tz_lti (fun v15 => ?_)
  refine tz_istore [(5, .int v15), (4, .int v6), (3, .ref v3), (0, .ref 4), (1, .ref r1), (2, .int a2)] (Nat.le_of_ble_eq_true rfl) rfl (zd DX6_take 17 rfl) ?_
  refine tz_aload_n 3 rfl (zd DX6_take 18 rfl) ?_
  refine tz_aload_n 4 rfl (zd DX6_take 19 rfl) ?_
  refine tz_cV_n kz6 (zs_4) rfl (rest := []) (YX6_hold) wk_234 (tX6_hold r1 (hr1) w4) rfl rfl (Nat.le_of_ble_eq_true rfl) ⟨Nat.le_of_ble_eq_true rfl, Nat.le_of_ble_eq_true rfl⟩ (zd DX6_take 20 rfl) (fun v18 w16 e17 => ?_)
  refine tz_aload_n 3 rfl (zd DX6_take 21 rfl) ?_
  refine tz_aload_n 4 rfl (zd DX6_take 22 rfl) ?_
  refine tz_iconst (0 : Int32) zk_iconst_0 (zd DX6_take 23 rfl) ?_
  refine tz_iload 1 rfl (zd DX6_take 24 rfl) ?_
  refine tz_iload_n 5 rfl (zd DX6_take 25 rfl) ?_
  refine tz_dia (P := fun F => ∀ v : Int32, Tz MX6_take (zRet zi) (F v) 56 [(5, .int v15), (4, .int v6), (3, .ref v3), (0, .ref 4), (1, .ref r1), (2, .int a2)] (.int v :: [.int v6, .int (0 : Int32), .ref r1, .ref 4]) w16) ?_ (fun _ hJ56 => ?_)
  · intro v20
    refine tz_cV_n kz6 (zs_4) rfl (rest := []) (YX6_lay) wk_264 (tX6_lay r1 (hr1) (0 : Int32) v6 v20 w16) rfl rfl (Nat.le_of_ble_eq_true rfl) ⟨Nat.le_of_ble_eq_true rfl, Nat.le_of_ble_eq_true rfl⟩ (zd DX6_take 32 rfl) (fun v23 w21 e22 => ?_)
    refine tz_aload_n 3 rfl (zd DX6_take 33 rfl) ?_
    refine tz_dupa (zd DX6_take 34 rfl) ?_
    refine tz_getI 2 kz6 (zs_4) (by decide) rfl wk_78 (zd DX6_take 35 rfl) ?_
    refine tz_iconst (1 : Int32) zk_iconst_1 (zd DX6_take 36 rfl) ?_
    refine tz_iadd (zd DX6_take 37 rfl) ?_
    refine tz_putI 2 kz6 (zs_4) (by decide) rfl rfl wk_78 (zd DX6_take 38 rfl) (fun w24 => ?_)
    refine tz_lv (lv2 := [(3, .ref v3)]) [2] rfl ?_
    exact hj7 w24
  refine tz_ite ?_
  refine tz_if_ne 51 (zd DX6_take 26 rfl) rfl (fun q19 => ?_) (fun q19 => ?_)
  · refine tz_iload 1 rfl (zd DX6_take 29 rfl) ?_
    refine tz_iload 0 rfl (zd DX6_take 30 rfl) ?_
    refine tz_isub (zd DX6_take 31 rfl) ?_
    exact hJ56 (v6 - v15)
  refine tz_iload 0 rfl (zd DX6_take 27 rfl) ?_
  refine tz_goto 56 (zd DX6_take 28 rfl) rfl ?_
  exact hJ56 v15
def QX6_split : List (Nat × Instr × Nat) := [(0, .aload_n 1, 1), (1, .invokevirtual 80, 3), (4, .iload_n 2, 1), (5, .isub, 1), (6, .istore 4, 2), (8, .aload_n 0, 1), (9, .aload_n 1, 1), (10, .invokevirtual 101, 3), (13, .aload_n 0, 1), (14, .aload_n 1, 1), (15, .iconst 0, 1), (16, .iload_n 2, 1), (17, .iload_n 2, 1), (18, .iconst 1, 1), (19, .iadd, 1), (20, .iconst 2, 1), (21, .idiv, 1), (22, .invokevirtual 105, 3), (25, .aload_n 0, 1), (26, .aload_n 3, 1), (27, .iload_n 2, 1), (28, .iload 4, 2), (30, .iload 4, 2), (32, .iconst 1, 1), (33, .iadd, 1), (34, .iconst 2, 1), (35, .idiv, 1), (36, .invokevirtual 105, 3), (39, .return_, 1)]
set_option maxRecDepth 100000 in
theorem DX6_split : ∀ q ∈ QX6_split, decode cX6_split q.1 = .ok (q.2.1, q.2.2) := by decide +kernel
abbrev MX6_split : zM := (cX6_split, "EndSums$Works", 5, none, { frames := 4, cells := 0, slots := 0, locals := 113 })
def fX6_split (r1 : Nat) (a2 : Int32) (r3 : Nat) (w : zW) : Option (Unit × zW) :=
  bd (fX1_size r1 w) fun v3 w1 =>
  lt (v3 - a2) fun v4 =>
  bd (fX6_hold r1 w1) fun _ w5 =>
  bd (fX6_lay r1 (0 : Int32) a2 ((a2 + (1 : Int32)) / (2 : Int32)) w5) fun _ w8 =>
  bd (fX6_lay r3 a2 v4 ((v4 + (1 : Int32)) / (2 : Int32)) w8) fun _ w11 =>
  some ((), w11)
theorem YX6_split : zYV yX6_split MX6_split 3 := ⟨wk_526, wk_4, ⟨wk_525, ws_48⟩, ⟨by decide, by decide, by decide +kernel⟩, rfl, rfl⟩
set_option maxHeartbeats 4000000 in
set_option maxRecDepth 100000 in
theorem tX6_split (r1 : Nat) (hr1 : zc 1 r1) (a2 : Int32) (r3 : Nat) (hr3 : zc 1 r3) (w : zW) : Sm yX6_split MX6_split zn [.ref 4, .ref r1, .int a2, .ref r3] w (fX6_split r1 a2 r3 w) := by
  refine Sm_of (lv0 := [(0, .ref 4), (1, .ref r1), (2, .int a2), (3, .ref r3)]) (by decide) rfl (fun _ => Nat.le_of_ble_eq_true rfl) rfl ?_
  unfold fX6_split
  refine tz_aload_n 1 rfl (zd DX6_split 0 rfl) ?_
  refine tz_cVN_i kz1 (hr1) rfl (rest := []) (YX1_size) wn_238 (tX1_size r1 (hr1) w) rfl rfl (Nat.le_of_ble_eq_true rfl) ⟨Nat.le_of_ble_eq_true rfl, Nat.le_of_ble_eq_true rfl⟩ (zd DX6_split 1 rfl) (fun v3 w1 e2 => ?_)
  refine tz_iload_n 2 rfl (zd DX6_split 2 rfl) ?_
  refine tz_isub (zd DX6_split 3 rfl) ?_
  refine tz_lti (fun v4 => ?_)
  refine tz_istore [(4, .int v4), (0, .ref 4), (1, .ref r1), (2, .int a2), (3, .ref r3)] (Nat.le_of_ble_eq_true rfl) rfl (zd DX6_split 4 rfl) ?_
  refine tz_aload_n 1 rfl (zd DX6_split 5 rfl) ?_
  refine tz_aload_n 2 rfl (zd DX6_split 6 rfl) ?_
  refine tz_cV_n kz6 (zs_4) rfl (rest := []) (YX6_hold) wk_234 (tX6_hold r1 (hr1) w1) rfl rfl (Nat.le_of_ble_eq_true rfl) ⟨Nat.le_of_ble_eq_true rfl, Nat.le_of_ble_eq_true rfl⟩ (zd DX6_split 7 rfl) (fun v7 w5 e6 => ?_)
  refine tz_aload_n 1 rfl (zd DX6_split 8 rfl) ?_
  refine tz_aload_n 2 rfl (zd DX6_split 9 rfl) ?_
  refine tz_iconst (0 : Int32) zk_iconst_0 (zd DX6_split 10 rfl) ?_
  refine tz_iload_n 3 rfl (zd DX6_split 11 rfl) ?_
  refine tz_iload_n 3 rfl (zd DX6_split 12 rfl) ?_
  refine tz_iconst (1 : Int32) zk_iconst_1 (zd DX6_split 13 rfl) ?_
  refine tz_iadd (zd DX6_split 14 rfl) ?_
  refine tz_iconst (2 : Int32) zk_iconst_2 (zd DX6_split 15 rfl) ?_
  refine tz_idiv (by decide) (zd DX6_split 16 rfl) ?_
  refine tz_cV_n kz6 (zs_4) rfl (rest := []) (YX6_lay) wk_264 (tX6_lay r1 (hr1) (0 : Int32) a2 ((a2 + (1 : Int32)) / (2 : Int32)) w5) rfl rfl (Nat.le_of_ble_eq_true rfl) ⟨Nat.le_of_ble_eq_true rfl, Nat.le_of_ble_eq_true rfl⟩ (zd DX6_split 17 rfl) (fun v10 w8 e9 => ?_)
  refine tz_aload_n 1 rfl (zd DX6_split 18 rfl) ?_
  refine tz_aload_n 4 rfl (zd DX6_split 19 rfl) ?_
  refine tz_iload_n 3 rfl (zd DX6_split 20 rfl) ?_
  refine tz_iload 0 rfl (zd DX6_split 21 rfl) ?_
  refine tz_iload 0 rfl (zd DX6_split 22 rfl) ?_
  refine tz_iconst (1 : Int32) zk_iconst_1 (zd DX6_split 23 rfl) ?_
  refine tz_iadd (zd DX6_split 24 rfl) ?_
  refine tz_iconst (2 : Int32) zk_iconst_2 (zd DX6_split 25 rfl) ?_
  refine tz_idiv (by decide) (zd DX6_split 26 rfl) ?_
  refine tz_cV_n kz6 (zs_4) rfl (rest := []) (YX6_lay) wk_264 (tX6_lay r3 (hr3) a2 v4 ((v4 + (1 : Int32)) / (2 : Int32)) w8) rfl rfl (Nat.le_of_ble_eq_true rfl) ⟨Nat.le_of_ble_eq_true rfl, Nat.le_of_ble_eq_true rfl⟩ (zd DX6_split 27 rfl) (fun v13 w11 e12 => ?_)
  exact tz_vret rfl (zd DX6_split 28 rfl)
def QX6_turn : List (Nat × Instr × Nat) := [(0, .aload_n 1, 1), (1, .invokevirtual 80, 3), (4, .istore_n 2, 1), (5, .iconst 0, 1), (6, .istore_n 3, 1), (7, .iload_n 3, 1), (8, .iload_n 2, 1), (9, .if_icmp .ge 26, 3), (12, .aload_n 0, 1), (13, .getfield 9, 3), (16, .iload_n 2, 1), (17, .iconst 1, 1), (18, .isub, 1), (19, .iload_n 3, 1), (20, .isub, 1), (21, .aload_n 1, 1), (22, .iload_n 3, 1), (23, .invokevirtual 83, 3), (26, .invokestatic 87, 3), (29, .iinc 3 1, 3), (32, .goto (-25), 3), (35, .aload_n 0, 1), (36, .aload_n 1, 1), (37, .iconst 0, 1), (38, .iload_n 2, 1), (39, .aload_n 1, 1), (40, .getfield 95, 3), (43, .getfield 19, 3), (46, .invokevirtual 105, 3), (49, .return_, 1)]
set_option maxRecDepth 100000 in
theorem DX6_turn : ∀ q ∈ QX6_turn, decode cX6_turn q.1 = .ok (q.2.1, q.2.2) := by decide +kernel
abbrev MX6_turn : zM := (cX6_turn, "EndSums$Works", 4, none, { frames := 4, cells := 0, slots := 0, locals := 113 })
def fX6_turn_L7 (r1 : Nat) (x2 : Int32) : Nat → Int32 → zW → Option (Unit × zW)
  | 0, _, _ => none
  | n + 1, x3, w =>
    if x2 ≤ x3 then
      bd (fX6_lay r1 (0 : Int32) x2 (zI w (r1 + 6) 0) w) fun _ w5 =>
      some ((), w5)
    else
    bd (fX1_itemAt r1 x3 w) fun v10 w8 =>
    bd (fX7_set 5 ((x2 - (1 : Int32)) - x3) v10 w8) fun _ w11 =>
    fX6_turn_L7 r1 x2 n (x3 + (1 : Int32)) w11
def fX6_turn (r1 : Nat) (w : zW) : Option (Unit × zW) :=
  bd (fX1_size r1 w) fun v3 w1 =>
  fX6_turn_L7 r1 v3 zFU (0 : Int32) w1
theorem YX6_turn : zYV yX6_turn MX6_turn 1 := ⟨wk_534, wk_4, ⟨wk_533, ws_49⟩, ⟨by decide, by decide, by decide +kernel⟩, rfl, rfl⟩
set_option maxHeartbeats 4000000 in
set_option maxRecDepth 100000 in
theorem lX6_turn_L7 (r1 : Nat) (hr1 : zc 1 r1) (x2 : Int32) : ∀ (n : Nat) (x3 : Int32) (w : zW), Tz MX6_turn (zRet zn) (fX6_turn_L7 r1 x2 n x3 w) 7 [(0, .ref 4), (1, .ref r1), (2, .int x2), (3, .int x3)] [] w := by
  intro n
  induction n with
  | zero => intro x3 w; exact tz_eq (fX6_turn_L7.eq_1 _ _ _ _) tz_none
  | succ n ih =>
    intro x3 w
    refine tz_eq (fX6_turn_L7.eq_2 _ _ _ _ _) ?_
    refine tz_iload_n 3 rfl (zd DX6_turn 5 rfl) ?_
    refine tz_iload_n 2 rfl (zd DX6_turn 6 rfl) ?_
    refine tz_icmp_ge 35 (zd DX6_turn 7 rfl) rfl (fun q4 => ?_) (fun q4 => ?_)
    · refine tz_aload_n 0 rfl (zd DX6_turn 21 rfl) ?_
      refine tz_aload_n 1 rfl (zd DX6_turn 22 rfl) ?_
      refine tz_iconst (0 : Int32) zk_iconst_0 (zd DX6_turn 23 rfl) ?_
      refine tz_iload_n 2 rfl (zd DX6_turn 24 rfl) ?_
      refine tz_aload_n 1 rfl (zd DX6_turn 25 rfl) ?_
      refine tz_getRN (r1 + 6) 1 kz1 (hr1) (by decide) (by decide) ((zf1_1 (hr1)).1) wn_134 (zd DX6_turn 26 rfl) ?_
      refine tz_getIN 0 kz2 ((zf1_1 (w := w) (hr1)).2) (by decide) rfl wn_103 (zd DX6_turn 27 rfl) ?_
      refine tz_cV_n kz6 (zs_4) rfl (rest := []) (YX6_lay) wk_264 (tX6_lay r1 (hr1) (0 : Int32) x2 (zI w (r1 + 6) 0) w) rfl rfl (Nat.le_of_ble_eq_true rfl) ⟨Nat.le_of_ble_eq_true rfl, Nat.le_of_ble_eq_true rfl⟩ (zd DX6_turn 28 rfl) (fun v7 w5 e6 => ?_)
      exact tz_vret rfl (zd DX6_turn 29 rfl)
    refine tz_aload_n 0 rfl (zd DX6_turn 8 rfl) ?_
    refine tz_getR 5 3 kz6 (zs_4) (by decide) (by decide) rfl wk_80 (zd DX6_turn 9 rfl) ?_
    refine tz_iload_n 2 rfl (zd DX6_turn 10 rfl) ?_
    refine tz_iconst (1 : Int32) zk_iconst_1 (zd DX6_turn 11 rfl) ?_
    refine tz_isub (zd DX6_turn 12 rfl) ?_
    refine tz_iload_n 3 rfl (zd DX6_turn 13 rfl) ?_
    refine tz_isub (zd DX6_turn 14 rfl) ?_
    refine tz_aload_n 1 rfl (zd DX6_turn 15 rfl) ?_
    refine tz_iload_n 3 rfl (zd DX6_turn 16 rfl) ?_
    refine tz_cVN_i kz1 (hr1) rfl (rest := [.int ((x2 - (1 : Int32)) - x3), .ref 5]) (YX1_itemAt) wn_242 (tX1_itemAt r1 (hr1) x3 w) rfl rfl (Nat.le_of_ble_eq_true rfl) ⟨Nat.le_of_ble_eq_true rfl, Nat.le_of_ble_eq_true rfl⟩ (zd DX6_turn 17 rfl) (fun v10 w8 e9 => ?_)
    refine tz_cSN_n (rest := []) (YX7_set) wn_261 (tX7_set 5 (zs_5.1) ((x2 - (1 : Int32)) - x3) v10 w8) rfl rfl (Nat.le_of_ble_eq_true rfl) ⟨Nat.le_of_ble_eq_true rfl, Nat.le_of_ble_eq_true rfl⟩ (zd DX6_turn 18 rfl) (fun v13 w11 e12 => ?_)
    refine tz_iinc 3 (1 : Int32) [(3, .int (x3 + (1 : Int32))), (0, .ref 4), (1, .ref r1), (2, .int x2)] rfl zk_iconst_1 (Nat.le_of_ble_eq_true rfl) rfl (zd DX6_turn 19 rfl) ?_
    refine tz_goto 7 (zd DX6_turn 20 rfl) rfl ?_
    refine tz_lv (lv2 := [(0, .ref 4), (1, .ref r1), (2, .int x2), (3, .int (x3 + (1 : Int32)))]) [1, 2, 3, 0] rfl ?_
    exact ih (x3 + (1 : Int32)) w11
set_option maxHeartbeats 4000000 in
set_option maxRecDepth 100000 in
theorem tX6_turn (r1 : Nat) (hr1 : zc 1 r1) (w : zW) : Sm yX6_turn MX6_turn zn [.ref 4, .ref r1] w (fX6_turn r1 w) := by
  refine Sm_of (lv0 := [(0, .ref 4), (1, .ref r1)]) (by decide) rfl (fun _ => Nat.le_of_ble_eq_true rfl) rfl ?_
  unfold fX6_turn
  refine tz_aload_n 1 rfl (zd DX6_turn 0 rfl) ?_
  refine tz_cVN_i kz1 (hr1) rfl (rest := []) (YX1_size) wn_238 (tX1_size r1 (hr1) w) rfl rfl (Nat.le_of_ble_eq_true rfl) ⟨Nat.le_of_ble_eq_true rfl, Nat.le_of_ble_eq_true rfl⟩ (zd DX6_turn 1 rfl) (fun v3 w1 e2 => ?_)
  refine tz_istore_n [(2, .int v3), (0, .ref 4), (1, .ref r1)] (Nat.le_of_ble_eq_true rfl) rfl (zd DX6_turn 2 rfl) ?_
  refine tz_iconst (0 : Int32) zk_iconst_0 (zd DX6_turn 3 rfl) ?_
  refine tz_istore_n [(3, .int (0 : Int32)), (2, .int v3), (0, .ref 4), (1, .ref r1)] (Nat.le_of_ble_eq_true rfl) rfl (zd DX6_turn 4 rfl) ?_
  refine tz_lv (lv2 := [(0, .ref 4), (1, .ref r1), (2, .int v3), (3, .int (0 : Int32))]) [2, 3, 1, 0] rfl ?_
  exact lX6_turn_L7 r1 (hr1) v3 zFU (0 : Int32) w1
def QX6_remake : List (Nat × Instr × Nat) := [(0, .aload_n 1, 1), (1, .getfield 19, 3), (4, .iload 5, 2), (6, .isub, 1), (7, .istore 6, 2), (9, .iconst 0, 1), (10, .istore 7, 2), (12, .iload 7, 2), (14, .iload 6, 2), (16, .if_icmp .ge 30, 3), (19, .aload_n 0, 1), (20, .getfield 9, 3), (23, .iload 7, 2), (25, .aload_n 1, 1), (26, .getfield 112, 3), (29, .iload 5, 2), (31, .iload 7, 2), (33, .iadd, 1), (34, .invokestatic 98, 3), (37, .invokestatic 87, 3), (40, .iinc 7 1, 3), (43, .goto (-31), 3), (46, .aload_n 1, 1), (47, .iload_n 3, 1), (48, .putfield 19, 3), (51, .iload 4, 2), (53, .iconst (-1), 1), (54, .if_icmp .eq 11, 3), (57, .aload_n 0, 1), (58, .aload_n 1, 1), (59, .iload_n 2, 1), (60, .iload 4, 2), (62, .invokevirtual 76, 3), (65, .iconst 0, 1), (66, .istore 7, 2), (68, .iload 7, 2), (70, .iload 6, 2), (72, .if_icmp .ge 24, 3), (75, .aload_n 0, 1), (76, .aload_n 1, 1), (77, .iload_n 2, 1), (78, .aload_n 0, 1), (79, .getfield 9, 3), (82, .iload 7, 2), (84, .invokestatic 98, 3), (87, .invokevirtual 76, 3), (90, .iinc 7 1, 3), (93, .goto (-25), 3), (96, .return_, 1)]
set_option maxRecDepth 100000 in
theorem DX6_remake : ∀ q ∈ QX6_remake, decode cX6_remake q.1 = .ok (q.2.1, q.2.2) := by decide +kernel
abbrev MX6_remake : zM := (cX6_remake, "EndSums$Works", 8, none, { frames := 3, cells := 0, slots := 0, locals := 88 })
def fX6_remake_L68 (r1 : Nat) (x2 : Int32) (x6 : Int32) : Nat → Int32 → zW → Option (Unit × zW)
  | 0, _, _ => none
  | n + 1, x7, w =>
    if x6 ≤ x7 then
      some ((), w)
    else
    bd (fX7_at 5 x7 w) fun v8 w6 =>
    bd (fX6_make r1 x2 v8 w6) fun _ w9 =>
    fX6_remake_L68 r1 x2 x6 n (x7 + (1 : Int32)) w9
def fX6_remake_L12 (r1 : Nat) (x2 : Int32) (x3 : Int32) (x4 : Int32) (x5 : Int32) (x6 : Int32) : Nat → Int32 → zW → Option (Unit × zW)
  | 0, _, _ => none
  | n + 1, x7, w =>
    if x6 ≤ x7 then
      lt (zsI w r1 0 x3) fun w3 =>
      lt (fun (w4 : zW) =>
        fX6_remake_L68 r1 x2 x6 zFU (0 : Int32) w4) fun j4 =>
      if x4 = (-1 : Int32) then
        j4 w3
      else
      bd (fX6_make r1 x2 x4 w3) fun _ w13 =>
      j4 w13
    else
    bd (fX7_at (r1 + 1) (x5 + x7) w) fun v18 w16 =>
    bd (fX7_set 5 x7 v18 w16) fun _ w19 =>
    fX6_remake_L12 r1 x2 x3 x4 x5 x6 n (x7 + (1 : Int32)) w19
def fX6_remake (r1 : Nat) (a2 : Int32) (a3 : Int32) (a4 : Int32) (a5 : Int32) (w : zW) : Option (Unit × zW) :=
  lt ((zI w r1 0) - a5) fun v1 =>
  fX6_remake_L12 r1 a2 a3 a4 a5 v1 zFU (0 : Int32) w
theorem YX6_remake : zYV yX6_remake MX6_remake 5 := ⟨wk_546, wk_4, ⟨wk_545, ws_50⟩, ⟨by decide, by decide, by decide +kernel⟩, rfl, rfl⟩
set_option maxHeartbeats 4000000 in
set_option maxRecDepth 100000 in
theorem lX6_remake_L68 (r1 : Nat) (hr1 : zc 2 r1) (x2 : Int32) (x6 : Int32) : ∀ (n : Nat) (x7 : Int32) (w : zW), Tz MX6_remake (zRet zn) (fX6_remake_L68 r1 x2 x6 n x7 w) 68 [(0, .ref 4), (1, .ref r1), (2, .int x2), (6, .int x6), (7, .int x7)] [] w := by
  intro n
  induction n with
  | zero => intro x7 w; exact tz_eq (fX6_remake_L68.eq_1 _ _ _ _ _) tz_none
  | succ n ih =>
    intro x7 w
    refine tz_eq (fX6_remake_L68.eq_2 _ _ _ _ _ _) ?_
    refine tz_iload 4 rfl (zd DX6_remake 35 rfl) ?_
    refine tz_iload 3 rfl (zd DX6_remake 36 rfl) ?_
    refine tz_icmp_ge 96 (zd DX6_remake 37 rfl) rfl (fun q5 => ?_) (fun q5 => ?_)
    · exact tz_vret rfl (zd DX6_remake 48 rfl)
    refine tz_aload_n 0 rfl (zd DX6_remake 38 rfl) ?_
    refine tz_aload_n 1 rfl (zd DX6_remake 39 rfl) ?_
    refine tz_iload_n 2 rfl (zd DX6_remake 40 rfl) ?_
    refine tz_aload_n 0 rfl (zd DX6_remake 41 rfl) ?_
    refine tz_getR 5 3 kz6 (zs_4) (by decide) (by decide) rfl wk_80 (zd DX6_remake 42 rfl) ?_
    refine tz_iload 4 rfl (zd DX6_remake 43 rfl) ?_
    refine tz_cSN_i (rest := [.int x2, .ref r1, .ref 4]) (YX7_at) wn_268 (tX7_at 5 (zs_5.1) x7 w) rfl rfl (Nat.le_of_ble_eq_true rfl) ⟨Nat.le_of_ble_eq_true rfl, Nat.le_of_ble_eq_true rfl⟩ (zd DX6_remake 44 rfl) (fun v8 w6 e7 => ?_)
    refine tz_cV_n kz6 (zs_4) rfl (rest := []) (YX6_make) wk_269 (tX6_make r1 (hr1) x2 v8 w6) rfl rfl (Nat.le_of_ble_eq_true rfl) ⟨Nat.le_of_ble_eq_true rfl, Nat.le_of_ble_eq_true rfl⟩ (zd DX6_remake 45 rfl) (fun v11 w9 e10 => ?_)
    refine tz_iinc 4 (1 : Int32) [(7, .int (x7 + (1 : Int32))), (0, .ref 4), (1, .ref r1), (2, .int x2), (6, .int x6)] rfl zk_iconst_1 (Nat.le_of_ble_eq_true rfl) rfl (zd DX6_remake 46 rfl) ?_
    refine tz_goto 68 (zd DX6_remake 47 rfl) rfl ?_
    refine tz_lv (lv2 := [(0, .ref 4), (1, .ref r1), (2, .int x2), (6, .int x6), (7, .int (x7 + (1 : Int32)))]) [1, 2, 3, 4, 0] rfl ?_
    exact ih (x7 + (1 : Int32)) w9
set_option maxHeartbeats 4000000 in
set_option maxRecDepth 100000 in
theorem lX6_remake_L12 (r1 : Nat) (hr1 : zc 2 r1) (x2 : Int32) (x3 : Int32) (x4 : Int32) (x5 : Int32) (x6 : Int32) : ∀ (n : Nat) (x7 : Int32) (w : zW), Tz MX6_remake (zRet zn) (fX6_remake_L12 r1 x2 x3 x4 x5 x6 n x7 w) 12 [(0, .ref 4), (1, .ref r1), (2, .int x2), (3, .int x3), (4, .int x4), (5, .int x5), (6, .int x6), (7, .int x7)] [] w := by
  intro n
  induction n with
  | zero => intro x7 w; exact tz_eq (fX6_remake_L12.eq_1 _ _ _ _ _ _ _ _) tz_none
  | succ n ih =>
    intro x7 w
    refine tz_eq (fX6_remake_L12.eq_2 _ _ _ _ _ _ _ _ _) ?_
    refine tz_iload 7 rfl (zd DX6_remake 7 rfl) ?_
    refine tz_iload 6 rfl (zd DX6_remake 8 rfl) ?_
    refine tz_icmp_ge 46 (zd DX6_remake 9 rfl) rfl (fun q2 => ?_) (fun q2 => ?_)
    · refine tz_aload_n 1 rfl (zd DX6_remake 22 rfl) ?_
      refine tz_iload_n 3 rfl (zd DX6_remake 23 rfl) ?_
      refine tz_putIN 0 kz2 (hr1) (by decide) rfl rfl wn_103 (zd DX6_remake 24 rfl) (fun w3 => ?_)
      refine tz_iload 4 rfl (zd DX6_remake 25 rfl) ?_
      refine tz_iconst (-1 : Int32) zk_iconst_m1 (zd DX6_remake 26 rfl) ?_
      refine tz_jp (P := fun j => ∀ (w4 : zW), Tz MX6_remake (zRet zn) (j w4) 65 [(0, .ref 4), (1, .ref r1), (2, .int x2), (6, .int x6)] [] w4) ?_ (fun j4 hj4 => ?_)
      · intro w4
        refine tz_iconst (0 : Int32) zk_iconst_0 (zd DX6_remake 33 rfl) ?_
        refine tz_istore [(7, .int (0 : Int32)), (0, .ref 4), (1, .ref r1), (2, .int x2), (6, .int x6)] (Nat.le_of_ble_eq_true rfl) rfl (zd DX6_remake 34 rfl) ?_
        refine tz_lv (lv2 := [(0, .ref 4), (1, .ref r1), (2, .int x2), (6, .int x6), (7, .int (0 : Int32))]) [1, 2, 3, 4, 0] rfl ?_
        exact lX6_remake_L68 r1 (hr1) x2 x6 zFU (0 : Int32) w4
      refine tz_icmp_eq 65 (zd DX6_remake 27 rfl) rfl (fun q12 => ?_) (fun q12 => ?_)
      · refine tz_lv (lv2 := [(0, .ref 4), (1, .ref r1), (2, .int x2), (6, .int x6)]) [0, 1, 2, 6] rfl ?_
        exact hj4 w3
      refine tz_aload_n 0 rfl (zd DX6_remake 28 rfl) ?_
      refine tz_aload_n 1 rfl (zd DX6_remake 29 rfl) ?_
      refine tz_iload_n 2 rfl (zd DX6_remake 30 rfl) ?_
      refine tz_iload 4 rfl (zd DX6_remake 31 rfl) ?_
      refine tz_cV_n kz6 (zs_4) rfl (rest := []) (YX6_make) wk_269 (tX6_make r1 (hr1) x2 x4 w3) rfl rfl (Nat.le_of_ble_eq_true rfl) ⟨Nat.le_of_ble_eq_true rfl, Nat.le_of_ble_eq_true rfl⟩ (zd DX6_remake 32 rfl) (fun v15 w13 e14 => ?_)
      refine tz_lv (lv2 := [(0, .ref 4), (1, .ref r1), (2, .int x2), (6, .int x6)]) [0, 1, 2, 6] rfl ?_
      exact hj4 w13
    refine tz_aload_n 0 rfl (zd DX6_remake 10 rfl) ?_
    refine tz_getR 5 3 kz6 (zs_4) (by decide) (by decide) rfl wk_80 (zd DX6_remake 11 rfl) ?_
    refine tz_iload 7 rfl (zd DX6_remake 12 rfl) ?_
    refine tz_aload_n 1 rfl (zd DX6_remake 13 rfl) ?_
    refine tz_getRN (r1 + 1) 1 kz2 (hr1) (by decide) (by decide) ((zf2_1 (hr1)).1) wn_109 (zd DX6_remake 14 rfl) ?_
    refine tz_iload 5 rfl (zd DX6_remake 15 rfl) ?_
    refine tz_iload 7 rfl (zd DX6_remake 16 rfl) ?_
    refine tz_iadd (zd DX6_remake 17 rfl) ?_
    refine tz_cSN_i (rest := [.int x7, .ref 5]) (YX7_at) wn_268 (tX7_at (r1 + 1) ((zf2_1 (w := w) (hr1)).2.1) (x5 + x7) w) rfl rfl (Nat.le_of_ble_eq_true rfl) ⟨Nat.le_of_ble_eq_true rfl, Nat.le_of_ble_eq_true rfl⟩ (zd DX6_remake 18 rfl) (fun v18 w16 e17 => ?_)
    refine tz_cSN_n (rest := []) (YX7_set) wn_261 (tX7_set 5 (zs_5.1) x7 v18 w16) rfl rfl (Nat.le_of_ble_eq_true rfl) ⟨Nat.le_of_ble_eq_true rfl, Nat.le_of_ble_eq_true rfl⟩ (zd DX6_remake 19 rfl) (fun v21 w19 e20 => ?_)
    refine tz_iinc 7 (1 : Int32) [(7, .int (x7 + (1 : Int32))), (0, .ref 4), (1, .ref r1), (2, .int x2), (3, .int x3), (4, .int x4), (5, .int x5), (6, .int x6)] rfl zk_iconst_1 (Nat.le_of_ble_eq_true rfl) rfl (zd DX6_remake 20 rfl) ?_
    refine tz_goto 12 (zd DX6_remake 21 rfl) rfl ?_
    refine tz_lv (lv2 := [(0, .ref 4), (1, .ref r1), (2, .int x2), (3, .int x3), (4, .int x4), (5, .int x5), (6, .int x6), (7, .int (x7 + (1 : Int32)))]) [1, 2, 3, 4, 5, 6, 7, 0] rfl ?_
    exact ih (x7 + (1 : Int32)) w19
set_option maxHeartbeats 4000000 in
set_option maxRecDepth 100000 in
theorem tX6_remake (r1 : Nat) (hr1 : zc 2 r1) (a2 : Int32) (a3 : Int32) (a4 : Int32) (a5 : Int32) (w : zW) : Sm yX6_remake MX6_remake zn [.ref 4, .ref r1, .int a2, .int a3, .int a4, .int a5] w (fX6_remake r1 a2 a3 a4 a5 w) := by
  refine Sm_of (lv0 := [(0, .ref 4), (1, .ref r1), (2, .int a2), (3, .int a3), (4, .int a4), (5, .int a5)]) (by decide) rfl (fun _ => Nat.le_of_ble_eq_true rfl) rfl ?_
  unfold fX6_remake
  refine tz_aload_n 1 rfl (zd DX6_remake 0 rfl) ?_
  refine tz_getIN 0 kz2 (hr1) (by decide) rfl wn_103 (zd DX6_remake 1 rfl) ?_
  refine tz_iload 5 rfl (zd DX6_remake 2 rfl) ?_
  refine tz_isub (zd DX6_remake 3 rfl) ?_
  refine tz_lti (fun v1 => ?_)
  refine tz_istore [(6, .int v1), (0, .ref 4), (1, .ref r1), (2, .int a2), (3, .int a3), (4, .int a4), (5, .int a5)] (Nat.le_of_ble_eq_true rfl) rfl (zd DX6_remake 4 rfl) ?_
  refine tz_iconst (0 : Int32) zk_iconst_0 (zd DX6_remake 5 rfl) ?_
  refine tz_istore [(7, .int (0 : Int32)), (6, .int v1), (0, .ref 4), (1, .ref r1), (2, .int a2), (3, .int a3), (4, .int a4), (5, .int a5)] (Nat.le_of_ble_eq_true rfl) rfl (zd DX6_remake 6 rfl) ?_
  refine tz_lv (lv2 := [(0, .ref 4), (1, .ref r1), (2, .int a2), (3, .int a3), (4, .int a4), (5, .int a5), (6, .int v1), (7, .int (0 : Int32))]) [2, 3, 4, 5, 6, 7, 1, 0] rfl ?_
  exact lX6_remake_L12 r1 (hr1) a2 a3 a4 a5 v1 zFU (0 : Int32) w
def QX7_lineAt : List (Nat × Instr × Nat) := [(0, .iload_n 1, 1), (1, .ifCond .lt 12, 3), (4, .iload_n 1, 1), (5, .aload_n 0, 1), (6, .getfield 27, 3), (9, .arraylength, 1), (10, .if_icmp .lt 7, 3), (13, .aconst_null, 1), (14, .goto 9, 3), (17, .aload_n 0, 1), (18, .getfield 27, 3), (21, .iload_n 1, 1), (22, .aaload, 1), (23, .areturn, 1)]
set_option maxRecDepth 100000 in
theorem DX7_lineAt : ∀ q ∈ QX7_lineAt, decode cX7_lineAt q.1 = .ok (q.2.1, q.2.2) := by decide +kernel
abbrev MX7_lineAt : zM := (cX7_lineAt, "EndSums", 2, (some (.object "EndSums$Line")), { frames := 0, cells := 0, slots := 0, locals := 0 })
def fX7_lineAt (a1 : Int32) (w : zW) : Option (Option Nat × zW) :=
  lt (fun (w1 : zW) =>
    some (none, w1)) fun j1 =>
  if a1 < (0 : Int32) then
    j1 w
  else
  if a1 < (nI 4) then
    zg (zin a1 4) <|
    some (some (zline a1), w)
  else
  j1 w
theorem YX7_lineAt : zYV yX7_lineAt MX7_lineAt 1 := ⟨wk_229, wk_1, ⟨wk_228, ws_1⟩, ⟨by decide, by decide, by decide +kernel⟩, rfl, rfl⟩
set_option maxHeartbeats 4000000 in
set_option maxRecDepth 100000 in
theorem tX7_lineAt (a1 : Int32) (w : zW) : Sm yX7_lineAt MX7_lineAt zo [.ref 0, .int a1] w (fX7_lineAt a1 w) := by
  refine Sm_of (lv0 := [(0, .ref 0), (1, .int a1)]) (by decide) rfl (fun _ => Nat.le_of_ble_eq_true rfl) rfl ?_
  unfold fX7_lineAt
  refine tz_iload_n 1 rfl (zd DX7_lineAt 0 rfl) ?_
  refine tz_jp (P := fun j => ∀ (w1 : zW), Tz MX7_lineAt (zRet zo) (j w1) 13 [] [] w1) ?_ (fun j1 hj1 => ?_)
  · intro w1
    refine tz_null (zd DX7_lineAt 7 rfl) ?_
    refine tz_goto 23 (zd DX7_lineAt 8 rfl) rfl ?_
    exact tz_oretN rfl (zd DX7_lineAt 13 rfl)
  refine tz_if_lt 13 (zd DX7_lineAt 1 rfl) rfl (fun q2 => ?_) (fun q2 => ?_)
  · refine tz_lv (lv2 := []) [] rfl ?_
    exact hj1 w
  refine tz_iload_n 1 rfl (zd DX7_lineAt 2 rfl) ?_
  refine tz_aload_n 0 rfl (zd DX7_lineAt 3 rfl) ?_
  refine tz_getR 6 2 kz7 (zs_0) (by decide) (by decide) rfl wk_186 (zd DX7_lineAt 4 rfl) ?_
  refine tz_alen2 (zs_6.1) (zs_6.2) (zd DX7_lineAt 5 rfl) ?_
  refine tz_icmp_lt 17 (zd DX7_lineAt 6 rfl) rfl (fun q3 => ?_) (fun q3 => ?_)
  · refine tz_aload_n 0 rfl (zd DX7_lineAt 9 rfl) ?_
    refine tz_getR 6 2 kz7 (zs_0) (by decide) (by decide) rfl wk_186 (zd DX7_lineAt 10 rfl) ?_
    refine tz_iload_n 1 rfl (zd DX7_lineAt 11 rfl) ?_
    refine tz_qald (zd DX7_lineAt 12 rfl) (fun q4 => ?_)
    exact tz_oret rfl (zd DX7_lineAt 13 rfl)
  refine tz_lv (lv2 := []) [] rfl ?_
  exact hj1 w
theorem fX7_lineAt_c {a : Int32} {w w1 : zW} {t : Nat} (e : fX7_lineAt a w = some (some t, w1)) : zc 1 t := by
  simp only [fX7_lineAt, lt] at e
  split at e
  · cases e
  split at e
  · obtain ⟨h1, h2⟩ := zg_some e
    cases h2
    exact zline_c h1
  · cases e
def QX7_layAllAnew : List (Nat × Instr × Nat) := [(0, .iconst 0, 1), (1, .istore_n 1, 1), (2, .iload_n 1, 1), (3, .aload_n 0, 1), (4, .getfield 27, 3), (7, .arraylength, 1), (8, .if_icmp .ge 27, 3), (11, .aload_n 0, 1), (12, .iload_n 1, 1), (13, .invokevirtual 158, 3), (16, .astore_n 2, 1), (17, .aload_n 2, 1), (18, .ifnull 11, 3), (21, .aload_n 0, 1), (22, .getfield 21, 3), (25, .aload_n 2, 1), (26, .invokevirtual 324, 3), (29, .iinc 1 1, 3), (32, .goto (-30), 3), (35, .return_, 1)]
set_option maxRecDepth 100000 in
theorem DX7_layAllAnew : ∀ q ∈ QX7_layAllAnew, decode cX7_layAllAnew q.1 = .ok (q.2.1, q.2.2) := by decide +kernel
abbrev MX7_layAllAnew : zM := (cX7_layAllAnew, "EndSums", 3, none, { frames := 5, cells := 0, slots := 0, locals := 134 })
def fX7_layAllAnew_L2  : Nat → Int32 → zW → Option (Unit × zW)
  | 0, _, _ => none
  | n + 1, x1, w =>
    if (nI 4) ≤ x1 then
      some ((), w)
    else
    bd (fX7_lineAt x1 w) fun o4 w2 => oc o4 (
      lt (fun (w6 : zW) =>
        fX7_layAllAnew_L2 n (x1 + (1 : Int32)) w6) fun j6 =>
      j6 w2) fun l5 =>
      lt (fun (w7 : zW) =>
        fX7_layAllAnew_L2 n (x1 + (1 : Int32)) w7) fun j7 =>
      bd (fX6_layAsItLies l5 w2) fun _ w8 =>
      j7 w8
def fX7_layAllAnew  (w : zW) : Option (Unit × zW) :=
  fX7_layAllAnew_L2 zFU (0 : Int32) w
theorem YX7_layAllAnew : zYV yX7_layAllAnew MX7_layAllAnew 0 := ⟨wk_225, wk_1, ⟨wk_224, ws_0⟩, ⟨by decide, by decide, by decide +kernel⟩, rfl, rfl⟩
set_option maxHeartbeats 4000000 in
set_option maxRecDepth 100000 in
theorem lX7_layAllAnew_L2  : ∀ (n : Nat) (x1 : Int32) (w : zW), Tz MX7_layAllAnew (zRet zn) (fX7_layAllAnew_L2 n x1 w) 2 [(0, .ref 0), (1, .int x1)] [] w := by
  intro n
  induction n with
  | zero => intro x1 w; exact tz_eq (fX7_layAllAnew_L2.eq_1 _ _) tz_none
  | succ n ih =>
    intro x1 w
    refine tz_eq (fX7_layAllAnew_L2.eq_2 _ _ _) ?_
    refine tz_iload_n 1 rfl (zd DX7_layAllAnew 2 rfl) ?_
    refine tz_aload_n 0 rfl (zd DX7_layAllAnew 3 rfl) ?_
    refine tz_getR 6 2 kz7 (zs_0) (by decide) (by decide) rfl wk_186 (zd DX7_layAllAnew 4 rfl) ?_
    refine tz_alen2 (zs_6.1) (zs_6.2) (zd DX7_layAllAnew 5 rfl) ?_
    refine tz_icmp_ge 35 (zd DX7_layAllAnew 6 rfl) rfl (fun q1 => ?_) (fun q1 => ?_)
    · exact tz_vret rfl (zd DX7_layAllAnew 19 rfl)
    refine tz_aload_n 0 rfl (zd DX7_layAllAnew 7 rfl) ?_
    refine tz_iload_n 1 rfl (zd DX7_layAllAnew 8 rfl) ?_
    refine tz_cV_o kz7 (zs_0) rfl (rest := []) (YX7_lineAt) wk_226 (tX7_lineAt x1 w) rfl rfl (Nat.le_of_ble_eq_true rfl) ⟨Nat.le_of_ble_eq_true rfl, Nat.le_of_ble_eq_true rfl⟩ (zd DX7_layAllAnew 9 rfl) (fun w2 e3 => ?_) (fun l5 w2 e3 => ?_)
    · refine tz_astore_nN [(2, .null), (0, .ref 0), (1, .int x1)] (Nat.le_of_ble_eq_true rfl) rfl (zd DX7_layAllAnew 10 rfl) ?_
      refine tz_aload_nN 0 rfl (zd DX7_layAllAnew 11 rfl) ?_
      refine tz_jp (P := fun j => ∀ (w6 : zW), Tz MX7_layAllAnew (zRet zn) (j w6) 29 [(0, .ref 0), (1, .int x1)] [] w6) ?_ (fun j6 hj6 => ?_)
      · intro w6
        refine tz_iinc 1 (1 : Int32) [(1, .int (x1 + (1 : Int32))), (0, .ref 0)] rfl zk_iconst_1 (Nat.le_of_ble_eq_true rfl) rfl (zd DX7_layAllAnew 17 rfl) ?_
        refine tz_goto 2 (zd DX7_layAllAnew 18 rfl) rfl ?_
        refine tz_lv (lv2 := [(0, .ref 0), (1, .int (x1 + (1 : Int32)))]) [1, 0] rfl ?_
        exact ih (x1 + (1 : Int32)) w6
      refine tz_ifnullN 29 (zd DX7_layAllAnew 12 rfl) rfl ?_
      refine tz_lv (lv2 := [(0, .ref 0), (1, .int x1)]) [1, 2] rfl ?_
      exact hj6 w2
    refine tz_astore_n [(2, .ref l5), (0, .ref 0), (1, .int x1)] (Nat.le_of_ble_eq_true rfl) rfl (zd DX7_layAllAnew 10 rfl) ?_
    refine tz_aload_n 0 rfl (zd DX7_layAllAnew 11 rfl) ?_
    refine tz_jp (P := fun j => ∀ (w7 : zW), Tz MX7_layAllAnew (zRet zn) (j w7) 29 [(0, .ref 0), (1, .int x1)] [] w7) ?_ (fun j7 hj7 => ?_)
    · intro w7
      refine tz_iinc 1 (1 : Int32) [(1, .int (x1 + (1 : Int32))), (0, .ref 0)] rfl zk_iconst_1 (Nat.le_of_ble_eq_true rfl) rfl (zd DX7_layAllAnew 17 rfl) ?_
      refine tz_goto 2 (zd DX7_layAllAnew 18 rfl) rfl ?_
      refine tz_lv (lv2 := [(0, .ref 0), (1, .int (x1 + (1 : Int32)))]) [1, 0] rfl ?_
      exact ih (x1 + (1 : Int32)) w7
    refine tz_ifnull (zd DX7_layAllAnew 12 rfl) ?_
    refine tz_aload_n 1 rfl (zd DX7_layAllAnew 13 rfl) ?_
    refine tz_getR 4 1 kz7 (zs_0) (by decide) (by decide) rfl wk_185 (zd DX7_layAllAnew 14 rfl) ?_
    refine tz_aload_n 0 rfl (zd DX7_layAllAnew 15 rfl) ?_
    refine tz_cVN_n kz6 (zs_4) rfl (rest := []) (YX6_layAsItLies) wn_230 (tX6_layAsItLies l5 (fX7_lineAt_c e3) w2) rfl rfl (Nat.le_of_ble_eq_true rfl) ⟨Nat.le_of_ble_eq_true rfl, Nat.le_of_ble_eq_true rfl⟩ (zd DX7_layAllAnew 16 rfl) (fun v10 w8 e9 => ?_)
    refine tz_lv (lv2 := [(0, .ref 0), (1, .int x1)]) [1, 2] rfl ?_
    exact hj7 w8
set_option maxHeartbeats 4000000 in
set_option maxRecDepth 100000 in
theorem tX7_layAllAnew  (w : zW) : Sm yX7_layAllAnew MX7_layAllAnew zn [.ref 0] w (fX7_layAllAnew w) := by
  refine Sm_of (lv0 := [(0, .ref 0)]) (by decide) rfl (fun _ => Nat.le_of_ble_eq_true rfl) rfl ?_
  unfold fX7_layAllAnew
  refine tz_iconst (0 : Int32) zk_iconst_0 (zd DX7_layAllAnew 0 rfl) ?_
  refine tz_istore_n [(1, .int (0 : Int32)), (0, .ref 0)] (Nat.le_of_ble_eq_true rfl) rfl (zd DX7_layAllAnew 1 rfl) ?_
  refine tz_lv (lv2 := [(0, .ref 0), (1, .int (0 : Int32))]) [1, 0] rfl ?_
  exact lX7_layAllAnew_L2 zFU (0 : Int32) w
def QX7_rule : List (Nat × Instr × Nat) := [(0, .iload_n 1, 1), (1, .ifCond .lt 9, 3), (4, .iload_n 1, 1), (5, .bipush 7, 2), (7, .if_icmp .le 5, 3), (10, .iconst (-1), 1), (11, .ireturn, 1), (12, .aload_n 0, 1), (13, .getfield 10, 3), (16, .getfield 67, 3), (19, .istore_n 2, 1), (20, .iload_n 1, 1), (21, .iload_n 2, 1), (22, .if_icmp .ne 6, 3), (25, .bipush (-2), 2), (27, .ireturn, 1), (28, .aload_n 0, 1), (29, .getfield 10, 3), (32, .iload_n 1, 1), (33, .putfield 67, 3), (36, .aload_n 0, 1), (37, .invokevirtual 71, 3), (40, .iload_n 2, 1), (41, .ireturn, 1)]
set_option maxRecDepth 100000 in
theorem DX7_rule : ∀ q ∈ QX7_rule, decode cX7_rule q.1 = .ok (q.2.1, q.2.2) := by decide +kernel
abbrev MX7_rule : zM := (cX7_rule, "EndSums", 3, (some .int), { frames := 6, cells := 0, slots := 0, locals := 156 })
def fX7_rule (a1 : Int32) (w : zW) : Option (Int32 × zW) :=
  if a1 < (0 : Int32) then
    some ((-1 : Int32), w)
  else
  if a1 ≤ (7 : Int32) then
    lt (zI w 1 0) fun v3 =>
    if ¬ a1 = v3 then
      lt (zsI w 1 0 a1) fun w5 =>
      bd (fX7_layAllAnew w5) fun _ w6 =>
      some (v3, w6)
    else
    some ((-2 : Int32), w)
  else
  some ((-1 : Int32), w)
theorem YX7_rule : zYV yX7_rule MX7_rule 1 := ⟨wk_221, wk_1, ⟨wk_219, wk_220⟩, ⟨by decide, by decide, by decide +kernel⟩, rfl, rfl⟩
set_option maxHeartbeats 4000000 in
set_option maxRecDepth 100000 in
theorem tX7_rule (a1 : Int32) (w : zW) : Sm yX7_rule MX7_rule zi [.ref 0, .int a1] w (fX7_rule a1 w) := by
  refine Sm_of (lv0 := [(0, .ref 0), (1, .int a1)]) (by decide) rfl (fun _ => Nat.le_of_ble_eq_true rfl) rfl ?_
  unfold fX7_rule
  refine tz_iload_n 1 rfl (zd DX7_rule 0 rfl) ?_
  refine tz_if_lt 10 (zd DX7_rule 1 rfl) rfl (fun q1 => ?_) (fun q1 => ?_)
  · refine tz_iconst (-1 : Int32) zk_iconst_m1 (zd DX7_rule 5 rfl) ?_
    exact tz_iret rfl (zd DX7_rule 6 rfl)
  refine tz_iload_n 1 rfl (zd DX7_rule 2 rfl) ?_
  refine tz_bipush (7 : Int32) zk_bipush_7 (zd DX7_rule 3 rfl) ?_
  refine tz_icmp_le 12 (zd DX7_rule 4 rfl) rfl (fun q2 => ?_) (fun q2 => ?_)
  · refine tz_aload_n 0 rfl (zd DX7_rule 7 rfl) ?_
    refine tz_getR 1 0 kz7 (zs_0) (by decide) (by decide) rfl wk_184 (zd DX7_rule 8 rfl) ?_
    refine tz_getIN 0 kz0 (zs_1) (by decide) rfl wn_50 (zd DX7_rule 9 rfl) ?_
    refine tz_lti (fun v3 => ?_)
    refine tz_istore_n [(2, .int v3), (0, .ref 0), (1, .int a1)] (Nat.le_of_ble_eq_true rfl) rfl (zd DX7_rule 10 rfl) ?_
    refine tz_iload_n 2 rfl (zd DX7_rule 11 rfl) ?_
    refine tz_iload_n 0 rfl (zd DX7_rule 12 rfl) ?_
    refine tz_icmp_ne 28 (zd DX7_rule 13 rfl) rfl (fun q4 => ?_) (fun q4 => ?_)
    · refine tz_aload_n 1 rfl (zd DX7_rule 16 rfl) ?_
      refine tz_getR 1 0 kz7 (zs_0) (by decide) (by decide) rfl wk_184 (zd DX7_rule 17 rfl) ?_
      refine tz_iload_n 2 rfl (zd DX7_rule 18 rfl) ?_
      refine tz_putIN 0 kz0 (zs_1) (by decide) rfl rfl wn_50 (zd DX7_rule 19 rfl) (fun w5 => ?_)
      refine tz_aload_n 1 rfl (zd DX7_rule 20 rfl) ?_
      refine tz_cV_n kz7 (zs_0) rfl (rest := []) (YX7_layAllAnew) wk_222 (tX7_layAllAnew w5) rfl rfl (Nat.le_of_ble_eq_true rfl) ⟨Nat.le_of_ble_eq_true rfl, Nat.le_of_ble_eq_true rfl⟩ (zd DX7_rule 21 rfl) (fun v8 w6 e7 => ?_)
      refine tz_iload_n 0 rfl (zd DX7_rule 22 rfl) ?_
      exact tz_iret rfl (zd DX7_rule 23 rfl)
    refine tz_bipush (-2 : Int32) zk_bipush_m2 (zd DX7_rule 14 rfl) ?_
    exact tz_iret rfl (zd DX7_rule 15 rfl)
  refine tz_iconst (-1 : Int32) zk_iconst_m1 (zd DX7_rule 5 rfl) ?_
  exact tz_iret rfl (zd DX7_rule 6 rfl)
def QX7_tellMore : List (Nat × Instr × Nat) := [(0, .aload_n 0, 1), (1, .getfield 256, 3), (4, .ifCond .lt 35, 3), (7, .aload_n 0, 1), (8, .getfield 256, 3), (11, .aload_n 0, 1), (12, .getfield 57, 3), (15, .arraylength, 1), (16, .if_icmp .ge 23, 3), (19, .aload_n 0, 1), (20, .getfield 57, 3), (23, .aload_n 0, 1), (24, .getfield 256, 3), (27, .lload_n 1, 1), (28, .lastore, 1), (29, .aload_n 0, 1), (30, .dup, 1), (31, .getfield 256, 3), (34, .iconst 1, 1), (35, .iadd, 1), (36, .putfield 256, 3), (39, .return_, 1)]
set_option maxRecDepth 100000 in
theorem DX7_tellMore : ∀ q ∈ QX7_tellMore, decode cX7_tellMore q.1 = .ok (q.2.1, q.2.2) := by decide +kernel
abbrev MX7_tellMore : zM := (cX7_tellMore, "EndSums", 3, none, { frames := 0, cells := 0, slots := 0, locals := 0 })
def fX7_tellMore (a1 : Int64) (w : zW) : Option (Unit × zW) :=
  if (zI w 0 8) < (0 : Int32) then
    some ((), w)
  else
  if (nI 128) ≤ (zI w 0 8) then
    some ((), w)
  else
  zg (zin (zI w 0 8) 128) <| lt (zsL w 71 (zI w 0 8).toNatClampNeg a1) fun w3 =>
  lt (zsI w3 0 8 ((zI w3 0 8) + (1 : Int32))) fun w4 =>
  some ((), w4)
theorem YX7_tellMore : zYV yX7_tellMore MX7_tellMore 1 := ⟨wk_398, wk_1, ⟨wk_397, ws_31⟩, ⟨by decide, by decide, by decide +kernel⟩, rfl, rfl⟩
set_option maxHeartbeats 4000000 in
set_option maxRecDepth 100000 in
theorem tX7_tellMore (a1 : Int64) (w : zW) : Sm yX7_tellMore MX7_tellMore zn [.ref 0, .long a1] w (fX7_tellMore a1 w) := by
  refine Sm_of (lv0 := [(0, .ref 0), (1, .long a1)]) (by decide) rfl (fun _ => Nat.le_of_ble_eq_true rfl) rfl ?_
  unfold fX7_tellMore
  refine tz_aload_n 0 rfl (zd DX7_tellMore 0 rfl) ?_
  refine tz_getI 8 kz7 (zs_0) (by decide) rfl wk_192 (zd DX7_tellMore 1 rfl) ?_
  refine tz_if_lt 39 (zd DX7_tellMore 2 rfl) rfl (fun q1 => ?_) (fun q1 => ?_)
  · exact tz_vret rfl (zd DX7_tellMore 21 rfl)
  refine tz_aload_n 0 rfl (zd DX7_tellMore 3 rfl) ?_
  refine tz_getI 8 kz7 (zs_0) (by decide) rfl wk_192 (zd DX7_tellMore 4 rfl) ?_
  refine tz_aload_n 0 rfl (zd DX7_tellMore 5 rfl) ?_
  refine tz_getR 71 7 kz7 (zs_0) (by decide) (by decide) rfl wk_191 (zd DX7_tellMore 6 rfl) ?_
  refine tz_alen1 (zs_71.1) (zs_71.2) (zd DX7_tellMore 7 rfl) ?_
  refine tz_icmp_ge 39 (zd DX7_tellMore 8 rfl) rfl (fun q2 => ?_) (fun q2 => ?_)
  · exact tz_vret rfl (zd DX7_tellMore 21 rfl)
  refine tz_aload_n 0 rfl (zd DX7_tellMore 9 rfl) ?_
  refine tz_getR 71 7 kz7 (zs_0) (by decide) (by decide) rfl wk_191 (zd DX7_tellMore 10 rfl) ?_
  refine tz_aload_n 0 rfl (zd DX7_tellMore 11 rfl) ?_
  refine tz_getI 8 kz7 (zs_0) (by decide) rfl wk_192 (zd DX7_tellMore 12 rfl) ?_
  refine tz_lload_n 1 rfl (zd DX7_tellMore 13 rfl) ?_
  refine tz_last (zs_71.1) (zs_71.2) (zd DX7_tellMore 14 rfl) (fun w3 => ?_)
  refine tz_aload_n 0 rfl (zd DX7_tellMore 15 rfl) ?_
  refine tz_dupa (zd DX7_tellMore 16 rfl) ?_
  refine tz_getI 8 kz7 (zs_0) (by decide) rfl wk_192 (zd DX7_tellMore 17 rfl) ?_
  refine tz_iconst (1 : Int32) zk_iconst_1 (zd DX7_tellMore 18 rfl) ?_
  refine tz_iadd (zd DX7_tellMore 19 rfl) ?_
  refine tz_putI 8 kz7 (zs_0) (by decide) rfl rfl wk_192 (zd DX7_tellMore 20 rfl) (fun w4 => ?_)
  exact tz_vret rfl (zd DX7_tellMore 21 rfl)
def QX7_tell : List (Nat × Instr × Nat) := [(0, .aload_n 0, 1), (1, .iconst 0, 1), (2, .putfield 256, 3), (5, .aload_n 0, 1), (6, .lload_n 1, 1), (7, .invokevirtual 259, 3), (10, .return_, 1)]
set_option maxRecDepth 100000 in
theorem DX7_tell : ∀ q ∈ QX7_tell, decode cX7_tell q.1 = .ok (q.2.1, q.2.2) := by decide +kernel
abbrev MX7_tell : zM := (cX7_tell, "EndSums", 3, none, { frames := 1, cells := 0, slots := 0, locals := 22 })
def fX7_tell (a1 : Int64) (w : zW) : Option (Unit × zW) :=
  lt (zsI w 0 8 (0 : Int32)) fun w1 =>
  bd (fX7_tellMore a1 w1) fun _ w2 =>
  some ((), w2)
theorem YX7_tell : zYV yX7_tell MX7_tell 1 := ⟨wk_394, wk_1, ⟨wk_393, ws_30⟩, ⟨by decide, by decide, by decide +kernel⟩, rfl, rfl⟩
set_option maxHeartbeats 4000000 in
set_option maxRecDepth 100000 in
theorem tX7_tell (a1 : Int64) (w : zW) : Sm yX7_tell MX7_tell zn [.ref 0, .long a1] w (fX7_tell a1 w) := by
  refine Sm_of (lv0 := [(0, .ref 0), (1, .long a1)]) (by decide) rfl (fun _ => Nat.le_of_ble_eq_true rfl) rfl ?_
  unfold fX7_tell
  refine tz_aload_n 0 rfl (zd DX7_tell 0 rfl) ?_
  refine tz_iconst (0 : Int32) zk_iconst_0 (zd DX7_tell 1 rfl) ?_
  refine tz_putI 8 kz7 (zs_0) (by decide) rfl rfl wk_192 (zd DX7_tell 2 rfl) (fun w1 => ?_)
  refine tz_aload_n 0 rfl (zd DX7_tell 3 rfl) ?_
  refine tz_lload_n 1 rfl (zd DX7_tell 4 rfl) ?_
  refine tz_cV_n kz7 (zs_0) rfl (rest := []) (YX7_tellMore) wk_395 (tX7_tellMore a1 w1) rfl rfl (Nat.le_of_ble_eq_true rfl) ⟨Nat.le_of_ble_eq_true rfl, Nat.le_of_ble_eq_true rfl⟩ (zd DX7_tell 5 rfl) (fun v4 w2 e3 => ?_)
  exact tz_vret rfl (zd DX7_tell 6 rfl)
def QX7_tell_ : List (Nat × Instr × Nat) := [(0, .aload_n 0, 1), (1, .lload_n 1, 1), (2, .invokevirtual 148, 3), (5, .aload_n 0, 1), (6, .lload_n 3, 1), (7, .invokevirtual 259, 3), (10, .return_, 1)]
set_option maxRecDepth 100000 in
theorem DX7_tell_ : ∀ q ∈ QX7_tell_, decode cX7_tell_ q.1 = .ok (q.2.1, q.2.2) := by decide +kernel
abbrev MX7_tell_ : zM := (cX7_tell_, "EndSums", 5, none, { frames := 2, cells := 0, slots := 0, locals := 44 })
def fX7_tell_ (a1 : Int64) (a3 : Int64) (w : zW) : Option (Unit × zW) :=
  bd (fX7_tell a1 w) fun _ w1 =>
  bd (fX7_tellMore a3 w1) fun _ w4 =>
  some ((), w4)
theorem YX7_tell_ : zYV yX7_tell_ MX7_tell_ 2 := ⟨wk_390, wk_1, ⟨wk_389, ws_29⟩, ⟨by decide, by decide, by decide +kernel⟩, rfl, rfl⟩
set_option maxHeartbeats 4000000 in
set_option maxRecDepth 100000 in
theorem tX7_tell_ (a1 : Int64) (a3 : Int64) (w : zW) : Sm yX7_tell_ MX7_tell_ zn [.ref 0, .long a1, .long a3] w (fX7_tell_ a1 a3 w) := by
  refine Sm_of (lv0 := [(0, .ref 0), (1, .long a1), (3, .long a3)]) (by decide) rfl (fun _ => Nat.le_of_ble_eq_true rfl) rfl ?_
  unfold fX7_tell_
  refine tz_aload_n 0 rfl (zd DX7_tell_ 0 rfl) ?_
  refine tz_lload_n 1 rfl (zd DX7_tell_ 1 rfl) ?_
  refine tz_cV_n kz7 (zs_0) rfl (rest := []) (YX7_tell) wk_391 (tX7_tell a1 w) rfl rfl (Nat.le_of_ble_eq_true rfl) ⟨Nat.le_of_ble_eq_true rfl, Nat.le_of_ble_eq_true rfl⟩ (zd DX7_tell_ 2 rfl) (fun v3 w1 e2 => ?_)
  refine tz_aload_n 0 rfl (zd DX7_tell_ 3 rfl) ?_
  refine tz_lload_n 2 rfl (zd DX7_tell_ 4 rfl) ?_
  refine tz_cV_n kz7 (zs_0) rfl (rest := []) (YX7_tellMore) wk_395 (tX7_tellMore a3 w1) rfl rfl (Nat.le_of_ble_eq_true rfl) ⟨Nat.le_of_ble_eq_true rfl, Nat.le_of_ble_eq_true rfl⟩ (zd DX7_tell_ 5 rfl) (fun v6 w4 e5 => ?_)
  exact tz_vret rfl (zd DX7_tell_ 6 rfl)
def QX7_tell__ : List (Nat × Instr × Nat) := [(0, .aload_n 0, 1), (1, .lload_n 1, 1), (2, .lload_n 3, 1), (3, .invokevirtual 135, 3), (6, .aload_n 0, 1), (7, .lload 5, 2), (9, .invokevirtual 259, 3), (12, .return_, 1)]
set_option maxRecDepth 100000 in
theorem DX7_tell__ : ∀ q ∈ QX7_tell__, decode cX7_tell__ q.1 = .ok (q.2.1, q.2.2) := by decide +kernel
abbrev MX7_tell__ : zM := (cX7_tell__, "EndSums", 7, none, { frames := 3, cells := 0, slots := 0, locals := 68 })
def fX7_tell__ (a1 : Int64) (a3 : Int64) (a5 : Int64) (w : zW) : Option (Unit × zW) :=
  bd (fX7_tell_ a1 a3 w) fun _ w1 =>
  bd (fX7_tellMore a5 w1) fun _ w4 =>
  some ((), w4)
theorem YX7_tell__ : zYV yX7_tell__ MX7_tell__ 3 := ⟨wk_386, wk_1, ⟨wk_385, ws_28⟩, ⟨by decide, by decide, by decide +kernel⟩, rfl, rfl⟩
set_option maxHeartbeats 4000000 in
set_option maxRecDepth 100000 in
theorem tX7_tell__ (a1 : Int64) (a3 : Int64) (a5 : Int64) (w : zW) : Sm yX7_tell__ MX7_tell__ zn [.ref 0, .long a1, .long a3, .long a5] w (fX7_tell__ a1 a3 a5 w) := by
  refine Sm_of (lv0 := [(0, .ref 0), (1, .long a1), (3, .long a3), (5, .long a5)]) (by decide) rfl (fun _ => Nat.le_of_ble_eq_true rfl) rfl ?_
  unfold fX7_tell__
  refine tz_aload_n 0 rfl (zd DX7_tell__ 0 rfl) ?_
  refine tz_lload_n 1 rfl (zd DX7_tell__ 1 rfl) ?_
  refine tz_lload_n 2 rfl (zd DX7_tell__ 2 rfl) ?_
  refine tz_cV_n kz7 (zs_0) rfl (rest := []) (YX7_tell_) wk_387 (tX7_tell_ a1 a3 w) rfl rfl (Nat.le_of_ble_eq_true rfl) ⟨Nat.le_of_ble_eq_true rfl, Nat.le_of_ble_eq_true rfl⟩ (zd DX7_tell__ 3 rfl) (fun v3 w1 e2 => ?_)
  refine tz_aload_n 0 rfl (zd DX7_tell__ 4 rfl) ?_
  refine tz_lload 3 rfl (zd DX7_tell__ 5 rfl) ?_
  refine tz_cV_n kz7 (zs_0) rfl (rest := []) (YX7_tellMore) wk_395 (tX7_tellMore a5 w1) rfl rfl (Nat.le_of_ble_eq_true rfl) ⟨Nat.le_of_ble_eq_true rfl, Nat.le_of_ble_eq_true rfl⟩ (zd DX7_tell__ 6 rfl) (fun v6 w4 e5 => ?_)
  exact tz_vret rfl (zd DX7_tell__ 7 rfl)
def QX7_table : List (Nat × Instr × Nat) := [(0, .aload_n 0, 1), (1, .getfield 46, 3), (4, .invokevirtual 74, 3), (7, .istore_n 1, 1), (8, .iload_n 1, 1), (9, .iconst (-1), 1), (10, .if_icmp .ne 14, 3), (13, .aload_n 0, 1), (14, .getfield 39, 3), (17, .aload_n 0, 1), (18, .getfield 46, 3), (21, .invokevirtual 78, 3), (24, .aload_n 0, 1), (25, .getfield 46, 3), (28, .iconst 0, 1), (29, .putfield 82, 3), (32, .iload_n 1, 1), (33, .iconst (-1), 1), (34, .if_icmp .eq 8, 3), (37, .bipush (-21), 2), (39, .iload_n 1, 1), (40, .isub, 1), (41, .ireturn, 1), (42, .aload_n 0, 1), (43, .getfield 39, 3), (46, .invokevirtual 85, 3), (49, .istore_n 2, 1), (50, .iload_n 2, 1), (51, .iconst (-1), 1), (52, .if_icmp .eq 28, 3), (55, .aload_n 0, 1), (56, .iload_n 2, 1), (57, .bipush 100, 2), (59, .idiv, 1), (60, .i2l, 1), (61, .iload_n 2, 1), (62, .bipush 10, 2), (64, .idiv, 1), (65, .bipush 10, 2), (67, .irem, 1), (68, .i2l, 1), (69, .iload_n 2, 1), (70, .bipush 10, 2), (72, .irem, 1), (73, .i2l, 1), (74, .invokevirtual 88, 3), (77, .bipush (-10), 2), (79, .ireturn, 1), (80, .aload_n 0, 1), (81, .getfield 39, 3), (84, .getfield 92, 3), (87, .iconst (-1), 1), (88, .if_icmp .ne 6, 3), (91, .bipush (-11), 2), (93, .ireturn, 1), (94, .aload_n 0, 1), (95, .getfield 10, 3), (98, .getfield 95, 3), (101, .aload_n 0, 1), (102, .getfield 39, 3), (105, .invokevirtual 98, 3), (108, .aload_n 0, 1), (109, .getfield 10, 3), (112, .getfield 67, 3), (115, .bipush 7, 2), (117, .if_icmp .ne 7, 3), (120, .aload_n 0, 1), (121, .invokevirtual 71, 3), (124, .aload_n 0, 1), (125, .getfield 39, 3), (128, .getfield 102, 3), (131, .ireturn, 1)]
set_option maxRecDepth 100000 in
theorem DX7_table : ∀ q ∈ QX7_table, decode cX7_table q.1 = .ok (q.2.1, q.2.2) := by decide +kernel
abbrev MX7_table : zM := (cX7_table, "EndSums", 3, (some .int), { frames := 6, cells := 0, slots := 0, locals := 156 })
def fX7_table  (w : zW) : Option (Int32 × zW) :=
  bd (fX5_firstWrongInTable w) fun v3 w1 =>
  lt (fun (w4 : zW) =>
    lt (zsI w4 64 0 (0 : Int32)) fun w5 =>
    if v3 = (-1 : Int32) then
      bd (fX3_firstNotAlike 62 w5) fun v9 w7 =>
      if v9 = (-1 : Int32) then
        if ¬ (zI w7 62 1) = (-1 : Int32) then
          bd (fX3_become 2 62 w7) fun _ w12 =>
          lt (fun (w15 : zW) =>
            some ((zI w15 62 0), w15)) fun j15 =>
          if ¬ (zI w12 1 0) = (7 : Int32) then
            j15 w12
          else
          bd (fX7_layAllAnew w12) fun _ w17 =>
          j15 w17
        else
        some ((-11 : Int32), w7)
      else
      bd (fX7_tell__ (v9 / (100 : Int32)).toInt64 ((v9 / (10 : Int32)) - (v9 / (10 : Int32)) / (10 : Int32) * (10 : Int32)).toInt64 (v9 - v9 / (10 : Int32) * (10 : Int32)).toInt64 w7) fun _ w20 =>
      some ((-10 : Int32), w20)
    else
    some (((-21 : Int32) - v3), w5)) fun j4 =>
  if ¬ v3 = (-1 : Int32) then
    j4 w1
  else
  bd (fX3_read 62 w1) fun _ w24 =>
  j4 w24
theorem YX7_table : zYV yX7_table MX7_table 0 := ⟨wk_343, wk_1, ⟨wk_341, wk_342⟩, ⟨by decide, by decide, by decide +kernel⟩, rfl, rfl⟩
set_option maxHeartbeats 4000000 in
set_option maxRecDepth 100000 in
theorem tX7_table  (w : zW) : Sm yX7_table MX7_table zi [.ref 0] w (fX7_table w) := by
  refine Sm_of (lv0 := [(0, .ref 0)]) (by decide) rfl (fun _ => Nat.le_of_ble_eq_true rfl) rfl ?_
  unfold fX7_table
  refine tz_aload_n 0 rfl (zd DX7_table 0 rfl) ?_
  refine tz_getR 64 5 kz7 (zs_0) (by decide) (by decide) rfl wk_189 (zd DX7_table 1 rfl) ?_
  refine tz_cVN_i kz5 (zs_64) rfl (rest := []) (YX5_firstWrongInTable) wn_344 (tX5_firstWrongInTable w) rfl rfl (Nat.le_of_ble_eq_true rfl) ⟨Nat.le_of_ble_eq_true rfl, Nat.le_of_ble_eq_true rfl⟩ (zd DX7_table 2 rfl) (fun v3 w1 e2 => ?_)
  refine tz_istore_n [(1, .int v3), (0, .ref 0)] (Nat.le_of_ble_eq_true rfl) rfl (zd DX7_table 3 rfl) ?_
  refine tz_iload_n 0 rfl (zd DX7_table 4 rfl) ?_
  refine tz_iconst (-1 : Int32) zk_iconst_m1 (zd DX7_table 5 rfl) ?_
  refine tz_jp (P := fun j => ∀ (w4 : zW), Tz MX7_table (zRet zi) (j w4) 24 [(0, .ref 0), (1, .int v3)] [] w4) ?_ (fun j4 hj4 => ?_)
  · intro w4
    refine tz_aload_n 0 rfl (zd DX7_table 12 rfl) ?_
    refine tz_getR 64 5 kz7 (zs_0) (by decide) (by decide) rfl wk_189 (zd DX7_table 13 rfl) ?_
    refine tz_iconst (0 : Int32) zk_iconst_0 (zd DX7_table 14 rfl) ?_
    refine tz_putIN 0 kz5 (zs_64) (by decide) rfl rfl wn_150 (zd DX7_table 15 rfl) (fun w5 => ?_)
    refine tz_iload_n 1 rfl (zd DX7_table 16 rfl) ?_
    refine tz_iconst (-1 : Int32) zk_iconst_m1 (zd DX7_table 17 rfl) ?_
    refine tz_icmp_eq 42 (zd DX7_table 18 rfl) rfl (fun q6 => ?_) (fun q6 => ?_)
    · refine tz_aload_n 0 rfl (zd DX7_table 23 rfl) ?_
      refine tz_getR 62 4 kz7 (zs_0) (by decide) (by decide) rfl wk_188 (zd DX7_table 24 rfl) ?_
      refine tz_cVN_i kz3 (zs_62) rfl (rest := []) (YX3_firstNotAlike) wn_379 (tX3_firstNotAlike 62 (zs_62) w5) rfl rfl (Nat.le_of_ble_eq_true rfl) ⟨Nat.le_of_ble_eq_true rfl, Nat.le_of_ble_eq_true rfl⟩ (zd DX7_table 25 rfl) (fun v9 w7 e8 => ?_)
      refine tz_istore_n [(2, .int v9), (0, .ref 0), (1, .int v3)] (Nat.le_of_ble_eq_true rfl) rfl (zd DX7_table 26 rfl) ?_
      refine tz_iload_n 0 rfl (zd DX7_table 27 rfl) ?_
      refine tz_iconst (-1 : Int32) zk_iconst_m1 (zd DX7_table 28 rfl) ?_
      refine tz_icmp_eq 80 (zd DX7_table 29 rfl) rfl (fun q10 => ?_) (fun q10 => ?_)
      · refine tz_aload_n 1 rfl (zd DX7_table 48 rfl) ?_
        refine tz_getR 62 4 kz7 (zs_0) (by decide) (by decide) rfl wk_188 (zd DX7_table 49 rfl) ?_
        refine tz_getIN 1 kz3 (zs_62) (by decide) rfl wn_38 (zd DX7_table 50 rfl) ?_
        refine tz_iconst (-1 : Int32) zk_iconst_m1 (zd DX7_table 51 rfl) ?_
        refine tz_icmp_ne 94 (zd DX7_table 52 rfl) rfl (fun q11 => ?_) (fun q11 => ?_)
        · refine tz_aload_n 1 rfl (zd DX7_table 55 rfl) ?_
          refine tz_getR 1 0 kz7 (zs_0) (by decide) (by decide) rfl wk_184 (zd DX7_table 56 rfl) ?_
          refine tz_getRN 2 1 kz0 (zs_1) (by decide) (by decide) rfl wn_53 (zd DX7_table 57 rfl) ?_
          refine tz_aload_n 1 rfl (zd DX7_table 58 rfl) ?_
          refine tz_getR 62 4 kz7 (zs_0) (by decide) (by decide) rfl wk_188 (zd DX7_table 59 rfl) ?_
          refine tz_cVN_n kz3 (zs_2) rfl (rest := []) (YX3_become) wn_399 (tX3_become 2 (zs_2) 62 (zs_62) w7) rfl rfl (Nat.le_of_ble_eq_true rfl) ⟨Nat.le_of_ble_eq_true rfl, Nat.le_of_ble_eq_true rfl⟩ (zd DX7_table 60 rfl) (fun v14 w12 e13 => ?_)
          refine tz_aload_n 1 rfl (zd DX7_table 61 rfl) ?_
          refine tz_getR 1 0 kz7 (zs_0) (by decide) (by decide) rfl wk_184 (zd DX7_table 62 rfl) ?_
          refine tz_getIN 0 kz0 (zs_1) (by decide) rfl wn_50 (zd DX7_table 63 rfl) ?_
          refine tz_bipush (7 : Int32) zk_bipush_7 (zd DX7_table 64 rfl) ?_
          refine tz_jp (P := fun j => ∀ (w15 : zW), Tz MX7_table (zRet zi) (j w15) 124 [(0, .ref 0)] [] w15) ?_ (fun j15 hj15 => ?_)
          · intro w15
            refine tz_aload_n 0 rfl (zd DX7_table 68 rfl) ?_
            refine tz_getR 62 4 kz7 (zs_0) (by decide) (by decide) rfl wk_188 (zd DX7_table 69 rfl) ?_
            refine tz_getIN 0 kz3 (zs_62) (by decide) rfl wn_36 (zd DX7_table 70 rfl) ?_
            exact tz_iret rfl (zd DX7_table 71 rfl)
          refine tz_icmp_ne 124 (zd DX7_table 65 rfl) rfl (fun q16 => ?_) (fun q16 => ?_)
          · refine tz_lv (lv2 := [(0, .ref 0)]) [1] rfl ?_
            exact hj15 w12
          refine tz_aload_n 1 rfl (zd DX7_table 66 rfl) ?_
          refine tz_cV_n kz7 (zs_0) rfl (rest := []) (YX7_layAllAnew) wk_222 (tX7_layAllAnew w12) rfl rfl (Nat.le_of_ble_eq_true rfl) ⟨Nat.le_of_ble_eq_true rfl, Nat.le_of_ble_eq_true rfl⟩ (zd DX7_table 67 rfl) (fun v19 w17 e18 => ?_)
          refine tz_lv (lv2 := [(0, .ref 0)]) [1] rfl ?_
          exact hj15 w17
        refine tz_bipush (-11 : Int32) zk_bipush_m11 (zd DX7_table 53 rfl) ?_
        exact tz_iret rfl (zd DX7_table 54 rfl)
      refine tz_aload_n 1 rfl (zd DX7_table 30 rfl) ?_
      refine tz_iload_n 0 rfl (zd DX7_table 31 rfl) ?_
      refine tz_bipush (100 : Int32) zk_bipush_100 (zd DX7_table 32 rfl) ?_
      refine tz_idiv (by decide) (zd DX7_table 33 rfl) ?_
      refine tz_i2l (zd DX7_table 34 rfl) ?_
      refine tz_iload_n 0 rfl (zd DX7_table 35 rfl) ?_
      refine tz_bipush (10 : Int32) zk_bipush_10 (zd DX7_table 36 rfl) ?_
      refine tz_idiv (by decide) (zd DX7_table 37 rfl) ?_
      refine tz_bipush (10 : Int32) zk_bipush_10 (zd DX7_table 38 rfl) ?_
      refine tz_irem (by decide) (zd DX7_table 39 rfl) ?_
      refine tz_i2l (zd DX7_table 40 rfl) ?_
      refine tz_iload_n 0 rfl (zd DX7_table 41 rfl) ?_
      refine tz_bipush (10 : Int32) zk_bipush_10 (zd DX7_table 42 rfl) ?_
      refine tz_irem (by decide) (zd DX7_table 43 rfl) ?_
      refine tz_i2l (zd DX7_table 44 rfl) ?_
      refine tz_cV_n kz7 (zs_0) rfl (rest := []) (YX7_tell__) wk_383 (tX7_tell__ (v9 / (100 : Int32)).toInt64 ((v9 / (10 : Int32)) - (v9 / (10 : Int32)) / (10 : Int32) * (10 : Int32)).toInt64 (v9 - v9 / (10 : Int32) * (10 : Int32)).toInt64 w7) rfl rfl (Nat.le_of_ble_eq_true rfl) ⟨Nat.le_of_ble_eq_true rfl, Nat.le_of_ble_eq_true rfl⟩ (zd DX7_table 45 rfl) (fun v22 w20 e21 => ?_)
      refine tz_bipush (-10 : Int32) zk_bipush_m10 (zd DX7_table 46 rfl) ?_
      exact tz_iret rfl (zd DX7_table 47 rfl)
    refine tz_bipush (-21 : Int32) zk_bipush_m21 (zd DX7_table 19 rfl) ?_
    refine tz_iload_n 1 rfl (zd DX7_table 20 rfl) ?_
    refine tz_isub (zd DX7_table 21 rfl) ?_
    exact tz_iret rfl (zd DX7_table 22 rfl)
  refine tz_icmp_ne 24 (zd DX7_table 6 rfl) rfl (fun q23 => ?_) (fun q23 => ?_)
  · refine tz_lv (lv2 := [(0, .ref 0), (1, .int v3)]) [1, 0] rfl ?_
    exact hj4 w1
  refine tz_aload_n 1 rfl (zd DX7_table 7 rfl) ?_
  refine tz_getR 62 4 kz7 (zs_0) (by decide) (by decide) rfl wk_188 (zd DX7_table 8 rfl) ?_
  refine tz_aload_n 1 rfl (zd DX7_table 9 rfl) ?_
  refine tz_getR 64 5 kz7 (zs_0) (by decide) (by decide) rfl wk_189 (zd DX7_table 10 rfl) ?_
  refine tz_cVN_n kz3 (zs_62) rfl (rest := []) (YX3_read) wn_364 (tX3_read 62 (zs_62) w1) rfl rfl (Nat.le_of_ble_eq_true rfl) ⟨Nat.le_of_ble_eq_true rfl, Nat.le_of_ble_eq_true rfl⟩ (zd DX7_table 11 rfl) (fun v26 w24 e25 => ?_)
  refine tz_lv (lv2 := [(0, .ref 0), (1, .int v3)]) [1, 0] rfl ?_
  exact hj4 w24
def QX7_isItem : List (Nat × Instr × Nat) := [(0, .iload_n 0, 1), (1, .ifCond .lt 14, 3), (4, .iload_n 0, 1), (5, .sipush 9999, 3), (8, .if_icmp .gt 7, 3), (11, .iconst 1, 1), (12, .goto 4, 3), (15, .iconst 0, 1), (16, .ireturn, 1)]
set_option maxRecDepth 100000 in
theorem DX7_isItem : ∀ q ∈ QX7_isItem, decode cX7_isItem q.1 = .ok (q.2.1, q.2.2) := by decide +kernel
abbrev MX7_isItem : zM := (cX7_isItem, "EndSums", 1, (some .boolean), { frames := 0, cells := 0, slots := 0, locals := 0 })
def fX7_isItem (a0 : Int32) (w : zW) : Option (Bool × zW) :=
  if a0 < (0 : Int32) then
    some (false, w)
  else
  if (9999 : Int32) < a0 then
    some (false, w)
  else
  some (true, w)
theorem YX7_isItem : zYS yX7_isItem MX7_isItem 1 := ⟨wk_410, wk_1, wk_409, ⟨by decide, by decide, by decide +kernel⟩, rfl, rfl⟩
set_option maxHeartbeats 4000000 in
set_option maxRecDepth 100000 in
theorem tX7_isItem (a0 : Int32) (w : zW) : Sm yX7_isItem MX7_isItem zz [.int a0] w (fX7_isItem a0 w) := by
  refine Sm_of (lv0 := [(0, .int a0)]) (by decide) rfl (fun _ => Nat.le_of_ble_eq_true rfl) rfl ?_
  unfold fX7_isItem
  refine tz_iload_n 0 rfl (zd DX7_isItem 0 rfl) ?_
  refine tz_if_lt 15 (zd DX7_isItem 1 rfl) rfl (fun q1 => ?_) (fun q1 => ?_)
  · refine tz_iconst (0 : Int32) zk_iconst_0 (zd DX7_isItem 7 rfl) ?_
    exact tz_zret0 rfl (zd DX7_isItem 8 rfl)
  refine tz_iload_n 0 rfl (zd DX7_isItem 2 rfl) ?_
  refine tz_sipush (9999 : Int32) zk_sipush_9999 (zd DX7_isItem 3 rfl) ?_
  refine tz_icmp_gt 15 (zd DX7_isItem 4 rfl) rfl (fun q2 => ?_) (fun q2 => ?_)
  · refine tz_iconst (0 : Int32) zk_iconst_0 (zd DX7_isItem 7 rfl) ?_
    exact tz_zret0 rfl (zd DX7_isItem 8 rfl)
  refine tz_iconst (1 : Int32) zk_iconst_1 (zd DX7_isItem 5 rfl) ?_
  refine tz_goto 16 (zd DX7_isItem 6 rfl) rfl ?_
  exact tz_zret1 rfl (zd DX7_isItem 8 rfl)
def QX7_tell___ : List (Nat × Instr × Nat) := [(0, .aload_n 0, 1), (1, .lload_n 1, 1), (2, .lload_n 3, 1), (3, .lload 5, 2), (5, .invokevirtual 88, 3), (8, .aload_n 0, 1), (9, .lload 7, 2), (11, .invokevirtual 259, 3), (14, .return_, 1)]
set_option maxRecDepth 100000 in
theorem DX7_tell___ : ∀ q ∈ QX7_tell___, decode cX7_tell___ q.1 = .ok (q.2.1, q.2.2) := by decide +kernel
abbrev MX7_tell___ : zM := (cX7_tell___, "EndSums", 9, none, { frames := 4, cells := 0, slots := 0, locals := 94 })
def fX7_tell___ (a1 : Int64) (a3 : Int64) (a5 : Int64) (a7 : Int64) (w : zW) : Option (Unit × zW) :=
  bd (fX7_tell__ a1 a3 a5 w) fun _ w1 =>
  bd (fX7_tellMore a7 w1) fun _ w4 =>
  some ((), w4)
theorem YX7_tell___ : zYV yX7_tell___ MX7_tell___ 4 := ⟨wk_429, wk_1, ⟨wk_428, ws_36⟩, ⟨by decide, by decide, by decide +kernel⟩, rfl, rfl⟩
set_option maxHeartbeats 4000000 in
set_option maxRecDepth 100000 in
theorem tX7_tell___ (a1 : Int64) (a3 : Int64) (a5 : Int64) (a7 : Int64) (w : zW) : Sm yX7_tell___ MX7_tell___ zn [.ref 0, .long a1, .long a3, .long a5, .long a7] w (fX7_tell___ a1 a3 a5 a7 w) := by
  refine Sm_of (lv0 := [(0, .ref 0), (1, .long a1), (3, .long a3), (5, .long a5), (7, .long a7)]) (by decide) rfl (fun _ => Nat.le_of_ble_eq_true rfl) rfl ?_
  unfold fX7_tell___
  refine tz_aload_n 0 rfl (zd DX7_tell___ 0 rfl) ?_
  refine tz_lload_n 1 rfl (zd DX7_tell___ 1 rfl) ?_
  refine tz_lload_n 2 rfl (zd DX7_tell___ 2 rfl) ?_
  refine tz_lload 3 rfl (zd DX7_tell___ 3 rfl) ?_
  refine tz_cV_n kz7 (zs_0) rfl (rest := []) (YX7_tell__) wk_383 (tX7_tell__ a1 a3 a5 w) rfl rfl (Nat.le_of_ble_eq_true rfl) ⟨Nat.le_of_ble_eq_true rfl, Nat.le_of_ble_eq_true rfl⟩ (zd DX7_tell___ 4 rfl) (fun v3 w1 e2 => ?_)
  refine tz_aload_n 0 rfl (zd DX7_tell___ 5 rfl) ?_
  refine tz_lload 4 rfl (zd DX7_tell___ 6 rfl) ?_
  refine tz_cV_n kz7 (zs_0) rfl (rest := []) (YX7_tellMore) wk_395 (tX7_tellMore a7 w1) rfl rfl (Nat.le_of_ble_eq_true rfl) ⟨Nat.le_of_ble_eq_true rfl, Nat.le_of_ble_eq_true rfl⟩ (zd DX7_tell___ 7 rfl) (fun v6 w4 e5 => ?_)
  exact tz_vret rfl (zd DX7_tell___ 8 rfl)
def QX7_commutes : List (Nat × Instr × Nat) := [(0, .iload_n 1, 1), (1, .invokestatic 105, 3), (4, .ifCond .eq 10, 3), (7, .iload_n 2, 1), (8, .invokestatic 105, 3), (11, .ifCond .ne 5, 3), (14, .iconst (-1), 1), (15, .ireturn, 1), (16, .aload_n 0, 1), (17, .getfield 10, 3), (20, .iload_n 1, 1), (21, .invokevirtual 109, 3), (24, .aload_n 0, 1), (25, .getfield 10, 3), (28, .iload_n 2, 1), (29, .invokevirtual 113, 3), (32, .aload_n 0, 1), (33, .getfield 10, 3), (36, .getfield 116, 3), (39, .lstore_n 3, 1), (40, .aload_n 0, 1), (41, .getfield 10, 3), (44, .getfield 120, 3), (47, .lstore 5, 2), (49, .aload_n 0, 1), (50, .getfield 10, 3), (53, .iload_n 2, 1), (54, .invokevirtual 109, 3), (57, .aload_n 0, 1), (58, .getfield 10, 3), (61, .iload_n 1, 1), (62, .invokevirtual 113, 3), (65, .aload_n 0, 1), (66, .getfield 10, 3), (69, .lload_n 3, 1), (70, .lload 5, 2), (72, .invokevirtual 123, 3), (75, .istore 7, 2), (77, .aload_n 0, 1), (78, .lload_n 3, 1), (79, .lload 5, 2), (81, .aload_n 0, 1), (82, .getfield 10, 3), (85, .getfield 116, 3), (88, .aload_n 0, 1), (89, .getfield 10, 3), (92, .getfield 120, 3), (95, .invokevirtual 127, 3), (98, .iload 7, 2), (100, .ifCond .eq 7, 3), (103, .iconst 1, 1), (104, .goto 4, 3), (107, .iconst 0, 1), (108, .ireturn, 1)]
set_option maxRecDepth 100000 in
theorem DX7_commutes : ∀ q ∈ QX7_commutes, decode cX7_commutes q.1 = .ok (q.2.1, q.2.2) := by decide +kernel
abbrev MX7_commutes : zM := (cX7_commutes, "EndSums", 8, (some .int), { frames := 5, cells := 0, slots := 0, locals := 122 })
def fX7_commutes (a1 : Int32) (a2 : Int32) (w : zW) : Option (Int32 × zW) :=
  bd (fX7_isItem a1 w) fun b3 w1 =>
  if b3 = true then
    bd (fX7_isItem a2 w1) fun b7 w5 =>
    if b7 = true then
      bd (fX0_start a1 w5) fun _ w9 =>
      bd (fX0_follow a2 w9) fun _ w12 =>
      lt (zL w12 1 2) fun v15 =>
      lt (zL w12 1 3) fun v16 =>
      bd (fX0_start a2 w12) fun _ w17 =>
      bd (fX0_follow a1 w17) fun _ w20 =>
      bd (fX0_comesTo v15 v16 w20) fun b25 w23 =>
      lt (zb b25) fun v26 =>
      bd (fX7_tell___ v15 v16 (zL w23 1 2) (zL w23 1 3) w23) fun _ w27 =>
      if v26 = (0 : Int32) then
        some ((0 : Int32), w27)
      else
      some ((1 : Int32), w27)
    else
    some ((-1 : Int32), w5)
  else
  some ((-1 : Int32), w1)
theorem YX7_commutes : zYV yX7_commutes MX7_commutes 2 := ⟨wk_407, wk_1, ⟨wk_405, wk_406⟩, ⟨by decide, by decide, by decide +kernel⟩, rfl, rfl⟩
set_option maxHeartbeats 4000000 in
set_option maxRecDepth 100000 in
theorem tX7_commutes (a1 : Int32) (a2 : Int32) (w : zW) : Sm yX7_commutes MX7_commutes zi [.ref 0, .int a1, .int a2] w (fX7_commutes a1 a2 w) := by
  refine Sm_of (lv0 := [(0, .ref 0), (1, .int a1), (2, .int a2)]) (by decide) rfl (fun _ => Nat.le_of_ble_eq_true rfl) rfl ?_
  unfold fX7_commutes
  refine tz_iload_n 1 rfl (zd DX7_commutes 0 rfl) ?_
  refine tz_cS_z (rest := []) (YX7_isItem) wk_408 (tX7_isItem a1 w) rfl rfl (Nat.le_of_ble_eq_true rfl) ⟨Nat.le_of_ble_eq_true rfl, Nat.le_of_ble_eq_true rfl⟩ (zd DX7_commutes 1 rfl) (fun b3 w1 e2 => ?_)
  refine tz_bif_eq 14 (zd DX7_commutes 2 rfl) rfl (fun q4 => ?_) (fun q4 => ?_)
  · refine tz_iload_n 2 rfl (zd DX7_commutes 3 rfl) ?_
    refine tz_cS_z (rest := []) (YX7_isItem) wk_408 (tX7_isItem a2 w1) rfl rfl (Nat.le_of_ble_eq_true rfl) ⟨Nat.le_of_ble_eq_true rfl, Nat.le_of_ble_eq_true rfl⟩ (zd DX7_commutes 4 rfl) (fun b7 w5 e6 => ?_)
    refine tz_bif_ne 16 (zd DX7_commutes 5 rfl) rfl (fun q8 => ?_) (fun q8 => ?_)
    · refine tz_aload_n 0 rfl (zd DX7_commutes 8 rfl) ?_
      refine tz_getR 1 0 kz7 (zs_0) (by decide) (by decide) rfl wk_184 (zd DX7_commutes 9 rfl) ?_
      refine tz_iload_n 1 rfl (zd DX7_commutes 10 rfl) ?_
      refine tz_cVN_n kz0 (zs_1) rfl (rest := []) (YX0_start) wn_411 (tX0_start a1 w5) rfl rfl (Nat.le_of_ble_eq_true rfl) ⟨Nat.le_of_ble_eq_true rfl, Nat.le_of_ble_eq_true rfl⟩ (zd DX7_commutes 11 rfl) (fun v11 w9 e10 => ?_)
      refine tz_aload_n 0 rfl (zd DX7_commutes 12 rfl) ?_
      refine tz_getR 1 0 kz7 (zs_0) (by decide) (by decide) rfl wk_184 (zd DX7_commutes 13 rfl) ?_
      refine tz_iload_n 2 rfl (zd DX7_commutes 14 rfl) ?_
      refine tz_cVN_n kz0 (zs_1) rfl (rest := []) (YX0_follow) wn_417 (tX0_follow a2 w9) rfl rfl (Nat.le_of_ble_eq_true rfl) ⟨Nat.le_of_ble_eq_true rfl, Nat.le_of_ble_eq_true rfl⟩ (zd DX7_commutes 15 rfl) (fun v14 w12 e13 => ?_)
      refine tz_aload_n 0 rfl (zd DX7_commutes 16 rfl) ?_
      refine tz_getR 1 0 kz7 (zs_0) (by decide) (by decide) rfl wk_184 (zd DX7_commutes 17 rfl) ?_
      refine tz_getJN 2 kz0 (zs_1) (by decide) rfl wn_56 (zd DX7_commutes 18 rfl) ?_
      refine tz_ltl (fun v15 => ?_)
      refine tz_lstore_n [(3, .long v15), (0, .ref 0), (1, .int a1), (2, .int a2)] (Nat.le_of_ble_eq_true rfl) rfl (zd DX7_commutes 19 rfl) ?_
      refine tz_aload_n 1 rfl (zd DX7_commutes 20 rfl) ?_
      refine tz_getR 1 0 kz7 (zs_0) (by decide) (by decide) rfl wk_184 (zd DX7_commutes 21 rfl) ?_
      refine tz_getJN 3 kz0 (zs_1) (by decide) rfl wn_59 (zd DX7_commutes 22 rfl) ?_
      refine tz_ltl (fun v16 => ?_)
      refine tz_lstore [(5, .long v16), (3, .long v15), (0, .ref 0), (1, .int a1), (2, .int a2)] (Nat.le_of_ble_eq_true rfl) rfl (zd DX7_commutes 23 rfl) ?_
      refine tz_aload_n 2 rfl (zd DX7_commutes 24 rfl) ?_
      refine tz_getR 1 0 kz7 (zs_0) (by decide) (by decide) rfl wk_184 (zd DX7_commutes 25 rfl) ?_
      refine tz_iload_n 4 rfl (zd DX7_commutes 26 rfl) ?_
      refine tz_cVN_n kz0 (zs_1) rfl (rest := []) (YX0_start) wn_411 (tX0_start a2 w12) rfl rfl (Nat.le_of_ble_eq_true rfl) ⟨Nat.le_of_ble_eq_true rfl, Nat.le_of_ble_eq_true rfl⟩ (zd DX7_commutes 27 rfl) (fun v19 w17 e18 => ?_)
      refine tz_aload_n 2 rfl (zd DX7_commutes 28 rfl) ?_
      refine tz_getR 1 0 kz7 (zs_0) (by decide) (by decide) rfl wk_184 (zd DX7_commutes 29 rfl) ?_
      refine tz_iload_n 3 rfl (zd DX7_commutes 30 rfl) ?_
      refine tz_cVN_n kz0 (zs_1) rfl (rest := []) (YX0_follow) wn_417 (tX0_follow a1 w17) rfl rfl (Nat.le_of_ble_eq_true rfl) ⟨Nat.le_of_ble_eq_true rfl, Nat.le_of_ble_eq_true rfl⟩ (zd DX7_commutes 31 rfl) (fun v22 w20 e21 => ?_)
      refine tz_aload_n 2 rfl (zd DX7_commutes 32 rfl) ?_
      refine tz_getR 1 0 kz7 (zs_0) (by decide) (by decide) rfl wk_184 (zd DX7_commutes 33 rfl) ?_
      refine tz_lload_n 1 rfl (zd DX7_commutes 34 rfl) ?_
      refine tz_lload 0 rfl (zd DX7_commutes 35 rfl) ?_
      refine tz_cVN_z kz0 (zs_1) rfl (rest := []) (YX0_comesTo) wn_422 (tX0_comesTo v15 v16 w20) rfl rfl (Nat.le_of_ble_eq_true rfl) ⟨Nat.le_of_ble_eq_true rfl, Nat.le_of_ble_eq_true rfl⟩ (zd DX7_commutes 36 rfl) (fun b25 w23 e24 => ?_)
      refine tz_lti (fun v26 => ?_)
      refine tz_istore [(7, .int v26), (5, .long v16), (3, .long v15), (0, .ref 0), (1, .int a1), (2, .int a2)] (Nat.le_of_ble_eq_true rfl) rfl (zd DX7_commutes 37 rfl) ?_
      refine tz_aload_n 3 rfl (zd DX7_commutes 38 rfl) ?_
      refine tz_lload_n 2 rfl (zd DX7_commutes 39 rfl) ?_
      refine tz_lload 1 rfl (zd DX7_commutes 40 rfl) ?_
      refine tz_aload_n 3 rfl (zd DX7_commutes 41 rfl) ?_
      refine tz_getR 1 0 kz7 (zs_0) (by decide) (by decide) rfl wk_184 (zd DX7_commutes 42 rfl) ?_
      refine tz_getJN 2 kz0 (zs_1) (by decide) rfl wn_56 (zd DX7_commutes 43 rfl) ?_
      refine tz_aload_n 3 rfl (zd DX7_commutes 44 rfl) ?_
      refine tz_getR 1 0 kz7 (zs_0) (by decide) (by decide) rfl wk_184 (zd DX7_commutes 45 rfl) ?_
      refine tz_getJN 3 kz0 (zs_1) (by decide) rfl wn_59 (zd DX7_commutes 46 rfl) ?_
      refine tz_cV_n kz7 (zs_0) rfl (rest := []) (YX7_tell___) wk_426 (tX7_tell___ v15 v16 (zL w23 1 2) (zL w23 1 3) w23) rfl rfl (Nat.le_of_ble_eq_true rfl) ⟨Nat.le_of_ble_eq_true rfl, Nat.le_of_ble_eq_true rfl⟩ (zd DX7_commutes 47 rfl) (fun v29 w27 e28 => ?_)
      refine tz_iload 0 rfl (zd DX7_commutes 48 rfl) ?_
      refine tz_if_eq 107 (zd DX7_commutes 49 rfl) rfl (fun q30 => ?_) (fun q30 => ?_)
      · refine tz_iconst (0 : Int32) zk_iconst_0 (zd DX7_commutes 52 rfl) ?_
        exact tz_iret rfl (zd DX7_commutes 53 rfl)
      refine tz_iconst (1 : Int32) zk_iconst_1 (zd DX7_commutes 50 rfl) ?_
      refine tz_goto 108 (zd DX7_commutes 51 rfl) rfl ?_
      exact tz_iret rfl (zd DX7_commutes 53 rfl)
    refine tz_iconst (-1 : Int32) zk_iconst_m1 (zd DX7_commutes 6 rfl) ?_
    exact tz_iret rfl (zd DX7_commutes 7 rfl)
  refine tz_iconst (-1 : Int32) zk_iconst_m1 (zd DX7_commutes 6 rfl) ?_
  exact tz_iret rfl (zd DX7_commutes 7 rfl)
def QX7_powers : List (Nat × Instr × Nat) := [(0, .iload_n 1, 1), (1, .invokestatic 105, 3), (4, .ifCond .eq 13, 3), (7, .iload_n 2, 1), (8, .ifCond .lt 9, 3), (11, .iload_n 2, 1), (12, .ldc 130, 2), (14, .if_icmp .le 5, 3), (17, .iconst (-1), 1), (18, .ireturn, 1), (19, .aload_n 0, 1), (20, .getfield 10, 3), (23, .iload_n 1, 1), (24, .iload_n 2, 1), (25, .invokevirtual 131, 3), (28, .istore_n 3, 1), (29, .aload_n 0, 1), (30, .aload_n 0, 1), (31, .getfield 10, 3), (34, .getfield 116, 3), (37, .aload_n 0, 1), (38, .getfield 10, 3), (41, .getfield 120, 3), (44, .invokevirtual 135, 3), (47, .iload_n 3, 1), (48, .ireturn, 1)]
set_option maxRecDepth 100000 in
theorem DX7_powers : ∀ q ∈ QX7_powers, decode cX7_powers q.1 = .ok (q.2.1, q.2.2) := by decide +kernel
abbrev MX7_powers : zM := (cX7_powers, "EndSums", 4, (some .int), { frames := 4, cells := 0, slots := 0, locals := 106 })
def fX7_powers (a1 : Int32) (a2 : Int32) (w : zW) : Option (Int32 × zW) :=
  bd (fX7_isItem a1 w) fun b3 w1 =>
  if b3 = true then
    if a2 < (0 : Int32) then
      some ((-1 : Int32), w1)
    else
    if a2 ≤ (1000000000 : Int32) then
      bd (fX0_power a1 a2 w1) fun v9 w7 =>
      bd (fX7_tell_ (zL w7 1 2) (zL w7 1 3) w7) fun _ w10 =>
      some (v9, w10)
    else
    some ((-1 : Int32), w1)
  else
  some ((-1 : Int32), w1)
theorem YX7_powers : zYV yX7_powers MX7_powers 2 := ⟨wk_433, wk_1, ⟨wk_431, wk_432⟩, ⟨by decide, by decide, by decide +kernel⟩, rfl, rfl⟩
set_option maxHeartbeats 4000000 in
set_option maxRecDepth 100000 in
theorem tX7_powers (a1 : Int32) (a2 : Int32) (w : zW) : Sm yX7_powers MX7_powers zi [.ref 0, .int a1, .int a2] w (fX7_powers a1 a2 w) := by
  refine Sm_of (lv0 := [(0, .ref 0), (1, .int a1), (2, .int a2)]) (by decide) rfl (fun _ => Nat.le_of_ble_eq_true rfl) rfl ?_
  unfold fX7_powers
  refine tz_iload_n 1 rfl (zd DX7_powers 0 rfl) ?_
  refine tz_cS_z (rest := []) (YX7_isItem) wk_408 (tX7_isItem a1 w) rfl rfl (Nat.le_of_ble_eq_true rfl) ⟨Nat.le_of_ble_eq_true rfl, Nat.le_of_ble_eq_true rfl⟩ (zd DX7_powers 1 rfl) (fun b3 w1 e2 => ?_)
  refine tz_bif_eq 17 (zd DX7_powers 2 rfl) rfl (fun q4 => ?_) (fun q4 => ?_)
  · refine tz_iload_n 2 rfl (zd DX7_powers 3 rfl) ?_
    refine tz_if_lt 17 (zd DX7_powers 4 rfl) rfl (fun q5 => ?_) (fun q5 => ?_)
    · refine tz_iconst (-1 : Int32) zk_iconst_m1 (zd DX7_powers 8 rfl) ?_
      exact tz_iret rfl (zd DX7_powers 9 rfl)
    refine tz_iload_n 2 rfl (zd DX7_powers 5 rfl) ?_
    refine tz_ldc wk_434 (zd DX7_powers 6 rfl) ?_
    refine tz_icmp_le 19 (zd DX7_powers 7 rfl) rfl (fun q6 => ?_) (fun q6 => ?_)
    · refine tz_aload_n 0 rfl (zd DX7_powers 10 rfl) ?_
      refine tz_getR 1 0 kz7 (zs_0) (by decide) (by decide) rfl wk_184 (zd DX7_powers 11 rfl) ?_
      refine tz_iload_n 1 rfl (zd DX7_powers 12 rfl) ?_
      refine tz_iload_n 2 rfl (zd DX7_powers 13 rfl) ?_
      refine tz_cVN_i kz0 (zs_1) rfl (rest := []) (YX0_power) wn_435 (tX0_power a1 a2 w1) rfl rfl (Nat.le_of_ble_eq_true rfl) ⟨Nat.le_of_ble_eq_true rfl, Nat.le_of_ble_eq_true rfl⟩ (zd DX7_powers 14 rfl) (fun v9 w7 e8 => ?_)
      refine tz_istore_n [(3, .int v9), (0, .ref 0), (1, .int a1), (2, .int a2)] (Nat.le_of_ble_eq_true rfl) rfl (zd DX7_powers 15 rfl) ?_
      refine tz_aload_n 1 rfl (zd DX7_powers 16 rfl) ?_
      refine tz_aload_n 1 rfl (zd DX7_powers 17 rfl) ?_
      refine tz_getR 1 0 kz7 (zs_0) (by decide) (by decide) rfl wk_184 (zd DX7_powers 18 rfl) ?_
      refine tz_getJN 2 kz0 (zs_1) (by decide) rfl wn_56 (zd DX7_powers 19 rfl) ?_
      refine tz_aload_n 1 rfl (zd DX7_powers 20 rfl) ?_
      refine tz_getR 1 0 kz7 (zs_0) (by decide) (by decide) rfl wk_184 (zd DX7_powers 21 rfl) ?_
      refine tz_getJN 3 kz0 (zs_1) (by decide) rfl wn_59 (zd DX7_powers 22 rfl) ?_
      refine tz_cV_n kz7 (zs_0) rfl (rest := []) (YX7_tell_) wk_387 (tX7_tell_ (zL w7 1 2) (zL w7 1 3) w7) rfl rfl (Nat.le_of_ble_eq_true rfl) ⟨Nat.le_of_ble_eq_true rfl, Nat.le_of_ble_eq_true rfl⟩ (zd DX7_powers 23 rfl) (fun v12 w10 e11 => ?_)
      refine tz_iload_n 0 rfl (zd DX7_powers 24 rfl) ?_
      exact tz_iret rfl (zd DX7_powers 25 rfl)
    refine tz_iconst (-1 : Int32) zk_iconst_m1 (zd DX7_powers 8 rfl) ?_
    exact tz_iret rfl (zd DX7_powers 9 rfl)
  refine tz_iconst (-1 : Int32) zk_iconst_m1 (zd DX7_powers 8 rfl) ?_
  exact tz_iret rfl (zd DX7_powers 9 rfl)
def QX7_keepSum : List (Nat × Instr × Nat) := [(0, .aload_n 0, 1), (1, .getfield 61, 3), (4, .iload_n 1, 1), (5, .aload_n 0, 1), (6, .getfield 10, 3), (9, .getfield 116, 3), (12, .invokestatic 327, 3), (15, .aload_n 0, 1), (16, .getfield 64, 3), (19, .iload_n 1, 1), (20, .aload_n 0, 1), (21, .getfield 10, 3), (24, .getfield 120, 3), (27, .invokestatic 327, 3), (30, .return_, 1)]
set_option maxRecDepth 100000 in
theorem DX7_keepSum : ∀ q ∈ QX7_keepSum, decode cX7_keepSum q.1 = .ok (q.2.1, q.2.2) := by decide +kernel
abbrev MX7_keepSum : zM := (cX7_keepSum, "EndSums", 2, none, { frames := 1, cells := 0, slots := 0, locals := 23 })
def fX7_keepSum (a1 : Int32) (w : zW) : Option (Unit × zW) :=
  bd (fX7_set_ 72 a1 (zL w 1 2) w) fun _ w1 =>
  bd (fX7_set_ 73 a1 (zL w1 1 3) w1) fun _ w4 =>
  some ((), w4)
theorem YX7_keepSum : zYV yX7_keepSum MX7_keepSum 1 := ⟨wk_455, wk_1, ⟨wk_454, ws_39⟩, ⟨by decide, by decide, by decide +kernel⟩, rfl, rfl⟩
set_option maxHeartbeats 4000000 in
set_option maxRecDepth 100000 in
theorem tX7_keepSum (a1 : Int32) (w : zW) : Sm yX7_keepSum MX7_keepSum zn [.ref 0, .int a1] w (fX7_keepSum a1 w) := by
  refine Sm_of (lv0 := [(0, .ref 0), (1, .int a1)]) (by decide) rfl (fun _ => Nat.le_of_ble_eq_true rfl) rfl ?_
  unfold fX7_keepSum
  refine tz_aload_n 0 rfl (zd DX7_keepSum 0 rfl) ?_
  refine tz_getR 72 9 kz7 (zs_0) (by decide) (by decide) rfl wk_193 (zd DX7_keepSum 1 rfl) ?_
  refine tz_iload_n 1 rfl (zd DX7_keepSum 2 rfl) ?_
  refine tz_aload_n 0 rfl (zd DX7_keepSum 3 rfl) ?_
  refine tz_getR 1 0 kz7 (zs_0) (by decide) (by decide) rfl wk_184 (zd DX7_keepSum 4 rfl) ?_
  refine tz_getJN 2 kz0 (zs_1) (by decide) rfl wn_56 (zd DX7_keepSum 5 rfl) ?_
  refine tz_cS_n (rest := []) (YX7_set_) wk_456 (tX7_set_ 72 (zs_72.1) a1 (zL w 1 2) w) rfl rfl (Nat.le_of_ble_eq_true rfl) ⟨Nat.le_of_ble_eq_true rfl, Nat.le_of_ble_eq_true rfl⟩ (zd DX7_keepSum 6 rfl) (fun v3 w1 e2 => ?_)
  refine tz_aload_n 0 rfl (zd DX7_keepSum 7 rfl) ?_
  refine tz_getR 73 10 kz7 (zs_0) (by decide) (by decide) rfl wk_194 (zd DX7_keepSum 8 rfl) ?_
  refine tz_iload_n 1 rfl (zd DX7_keepSum 9 rfl) ?_
  refine tz_aload_n 0 rfl (zd DX7_keepSum 10 rfl) ?_
  refine tz_getR 1 0 kz7 (zs_0) (by decide) (by decide) rfl wk_184 (zd DX7_keepSum 11 rfl) ?_
  refine tz_getJN 3 kz0 (zs_1) (by decide) rfl wn_59 (zd DX7_keepSum 12 rfl) ?_
  refine tz_cS_n (rest := []) (YX7_set_) wk_456 (tX7_set_ 73 (zs_73.1) a1 (zL w1 1 3) w1) rfl rfl (Nat.le_of_ble_eq_true rfl) ⟨Nat.le_of_ble_eq_true rfl, Nat.le_of_ble_eq_true rfl⟩ (zd DX7_keepSum 13 rfl) (fun v6 w4 e5 => ?_)
  exact tz_vret rfl (zd DX7_keepSum 14 rfl)
def QX7_sumIsJust : List (Nat × Instr × Nat) := [(0, .aload_n 0, 1), (1, .getfield 61, 3), (4, .iload_n 1, 1), (5, .invokestatic 249, 3), (8, .lload_n 2, 1), (9, .lcmp, 1), (10, .ifCond .ne 21, 3), (13, .aload_n 0, 1), (14, .getfield 64, 3), (17, .iload_n 1, 1), (18, .invokestatic 249, 3), (21, .lload 4, 2), (23, .lcmp, 1), (24, .ifCond .ne 7, 3), (27, .iconst 1, 1), (28, .goto 4, 3), (31, .iconst 0, 1), (32, .ireturn, 1)]
set_option maxRecDepth 100000 in
theorem DX7_sumIsJust : ∀ q ∈ QX7_sumIsJust, decode cX7_sumIsJust q.1 = .ok (q.2.1, q.2.2) := by decide +kernel
abbrev MX7_sumIsJust : zM := (cX7_sumIsJust, "EndSums", 6, (some .boolean), { frames := 1, cells := 0, slots := 0, locals := 21 })
def fX7_sumIsJust (a1 : Int32) (a2 : Int64) (a4 : Int64) (w : zW) : Option (Bool × zW) :=
  bd (fX7_at_ 72 a1 w) fun v3 w1 =>
  if ¬ v3 = a2 then
    some (false, w1)
  else
  bd (fX7_at_ 73 a1 w1) fun v7 w5 =>
  if ¬ v7 = a4 then
    some (false, w5)
  else
  some (true, w5)
theorem YX7_sumIsJust : zYV yX7_sumIsJust MX7_sumIsJust 3 := ⟨wk_465, wk_1, ⟨wk_464, ws_41⟩, ⟨by decide, by decide, by decide +kernel⟩, rfl, rfl⟩
set_option maxHeartbeats 4000000 in
set_option maxRecDepth 100000 in
theorem tX7_sumIsJust (a1 : Int32) (a2 : Int64) (a4 : Int64) (w : zW) : Sm yX7_sumIsJust MX7_sumIsJust zz [.ref 0, .int a1, .long a2, .long a4] w (fX7_sumIsJust a1 a2 a4 w) := by
  refine Sm_of (lv0 := [(0, .ref 0), (1, .int a1), (2, .long a2), (4, .long a4)]) (by decide) rfl (fun _ => Nat.le_of_ble_eq_true rfl) rfl ?_
  unfold fX7_sumIsJust
  refine tz_aload_n 0 rfl (zd DX7_sumIsJust 0 rfl) ?_
  refine tz_getR 72 9 kz7 (zs_0) (by decide) (by decide) rfl wk_193 (zd DX7_sumIsJust 1 rfl) ?_
  refine tz_iload_n 1 rfl (zd DX7_sumIsJust 2 rfl) ?_
  refine tz_cS_l (rest := []) (YX7_at_) wk_461 (tX7_at_ 72 (zs_72.1) a1 w) rfl rfl (Nat.le_of_ble_eq_true rfl) ⟨Nat.le_of_ble_eq_true rfl, Nat.le_of_ble_eq_true rfl⟩ (zd DX7_sumIsJust 3 rfl) (fun v3 w1 e2 => ?_)
  refine tz_lload_n 2 rfl (zd DX7_sumIsJust 4 rfl) ?_
  refine tz_lcmp_ne 31 (zd DX7_sumIsJust 5 rfl) (zd DX7_sumIsJust 6 rfl) rfl (fun q4 => ?_) (fun q4 => ?_)
  · refine tz_iconst (0 : Int32) zk_iconst_0 (zd DX7_sumIsJust 16 rfl) ?_
    exact tz_zret0 rfl (zd DX7_sumIsJust 17 rfl)
  refine tz_aload_n 0 rfl (zd DX7_sumIsJust 7 rfl) ?_
  refine tz_getR 73 10 kz7 (zs_0) (by decide) (by decide) rfl wk_194 (zd DX7_sumIsJust 8 rfl) ?_
  refine tz_iload_n 1 rfl (zd DX7_sumIsJust 9 rfl) ?_
  refine tz_cS_l (rest := []) (YX7_at_) wk_461 (tX7_at_ 73 (zs_73.1) a1 w1) rfl rfl (Nat.le_of_ble_eq_true rfl) ⟨Nat.le_of_ble_eq_true rfl, Nat.le_of_ble_eq_true rfl⟩ (zd DX7_sumIsJust 10 rfl) (fun v7 w5 e6 => ?_)
  refine tz_lload 3 rfl (zd DX7_sumIsJust 11 rfl) ?_
  refine tz_lcmp_ne 31 (zd DX7_sumIsJust 12 rfl) (zd DX7_sumIsJust 13 rfl) rfl (fun q8 => ?_) (fun q8 => ?_)
  · refine tz_iconst (0 : Int32) zk_iconst_0 (zd DX7_sumIsJust 16 rfl) ?_
    exact tz_zret0 rfl (zd DX7_sumIsJust 17 rfl)
  refine tz_iconst (1 : Int32) zk_iconst_1 (zd DX7_sumIsJust 14 rfl) ?_
  refine tz_goto 32 (zd DX7_sumIsJust 15 rfl) rfl ?_
  exact tz_zret1 rfl (zd DX7_sumIsJust 17 rfl)
def QX7_firstSumLike : List (Nat × Instr × Nat) := [(0, .iconst 1, 1), (1, .istore_n 2, 1), (2, .iload_n 2, 1), (3, .iload_n 1, 1), (4, .if_icmp .ge 35, 3), (7, .aload_n 0, 1), (8, .iload_n 2, 1), (9, .aload_n 0, 1), (10, .getfield 61, 3), (13, .iload_n 1, 1), (14, .invokestatic 249, 3), (17, .aload_n 0, 1), (18, .getfield 64, 3), (21, .iload_n 1, 1), (22, .invokestatic 249, 3), (25, .invokevirtual 334, 3), (28, .ifCond .eq 5, 3), (31, .iload_n 2, 1), (32, .ireturn, 1), (33, .iinc 2 1, 3), (36, .goto (-34), 3), (39, .iload_n 1, 1), (40, .ireturn, 1)]
set_option maxRecDepth 100000 in
theorem DX7_firstSumLike : ∀ q ∈ QX7_firstSumLike, decode cX7_firstSumLike q.1 = .ok (q.2.1, q.2.2) := by decide +kernel
abbrev MX7_firstSumLike : zM := (cX7_firstSumLike, "EndSums", 3, (some .int), { frames := 2, cells := 0, slots := 0, locals := 46 })
def fX7_firstSumLike_L2 (x1 : Int32) : Nat → Int32 → zW → Option (Int32 × zW)
  | 0, _, _ => none
  | n + 1, x2, w =>
    if x1 ≤ x2 then
      some (x1, w)
    else
    bd (fX7_at_ 72 x1 w) fun v4 w2 =>
    bd (fX7_at_ 73 x1 w2) fun v7 w5 =>
    bd (fX7_sumIsJust x2 v4 v7 w5) fun b10 w8 =>
    if b10 = true then
      some (x2, w8)
    else
    fX7_firstSumLike_L2 x1 n (x2 + (1 : Int32)) w8
def fX7_firstSumLike (a1 : Int32) (w : zW) : Option (Int32 × zW) :=
  fX7_firstSumLike_L2 a1 zFU (1 : Int32) w
theorem YX7_firstSumLike : zYV yX7_firstSumLike MX7_firstSumLike 1 := ⟨wk_460, wk_1, ⟨wk_459, ws_40⟩, ⟨by decide, by decide, by decide +kernel⟩, rfl, rfl⟩
set_option maxHeartbeats 4000000 in
set_option maxRecDepth 100000 in
theorem lX7_firstSumLike_L2 (x1 : Int32) : ∀ (n : Nat) (x2 : Int32) (w : zW), Tz MX7_firstSumLike (zRet zi) (fX7_firstSumLike_L2 x1 n x2 w) 2 [(0, .ref 0), (1, .int x1), (2, .int x2)] [] w := by
  intro n
  induction n with
  | zero => intro x2 w; exact tz_eq (fX7_firstSumLike_L2.eq_1 _ _ _) tz_none
  | succ n ih =>
    intro x2 w
    refine tz_eq (fX7_firstSumLike_L2.eq_2 _ _ _ _) ?_
    refine tz_iload_n 2 rfl (zd DX7_firstSumLike 2 rfl) ?_
    refine tz_iload_n 1 rfl (zd DX7_firstSumLike 3 rfl) ?_
    refine tz_icmp_ge 39 (zd DX7_firstSumLike 4 rfl) rfl (fun q1 => ?_) (fun q1 => ?_)
    · refine tz_iload_n 1 rfl (zd DX7_firstSumLike 21 rfl) ?_
      exact tz_iret rfl (zd DX7_firstSumLike 22 rfl)
    refine tz_aload_n 0 rfl (zd DX7_firstSumLike 5 rfl) ?_
    refine tz_iload_n 2 rfl (zd DX7_firstSumLike 6 rfl) ?_
    refine tz_aload_n 0 rfl (zd DX7_firstSumLike 7 rfl) ?_
    refine tz_getR 72 9 kz7 (zs_0) (by decide) (by decide) rfl wk_193 (zd DX7_firstSumLike 8 rfl) ?_
    refine tz_iload_n 1 rfl (zd DX7_firstSumLike 9 rfl) ?_
    refine tz_cS_l (rest := [.int x2, .ref 0]) (YX7_at_) wk_461 (tX7_at_ 72 (zs_72.1) x1 w) rfl rfl (Nat.le_of_ble_eq_true rfl) ⟨Nat.le_of_ble_eq_true rfl, Nat.le_of_ble_eq_true rfl⟩ (zd DX7_firstSumLike 10 rfl) (fun v4 w2 e3 => ?_)
    refine tz_aload_n 0 rfl (zd DX7_firstSumLike 11 rfl) ?_
    refine tz_getR 73 10 kz7 (zs_0) (by decide) (by decide) rfl wk_194 (zd DX7_firstSumLike 12 rfl) ?_
    refine tz_iload_n 1 rfl (zd DX7_firstSumLike 13 rfl) ?_
    refine tz_cS_l (rest := [.long v4, .int x2, .ref 0]) (YX7_at_) wk_461 (tX7_at_ 73 (zs_73.1) x1 w2) rfl rfl (Nat.le_of_ble_eq_true rfl) ⟨Nat.le_of_ble_eq_true rfl, Nat.le_of_ble_eq_true rfl⟩ (zd DX7_firstSumLike 14 rfl) (fun v7 w5 e6 => ?_)
    refine tz_cV_z kz7 (zs_0) rfl (rest := []) (YX7_sumIsJust) wk_462 (tX7_sumIsJust x2 v4 v7 w5) rfl rfl (Nat.le_of_ble_eq_true rfl) ⟨Nat.le_of_ble_eq_true rfl, Nat.le_of_ble_eq_true rfl⟩ (zd DX7_firstSumLike 15 rfl) (fun b10 w8 e9 => ?_)
    refine tz_bif_eq 33 (zd DX7_firstSumLike 16 rfl) rfl (fun q11 => ?_) (fun q11 => ?_)
    · refine tz_iload_n 2 rfl (zd DX7_firstSumLike 17 rfl) ?_
      exact tz_iret rfl (zd DX7_firstSumLike 18 rfl)
    refine tz_iinc 2 (1 : Int32) [(2, .int (x2 + (1 : Int32))), (0, .ref 0), (1, .int x1)] rfl zk_iconst_1 (Nat.le_of_ble_eq_true rfl) rfl (zd DX7_firstSumLike 19 rfl) ?_
    refine tz_goto 2 (zd DX7_firstSumLike 20 rfl) rfl ?_
    refine tz_lv (lv2 := [(0, .ref 0), (1, .int x1), (2, .int (x2 + (1 : Int32)))]) [1, 2, 0] rfl ?_
    exact ih (x2 + (1 : Int32)) w8
set_option maxHeartbeats 4000000 in
set_option maxRecDepth 100000 in
theorem tX7_firstSumLike (a1 : Int32) (w : zW) : Sm yX7_firstSumLike MX7_firstSumLike zi [.ref 0, .int a1] w (fX7_firstSumLike a1 w) := by
  refine Sm_of (lv0 := [(0, .ref 0), (1, .int a1)]) (by decide) rfl (fun _ => Nat.le_of_ble_eq_true rfl) rfl ?_
  unfold fX7_firstSumLike
  refine tz_iconst (1 : Int32) zk_iconst_1 (zd DX7_firstSumLike 0 rfl) ?_
  refine tz_istore_n [(2, .int (1 : Int32)), (0, .ref 0), (1, .int a1)] (Nat.le_of_ble_eq_true rfl) rfl (zd DX7_firstSumLike 1 rfl) ?_
  refine tz_lv (lv2 := [(0, .ref 0), (1, .int a1), (2, .int (1 : Int32))]) [1, 2, 0] rfl ?_
  exact lX7_firstSumLike_L2 a1 zFU (1 : Int32) w
def QX7_order : List (Nat × Instr × Nat) := [(0, .iload_n 1, 1), (1, .invokestatic 105, 3), (4, .ifCond .ne 5, 3), (7, .iconst (-1), 1), (8, .ireturn, 1), (9, .aload_n 0, 1), (10, .getfield 10, 3), (13, .invokevirtual 138, 3), (16, .iconst 1, 1), (17, .istore_n 2, 1), (18, .iload_n 2, 1), (19, .sipush 128, 3), (22, .if_icmp .gt 41, 3), (25, .aload_n 0, 1), (26, .getfield 10, 3), (29, .iload_n 1, 1), (30, .invokevirtual 113, 3), (33, .aload_n 0, 1), (34, .iload_n 2, 1), (35, .invokevirtual 141, 3), (38, .aload_n 0, 1), (39, .iload_n 2, 1), (40, .invokevirtual 144, 3), (43, .istore_n 3, 1), (44, .iload_n 3, 1), (45, .iload_n 2, 1), (46, .if_icmp .ge 11, 3), (49, .aload_n 0, 1), (50, .iload_n 3, 1), (51, .i2l, 1), (52, .invokevirtual 148, 3), (55, .iload_n 2, 1), (56, .ireturn, 1), (57, .iinc 2 1, 3), (60, .goto (-42), 3), (63, .bipush (-2), 2), (65, .ireturn, 1)]
set_option maxRecDepth 100000 in
theorem DX7_order : ∀ q ∈ QX7_order, decode cX7_order q.1 = .ok (q.2.1, q.2.2) := by decide +kernel
abbrev MX7_order : zM := (cX7_order, "EndSums", 4, (some .int), { frames := 3, cells := 0, slots := 0, locals := 81 })
def fX7_order_L18 (x1 : Int32) : Nat → Int32 → zW → Option (Int32 × zW)
  | 0, _, _ => none
  | n + 1, x2, w =>
    if (128 : Int32) < x2 then
      some ((-2 : Int32), w)
    else
    bd (fX0_follow x1 w) fun _ w9 =>
    bd (fX7_keepSum x2 w9) fun _ w12 =>
    bd (fX7_firstSumLike x2 w12) fun v17 w15 =>
    if x2 ≤ v17 then
      fX7_order_L18 x1 n (x2 + (1 : Int32)) w15
    else
    bd (fX7_tell (v17).toInt64 w15) fun _ w19 =>
    some (x2, w19)
def fX7_order (a1 : Int32) (w : zW) : Option (Int32 × zW) :=
  bd (fX7_isItem a1 w) fun b3 w1 =>
  if b3 = true then
    bd (fX0_startEmpty w1) fun _ w5 =>
    fX7_order_L18 a1 zFU (1 : Int32) w5
  else
  some ((-1 : Int32), w1)
theorem YX7_order : zYV yX7_order MX7_order 1 := ⟨wk_450, wk_1, ⟨wk_448, wk_449⟩, ⟨by decide, by decide, by decide +kernel⟩, rfl, rfl⟩
set_option maxHeartbeats 4000000 in
set_option maxRecDepth 100000 in
theorem lX7_order_L18 (x1 : Int32) : ∀ (n : Nat) (x2 : Int32) (w : zW), Tz MX7_order (zRet zi) (fX7_order_L18 x1 n x2 w) 18 [(0, .ref 0), (1, .int x1), (2, .int x2)] [] w := by
  intro n
  induction n with
  | zero => intro x2 w; exact tz_eq (fX7_order_L18.eq_1 _ _ _) tz_none
  | succ n ih =>
    intro x2 w
    refine tz_eq (fX7_order_L18.eq_2 _ _ _ _) ?_
    refine tz_iload_n 2 rfl (zd DX7_order 10 rfl) ?_
    refine tz_sipush (128 : Int32) zk_sipush_128 (zd DX7_order 11 rfl) ?_
    refine tz_icmp_gt 63 (zd DX7_order 12 rfl) rfl (fun q8 => ?_) (fun q8 => ?_)
    · refine tz_bipush (-2 : Int32) zk_bipush_m2 (zd DX7_order 35 rfl) ?_
      exact tz_iret rfl (zd DX7_order 36 rfl)
    refine tz_aload_n 0 rfl (zd DX7_order 13 rfl) ?_
    refine tz_getR 1 0 kz7 (zs_0) (by decide) (by decide) rfl wk_184 (zd DX7_order 14 rfl) ?_
    refine tz_iload_n 1 rfl (zd DX7_order 15 rfl) ?_
    refine tz_cVN_n kz0 (zs_1) rfl (rest := []) (YX0_follow) wn_417 (tX0_follow x1 w) rfl rfl (Nat.le_of_ble_eq_true rfl) ⟨Nat.le_of_ble_eq_true rfl, Nat.le_of_ble_eq_true rfl⟩ (zd DX7_order 16 rfl) (fun v11 w9 e10 => ?_)
    refine tz_aload_n 0 rfl (zd DX7_order 17 rfl) ?_
    refine tz_iload_n 2 rfl (zd DX7_order 18 rfl) ?_
    refine tz_cV_n kz7 (zs_0) rfl (rest := []) (YX7_keepSum) wk_452 (tX7_keepSum x2 w9) rfl rfl (Nat.le_of_ble_eq_true rfl) ⟨Nat.le_of_ble_eq_true rfl, Nat.le_of_ble_eq_true rfl⟩ (zd DX7_order 19 rfl) (fun v14 w12 e13 => ?_)
    refine tz_aload_n 0 rfl (zd DX7_order 20 rfl) ?_
    refine tz_iload_n 2 rfl (zd DX7_order 21 rfl) ?_
    refine tz_cV_i kz7 (zs_0) rfl (rest := []) (YX7_firstSumLike) wk_457 (tX7_firstSumLike x2 w12) rfl rfl (Nat.le_of_ble_eq_true rfl) ⟨Nat.le_of_ble_eq_true rfl, Nat.le_of_ble_eq_true rfl⟩ (zd DX7_order 22 rfl) (fun v17 w15 e16 => ?_)
    refine tz_istore_n [(3, .int v17), (0, .ref 0), (1, .int x1), (2, .int x2)] (Nat.le_of_ble_eq_true rfl) rfl (zd DX7_order 23 rfl) ?_
    refine tz_iload_n 0 rfl (zd DX7_order 24 rfl) ?_
    refine tz_iload_n 3 rfl (zd DX7_order 25 rfl) ?_
    refine tz_icmp_ge 57 (zd DX7_order 26 rfl) rfl (fun q18 => ?_) (fun q18 => ?_)
    · refine tz_iinc 3 (1 : Int32) [(2, .int (x2 + (1 : Int32))), (3, .int v17), (0, .ref 0), (1, .int x1)] rfl zk_iconst_1 (Nat.le_of_ble_eq_true rfl) rfl (zd DX7_order 33 rfl) ?_
      refine tz_goto 18 (zd DX7_order 34 rfl) rfl ?_
      refine tz_lv (lv2 := [(0, .ref 0), (1, .int x1), (2, .int (x2 + (1 : Int32)))]) [2, 3, 0] rfl ?_
      exact ih (x2 + (1 : Int32)) w15
    refine tz_aload_n 1 rfl (zd DX7_order 27 rfl) ?_
    refine tz_iload_n 0 rfl (zd DX7_order 28 rfl) ?_
    refine tz_i2l (zd DX7_order 29 rfl) ?_
    refine tz_cV_n kz7 (zs_0) rfl (rest := []) (YX7_tell) wk_391 (tX7_tell (v17).toInt64 w15) rfl rfl (Nat.le_of_ble_eq_true rfl) ⟨Nat.le_of_ble_eq_true rfl, Nat.le_of_ble_eq_true rfl⟩ (zd DX7_order 30 rfl) (fun v21 w19 e20 => ?_)
    refine tz_iload_n 3 rfl (zd DX7_order 31 rfl) ?_
    exact tz_iret rfl (zd DX7_order 32 rfl)
set_option maxHeartbeats 4000000 in
set_option maxRecDepth 100000 in
theorem tX7_order (a1 : Int32) (w : zW) : Sm yX7_order MX7_order zi [.ref 0, .int a1] w (fX7_order a1 w) := by
  refine Sm_of (lv0 := [(0, .ref 0), (1, .int a1)]) (by decide) rfl (fun _ => Nat.le_of_ble_eq_true rfl) rfl ?_
  unfold fX7_order
  refine tz_iload_n 1 rfl (zd DX7_order 0 rfl) ?_
  refine tz_cS_z (rest := []) (YX7_isItem) wk_408 (tX7_isItem a1 w) rfl rfl (Nat.le_of_ble_eq_true rfl) ⟨Nat.le_of_ble_eq_true rfl, Nat.le_of_ble_eq_true rfl⟩ (zd DX7_order 1 rfl) (fun b3 w1 e2 => ?_)
  refine tz_bif_ne 9 (zd DX7_order 2 rfl) rfl (fun q4 => ?_) (fun q4 => ?_)
  · refine tz_aload_n 0 rfl (zd DX7_order 5 rfl) ?_
    refine tz_getR 1 0 kz7 (zs_0) (by decide) (by decide) rfl wk_184 (zd DX7_order 6 rfl) ?_
    refine tz_cVN_n kz0 (zs_1) rfl (rest := []) (YX0_startEmpty) wn_451 (tX0_startEmpty w1) rfl rfl (Nat.le_of_ble_eq_true rfl) ⟨Nat.le_of_ble_eq_true rfl, Nat.le_of_ble_eq_true rfl⟩ (zd DX7_order 7 rfl) (fun v7 w5 e6 => ?_)
    refine tz_iconst (1 : Int32) zk_iconst_1 (zd DX7_order 8 rfl) ?_
    refine tz_istore_n [(2, .int (1 : Int32)), (0, .ref 0), (1, .int a1)] (Nat.le_of_ble_eq_true rfl) rfl (zd DX7_order 9 rfl) ?_
    refine tz_lv (lv2 := [(0, .ref 0), (1, .int a1), (2, .int (1 : Int32))]) [1, 2, 0] rfl ?_
    exact lX7_order_L18 a1 zFU (1 : Int32) w5
  refine tz_iconst (-1 : Int32) zk_iconst_m1 (zd DX7_order 3 rfl) ?_
  exact tz_iret rfl (zd DX7_order 4 rfl)
