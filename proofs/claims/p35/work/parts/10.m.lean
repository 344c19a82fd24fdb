def QX7_would : List (Nat × Instr × Nat) := [(0, .aload_n 0, 1), (1, .iload_n 1, 1), (2, .invokevirtual 158, 3), (5, .astore_n 3, 1), (6, .aload_n 3, 1), (7, .ifnull 10, 3), (10, .iload_n 2, 1), (11, .invokestatic 162, 3), (14, .ifCond .ne 5, 3), (17, .iconst (-1), 1), (18, .ireturn, 1), (19, .aload_n 3, 1), (20, .invokevirtual 165, 3), (23, .ifCond .ne 6, 3), (26, .bipush (-2), 2), (28, .ireturn, 1), (29, .aload_n 3, 1), (30, .getfield 209, 3), (33, .getfield 213, 3), (36, .aload_n 3, 1), (37, .invokevirtual 165, 3), (40, .iload_n 2, 1), (41, .invokestatic 302, 3), (44, .istore 4, 2), (46, .aload_n 0, 1), (47, .iload 4, 2), (49, .i2l, 1), (50, .aload_n 3, 1), (51, .invokevirtual 165, 3), (54, .iconst 1, 1), (55, .isub, 1), (56, .iload 4, 2), (58, .isub, 1), (59, .i2l, 1), (60, .invokevirtual 135, 3), (63, .aload_n 3, 1), (64, .getfield 209, 3), (67, .getfield 213, 3), (70, .aload_n 3, 1), (71, .invokevirtual 165, 3), (74, .iload_n 2, 1), (75, .invokestatic 306, 3), (78, .ireturn, 1)]
set_option maxRecDepth 100000 in
theorem DX7_would : ∀ q ∈ QX7_would, decode cX7_would q.1 = .ok (q.2.1, q.2.2) := by decide +kernel
abbrev MX7_would : zM := (cX7_would, "EndSums", 5, (some .int), { frames := 3, cells := 0, slots := 0, locals := 68 })
def fX7_would (a1 : Int32) (a2 : Int32) (w : zW) : Option (Int32 × zW) :=
  bd (fX7_lineAt a1 w) fun o3 w1 => oc o3 (
    some ((-1 : Int32), w1)) fun l4 =>
    bd (fX7_isEnd a2 w1) fun b7 w5 =>
    if b7 = true then
      bd (fX1_size l4 w5) fun v11 w9 =>
      if ¬ v11 = (0 : Int32) then
        bd (fX1_size l4 w9) fun v15 w13 =>
        bd (fX4_frontBehind (zI w9 (l4 + 1) 0) v15 a2 w13) fun v18 w16 =>
        bd (fX1_size l4 w16) fun v21 w19 =>
        bd (fX7_tell_ (v18).toInt64 ((v21 - (1 : Int32)) - v18).toInt64 w19) fun _ w22 =>
        bd (fX1_size l4 w22) fun v27 w25 =>
        bd (fX4_cost (zI w22 (l4 + 1) 0) v27 a2 w25) fun v30 w28 =>
        some (v30, w28)
      else
      some ((-2 : Int32), w9)
    else
    some ((-1 : Int32), w5)
theorem YX7_would : zYV yX7_would MX7_would 2 := ⟨wk_726, wk_1, ⟨wk_724, wk_725⟩, ⟨by decide, by decide, by decide +kernel⟩, rfl, rfl⟩
set_option maxHeartbeats 4000000 in
set_option maxRecDepth 100000 in
theorem tX7_would (a1 : Int32) (a2 : Int32) (w : zW) : Sm yX7_would MX7_would zi [.ref 0, .int a1, .int a2] w (fX7_would a1 a2 w) := by
  refine Sm_of (lv0 := [(0, .ref 0), (1, .int a1), (2, .int a2)]) (by decide) rfl (fun _ => Nat.le_of_ble_eq_true rfl) rfl ?_
  unfold fX7_would
  refine tz_aload_n 0 rfl (zd DX7_would 0 rfl) ?_
  refine tz_iload_n 1 rfl (zd DX7_would 1 rfl) ?_
  refine tz_cV_o kz7 (zs_0) rfl (rest := []) (YX7_lineAt) wk_226 (tX7_lineAt a1 w) rfl rfl (Nat.le_of_ble_eq_true rfl) ⟨Nat.le_of_ble_eq_true rfl, Nat.le_of_ble_eq_true rfl⟩ (zd DX7_would 2 rfl) (fun w1 e2 => ?_) (fun l4 w1 e2 => ?_)
  · refine tz_astore_nN [(3, .null), (0, .ref 0), (1, .int a1), (2, .int a2)] (Nat.le_of_ble_eq_true rfl) rfl (zd DX7_would 3 rfl) ?_
    refine tz_aload_nN 0 rfl (zd DX7_would 4 rfl) ?_
    refine tz_ifnullN 17 (zd DX7_would 5 rfl) rfl ?_
    refine tz_iconst (-1 : Int32) zk_iconst_m1 (zd DX7_would 9 rfl) ?_
    exact tz_iret rfl (zd DX7_would 10 rfl)
  refine tz_astore_n [(3, .ref l4), (0, .ref 0), (1, .int a1), (2, .int a2)] (Nat.le_of_ble_eq_true rfl) rfl (zd DX7_would 3 rfl) ?_
  refine tz_aload_n 0 rfl (zd DX7_would 4 rfl) ?_
  refine tz_ifnull (zd DX7_would 5 rfl) ?_
  refine tz_iload_n 3 rfl (zd DX7_would 6 rfl) ?_
  refine tz_cS_z (rest := []) (YX7_isEnd) wk_483 (tX7_isEnd a2 w1) rfl rfl (Nat.le_of_ble_eq_true rfl) ⟨Nat.le_of_ble_eq_true rfl, Nat.le_of_ble_eq_true rfl⟩ (zd DX7_would 7 rfl) (fun b7 w5 e6 => ?_)
  refine tz_bif_ne 19 (zd DX7_would 8 rfl) rfl (fun q8 => ?_) (fun q8 => ?_)
  · refine tz_aload_n 0 rfl (zd DX7_would 11 rfl) ?_
    refine tz_cVN_i kz1 (fX7_lineAt_c e2) rfl (rest := []) (YX1_size) wn_486 (tX1_size l4 (fX7_lineAt_c e2) w5) rfl rfl (Nat.le_of_ble_eq_true rfl) ⟨Nat.le_of_ble_eq_true rfl, Nat.le_of_ble_eq_true rfl⟩ (zd DX7_would 12 rfl) (fun v11 w9 e10 => ?_)
    refine tz_if_ne 29 (zd DX7_would 13 rfl) rfl (fun q12 => ?_) (fun q12 => ?_)
    · refine tz_aload_n 0 rfl (zd DX7_would 16 rfl) ?_
      refine tz_getRN (l4 + 1) 0 kz1 (fX7_lineAt_c e2) (by decide) (by decide) ((zf1_0 (fX7_lineAt_c e2)).1) wn_132 (zd DX7_would 17 rfl) ?_
      refine tz_getIN 0 kz2 ((zf1_0 (w := w9) (fX7_lineAt_c e2)).2) (by decide) rfl wn_106 (zd DX7_would 18 rfl) ?_
      refine tz_aload_n 0 rfl (zd DX7_would 19 rfl) ?_
      refine tz_cVN_i kz1 (fX7_lineAt_c e2) rfl (rest := [.int (zI w9 (l4 + 1) 0)]) (YX1_size) wn_486 (tX1_size l4 (fX7_lineAt_c e2) w9) rfl rfl (Nat.le_of_ble_eq_true rfl) ⟨Nat.le_of_ble_eq_true rfl, Nat.le_of_ble_eq_true rfl⟩ (zd DX7_would 20 rfl) (fun v15 w13 e14 => ?_)
      refine tz_iload_n 3 rfl (zd DX7_would 21 rfl) ?_
      refine tz_cSN_i (rest := []) (YX4_frontBehind) wn_727 (tX4_frontBehind (zI w9 (l4 + 1) 0) v15 a2 w13) rfl rfl (Nat.le_of_ble_eq_true rfl) ⟨Nat.le_of_ble_eq_true rfl, Nat.le_of_ble_eq_true rfl⟩ (zd DX7_would 22 rfl) (fun v18 w16 e17 => ?_)
      refine tz_istore [(4, .int v18), (3, .ref l4), (0, .ref 0), (1, .int a1), (2, .int a2)] (Nat.le_of_ble_eq_true rfl) rfl (zd DX7_would 23 rfl) ?_
      refine tz_aload_n 2 rfl (zd DX7_would 24 rfl) ?_
      refine tz_iload 0 rfl (zd DX7_would 25 rfl) ?_
      refine tz_i2l (zd DX7_would 26 rfl) ?_
      refine tz_aload_n 1 rfl (zd DX7_would 27 rfl) ?_
      refine tz_cVN_i kz1 (fX7_lineAt_c e2) rfl (rest := [.long (v18).toInt64, .ref 0]) (YX1_size) wn_486 (tX1_size l4 (fX7_lineAt_c e2) w16) rfl rfl (Nat.le_of_ble_eq_true rfl) ⟨Nat.le_of_ble_eq_true rfl, Nat.le_of_ble_eq_true rfl⟩ (zd DX7_would 28 rfl) (fun v21 w19 e20 => ?_)
      refine tz_iconst (1 : Int32) zk_iconst_1 (zd DX7_would 29 rfl) ?_
      refine tz_isub (zd DX7_would 30 rfl) ?_
      refine tz_iload 0 rfl (zd DX7_would 31 rfl) ?_
      refine tz_isub (zd DX7_would 32 rfl) ?_
      refine tz_i2l (zd DX7_would 33 rfl) ?_
      refine tz_cV_n kz7 (zs_0) rfl (rest := []) (YX7_tell_) wk_387 (tX7_tell_ (v18).toInt64 ((v21 - (1 : Int32)) - v18).toInt64 w19) rfl rfl (Nat.le_of_ble_eq_true rfl) ⟨Nat.le_of_ble_eq_true rfl, Nat.le_of_ble_eq_true rfl⟩ (zd DX7_would 34 rfl) (fun v24 w22 e23 => ?_)
      refine tz_aload_n 1 rfl (zd DX7_would 35 rfl) ?_
      refine tz_getRN (l4 + 1) 0 kz1 (fX7_lineAt_c e2) (by decide) (by decide) ((zf1_0 (fX7_lineAt_c e2)).1) wn_132 (zd DX7_would 36 rfl) ?_
      refine tz_getIN 0 kz2 ((zf1_0 (w := w22) (fX7_lineAt_c e2)).2) (by decide) rfl wn_106 (zd DX7_would 37 rfl) ?_
      refine tz_aload_n 1 rfl (zd DX7_would 38 rfl) ?_
      refine tz_cVN_i kz1 (fX7_lineAt_c e2) rfl (rest := [.int (zI w22 (l4 + 1) 0)]) (YX1_size) wn_486 (tX1_size l4 (fX7_lineAt_c e2) w22) rfl rfl (Nat.le_of_ble_eq_true rfl) ⟨Nat.le_of_ble_eq_true rfl, Nat.le_of_ble_eq_true rfl⟩ (zd DX7_would 39 rfl) (fun v27 w25 e26 => ?_)
      refine tz_iload_n 4 rfl (zd DX7_would 40 rfl) ?_
      refine tz_cSN_i (rest := []) (YX4_cost) wn_728 (tX4_cost (zI w22 (l4 + 1) 0) v27 a2 w25) rfl rfl (Nat.le_of_ble_eq_true rfl) ⟨Nat.le_of_ble_eq_true rfl, Nat.le_of_ble_eq_true rfl⟩ (zd DX7_would 41 rfl) (fun v30 w28 e29 => ?_)
      exact tz_iret rfl (zd DX7_would 42 rfl)
    refine tz_bipush (-2 : Int32) zk_bipush_m2 (zd DX7_would 14 rfl) ?_
    exact tz_iret rfl (zd DX7_would 15 rfl)
  refine tz_iconst (-1 : Int32) zk_iconst_m1 (zd DX7_would 9 rfl) ?_
  exact tz_iret rfl (zd DX7_would 10 rfl)
def QX7_dearest : List (Nat × Instr × Nat) := [(0, .aload_n 0, 1), (1, .iload_n 1, 1), (2, .invokevirtual 158, 3), (5, .astore_n 3, 1), (6, .aload_n 3, 1), (7, .ifnull 14, 3), (10, .iload_n 2, 1), (11, .iconst 1, 1), (12, .if_icmp .lt 9, 3), (15, .iload_n 2, 1), (16, .bipush 12, 2), (18, .if_icmp .le 5, 3), (21, .iconst (-1), 1), (22, .ireturn, 1), (23, .aload_n 3, 1), (24, .invokevirtual 165, 3), (27, .iload_n 2, 1), (28, .if_icmp .ge 6, 3), (31, .bipush (-2), 2), (33, .ireturn, 1), (34, .aload_n 0, 1), (35, .getfield 53, 3), (38, .aload_n 3, 1), (39, .getfield 209, 3), (42, .getfield 213, 3), (45, .aload_n 3, 1), (46, .invokevirtual 165, 3), (49, .iload_n 2, 1), (50, .invokevirtual 309, 3), (53, .aload_n 0, 1), (54, .aload_n 0, 1), (55, .getfield 53, 3), (58, .getfield 313, 3), (61, .i2l, 1), (62, .invokevirtual 148, 3), (65, .aload_n 0, 1), (66, .getfield 53, 3), (69, .getfield 316, 3), (72, .ireturn, 1)]
set_option maxRecDepth 100000 in
theorem DX7_dearest : ∀ q ∈ QX7_dearest, decode cX7_dearest q.1 = .ok (q.2.1, q.2.2) := by decide +kernel
abbrev MX7_dearest : zM := (cX7_dearest, "EndSums", 4, (some .int), { frames := 3, cells := 0, slots := 0, locals := 76 })
def fX7_dearest (a1 : Int32) (a2 : Int32) (w : zW) : Option (Int32 × zW) :=
  bd (fX7_lineAt a1 w) fun o3 w1 => oc o3 (
    some ((-1 : Int32), w1)) fun l4 =>
    if a2 < (1 : Int32) then
      some ((-1 : Int32), w1)
    else
    if a2 ≤ (12 : Int32) then
      bd (fX1_size l4 w1) fun v9 w7 =>
      if a2 ≤ v9 then
        bd (fX1_size l4 w7) fun v13 w11 =>
        bd (fX4_seek (zI w7 (l4 + 1) 0) v13 a2 w11) fun _ w14 =>
        bd (fX7_tell (zI w14 66 5).toInt64 w14) fun _ w17 =>
        some ((zI w17 66 4), w17)
      else
      some ((-2 : Int32), w7)
    else
    some ((-1 : Int32), w1)
theorem YX7_dearest : zYV yX7_dearest MX7_dearest 2 := ⟨wk_732, wk_1, ⟨wk_730, wk_731⟩, ⟨by decide, by decide, by decide +kernel⟩, rfl, rfl⟩
set_option maxHeartbeats 4000000 in
set_option maxRecDepth 100000 in
theorem tX7_dearest (a1 : Int32) (a2 : Int32) (w : zW) : Sm yX7_dearest MX7_dearest zi [.ref 0, .int a1, .int a2] w (fX7_dearest a1 a2 w) := by
  refine Sm_of (lv0 := [(0, .ref 0), (1, .int a1), (2, .int a2)]) (by decide) rfl (fun _ => Nat.le_of_ble_eq_true rfl) rfl ?_
  unfold fX7_dearest
  refine tz_aload_n 0 rfl (zd DX7_dearest 0 rfl) ?_
  refine tz_iload_n 1 rfl (zd DX7_dearest 1 rfl) ?_
  refine tz_cV_o kz7 (zs_0) rfl (rest := []) (YX7_lineAt) wk_226 (tX7_lineAt a1 w) rfl rfl (Nat.le_of_ble_eq_true rfl) ⟨Nat.le_of_ble_eq_true rfl, Nat.le_of_ble_eq_true rfl⟩ (zd DX7_dearest 2 rfl) (fun w1 e2 => ?_) (fun l4 w1 e2 => ?_)
  · refine tz_astore_nN [(3, .null), (0, .ref 0), (1, .int a1), (2, .int a2)] (Nat.le_of_ble_eq_true rfl) rfl (zd DX7_dearest 3 rfl) ?_
    refine tz_aload_nN 0 rfl (zd DX7_dearest 4 rfl) ?_
    refine tz_ifnullN 21 (zd DX7_dearest 5 rfl) rfl ?_
    refine tz_iconst (-1 : Int32) zk_iconst_m1 (zd DX7_dearest 12 rfl) ?_
    exact tz_iret rfl (zd DX7_dearest 13 rfl)
  refine tz_astore_n [(3, .ref l4), (0, .ref 0), (1, .int a1), (2, .int a2)] (Nat.le_of_ble_eq_true rfl) rfl (zd DX7_dearest 3 rfl) ?_
  refine tz_aload_n 0 rfl (zd DX7_dearest 4 rfl) ?_
  refine tz_ifnull (zd DX7_dearest 5 rfl) ?_
  refine tz_iload_n 3 rfl (zd DX7_dearest 6 rfl) ?_
  refine tz_iconst (1 : Int32) zk_iconst_1 (zd DX7_dearest 7 rfl) ?_
  refine tz_icmp_lt 21 (zd DX7_dearest 8 rfl) rfl (fun q5 => ?_) (fun q5 => ?_)
  · refine tz_iconst (-1 : Int32) zk_iconst_m1 (zd DX7_dearest 12 rfl) ?_
    exact tz_iret rfl (zd DX7_dearest 13 rfl)
  refine tz_iload_n 3 rfl (zd DX7_dearest 9 rfl) ?_
  refine tz_bipush (12 : Int32) zk_bipush_12 (zd DX7_dearest 10 rfl) ?_
  refine tz_icmp_le 23 (zd DX7_dearest 11 rfl) rfl (fun q6 => ?_) (fun q6 => ?_)
  · refine tz_aload_n 0 rfl (zd DX7_dearest 14 rfl) ?_
    refine tz_cVN_i kz1 (fX7_lineAt_c e2) rfl (rest := []) (YX1_size) wn_486 (tX1_size l4 (fX7_lineAt_c e2) w1) rfl rfl (Nat.le_of_ble_eq_true rfl) ⟨Nat.le_of_ble_eq_true rfl, Nat.le_of_ble_eq_true rfl⟩ (zd DX7_dearest 15 rfl) (fun v9 w7 e8 => ?_)
    refine tz_iload_n 3 rfl (zd DX7_dearest 16 rfl) ?_
    refine tz_icmp_ge 34 (zd DX7_dearest 17 rfl) rfl (fun q10 => ?_) (fun q10 => ?_)
    · refine tz_aload_n 1 rfl (zd DX7_dearest 20 rfl) ?_
      refine tz_getR 66 6 kz7 (zs_0) (by decide) (by decide) rfl wk_190 (zd DX7_dearest 21 rfl) ?_
      refine tz_aload_n 0 rfl (zd DX7_dearest 22 rfl) ?_
      refine tz_getRN (l4 + 1) 0 kz1 (fX7_lineAt_c e2) (by decide) (by decide) ((zf1_0 (fX7_lineAt_c e2)).1) wn_132 (zd DX7_dearest 23 rfl) ?_
      refine tz_getIN 0 kz2 ((zf1_0 (w := w7) (fX7_lineAt_c e2)).2) (by decide) rfl wn_106 (zd DX7_dearest 24 rfl) ?_
      refine tz_aload_n 0 rfl (zd DX7_dearest 25 rfl) ?_
      refine tz_cVN_i kz1 (fX7_lineAt_c e2) rfl (rest := [.int (zI w7 (l4 + 1) 0), .ref 66]) (YX1_size) wn_486 (tX1_size l4 (fX7_lineAt_c e2) w7) rfl rfl (Nat.le_of_ble_eq_true rfl) ⟨Nat.le_of_ble_eq_true rfl, Nat.le_of_ble_eq_true rfl⟩ (zd DX7_dearest 26 rfl) (fun v13 w11 e12 => ?_)
      refine tz_iload_n 3 rfl (zd DX7_dearest 27 rfl) ?_
      refine tz_cVN_n kz4 (zs_66) rfl (rest := []) (YX4_seek) wn_733 (tX4_seek (zI w7 (l4 + 1) 0) v13 a2 w11) rfl rfl (Nat.le_of_ble_eq_true rfl) ⟨Nat.le_of_ble_eq_true rfl, Nat.le_of_ble_eq_true rfl⟩ (zd DX7_dearest 28 rfl) (fun v16 w14 e15 => ?_)
      refine tz_aload_n 1 rfl (zd DX7_dearest 29 rfl) ?_
      refine tz_aload_n 1 rfl (zd DX7_dearest 30 rfl) ?_
      refine tz_getR 66 6 kz7 (zs_0) (by decide) (by decide) rfl wk_190 (zd DX7_dearest 31 rfl) ?_
      refine tz_getIN 5 kz4 (zs_66) (by decide) rfl wn_170 (zd DX7_dearest 32 rfl) ?_
      refine tz_i2l (zd DX7_dearest 33 rfl) ?_
      refine tz_cV_n kz7 (zs_0) rfl (rest := []) (YX7_tell) wk_391 (tX7_tell (zI w14 66 5).toInt64 w14) rfl rfl (Nat.le_of_ble_eq_true rfl) ⟨Nat.le_of_ble_eq_true rfl, Nat.le_of_ble_eq_true rfl⟩ (zd DX7_dearest 34 rfl) (fun v19 w17 e18 => ?_)
      refine tz_aload_n 1 rfl (zd DX7_dearest 35 rfl) ?_
      refine tz_getR 66 6 kz7 (zs_0) (by decide) (by decide) rfl wk_190 (zd DX7_dearest 36 rfl) ?_
      refine tz_getIN 4 kz4 (zs_66) (by decide) rfl wn_168 (zd DX7_dearest 37 rfl) ?_
      exact tz_iret rfl (zd DX7_dearest 38 rfl)
    refine tz_bipush (-2 : Int32) zk_bipush_m2 (zd DX7_dearest 18 rfl) ?_
    exact tz_iret rfl (zd DX7_dearest 19 rfl)
  refine tz_iconst (-1 : Int32) zk_iconst_m1 (zd DX7_dearest 12 rfl) ?_
  exact tz_iret rfl (zd DX7_dearest 13 rfl)
def QX7_count : List (Nat × Instr × Nat) := [(0, .iload_n 1, 1), (1, .tableswitch 137 0 10 #[59, 59, 59, 59, 78, 86, 97, 108, 116, 124, 129], 59), (60, .aload_n 0, 1), (61, .iload_n 1, 1), (62, .invokevirtual 158, 3), (65, .astore_n 2, 1), (66, .aload_n 2, 1), (67, .ifnonnull 7, 3), (70, .iconst (-1), 1), (71, .goto 7, 3), (74, .aload_n 2, 1), (75, .invokevirtual 165, 3), (78, .ireturn, 1), (79, .aload_n 0, 1), (80, .getfield 10, 3), (83, .getfield 67, 3), (86, .ireturn, 1), (87, .aload_n 0, 1), (88, .getfield 10, 3), (91, .getfield 95, 3), (94, .getfield 102, 3), (97, .ireturn, 1), (98, .aload_n 0, 1), (99, .getfield 10, 3), (102, .getfield 95, 3), (105, .getfield 92, 3), (108, .ireturn, 1), (109, .aload_n 0, 1), (110, .getfield 21, 3), (113, .getfield 172, 3), (116, .ireturn, 1), (117, .aload_n 0, 1), (118, .getfield 21, 3), (121, .getfield 319, 3), (124, .ireturn, 1), (125, .aload_n 0, 1), (126, .getfield 256, 3), (129, .ireturn, 1), (130, .aload_n 0, 1), (131, .getfield 46, 3), (134, .getfield 82, 3), (137, .ireturn, 1), (138, .iconst (-1), 1), (139, .ireturn, 1)]
set_option maxRecDepth 100000 in
theorem DX7_count : ∀ q ∈ QX7_count, decode cX7_count q.1 = .ok (q.2.1, q.2.2) := by decide +kernel
abbrev MX7_count : zM := (cX7_count, "EndSums", 3, (some .int), { frames := 1, cells := 0, slots := 0, locals := 21 })
def fX7_count (a1 : Int32) (w : zW) : Option (Int32 × zW) :=
  if a1 = (0 : Int32) then
    bd (fX7_lineAt a1 w) fun o4 w2 => oc o4 (
      some ((-1 : Int32), w2)) fun l5 =>
      bd (fX1_size l5 w2) fun v8 w6 =>
      some (v8, w6)
  else
  if a1 = (1 : Int32) then
    bd (fX7_lineAt a1 w) fun o12 w10 => oc o12 (
      some ((-1 : Int32), w10)) fun l13 =>
      bd (fX1_size l13 w10) fun v16 w14 =>
      some (v16, w14)
  else
  if a1 = (2 : Int32) then
    bd (fX7_lineAt a1 w) fun o20 w18 => oc o20 (
      some ((-1 : Int32), w18)) fun l21 =>
      bd (fX1_size l21 w18) fun v24 w22 =>
      some (v24, w22)
  else
  if a1 = (3 : Int32) then
    bd (fX7_lineAt a1 w) fun o28 w26 => oc o28 (
      some ((-1 : Int32), w26)) fun l29 =>
      bd (fX1_size l29 w26) fun v32 w30 =>
      some (v32, w30)
  else
  if a1 = (4 : Int32) then
    some ((zI w 1 0), w)
  else
  if a1 = (5 : Int32) then
    some ((zI w 2 0), w)
  else
  if a1 = (6 : Int32) then
    some ((zI w 2 1), w)
  else
  if a1 = (7 : Int32) then
    some ((zI w 4 1), w)
  else
  if a1 = (8 : Int32) then
    some ((zI w 4 2), w)
  else
  if a1 = (9 : Int32) then
    some ((zI w 0 8), w)
  else
  if a1 = (10 : Int32) then
    some ((zI w 64 0), w)
  else
  some ((-1 : Int32), w)
theorem YX7_count : zYV yX7_count MX7_count 1 := ⟨wk_757, wk_1, ⟨wk_755, wk_756⟩, ⟨by decide, by decide, by decide +kernel⟩, rfl, rfl⟩
set_option maxHeartbeats 4000000 in
set_option maxRecDepth 100000 in
theorem tX7_count (a1 : Int32) (w : zW) : Sm yX7_count MX7_count zi [.ref 0, .int a1] w (fX7_count a1 w) := by
  refine Sm_of (lv0 := [(0, .ref 0), (1, .int a1)]) (by decide) rfl (fun _ => Nat.le_of_ble_eq_true rfl) rfl ?_
  unfold fX7_count
  refine tz_iload_n 1 rfl (zd DX7_count 0 rfl) ?_
  refine tz_case (fun q1 => ?_) (fun q1 => ?_)
  · refine tz_tin (0) 60 (by rw [q1]; decide) (zd DX7_count 1 rfl) (by decide) (by decide) rfl rfl ?_
    refine tz_aload_n 0 rfl (zd DX7_count 2 rfl) ?_
    refine tz_iload_n 1 rfl (zd DX7_count 3 rfl) ?_
    refine tz_cV_o kz7 (zs_0) rfl (rest := []) (YX7_lineAt) wk_226 (tX7_lineAt a1 w) rfl rfl (Nat.le_of_ble_eq_true rfl) ⟨Nat.le_of_ble_eq_true rfl, Nat.le_of_ble_eq_true rfl⟩ (zd DX7_count 4 rfl) (fun w2 e3 => ?_) (fun l5 w2 e3 => ?_)
    · refine tz_astore_nN [(2, .null), (0, .ref 0), (1, .int a1)] (Nat.le_of_ble_eq_true rfl) rfl (zd DX7_count 5 rfl) ?_
      refine tz_aload_nN 0 rfl (zd DX7_count 6 rfl) ?_
      refine tz_ifnonnullN (zd DX7_count 7 rfl) ?_
      refine tz_iconst (-1 : Int32) zk_iconst_m1 (zd DX7_count 8 rfl) ?_
      refine tz_goto 78 (zd DX7_count 9 rfl) rfl ?_
      exact tz_iret rfl (zd DX7_count 12 rfl)
    refine tz_astore_n [(2, .ref l5), (0, .ref 0), (1, .int a1)] (Nat.le_of_ble_eq_true rfl) rfl (zd DX7_count 5 rfl) ?_
    refine tz_aload_n 0 rfl (zd DX7_count 6 rfl) ?_
    refine tz_ifnonnull 74 (zd DX7_count 7 rfl) rfl ?_
    refine tz_aload_n 0 rfl (zd DX7_count 10 rfl) ?_
    refine tz_cVN_i kz1 (fX7_lineAt_c e3) rfl (rest := []) (YX1_size) wn_486 (tX1_size l5 (fX7_lineAt_c e3) w2) rfl rfl (Nat.le_of_ble_eq_true rfl) ⟨Nat.le_of_ble_eq_true rfl, Nat.le_of_ble_eq_true rfl⟩ (zd DX7_count 11 rfl) (fun v8 w6 e7 => ?_)
    exact tz_iret rfl (zd DX7_count 12 rfl)
  refine tz_case (fun q9 => ?_) (fun q9 => ?_)
  · refine tz_tin (1) 60 (by rw [q9]; decide) (zd DX7_count 1 rfl) (by decide) (by decide) rfl rfl ?_
    refine tz_aload_n 0 rfl (zd DX7_count 2 rfl) ?_
    refine tz_iload_n 1 rfl (zd DX7_count 3 rfl) ?_
    refine tz_cV_o kz7 (zs_0) rfl (rest := []) (YX7_lineAt) wk_226 (tX7_lineAt a1 w) rfl rfl (Nat.le_of_ble_eq_true rfl) ⟨Nat.le_of_ble_eq_true rfl, Nat.le_of_ble_eq_true rfl⟩ (zd DX7_count 4 rfl) (fun w10 e11 => ?_) (fun l13 w10 e11 => ?_)
    · refine tz_astore_nN [(2, .null), (0, .ref 0), (1, .int a1)] (Nat.le_of_ble_eq_true rfl) rfl (zd DX7_count 5 rfl) ?_
      refine tz_aload_nN 0 rfl (zd DX7_count 6 rfl) ?_
      refine tz_ifnonnullN (zd DX7_count 7 rfl) ?_
      refine tz_iconst (-1 : Int32) zk_iconst_m1 (zd DX7_count 8 rfl) ?_
      refine tz_goto 78 (zd DX7_count 9 rfl) rfl ?_
      exact tz_iret rfl (zd DX7_count 12 rfl)
    refine tz_astore_n [(2, .ref l13), (0, .ref 0), (1, .int a1)] (Nat.le_of_ble_eq_true rfl) rfl (zd DX7_count 5 rfl) ?_
    refine tz_aload_n 0 rfl (zd DX7_count 6 rfl) ?_
    refine tz_ifnonnull 74 (zd DX7_count 7 rfl) rfl ?_
    refine tz_aload_n 0 rfl (zd DX7_count 10 rfl) ?_
    refine tz_cVN_i kz1 (fX7_lineAt_c e11) rfl (rest := []) (YX1_size) wn_486 (tX1_size l13 (fX7_lineAt_c e11) w10) rfl rfl (Nat.le_of_ble_eq_true rfl) ⟨Nat.le_of_ble_eq_true rfl, Nat.le_of_ble_eq_true rfl⟩ (zd DX7_count 11 rfl) (fun v16 w14 e15 => ?_)
    exact tz_iret rfl (zd DX7_count 12 rfl)
  refine tz_case (fun q17 => ?_) (fun q17 => ?_)
  · refine tz_tin (2) 60 (by rw [q17]; decide) (zd DX7_count 1 rfl) (by decide) (by decide) rfl rfl ?_
    refine tz_aload_n 0 rfl (zd DX7_count 2 rfl) ?_
    refine tz_iload_n 1 rfl (zd DX7_count 3 rfl) ?_
    refine tz_cV_o kz7 (zs_0) rfl (rest := []) (YX7_lineAt) wk_226 (tX7_lineAt a1 w) rfl rfl (Nat.le_of_ble_eq_true rfl) ⟨Nat.le_of_ble_eq_true rfl, Nat.le_of_ble_eq_true rfl⟩ (zd DX7_count 4 rfl) (fun w18 e19 => ?_) (fun l21 w18 e19 => ?_)
    · refine tz_astore_nN [(2, .null), (0, .ref 0), (1, .int a1)] (Nat.le_of_ble_eq_true rfl) rfl (zd DX7_count 5 rfl) ?_
      refine tz_aload_nN 0 rfl (zd DX7_count 6 rfl) ?_
      refine tz_ifnonnullN (zd DX7_count 7 rfl) ?_
      refine tz_iconst (-1 : Int32) zk_iconst_m1 (zd DX7_count 8 rfl) ?_
      refine tz_goto 78 (zd DX7_count 9 rfl) rfl ?_
      exact tz_iret rfl (zd DX7_count 12 rfl)
    refine tz_astore_n [(2, .ref l21), (0, .ref 0), (1, .int a1)] (Nat.le_of_ble_eq_true rfl) rfl (zd DX7_count 5 rfl) ?_
    refine tz_aload_n 0 rfl (zd DX7_count 6 rfl) ?_
    refine tz_ifnonnull 74 (zd DX7_count 7 rfl) rfl ?_
    refine tz_aload_n 0 rfl (zd DX7_count 10 rfl) ?_
    refine tz_cVN_i kz1 (fX7_lineAt_c e19) rfl (rest := []) (YX1_size) wn_486 (tX1_size l21 (fX7_lineAt_c e19) w18) rfl rfl (Nat.le_of_ble_eq_true rfl) ⟨Nat.le_of_ble_eq_true rfl, Nat.le_of_ble_eq_true rfl⟩ (zd DX7_count 11 rfl) (fun v24 w22 e23 => ?_)
    exact tz_iret rfl (zd DX7_count 12 rfl)
  refine tz_case (fun q25 => ?_) (fun q25 => ?_)
  · refine tz_tin (3) 60 (by rw [q25]; decide) (zd DX7_count 1 rfl) (by decide) (by decide) rfl rfl ?_
    refine tz_aload_n 0 rfl (zd DX7_count 2 rfl) ?_
    refine tz_iload_n 1 rfl (zd DX7_count 3 rfl) ?_
    refine tz_cV_o kz7 (zs_0) rfl (rest := []) (YX7_lineAt) wk_226 (tX7_lineAt a1 w) rfl rfl (Nat.le_of_ble_eq_true rfl) ⟨Nat.le_of_ble_eq_true rfl, Nat.le_of_ble_eq_true rfl⟩ (zd DX7_count 4 rfl) (fun w26 e27 => ?_) (fun l29 w26 e27 => ?_)
    · refine tz_astore_nN [(2, .null), (0, .ref 0), (1, .int a1)] (Nat.le_of_ble_eq_true rfl) rfl (zd DX7_count 5 rfl) ?_
      refine tz_aload_nN 0 rfl (zd DX7_count 6 rfl) ?_
      refine tz_ifnonnullN (zd DX7_count 7 rfl) ?_
      refine tz_iconst (-1 : Int32) zk_iconst_m1 (zd DX7_count 8 rfl) ?_
      refine tz_goto 78 (zd DX7_count 9 rfl) rfl ?_
      exact tz_iret rfl (zd DX7_count 12 rfl)
    refine tz_astore_n [(2, .ref l29), (0, .ref 0), (1, .int a1)] (Nat.le_of_ble_eq_true rfl) rfl (zd DX7_count 5 rfl) ?_
    refine tz_aload_n 0 rfl (zd DX7_count 6 rfl) ?_
    refine tz_ifnonnull 74 (zd DX7_count 7 rfl) rfl ?_
    refine tz_aload_n 0 rfl (zd DX7_count 10 rfl) ?_
    refine tz_cVN_i kz1 (fX7_lineAt_c e27) rfl (rest := []) (YX1_size) wn_486 (tX1_size l29 (fX7_lineAt_c e27) w26) rfl rfl (Nat.le_of_ble_eq_true rfl) ⟨Nat.le_of_ble_eq_true rfl, Nat.le_of_ble_eq_true rfl⟩ (zd DX7_count 11 rfl) (fun v32 w30 e31 => ?_)
    exact tz_iret rfl (zd DX7_count 12 rfl)
  refine tz_case (fun q33 => ?_) (fun q33 => ?_)
  · refine tz_tin (4) 79 (by rw [q33]; decide) (zd DX7_count 1 rfl) (by decide) (by decide) rfl rfl ?_
    refine tz_aload_n 0 rfl (zd DX7_count 13 rfl) ?_
    refine tz_getR 1 0 kz7 (zs_0) (by decide) (by decide) rfl wk_184 (zd DX7_count 14 rfl) ?_
    refine tz_getIN 0 kz0 (zs_1) (by decide) rfl wn_50 (zd DX7_count 15 rfl) ?_
    exact tz_iret rfl (zd DX7_count 16 rfl)
  refine tz_case (fun q34 => ?_) (fun q34 => ?_)
  · refine tz_tin (5) 87 (by rw [q34]; decide) (zd DX7_count 1 rfl) (by decide) (by decide) rfl rfl ?_
    refine tz_aload_n 0 rfl (zd DX7_count 17 rfl) ?_
    refine tz_getR 1 0 kz7 (zs_0) (by decide) (by decide) rfl wk_184 (zd DX7_count 18 rfl) ?_
    refine tz_getRN 2 1 kz0 (zs_1) (by decide) (by decide) rfl wn_53 (zd DX7_count 19 rfl) ?_
    refine tz_getIN 0 kz3 (zs_2) (by decide) rfl wn_36 (zd DX7_count 20 rfl) ?_
    exact tz_iret rfl (zd DX7_count 21 rfl)
  refine tz_case (fun q35 => ?_) (fun q35 => ?_)
  · refine tz_tin (6) 98 (by rw [q35]; decide) (zd DX7_count 1 rfl) (by decide) (by decide) rfl rfl ?_
    refine tz_aload_n 0 rfl (zd DX7_count 22 rfl) ?_
    refine tz_getR 1 0 kz7 (zs_0) (by decide) (by decide) rfl wk_184 (zd DX7_count 23 rfl) ?_
    refine tz_getRN 2 1 kz0 (zs_1) (by decide) (by decide) rfl wn_53 (zd DX7_count 24 rfl) ?_
    refine tz_getIN 1 kz3 (zs_2) (by decide) rfl wn_38 (zd DX7_count 25 rfl) ?_
    exact tz_iret rfl (zd DX7_count 26 rfl)
  refine tz_case (fun q36 => ?_) (fun q36 => ?_)
  · refine tz_tin (7) 109 (by rw [q36]; decide) (zd DX7_count 1 rfl) (by decide) (by decide) rfl rfl ?_
    refine tz_aload_n 0 rfl (zd DX7_count 27 rfl) ?_
    refine tz_getR 4 1 kz7 (zs_0) (by decide) (by decide) rfl wk_185 (zd DX7_count 28 rfl) ?_
    refine tz_getIN 1 kz6 (zs_4) (by decide) rfl wn_77 (zd DX7_count 29 rfl) ?_
    exact tz_iret rfl (zd DX7_count 30 rfl)
  refine tz_case (fun q37 => ?_) (fun q37 => ?_)
  · refine tz_tin (8) 117 (by rw [q37]; decide) (zd DX7_count 1 rfl) (by decide) (by decide) rfl rfl ?_
    refine tz_aload_n 0 rfl (zd DX7_count 31 rfl) ?_
    refine tz_getR 4 1 kz7 (zs_0) (by decide) (by decide) rfl wk_185 (zd DX7_count 32 rfl) ?_
    refine tz_getIN 2 kz6 (zs_4) (by decide) rfl wn_79 (zd DX7_count 33 rfl) ?_
    exact tz_iret rfl (zd DX7_count 34 rfl)
  refine tz_case (fun q38 => ?_) (fun q38 => ?_)
  · refine tz_tin (9) 125 (by rw [q38]; decide) (zd DX7_count 1 rfl) (by decide) (by decide) rfl rfl ?_
    refine tz_aload_n 0 rfl (zd DX7_count 35 rfl) ?_
    refine tz_getI 8 kz7 (zs_0) (by decide) rfl wk_192 (zd DX7_count 36 rfl) ?_
    exact tz_iret rfl (zd DX7_count 37 rfl)
  refine tz_case (fun q39 => ?_) (fun q39 => ?_)
  · refine tz_tin (10) 130 (by rw [q39]; decide) (zd DX7_count 1 rfl) (by decide) (by decide) rfl rfl ?_
    refine tz_aload_n 0 rfl (zd DX7_count 38 rfl) ?_
    refine tz_getR 64 5 kz7 (zs_0) (by decide) (by decide) rfl wk_189 (zd DX7_count 39 rfl) ?_
    refine tz_getIN 0 kz5 (zs_64) (by decide) rfl wn_150 (zd DX7_count 40 rfl) ?_
    exact tz_iret rfl (zd DX7_count 41 rfl)
  refine tz_tout 138 (by have eq1 := z_ne q1; have eq9 := z_ne q9; have eq17 := z_ne q17; have eq25 := z_ne q25; have eq33 := z_ne q33; have eq34 := z_ne q34; have eq35 := z_ne q35; have eq36 := z_ne q36; have eq37 := z_ne q37; have eq38 := z_ne q38; have eq39 := z_ne q39; rw [show ((0 : Int32)).toInt = 0 from rfl] at eq1; rw [show ((1 : Int32)).toInt = 1 from rfl] at eq9; rw [show ((2 : Int32)).toInt = 2 from rfl] at eq17; rw [show ((3 : Int32)).toInt = 3 from rfl] at eq25; rw [show ((4 : Int32)).toInt = 4 from rfl] at eq33; rw [show ((5 : Int32)).toInt = 5 from rfl] at eq34; rw [show ((6 : Int32)).toInt = 6 from rfl] at eq35; rw [show ((7 : Int32)).toInt = 7 from rfl] at eq36; rw [show ((8 : Int32)).toInt = 8 from rfl] at eq37; rw [show ((9 : Int32)).toInt = 9 from rfl] at eq38; rw [show ((10 : Int32)).toInt = 10 from rfl] at eq39; omega) (zd DX7_count 1 rfl) rfl ?_
  refine tz_iconst (-1 : Int32) zk_iconst_m1 (zd DX7_count 42 rfl) ?_
  exact tz_iret rfl (zd DX7_count 43 rfl)
def QX8_in : List (Nat × Instr × Nat) := [(0, .lload_n 0, 1), (1, .lload_n 2, 1), (2, .lcmp, 1), (3, .ifCond .lt 14, 3), (6, .lload_n 0, 1), (7, .lload 4, 2), (9, .lcmp, 1), (10, .ifCond .gt 7, 3), (13, .iconst 1, 1), (14, .goto 4, 3), (17, .iconst 0, 1), (18, .ireturn, 1)]
set_option maxRecDepth 100000 in
theorem DX8_in : ∀ q ∈ QX8_in, decode cX8_in q.1 = .ok (q.2.1, q.2.2) := by decide +kernel
abbrev MX8_in : zM := (cX8_in, "EndSumsModel", 6, (some .boolean), { frames := 0, cells := 0, slots := 0, locals := 0 })
def fX8_in (a0 : Int64) (a2 : Int64) (a4 : Int64) (w : zW) : Option (Bool × zW) :=
  if a0 < a2 then
    some (false, w)
  else
  if a4 < a0 then
    some (false, w)
  else
  some (true, w)
theorem YX8_in : zYS yX8_in MX8_in 3 := ⟨wk_850, wk_9, wk_849, ⟨by decide, by decide, by decide +kernel⟩, rfl, rfl⟩
set_option maxHeartbeats 4000000 in
set_option maxRecDepth 100000 in
theorem tX8_in (a0 : Int64) (a2 : Int64) (a4 : Int64) (w : zW) : Sm yX8_in MX8_in zz [.long a0, .long a2, .long a4] w (fX8_in a0 a2 a4 w) := by
  refine Sm_of (lv0 := [(0, .long a0), (2, .long a2), (4, .long a4)]) (by decide) rfl (fun _ => Nat.le_of_ble_eq_true rfl) rfl ?_
  unfold fX8_in
  refine tz_lload_n 0 rfl (zd DX8_in 0 rfl) ?_
  refine tz_lload_n 1 rfl (zd DX8_in 1 rfl) ?_
  refine tz_lcmp_lt 17 (zd DX8_in 2 rfl) (zd DX8_in 3 rfl) rfl (fun q1 => ?_) (fun q1 => ?_)
  · refine tz_iconst (0 : Int32) zk_iconst_0 (zd DX8_in 10 rfl) ?_
    exact tz_zret0 rfl (zd DX8_in 11 rfl)
  refine tz_lload_n 0 rfl (zd DX8_in 4 rfl) ?_
  refine tz_lload 2 rfl (zd DX8_in 5 rfl) ?_
  refine tz_lcmp_gt 17 (zd DX8_in 6 rfl) (zd DX8_in 7 rfl) rfl (fun q2 => ?_) (fun q2 => ?_)
  · refine tz_iconst (0 : Int32) zk_iconst_0 (zd DX8_in 10 rfl) ?_
    exact tz_zret0 rfl (zd DX8_in 11 rfl)
  refine tz_iconst (1 : Int32) zk_iconst_1 (zd DX8_in 8 rfl) ?_
  refine tz_goto 18 (zd DX8_in 9 rfl) rfl ?_
  exact tz_zret1 rfl (zd DX8_in 11 rfl)
def QX8_flag : List (Nat × Instr × Nat) := [(0, .iload_n 0, 1), (1, .ifCond .eq 7, 3), (4, .iconst 1, 1), (5, .goto 4, 3), (8, .iconst 0, 1), (9, .ireturn, 1)]
set_option maxRecDepth 100000 in
theorem DX8_flag : ∀ q ∈ QX8_flag, decode cX8_flag q.1 = .ok (q.2.1, q.2.2) := by decide +kernel
abbrev MX8_flag : zM := (cX8_flag, "EndSumsModel", 1, (some .int), { frames := 0, cells := 0, slots := 0, locals := 0 })
def fX8_flag (a0 : Int32) (w : zW) : Option (Int32 × zW) :=
  if a0 = (0 : Int32) then
    some ((0 : Int32), w)
  else
  some ((1 : Int32), w)
theorem YX8_flag : zYS yX8_flag MX8_flag 1 := ⟨wk_983, wk_9, wk_982, ⟨by decide, by decide, by decide +kernel⟩, rfl, rfl⟩
set_option maxHeartbeats 4000000 in
set_option maxRecDepth 100000 in
theorem tX8_flag (a0 : Int32) (w : zW) : Sm yX8_flag MX8_flag zi [.int a0] w (fX8_flag a0 w) := by
  refine Sm_of (lv0 := [(0, .int a0)]) (by decide) rfl (fun _ => Nat.le_of_ble_eq_true rfl) rfl ?_
  unfold fX8_flag
  refine tz_iload_n 0 rfl (zd DX8_flag 0 rfl) ?_
  refine tz_if_eq 8 (zd DX8_flag 1 rfl) rfl (fun q1 => ?_) (fun q1 => ?_)
  · refine tz_iconst (0 : Int32) zk_iconst_0 (zd DX8_flag 4 rfl) ?_
    exact tz_iret rfl (zd DX8_flag 5 rfl)
  refine tz_iconst (1 : Int32) zk_iconst_1 (zd DX8_flag 2 rfl) ?_
  refine tz_goto 9 (zd DX8_flag 3 rfl) rfl ?_
  exact tz_iret rfl (zd DX8_flag 5 rfl)
def QX8_enters : List (Nat × Instr × Nat) := [(0, .aload_n 0, 1), (1, .getfield 7, 3), (4, .aload_n 0, 1), (5, .getfield 11, 3), (8, .lload_n 1, 1), (9, .lastore, 1), (10, .aload_n 0, 1), (11, .dup, 1), (12, .getfield 11, 3), (15, .iconst 1, 1), (16, .iadd, 1), (17, .putfield 11, 3), (20, .return_, 1)]
set_option maxRecDepth 100000 in
theorem DX8_enters : ∀ q ∈ QX8_enters, decode cX8_enters q.1 = .ok (q.2.1, q.2.2) := by decide +kernel
abbrev MX8_enters : zM := (cX8_enters, "EndSumsModel", 3, none, { frames := 0, cells := 0, slots := 0, locals := 0 })
def fX8_enters (a1 : Int64) (w : zW) : Option (Unit × zW) :=
  zg (zin (zI w 74 1) 160) <| lt (zsL w 75 (zI w 74 1).toNatClampNeg a1) fun w1 =>
  lt (zsI w1 74 1 ((zI w1 74 1) + (1 : Int32))) fun w2 =>
  some ((), w2)
theorem YX8_enters : zYV yX8_enters MX8_enters 1 := ⟨wk_1005, wk_9, ⟨wk_1004, ws_82⟩, ⟨by decide, by decide, by decide +kernel⟩, rfl, rfl⟩
set_option maxHeartbeats 4000000 in
set_option maxRecDepth 100000 in
theorem tX8_enters (a1 : Int64) (w : zW) : Sm yX8_enters MX8_enters zn [.ref 74, .long a1] w (fX8_enters a1 w) := by
  refine Sm_of (lv0 := [(0, .ref 74), (1, .long a1)]) (by decide) rfl (fun _ => Nat.le_of_ble_eq_true rfl) rfl ?_
  unfold fX8_enters
  refine tz_aload_n 0 rfl (zd DX8_enters 0 rfl) ?_
  refine tz_getR 75 2 kz8 (zs_74) (by decide) (by decide) rfl wk_859 (zd DX8_enters 1 rfl) ?_
  refine tz_aload_n 0 rfl (zd DX8_enters 2 rfl) ?_
  refine tz_getI 1 kz8 (zs_74) (by decide) rfl wk_858 (zd DX8_enters 3 rfl) ?_
  refine tz_lload_n 1 rfl (zd DX8_enters 4 rfl) ?_
  refine tz_last (zs_75.1) (zs_75.2) (zd DX8_enters 5 rfl) (fun w1 => ?_)
  refine tz_aload_n 0 rfl (zd DX8_enters 6 rfl) ?_
  refine tz_dupa (zd DX8_enters 7 rfl) ?_
  refine tz_getI 1 kz8 (zs_74) (by decide) rfl wk_858 (zd DX8_enters 8 rfl) ?_
  refine tz_iconst (1 : Int32) zk_iconst_1 (zd DX8_enters 9 rfl) ?_
  refine tz_iadd (zd DX8_enters 10 rfl) ?_
  refine tz_putI 1 kz8 (zs_74) (by decide) rfl rfl wk_858 (zd DX8_enters 11 rfl) (fun w2 => ?_)
  exact tz_vret rfl (zd DX8_enters 12 rfl)
def QX8_sign : List (Nat × Instr × Nat) := [(0, .aload_n 0, 1), (1, .iconst 0, 1), (2, .putfield 1, 3), (5, .aload_n 0, 1), (6, .getfield 14, 3), (9, .bipush 96, 2), (11, .if_icmp .le 5, 3), (14, .iconst (-1), 1), (15, .ireturn, 1), (16, .iconst 0, 1), (17, .istore_n 2, 1), (18, .iload_n 2, 1), (19, .iconst 4, 1), (20, .if_icmp .ge 33, 3), (23, .aload_n 0, 1), (24, .getfield 17, 3), (27, .aload_n 0, 1), (28, .getfield 14, 3), (31, .iload_n 2, 1), (32, .iadd, 1), (33, .iload_n 1, 1), (34, .bipush 24, 2), (36, .bipush 8, 2), (38, .iload_n 2, 1), (39, .imul, 1), (40, .isub, 1), (41, .ishr, 1), (42, .sipush 255, 3), (45, .iand, 1), (46, .iastore, 1), (47, .iinc 2 1, 3), (50, .goto (-32), 3), (53, .aload_n 0, 1), (54, .dup, 1), (55, .getfield 14, 3), (58, .iconst 4, 1), (59, .iadd, 1), (60, .putfield 14, 3), (63, .aload_n 0, 1), (64, .getfield 14, 3), (67, .ireturn, 1)]
set_option maxRecDepth 100000 in
theorem DX8_sign : ∀ q ∈ QX8_sign, decode cX8_sign q.1 = .ok (q.2.1, q.2.2) := by decide +kernel
abbrev MX8_sign : zM := (cX8_sign, "EndSumsModel", 3, (some .int), { frames := 0, cells := 0, slots := 0, locals := 0 })
def fX8_sign_L18 (x1 : Int32) : Nat → Int32 → zW → Option (Int32 × zW)
  | 0, _, _ => none
  | n + 1, x2, w =>
    if (4 : Int32) ≤ x2 then
      lt (zsI w 74 4 ((zI w 74 4) + (4 : Int32))) fun w4 =>
      some ((zI w4 74 4), w4)
    else
    zg (zin ((zI w 74 4) + x2) 100) <| lt (zsI w 76 ((zI w 74 4) + x2).toNatClampNeg ((x1 >>> (((24 : Int32) - ((8 : Int32) * x2)) &&& 31)) &&& (255 : Int32))) fun w5 =>
    fX8_sign_L18 x1 n (x2 + (1 : Int32)) w5
def fX8_sign (a1 : Int32) (w : zW) : Option (Int32 × zW) :=
  lt (zsI w 74 0 (0 : Int32)) fun w1 =>
  if (zI w1 74 4) ≤ (96 : Int32) then
    fX8_sign_L18 a1 zFU (0 : Int32) w1
  else
  some ((-1 : Int32), w1)
theorem YX8_sign : zYV yX8_sign MX8_sign 1 := ⟨wk_843, wk_9, ⟨wk_841, wk_842⟩, ⟨by decide, by decide, by decide +kernel⟩, rfl, rfl⟩
set_option maxHeartbeats 4000000 in
set_option maxRecDepth 100000 in
theorem lX8_sign_L18 (x1 : Int32) : ∀ (n : Nat) (x2 : Int32) (w : zW), Tz MX8_sign (zRet zi) (fX8_sign_L18 x1 n x2 w) 18 [(0, .ref 74), (1, .int x1), (2, .int x2)] [] w := by
  intro n
  induction n with
  | zero => intro x2 w; exact tz_eq (fX8_sign_L18.eq_1 _ _ _) tz_none
  | succ n ih =>
    intro x2 w
    refine tz_eq (fX8_sign_L18.eq_2 _ _ _ _) ?_
    refine tz_iload_n 2 rfl (zd DX8_sign 11 rfl) ?_
    refine tz_iconst (4 : Int32) zk_iconst_4 (zd DX8_sign 12 rfl) ?_
    refine tz_icmp_ge 53 (zd DX8_sign 13 rfl) rfl (fun q3 => ?_) (fun q3 => ?_)
    · refine tz_aload_n 0 rfl (zd DX8_sign 32 rfl) ?_
      refine tz_dupa (zd DX8_sign 33 rfl) ?_
      refine tz_getI 4 kz8 (zs_74) (by decide) rfl wk_861 (zd DX8_sign 34 rfl) ?_
      refine tz_iconst (4 : Int32) zk_iconst_4 (zd DX8_sign 35 rfl) ?_
      refine tz_iadd (zd DX8_sign 36 rfl) ?_
      refine tz_putI 4 kz8 (zs_74) (by decide) rfl rfl wk_861 (zd DX8_sign 37 rfl) (fun w4 => ?_)
      refine tz_aload_n 0 rfl (zd DX8_sign 38 rfl) ?_
      refine tz_getI 4 kz8 (zs_74) (by decide) rfl wk_861 (zd DX8_sign 39 rfl) ?_
      exact tz_iret rfl (zd DX8_sign 40 rfl)
    refine tz_aload_n 0 rfl (zd DX8_sign 14 rfl) ?_
    refine tz_getR 76 3 kz8 (zs_74) (by decide) (by decide) rfl wk_860 (zd DX8_sign 15 rfl) ?_
    refine tz_aload_n 0 rfl (zd DX8_sign 16 rfl) ?_
    refine tz_getI 4 kz8 (zs_74) (by decide) rfl wk_861 (zd DX8_sign 17 rfl) ?_
    refine tz_iload_n 2 rfl (zd DX8_sign 18 rfl) ?_
    refine tz_iadd (zd DX8_sign 19 rfl) ?_
    refine tz_iload_n 1 rfl (zd DX8_sign 20 rfl) ?_
    refine tz_bipush (24 : Int32) zk_bipush_24 (zd DX8_sign 21 rfl) ?_
    refine tz_bipush (8 : Int32) zk_bipush_8 (zd DX8_sign 22 rfl) ?_
    refine tz_iload_n 2 rfl (zd DX8_sign 23 rfl) ?_
    refine tz_imul (zd DX8_sign 24 rfl) ?_
    refine tz_isub (zd DX8_sign 25 rfl) ?_
    refine tz_ishr (zd DX8_sign 26 rfl) ?_
    refine tz_sipush (255 : Int32) zk_sipush_255 (zd DX8_sign 27 rfl) ?_
    refine tz_iand (zd DX8_sign 28 rfl) ?_
    refine tz_iast (zs_76.1) (zs_76.2) (zd DX8_sign 29 rfl) (fun w5 => ?_)
    refine tz_iinc 2 (1 : Int32) [(2, .int (x2 + (1 : Int32))), (0, .ref 74), (1, .int x1)] rfl zk_iconst_1 (Nat.le_of_ble_eq_true rfl) rfl (zd DX8_sign 30 rfl) ?_
    refine tz_goto 18 (zd DX8_sign 31 rfl) rfl ?_
    refine tz_lv (lv2 := [(0, .ref 74), (1, .int x1), (2, .int (x2 + (1 : Int32)))]) [1, 2, 0] rfl ?_
    exact ih (x2 + (1 : Int32)) w5
set_option maxHeartbeats 4000000 in
set_option maxRecDepth 100000 in
theorem tX8_sign (a1 : Int32) (w : zW) : Sm yX8_sign MX8_sign zi [.ref 74, .int a1] w (fX8_sign a1 w) := by
  refine Sm_of (lv0 := [(0, .ref 74), (1, .int a1)]) (by decide) rfl (fun _ => Nat.le_of_ble_eq_true rfl) rfl ?_
  unfold fX8_sign
  refine tz_aload_n 0 rfl (zd DX8_sign 0 rfl) ?_
  refine tz_iconst (0 : Int32) zk_iconst_0 (zd DX8_sign 1 rfl) ?_
  refine tz_putI 0 kz8 (zs_74) (by decide) rfl rfl wk_857 (zd DX8_sign 2 rfl) (fun w1 => ?_)
  refine tz_aload_n 0 rfl (zd DX8_sign 3 rfl) ?_
  refine tz_getI 4 kz8 (zs_74) (by decide) rfl wk_861 (zd DX8_sign 4 rfl) ?_
  refine tz_bipush (96 : Int32) zk_bipush_96 (zd DX8_sign 5 rfl) ?_
  refine tz_icmp_le 16 (zd DX8_sign 6 rfl) rfl (fun q2 => ?_) (fun q2 => ?_)
  · refine tz_iconst (0 : Int32) zk_iconst_0 (zd DX8_sign 9 rfl) ?_
    refine tz_istore_n [(2, .int (0 : Int32)), (0, .ref 74), (1, .int a1)] (Nat.le_of_ble_eq_true rfl) rfl (zd DX8_sign 10 rfl) ?_
    refine tz_lv (lv2 := [(0, .ref 74), (1, .int a1), (2, .int (0 : Int32))]) [1, 2, 0] rfl ?_
    exact lX8_sign_L18 a1 zFU (0 : Int32) w1
  refine tz_iconst (-1 : Int32) zk_iconst_m1 (zd DX8_sign 7 rfl) ?_
  exact tz_iret rfl (zd DX8_sign 8 rfl)
def QX8_end : List (Nat × Instr × Nat) := [(0, .aload_n 0, 1), (1, .iconst 0, 1), (2, .putfield 1, 3), (5, .iload_n 1, 1), (6, .i2l, 1), (7, .lconst 0, 1), (8, .aload_n 0, 1), (9, .getfield 14, 3), (12, .i2l, 1), (13, .invokestatic 21, 3), (16, .ifCond .ne 5, 3), (19, .iconst 0, 1), (20, .ireturn, 1), (21, .aload_n 0, 1), (22, .iload_n 1, 1), (23, .putfield 14, 3), (26, .iconst 1, 1), (27, .ireturn, 1)]
set_option maxRecDepth 100000 in
theorem DX8_end : ∀ q ∈ QX8_end, decode cX8_end q.1 = .ok (q.2.1, q.2.2) := by decide +kernel
abbrev MX8_end : zM := (cX8_end, "EndSumsModel", 2, (some .boolean), { frames := 1, cells := 0, slots := 0, locals := 25 })
def fX8_end (a1 : Int32) (w : zW) : Option (Bool × zW) :=
  lt (zsI w 74 0 (0 : Int32)) fun w1 =>
  bd (fX8_in (a1).toInt64 (0 : Int64) (zI w1 74 4).toInt64 w1) fun b4 w2 =>
  if b4 = true then
    lt (zsI w2 74 4 a1) fun w6 =>
    some (true, w6)
  else
  some (false, w2)
theorem YX8_end : zYV yX8_end MX8_end 1 := ⟨wk_847, wk_9, ⟨wk_845, wk_846⟩, ⟨by decide, by decide, by decide +kernel⟩, rfl, rfl⟩
set_option maxHeartbeats 4000000 in
set_option maxRecDepth 100000 in
theorem tX8_end (a1 : Int32) (w : zW) : Sm yX8_end MX8_end zz [.ref 74, .int a1] w (fX8_end a1 w) := by
  refine Sm_of (lv0 := [(0, .ref 74), (1, .int a1)]) (by decide) rfl (fun _ => Nat.le_of_ble_eq_true rfl) rfl ?_
  unfold fX8_end
  refine tz_aload_n 0 rfl (zd DX8_end 0 rfl) ?_
  refine tz_iconst (0 : Int32) zk_iconst_0 (zd DX8_end 1 rfl) ?_
  refine tz_putI 0 kz8 (zs_74) (by decide) rfl rfl wk_857 (zd DX8_end 2 rfl) (fun w1 => ?_)
  refine tz_iload_n 1 rfl (zd DX8_end 3 rfl) ?_
  refine tz_i2l (zd DX8_end 4 rfl) ?_
  refine tz_lconst (0 : Int64) rfl (zd DX8_end 5 rfl) ?_
  refine tz_aload_n 0 rfl (zd DX8_end 6 rfl) ?_
  refine tz_getI 4 kz8 (zs_74) (by decide) rfl wk_861 (zd DX8_end 7 rfl) ?_
  refine tz_i2l (zd DX8_end 8 rfl) ?_
  refine tz_cS_z (rest := []) (YX8_in) wk_848 (tX8_in (a1).toInt64 (0 : Int64) (zI w1 74 4).toInt64 w1) rfl rfl (Nat.le_of_ble_eq_true rfl) ⟨Nat.le_of_ble_eq_true rfl, Nat.le_of_ble_eq_true rfl⟩ (zd DX8_end 9 rfl) (fun b4 w2 e3 => ?_)
  refine tz_bif_ne 21 (zd DX8_end 10 rfl) rfl (fun q5 => ?_) (fun q5 => ?_)
  · refine tz_aload_n 0 rfl (zd DX8_end 13 rfl) ?_
    refine tz_iload_n 1 rfl (zd DX8_end 14 rfl) ?_
    refine tz_putI 4 kz8 (zs_74) (by decide) rfl rfl wk_861 (zd DX8_end 15 rfl) (fun w6 => ?_)
    refine tz_iconst (1 : Int32) zk_iconst_1 (zd DX8_end 16 rfl) ?_
    exact tz_zret1 rfl (zd DX8_end 17 rfl)
  refine tz_iconst (0 : Int32) zk_iconst_0 (zd DX8_end 11 rfl) ?_
  exact tz_zret0 rfl (zd DX8_end 12 rfl)
def QX8_reads : List (Nat × Instr × Nat) := [(0, .aload_n 0, 1), (1, .aload_n 0, 1), (2, .getfield 14, 3), (5, .putfield 25, 3), (8, .aload_n 0, 1), (9, .iconst 0, 1), (10, .putfield 14, 3), (13, .aload_n 0, 1), (14, .iconst 0, 1), (15, .putfield 28, 3), (18, .return_, 1)]
set_option maxRecDepth 100000 in
theorem DX8_reads : ∀ q ∈ QX8_reads, decode cX8_reads q.1 = .ok (q.2.1, q.2.2) := by decide +kernel
abbrev MX8_reads : zM := (cX8_reads, "EndSumsModel", 1, none, { frames := 0, cells := 0, slots := 0, locals := 0 })
def fX8_reads  (w : zW) : Option (Unit × zW) :=
  lt (zsI w 74 6 (zI w 74 4)) fun w1 =>
  lt (zsI w1 74 4 (0 : Int32)) fun w2 =>
  lt (zsI w2 74 5 (0 : Int32)) fun w3 =>
  some ((), w3)
theorem YX8_reads : zYV yX8_reads MX8_reads 0 := ⟨wk_1072, wk_9, ⟨wk_1071, ws_92⟩, ⟨by decide, by decide, by decide +kernel⟩, rfl, rfl⟩
set_option maxHeartbeats 4000000 in
set_option maxRecDepth 100000 in
theorem tX8_reads  (w : zW) : Sm yX8_reads MX8_reads zn [.ref 74] w (fX8_reads w) := by
  refine Sm_of (lv0 := [(0, .ref 74)]) (by decide) rfl (fun _ => Nat.le_of_ble_eq_true rfl) rfl ?_
  unfold fX8_reads
  refine tz_aload_n 0 rfl (zd DX8_reads 0 rfl) ?_
  refine tz_aload_n 0 rfl (zd DX8_reads 1 rfl) ?_
  refine tz_getI 4 kz8 (zs_74) (by decide) rfl wk_861 (zd DX8_reads 2 rfl) ?_
  refine tz_putI 6 kz8 (zs_74) (by decide) rfl rfl wk_863 (zd DX8_reads 3 rfl) (fun w1 => ?_)
  refine tz_aload_n 0 rfl (zd DX8_reads 4 rfl) ?_
  refine tz_iconst (0 : Int32) zk_iconst_0 (zd DX8_reads 5 rfl) ?_
  refine tz_putI 4 kz8 (zs_74) (by decide) rfl rfl wk_861 (zd DX8_reads 6 rfl) (fun w2 => ?_)
  refine tz_aload_n 0 rfl (zd DX8_reads 7 rfl) ?_
  refine tz_iconst (0 : Int32) zk_iconst_0 (zd DX8_reads 8 rfl) ?_
  refine tz_putI 5 kz8 (zs_74) (by decide) rfl rfl wk_862 (zd DX8_reads 9 rfl) (fun w3 => ?_)
  exact tz_vret rfl (zd DX8_reads 10 rfl)
def QX8_takesSign : List (Nat × Instr × Nat) := [(0, .aload_n 0, 1), (1, .getfield 28, 3), (4, .aload_n 0, 1), (5, .getfield 25, 3), (8, .if_icmp .ge 20, 3), (11, .aload_n 0, 1), (12, .getfield 17, 3), (15, .aload_n 0, 1), (16, .getfield 28, 3), (19, .iaload, 1), (20, .iload_n 1, 1), (21, .if_icmp .ne 7, 3), (24, .iconst 1, 1), (25, .goto 4, 3), (28, .iconst 0, 1), (29, .istore_n 2, 1), (30, .aload_n 0, 1), (31, .dup, 1), (32, .getfield 28, 3), (35, .iload_n 2, 1), (36, .invokestatic 31, 3), (39, .iadd, 1), (40, .putfield 28, 3), (43, .iload_n 2, 1), (44, .ireturn, 1)]
set_option maxRecDepth 100000 in
theorem DX8_takesSign : ∀ q ∈ QX8_takesSign, decode cX8_takesSign q.1 = .ok (q.2.1, q.2.2) := by decide +kernel
abbrev MX8_takesSign : zM := (cX8_takesSign, "EndSumsModel", 3, (some .boolean), { frames := 1, cells := 0, slots := 0, locals := 20 })
def fX8_takesSign (a1 : Int32) (w : zW) : Option (Bool × zW) :=
  lt (fun (s_29 : Int32) (w2 : zW) =>
    bd (fX8_flag s_29 w2) fun v5 w3 =>
    lt (zsI w3 74 5 ((zI w2 74 5) + v5)) fun w6 =>
    some (zvb s_29, w6)) fun j2 =>
  lt (fun (w7 : zW) =>
    j2 (0 : Int32) w7) fun j7 =>
  if (zI w 74 6) ≤ (zI w 74 5) then
    j7 w
  else
  zg (zin (zI w 74 5) 100) <|
  if ¬ (zI w 76 (zI w 74 5).toNatClampNeg) = a1 then
    j7 w
  else
  j2 (1 : Int32) w
theorem YX8_takesSign : zYV yX8_takesSign MX8_takesSign 1 := ⟨wk_1082, wk_9, ⟨wk_1081, ws_94⟩, ⟨by decide, by decide, by decide +kernel⟩, rfl, rfl⟩
set_option maxHeartbeats 4000000 in
set_option maxRecDepth 100000 in
theorem tX8_takesSign (a1 : Int32) (w : zW) : Sm yX8_takesSign MX8_takesSign zz [.ref 74, .int a1] w (fX8_takesSign a1 w) := by
  refine Sm_of (lv0 := [(0, .ref 74), (1, .int a1)]) (by decide) rfl (fun _ => Nat.le_of_ble_eq_true rfl) rfl ?_
  unfold fX8_takesSign
  refine tz_aload_n 0 rfl (zd DX8_takesSign 0 rfl) ?_
  refine tz_getI 5 kz8 (zs_74) (by decide) rfl wk_862 (zd DX8_takesSign 1 rfl) ?_
  refine tz_aload_n 0 rfl (zd DX8_takesSign 2 rfl) ?_
  refine tz_getI 6 kz8 (zs_74) (by decide) rfl wk_863 (zd DX8_takesSign 3 rfl) ?_
  refine tz_jp (P := fun j => ∀ (s_29 : Int32) (w2 : zW), Tz MX8_takesSign (zRet zz) (j s_29 w2) 29 [(0, .ref 74)] [.int s_29] w2) ?_ (fun j2 hj2 => ?_)
  · intro s_29 w2
    refine tz_istore_n [(2, .int s_29), (0, .ref 74)] (Nat.le_of_ble_eq_true rfl) rfl (zd DX8_takesSign 15 rfl) ?_
    refine tz_aload_n 1 rfl (zd DX8_takesSign 16 rfl) ?_
    refine tz_dupa (zd DX8_takesSign 17 rfl) ?_
    refine tz_getI 5 kz8 (zs_74) (by decide) rfl wk_862 (zd DX8_takesSign 18 rfl) ?_
    refine tz_iload_n 0 rfl (zd DX8_takesSign 19 rfl) ?_
    refine tz_cS_i (rest := [.int (zI w2 74 5), .ref 74]) (YX8_flag) wk_981 (tX8_flag s_29 w2) rfl rfl (Nat.le_of_ble_eq_true rfl) ⟨Nat.le_of_ble_eq_true rfl, Nat.le_of_ble_eq_true rfl⟩ (zd DX8_takesSign 20 rfl) (fun v5 w3 e4 => ?_)
    refine tz_iadd (zd DX8_takesSign 21 rfl) ?_
    refine tz_putI 5 kz8 (zs_74) (by decide) rfl rfl wk_862 (zd DX8_takesSign 22 rfl) (fun w6 => ?_)
    refine tz_iload_n 0 rfl (zd DX8_takesSign 23 rfl) ?_
    exact tz_zretv rfl (zd DX8_takesSign 24 rfl)
  refine tz_jp (P := fun j => ∀ (w7 : zW), Tz MX8_takesSign (zRet zz) (j w7) 28 [(0, .ref 74)] [] w7) ?_ (fun j7 hj7 => ?_)
  · intro w7
    refine tz_iconst (0 : Int32) zk_iconst_0 (zd DX8_takesSign 14 rfl) ?_
    exact hj2 (0 : Int32) w7
  refine tz_icmp_ge 28 (zd DX8_takesSign 4 rfl) rfl (fun q8 => ?_) (fun q8 => ?_)
  · refine tz_lv (lv2 := [(0, .ref 74)]) [0] rfl ?_
    exact hj7 w
  refine tz_aload_n 0 rfl (zd DX8_takesSign 5 rfl) ?_
  refine tz_getR 76 3 kz8 (zs_74) (by decide) (by decide) rfl wk_860 (zd DX8_takesSign 6 rfl) ?_
  refine tz_aload_n 0 rfl (zd DX8_takesSign 7 rfl) ?_
  refine tz_getI 5 kz8 (zs_74) (by decide) rfl wk_862 (zd DX8_takesSign 8 rfl) ?_
  refine tz_iald (zs_76.1) (zs_76.2) (zd DX8_takesSign 9 rfl) ?_
  refine tz_iload_n 1 rfl (zd DX8_takesSign 10 rfl) ?_
  refine tz_icmp_ne 28 (zd DX8_takesSign 11 rfl) rfl (fun q9 => ?_) (fun q9 => ?_)
  · refine tz_lv (lv2 := [(0, .ref 74)]) [0] rfl ?_
    exact hj7 w
  refine tz_iconst (1 : Int32) zk_iconst_1 (zd DX8_takesSign 12 rfl) ?_
  refine tz_goto 29 (zd DX8_takesSign 13 rfl) rfl ?_
  refine tz_lv (lv2 := [(0, .ref 74)]) [0] rfl ?_
  exact hj2 (1 : Int32) w
def QX8_isDigit : List (Nat × Instr × Nat) := [(0, .aload_n 0, 1), (1, .getfield 28, 3), (4, .aload_n 0, 1), (5, .getfield 25, 3), (8, .if_icmp .ge 29, 3), (11, .aload_n 0, 1), (12, .getfield 17, 3), (15, .aload_n 0, 1), (16, .getfield 28, 3), (19, .iaload, 1), (20, .i2l, 1), (21, .ldc2_w 35, 3), (24, .ldc2_w 37, 3), (27, .invokestatic 21, 3), (30, .ifCond .eq 7, 3), (33, .iconst 1, 1), (34, .goto 4, 3), (37, .iconst 0, 1), (38, .ireturn, 1)]
set_option maxRecDepth 100000 in
theorem DX8_isDigit : ∀ q ∈ QX8_isDigit, decode cX8_isDigit q.1 = .ok (q.2.1, q.2.2) := by decide +kernel
abbrev MX8_isDigit : zM := (cX8_isDigit, "EndSumsModel", 1, (some .boolean), { frames := 1, cells := 0, slots := 0, locals := 25 })
def fX8_isDigit  (w : zW) : Option (Bool × zW) :=
  if (zI w 74 6) ≤ (zI w 74 5) then
    some (false, w)
  else
  zg (zin (zI w 74 5) 100) <|
  bd (fX8_in (zI w 76 (zI w 74 5).toNatClampNeg).toInt64 (48 : Int64) (57 : Int64) w) fun b4 w2 =>
  if b4 = true then
    some (true, w2)
  else
  some (false, w2)
theorem YX8_isDigit : zYV yX8_isDigit MX8_isDigit 0 := ⟨wk_1086, wk_9, ⟨wk_1085, ws_95⟩, ⟨by decide, by decide, by decide +kernel⟩, rfl, rfl⟩
set_option maxHeartbeats 4000000 in
set_option maxRecDepth 100000 in
theorem tX8_isDigit  (w : zW) : Sm yX8_isDigit MX8_isDigit zz [.ref 74] w (fX8_isDigit w) := by
  refine Sm_of (lv0 := [(0, .ref 74)]) (by decide) rfl (fun _ => Nat.le_of_ble_eq_true rfl) rfl ?_
  unfold fX8_isDigit
  refine tz_aload_n 0 rfl (zd DX8_isDigit 0 rfl) ?_
  refine tz_getI 5 kz8 (zs_74) (by decide) rfl wk_862 (zd DX8_isDigit 1 rfl) ?_
  refine tz_aload_n 0 rfl (zd DX8_isDigit 2 rfl) ?_
  refine tz_getI 6 kz8 (zs_74) (by decide) rfl wk_863 (zd DX8_isDigit 3 rfl) ?_
  refine tz_icmp_ge 37 (zd DX8_isDigit 4 rfl) rfl (fun q1 => ?_) (fun q1 => ?_)
  · refine tz_iconst (0 : Int32) zk_iconst_0 (zd DX8_isDigit 17 rfl) ?_
    exact tz_zret0 rfl (zd DX8_isDigit 18 rfl)
  refine tz_aload_n 0 rfl (zd DX8_isDigit 5 rfl) ?_
  refine tz_getR 76 3 kz8 (zs_74) (by decide) (by decide) rfl wk_860 (zd DX8_isDigit 6 rfl) ?_
  refine tz_aload_n 0 rfl (zd DX8_isDigit 7 rfl) ?_
  refine tz_getI 5 kz8 (zs_74) (by decide) rfl wk_862 (zd DX8_isDigit 8 rfl) ?_
  refine tz_iald (zs_76.1) (zs_76.2) (zd DX8_isDigit 9 rfl) ?_
  refine tz_i2l (zd DX8_isDigit 10 rfl) ?_
  refine tz_ldc2_w wk_1077 (zd DX8_isDigit 11 rfl) ?_
  refine tz_ldc2_w wk_1087 (zd DX8_isDigit 12 rfl) ?_
  refine tz_cS_z (rest := []) (YX8_in) wk_848 (tX8_in (zI w 76 (zI w 74 5).toNatClampNeg).toInt64 (48 : Int64) (57 : Int64) w) rfl rfl (Nat.le_of_ble_eq_true rfl) ⟨Nat.le_of_ble_eq_true rfl, Nat.le_of_ble_eq_true rfl⟩ (zd DX8_isDigit 13 rfl) (fun b4 w2 e3 => ?_)
  refine tz_bif_eq 37 (zd DX8_isDigit 14 rfl) rfl (fun q5 => ?_) (fun q5 => ?_)
  · refine tz_iconst (1 : Int32) zk_iconst_1 (zd DX8_isDigit 15 rfl) ?_
    refine tz_goto 38 (zd DX8_isDigit 16 rfl) rfl ?_
    exact tz_zret1 rfl (zd DX8_isDigit 18 rfl)
  refine tz_iconst (0 : Int32) zk_iconst_0 (zd DX8_isDigit 17 rfl) ?_
  exact tz_zret0 rfl (zd DX8_isDigit 18 rfl)
def QX8_is : List (Nat × Instr × Nat) := [(0, .aload_n 0, 1), (1, .lload_n 1, 1), (2, .putfield 96, 3), (5, .aload_n 0, 1), (6, .lload_n 3, 1), (7, .putfield 100, 3), (10, .return_, 1)]
set_option maxRecDepth 100000 in
theorem DX8_is : ∀ q ∈ QX8_is, decode cX8_is q.1 = .ok (q.2.1, q.2.2) := by decide +kernel
abbrev MX8_is : zM := (cX8_is, "EndSumsModel", 5, none, { frames := 0, cells := 0, slots := 0, locals := 0 })
def fX8_is (a1 : Int64) (a3 : Int64) (w : zW) : Option (Unit × zW) :=
  lt (zsL w 74 11 a1) fun w1 =>
  lt (zsL w1 74 12 a3) fun w2 =>
  some ((), w2)
theorem YX8_is : zYV yX8_is MX8_is 2 := ⟨wk_973, wk_9, ⟨wk_972, ws_78⟩, ⟨by decide, by decide, by decide +kernel⟩, rfl, rfl⟩
set_option maxHeartbeats 4000000 in
set_option maxRecDepth 100000 in
theorem tX8_is (a1 : Int64) (a3 : Int64) (w : zW) : Sm yX8_is MX8_is zn [.ref 74, .long a1, .long a3] w (fX8_is a1 a3 w) := by
  refine Sm_of (lv0 := [(0, .ref 74), (1, .long a1), (3, .long a3)]) (by decide) rfl (fun _ => Nat.le_of_ble_eq_true rfl) rfl ?_
  unfold fX8_is
  refine tz_aload_n 0 rfl (zd DX8_is 0 rfl) ?_
  refine tz_lload_n 1 rfl (zd DX8_is 1 rfl) ?_
  refine tz_putJ 11 kz8 (zs_74) (by decide) rfl rfl wk_868 (zd DX8_is 2 rfl) (fun w1 => ?_)
  refine tz_aload_n 0 rfl (zd DX8_is 3 rfl) ?_
  refine tz_lload_n 2 rfl (zd DX8_is 4 rfl) ?_
  refine tz_putJ 12 kz8 (zs_74) (by decide) rfl rfl wk_869 (zd DX8_is 5 rfl) (fun w2 => ?_)
  exact tz_vret rfl (zd DX8_is 6 rfl)
def QX8_empty : List (Nat × Instr × Nat) := [(0, .aload_n 0, 1), (1, .getfield 93, 3), (4, .tableswitch 92 1 7 #[44, 92, 57, 92, 92, 66, 79], 44), (48, .aload_n 0, 1), (49, .ldc2_w 103, 3), (52, .ldc2_w 105, 3), (55, .invokevirtual 107, 3), (58, .goto 44, 3), (61, .aload_n 0, 1), (62, .lconst 1, 1), (63, .lconst 0, 1), (64, .invokevirtual 107, 3), (67, .goto 35, 3), (70, .aload_n 0, 1), (71, .ldc2_w 105, 3), (74, .ldc2_w 105, 3), (77, .invokevirtual 107, 3), (80, .goto 22, 3), (83, .aload_n 0, 1), (84, .aload_n 0, 1), (85, .getfield 111, 3), (88, .i2l, 1), (89, .lconst 0, 1), (90, .invokevirtual 107, 3), (93, .goto 9, 3), (96, .aload_n 0, 1), (97, .lconst 0, 1), (98, .lconst 0, 1), (99, .invokevirtual 107, 3), (102, .return_, 1)]
set_option maxRecDepth 100000 in
theorem DX8_empty : ∀ q ∈ QX8_empty, decode cX8_empty q.1 = .ok (q.2.1, q.2.2) := by decide +kernel
abbrev MX8_empty : zM := (cX8_empty, "EndSumsModel", 1, none, { frames := 1, cells := 0, slots := 0, locals := 24 })
def fX8_empty  (w : zW) : Option (Unit × zW) :=
  if (zI w 74 7) = (1 : Int32) then
    bd (fX8_is (10000 : Int64) (-1 : Int64) w) fun _ w2 =>
    some ((), w2)
  else
  if (zI w 74 7) = (2 : Int32) then
    bd (fX8_is (0 : Int64) (0 : Int64) w) fun _ w6 =>
    some ((), w6)
  else
  if (zI w 74 7) = (3 : Int32) then
    bd (fX8_is (1 : Int64) (0 : Int64) w) fun _ w10 =>
    some ((), w10)
  else
  if (zI w 74 7) = (4 : Int32) then
    bd (fX8_is (0 : Int64) (0 : Int64) w) fun _ w14 =>
    some ((), w14)
  else
  if (zI w 74 7) = (5 : Int32) then
    bd (fX8_is (0 : Int64) (0 : Int64) w) fun _ w18 =>
    some ((), w18)
  else
  if (zI w 74 7) = (6 : Int32) then
    bd (fX8_is (-1 : Int64) (-1 : Int64) w) fun _ w22 =>
    some ((), w22)
  else
  if (zI w 74 7) = (7 : Int32) then
    bd (fX8_is (zI w 74 9).toInt64 (0 : Int64) w) fun _ w26 =>
    some ((), w26)
  else
  bd (fX8_is (0 : Int64) (0 : Int64) w) fun _ w29 =>
  some ((), w29)
theorem YX8_empty : zYV yX8_empty MX8_empty 0 := ⟨wk_1018, wk_9, ⟨wk_1017, ws_84⟩, ⟨by decide, by decide, by decide +kernel⟩, rfl, rfl⟩
set_option maxHeartbeats 4000000 in
set_option maxRecDepth 100000 in
theorem tX8_empty  (w : zW) : Sm yX8_empty MX8_empty zn [.ref 74] w (fX8_empty w) := by
  refine Sm_of (lv0 := [(0, .ref 74)]) (by decide) rfl (fun _ => Nat.le_of_ble_eq_true rfl) rfl ?_
  unfold fX8_empty
  refine tz_aload_n 0 rfl (zd DX8_empty 0 rfl) ?_
  refine tz_getI 7 kz8 (zs_74) (by decide) rfl wk_864 (zd DX8_empty 1 rfl) ?_
  refine tz_case (fun q1 => ?_) (fun q1 => ?_)
  · refine tz_tin (1) 48 (by rw [q1]; decide) (zd DX8_empty 2 rfl) (by decide) (by decide) rfl rfl ?_
    refine tz_aload_n 0 rfl (zd DX8_empty 3 rfl) ?_
    refine tz_ldc2_w wk_1019 (zd DX8_empty 4 rfl) ?_
    refine tz_ldc2_w wk_1020 (zd DX8_empty 5 rfl) ?_
    refine tz_cV_n kz8 (zs_74) rfl (rest := []) (YX8_is) wk_970 (tX8_is (10000 : Int64) (-1 : Int64) w) rfl rfl (Nat.le_of_ble_eq_true rfl) ⟨Nat.le_of_ble_eq_true rfl, Nat.le_of_ble_eq_true rfl⟩ (zd DX8_empty 6 rfl) (fun v4 w2 e3 => ?_)
    refine tz_goto 102 (zd DX8_empty 7 rfl) rfl ?_
    exact tz_vret rfl (zd DX8_empty 29 rfl)
  refine tz_case (fun q5 => ?_) (fun q5 => ?_)
  · refine tz_tin (2) 96 (by rw [q5]; decide) (zd DX8_empty 2 rfl) (by decide) (by decide) rfl rfl ?_
    refine tz_aload_n 0 rfl (zd DX8_empty 25 rfl) ?_
    refine tz_lconst (0 : Int64) rfl (zd DX8_empty 26 rfl) ?_
    refine tz_lconst (0 : Int64) rfl (zd DX8_empty 27 rfl) ?_
    refine tz_cV_n kz8 (zs_74) rfl (rest := []) (YX8_is) wk_970 (tX8_is (0 : Int64) (0 : Int64) w) rfl rfl (Nat.le_of_ble_eq_true rfl) ⟨Nat.le_of_ble_eq_true rfl, Nat.le_of_ble_eq_true rfl⟩ (zd DX8_empty 28 rfl) (fun v8 w6 e7 => ?_)
    exact tz_vret rfl (zd DX8_empty 29 rfl)
  refine tz_case (fun q9 => ?_) (fun q9 => ?_)
  · refine tz_tin (3) 61 (by rw [q9]; decide) (zd DX8_empty 2 rfl) (by decide) (by decide) rfl rfl ?_
    refine tz_aload_n 0 rfl (zd DX8_empty 8 rfl) ?_
    refine tz_lconst (1 : Int64) rfl (zd DX8_empty 9 rfl) ?_
    refine tz_lconst (0 : Int64) rfl (zd DX8_empty 10 rfl) ?_
    refine tz_cV_n kz8 (zs_74) rfl (rest := []) (YX8_is) wk_970 (tX8_is (1 : Int64) (0 : Int64) w) rfl rfl (Nat.le_of_ble_eq_true rfl) ⟨Nat.le_of_ble_eq_true rfl, Nat.le_of_ble_eq_true rfl⟩ (zd DX8_empty 11 rfl) (fun v12 w10 e11 => ?_)
    refine tz_goto 102 (zd DX8_empty 12 rfl) rfl ?_
    exact tz_vret rfl (zd DX8_empty 29 rfl)
  refine tz_case (fun q13 => ?_) (fun q13 => ?_)
  · refine tz_tin (4) 96 (by rw [q13]; decide) (zd DX8_empty 2 rfl) (by decide) (by decide) rfl rfl ?_
    refine tz_aload_n 0 rfl (zd DX8_empty 25 rfl) ?_
    refine tz_lconst (0 : Int64) rfl (zd DX8_empty 26 rfl) ?_
    refine tz_lconst (0 : Int64) rfl (zd DX8_empty 27 rfl) ?_
    refine tz_cV_n kz8 (zs_74) rfl (rest := []) (YX8_is) wk_970 (tX8_is (0 : Int64) (0 : Int64) w) rfl rfl (Nat.le_of_ble_eq_true rfl) ⟨Nat.le_of_ble_eq_true rfl, Nat.le_of_ble_eq_true rfl⟩ (zd DX8_empty 28 rfl) (fun v16 w14 e15 => ?_)
    exact tz_vret rfl (zd DX8_empty 29 rfl)
  refine tz_case (fun q17 => ?_) (fun q17 => ?_)
  · refine tz_tin (5) 96 (by rw [q17]; decide) (zd DX8_empty 2 rfl) (by decide) (by decide) rfl rfl ?_
    refine tz_aload_n 0 rfl (zd DX8_empty 25 rfl) ?_
    refine tz_lconst (0 : Int64) rfl (zd DX8_empty 26 rfl) ?_
    refine tz_lconst (0 : Int64) rfl (zd DX8_empty 27 rfl) ?_
    refine tz_cV_n kz8 (zs_74) rfl (rest := []) (YX8_is) wk_970 (tX8_is (0 : Int64) (0 : Int64) w) rfl rfl (Nat.le_of_ble_eq_true rfl) ⟨Nat.le_of_ble_eq_true rfl, Nat.le_of_ble_eq_true rfl⟩ (zd DX8_empty 28 rfl) (fun v20 w18 e19 => ?_)
    exact tz_vret rfl (zd DX8_empty 29 rfl)
  refine tz_case (fun q21 => ?_) (fun q21 => ?_)
  · refine tz_tin (6) 70 (by rw [q21]; decide) (zd DX8_empty 2 rfl) (by decide) (by decide) rfl rfl ?_
    refine tz_aload_n 0 rfl (zd DX8_empty 13 rfl) ?_
    refine tz_ldc2_w wk_1020 (zd DX8_empty 14 rfl) ?_
    refine tz_ldc2_w wk_1020 (zd DX8_empty 15 rfl) ?_
    refine tz_cV_n kz8 (zs_74) rfl (rest := []) (YX8_is) wk_970 (tX8_is (-1 : Int64) (-1 : Int64) w) rfl rfl (Nat.le_of_ble_eq_true rfl) ⟨Nat.le_of_ble_eq_true rfl, Nat.le_of_ble_eq_true rfl⟩ (zd DX8_empty 16 rfl) (fun v24 w22 e23 => ?_)
    refine tz_goto 102 (zd DX8_empty 17 rfl) rfl ?_
    exact tz_vret rfl (zd DX8_empty 29 rfl)
  refine tz_case (fun q25 => ?_) (fun q25 => ?_)
  · refine tz_tin (7) 83 (by rw [q25]; decide) (zd DX8_empty 2 rfl) (by decide) (by decide) rfl rfl ?_
    refine tz_aload_n 0 rfl (zd DX8_empty 18 rfl) ?_
    refine tz_aload_n 0 rfl (zd DX8_empty 19 rfl) ?_
    refine tz_getI 9 kz8 (zs_74) (by decide) rfl wk_866 (zd DX8_empty 20 rfl) ?_
    refine tz_i2l (zd DX8_empty 21 rfl) ?_
    refine tz_lconst (0 : Int64) rfl (zd DX8_empty 22 rfl) ?_
    refine tz_cV_n kz8 (zs_74) rfl (rest := []) (YX8_is) wk_970 (tX8_is (zI w 74 9).toInt64 (0 : Int64) w) rfl rfl (Nat.le_of_ble_eq_true rfl) ⟨Nat.le_of_ble_eq_true rfl, Nat.le_of_ble_eq_true rfl⟩ (zd DX8_empty 23 rfl) (fun v28 w26 e27 => ?_)
    refine tz_goto 102 (zd DX8_empty 24 rfl) rfl ?_
    exact tz_vret rfl (zd DX8_empty 29 rfl)
  refine tz_tout 96 (by have eq1 := z_ne q1; have eq5 := z_ne q5; have eq9 := z_ne q9; have eq13 := z_ne q13; have eq17 := z_ne q17; have eq21 := z_ne q21; have eq25 := z_ne q25; rw [show ((1 : Int32)).toInt = 1 from rfl] at eq1; rw [show ((2 : Int32)).toInt = 2 from rfl] at eq5; rw [show ((3 : Int32)).toInt = 3 from rfl] at eq9; rw [show ((4 : Int32)).toInt = 4 from rfl] at eq13; rw [show ((5 : Int32)).toInt = 5 from rfl] at eq17; rw [show ((6 : Int32)).toInt = 6 from rfl] at eq21; rw [show ((7 : Int32)).toInt = 7 from rfl] at eq25; omega) (zd DX8_empty 2 rfl) rfl ?_
  refine tz_aload_n 0 rfl (zd DX8_empty 25 rfl) ?_
  refine tz_lconst (0 : Int64) rfl (zd DX8_empty 26 rfl) ?_
  refine tz_lconst (0 : Int64) rfl (zd DX8_empty 27 rfl) ?_
  refine tz_cV_n kz8 (zs_74) rfl (rest := []) (YX8_is) wk_970 (tX8_is (0 : Int64) (0 : Int64) w) rfl rfl (Nat.le_of_ble_eq_true rfl) ⟨Nat.le_of_ble_eq_true rfl, Nat.le_of_ble_eq_true rfl⟩ (zd DX8_empty 28 rfl) (fun v31 w29 e30 => ?_)
  exact tz_vret rfl (zd DX8_empty 29 rfl)
def QX8_lays : List (Nat × Instr × Nat) := [(0, .iconst 0, 1), (1, .istore_n 2, 1), (2, .iload_n 0, 1), (3, .istore_n 3, 1), (4, .bipush 6, 2), (6, .istore 4, 2), (8, .iconst 0, 1), (9, .istore 5, 2), (11, .iload 5, 2), (13, .iconst 4, 1), (14, .if_icmp .ge 98, 3), (17, .iload_n 3, 1), (18, .iload 4, 2), (20, .idiv, 1), (21, .istore 6, 2), (23, .iload_n 3, 1), (24, .iload 4, 2), (26, .irem, 1), (27, .istore_n 3, 1), (28, .iload 5, 2), (30, .iconst 2, 1), (31, .if_icmp .ge 13, 3), (34, .iload 4, 2), (36, .iconst 3, 1), (37, .iload 5, 2), (39, .isub, 1), (40, .idiv, 1), (41, .goto 4, 3), (44, .iconst 1, 1), (45, .istore 4, 2), (47, .iconst 0, 1), (48, .istore 7, 2), (50, .iload_n 2, 1), (51, .iload 7, 2), (53, .ishr, 1), (54, .iconst 1, 1), (55, .iand, 1), (56, .iconst 1, 1), (57, .if_icmp .eq 8, 3), (60, .iload 6, 2), (62, .ifCond .le 31, 3), (65, .iload 6, 2), (67, .iload_n 2, 1), (68, .iload 7, 2), (70, .ishr, 1), (71, .iconst 1, 1), (72, .iand, 1), (73, .ifCond .ne 7, 3), (76, .iconst 1, 1), (77, .goto 4, 3), (80, .iconst 0, 1), (81, .invokestatic 31, 3), (84, .isub, 1), (85, .istore 6, 2), (87, .iinc 7 1, 3), (90, .goto (-40), 3), (93, .aload_n 1, 1), (94, .iload 5, 2), (96, .iload 7, 2), (98, .iastore, 1), (99, .iload_n 2, 1), (100, .iconst 1, 1), (101, .iload 7, 2), (103, .ishl, 1), (104, .ior, 1), (105, .istore_n 2, 1), (106, .iinc 5 1, 3), (109, .goto (-98), 3), (112, .return_, 1)]
set_option maxRecDepth 100000 in
theorem DX8_lays : ∀ q ∈ QX8_lays, decode cX8_lays q.1 = .ok (q.2.1, q.2.2) := by decide +kernel
abbrev MX8_lays : zM := (cX8_lays, "EndSumsModel", 8, none, { frames := 1, cells := 0, slots := 0, locals := 20 })
def fX8_lays_L50 (r1 : Nat) (x2 : Int32) (x3 : Int32) (x4 : Int32) (x5 : Int32) (j11 : Int32 → Int32 → Int32 → Int32 → zW → Option (Unit × zW)) : Nat → Int32 → Int32 → zW → Option (Unit × zW)
  | 0, _, _, _ => none
  | n + 1, x6, x7, w =>
    lt (fun (w8 : zW) =>
      lt (if ¬ ((x2 >>> (x7 &&& 31)) &&& (1 : Int32)) = (0 : Int32) then (0 : Int32) else (1 : Int32)) fun v10 =>
      bd (fX8_flag v10 w8) fun v13 w11 =>
      lt (x6 - v13) fun v14 =>
      fX8_lays_L50 r1 x2 x3 x4 x5 j11 n v14 (x7 + (1 : Int32)) w11) fun j8 =>
    if ((x2 >>> (x7 &&& 31)) &&& (1 : Int32)) = (1 : Int32) then
      j8 w
    else
    if x6 ≤ (0 : Int32) then
      zg (zin x5 (zlen r1)) <| lt (zsI w r1 x5.toNatClampNeg x7) fun w17 =>
      lt (x2 ||| ((1 : Int32) <<< (x7 &&& 31))) fun v18 =>
      j11 v18 x3 x4 (x5 + (1 : Int32)) w17
    else
    j8 w
def fX8_lays_L11 (r1 : Nat) : Nat → Int32 → Int32 → Int32 → Int32 → zW → Option (Unit × zW)
  | 0, _, _, _, _, _ => none
  | n + 1, x2, x3, x4, x5, w =>
    if (4 : Int32) ≤ x5 then
      some ((), w)
    else
    if x4 = 0 then none else
    lt (x3 / x4) fun v3 =>
    if x4 = 0 then none else
    lt (x3 - x3 / x4 * x4) fun v5 =>
    lt (fun (s_45 : Int32) (w7 : zW) =>
      fX8_lays_L50 r1 x2 v5 s_45 x5 (fX8_lays_L11 r1 n) zFU v3 (0 : Int32) w7) fun j7 =>
    if (2 : Int32) ≤ x5 then
      j7 (1 : Int32) w
    else
    if ((3 : Int32) - x5) = 0 then none else
    j7 (x4 / ((3 : Int32) - x5)) w
def fX8_lays (a0 : Int32) (r1 : Nat) (w : zW) : Option (Unit × zW) :=
  fX8_lays_L11 r1 zFU (0 : Int32) a0 (6 : Int32) (0 : Int32) w
theorem YX8_lays : zYS yX8_lays MX8_lays 2 := ⟨wk_980, wk_9, wk_979, ⟨by decide, by decide, by decide +kernel⟩, rfl, rfl⟩
set_option maxHeartbeats 4000000 in
set_option maxRecDepth 100000 in
theorem lX8_lays_L50 (r1 : Nat) (hr1 : za 0 r1) (x2 : Int32) (x3 : Int32) (x4 : Int32) (x5 : Int32) (j11 : Int32 → Int32 → Int32 → Int32 → zW → Option (Unit × zW)) (hj11 : ∀ (y2 : Int32) (y3 : Int32) (y4 : Int32) (y5 : Int32) (w : zW), Tz MX8_lays (zRet zn) (j11 y2 y3 y4 y5 w) 11 [(1, .ref r1), (2, .int y2), (3, .int y3), (4, .int y4), (5, .int y5)] [] w) : ∀ (n : Nat) (x6 : Int32) (x7 : Int32) (w : zW), Tz MX8_lays (zRet zn) (fX8_lays_L50 r1 x2 x3 x4 x5 j11 n x6 x7 w) 50 [(1, .ref r1), (2, .int x2), (3, .int x3), (4, .int x4), (5, .int x5), (6, .int x6), (7, .int x7)] [] w := by
  intro n
  induction n with
  | zero => intro x6 x7 w; exact tz_eq (fX8_lays_L50.eq_1 _ _ _ _ _ _ _ _ _) tz_none
  | succ n ih =>
    intro x6 x7 w
    refine tz_eq (fX8_lays_L50.eq_2 _ _ _ _ _ _ _ _ _ _) ?_
    refine tz_iload_n 1 rfl (zd DX8_lays 32 rfl) ?_
    refine tz_iload 6 rfl (zd DX8_lays 33 rfl) ?_
    refine tz_ishr (zd DX8_lays 34 rfl) ?_
    refine tz_iconst (1 : Int32) zk_iconst_1 (zd DX8_lays 35 rfl) ?_
    refine tz_iand (zd DX8_lays 36 rfl) ?_
    refine tz_iconst (1 : Int32) zk_iconst_1 (zd DX8_lays 37 rfl) ?_
    refine tz_jp (P := fun j => ∀ (w8 : zW), Tz MX8_lays (zRet zn) (j w8) 65 [(1, .ref r1), (2, .int x2), (3, .int x3), (4, .int x4), (5, .int x5), (6, .int x6), (7, .int x7)] [] w8) ?_ (fun j8 hj8 => ?_)
    · intro w8
      refine tz_iload 5 rfl (zd DX8_lays 41 rfl) ?_
      refine tz_iload_n 1 rfl (zd DX8_lays 42 rfl) ?_
      refine tz_iload 6 rfl (zd DX8_lays 43 rfl) ?_
      refine tz_ishr (zd DX8_lays 44 rfl) ?_
      refine tz_iconst (1 : Int32) zk_iconst_1 (zd DX8_lays 45 rfl) ?_
      refine tz_iand (zd DX8_lays 46 rfl) ?_
      refine tz_dia (P := fun F => ∀ v : Int32, Tz MX8_lays (zRet zn) (F v) 81 [(1, .ref r1), (2, .int x2), (3, .int x3), (4, .int x4), (5, .int x5), (6, .int x6), (7, .int x7)] (.int v :: [.int x6]) w8) ?_ (fun _ hJ81 => ?_)
      · intro v10
        refine tz_cS_i (rest := [.int x6]) (YX8_flag) wk_981 (tX8_flag v10 w8) rfl rfl (Nat.le_of_ble_eq_true rfl) ⟨Nat.le_of_ble_eq_true rfl, Nat.le_of_ble_eq_true rfl⟩ (zd DX8_lays 51 rfl) (fun v13 w11 e12 => ?_)
        refine tz_isub (zd DX8_lays 52 rfl) ?_
        refine tz_lti (fun v14 => ?_)
        refine tz_istore [(6, .int v14), (1, .ref r1), (2, .int x2), (3, .int x3), (4, .int x4), (5, .int x5), (7, .int x7)] (Nat.le_of_ble_eq_true rfl) rfl (zd DX8_lays 53 rfl) ?_
        refine tz_iinc 6 (1 : Int32) [(7, .int (x7 + (1 : Int32))), (6, .int v14), (1, .ref r1), (2, .int x2), (3, .int x3), (4, .int x4), (5, .int x5)] rfl zk_iconst_1 (Nat.le_of_ble_eq_true rfl) rfl (zd DX8_lays 54 rfl) ?_
        refine tz_goto 50 (zd DX8_lays 55 rfl) rfl ?_
        refine tz_lv (lv2 := [(1, .ref r1), (2, .int x2), (3, .int x3), (4, .int x4), (5, .int x5), (6, .int v14), (7, .int (x7 + (1 : Int32)))]) [2, 3, 4, 5, 6, 1, 0] rfl ?_
        exact ih v14 (x7 + (1 : Int32)) w11
      refine tz_ite ?_
      refine tz_if_ne 80 (zd DX8_lays 47 rfl) rfl (fun q9 => ?_) (fun q9 => ?_)
      · refine tz_iconst (0 : Int32) zk_iconst_0 (zd DX8_lays 50 rfl) ?_
        exact hJ81 (0 : Int32)
      refine tz_iconst (1 : Int32) zk_iconst_1 (zd DX8_lays 48 rfl) ?_
      refine tz_goto 81 (zd DX8_lays 49 rfl) rfl ?_
      exact hJ81 (1 : Int32)
    refine tz_icmp_eq 65 (zd DX8_lays 38 rfl) rfl (fun q15 => ?_) (fun q15 => ?_)
    · exact hj8 w
    refine tz_iload 5 rfl (zd DX8_lays 39 rfl) ?_
    refine tz_if_le 93 (zd DX8_lays 40 rfl) rfl (fun q16 => ?_) (fun q16 => ?_)
    · refine tz_aload_n 0 rfl (zd DX8_lays 56 rfl) ?_
      refine tz_iload 4 rfl (zd DX8_lays 57 rfl) ?_
      refine tz_iload 6 rfl (zd DX8_lays 58 rfl) ?_
      refine tz_iast (hr1) (rfl) (zd DX8_lays 59 rfl) (fun w17 => ?_)
      refine tz_iload_n 1 rfl (zd DX8_lays 60 rfl) ?_
      refine tz_iconst (1 : Int32) zk_iconst_1 (zd DX8_lays 61 rfl) ?_
      refine tz_iload 6 rfl (zd DX8_lays 62 rfl) ?_
      refine tz_ishl (zd DX8_lays 63 rfl) ?_
      refine tz_ior (zd DX8_lays 64 rfl) ?_
      refine tz_lti (fun v18 => ?_)
      refine tz_istore_n [(2, .int v18), (1, .ref r1), (3, .int x3), (4, .int x4), (5, .int x5), (6, .int x6), (7, .int x7)] (Nat.le_of_ble_eq_true rfl) rfl (zd DX8_lays 65 rfl) ?_
      refine tz_iinc 4 (1 : Int32) [(5, .int (x5 + (1 : Int32))), (2, .int v18), (1, .ref r1), (3, .int x3), (4, .int x4), (6, .int x6), (7, .int x7)] rfl zk_iconst_1 (Nat.le_of_ble_eq_true rfl) rfl (zd DX8_lays 66 rfl) ?_
      refine tz_goto 11 (zd DX8_lays 67 rfl) rfl ?_
      refine tz_lv (lv2 := [(1, .ref r1), (2, .int v18), (3, .int x3), (4, .int x4), (5, .int (x5 + (1 : Int32)))]) [2, 1, 3, 4, 0] rfl ?_
      exact hj11 v18 x3 x4 (x5 + (1 : Int32)) w17
    exact hj8 w
set_option maxHeartbeats 4000000 in
set_option maxRecDepth 100000 in
theorem lX8_lays_L11 (r1 : Nat) (hr1 : za 0 r1) : ∀ (n : Nat) (x2 : Int32) (x3 : Int32) (x4 : Int32) (x5 : Int32) (w : zW), Tz MX8_lays (zRet zn) (fX8_lays_L11 r1 n x2 x3 x4 x5 w) 11 [(1, .ref r1), (2, .int x2), (3, .int x3), (4, .int x4), (5, .int x5)] [] w := by
  intro n
  induction n with
  | zero => intro x2 x3 x4 x5 w; exact tz_eq (fX8_lays_L11.eq_1 _ _ _ _ _ _) tz_none
  | succ n ih =>
    intro x2 x3 x4 x5 w
    refine tz_eq (fX8_lays_L11.eq_2 _ _ _ _ _ _ _) ?_
    refine tz_iload 4 rfl (zd DX8_lays 8 rfl) ?_
    refine tz_iconst (4 : Int32) zk_iconst_4 (zd DX8_lays 9 rfl) ?_
    refine tz_icmp_ge 112 (zd DX8_lays 10 rfl) rfl (fun q1 => ?_) (fun q1 => ?_)
    · exact tz_vret rfl (zd DX8_lays 68 rfl)
    refine tz_iload_n 2 rfl (zd DX8_lays 11 rfl) ?_
    refine tz_iload 3 rfl (zd DX8_lays 12 rfl) ?_
    refine tz_case (fun _ => tz_none) (fun q2 => ?_)
    refine tz_idiv q2 (zd DX8_lays 13 rfl) ?_
    refine tz_lti (fun v3 => ?_)
    refine tz_istore [(6, .int v3), (1, .ref r1), (2, .int x2), (3, .int x3), (4, .int x4), (5, .int x5)] (Nat.le_of_ble_eq_true rfl) rfl (zd DX8_lays 14 rfl) ?_
    refine tz_iload_n 3 rfl (zd DX8_lays 15 rfl) ?_
    refine tz_iload 4 rfl (zd DX8_lays 16 rfl) ?_
    refine tz_case (fun _ => tz_none) (fun q4 => ?_)
    refine tz_irem q4 (zd DX8_lays 17 rfl) ?_
    refine tz_lti (fun v5 => ?_)
    refine tz_istore_n [(3, .int v5), (6, .int v3), (1, .ref r1), (2, .int x2), (4, .int x4), (5, .int x5)] (Nat.le_of_ble_eq_true rfl) rfl (zd DX8_lays 18 rfl) ?_
    refine tz_iload 5 rfl (zd DX8_lays 19 rfl) ?_
    refine tz_iconst (2 : Int32) zk_iconst_2 (zd DX8_lays 20 rfl) ?_
    refine tz_jp (P := fun j => ∀ (s_45 : Int32) (w7 : zW), Tz MX8_lays (zRet zn) (j s_45 w7) 45 [(1, .ref r1), (2, .int x2), (3, .int v5), (5, .int x5), (6, .int v3)] [.int s_45] w7) ?_ (fun j7 hj7 => ?_)
    · intro s_45 w7
      refine tz_istore [(4, .int s_45), (1, .ref r1), (2, .int x2), (3, .int v5), (5, .int x5), (6, .int v3)] (Nat.le_of_ble_eq_true rfl) rfl (zd DX8_lays 29 rfl) ?_
      refine tz_iconst (0 : Int32) zk_iconst_0 (zd DX8_lays 30 rfl) ?_
      refine tz_istore [(7, .int (0 : Int32)), (4, .int s_45), (1, .ref r1), (2, .int x2), (3, .int v5), (5, .int x5), (6, .int v3)] (Nat.le_of_ble_eq_true rfl) rfl (zd DX8_lays 31 rfl) ?_
      refine tz_lv (lv2 := [(1, .ref r1), (2, .int x2), (3, .int v5), (4, .int s_45), (5, .int x5), (6, .int v3), (7, .int (0 : Int32))]) [2, 3, 4, 1, 5, 6, 0] rfl ?_
      exact lX8_lays_L50 r1 (hr1) x2 v5 s_45 x5 _ ih zFU v3 (0 : Int32) w7
    refine tz_icmp_ge 44 (zd DX8_lays 21 rfl) rfl (fun q19 => ?_) (fun q19 => ?_)
    · refine tz_iconst (1 : Int32) zk_iconst_1 (zd DX8_lays 28 rfl) ?_
      refine tz_lv (lv2 := [(1, .ref r1), (2, .int x2), (3, .int v5), (5, .int x5), (6, .int v3)]) [2, 3, 0, 5, 1] rfl ?_
      exact hj7 (1 : Int32) w
    refine tz_iload 4 rfl (zd DX8_lays 22 rfl) ?_
    refine tz_iconst (3 : Int32) zk_iconst_3 (zd DX8_lays 23 rfl) ?_
    refine tz_iload 5 rfl (zd DX8_lays 24 rfl) ?_
    refine tz_isub (zd DX8_lays 25 rfl) ?_
    refine tz_case (fun _ => tz_none) (fun q20 => ?_)
    refine tz_idiv q20 (zd DX8_lays 26 rfl) ?_
    refine tz_goto 45 (zd DX8_lays 27 rfl) rfl ?_
    refine tz_lv (lv2 := [(1, .ref r1), (2, .int x2), (3, .int v5), (5, .int x5), (6, .int v3)]) [2, 3, 0, 5, 1] rfl ?_
    exact hj7 (x4 / ((3 : Int32) - x5)) w
set_option maxHeartbeats 4000000 in
set_option maxRecDepth 100000 in
theorem tX8_lays (a0 : Int32) (r1 : Nat) (hr1 : za 0 r1) (w : zW) : Sm yX8_lays MX8_lays zn [.int a0, .ref r1] w (fX8_lays a0 r1 w) := by
  refine Sm_of (lv0 := [(0, .int a0), (1, .ref r1)]) (by decide) rfl (fun _ => Nat.le_of_ble_eq_true rfl) rfl ?_
  unfold fX8_lays
  refine tz_iconst (0 : Int32) zk_iconst_0 (zd DX8_lays 0 rfl) ?_
  refine tz_istore_n [(2, .int (0 : Int32)), (0, .int a0), (1, .ref r1)] (Nat.le_of_ble_eq_true rfl) rfl (zd DX8_lays 1 rfl) ?_
  refine tz_iload_n 1 rfl (zd DX8_lays 2 rfl) ?_
  refine tz_istore_n [(3, .int a0), (2, .int (0 : Int32)), (0, .int a0), (1, .ref r1)] (Nat.le_of_ble_eq_true rfl) rfl (zd DX8_lays 3 rfl) ?_
  refine tz_bipush (6 : Int32) zk_bipush_6 (zd DX8_lays 4 rfl) ?_
  refine tz_istore [(4, .int (6 : Int32)), (3, .int a0), (2, .int (0 : Int32)), (0, .int a0), (1, .ref r1)] (Nat.le_of_ble_eq_true rfl) rfl (zd DX8_lays 5 rfl) ?_
  refine tz_iconst (0 : Int32) zk_iconst_0 (zd DX8_lays 6 rfl) ?_
  refine tz_istore [(5, .int (0 : Int32)), (4, .int (6 : Int32)), (3, .int a0), (2, .int (0 : Int32)), (0, .int a0), (1, .ref r1)] (Nat.le_of_ble_eq_true rfl) rfl (zd DX8_lays 7 rfl) ?_
  refine tz_lv (lv2 := [(1, .ref r1), (2, .int (0 : Int32)), (3, .int a0), (4, .int (6 : Int32)), (5, .int (0 : Int32))]) [5, 3, 2, 1, 0] rfl ?_
  exact lX8_lays_L11 r1 (hr1) zFU (0 : Int32) a0 (6 : Int32) (0 : Int32) w
def QX8_leaps : List (Nat × Instr × Nat) := [(0, .iload_n 1, 1), (1, .aload_n 0, 1), (2, .getfield 51, 3), (5, .invokestatic 118, 3), (8, .iconst 0, 1), (9, .istore_n 2, 1), (10, .iconst 0, 1), (11, .istore_n 3, 1), (12, .iload_n 3, 1), (13, .iconst 4, 1), (14, .if_icmp .ge 53, 3), (17, .iload_n 3, 1), (18, .iconst 1, 1), (19, .iadd, 1), (20, .istore 4, 2), (22, .iload 4, 2), (24, .iconst 4, 1), (25, .if_icmp .ge 36, 3), (28, .iload_n 2, 1), (29, .aload_n 0, 1), (30, .getfield 51, 3), (33, .iload_n 3, 1), (34, .iaload, 1), (35, .aload_n 0, 1), (36, .getfield 51, 3), (39, .iload 4, 2), (41, .iaload, 1), (42, .if_icmp .le 7, 3), (45, .iconst 1, 1), (46, .goto 4, 3), (49, .iconst 0, 1), (50, .invokestatic 31, 3), (53, .iadd, 1), (54, .istore_n 2, 1), (55, .iinc 4 1, 3), (58, .goto (-36), 3), (61, .iinc 3 1, 3), (64, .goto (-52), 3), (67, .iload_n 2, 1), (68, .ireturn, 1)]
set_option maxRecDepth 100000 in
theorem DX8_leaps : ∀ q ∈ QX8_leaps, decode cX8_leaps q.1 = .ok (q.2.1, q.2.2) := by decide +kernel
abbrev MX8_leaps : zM := (cX8_leaps, "EndSumsModel", 5, (some .int), { frames := 2, cells := 0, slots := 0, locals := 47 })
def fX8_leaps_L22 (x3 : Int32) (j12 : Int32 → Int32 → zW → Option (Int32 × zW)) : Nat → Int32 → Int32 → zW → Option (Int32 × zW)
  | 0, _, _, _ => none
  | n + 1, x2, x4, w =>
    if (4 : Int32) ≤ x4 then
      j12 x2 (x3 + (1 : Int32)) w
    else
    zg (zin x3 4) <|
    zg (zin x4 4) <|
    lt (if (zI w 78 x3.toNatClampNeg) ≤ (zI w 78 x4.toNatClampNeg) then (0 : Int32) else (1 : Int32)) fun v8 =>
    bd (fX8_flag v8 w) fun v11 w9 =>
    lt (x2 + v11) fun v12 =>
    fX8_leaps_L22 x3 j12 n v12 (x4 + (1 : Int32)) w9
def fX8_leaps_L12  : Nat → Int32 → Int32 → zW → Option (Int32 × zW)
  | 0, _, _, _ => none
  | n + 1, x2, x3, w =>
    if (4 : Int32) ≤ x3 then
      some (x2, w)
    else
    lt (x3 + (1 : Int32)) fun v5 =>
    fX8_leaps_L22 x3 (fX8_leaps_L12 n) zFU x2 v5 w
def fX8_leaps (a1 : Int32) (w : zW) : Option (Int32 × zW) :=
  bd (fX8_lays a1 78 w) fun _ w1 =>
  fX8_leaps_L12 zFU (0 : Int32) (0 : Int32) w1
theorem YX8_leaps : zYV yX8_leaps MX8_leaps 1 := ⟨wk_977, wk_9, ⟨wk_976, ws_79⟩, ⟨by decide, by decide, by decide +kernel⟩, rfl, rfl⟩
set_option maxHeartbeats 4000000 in
set_option maxRecDepth 100000 in
theorem lX8_leaps_L22 (x3 : Int32) (j12 : Int32 → Int32 → zW → Option (Int32 × zW)) (hj12 : ∀ (y2 : Int32) (y3 : Int32) (w : zW), Tz MX8_leaps (zRet zi) (j12 y2 y3 w) 12 [(0, .ref 74), (2, .int y2), (3, .int y3)] [] w) : ∀ (n : Nat) (x2 : Int32) (x4 : Int32) (w : zW), Tz MX8_leaps (zRet zi) (fX8_leaps_L22 x3 j12 n x2 x4 w) 22 [(0, .ref 74), (2, .int x2), (3, .int x3), (4, .int x4)] [] w := by
  intro n
  induction n with
  | zero => intro x2 x4 w; exact tz_eq (fX8_leaps_L22.eq_1 _ _ _ _ _) tz_none
  | succ n ih =>
    intro x2 x4 w
    refine tz_eq (fX8_leaps_L22.eq_2 _ _ _ _ _ _) ?_
    refine tz_iload 3 rfl (zd DX8_leaps 15 rfl) ?_
    refine tz_iconst (4 : Int32) zk_iconst_4 (zd DX8_leaps 16 rfl) ?_
    refine tz_icmp_ge 61 (zd DX8_leaps 17 rfl) rfl (fun q6 => ?_) (fun q6 => ?_)
    · refine tz_iinc 2 (1 : Int32) [(3, .int (x3 + (1 : Int32))), (0, .ref 74), (2, .int x2), (4, .int x4)] rfl zk_iconst_1 (Nat.le_of_ble_eq_true rfl) rfl (zd DX8_leaps 36 rfl) ?_
      refine tz_goto 12 (zd DX8_leaps 37 rfl) rfl ?_
      refine tz_lv (lv2 := [(0, .ref 74), (2, .int x2), (3, .int (x3 + (1 : Int32)))]) [1, 2, 0] rfl ?_
      exact hj12 x2 (x3 + (1 : Int32)) w
    refine tz_iload_n 1 rfl (zd DX8_leaps 18 rfl) ?_
    refine tz_aload_n 0 rfl (zd DX8_leaps 19 rfl) ?_
    refine tz_getR 78 13 kz8 (zs_74) (by decide) (by decide) rfl wk_870 (zd DX8_leaps 20 rfl) ?_
    refine tz_iload_n 2 rfl (zd DX8_leaps 21 rfl) ?_
    refine tz_iald (zs_78.1) (zs_78.2) (zd DX8_leaps 22 rfl) ?_
    refine tz_aload_n 0 rfl (zd DX8_leaps 23 rfl) ?_
    refine tz_getR 78 13 kz8 (zs_74) (by decide) (by decide) rfl wk_870 (zd DX8_leaps 24 rfl) ?_
    refine tz_iload 3 rfl (zd DX8_leaps 25 rfl) ?_
    refine tz_iald (zs_78.1) (zs_78.2) (zd DX8_leaps 26 rfl) ?_
    refine tz_dia (P := fun F => ∀ v : Int32, Tz MX8_leaps (zRet zi) (F v) 50 [(0, .ref 74), (2, .int x2), (3, .int x3), (4, .int x4)] (.int v :: [.int x2]) w) ?_ (fun _ hJ50 => ?_)
    · intro v8
      refine tz_cS_i (rest := [.int x2]) (YX8_flag) wk_981 (tX8_flag v8 w) rfl rfl (Nat.le_of_ble_eq_true rfl) ⟨Nat.le_of_ble_eq_true rfl, Nat.le_of_ble_eq_true rfl⟩ (zd DX8_leaps 31 rfl) (fun v11 w9 e10 => ?_)
      refine tz_iadd (zd DX8_leaps 32 rfl) ?_
      refine tz_lti (fun v12 => ?_)
      refine tz_istore_n [(2, .int v12), (0, .ref 74), (3, .int x3), (4, .int x4)] (Nat.le_of_ble_eq_true rfl) rfl (zd DX8_leaps 33 rfl) ?_
      refine tz_iinc 3 (1 : Int32) [(4, .int (x4 + (1 : Int32))), (2, .int v12), (0, .ref 74), (3, .int x3)] rfl zk_iconst_1 (Nat.le_of_ble_eq_true rfl) rfl (zd DX8_leaps 34 rfl) ?_
      refine tz_goto 22 (zd DX8_leaps 35 rfl) rfl ?_
      refine tz_lv (lv2 := [(0, .ref 74), (2, .int v12), (3, .int x3), (4, .int (x4 + (1 : Int32)))]) [2, 1, 3, 0] rfl ?_
      exact ih v12 (x4 + (1 : Int32)) w9
    refine tz_ite ?_
    refine tz_icmp_le 49 (zd DX8_leaps 27 rfl) rfl (fun q7 => ?_) (fun q7 => ?_)
    · refine tz_iconst (0 : Int32) zk_iconst_0 (zd DX8_leaps 30 rfl) ?_
      exact hJ50 (0 : Int32)
    refine tz_iconst (1 : Int32) zk_iconst_1 (zd DX8_leaps 28 rfl) ?_
    refine tz_goto 50 (zd DX8_leaps 29 rfl) rfl ?_
    exact hJ50 (1 : Int32)
set_option maxHeartbeats 4000000 in
set_option maxRecDepth 100000 in
theorem lX8_leaps_L12  : ∀ (n : Nat) (x2 : Int32) (x3 : Int32) (w : zW), Tz MX8_leaps (zRet zi) (fX8_leaps_L12 n x2 x3 w) 12 [(0, .ref 74), (2, .int x2), (3, .int x3)] [] w := by
  intro n
  induction n with
  | zero => intro x2 x3 w; exact tz_eq (fX8_leaps_L12.eq_1 _ _ _) tz_none
  | succ n ih =>
    intro x2 x3 w
    refine tz_eq (fX8_leaps_L12.eq_2 _ _ _ _) ?_
    refine tz_iload_n 2 rfl (zd DX8_leaps 8 rfl) ?_
    refine tz_iconst (4 : Int32) zk_iconst_4 (zd DX8_leaps 9 rfl) ?_
    refine tz_icmp_ge 67 (zd DX8_leaps 10 rfl) rfl (fun q4 => ?_) (fun q4 => ?_)
    · refine tz_iload_n 1 rfl (zd DX8_leaps 38 rfl) ?_
      exact tz_iret rfl (zd DX8_leaps 39 rfl)
    refine tz_iload_n 2 rfl (zd DX8_leaps 11 rfl) ?_
    refine tz_iconst (1 : Int32) zk_iconst_1 (zd DX8_leaps 12 rfl) ?_
    refine tz_iadd (zd DX8_leaps 13 rfl) ?_
    refine tz_lti (fun v5 => ?_)
    refine tz_istore [(4, .int v5), (0, .ref 74), (2, .int x2), (3, .int x3)] (Nat.le_of_ble_eq_true rfl) rfl (zd DX8_leaps 14 rfl) ?_
    refine tz_lv (lv2 := [(0, .ref 74), (2, .int x2), (3, .int x3), (4, .int v5)]) [1, 2, 3, 0] rfl ?_
    exact lX8_leaps_L22 x3 _ ih zFU x2 v5 w
set_option maxHeartbeats 4000000 in
set_option maxRecDepth 100000 in
theorem tX8_leaps (a1 : Int32) (w : zW) : Sm yX8_leaps MX8_leaps zi [.ref 74, .int a1] w (fX8_leaps a1 w) := by
  refine Sm_of (lv0 := [(0, .ref 74), (1, .int a1)]) (by decide) rfl (fun _ => Nat.le_of_ble_eq_true rfl) rfl ?_
  unfold fX8_leaps
  refine tz_iload_n 1 rfl (zd DX8_leaps 0 rfl) ?_
  refine tz_aload_n 0 rfl (zd DX8_leaps 1 rfl) ?_
  refine tz_getR 78 13 kz8 (zs_74) (by decide) (by decide) rfl wk_870 (zd DX8_leaps 2 rfl) ?_
  refine tz_cS_n (rest := []) (YX8_lays) wk_978 (tX8_lays a1 78 (zs_78.1) w) rfl rfl (Nat.le_of_ble_eq_true rfl) ⟨Nat.le_of_ble_eq_true rfl, Nat.le_of_ble_eq_true rfl⟩ (zd DX8_leaps 3 rfl) (fun v3 w1 e2 => ?_)
  refine tz_iconst (0 : Int32) zk_iconst_0 (zd DX8_leaps 4 rfl) ?_
  refine tz_istore_n [(2, .int (0 : Int32)), (0, .ref 74), (1, .int a1)] (Nat.le_of_ble_eq_true rfl) rfl (zd DX8_leaps 5 rfl) ?_
  refine tz_iconst (0 : Int32) zk_iconst_0 (zd DX8_leaps 6 rfl) ?_
  refine tz_istore_n [(3, .int (0 : Int32)), (2, .int (0 : Int32)), (0, .ref 74), (1, .int a1)] (Nat.le_of_ble_eq_true rfl) rfl (zd DX8_leaps 7 rfl) ?_
  refine tz_lv (lv2 := [(0, .ref 74), (2, .int (0 : Int32)), (3, .int (0 : Int32))]) [2, 1, 0] rfl ?_
  exact lX8_leaps_L12 zFU (0 : Int32) (0 : Int32) w1
def QX8_element : List (Nat × Instr × Nat) := [(0, .aload_n 0, 1), (1, .getfield 93, 3), (4, .tableswitch 157 0 7 #[48, 157, 157, 58, 78, 119, 157, 142], 48), (52, .aload_n 0, 1), (53, .iload_n 1, 1), (54, .i2l, 1), (55, .lconst 1, 1), (56, .invokevirtual 107, 3), (59, .goto 110, 3), (62, .aload_n 0, 1), (63, .iload_n 1, 1), (64, .bipush 101, 2), (66, .idiv, 1), (67, .bipush 101, 2), (69, .irem, 1), (70, .i2l, 1), (71, .iload_n 1, 1), (72, .bipush 101, 2), (74, .irem, 1), (75, .i2l, 1), (76, .invokevirtual 107, 3), (79, .goto 90, 3), (82, .aload_n 0, 1), (83, .iload_n 1, 1), (84, .iconst 2, 1), (85, .irem, 1), (86, .ifCond .ne 7, 3), (89, .lconst 0, 1), (90, .goto 10, 3), (93, .iload_n 1, 1), (94, .iconst 2, 1), (95, .idiv, 1), (96, .bipush 10, 2), (98, .irem, 1), (99, .i2l, 1), (100, .iload_n 1, 1), (101, .iconst 2, 1), (102, .irem, 1), (103, .ifCond .ne 13, 3), (106, .iload_n 1, 1), (107, .iconst 2, 1), (108, .idiv, 1), (109, .bipush 10, 2), (111, .irem, 1), (112, .i2l, 1), (113, .goto 4, 3), (116, .lconst 0, 1), (117, .invokevirtual 107, 3), (120, .goto 49, 3), (123, .aload_n 0, 1), (124, .iload_n 1, 1), (125, .bipush 24, 2), (127, .irem, 1), (128, .i2l, 1), (129, .aload_n 0, 1), (130, .iload_n 1, 1), (131, .bipush 24, 2), (133, .irem, 1), (134, .invokevirtual 114, 3), (137, .iconst 2, 1), (138, .irem, 1), (139, .i2l, 1), (140, .invokevirtual 107, 3), (143, .goto 26, 3), (146, .aload_n 0, 1), (147, .iload_n 1, 1), (148, .aload_n 0, 1), (149, .getfield 45, 3), (152, .irem, 1), (153, .i2l, 1), (154, .lconst 0, 1), (155, .invokevirtual 107, 3), (158, .goto 11, 3), (161, .aload_n 0, 1), (162, .iload_n 1, 1), (163, .i2l, 1), (164, .iload_n 1, 1), (165, .i2l, 1), (166, .invokevirtual 107, 3), (169, .return_, 1)]
set_option maxRecDepth 100000 in
theorem DX8_element : ∀ q ∈ QX8_element, decode cX8_element q.1 = .ok (q.2.1, q.2.2) := by decide +kernel
abbrev MX8_element : zM := (cX8_element, "EndSumsModel", 2, none, { frames := 3, cells := 0, slots := 0, locals := 71 })
def fX8_element (a1 : Int32) (w : zW) : Option (Unit × zW) :=
  if (zI w 74 7) = (0 : Int32) then
    bd (fX8_is (a1).toInt64 (1 : Int64) w) fun _ w2 =>
    some ((), w2)
  else
  if (zI w 74 7) = (1 : Int32) then
    bd (fX8_is (a1).toInt64 (a1).toInt64 w) fun _ w6 =>
    some ((), w6)
  else
  if (zI w 74 7) = (2 : Int32) then
    bd (fX8_is (a1).toInt64 (a1).toInt64 w) fun _ w10 =>
    some ((), w10)
  else
  if (zI w 74 7) = (3 : Int32) then
    bd (fX8_is ((a1 / (101 : Int32)) - (a1 / (101 : Int32)) / (101 : Int32) * (101 : Int32)).toInt64 (a1 - a1 / (101 : Int32) * (101 : Int32)).toInt64 w) fun _ w14 =>
    some ((), w14)
  else
  if (zI w 74 7) = (4 : Int32) then
    lt (fun (s_100 : Int64) (w18 : zW) =>
      lt (fun (s_117 : Int64) (w19 : zW) =>
        bd (fX8_is s_100 s_117 w19) fun _ w20 =>
        some ((), w20)) fun j19 =>
      if ¬ (a1 - a1 / (2 : Int32) * (2 : Int32)) = (0 : Int32) then
        j19 (0 : Int64) w18
      else
      j19 ((a1 / (2 : Int32)) - (a1 / (2 : Int32)) / (10 : Int32) * (10 : Int32)).toInt64 w18) fun j18 =>
    if ¬ (a1 - a1 / (2 : Int32) * (2 : Int32)) = (0 : Int32) then
      j18 ((a1 / (2 : Int32)) - (a1 / (2 : Int32)) / (10 : Int32) * (10 : Int32)).toInt64 w
    else
    j18 (0 : Int64) w
  else
  if (zI w 74 7) = (5 : Int32) then
    bd (fX8_leaps (a1 - a1 / (24 : Int32) * (24 : Int32)) w) fun v28 w26 =>
    bd (fX8_is (a1 - a1 / (24 : Int32) * (24 : Int32)).toInt64 (v28 - v28 / (2 : Int32) * (2 : Int32)).toInt64 w26) fun _ w29 =>
    some ((), w29)
  else
  if (zI w 74 7) = (6 : Int32) then
    bd (fX8_is (a1).toInt64 (a1).toInt64 w) fun _ w33 =>
    some ((), w33)
  else
  if (zI w 74 7) = (7 : Int32) then
    if (zI w 74 8) = 0 then none else
    bd (fX8_is (a1 - a1 / (zI w 74 8) * (zI w 74 8)).toInt64 (0 : Int64) w) fun _ w38 =>
    some ((), w38)
  else
  bd (fX8_is (a1).toInt64 (a1).toInt64 w) fun _ w41 =>
  some ((), w41)
theorem YX8_element : zYV yX8_element MX8_element 1 := ⟨wk_969, wk_9, ⟨wk_968, ws_77⟩, ⟨by decide, by decide, by decide +kernel⟩, rfl, rfl⟩
set_option maxHeartbeats 4000000 in
set_option maxRecDepth 100000 in
theorem tX8_element (a1 : Int32) (w : zW) : Sm yX8_element MX8_element zn [.ref 74, .int a1] w (fX8_element a1 w) := by
  refine Sm_of (lv0 := [(0, .ref 74), (1, .int a1)]) (by decide) rfl (fun _ => Nat.le_of_ble_eq_true rfl) rfl ?_
  unfold fX8_element
  refine tz_aload_n 0 rfl (zd DX8_element 0 rfl) ?_
  refine tz_getI 7 kz8 (zs_74) (by decide) rfl wk_864 (zd DX8_element 1 rfl) ?_
  refine tz_case (fun q1 => ?_) (fun q1 => ?_)
  · refine tz_tin (0) 52 (by rw [q1]; decide) (zd DX8_element 2 rfl) (by decide) (by decide) rfl rfl ?_
    refine tz_aload_n 0 rfl (zd DX8_element 3 rfl) ?_
    refine tz_iload_n 1 rfl (zd DX8_element 4 rfl) ?_
    refine tz_i2l (zd DX8_element 5 rfl) ?_
    refine tz_lconst (1 : Int64) rfl (zd DX8_element 6 rfl) ?_
    refine tz_cV_n kz8 (zs_74) rfl (rest := []) (YX8_is) wk_970 (tX8_is (a1).toInt64 (1 : Int64) w) rfl rfl (Nat.le_of_ble_eq_true rfl) ⟨Nat.le_of_ble_eq_true rfl, Nat.le_of_ble_eq_true rfl⟩ (zd DX8_element 7 rfl) (fun v4 w2 e3 => ?_)
    refine tz_goto 169 (zd DX8_element 8 rfl) rfl ?_
    exact tz_vret rfl (zd DX8_element 79 rfl)
  refine tz_case (fun q5 => ?_) (fun q5 => ?_)
  · refine tz_tin (1) 161 (by rw [q5]; decide) (zd DX8_element 2 rfl) (by decide) (by decide) rfl rfl ?_
    refine tz_aload_n 0 rfl (zd DX8_element 73 rfl) ?_
    refine tz_iload_n 1 rfl (zd DX8_element 74 rfl) ?_
    refine tz_i2l (zd DX8_element 75 rfl) ?_
    refine tz_iload_n 1 rfl (zd DX8_element 76 rfl) ?_
    refine tz_i2l (zd DX8_element 77 rfl) ?_
    refine tz_cV_n kz8 (zs_74) rfl (rest := []) (YX8_is) wk_970 (tX8_is (a1).toInt64 (a1).toInt64 w) rfl rfl (Nat.le_of_ble_eq_true rfl) ⟨Nat.le_of_ble_eq_true rfl, Nat.le_of_ble_eq_true rfl⟩ (zd DX8_element 78 rfl) (fun v8 w6 e7 => ?_)
    exact tz_vret rfl (zd DX8_element 79 rfl)
  refine tz_case (fun q9 => ?_) (fun q9 => ?_)
  · refine tz_tin (2) 161 (by rw [q9]; decide) (zd DX8_element 2 rfl) (by decide) (by decide) rfl rfl ?_
    refine tz_aload_n 0 rfl (zd DX8_element 73 rfl) ?_
    refine tz_iload_n 1 rfl (zd DX8_element 74 rfl) ?_
    refine tz_i2l (zd DX8_element 75 rfl) ?_
    refine tz_iload_n 1 rfl (zd DX8_element 76 rfl) ?_
    refine tz_i2l (zd DX8_element 77 rfl) ?_
    refine tz_cV_n kz8 (zs_74) rfl (rest := []) (YX8_is) wk_970 (tX8_is (a1).toInt64 (a1).toInt64 w) rfl rfl (Nat.le_of_ble_eq_true rfl) ⟨Nat.le_of_ble_eq_true rfl, Nat.le_of_ble_eq_true rfl⟩ (zd DX8_element 78 rfl) (fun v12 w10 e11 => ?_)
    exact tz_vret rfl (zd DX8_element 79 rfl)
  refine tz_case (fun q13 => ?_) (fun q13 => ?_)
  · refine tz_tin (3) 62 (by rw [q13]; decide) (zd DX8_element 2 rfl) (by decide) (by decide) rfl rfl ?_
    refine tz_aload_n 0 rfl (zd DX8_element 9 rfl) ?_
    refine tz_iload_n 1 rfl (zd DX8_element 10 rfl) ?_
    refine tz_bipush (101 : Int32) zk_bipush_101 (zd DX8_element 11 rfl) ?_
    refine tz_idiv (by decide) (zd DX8_element 12 rfl) ?_
    refine tz_bipush (101 : Int32) zk_bipush_101 (zd DX8_element 13 rfl) ?_
    refine tz_irem (by decide) (zd DX8_element 14 rfl) ?_
    refine tz_i2l (zd DX8_element 15 rfl) ?_
    refine tz_iload_n 1 rfl (zd DX8_element 16 rfl) ?_
    refine tz_bipush (101 : Int32) zk_bipush_101 (zd DX8_element 17 rfl) ?_
    refine tz_irem (by decide) (zd DX8_element 18 rfl) ?_
    refine tz_i2l (zd DX8_element 19 rfl) ?_
    refine tz_cV_n kz8 (zs_74) rfl (rest := []) (YX8_is) wk_970 (tX8_is ((a1 / (101 : Int32)) - (a1 / (101 : Int32)) / (101 : Int32) * (101 : Int32)).toInt64 (a1 - a1 / (101 : Int32) * (101 : Int32)).toInt64 w) rfl rfl (Nat.le_of_ble_eq_true rfl) ⟨Nat.le_of_ble_eq_true rfl, Nat.le_of_ble_eq_true rfl⟩ (zd DX8_element 20 rfl) (fun v16 w14 e15 => ?_)
    refine tz_goto 169 (zd DX8_element 21 rfl) rfl ?_
    exact tz_vret rfl (zd DX8_element 79 rfl)
  refine tz_case (fun q17 => ?_) (fun q17 => ?_)
  · refine tz_tin (4) 82 (by rw [q17]; decide) (zd DX8_element 2 rfl) (by decide) (by decide) rfl rfl ?_
    refine tz_aload_n 0 rfl (zd DX8_element 22 rfl) ?_
    refine tz_iload_n 1 rfl (zd DX8_element 23 rfl) ?_
    refine tz_iconst (2 : Int32) zk_iconst_2 (zd DX8_element 24 rfl) ?_
    refine tz_irem (by decide) (zd DX8_element 25 rfl) ?_
    refine tz_jp (P := fun j => ∀ (s_100 : Int64) (w18 : zW), Tz MX8_element (zRet zn) (j s_100 w18) 100 [(1, .int a1)] [.long s_100, .ref 74] w18) ?_ (fun j18 hj18 => ?_)
    · intro s_100 w18
      refine tz_iload_n 0 rfl (zd DX8_element 35 rfl) ?_
      refine tz_iconst (2 : Int32) zk_iconst_2 (zd DX8_element 36 rfl) ?_
      refine tz_irem (by decide) (zd DX8_element 37 rfl) ?_
      refine tz_jp (P := fun j => ∀ (s_117 : Int64) (w19 : zW), Tz MX8_element (zRet zn) (j s_117 w19) 117 [] [.long s_117, .long s_100, .ref 74] w19) ?_ (fun j19 hj19 => ?_)
      · intro s_117 w19
        refine tz_cV_n kz8 (zs_74) rfl (rest := []) (YX8_is) wk_970 (tX8_is s_100 s_117 w19) rfl rfl (Nat.le_of_ble_eq_true rfl) ⟨Nat.le_of_ble_eq_true rfl, Nat.le_of_ble_eq_true rfl⟩ (zd DX8_element 47 rfl) (fun v22 w20 e21 => ?_)
        refine tz_goto 169 (zd DX8_element 48 rfl) rfl ?_
        exact tz_vret rfl (zd DX8_element 79 rfl)
      refine tz_if_ne 116 (zd DX8_element 38 rfl) rfl (fun q23 => ?_) (fun q23 => ?_)
      · refine tz_lconst (0 : Int64) rfl (zd DX8_element 46 rfl) ?_
        refine tz_lv (lv2 := []) [] rfl ?_
        exact hj19 (0 : Int64) w18
      refine tz_iload_n 0 rfl (zd DX8_element 39 rfl) ?_
      refine tz_iconst (2 : Int32) zk_iconst_2 (zd DX8_element 40 rfl) ?_
      refine tz_idiv (by decide) (zd DX8_element 41 rfl) ?_
      refine tz_bipush (10 : Int32) zk_bipush_10 (zd DX8_element 42 rfl) ?_
      refine tz_irem (by decide) (zd DX8_element 43 rfl) ?_
      refine tz_i2l (zd DX8_element 44 rfl) ?_
      refine tz_goto 117 (zd DX8_element 45 rfl) rfl ?_
      refine tz_lv (lv2 := []) [] rfl ?_
      exact hj19 ((a1 / (2 : Int32)) - (a1 / (2 : Int32)) / (10 : Int32) * (10 : Int32)).toInt64 w18
    refine tz_if_ne 93 (zd DX8_element 26 rfl) rfl (fun q24 => ?_) (fun q24 => ?_)
    · refine tz_iload_n 1 rfl (zd DX8_element 29 rfl) ?_
      refine tz_iconst (2 : Int32) zk_iconst_2 (zd DX8_element 30 rfl) ?_
      refine tz_idiv (by decide) (zd DX8_element 31 rfl) ?_
      refine tz_bipush (10 : Int32) zk_bipush_10 (zd DX8_element 32 rfl) ?_
      refine tz_irem (by decide) (zd DX8_element 33 rfl) ?_
      refine tz_i2l (zd DX8_element 34 rfl) ?_
      refine tz_lv (lv2 := [(1, .int a1)]) [1] rfl ?_
      exact hj18 ((a1 / (2 : Int32)) - (a1 / (2 : Int32)) / (10 : Int32) * (10 : Int32)).toInt64 w
    refine tz_lconst (0 : Int64) rfl (zd DX8_element 27 rfl) ?_
    refine tz_goto 100 (zd DX8_element 28 rfl) rfl ?_
    refine tz_lv (lv2 := [(1, .int a1)]) [1] rfl ?_
    exact hj18 (0 : Int64) w
  refine tz_case (fun q25 => ?_) (fun q25 => ?_)
  · refine tz_tin (5) 123 (by rw [q25]; decide) (zd DX8_element 2 rfl) (by decide) (by decide) rfl rfl ?_
    refine tz_aload_n 0 rfl (zd DX8_element 49 rfl) ?_
    refine tz_iload_n 1 rfl (zd DX8_element 50 rfl) ?_
    refine tz_bipush (24 : Int32) zk_bipush_24 (zd DX8_element 51 rfl) ?_
    refine tz_irem (by decide) (zd DX8_element 52 rfl) ?_
    refine tz_i2l (zd DX8_element 53 rfl) ?_
    refine tz_aload_n 0 rfl (zd DX8_element 54 rfl) ?_
    refine tz_iload_n 1 rfl (zd DX8_element 55 rfl) ?_
    refine tz_bipush (24 : Int32) zk_bipush_24 (zd DX8_element 56 rfl) ?_
    refine tz_irem (by decide) (zd DX8_element 57 rfl) ?_
    refine tz_cV_i kz8 (zs_74) rfl (rest := [.long (a1 - a1 / (24 : Int32) * (24 : Int32)).toInt64, .ref 74]) (YX8_leaps) wk_974 (tX8_leaps (a1 - a1 / (24 : Int32) * (24 : Int32)) w) rfl rfl (Nat.le_of_ble_eq_true rfl) ⟨Nat.le_of_ble_eq_true rfl, Nat.le_of_ble_eq_true rfl⟩ (zd DX8_element 58 rfl) (fun v28 w26 e27 => ?_)
    refine tz_iconst (2 : Int32) zk_iconst_2 (zd DX8_element 59 rfl) ?_
    refine tz_irem (by decide) (zd DX8_element 60 rfl) ?_
    refine tz_i2l (zd DX8_element 61 rfl) ?_
    refine tz_cV_n kz8 (zs_74) rfl (rest := []) (YX8_is) wk_970 (tX8_is (a1 - a1 / (24 : Int32) * (24 : Int32)).toInt64 (v28 - v28 / (2 : Int32) * (2 : Int32)).toInt64 w26) rfl rfl (Nat.le_of_ble_eq_true rfl) ⟨Nat.le_of_ble_eq_true rfl, Nat.le_of_ble_eq_true rfl⟩ (zd DX8_element 62 rfl) (fun v31 w29 e30 => ?_)
    refine tz_goto 169 (zd DX8_element 63 rfl) rfl ?_
    exact tz_vret rfl (zd DX8_element 79 rfl)
  refine tz_case (fun q32 => ?_) (fun q32 => ?_)
  · refine tz_tin (6) 161 (by rw [q32]; decide) (zd DX8_element 2 rfl) (by decide) (by decide) rfl rfl ?_
    refine tz_aload_n 0 rfl (zd DX8_element 73 rfl) ?_
    refine tz_iload_n 1 rfl (zd DX8_element 74 rfl) ?_
    refine tz_i2l (zd DX8_element 75 rfl) ?_
    refine tz_iload_n 1 rfl (zd DX8_element 76 rfl) ?_
    refine tz_i2l (zd DX8_element 77 rfl) ?_
    refine tz_cV_n kz8 (zs_74) rfl (rest := []) (YX8_is) wk_970 (tX8_is (a1).toInt64 (a1).toInt64 w) rfl rfl (Nat.le_of_ble_eq_true rfl) ⟨Nat.le_of_ble_eq_true rfl, Nat.le_of_ble_eq_true rfl⟩ (zd DX8_element 78 rfl) (fun v35 w33 e34 => ?_)
    exact tz_vret rfl (zd DX8_element 79 rfl)
  refine tz_case (fun q36 => ?_) (fun q36 => ?_)
  · refine tz_tin (7) 146 (by rw [q36]; decide) (zd DX8_element 2 rfl) (by decide) (by decide) rfl rfl ?_
    refine tz_aload_n 0 rfl (zd DX8_element 64 rfl) ?_
    refine tz_iload_n 1 rfl (zd DX8_element 65 rfl) ?_
    refine tz_aload_n 0 rfl (zd DX8_element 66 rfl) ?_
    refine tz_getI 8 kz8 (zs_74) (by decide) rfl wk_865 (zd DX8_element 67 rfl) ?_
    refine tz_case (fun _ => tz_none) (fun q37 => ?_)
    refine tz_irem q37 (zd DX8_element 68 rfl) ?_
    refine tz_i2l (zd DX8_element 69 rfl) ?_
    refine tz_lconst (0 : Int64) rfl (zd DX8_element 70 rfl) ?_
    refine tz_cV_n kz8 (zs_74) rfl (rest := []) (YX8_is) wk_970 (tX8_is (a1 - a1 / (zI w 74 8) * (zI w 74 8)).toInt64 (0 : Int64) w) rfl rfl (Nat.le_of_ble_eq_true rfl) ⟨Nat.le_of_ble_eq_true rfl, Nat.le_of_ble_eq_true rfl⟩ (zd DX8_element 71 rfl) (fun v40 w38 e39 => ?_)
    refine tz_goto 169 (zd DX8_element 72 rfl) rfl ?_
    exact tz_vret rfl (zd DX8_element 79 rfl)
  refine tz_tout 161 (by have eq1 := z_ne q1; have eq5 := z_ne q5; have eq9 := z_ne q9; have eq13 := z_ne q13; have eq17 := z_ne q17; have eq25 := z_ne q25; have eq32 := z_ne q32; have eq36 := z_ne q36; rw [show ((0 : Int32)).toInt = 0 from rfl] at eq1; rw [show ((1 : Int32)).toInt = 1 from rfl] at eq5; rw [show ((2 : Int32)).toInt = 2 from rfl] at eq9; rw [show ((3 : Int32)).toInt = 3 from rfl] at eq13; rw [show ((4 : Int32)).toInt = 4 from rfl] at eq17; rw [show ((5 : Int32)).toInt = 5 from rfl] at eq25; rw [show ((6 : Int32)).toInt = 6 from rfl] at eq32; rw [show ((7 : Int32)).toInt = 7 from rfl] at eq36; omega) (zd DX8_element 2 rfl) rfl ?_
  refine tz_aload_n 0 rfl (zd DX8_element 73 rfl) ?_
  refine tz_iload_n 1 rfl (zd DX8_element 74 rfl) ?_
  refine tz_i2l (zd DX8_element 75 rfl) ?_
  refine tz_iload_n 1 rfl (zd DX8_element 76 rfl) ?_
  refine tz_i2l (zd DX8_element 77 rfl) ?_
  refine tz_cV_n kz8 (zs_74) rfl (rest := []) (YX8_is) wk_970 (tX8_is (a1).toInt64 (a1).toInt64 w) rfl rfl (Nat.le_of_ble_eq_true rfl) ⟨Nat.le_of_ble_eq_true rfl, Nat.le_of_ble_eq_true rfl⟩ (zd DX8_element 78 rfl) (fun v43 w41 e42 => ?_)
  exact tz_vret rfl (zd DX8_element 79 rfl)
def QX8_common : List (Nat × Instr × Nat) := [(0, .lload_n 0, 1), (1, .lstore 4, 2), (3, .lload_n 2, 1), (4, .lstore 6, 2), (6, .lload 6, 2), (8, .lconst 0, 1), (9, .lcmp, 1), (10, .ifCond .eq 21, 3), (13, .lload 4, 2), (15, .lload 6, 2), (17, .lrem, 1), (18, .lstore 8, 2), (20, .lload 6, 2), (22, .lstore 4, 2), (24, .lload 8, 2), (26, .lstore 6, 2), (28, .goto (-22), 3), (31, .lload 4, 2), (33, .lreturn, 1)]
set_option maxRecDepth 100000 in
theorem DX8_common : ∀ q ∈ QX8_common, decode cX8_common q.1 = .ok (q.2.1, q.2.2) := by decide +kernel
abbrev MX8_common : zM := (cX8_common, "EndSumsModel", 10, (some .long), { frames := 0, cells := 0, slots := 0, locals := 0 })
def fX8_common_L6  : Nat → Int64 → Int64 → zW → Option (Int64 × zW)
  | 0, _, _, _ => none
  | n + 1, x4, x6, w =>
    if x6 = (0 : Int64) then
      some (x4, w)
    else
    if x6 = 0 then none else
    lt (x4 - x4 / x6 * x6) fun v3 =>
    fX8_common_L6 n x6 v3 w
def fX8_common (a0 : Int64) (a2 : Int64) (w : zW) : Option (Int64 × zW) :=
  fX8_common_L6 zFU a0 a2 w
theorem YX8_common : zYS yX8_common MX8_common 2 := ⟨wk_992, wk_9, wk_991, ⟨by decide, by decide, by decide +kernel⟩, rfl, rfl⟩
set_option maxHeartbeats 4000000 in
set_option maxRecDepth 100000 in
theorem lX8_common_L6  : ∀ (n : Nat) (x4 : Int64) (x6 : Int64) (w : zW), Tz MX8_common (zRet zl) (fX8_common_L6 n x4 x6 w) 6 [(4, .long x4), (6, .long x6)] [] w := by
  intro n
  induction n with
  | zero => intro x4 x6 w; exact tz_eq (fX8_common_L6.eq_1 _ _ _) tz_none
  | succ n ih =>
    intro x4 x6 w
    refine tz_eq (fX8_common_L6.eq_2 _ _ _ _) ?_
    refine tz_lload 1 rfl (zd DX8_common 4 rfl) ?_
    refine tz_lconst (0 : Int64) rfl (zd DX8_common 5 rfl) ?_
    refine tz_lcmp_eq 31 (zd DX8_common 6 rfl) (zd DX8_common 7 rfl) rfl (fun q1 => ?_) (fun q1 => ?_)
    · refine tz_lload 0 rfl (zd DX8_common 17 rfl) ?_
      exact tz_lret rfl (zd DX8_common 18 rfl)
    refine tz_lload 0 rfl (zd DX8_common 8 rfl) ?_
    refine tz_lload 1 rfl (zd DX8_common 9 rfl) ?_
    refine tz_case (fun _ => tz_none) (fun q2 => ?_)
    refine tz_lrem q2 (zd DX8_common 10 rfl) ?_
    refine tz_ltl (fun v3 => ?_)
    refine tz_lstore [(8, .long v3), (4, .long x4), (6, .long x6)] (Nat.le_of_ble_eq_true rfl) rfl (zd DX8_common 11 rfl) ?_
    refine tz_lload 2 rfl (zd DX8_common 12 rfl) ?_
    refine tz_lstore [(4, .long x6), (8, .long v3), (6, .long x6)] (Nat.le_of_ble_eq_true rfl) rfl (zd DX8_common 13 rfl) ?_
    refine tz_lload 1 rfl (zd DX8_common 14 rfl) ?_
    refine tz_lstore [(6, .long v3), (4, .long x6), (8, .long v3)] (Nat.le_of_ble_eq_true rfl) rfl (zd DX8_common 15 rfl) ?_
    refine tz_goto 6 (zd DX8_common 16 rfl) rfl ?_
    refine tz_lv (lv2 := [(4, .long x6), (6, .long v3)]) [1, 0] rfl ?_
    exact ih x6 v3 w
set_option maxHeartbeats 4000000 in
set_option maxRecDepth 100000 in
theorem tX8_common (a0 : Int64) (a2 : Int64) (w : zW) : Sm yX8_common MX8_common zl [.long a0, .long a2] w (fX8_common a0 a2 w) := by
  refine Sm_of (lv0 := [(0, .long a0), (2, .long a2)]) (by decide) rfl (fun _ => Nat.le_of_ble_eq_true rfl) rfl ?_
  unfold fX8_common
  refine tz_lload_n 0 rfl (zd DX8_common 0 rfl) ?_
  refine tz_lstore [(4, .long a0), (0, .long a0), (2, .long a2)] (Nat.le_of_ble_eq_true rfl) rfl (zd DX8_common 1 rfl) ?_
  refine tz_lload_n 2 rfl (zd DX8_common 2 rfl) ?_
  refine tz_lstore [(6, .long a2), (4, .long a0), (0, .long a0), (2, .long a2)] (Nat.le_of_ble_eq_true rfl) rfl (zd DX8_common 3 rfl) ?_
  refine tz_lv (lv2 := [(4, .long a0), (6, .long a2)]) [1, 0] rfl ?_
  exact lX8_common_L6 zFU a0 a2 w
def QX8_numberOf : List (Nat × Instr × Nat) := [(0, .iconst 0, 1), (1, .istore_n 1, 1), (2, .bipush 6, 2), (4, .istore_n 2, 1), (5, .iconst 0, 1), (6, .istore_n 3, 1), (7, .iload_n 3, 1), (8, .iconst 4, 1), (9, .if_icmp .ge 74, 3), (12, .iconst 0, 1), (13, .istore 4, 2), (15, .iload_n 3, 1), (16, .iconst 1, 1), (17, .iadd, 1), (18, .istore 5, 2), (20, .iload 5, 2), (22, .iconst 4, 1), (23, .if_icmp .ge 32, 3), (26, .iload 4, 2), (28, .aload_n 0, 1), (29, .iload 5, 2), (31, .iaload, 1), (32, .aload_n 0, 1), (33, .iload_n 3, 1), (34, .iaload, 1), (35, .if_icmp .ge 7, 3), (38, .iconst 1, 1), (39, .goto 4, 3), (42, .iconst 0, 1), (43, .invokestatic 31, 3), (46, .iadd, 1), (47, .istore 4, 2), (49, .iinc 5 1, 3), (52, .goto (-32), 3), (55, .iload_n 1, 1), (56, .iload 4, 2), (58, .iload_n 2, 1), (59, .imul, 1), (60, .iadd, 1), (61, .istore_n 1, 1), (62, .iload_n 3, 1), (63, .iconst 2, 1), (64, .if_icmp .ge 11, 3), (67, .iload_n 2, 1), (68, .iconst 3, 1), (69, .iload_n 3, 1), (70, .isub, 1), (71, .idiv, 1), (72, .goto 4, 3), (75, .iconst 1, 1), (76, .istore_n 2, 1), (77, .iinc 3 1, 3), (80, .goto (-73), 3), (83, .iload_n 1, 1), (84, .ireturn, 1)]
set_option maxRecDepth 100000 in
theorem DX8_numberOf : ∀ q ∈ QX8_numberOf, decode cX8_numberOf q.1 = .ok (q.2.1, q.2.2) := by decide +kernel
abbrev MX8_numberOf : zM := (cX8_numberOf, "EndSumsModel", 6, (some .int), { frames := 1, cells := 0, slots := 0, locals := 20 })
def fX8_numberOf_L20 (r0 : Nat) (x1 : Int32) (x2 : Int32) (x3 : Int32) (j7 : Int32 → Int32 → Int32 → zW → Option (Int32 × zW)) : Nat → Int32 → Int32 → zW → Option (Int32 × zW)
  | 0, _, _, _ => none
  | n + 1, x4, x5, w =>
    if (4 : Int32) ≤ x5 then
      lt (x1 + (x4 * x2)) fun v4 =>
      lt (fun (s_76 : Int32) (w6 : zW) =>
        j7 v4 s_76 (x3 + (1 : Int32)) w6) fun j6 =>
      if (2 : Int32) ≤ x3 then
        j6 (1 : Int32) w
      else
      if ((3 : Int32) - x3) = 0 then none else
      j6 (x2 / ((3 : Int32) - x3)) w
    else
    zg (zin x5 (zlen r0)) <|
    zg (zin x3 (zlen r0)) <|
    lt (if (zI w r0 x3.toNatClampNeg) ≤ (zI w r0 x5.toNatClampNeg) then (0 : Int32) else (1 : Int32)) fun v10 =>
    bd (fX8_flag v10 w) fun v13 w11 =>
    lt (x4 + v13) fun v14 =>
    fX8_numberOf_L20 r0 x1 x2 x3 j7 n v14 (x5 + (1 : Int32)) w11
def fX8_numberOf_L7 (r0 : Nat) : Nat → Int32 → Int32 → Int32 → zW → Option (Int32 × zW)
  | 0, _, _, _, _ => none
  | n + 1, x1, x2, x3, w =>
    if (4 : Int32) ≤ x3 then
      some (x1, w)
    else
    lt (x3 + (1 : Int32)) fun v2 =>
    fX8_numberOf_L20 r0 x1 x2 x3 (fX8_numberOf_L7 r0 n) zFU (0 : Int32) v2 w
def fX8_numberOf (r0 : Nat) (w : zW) : Option (Int32 × zW) :=
  fX8_numberOf_L7 r0 zFU (0 : Int32) (6 : Int32) (0 : Int32) w
theorem YX8_numberOf : zYS yX8_numberOf MX8_numberOf 1 := ⟨wk_1000, wk_9, wk_999, ⟨by decide, by decide, by decide +kernel⟩, rfl, rfl⟩
set_option maxHeartbeats 4000000 in
set_option maxRecDepth 100000 in
theorem lX8_numberOf_L20 (r0 : Nat) (hr0 : za 0 r0) (x1 : Int32) (x2 : Int32) (x3 : Int32) (j7 : Int32 → Int32 → Int32 → zW → Option (Int32 × zW)) (hj7 : ∀ (y1 : Int32) (y2 : Int32) (y3 : Int32) (w : zW), Tz MX8_numberOf (zRet zi) (j7 y1 y2 y3 w) 7 [(0, .ref r0), (1, .int y1), (2, .int y2), (3, .int y3)] [] w) : ∀ (n : Nat) (x4 : Int32) (x5 : Int32) (w : zW), Tz MX8_numberOf (zRet zi) (fX8_numberOf_L20 r0 x1 x2 x3 j7 n x4 x5 w) 20 [(0, .ref r0), (1, .int x1), (2, .int x2), (3, .int x3), (4, .int x4), (5, .int x5)] [] w := by
  intro n
  induction n with
  | zero => intro x4 x5 w; exact tz_eq (fX8_numberOf_L20.eq_1 _ _ _ _ _ _ _ _) tz_none
  | succ n ih =>
    intro x4 x5 w
    refine tz_eq (fX8_numberOf_L20.eq_2 _ _ _ _ _ _ _ _ _) ?_
    refine tz_iload 5 rfl (zd DX8_numberOf 15 rfl) ?_
    refine tz_iconst (4 : Int32) zk_iconst_4 (zd DX8_numberOf 16 rfl) ?_
    refine tz_icmp_ge 55 (zd DX8_numberOf 17 rfl) rfl (fun q3 => ?_) (fun q3 => ?_)
    · refine tz_iload_n 1 rfl (zd DX8_numberOf 34 rfl) ?_
      refine tz_iload 4 rfl (zd DX8_numberOf 35 rfl) ?_
      refine tz_iload_n 2 rfl (zd DX8_numberOf 36 rfl) ?_
      refine tz_imul (zd DX8_numberOf 37 rfl) ?_
      refine tz_iadd (zd DX8_numberOf 38 rfl) ?_
      refine tz_lti (fun v4 => ?_)
      refine tz_istore_n [(1, .int v4), (0, .ref r0), (2, .int x2), (3, .int x3), (4, .int x4), (5, .int x5)] (Nat.le_of_ble_eq_true rfl) rfl (zd DX8_numberOf 39 rfl) ?_
      refine tz_iload_n 3 rfl (zd DX8_numberOf 40 rfl) ?_
      refine tz_iconst (2 : Int32) zk_iconst_2 (zd DX8_numberOf 41 rfl) ?_
      refine tz_jp (P := fun j => ∀ (s_76 : Int32) (w6 : zW), Tz MX8_numberOf (zRet zi) (j s_76 w6) 76 [(0, .ref r0), (1, .int v4), (3, .int x3)] [.int s_76] w6) ?_ (fun j6 hj6 => ?_)
      · intro s_76 w6
        refine tz_istore_n [(2, .int s_76), (0, .ref r0), (1, .int v4), (3, .int x3)] (Nat.le_of_ble_eq_true rfl) rfl (zd DX8_numberOf 50 rfl) ?_
        refine tz_iinc 3 (1 : Int32) [(3, .int (x3 + (1 : Int32))), (2, .int s_76), (0, .ref r0), (1, .int v4)] rfl zk_iconst_1 (Nat.le_of_ble_eq_true rfl) rfl (zd DX8_numberOf 51 rfl) ?_
        refine tz_goto 7 (zd DX8_numberOf 52 rfl) rfl ?_
        refine tz_lv (lv2 := [(0, .ref r0), (1, .int v4), (2, .int s_76), (3, .int (x3 + (1 : Int32)))]) [2, 3, 1, 0] rfl ?_
        exact hj7 v4 s_76 (x3 + (1 : Int32)) w6
      refine tz_icmp_ge 75 (zd DX8_numberOf 42 rfl) rfl (fun q7 => ?_) (fun q7 => ?_)
      · refine tz_iconst (1 : Int32) zk_iconst_1 (zd DX8_numberOf 49 rfl) ?_
        refine tz_lv (lv2 := [(0, .ref r0), (1, .int v4), (3, .int x3)]) [1, 0, 3] rfl ?_
        exact hj6 (1 : Int32) w
      refine tz_iload_n 2 rfl (zd DX8_numberOf 43 rfl) ?_
      refine tz_iconst (3 : Int32) zk_iconst_3 (zd DX8_numberOf 44 rfl) ?_
      refine tz_iload_n 3 rfl (zd DX8_numberOf 45 rfl) ?_
      refine tz_isub (zd DX8_numberOf 46 rfl) ?_
      refine tz_case (fun _ => tz_none) (fun q8 => ?_)
      refine tz_idiv q8 (zd DX8_numberOf 47 rfl) ?_
      refine tz_goto 76 (zd DX8_numberOf 48 rfl) rfl ?_
      refine tz_lv (lv2 := [(0, .ref r0), (1, .int v4), (3, .int x3)]) [1, 0, 3] rfl ?_
      exact hj6 (x2 / ((3 : Int32) - x3)) w
    refine tz_iload 4 rfl (zd DX8_numberOf 18 rfl) ?_
    refine tz_aload_n 0 rfl (zd DX8_numberOf 19 rfl) ?_
    refine tz_iload 5 rfl (zd DX8_numberOf 20 rfl) ?_
    refine tz_iald (hr0) (rfl) (zd DX8_numberOf 21 rfl) ?_
    refine tz_aload_n 0 rfl (zd DX8_numberOf 22 rfl) ?_
    refine tz_iload_n 3 rfl (zd DX8_numberOf 23 rfl) ?_
    refine tz_iald (hr0) (rfl) (zd DX8_numberOf 24 rfl) ?_
    refine tz_dia (P := fun F => ∀ v : Int32, Tz MX8_numberOf (zRet zi) (F v) 43 [(0, .ref r0), (1, .int x1), (2, .int x2), (3, .int x3), (4, .int x4), (5, .int x5)] (.int v :: [.int x4]) w) ?_ (fun _ hJ43 => ?_)
    · intro v10
      refine tz_cS_i (rest := [.int x4]) (YX8_flag) wk_981 (tX8_flag v10 w) rfl rfl (Nat.le_of_ble_eq_true rfl) ⟨Nat.le_of_ble_eq_true rfl, Nat.le_of_ble_eq_true rfl⟩ (zd DX8_numberOf 29 rfl) (fun v13 w11 e12 => ?_)
      refine tz_iadd (zd DX8_numberOf 30 rfl) ?_
      refine tz_lti (fun v14 => ?_)
      refine tz_istore [(4, .int v14), (0, .ref r0), (1, .int x1), (2, .int x2), (3, .int x3), (5, .int x5)] (Nat.le_of_ble_eq_true rfl) rfl (zd DX8_numberOf 31 rfl) ?_
      refine tz_iinc 5 (1 : Int32) [(5, .int (x5 + (1 : Int32))), (4, .int v14), (0, .ref r0), (1, .int x1), (2, .int x2), (3, .int x3)] rfl zk_iconst_1 (Nat.le_of_ble_eq_true rfl) rfl (zd DX8_numberOf 32 rfl) ?_
      refine tz_goto 20 (zd DX8_numberOf 33 rfl) rfl ?_
      refine tz_lv (lv2 := [(0, .ref r0), (1, .int x1), (2, .int x2), (3, .int x3), (4, .int v14), (5, .int (x5 + (1 : Int32)))]) [2, 3, 4, 5, 1, 0] rfl ?_
      exact ih v14 (x5 + (1 : Int32)) w11
    refine tz_ite ?_
    refine tz_icmp_ge 42 (zd DX8_numberOf 25 rfl) rfl (fun q9 => ?_) (fun q9 => ?_)
    · refine tz_iconst (0 : Int32) zk_iconst_0 (zd DX8_numberOf 28 rfl) ?_
      exact hJ43 (0 : Int32)
    refine tz_iconst (1 : Int32) zk_iconst_1 (zd DX8_numberOf 26 rfl) ?_
    refine tz_goto 43 (zd DX8_numberOf 27 rfl) rfl ?_
    exact hJ43 (1 : Int32)
set_option maxHeartbeats 4000000 in
set_option maxRecDepth 100000 in
theorem lX8_numberOf_L7 (r0 : Nat) (hr0 : za 0 r0) : ∀ (n : Nat) (x1 : Int32) (x2 : Int32) (x3 : Int32) (w : zW), Tz MX8_numberOf (zRet zi) (fX8_numberOf_L7 r0 n x1 x2 x3 w) 7 [(0, .ref r0), (1, .int x1), (2, .int x2), (3, .int x3)] [] w := by
  intro n
  induction n with
  | zero => intro x1 x2 x3 w; exact tz_eq (fX8_numberOf_L7.eq_1 _ _ _ _ _) tz_none
  | succ n ih =>
    intro x1 x2 x3 w
    refine tz_eq (fX8_numberOf_L7.eq_2 _ _ _ _ _ _) ?_
    refine tz_iload_n 3 rfl (zd DX8_numberOf 6 rfl) ?_
    refine tz_iconst (4 : Int32) zk_iconst_4 (zd DX8_numberOf 7 rfl) ?_
    refine tz_icmp_ge 83 (zd DX8_numberOf 8 rfl) rfl (fun q1 => ?_) (fun q1 => ?_)
    · refine tz_iload_n 1 rfl (zd DX8_numberOf 53 rfl) ?_
      exact tz_iret rfl (zd DX8_numberOf 54 rfl)
    refine tz_iconst (0 : Int32) zk_iconst_0 (zd DX8_numberOf 9 rfl) ?_
    refine tz_istore [(4, .int (0 : Int32)), (0, .ref r0), (1, .int x1), (2, .int x2), (3, .int x3)] (Nat.le_of_ble_eq_true rfl) rfl (zd DX8_numberOf 10 rfl) ?_
    refine tz_iload_n 4 rfl (zd DX8_numberOf 11 rfl) ?_
    refine tz_iconst (1 : Int32) zk_iconst_1 (zd DX8_numberOf 12 rfl) ?_
    refine tz_iadd (zd DX8_numberOf 13 rfl) ?_
    refine tz_lti (fun v2 => ?_)
    refine tz_istore [(5, .int v2), (4, .int (0 : Int32)), (0, .ref r0), (1, .int x1), (2, .int x2), (3, .int x3)] (Nat.le_of_ble_eq_true rfl) rfl (zd DX8_numberOf 14 rfl) ?_
    refine tz_lv (lv2 := [(0, .ref r0), (1, .int x1), (2, .int x2), (3, .int x3), (4, .int (0 : Int32)), (5, .int v2)]) [2, 3, 4, 5, 1, 0] rfl ?_
    exact lX8_numberOf_L20 r0 (hr0) x1 x2 x3 _ ih zFU (0 : Int32) v2 w
set_option maxHeartbeats 4000000 in
set_option maxRecDepth 100000 in
theorem tX8_numberOf (r0 : Nat) (hr0 : za 0 r0) (w : zW) : Sm yX8_numberOf MX8_numberOf zi [.ref r0] w (fX8_numberOf r0 w) := by
  refine Sm_of (lv0 := [(0, .ref r0)]) (by decide) rfl (fun _ => Nat.le_of_ble_eq_true rfl) rfl ?_
  unfold fX8_numberOf
  refine tz_iconst (0 : Int32) zk_iconst_0 (zd DX8_numberOf 0 rfl) ?_
  refine tz_istore_n [(1, .int (0 : Int32)), (0, .ref r0)] (Nat.le_of_ble_eq_true rfl) rfl (zd DX8_numberOf 1 rfl) ?_
  refine tz_bipush (6 : Int32) zk_bipush_6 (zd DX8_numberOf 2 rfl) ?_
  refine tz_istore_n [(2, .int (6 : Int32)), (1, .int (0 : Int32)), (0, .ref r0)] (Nat.le_of_ble_eq_true rfl) rfl (zd DX8_numberOf 3 rfl) ?_
  refine tz_iconst (0 : Int32) zk_iconst_0 (zd DX8_numberOf 4 rfl) ?_
  refine tz_istore_n [(3, .int (0 : Int32)), (2, .int (6 : Int32)), (1, .int (0 : Int32)), (0, .ref r0)] (Nat.le_of_ble_eq_true rfl) rfl (zd DX8_numberOf 5 rfl) ?_
  refine tz_lv (lv2 := [(0, .ref r0), (1, .int (0 : Int32)), (2, .int (6 : Int32)), (3, .int (0 : Int32))]) [3, 2, 1, 0] rfl ?_
  exact lX8_numberOf_L7 r0 (hr0) zFU (0 : Int32) (6 : Int32) (0 : Int32) w
def QX8_arrangedBy : List (Nat × Instr × Nat) := [(0, .iload_n 1, 1), (1, .aload_n 0, 1), (2, .getfield 51, 3), (5, .invokestatic 118, 3), (8, .iload_n 2, 1), (9, .aload_n 0, 1), (10, .getfield 54, 3), (13, .invokestatic 118, 3), (16, .iconst 0, 1), (17, .istore_n 3, 1), (18, .iload_n 3, 1), (19, .iconst 4, 1), (20, .if_icmp .ge 26, 3), (23, .aload_n 0, 1), (24, .getfield 57, 3), (27, .iload_n 3, 1), (28, .aload_n 0, 1), (29, .getfield 54, 3), (32, .aload_n 0, 1), (33, .getfield 51, 3), (36, .iload_n 3, 1), (37, .iaload, 1), (38, .iaload, 1), (39, .iastore, 1), (40, .iinc 3 1, 3), (43, .goto (-25), 3), (46, .aload_n 0, 1), (47, .getfield 57, 3), (50, .invokestatic 122, 3), (53, .ireturn, 1)]
set_option maxRecDepth 100000 in
theorem DX8_arrangedBy : ∀ q ∈ QX8_arrangedBy, decode cX8_arrangedBy q.1 = .ok (q.2.1, q.2.2) := by decide +kernel
abbrev MX8_arrangedBy : zM := (cX8_arrangedBy, "EndSumsModel", 4, (some .int), { frames := 2, cells := 0, slots := 0, locals := 47 })
def fX8_arrangedBy_L18  : Nat → Int32 → zW → Option (Int32 × zW)
  | 0, _, _ => none
  | n + 1, x3, w =>
    if (4 : Int32) ≤ x3 then
      bd (fX8_numberOf 80 w) fun v10 w8 =>
      some (v10, w8)
    else
    zg (zin x3 4) <|
    zg (zin (zI w 78 x3.toNatClampNeg) 4) <|
    zg (zin x3 4) <| lt (zsI w 80 x3.toNatClampNeg (zI w 79 (zI w 78 x3.toNatClampNeg).toNatClampNeg)) fun w11 =>
    fX8_arrangedBy_L18 n (x3 + (1 : Int32)) w11
def fX8_arrangedBy (a1 : Int32) (a2 : Int32) (w : zW) : Option (Int32 × zW) :=
  bd (fX8_lays a1 78 w) fun _ w1 =>
  bd (fX8_lays a2 79 w1) fun _ w4 =>
  fX8_arrangedBy_L18 zFU (0 : Int32) w4
theorem YX8_arrangedBy : zYV yX8_arrangedBy MX8_arrangedBy 2 := ⟨wk_997, wk_9, ⟨wk_996, ws_81⟩, ⟨by decide, by decide, by decide +kernel⟩, rfl, rfl⟩
set_option maxHeartbeats 4000000 in
set_option maxRecDepth 100000 in
theorem lX8_arrangedBy_L18  : ∀ (n : Nat) (x3 : Int32) (w : zW), Tz MX8_arrangedBy (zRet zi) (fX8_arrangedBy_L18 n x3 w) 18 [(0, .ref 74), (3, .int x3)] [] w := by
  intro n
  induction n with
  | zero => intro x3 w; exact tz_eq (fX8_arrangedBy_L18.eq_1 _ _) tz_none
  | succ n ih =>
    intro x3 w
    refine tz_eq (fX8_arrangedBy_L18.eq_2 _ _ _) ?_
    refine tz_iload_n 1 rfl (zd DX8_arrangedBy 10 rfl) ?_
    refine tz_iconst (4 : Int32) zk_iconst_4 (zd DX8_arrangedBy 11 rfl) ?_
    refine tz_icmp_ge 46 (zd DX8_arrangedBy 12 rfl) rfl (fun q7 => ?_) (fun q7 => ?_)
    · refine tz_aload_n 0 rfl (zd DX8_arrangedBy 26 rfl) ?_
      refine tz_getR 80 15 kz8 (zs_74) (by decide) (by decide) rfl wk_872 (zd DX8_arrangedBy 27 rfl) ?_
      refine tz_cS_i (rest := []) (YX8_numberOf) wk_998 (tX8_numberOf 80 (zs_80.1) w) rfl rfl (Nat.le_of_ble_eq_true rfl) ⟨Nat.le_of_ble_eq_true rfl, Nat.le_of_ble_eq_true rfl⟩ (zd DX8_arrangedBy 28 rfl) (fun v10 w8 e9 => ?_)
      exact tz_iret rfl (zd DX8_arrangedBy 29 rfl)
    refine tz_aload_n 0 rfl (zd DX8_arrangedBy 13 rfl) ?_
    refine tz_getR 80 15 kz8 (zs_74) (by decide) (by decide) rfl wk_872 (zd DX8_arrangedBy 14 rfl) ?_
    refine tz_iload_n 1 rfl (zd DX8_arrangedBy 15 rfl) ?_
    refine tz_aload_n 0 rfl (zd DX8_arrangedBy 16 rfl) ?_
    refine tz_getR 79 14 kz8 (zs_74) (by decide) (by decide) rfl wk_871 (zd DX8_arrangedBy 17 rfl) ?_
    refine tz_aload_n 0 rfl (zd DX8_arrangedBy 18 rfl) ?_
    refine tz_getR 78 13 kz8 (zs_74) (by decide) (by decide) rfl wk_870 (zd DX8_arrangedBy 19 rfl) ?_
    refine tz_iload_n 1 rfl (zd DX8_arrangedBy 20 rfl) ?_
    refine tz_iald (zs_78.1) (zs_78.2) (zd DX8_arrangedBy 21 rfl) ?_
    refine tz_iald (zs_79.1) (zs_79.2) (zd DX8_arrangedBy 22 rfl) ?_
    refine tz_iast (zs_80.1) (zs_80.2) (zd DX8_arrangedBy 23 rfl) (fun w11 => ?_)
    refine tz_iinc 1 (1 : Int32) [(3, .int (x3 + (1 : Int32))), (0, .ref 74)] rfl zk_iconst_1 (Nat.le_of_ble_eq_true rfl) rfl (zd DX8_arrangedBy 24 rfl) ?_
    refine tz_goto 18 (zd DX8_arrangedBy 25 rfl) rfl ?_
    refine tz_lv (lv2 := [(0, .ref 74), (3, .int (x3 + (1 : Int32)))]) [1, 0] rfl ?_
    exact ih (x3 + (1 : Int32)) w11
set_option maxHeartbeats 4000000 in
set_option maxRecDepth 100000 in
theorem tX8_arrangedBy (a1 : Int32) (a2 : Int32) (w : zW) : Sm yX8_arrangedBy MX8_arrangedBy zi [.ref 74, .int a1, .int a2] w (fX8_arrangedBy a1 a2 w) := by
  refine Sm_of (lv0 := [(0, .ref 74), (1, .int a1), (2, .int a2)]) (by decide) rfl (fun _ => Nat.le_of_ble_eq_true rfl) rfl ?_
  unfold fX8_arrangedBy
  refine tz_iload_n 1 rfl (zd DX8_arrangedBy 0 rfl) ?_
  refine tz_aload_n 0 rfl (zd DX8_arrangedBy 1 rfl) ?_
  refine tz_getR 78 13 kz8 (zs_74) (by decide) (by decide) rfl wk_870 (zd DX8_arrangedBy 2 rfl) ?_
  refine tz_cS_n (rest := []) (YX8_lays) wk_978 (tX8_lays a1 78 (zs_78.1) w) rfl rfl (Nat.le_of_ble_eq_true rfl) ⟨Nat.le_of_ble_eq_true rfl, Nat.le_of_ble_eq_true rfl⟩ (zd DX8_arrangedBy 3 rfl) (fun v3 w1 e2 => ?_)
  refine tz_iload_n 2 rfl (zd DX8_arrangedBy 4 rfl) ?_
  refine tz_aload_n 0 rfl (zd DX8_arrangedBy 5 rfl) ?_
  refine tz_getR 79 14 kz8 (zs_74) (by decide) (by decide) rfl wk_871 (zd DX8_arrangedBy 6 rfl) ?_
  refine tz_cS_n (rest := []) (YX8_lays) wk_978 (tX8_lays a2 79 (zs_79.1) w1) rfl rfl (Nat.le_of_ble_eq_true rfl) ⟨Nat.le_of_ble_eq_true rfl, Nat.le_of_ble_eq_true rfl⟩ (zd DX8_arrangedBy 7 rfl) (fun v6 w4 e5 => ?_)
  refine tz_iconst (0 : Int32) zk_iconst_0 (zd DX8_arrangedBy 8 rfl) ?_
  refine tz_istore_n [(3, .int (0 : Int32)), (0, .ref 74), (1, .int a1), (2, .int a2)] (Nat.le_of_ble_eq_true rfl) rfl (zd DX8_arrangedBy 9 rfl) ?_
  refine tz_lv (lv2 := [(0, .ref 74), (3, .int (0 : Int32))]) [1, 0] rfl ?_
  exact lX8_arrangedBy_L18 zFU (0 : Int32) w4
def QX8_join : List (Nat × Instr × Nat) := [(0, .aload_n 0, 1), (1, .getfield 93, 3), (4, .tableswitch 207 0 6 #[44, 59, 78, 95, 121, 150, 175], 44), (48, .aload_n 0, 1), (49, .lload_n 1, 1), (50, .lload 5, 2), (52, .ladd, 1), (53, .lload_n 3, 1), (54, .lload 7, 2), (56, .ladd, 1), (57, .invokevirtual 107, 3), (60, .goto 173, 3), (63, .aload_n 0, 1), (64, .lload_n 1, 1), (65, .lload 5, 2), (67, .invokestatic 126, 3), (70, .lload_n 3, 1), (71, .lload 7, 2), (73, .invokestatic 132, 3), (76, .invokevirtual 107, 3), (79, .goto 154, 3), (82, .aload_n 0, 1), (83, .lload_n 1, 1), (84, .lload 5, 2), (86, .invokestatic 135, 3), (89, .lload_n 3, 1), (90, .lload 7, 2), (92, .lxor, 1), (93, .invokevirtual 107, 3), (96, .goto 137, 3), (99, .aload_n 0, 1), (100, .lload_n 1, 1), (101, .lload 5, 2), (103, .lmul, 1), (104, .ldc2_w 138, 3), (107, .lrem, 1), (108, .lload 5, 2), (110, .lload_n 3, 1), (111, .lmul, 1), (112, .lload 7, 2), (114, .ladd, 1), (115, .ldc2_w 138, 3), (118, .lrem, 1), (119, .invokevirtual 107, 3), (122, .goto 111, 3), (125, .lload_n 3, 1), (126, .lload 5, 2), (128, .invokestatic 126, 3), (131, .lstore 9, 2), (133, .aload_n 0, 1), (134, .lload_n 1, 1), (135, .lload 5, 2), (137, .ladd, 1), (138, .lload 9, 2), (140, .lsub, 1), (141, .lload_n 3, 1), (142, .lload 7, 2), (144, .ladd, 1), (145, .lload 9, 2), (147, .lsub, 1), (148, .invokevirtual 107, 3), (151, .goto 82, 3), (154, .aload_n 0, 1), (155, .aload_n 0, 1), (156, .lload_n 1, 1), (157, .l2i, 1), (158, .lload 5, 2), (160, .l2i, 1), (161, .invokevirtual 140, 3), (164, .i2l, 1), (165, .lload_n 3, 1), (166, .lload 7, 2), (168, .ladd, 1), (169, .ldc2_w 144, 3), (172, .lrem, 1), (173, .invokevirtual 107, 3), (176, .goto 57, 3), (179, .aload_n 0, 1), (180, .lload_n 1, 1), (181, .lconst 0, 1), (182, .lcmp, 1), (183, .ifCond .ge 8, 3), (186, .lload 5, 2), (188, .goto 4, 3), (191, .lload_n 1, 1), (192, .lload 7, 2), (194, .lconst 0, 1), (195, .lcmp, 1), (196, .ifCond .ge 7, 3), (199, .lload_n 3, 1), (200, .goto 5, 3), (203, .lload 7, 2), (205, .invokevirtual 107, 3), (208, .goto 25, 3), (211, .aload_n 0, 1), (212, .aload_n 0, 1), (213, .getfield 48, 3), (216, .aload_n 0, 1), (217, .getfield 45, 3), (220, .lload_n 1, 1), (221, .l2i, 1), (222, .imul, 1), (223, .lload 5, 2), (225, .l2i, 1), (226, .iadd, 1), (227, .iaload, 1), (228, .i2l, 1), (229, .lconst 0, 1), (230, .invokevirtual 107, 3), (233, .return_, 1)]
set_option maxRecDepth 100000 in
theorem DX8_join : ∀ q ∈ QX8_join, decode cX8_join q.1 = .ok (q.2.1, q.2.2) := by decide +kernel
abbrev MX8_join : zM := (cX8_join, "EndSumsModel", 11, none, { frames := 3, cells := 0, slots := 0, locals := 70 })
def fX8_join (a1 : Int64) (a3 : Int64) (a5 : Int64) (a7 : Int64) (w : zW) : Option (Unit × zW) :=
  if (zI w 74 7) = (0 : Int32) then
    bd (fX8_is (a1 + a5) (a3 + a7) w) fun _ w2 =>
    some ((), w2)
  else
  if (zI w 74 7) = (1 : Int32) then
    bd (fX8_is (if a5 < a1 then a5 else a1) (if a7 < a3 then a3 else a7) w) fun _ w6 =>
    some ((), w6)
  else
  if (zI w 74 7) = (2 : Int32) then
    bd (fX8_common a1 a5 w) fun v12 w10 =>
    bd (fX8_is v12 (a3 ^^^ a7) w10) fun _ w13 =>
    some ((), w13)
  else
  if (zI w 74 7) = (3 : Int32) then
    bd (fX8_is ((a1 * a5) - (a1 * a5) / (101 : Int64) * (101 : Int64)) (((a5 * a3) + a7) - ((a5 * a3) + a7) / (101 : Int64) * (101 : Int64)) w) fun _ w17 =>
    some ((), w17)
  else
  if (zI w 74 7) = (4 : Int32) then
    lt (if a5 < a3 then a5 else a3) fun v21 =>
    bd (fX8_is ((a1 + a5) - v21) ((a3 + a7) - v21) w) fun _ w22 =>
    some ((), w22)
  else
  if (zI w 74 7) = (5 : Int32) then
    bd (fX8_arrangedBy (a1.toInt32) (a5.toInt32) w) fun v28 w26 =>
    bd (fX8_is (v28).toInt64 ((a3 + a7) - (a3 + a7) / (2 : Int64) * (2 : Int64)) w26) fun _ w29 =>
    some ((), w29)
  else
  if (zI w 74 7) = (6 : Int32) then
    if (0 : Int64) ≤ a1 then
      if (0 : Int64) ≤ a7 then
        bd (fX8_is a1 a7 w) fun _ w35 =>
        some ((), w35)
      else
      bd (fX8_is a1 a3 w) fun _ w38 =>
      some ((), w38)
    else
    if (0 : Int64) ≤ a7 then
      bd (fX8_is a5 a7 w) fun _ w42 =>
      some ((), w42)
    else
    bd (fX8_is a5 a3 w) fun _ w45 =>
    some ((), w45)
  else
  zg (zin (((zI w 74 8) * (a1.toInt32)) + (a5.toInt32)) 25) <|
  bd (fX8_is (zI w 77 (((zI w 74 8) * (a1.toInt32)) + (a5.toInt32)).toNatClampNeg).toInt64 (0 : Int64) w) fun _ w48 =>
  some ((), w48)
theorem YX8_join : zYV yX8_join MX8_join 4 := ⟨wk_987, wk_9, ⟨wk_986, ws_80⟩, ⟨by decide, by decide, by decide +kernel⟩, rfl, rfl⟩
set_option maxHeartbeats 4000000 in
set_option maxRecDepth 100000 in
theorem tX8_join (a1 : Int64) (a3 : Int64) (a5 : Int64) (a7 : Int64) (w : zW) : Sm yX8_join MX8_join zn [.ref 74, .long a1, .long a3, .long a5, .long a7] w (fX8_join a1 a3 a5 a7 w) := by
  refine Sm_of (lv0 := [(0, .ref 74), (1, .long a1), (3, .long a3), (5, .long a5), (7, .long a7)]) (by decide) rfl (fun _ => Nat.le_of_ble_eq_true rfl) rfl ?_
  unfold fX8_join
  refine tz_aload_n 0 rfl (zd DX8_join 0 rfl) ?_
  refine tz_getI 7 kz8 (zs_74) (by decide) rfl wk_864 (zd DX8_join 1 rfl) ?_
  refine tz_case (fun q1 => ?_) (fun q1 => ?_)
  · refine tz_tin (0) 48 (by rw [q1]; decide) (zd DX8_join 2 rfl) (by decide) (by decide) rfl rfl ?_
    refine tz_aload_n 0 rfl (zd DX8_join 3 rfl) ?_
    refine tz_lload_n 1 rfl (zd DX8_join 4 rfl) ?_
    refine tz_lload 3 rfl (zd DX8_join 5 rfl) ?_
    refine tz_ladd (zd DX8_join 6 rfl) ?_
    refine tz_lload_n 2 rfl (zd DX8_join 7 rfl) ?_
    refine tz_lload 4 rfl (zd DX8_join 8 rfl) ?_
    refine tz_ladd (zd DX8_join 9 rfl) ?_
    refine tz_cV_n kz8 (zs_74) rfl (rest := []) (YX8_is) wk_970 (tX8_is (a1 + a5) (a3 + a7) w) rfl rfl (Nat.le_of_ble_eq_true rfl) ⟨Nat.le_of_ble_eq_true rfl, Nat.le_of_ble_eq_true rfl⟩ (zd DX8_join 10 rfl) (fun v4 w2 e3 => ?_)
    refine tz_goto 233 (zd DX8_join 11 rfl) rfl ?_
    exact tz_vret rfl (zd DX8_join 109 rfl)
  refine tz_case (fun q5 => ?_) (fun q5 => ?_)
  · refine tz_tin (1) 63 (by rw [q5]; decide) (zd DX8_join 2 rfl) (by decide) (by decide) rfl rfl ?_
    refine tz_aload_n 0 rfl (zd DX8_join 12 rfl) ?_
    refine tz_lload_n 1 rfl (zd DX8_join 13 rfl) ?_
    refine tz_lload 3 rfl (zd DX8_join 14 rfl) ?_
    refine tz_mmin_long wk_988 wk_315 wk_10 wk_316 (Nat.le_of_ble_eq_true rfl) (Nat.le_of_ble_eq_true rfl) (zd DX8_join 15 rfl) ?_
    refine tz_lload_n 2 rfl (zd DX8_join 16 rfl) ?_
    refine tz_lload 4 rfl (zd DX8_join 17 rfl) ?_
    refine tz_mmax_long wk_989 wk_318 wk_10 wk_319 (Nat.le_of_ble_eq_true rfl) (Nat.le_of_ble_eq_true rfl) (zd DX8_join 18 rfl) ?_
    refine tz_cV_n kz8 (zs_74) rfl (rest := []) (YX8_is) wk_970 (tX8_is (if a5 < a1 then a5 else a1) (if a7 < a3 then a3 else a7) w) rfl rfl (Nat.le_of_ble_eq_true rfl) ⟨Nat.le_of_ble_eq_true rfl, Nat.le_of_ble_eq_true rfl⟩ (zd DX8_join 19 rfl) (fun v8 w6 e7 => ?_)
    refine tz_goto 233 (zd DX8_join 20 rfl) rfl ?_
    exact tz_vret rfl (zd DX8_join 109 rfl)
  refine tz_case (fun q9 => ?_) (fun q9 => ?_)
  · refine tz_tin (2) 82 (by rw [q9]; decide) (zd DX8_join 2 rfl) (by decide) (by decide) rfl rfl ?_
    refine tz_aload_n 0 rfl (zd DX8_join 21 rfl) ?_
    refine tz_lload_n 1 rfl (zd DX8_join 22 rfl) ?_
    refine tz_lload 3 rfl (zd DX8_join 23 rfl) ?_
    refine tz_cS_l (rest := [.ref 74]) (YX8_common) wk_990 (tX8_common a1 a5 w) rfl rfl (Nat.le_of_ble_eq_true rfl) ⟨Nat.le_of_ble_eq_true rfl, Nat.le_of_ble_eq_true rfl⟩ (zd DX8_join 24 rfl) (fun v12 w10 e11 => ?_)
    refine tz_lload_n 2 rfl (zd DX8_join 25 rfl) ?_
    refine tz_lload 4 rfl (zd DX8_join 26 rfl) ?_
    refine tz_lxor (zd DX8_join 27 rfl) ?_
    refine tz_cV_n kz8 (zs_74) rfl (rest := []) (YX8_is) wk_970 (tX8_is v12 (a3 ^^^ a7) w10) rfl rfl (Nat.le_of_ble_eq_true rfl) ⟨Nat.le_of_ble_eq_true rfl, Nat.le_of_ble_eq_true rfl⟩ (zd DX8_join 28 rfl) (fun v15 w13 e14 => ?_)
    refine tz_goto 233 (zd DX8_join 29 rfl) rfl ?_
    exact tz_vret rfl (zd DX8_join 109 rfl)
  refine tz_case (fun q16 => ?_) (fun q16 => ?_)
  · refine tz_tin (3) 99 (by rw [q16]; decide) (zd DX8_join 2 rfl) (by decide) (by decide) rfl rfl ?_
    refine tz_aload_n 0 rfl (zd DX8_join 30 rfl) ?_
    refine tz_lload_n 1 rfl (zd DX8_join 31 rfl) ?_
    refine tz_lload 3 rfl (zd DX8_join 32 rfl) ?_
    refine tz_lmul (zd DX8_join 33 rfl) ?_
    refine tz_ldc2_w wk_993 (zd DX8_join 34 rfl) ?_
    refine tz_lrem (by decide) (zd DX8_join 35 rfl) ?_
    refine tz_lload 3 rfl (zd DX8_join 36 rfl) ?_
    refine tz_lload_n 2 rfl (zd DX8_join 37 rfl) ?_
    refine tz_lmul (zd DX8_join 38 rfl) ?_
    refine tz_lload 4 rfl (zd DX8_join 39 rfl) ?_
    refine tz_ladd (zd DX8_join 40 rfl) ?_
    refine tz_ldc2_w wk_993 (zd DX8_join 41 rfl) ?_
    refine tz_lrem (by decide) (zd DX8_join 42 rfl) ?_
    refine tz_cV_n kz8 (zs_74) rfl (rest := []) (YX8_is) wk_970 (tX8_is ((a1 * a5) - (a1 * a5) / (101 : Int64) * (101 : Int64)) (((a5 * a3) + a7) - ((a5 * a3) + a7) / (101 : Int64) * (101 : Int64)) w) rfl rfl (Nat.le_of_ble_eq_true rfl) ⟨Nat.le_of_ble_eq_true rfl, Nat.le_of_ble_eq_true rfl⟩ (zd DX8_join 43 rfl) (fun v19 w17 e18 => ?_)
    refine tz_goto 233 (zd DX8_join 44 rfl) rfl ?_
    exact tz_vret rfl (zd DX8_join 109 rfl)
  refine tz_case (fun q20 => ?_) (fun q20 => ?_)
  · refine tz_tin (4) 125 (by rw [q20]; decide) (zd DX8_join 2 rfl) (by decide) (by decide) rfl rfl ?_
    refine tz_lload_n 2 rfl (zd DX8_join 45 rfl) ?_
    refine tz_lload 3 rfl (zd DX8_join 46 rfl) ?_
    refine tz_mmin_long wk_988 wk_315 wk_10 wk_316 (Nat.le_of_ble_eq_true rfl) (Nat.le_of_ble_eq_true rfl) (zd DX8_join 47 rfl) ?_
    refine tz_ltl (fun v21 => ?_)
    refine tz_lstore [(9, .long v21), (0, .ref 74), (1, .long a1), (3, .long a3), (5, .long a5), (7, .long a7)] (Nat.le_of_ble_eq_true rfl) rfl (zd DX8_join 48 rfl) ?_
    refine tz_aload_n 1 rfl (zd DX8_join 49 rfl) ?_
    refine tz_lload_n 2 rfl (zd DX8_join 50 rfl) ?_
    refine tz_lload 4 rfl (zd DX8_join 51 rfl) ?_
    refine tz_ladd (zd DX8_join 52 rfl) ?_
    refine tz_lload 0 rfl (zd DX8_join 53 rfl) ?_
    refine tz_lsub (zd DX8_join 54 rfl) ?_
    refine tz_lload_n 3 rfl (zd DX8_join 55 rfl) ?_
    refine tz_lload 5 rfl (zd DX8_join 56 rfl) ?_
    refine tz_ladd (zd DX8_join 57 rfl) ?_
    refine tz_lload 0 rfl (zd DX8_join 58 rfl) ?_
    refine tz_lsub (zd DX8_join 59 rfl) ?_
    refine tz_cV_n kz8 (zs_74) rfl (rest := []) (YX8_is) wk_970 (tX8_is ((a1 + a5) - v21) ((a3 + a7) - v21) w) rfl rfl (Nat.le_of_ble_eq_true rfl) ⟨Nat.le_of_ble_eq_true rfl, Nat.le_of_ble_eq_true rfl⟩ (zd DX8_join 60 rfl) (fun v24 w22 e23 => ?_)
    refine tz_goto 233 (zd DX8_join 61 rfl) rfl ?_
    exact tz_vret rfl (zd DX8_join 109 rfl)
  refine tz_case (fun q25 => ?_) (fun q25 => ?_)
  · refine tz_tin (5) 154 (by rw [q25]; decide) (zd DX8_join 2 rfl) (by decide) (by decide) rfl rfl ?_
    refine tz_aload_n 0 rfl (zd DX8_join 62 rfl) ?_
    refine tz_aload_n 0 rfl (zd DX8_join 63 rfl) ?_
    refine tz_lload_n 1 rfl (zd DX8_join 64 rfl) ?_
    refine tz_l2i (zd DX8_join 65 rfl) ?_
    refine tz_lload 3 rfl (zd DX8_join 66 rfl) ?_
    refine tz_l2i (zd DX8_join 67 rfl) ?_
    refine tz_cV_i kz8 (zs_74) rfl (rest := [.ref 74]) (YX8_arrangedBy) wk_994 (tX8_arrangedBy (a1.toInt32) (a5.toInt32) w) rfl rfl (Nat.le_of_ble_eq_true rfl) ⟨Nat.le_of_ble_eq_true rfl, Nat.le_of_ble_eq_true rfl⟩ (zd DX8_join 68 rfl) (fun v28 w26 e27 => ?_)
    refine tz_i2l (zd DX8_join 69 rfl) ?_
    refine tz_lload_n 2 rfl (zd DX8_join 70 rfl) ?_
    refine tz_lload 4 rfl (zd DX8_join 71 rfl) ?_
    refine tz_ladd (zd DX8_join 72 rfl) ?_
    refine tz_ldc2_w wk_1001 (zd DX8_join 73 rfl) ?_
    refine tz_lrem (by decide) (zd DX8_join 74 rfl) ?_
    refine tz_cV_n kz8 (zs_74) rfl (rest := []) (YX8_is) wk_970 (tX8_is (v28).toInt64 ((a3 + a7) - (a3 + a7) / (2 : Int64) * (2 : Int64)) w26) rfl rfl (Nat.le_of_ble_eq_true rfl) ⟨Nat.le_of_ble_eq_true rfl, Nat.le_of_ble_eq_true rfl⟩ (zd DX8_join 75 rfl) (fun v31 w29 e30 => ?_)
    refine tz_goto 233 (zd DX8_join 76 rfl) rfl ?_
    exact tz_vret rfl (zd DX8_join 109 rfl)
  refine tz_case (fun q32 => ?_) (fun q32 => ?_)
  · refine tz_tin (6) 179 (by rw [q32]; decide) (zd DX8_join 2 rfl) (by decide) (by decide) rfl rfl ?_
    refine tz_aload_n 0 rfl (zd DX8_join 77 rfl) ?_
    refine tz_lload_n 1 rfl (zd DX8_join 78 rfl) ?_
    refine tz_lconst (0 : Int64) rfl (zd DX8_join 79 rfl) ?_
    refine tz_lcmp_ge 191 (zd DX8_join 80 rfl) (zd DX8_join 81 rfl) rfl (fun q33 => ?_) (fun q33 => ?_)
    · refine tz_lload_n 1 rfl (zd DX8_join 84 rfl) ?_
      refine tz_lload 4 rfl (zd DX8_join 85 rfl) ?_
      refine tz_lconst (0 : Int64) rfl (zd DX8_join 86 rfl) ?_
      refine tz_lcmp_ge 203 (zd DX8_join 87 rfl) (zd DX8_join 88 rfl) rfl (fun q34 => ?_) (fun q34 => ?_)
      · refine tz_lload 4 rfl (zd DX8_join 91 rfl) ?_
        refine tz_cV_n kz8 (zs_74) rfl (rest := []) (YX8_is) wk_970 (tX8_is a1 a7 w) rfl rfl (Nat.le_of_ble_eq_true rfl) ⟨Nat.le_of_ble_eq_true rfl, Nat.le_of_ble_eq_true rfl⟩ (zd DX8_join 92 rfl) (fun v37 w35 e36 => ?_)
        refine tz_goto 233 (zd DX8_join 93 rfl) rfl ?_
        exact tz_vret rfl (zd DX8_join 109 rfl)
      refine tz_lload_n 2 rfl (zd DX8_join 89 rfl) ?_
      refine tz_goto 205 (zd DX8_join 90 rfl) rfl ?_
      refine tz_cV_n kz8 (zs_74) rfl (rest := []) (YX8_is) wk_970 (tX8_is a1 a3 w) rfl rfl (Nat.le_of_ble_eq_true rfl) ⟨Nat.le_of_ble_eq_true rfl, Nat.le_of_ble_eq_true rfl⟩ (zd DX8_join 92 rfl) (fun v40 w38 e39 => ?_)
      refine tz_goto 233 (zd DX8_join 93 rfl) rfl ?_
      exact tz_vret rfl (zd DX8_join 109 rfl)
    refine tz_lload 3 rfl (zd DX8_join 82 rfl) ?_
    refine tz_goto 192 (zd DX8_join 83 rfl) rfl ?_
    refine tz_lload 4 rfl (zd DX8_join 85 rfl) ?_
    refine tz_lconst (0 : Int64) rfl (zd DX8_join 86 rfl) ?_
    refine tz_lcmp_ge 203 (zd DX8_join 87 rfl) (zd DX8_join 88 rfl) rfl (fun q41 => ?_) (fun q41 => ?_)
    · refine tz_lload 4 rfl (zd DX8_join 91 rfl) ?_
      refine tz_cV_n kz8 (zs_74) rfl (rest := []) (YX8_is) wk_970 (tX8_is a5 a7 w) rfl rfl (Nat.le_of_ble_eq_true rfl) ⟨Nat.le_of_ble_eq_true rfl, Nat.le_of_ble_eq_true rfl⟩ (zd DX8_join 92 rfl) (fun v44 w42 e43 => ?_)
      refine tz_goto 233 (zd DX8_join 93 rfl) rfl ?_
      exact tz_vret rfl (zd DX8_join 109 rfl)
    refine tz_lload_n 2 rfl (zd DX8_join 89 rfl) ?_
    refine tz_goto 205 (zd DX8_join 90 rfl) rfl ?_
    refine tz_cV_n kz8 (zs_74) rfl (rest := []) (YX8_is) wk_970 (tX8_is a5 a3 w) rfl rfl (Nat.le_of_ble_eq_true rfl) ⟨Nat.le_of_ble_eq_true rfl, Nat.le_of_ble_eq_true rfl⟩ (zd DX8_join 92 rfl) (fun v47 w45 e46 => ?_)
    refine tz_goto 233 (zd DX8_join 93 rfl) rfl ?_
    exact tz_vret rfl (zd DX8_join 109 rfl)
  refine tz_tout 211 (by have eq1 := z_ne q1; have eq5 := z_ne q5; have eq9 := z_ne q9; have eq16 := z_ne q16; have eq20 := z_ne q20; have eq25 := z_ne q25; have eq32 := z_ne q32; rw [show ((0 : Int32)).toInt = 0 from rfl] at eq1; rw [show ((1 : Int32)).toInt = 1 from rfl] at eq5; rw [show ((2 : Int32)).toInt = 2 from rfl] at eq9; rw [show ((3 : Int32)).toInt = 3 from rfl] at eq16; rw [show ((4 : Int32)).toInt = 4 from rfl] at eq20; rw [show ((5 : Int32)).toInt = 5 from rfl] at eq25; rw [show ((6 : Int32)).toInt = 6 from rfl] at eq32; omega) (zd DX8_join 2 rfl) rfl ?_
  refine tz_aload_n 0 rfl (zd DX8_join 94 rfl) ?_
  refine tz_aload_n 0 rfl (zd DX8_join 95 rfl) ?_
  refine tz_getR 77 10 kz8 (zs_74) (by decide) (by decide) rfl wk_867 (zd DX8_join 96 rfl) ?_
  refine tz_aload_n 0 rfl (zd DX8_join 97 rfl) ?_
  refine tz_getI 8 kz8 (zs_74) (by decide) rfl wk_865 (zd DX8_join 98 rfl) ?_
  refine tz_lload_n 1 rfl (zd DX8_join 99 rfl) ?_
  refine tz_l2i (zd DX8_join 100 rfl) ?_
  refine tz_imul (zd DX8_join 101 rfl) ?_
  refine tz_lload 3 rfl (zd DX8_join 102 rfl) ?_
  refine tz_l2i (zd DX8_join 103 rfl) ?_
  refine tz_iadd (zd DX8_join 104 rfl) ?_
  refine tz_iald (zs_77.1) (zs_77.2) (zd DX8_join 105 rfl) ?_
  refine tz_i2l (zd DX8_join 106 rfl) ?_
  refine tz_lconst (0 : Int64) rfl (zd DX8_join 107 rfl) ?_
  refine tz_cV_n kz8 (zs_74) rfl (rest := []) (YX8_is) wk_970 (tX8_is (zI w 77 (((zI w 74 8) * (a1.toInt32)) + (a5.toInt32)).toNatClampNeg).toInt64 (0 : Int64) w) rfl rfl (Nat.le_of_ble_eq_true rfl) ⟨Nat.le_of_ble_eq_true rfl, Nat.le_of_ble_eq_true rfl⟩ (zd DX8_join 108 rfl) (fun v50 w48 e49 => ?_)
  exact tz_vret rfl (zd DX8_join 109 rfl)
