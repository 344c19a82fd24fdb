def QX7_end : List (Nat × Instr × Nat) := [(0, .iload_n 1, 1), (1, .ifCond .lt 14, 3), (4, .iload_n 1, 1), (5, .aload_n 0, 1), (6, .getfield 46, 3), (9, .getfield 82, 3), (12, .if_icmp .le 5, 3), (15, .iconst 0, 1), (16, .ireturn, 1), (17, .aload_n 0, 1), (18, .getfield 46, 3), (21, .iload_n 1, 1), (22, .putfield 82, 3), (25, .iconst 1, 1), (26, .ireturn, 1)]
set_option maxRecDepth 100000 in
theorem DX7_end : ∀ q ∈ QX7_end, decode cX7_end q.1 = .ok (q.2.1, q.2.2) := by decide +kernel
abbrev MX7_end : zM := (cX7_end, "EndSums", 2, (some .boolean), { frames := 0, cells := 0, slots := 0, locals := 0 })
def fX7_end (a1 : Int32) (w : zW) : Option (Bool × zW) :=
  if a1 < (0 : Int32) then
    some (false, w)
  else
  if a1 ≤ (zI w 64 0) then
    lt (zsI w 64 0 a1) fun w3 =>
    some (true, w3)
  else
  some (false, w)
theorem YX7_end : zYV yX7_end MX7_end 1 := ⟨wk_613, wk_1, ⟨wk_611, wk_612⟩, ⟨by decide, by decide, by decide +kernel⟩, rfl, rfl⟩
set_option maxHeartbeats 4000000 in
set_option maxRecDepth 100000 in
theorem tX7_end (a1 : Int32) (w : zW) : Sm yX7_end MX7_end zz [.ref 0, .int a1] w (fX7_end a1 w) := by
  refine Sm_of (lv0 := [(0, .ref 0), (1, .int a1)]) (by decide) rfl (fun _ => Nat.le_of_ble_eq_true rfl) rfl ?_
  unfold fX7_end
  refine tz_iload_n 1 rfl (zd DX7_end 0 rfl) ?_
  refine tz_if_lt 15 (zd DX7_end 1 rfl) rfl (fun q1 => ?_) (fun q1 => ?_)
  · refine tz_iconst (0 : Int32) zk_iconst_0 (zd DX7_end 7 rfl) ?_
    exact tz_zret0 rfl (zd DX7_end 8 rfl)
  refine tz_iload_n 1 rfl (zd DX7_end 2 rfl) ?_
  refine tz_aload_n 0 rfl (zd DX7_end 3 rfl) ?_
  refine tz_getR 64 5 kz7 (zs_0) (by decide) (by decide) rfl wk_189 (zd DX7_end 4 rfl) ?_
  refine tz_getIN 0 kz5 (zs_64) (by decide) rfl wn_150 (zd DX7_end 5 rfl) ?_
  refine tz_icmp_le 17 (zd DX7_end 6 rfl) rfl (fun q2 => ?_) (fun q2 => ?_)
  · refine tz_aload_n 0 rfl (zd DX7_end 9 rfl) ?_
    refine tz_getR 64 5 kz7 (zs_0) (by decide) (by decide) rfl wk_189 (zd DX7_end 10 rfl) ?_
    refine tz_iload_n 1 rfl (zd DX7_end 11 rfl) ?_
    refine tz_putIN 0 kz5 (zs_64) (by decide) rfl rfl wn_150 (zd DX7_end 12 rfl) (fun w3 => ?_)
    refine tz_iconst (1 : Int32) zk_iconst_1 (zd DX7_end 13 rfl) ?_
    exact tz_zret1 rfl (zd DX7_end 14 rfl)
  refine tz_iconst (0 : Int32) zk_iconst_0 (zd DX7_end 7 rfl) ?_
  exact tz_zret0 rfl (zd DX7_end 8 rfl)
def QX7_sum : List (Nat × Instr × Nat) := [(0, .aload_n 0, 1), (1, .iload_n 1, 1), (2, .invokevirtual 158, 3), (5, .astore_n 2, 1), (6, .aload_n 2, 1), (7, .ifnonnull 5, 3), (10, .iconst (-1), 1), (11, .ireturn, 1), (12, .aload_n 0, 1), (13, .aload_n 2, 1), (14, .iconst 0, 1), (15, .aload_n 2, 1), (16, .invokevirtual 165, 3), (19, .invokevirtual 206, 3), (22, .aload_n 0, 1), (23, .aload_n 0, 1), (24, .getfield 10, 3), (27, .getfield 116, 3), (30, .aload_n 0, 1), (31, .getfield 10, 3), (34, .getfield 120, 3), (37, .invokevirtual 135, 3), (40, .aload_n 2, 1), (41, .invokevirtual 165, 3), (44, .ireturn, 1)]
set_option maxRecDepth 100000 in
theorem DX7_sum : ∀ q ∈ QX7_sum, decode cX7_sum q.1 = .ok (q.2.1, q.2.2) := by decide +kernel
abbrev MX7_sum : zM := (cX7_sum, "EndSums", 3, (some .int), { frames := 4, cells := 0, slots := 0, locals := 105 })
def fX7_sum (a1 : Int32) (w : zW) : Option (Int32 × zW) :=
  bd (fX7_lineAt a1 w) fun o3 w1 => oc o3 (
    some ((-1 : Int32), w1)) fun l4 =>
    bd (fX1_size l4 w1) fun v7 w5 =>
    bd (fX7_sumUp l4 (0 : Int32) v7 w5) fun _ w8 =>
    bd (fX7_tell_ (zL w8 1 2) (zL w8 1 3) w8) fun _ w11 =>
    bd (fX1_size l4 w11) fun v16 w14 =>
    some (v16, w14)
theorem YX7_sum : zYV yX7_sum MX7_sum 1 := ⟨wk_617, wk_1, ⟨wk_615, wk_616⟩, ⟨by decide, by decide, by decide +kernel⟩, rfl, rfl⟩
set_option maxHeartbeats 4000000 in
set_option maxRecDepth 100000 in
theorem tX7_sum (a1 : Int32) (w : zW) : Sm yX7_sum MX7_sum zi [.ref 0, .int a1] w (fX7_sum a1 w) := by
  refine Sm_of (lv0 := [(0, .ref 0), (1, .int a1)]) (by decide) rfl (fun _ => Nat.le_of_ble_eq_true rfl) rfl ?_
  unfold fX7_sum
  refine tz_aload_n 0 rfl (zd DX7_sum 0 rfl) ?_
  refine tz_iload_n 1 rfl (zd DX7_sum 1 rfl) ?_
  refine tz_cV_o kz7 (zs_0) rfl (rest := []) (YX7_lineAt) wk_226 (tX7_lineAt a1 w) rfl rfl (Nat.le_of_ble_eq_true rfl) ⟨Nat.le_of_ble_eq_true rfl, Nat.le_of_ble_eq_true rfl⟩ (zd DX7_sum 2 rfl) (fun w1 e2 => ?_) (fun l4 w1 e2 => ?_)
  · refine tz_astore_nN [(2, .null), (0, .ref 0), (1, .int a1)] (Nat.le_of_ble_eq_true rfl) rfl (zd DX7_sum 3 rfl) ?_
    refine tz_aload_nN 0 rfl (zd DX7_sum 4 rfl) ?_
    refine tz_ifnonnullN (zd DX7_sum 5 rfl) ?_
    refine tz_iconst (-1 : Int32) zk_iconst_m1 (zd DX7_sum 6 rfl) ?_
    exact tz_iret rfl (zd DX7_sum 7 rfl)
  refine tz_astore_n [(2, .ref l4), (0, .ref 0), (1, .int a1)] (Nat.le_of_ble_eq_true rfl) rfl (zd DX7_sum 3 rfl) ?_
  refine tz_aload_n 0 rfl (zd DX7_sum 4 rfl) ?_
  refine tz_ifnonnull 12 (zd DX7_sum 5 rfl) rfl ?_
  refine tz_aload_n 1 rfl (zd DX7_sum 8 rfl) ?_
  refine tz_aload_n 0 rfl (zd DX7_sum 9 rfl) ?_
  refine tz_iconst (0 : Int32) zk_iconst_0 (zd DX7_sum 10 rfl) ?_
  refine tz_aload_n 0 rfl (zd DX7_sum 11 rfl) ?_
  refine tz_cVN_i kz1 (fX7_lineAt_c e2) rfl (rest := [.int (0 : Int32), .ref l4, .ref 0]) (YX1_size) wn_486 (tX1_size l4 (fX7_lineAt_c e2) w1) rfl rfl (Nat.le_of_ble_eq_true rfl) ⟨Nat.le_of_ble_eq_true rfl, Nat.le_of_ble_eq_true rfl⟩ (zd DX7_sum 12 rfl) (fun v7 w5 e6 => ?_)
  refine tz_cV_n kz7 (zs_0) rfl (rest := []) (YX7_sumUp) wk_559 (tX7_sumUp l4 (fX7_lineAt_c e2) (0 : Int32) v7 w5) rfl rfl (Nat.le_of_ble_eq_true rfl) ⟨Nat.le_of_ble_eq_true rfl, Nat.le_of_ble_eq_true rfl⟩ (zd DX7_sum 13 rfl) (fun v10 w8 e9 => ?_)
  refine tz_aload_n 1 rfl (zd DX7_sum 14 rfl) ?_
  refine tz_aload_n 1 rfl (zd DX7_sum 15 rfl) ?_
  refine tz_getR 1 0 kz7 (zs_0) (by decide) (by decide) rfl wk_184 (zd DX7_sum 16 rfl) ?_
  refine tz_getJN 2 kz0 (zs_1) (by decide) rfl wn_56 (zd DX7_sum 17 rfl) ?_
  refine tz_aload_n 1 rfl (zd DX7_sum 18 rfl) ?_
  refine tz_getR 1 0 kz7 (zs_0) (by decide) (by decide) rfl wk_184 (zd DX7_sum 19 rfl) ?_
  refine tz_getJN 3 kz0 (zs_1) (by decide) rfl wn_59 (zd DX7_sum 20 rfl) ?_
  refine tz_cV_n kz7 (zs_0) rfl (rest := []) (YX7_tell_) wk_387 (tX7_tell_ (zL w8 1 2) (zL w8 1 3) w8) rfl rfl (Nat.le_of_ble_eq_true rfl) ⟨Nat.le_of_ble_eq_true rfl, Nat.le_of_ble_eq_true rfl⟩ (zd DX7_sum 21 rfl) (fun v13 w11 e12 => ?_)
  refine tz_aload_n 0 rfl (zd DX7_sum 22 rfl) ?_
  refine tz_cVN_i kz1 (fX7_lineAt_c e2) rfl (rest := []) (YX1_size) wn_486 (tX1_size l4 (fX7_lineAt_c e2) w11) rfl rfl (Nat.le_of_ble_eq_true rfl) ⟨Nat.le_of_ble_eq_true rfl, Nat.le_of_ble_eq_true rfl⟩ (zd DX7_sum 23 rfl) (fun v16 w14 e15 => ?_)
  exact tz_iret rfl (zd DX7_sum 24 rfl)
def QX7_part : List (Nat × Instr × Nat) := [(0, .aload_n 0, 1), (1, .iload_n 1, 1), (2, .invokevirtual 158, 3), (5, .astore 4, 2), (7, .aload 4, 2), (9, .ifnonnull 5, 3), (12, .iconst (-1), 1), (13, .ireturn, 1), (14, .iload_n 2, 1), (15, .ifCond .lt 17, 3), (18, .iload_n 3, 1), (19, .iload_n 2, 1), (20, .if_icmp .lt 12, 3), (23, .iload_n 3, 1), (24, .aload 4, 2), (26, .invokevirtual 165, 3), (29, .if_icmp .le 6, 3), (32, .bipush (-2), 2), (34, .ireturn, 1), (35, .aload_n 0, 1), (36, .aload 4, 2), (38, .iload_n 2, 1), (39, .iload_n 3, 1), (40, .invokevirtual 206, 3), (43, .aload_n 0, 1), (44, .aload_n 0, 1), (45, .getfield 10, 3), (48, .getfield 116, 3), (51, .aload_n 0, 1), (52, .getfield 10, 3), (55, .getfield 120, 3), (58, .invokevirtual 135, 3), (61, .iload_n 3, 1), (62, .iload_n 2, 1), (63, .isub, 1), (64, .ireturn, 1)]
set_option maxRecDepth 100000 in
theorem DX7_part : ∀ q ∈ QX7_part, decode cX7_part q.1 = .ok (q.2.1, q.2.2) := by decide +kernel
abbrev MX7_part : zM := (cX7_part, "EndSums", 5, (some .int), { frames := 4, cells := 0, slots := 0, locals := 105 })
def fX7_part (a1 : Int32) (a2 : Int32) (a3 : Int32) (w : zW) : Option (Int32 × zW) :=
  bd (fX7_lineAt a1 w) fun o3 w1 => oc o3 (
    some ((-1 : Int32), w1)) fun l4 =>
    if a2 < (0 : Int32) then
      some ((-2 : Int32), w1)
    else
    if a3 < a2 then
      some ((-2 : Int32), w1)
    else
    bd (fX1_size l4 w1) fun v9 w7 =>
    if a3 ≤ v9 then
      bd (fX7_sumUp l4 a2 a3 w7) fun _ w11 =>
      bd (fX7_tell_ (zL w11 1 2) (zL w11 1 3) w11) fun _ w14 =>
      some ((a3 - a2), w14)
    else
    some ((-2 : Int32), w7)
theorem YX7_part : zYV yX7_part MX7_part 3 := ⟨wk_621, wk_1, ⟨wk_619, wk_620⟩, ⟨by decide, by decide, by decide +kernel⟩, rfl, rfl⟩
set_option maxHeartbeats 4000000 in
set_option maxRecDepth 100000 in
theorem tX7_part (a1 : Int32) (a2 : Int32) (a3 : Int32) (w : zW) : Sm yX7_part MX7_part zi [.ref 0, .int a1, .int a2, .int a3] w (fX7_part a1 a2 a3 w) := by
  refine Sm_of (lv0 := [(0, .ref 0), (1, .int a1), (2, .int a2), (3, .int a3)]) (by decide) rfl (fun _ => Nat.le_of_ble_eq_true rfl) rfl ?_
  unfold fX7_part
  refine tz_aload_n 0 rfl (zd DX7_part 0 rfl) ?_
  refine tz_iload_n 1 rfl (zd DX7_part 1 rfl) ?_
  refine tz_cV_o kz7 (zs_0) rfl (rest := []) (YX7_lineAt) wk_226 (tX7_lineAt a1 w) rfl rfl (Nat.le_of_ble_eq_true rfl) ⟨Nat.le_of_ble_eq_true rfl, Nat.le_of_ble_eq_true rfl⟩ (zd DX7_part 2 rfl) (fun w1 e2 => ?_) (fun l4 w1 e2 => ?_)
  · refine tz_astoreN [(4, .null), (0, .ref 0), (1, .int a1), (2, .int a2), (3, .int a3)] (Nat.le_of_ble_eq_true rfl) rfl (zd DX7_part 3 rfl) ?_
    refine tz_aloadN 0 rfl (zd DX7_part 4 rfl) ?_
    refine tz_ifnonnullN (zd DX7_part 5 rfl) ?_
    refine tz_iconst (-1 : Int32) zk_iconst_m1 (zd DX7_part 6 rfl) ?_
    exact tz_iret rfl (zd DX7_part 7 rfl)
  refine tz_astore [(4, .ref l4), (0, .ref 0), (1, .int a1), (2, .int a2), (3, .int a3)] (Nat.le_of_ble_eq_true rfl) rfl (zd DX7_part 3 rfl) ?_
  refine tz_aload 0 rfl (zd DX7_part 4 rfl) ?_
  refine tz_ifnonnull 14 (zd DX7_part 5 rfl) rfl ?_
  refine tz_iload_n 3 rfl (zd DX7_part 8 rfl) ?_
  refine tz_if_lt 32 (zd DX7_part 9 rfl) rfl (fun q5 => ?_) (fun q5 => ?_)
  · refine tz_bipush (-2 : Int32) zk_bipush_m2 (zd DX7_part 17 rfl) ?_
    exact tz_iret rfl (zd DX7_part 18 rfl)
  refine tz_iload_n 4 rfl (zd DX7_part 10 rfl) ?_
  refine tz_iload_n 3 rfl (zd DX7_part 11 rfl) ?_
  refine tz_icmp_lt 32 (zd DX7_part 12 rfl) rfl (fun q6 => ?_) (fun q6 => ?_)
  · refine tz_bipush (-2 : Int32) zk_bipush_m2 (zd DX7_part 17 rfl) ?_
    exact tz_iret rfl (zd DX7_part 18 rfl)
  refine tz_iload_n 4 rfl (zd DX7_part 13 rfl) ?_
  refine tz_aload 0 rfl (zd DX7_part 14 rfl) ?_
  refine tz_cVN_i kz1 (fX7_lineAt_c e2) rfl (rest := [.int a3]) (YX1_size) wn_486 (tX1_size l4 (fX7_lineAt_c e2) w1) rfl rfl (Nat.le_of_ble_eq_true rfl) ⟨Nat.le_of_ble_eq_true rfl, Nat.le_of_ble_eq_true rfl⟩ (zd DX7_part 15 rfl) (fun v9 w7 e8 => ?_)
  refine tz_icmp_le 35 (zd DX7_part 16 rfl) rfl (fun q10 => ?_) (fun q10 => ?_)
  · refine tz_aload_n 1 rfl (zd DX7_part 19 rfl) ?_
    refine tz_aload 0 rfl (zd DX7_part 20 rfl) ?_
    refine tz_iload_n 3 rfl (zd DX7_part 21 rfl) ?_
    refine tz_iload_n 4 rfl (zd DX7_part 22 rfl) ?_
    refine tz_cV_n kz7 (zs_0) rfl (rest := []) (YX7_sumUp) wk_559 (tX7_sumUp l4 (fX7_lineAt_c e2) a2 a3 w7) rfl rfl (Nat.le_of_ble_eq_true rfl) ⟨Nat.le_of_ble_eq_true rfl, Nat.le_of_ble_eq_true rfl⟩ (zd DX7_part 23 rfl) (fun v13 w11 e12 => ?_)
    refine tz_aload_n 1 rfl (zd DX7_part 24 rfl) ?_
    refine tz_aload_n 1 rfl (zd DX7_part 25 rfl) ?_
    refine tz_getR 1 0 kz7 (zs_0) (by decide) (by decide) rfl wk_184 (zd DX7_part 26 rfl) ?_
    refine tz_getJN 2 kz0 (zs_1) (by decide) rfl wn_56 (zd DX7_part 27 rfl) ?_
    refine tz_aload_n 1 rfl (zd DX7_part 28 rfl) ?_
    refine tz_getR 1 0 kz7 (zs_0) (by decide) (by decide) rfl wk_184 (zd DX7_part 29 rfl) ?_
    refine tz_getJN 3 kz0 (zs_1) (by decide) rfl wn_59 (zd DX7_part 30 rfl) ?_
    refine tz_cV_n kz7 (zs_0) rfl (rest := []) (YX7_tell_) wk_387 (tX7_tell_ (zL w11 1 2) (zL w11 1 3) w11) rfl rfl (Nat.le_of_ble_eq_true rfl) ⟨Nat.le_of_ble_eq_true rfl, Nat.le_of_ble_eq_true rfl⟩ (zd DX7_part 31 rfl) (fun v16 w14 e15 => ?_)
    refine tz_iload_n 4 rfl (zd DX7_part 32 rfl) ?_
    refine tz_iload_n 3 rfl (zd DX7_part 33 rfl) ?_
    refine tz_isub (zd DX7_part 34 rfl) ?_
    exact tz_iret rfl (zd DX7_part 35 rfl)
  refine tz_bipush (-2 : Int32) zk_bipush_m2 (zd DX7_part 17 rfl) ?_
  exact tz_iret rfl (zd DX7_part 18 rfl)
def QX7_windows : List (Nat × Instr × Nat) := [(0, .aload_n 0, 1), (1, .iload_n 1, 1), (2, .invokevirtual 158, 3), (5, .astore_n 3, 1), (6, .aload_n 3, 1), (7, .ifnull 14, 3), (10, .iload_n 2, 1), (11, .iconst 1, 1), (12, .if_icmp .lt 9, 3), (15, .iload_n 2, 1), (16, .bipush 64, 2), (18, .if_icmp .le 5, 3), (21, .iconst (-1), 1), (22, .ireturn, 1), (23, .aload_n 3, 1), (24, .invokevirtual 165, 3), (27, .iload_n 2, 1), (28, .isub, 1), (29, .iconst 1, 1), (30, .iadd, 1), (31, .istore 4, 2), (33, .iload 4, 2), (35, .iconst 1, 1), (36, .if_icmp .ge 6, 3), (39, .bipush (-2), 2), (41, .ireturn, 1), (42, .aload_n 0, 1), (43, .iconst 0, 1), (44, .putfield 256, 3), (47, .iconst 0, 1), (48, .istore 5, 2), (50, .iload 5, 2), (52, .iload 4, 2), (54, .if_icmp .ge 42, 3), (57, .aload_n 0, 1), (58, .aload_n 3, 1), (59, .iload 5, 2), (61, .iload 5, 2), (63, .iload_n 2, 1), (64, .iadd, 1), (65, .invokevirtual 206, 3), (68, .aload_n 0, 1), (69, .aload_n 0, 1), (70, .getfield 10, 3), (73, .getfield 116, 3), (76, .invokevirtual 259, 3), (79, .aload_n 0, 1), (80, .aload_n 0, 1), (81, .getfield 10, 3), (84, .getfield 120, 3), (87, .invokevirtual 259, 3), (90, .iinc 5 1, 3), (93, .goto (-43), 3), (96, .iload 4, 2), (98, .ireturn, 1)]
set_option maxRecDepth 100000 in
theorem DX7_windows : ∀ q ∈ QX7_windows, decode cX7_windows q.1 = .ok (q.2.1, q.2.2) := by decide +kernel
abbrev MX7_windows : zM := (cX7_windows, "EndSums", 6, (some .int), { frames := 4, cells := 0, slots := 0, locals := 105 })
def fX7_windows_L50 (x2 : Int32) (r3 : Nat) (x4 : Int32) : Nat → Int32 → zW → Option (Int32 × zW)
  | 0, _, _ => none
  | n + 1, x5, w =>
    if x4 ≤ x5 then
      some (x4, w)
    else
    bd (fX7_sumUp r3 x5 (x5 + x2) w) fun _ w14 =>
    bd (fX7_tellMore (zL w14 1 2) w14) fun _ w17 =>
    bd (fX7_tellMore (zL w17 1 3) w17) fun _ w20 =>
    fX7_windows_L50 x2 r3 x4 n (x5 + (1 : Int32)) w20
def fX7_windows (a1 : Int32) (a2 : Int32) (w : zW) : Option (Int32 × zW) :=
  bd (fX7_lineAt a1 w) fun o3 w1 => oc o3 (
    some ((-1 : Int32), w1)) fun l4 =>
    if a2 < (1 : Int32) then
      some ((-1 : Int32), w1)
    else
    if a2 ≤ (64 : Int32) then
      bd (fX1_size l4 w1) fun v9 w7 =>
      lt ((v9 - a2) + (1 : Int32)) fun v10 =>
      if (1 : Int32) ≤ v10 then
        lt (zsI w7 0 8 (0 : Int32)) fun w12 =>
        fX7_windows_L50 a2 l4 v10 zFU (0 : Int32) w12
      else
      some ((-2 : Int32), w7)
    else
    some ((-1 : Int32), w1)
theorem YX7_windows : zYV yX7_windows MX7_windows 2 := ⟨wk_625, wk_1, ⟨wk_623, wk_624⟩, ⟨by decide, by decide, by decide +kernel⟩, rfl, rfl⟩
set_option maxHeartbeats 4000000 in
set_option maxRecDepth 100000 in
theorem lX7_windows_L50 (x2 : Int32) (r3 : Nat) (hr3 : zc 1 r3) (x4 : Int32) : ∀ (n : Nat) (x5 : Int32) (w : zW), Tz MX7_windows (zRet zi) (fX7_windows_L50 x2 r3 x4 n x5 w) 50 [(0, .ref 0), (2, .int x2), (3, .ref r3), (4, .int x4), (5, .int x5)] [] w := by
  intro n
  induction n with
  | zero => intro x5 w; exact tz_eq (fX7_windows_L50.eq_1 _ _ _ _ _) tz_none
  | succ n ih =>
    intro x5 w
    refine tz_eq (fX7_windows_L50.eq_2 _ _ _ _ _ _) ?_
    refine tz_iload 4 rfl (zd DX7_windows 31 rfl) ?_
    refine tz_iload 3 rfl (zd DX7_windows 32 rfl) ?_
    refine tz_icmp_ge 96 (zd DX7_windows 33 rfl) rfl (fun q13 => ?_) (fun q13 => ?_)
    · refine tz_iload 3 rfl (zd DX7_windows 53 rfl) ?_
      exact tz_iret rfl (zd DX7_windows 54 rfl)
    refine tz_aload_n 0 rfl (zd DX7_windows 34 rfl) ?_
    refine tz_aload_n 2 rfl (zd DX7_windows 35 rfl) ?_
    refine tz_iload 4 rfl (zd DX7_windows 36 rfl) ?_
    refine tz_iload 4 rfl (zd DX7_windows 37 rfl) ?_
    refine tz_iload_n 1 rfl (zd DX7_windows 38 rfl) ?_
    refine tz_iadd (zd DX7_windows 39 rfl) ?_
    refine tz_cV_n kz7 (zs_0) rfl (rest := []) (YX7_sumUp) wk_559 (tX7_sumUp r3 (hr3) x5 (x5 + x2) w) rfl rfl (Nat.le_of_ble_eq_true rfl) ⟨Nat.le_of_ble_eq_true rfl, Nat.le_of_ble_eq_true rfl⟩ (zd DX7_windows 40 rfl) (fun v16 w14 e15 => ?_)
    refine tz_aload_n 0 rfl (zd DX7_windows 41 rfl) ?_
    refine tz_aload_n 0 rfl (zd DX7_windows 42 rfl) ?_
    refine tz_getR 1 0 kz7 (zs_0) (by decide) (by decide) rfl wk_184 (zd DX7_windows 43 rfl) ?_
    refine tz_getJN 2 kz0 (zs_1) (by decide) rfl wn_56 (zd DX7_windows 44 rfl) ?_
    refine tz_cV_n kz7 (zs_0) rfl (rest := []) (YX7_tellMore) wk_395 (tX7_tellMore (zL w14 1 2) w14) rfl rfl (Nat.le_of_ble_eq_true rfl) ⟨Nat.le_of_ble_eq_true rfl, Nat.le_of_ble_eq_true rfl⟩ (zd DX7_windows 45 rfl) (fun v19 w17 e18 => ?_)
    refine tz_aload_n 0 rfl (zd DX7_windows 46 rfl) ?_
    refine tz_aload_n 0 rfl (zd DX7_windows 47 rfl) ?_
    refine tz_getR 1 0 kz7 (zs_0) (by decide) (by decide) rfl wk_184 (zd DX7_windows 48 rfl) ?_
    refine tz_getJN 3 kz0 (zs_1) (by decide) rfl wn_59 (zd DX7_windows 49 rfl) ?_
    refine tz_cV_n kz7 (zs_0) rfl (rest := []) (YX7_tellMore) wk_395 (tX7_tellMore (zL w17 1 3) w17) rfl rfl (Nat.le_of_ble_eq_true rfl) ⟨Nat.le_of_ble_eq_true rfl, Nat.le_of_ble_eq_true rfl⟩ (zd DX7_windows 50 rfl) (fun v22 w20 e21 => ?_)
    refine tz_iinc 4 (1 : Int32) [(5, .int (x5 + (1 : Int32))), (0, .ref 0), (2, .int x2), (3, .ref r3), (4, .int x4)] rfl zk_iconst_1 (Nat.le_of_ble_eq_true rfl) rfl (zd DX7_windows 51 rfl) ?_
    refine tz_goto 50 (zd DX7_windows 52 rfl) rfl ?_
    refine tz_lv (lv2 := [(0, .ref 0), (2, .int x2), (3, .ref r3), (4, .int x4), (5, .int (x5 + (1 : Int32)))]) [1, 2, 3, 4, 0] rfl ?_
    exact ih (x5 + (1 : Int32)) w20
set_option maxHeartbeats 4000000 in
set_option maxRecDepth 100000 in
theorem tX7_windows (a1 : Int32) (a2 : Int32) (w : zW) : Sm yX7_windows MX7_windows zi [.ref 0, .int a1, .int a2] w (fX7_windows a1 a2 w) := by
  refine Sm_of (lv0 := [(0, .ref 0), (1, .int a1), (2, .int a2)]) (by decide) rfl (fun _ => Nat.le_of_ble_eq_true rfl) rfl ?_
  unfold fX7_windows
  refine tz_aload_n 0 rfl (zd DX7_windows 0 rfl) ?_
  refine tz_iload_n 1 rfl (zd DX7_windows 1 rfl) ?_
  refine tz_cV_o kz7 (zs_0) rfl (rest := []) (YX7_lineAt) wk_226 (tX7_lineAt a1 w) rfl rfl (Nat.le_of_ble_eq_true rfl) ⟨Nat.le_of_ble_eq_true rfl, Nat.le_of_ble_eq_true rfl⟩ (zd DX7_windows 2 rfl) (fun w1 e2 => ?_) (fun l4 w1 e2 => ?_)
  · refine tz_astore_nN [(3, .null), (0, .ref 0), (1, .int a1), (2, .int a2)] (Nat.le_of_ble_eq_true rfl) rfl (zd DX7_windows 3 rfl) ?_
    refine tz_aload_nN 0 rfl (zd DX7_windows 4 rfl) ?_
    refine tz_ifnullN 21 (zd DX7_windows 5 rfl) rfl ?_
    refine tz_iconst (-1 : Int32) zk_iconst_m1 (zd DX7_windows 12 rfl) ?_
    exact tz_iret rfl (zd DX7_windows 13 rfl)
  refine tz_astore_n [(3, .ref l4), (0, .ref 0), (1, .int a1), (2, .int a2)] (Nat.le_of_ble_eq_true rfl) rfl (zd DX7_windows 3 rfl) ?_
  refine tz_aload_n 0 rfl (zd DX7_windows 4 rfl) ?_
  refine tz_ifnull (zd DX7_windows 5 rfl) ?_
  refine tz_iload_n 3 rfl (zd DX7_windows 6 rfl) ?_
  refine tz_iconst (1 : Int32) zk_iconst_1 (zd DX7_windows 7 rfl) ?_
  refine tz_icmp_lt 21 (zd DX7_windows 8 rfl) rfl (fun q5 => ?_) (fun q5 => ?_)
  · refine tz_iconst (-1 : Int32) zk_iconst_m1 (zd DX7_windows 12 rfl) ?_
    exact tz_iret rfl (zd DX7_windows 13 rfl)
  refine tz_iload_n 3 rfl (zd DX7_windows 9 rfl) ?_
  refine tz_bipush (64 : Int32) zk_bipush_64 (zd DX7_windows 10 rfl) ?_
  refine tz_icmp_le 23 (zd DX7_windows 11 rfl) rfl (fun q6 => ?_) (fun q6 => ?_)
  · refine tz_aload_n 0 rfl (zd DX7_windows 14 rfl) ?_
    refine tz_cVN_i kz1 (fX7_lineAt_c e2) rfl (rest := []) (YX1_size) wn_486 (tX1_size l4 (fX7_lineAt_c e2) w1) rfl rfl (Nat.le_of_ble_eq_true rfl) ⟨Nat.le_of_ble_eq_true rfl, Nat.le_of_ble_eq_true rfl⟩ (zd DX7_windows 15 rfl) (fun v9 w7 e8 => ?_)
    refine tz_iload_n 3 rfl (zd DX7_windows 16 rfl) ?_
    refine tz_isub (zd DX7_windows 17 rfl) ?_
    refine tz_iconst (1 : Int32) zk_iconst_1 (zd DX7_windows 18 rfl) ?_
    refine tz_iadd (zd DX7_windows 19 rfl) ?_
    refine tz_lti (fun v10 => ?_)
    refine tz_istore [(4, .int v10), (3, .ref l4), (0, .ref 0), (1, .int a1), (2, .int a2)] (Nat.le_of_ble_eq_true rfl) rfl (zd DX7_windows 20 rfl) ?_
    refine tz_iload 0 rfl (zd DX7_windows 21 rfl) ?_
    refine tz_iconst (1 : Int32) zk_iconst_1 (zd DX7_windows 22 rfl) ?_
    refine tz_icmp_ge 42 (zd DX7_windows 23 rfl) rfl (fun q11 => ?_) (fun q11 => ?_)
    · refine tz_aload_n 2 rfl (zd DX7_windows 26 rfl) ?_
      refine tz_iconst (0 : Int32) zk_iconst_0 (zd DX7_windows 27 rfl) ?_
      refine tz_putI 8 kz7 (zs_0) (by decide) rfl rfl wk_192 (zd DX7_windows 28 rfl) (fun w12 => ?_)
      refine tz_iconst (0 : Int32) zk_iconst_0 (zd DX7_windows 29 rfl) ?_
      refine tz_istore [(5, .int (0 : Int32)), (4, .int v10), (3, .ref l4), (0, .ref 0), (1, .int a1), (2, .int a2)] (Nat.le_of_ble_eq_true rfl) rfl (zd DX7_windows 30 rfl) ?_
      refine tz_lv (lv2 := [(0, .ref 0), (2, .int a2), (3, .ref l4), (4, .int v10), (5, .int (0 : Int32))]) [3, 5, 2, 1, 0] rfl ?_
      exact lX7_windows_L50 a2 l4 (fX7_lineAt_c e2) v10 zFU (0 : Int32) w12
    refine tz_bipush (-2 : Int32) zk_bipush_m2 (zd DX7_windows 24 rfl) ?_
    exact tz_iret rfl (zd DX7_windows 25 rfl)
  refine tz_iconst (-1 : Int32) zk_iconst_m1 (zd DX7_windows 12 rfl) ?_
  exact tz_iret rfl (zd DX7_windows 13 rfl)
def QX7_first : List (Nat × Instr × Nat) := [(0, .aload_n 0, 1), (1, .iload_n 1, 1), (2, .invokevirtual 158, 3), (5, .astore_n 3, 1), (6, .aload_n 3, 1), (7, .ifnonnull 5, 3), (10, .iconst (-1), 1), (11, .ireturn, 1), (12, .aload_n 0, 1), (13, .getfield 10, 3), (16, .invokevirtual 138, 3), (19, .iconst 0, 1), (20, .istore 4, 2), (22, .iload 4, 2), (24, .aload_n 3, 1), (25, .invokevirtual 165, 3), (28, .if_icmp .ge 58, 3), (31, .aload_n 0, 1), (32, .getfield 10, 3), (35, .aload_n 3, 1), (36, .iload 4, 2), (38, .invokevirtual 189, 3), (41, .invokevirtual 113, 3), (44, .aload_n 0, 1), (45, .getfield 10, 3), (48, .getfield 116, 3), (51, .iload_n 2, 1), (52, .i2l, 1), (53, .lcmp, 1), (54, .ifCond .lt 26, 3), (57, .aload_n 0, 1), (58, .aload_n 0, 1), (59, .getfield 10, 3), (62, .getfield 116, 3), (65, .aload_n 0, 1), (66, .getfield 10, 3), (69, .getfield 120, 3), (72, .invokevirtual 135, 3), (75, .iload 4, 2), (77, .iconst 1, 1), (78, .iadd, 1), (79, .ireturn, 1), (80, .iinc 4 1, 3), (83, .goto (-61), 3), (86, .bipush (-2), 2), (88, .ireturn, 1)]
set_option maxRecDepth 100000 in
theorem DX7_first : ∀ q ∈ QX7_first, decode cX7_first q.1 = .ok (q.2.1, q.2.2) := by decide +kernel
abbrev MX7_first : zM := (cX7_first, "EndSums", 5, (some .int), { frames := 3, cells := 0, slots := 0, locals := 81 })
def fX7_first_L22 (x2 : Int32) (r3 : Nat) : Nat → Int32 → zW → Option (Int32 × zW)
  | 0, _, _ => none
  | n + 1, x4, w =>
    bd (fX1_size r3 w) fun v10 w8 =>
    if v10 ≤ x4 then
      some ((-2 : Int32), w8)
    else
    bd (fX1_itemAt r3 x4 w8) fun v14 w12 =>
    bd (fX0_follow v14 w12) fun _ w15 =>
    if (zL w15 1 2) < (x2).toInt64 then
      fX7_first_L22 x2 r3 n (x4 + (1 : Int32)) w15
    else
    bd (fX7_tell_ (zL w15 1 2) (zL w15 1 3) w15) fun _ w19 =>
    some ((x4 + (1 : Int32)), w19)
def fX7_first (a1 : Int32) (a2 : Int32) (w : zW) : Option (Int32 × zW) :=
  bd (fX7_lineAt a1 w) fun o3 w1 => oc o3 (
    some ((-1 : Int32), w1)) fun l4 =>
    bd (fX0_startEmpty w1) fun _ w5 =>
    fX7_first_L22 a2 l4 zFU (0 : Int32) w5
theorem YX7_first : zYV yX7_first MX7_first 2 := ⟨wk_629, wk_1, ⟨wk_627, wk_628⟩, ⟨by decide, by decide, by decide +kernel⟩, rfl, rfl⟩
set_option maxHeartbeats 4000000 in
set_option maxRecDepth 100000 in
theorem lX7_first_L22 (x2 : Int32) (r3 : Nat) (hr3 : zc 1 r3) : ∀ (n : Nat) (x4 : Int32) (w : zW), Tz MX7_first (zRet zi) (fX7_first_L22 x2 r3 n x4 w) 22 [(0, .ref 0), (2, .int x2), (3, .ref r3), (4, .int x4)] [] w := by
  intro n
  induction n with
  | zero => intro x4 w; exact tz_eq (fX7_first_L22.eq_1 _ _ _ _) tz_none
  | succ n ih =>
    intro x4 w
    refine tz_eq (fX7_first_L22.eq_2 _ _ _ _ _) ?_
    refine tz_iload 3 rfl (zd DX7_first 13 rfl) ?_
    refine tz_aload_n 2 rfl (zd DX7_first 14 rfl) ?_
    refine tz_cVN_i kz1 (hr3) rfl (rest := [.int x4]) (YX1_size) wn_486 (tX1_size r3 (hr3) w) rfl rfl (Nat.le_of_ble_eq_true rfl) ⟨Nat.le_of_ble_eq_true rfl, Nat.le_of_ble_eq_true rfl⟩ (zd DX7_first 15 rfl) (fun v10 w8 e9 => ?_)
    refine tz_icmp_ge 86 (zd DX7_first 16 rfl) rfl (fun q11 => ?_) (fun q11 => ?_)
    · refine tz_bipush (-2 : Int32) zk_bipush_m2 (zd DX7_first 44 rfl) ?_
      exact tz_iret rfl (zd DX7_first 45 rfl)
    refine tz_aload_n 0 rfl (zd DX7_first 17 rfl) ?_
    refine tz_getR 1 0 kz7 (zs_0) (by decide) (by decide) rfl wk_184 (zd DX7_first 18 rfl) ?_
    refine tz_aload_n 2 rfl (zd DX7_first 19 rfl) ?_
    refine tz_iload 3 rfl (zd DX7_first 20 rfl) ?_
    refine tz_cVN_i kz1 (hr3) rfl (rest := [.ref 1]) (YX1_itemAt) wn_539 (tX1_itemAt r3 (hr3) x4 w8) rfl rfl (Nat.le_of_ble_eq_true rfl) ⟨Nat.le_of_ble_eq_true rfl, Nat.le_of_ble_eq_true rfl⟩ (zd DX7_first 21 rfl) (fun v14 w12 e13 => ?_)
    refine tz_cVN_n kz0 (zs_1) rfl (rest := []) (YX0_follow) wn_417 (tX0_follow v14 w12) rfl rfl (Nat.le_of_ble_eq_true rfl) ⟨Nat.le_of_ble_eq_true rfl, Nat.le_of_ble_eq_true rfl⟩ (zd DX7_first 22 rfl) (fun v17 w15 e16 => ?_)
    refine tz_aload_n 0 rfl (zd DX7_first 23 rfl) ?_
    refine tz_getR 1 0 kz7 (zs_0) (by decide) (by decide) rfl wk_184 (zd DX7_first 24 rfl) ?_
    refine tz_getJN 2 kz0 (zs_1) (by decide) rfl wn_56 (zd DX7_first 25 rfl) ?_
    refine tz_iload_n 1 rfl (zd DX7_first 26 rfl) ?_
    refine tz_i2l (zd DX7_first 27 rfl) ?_
    refine tz_lcmp_lt 80 (zd DX7_first 28 rfl) (zd DX7_first 29 rfl) rfl (fun q18 => ?_) (fun q18 => ?_)
    · refine tz_iinc 3 (1 : Int32) [(4, .int (x4 + (1 : Int32))), (0, .ref 0), (2, .int x2), (3, .ref r3)] rfl zk_iconst_1 (Nat.le_of_ble_eq_true rfl) rfl (zd DX7_first 42 rfl) ?_
      refine tz_goto 22 (zd DX7_first 43 rfl) rfl ?_
      refine tz_lv (lv2 := [(0, .ref 0), (2, .int x2), (3, .ref r3), (4, .int (x4 + (1 : Int32)))]) [1, 2, 3, 0] rfl ?_
      exact ih (x4 + (1 : Int32)) w15
    refine tz_aload_n 0 rfl (zd DX7_first 30 rfl) ?_
    refine tz_aload_n 0 rfl (zd DX7_first 31 rfl) ?_
    refine tz_getR 1 0 kz7 (zs_0) (by decide) (by decide) rfl wk_184 (zd DX7_first 32 rfl) ?_
    refine tz_getJN 2 kz0 (zs_1) (by decide) rfl wn_56 (zd DX7_first 33 rfl) ?_
    refine tz_aload_n 0 rfl (zd DX7_first 34 rfl) ?_
    refine tz_getR 1 0 kz7 (zs_0) (by decide) (by decide) rfl wk_184 (zd DX7_first 35 rfl) ?_
    refine tz_getJN 3 kz0 (zs_1) (by decide) rfl wn_59 (zd DX7_first 36 rfl) ?_
    refine tz_cV_n kz7 (zs_0) rfl (rest := []) (YX7_tell_) wk_387 (tX7_tell_ (zL w15 1 2) (zL w15 1 3) w15) rfl rfl (Nat.le_of_ble_eq_true rfl) ⟨Nat.le_of_ble_eq_true rfl, Nat.le_of_ble_eq_true rfl⟩ (zd DX7_first 37 rfl) (fun v21 w19 e20 => ?_)
    refine tz_iload 3 rfl (zd DX7_first 38 rfl) ?_
    refine tz_iconst (1 : Int32) zk_iconst_1 (zd DX7_first 39 rfl) ?_
    refine tz_iadd (zd DX7_first 40 rfl) ?_
    exact tz_iret rfl (zd DX7_first 41 rfl)
set_option maxHeartbeats 4000000 in
set_option maxRecDepth 100000 in
theorem tX7_first (a1 : Int32) (a2 : Int32) (w : zW) : Sm yX7_first MX7_first zi [.ref 0, .int a1, .int a2] w (fX7_first a1 a2 w) := by
  refine Sm_of (lv0 := [(0, .ref 0), (1, .int a1), (2, .int a2)]) (by decide) rfl (fun _ => Nat.le_of_ble_eq_true rfl) rfl ?_
  unfold fX7_first
  refine tz_aload_n 0 rfl (zd DX7_first 0 rfl) ?_
  refine tz_iload_n 1 rfl (zd DX7_first 1 rfl) ?_
  refine tz_cV_o kz7 (zs_0) rfl (rest := []) (YX7_lineAt) wk_226 (tX7_lineAt a1 w) rfl rfl (Nat.le_of_ble_eq_true rfl) ⟨Nat.le_of_ble_eq_true rfl, Nat.le_of_ble_eq_true rfl⟩ (zd DX7_first 2 rfl) (fun w1 e2 => ?_) (fun l4 w1 e2 => ?_)
  · refine tz_astore_nN [(3, .null), (0, .ref 0), (1, .int a1), (2, .int a2)] (Nat.le_of_ble_eq_true rfl) rfl (zd DX7_first 3 rfl) ?_
    refine tz_aload_nN 0 rfl (zd DX7_first 4 rfl) ?_
    refine tz_ifnonnullN (zd DX7_first 5 rfl) ?_
    refine tz_iconst (-1 : Int32) zk_iconst_m1 (zd DX7_first 6 rfl) ?_
    exact tz_iret rfl (zd DX7_first 7 rfl)
  refine tz_astore_n [(3, .ref l4), (0, .ref 0), (1, .int a1), (2, .int a2)] (Nat.le_of_ble_eq_true rfl) rfl (zd DX7_first 3 rfl) ?_
  refine tz_aload_n 0 rfl (zd DX7_first 4 rfl) ?_
  refine tz_ifnonnull 12 (zd DX7_first 5 rfl) rfl ?_
  refine tz_aload_n 1 rfl (zd DX7_first 8 rfl) ?_
  refine tz_getR 1 0 kz7 (zs_0) (by decide) (by decide) rfl wk_184 (zd DX7_first 9 rfl) ?_
  refine tz_cVN_n kz0 (zs_1) rfl (rest := []) (YX0_startEmpty) wn_451 (tX0_startEmpty w1) rfl rfl (Nat.le_of_ble_eq_true rfl) ⟨Nat.le_of_ble_eq_true rfl, Nat.le_of_ble_eq_true rfl⟩ (zd DX7_first 10 rfl) (fun v7 w5 e6 => ?_)
  refine tz_iconst (0 : Int32) zk_iconst_0 (zd DX7_first 11 rfl) ?_
  refine tz_istore [(4, .int (0 : Int32)), (3, .ref l4), (0, .ref 0), (1, .int a1), (2, .int a2)] (Nat.le_of_ble_eq_true rfl) rfl (zd DX7_first 12 rfl) ?_
  refine tz_lv (lv2 := [(0, .ref 0), (2, .int a2), (3, .ref l4), (4, .int (0 : Int32))]) [2, 4, 1, 0] rfl ?_
  exact lX7_first_L22 a2 l4 (fX7_lineAt_c e2) zFU (0 : Int32) w5
def QX7_stretch : List (Nat × Instr × Nat) := [(0, .iconst 0, 1), (1, .istore_n 3, 1), (2, .iload_n 3, 1), (3, .iload_n 2, 1), (4, .iadd, 1), (5, .aload_n 1, 1), (6, .invokevirtual 165, 3), (9, .if_icmp .gt 68, 3), (12, .iload_n 2, 1), (13, .iconst 1, 1), (14, .if_icmp .ne 13, 3), (17, .aload_n 0, 1), (18, .getfield 10, 3), (21, .invokevirtual 138, 3), (24, .goto 26, 3), (27, .aload_n 0, 1), (28, .getfield 10, 3), (31, .aload_n 0, 1), (32, .getfield 61, 3), (35, .iload_n 3, 1), (36, .invokestatic 249, 3), (39, .aload_n 0, 1), (40, .getfield 64, 3), (43, .iload_n 3, 1), (44, .invokestatic 249, 3), (47, .invokevirtual 331, 3), (50, .aload_n 0, 1), (51, .getfield 10, 3), (54, .aload_n 1, 1), (55, .iload_n 3, 1), (56, .iload_n 2, 1), (57, .iadd, 1), (58, .iconst 1, 1), (59, .isub, 1), (60, .invokevirtual 189, 3), (63, .invokevirtual 113, 3), (66, .aload_n 0, 1), (67, .iload_n 3, 1), (68, .invokevirtual 141, 3), (71, .iinc 3 1, 3), (74, .goto (-72), 3), (77, .return_, 1)]
set_option maxRecDepth 100000 in
theorem DX7_stretch : ∀ q ∈ QX7_stretch, decode cX7_stretch q.1 = .ok (q.2.1, q.2.2) := by decide +kernel
abbrev MX7_stretch : zM := (cX7_stretch, "EndSums", 4, none, { frames := 3, cells := 0, slots := 0, locals := 81 })
def fX7_stretch_L2 (r1 : Nat) (x2 : Int32) : Nat → Int32 → zW → Option (Unit × zW)
  | 0, _, _ => none
  | n + 1, x3, w =>
    bd (fX1_size r1 w) fun v3 w1 =>
    if v3 < (x3 + x2) then
      some ((), w1)
    else
    lt (fun (w5 : zW) =>
      bd (fX1_itemAt r1 ((x3 + x2) - (1 : Int32)) w5) fun v8 w6 =>
      bd (fX0_follow v8 w6) fun _ w9 =>
      bd (fX7_keepSum x3 w9) fun _ w12 =>
      fX7_stretch_L2 r1 x2 n (x3 + (1 : Int32)) w12) fun j5 =>
    if ¬ x2 = (1 : Int32) then
      bd (fX7_at_ 72 x3 w1) fun v18 w16 =>
      bd (fX7_at_ 73 x3 w16) fun v21 w19 =>
      bd (fX0_startWith v18 v21 w19) fun _ w22 =>
      j5 w22
    else
    bd (fX0_startEmpty w1) fun _ w25 =>
    j5 w25
def fX7_stretch (r1 : Nat) (a2 : Int32) (w : zW) : Option (Unit × zW) :=
  fX7_stretch_L2 r1 a2 zFU (0 : Int32) w
theorem YX7_stretch : zYV yX7_stretch MX7_stretch 2 := ⟨wk_637, wk_1, ⟨wk_636, ws_59⟩, ⟨by decide, by decide, by decide +kernel⟩, rfl, rfl⟩
set_option maxHeartbeats 4000000 in
set_option maxRecDepth 100000 in
theorem lX7_stretch_L2 (r1 : Nat) (hr1 : zc 1 r1) (x2 : Int32) : ∀ (n : Nat) (x3 : Int32) (w : zW), Tz MX7_stretch (zRet zn) (fX7_stretch_L2 r1 x2 n x3 w) 2 [(0, .ref 0), (1, .ref r1), (2, .int x2), (3, .int x3)] [] w := by
  intro n
  induction n with
  | zero => intro x3 w; exact tz_eq (fX7_stretch_L2.eq_1 _ _ _ _) tz_none
  | succ n ih =>
    intro x3 w
    refine tz_eq (fX7_stretch_L2.eq_2 _ _ _ _ _) ?_
    refine tz_iload_n 3 rfl (zd DX7_stretch 2 rfl) ?_
    refine tz_iload_n 2 rfl (zd DX7_stretch 3 rfl) ?_
    refine tz_iadd (zd DX7_stretch 4 rfl) ?_
    refine tz_aload_n 1 rfl (zd DX7_stretch 5 rfl) ?_
    refine tz_cVN_i kz1 (hr1) rfl (rest := [.int (x3 + x2)]) (YX1_size) wn_486 (tX1_size r1 (hr1) w) rfl rfl (Nat.le_of_ble_eq_true rfl) ⟨Nat.le_of_ble_eq_true rfl, Nat.le_of_ble_eq_true rfl⟩ (zd DX7_stretch 6 rfl) (fun v3 w1 e2 => ?_)
    refine tz_icmp_gt 77 (zd DX7_stretch 7 rfl) rfl (fun q4 => ?_) (fun q4 => ?_)
    · exact tz_vret rfl (zd DX7_stretch 41 rfl)
    refine tz_iload_n 2 rfl (zd DX7_stretch 8 rfl) ?_
    refine tz_iconst (1 : Int32) zk_iconst_1 (zd DX7_stretch 9 rfl) ?_
    refine tz_jp (P := fun j => ∀ (w5 : zW), Tz MX7_stretch (zRet zn) (j w5) 50 [(0, .ref 0), (1, .ref r1), (2, .int x2), (3, .int x3)] [] w5) ?_ (fun j5 hj5 => ?_)
    · intro w5
      refine tz_aload_n 0 rfl (zd DX7_stretch 26 rfl) ?_
      refine tz_getR 1 0 kz7 (zs_0) (by decide) (by decide) rfl wk_184 (zd DX7_stretch 27 rfl) ?_
      refine tz_aload_n 1 rfl (zd DX7_stretch 28 rfl) ?_
      refine tz_iload_n 3 rfl (zd DX7_stretch 29 rfl) ?_
      refine tz_iload_n 2 rfl (zd DX7_stretch 30 rfl) ?_
      refine tz_iadd (zd DX7_stretch 31 rfl) ?_
      refine tz_iconst (1 : Int32) zk_iconst_1 (zd DX7_stretch 32 rfl) ?_
      refine tz_isub (zd DX7_stretch 33 rfl) ?_
      refine tz_cVN_i kz1 (hr1) rfl (rest := [.ref 1]) (YX1_itemAt) wn_539 (tX1_itemAt r1 (hr1) ((x3 + x2) - (1 : Int32)) w5) rfl rfl (Nat.le_of_ble_eq_true rfl) ⟨Nat.le_of_ble_eq_true rfl, Nat.le_of_ble_eq_true rfl⟩ (zd DX7_stretch 34 rfl) (fun v8 w6 e7 => ?_)
      refine tz_cVN_n kz0 (zs_1) rfl (rest := []) (YX0_follow) wn_417 (tX0_follow v8 w6) rfl rfl (Nat.le_of_ble_eq_true rfl) ⟨Nat.le_of_ble_eq_true rfl, Nat.le_of_ble_eq_true rfl⟩ (zd DX7_stretch 35 rfl) (fun v11 w9 e10 => ?_)
      refine tz_aload_n 0 rfl (zd DX7_stretch 36 rfl) ?_
      refine tz_iload_n 3 rfl (zd DX7_stretch 37 rfl) ?_
      refine tz_cV_n kz7 (zs_0) rfl (rest := []) (YX7_keepSum) wk_452 (tX7_keepSum x3 w9) rfl rfl (Nat.le_of_ble_eq_true rfl) ⟨Nat.le_of_ble_eq_true rfl, Nat.le_of_ble_eq_true rfl⟩ (zd DX7_stretch 38 rfl) (fun v14 w12 e13 => ?_)
      refine tz_iinc 3 (1 : Int32) [(3, .int (x3 + (1 : Int32))), (0, .ref 0), (1, .ref r1), (2, .int x2)] rfl zk_iconst_1 (Nat.le_of_ble_eq_true rfl) rfl (zd DX7_stretch 39 rfl) ?_
      refine tz_goto 2 (zd DX7_stretch 40 rfl) rfl ?_
      refine tz_lv (lv2 := [(0, .ref 0), (1, .ref r1), (2, .int x2), (3, .int (x3 + (1 : Int32)))]) [1, 2, 3, 0] rfl ?_
      exact ih (x3 + (1 : Int32)) w12
    refine tz_icmp_ne 27 (zd DX7_stretch 10 rfl) rfl (fun q15 => ?_) (fun q15 => ?_)
    · refine tz_aload_n 0 rfl (zd DX7_stretch 15 rfl) ?_
      refine tz_getR 1 0 kz7 (zs_0) (by decide) (by decide) rfl wk_184 (zd DX7_stretch 16 rfl) ?_
      refine tz_aload_n 0 rfl (zd DX7_stretch 17 rfl) ?_
      refine tz_getR 72 9 kz7 (zs_0) (by decide) (by decide) rfl wk_193 (zd DX7_stretch 18 rfl) ?_
      refine tz_iload_n 3 rfl (zd DX7_stretch 19 rfl) ?_
      refine tz_cS_l (rest := [.ref 1]) (YX7_at_) wk_461 (tX7_at_ 72 (zs_72.1) x3 w1) rfl rfl (Nat.le_of_ble_eq_true rfl) ⟨Nat.le_of_ble_eq_true rfl, Nat.le_of_ble_eq_true rfl⟩ (zd DX7_stretch 20 rfl) (fun v18 w16 e17 => ?_)
      refine tz_aload_n 0 rfl (zd DX7_stretch 21 rfl) ?_
      refine tz_getR 73 10 kz7 (zs_0) (by decide) (by decide) rfl wk_194 (zd DX7_stretch 22 rfl) ?_
      refine tz_iload_n 3 rfl (zd DX7_stretch 23 rfl) ?_
      refine tz_cS_l (rest := [.long v18, .ref 1]) (YX7_at_) wk_461 (tX7_at_ 73 (zs_73.1) x3 w16) rfl rfl (Nat.le_of_ble_eq_true rfl) ⟨Nat.le_of_ble_eq_true rfl, Nat.le_of_ble_eq_true rfl⟩ (zd DX7_stretch 24 rfl) (fun v21 w19 e20 => ?_)
      refine tz_cVN_n kz0 (zs_1) rfl (rest := []) (YX0_startWith) wn_638 (tX0_startWith v18 v21 w19) rfl rfl (Nat.le_of_ble_eq_true rfl) ⟨Nat.le_of_ble_eq_true rfl, Nat.le_of_ble_eq_true rfl⟩ (zd DX7_stretch 25 rfl) (fun v24 w22 e23 => ?_)
      exact hj5 w22
    refine tz_aload_n 0 rfl (zd DX7_stretch 11 rfl) ?_
    refine tz_getR 1 0 kz7 (zs_0) (by decide) (by decide) rfl wk_184 (zd DX7_stretch 12 rfl) ?_
    refine tz_cVN_n kz0 (zs_1) rfl (rest := []) (YX0_startEmpty) wn_451 (tX0_startEmpty w1) rfl rfl (Nat.le_of_ble_eq_true rfl) ⟨Nat.le_of_ble_eq_true rfl, Nat.le_of_ble_eq_true rfl⟩ (zd DX7_stretch 13 rfl) (fun v27 w25 e26 => ?_)
    refine tz_goto 50 (zd DX7_stretch 14 rfl) rfl ?_
    exact hj5 w25
set_option maxHeartbeats 4000000 in
set_option maxRecDepth 100000 in
theorem tX7_stretch (r1 : Nat) (hr1 : zc 1 r1) (a2 : Int32) (w : zW) : Sm yX7_stretch MX7_stretch zn [.ref 0, .ref r1, .int a2] w (fX7_stretch r1 a2 w) := by
  refine Sm_of (lv0 := [(0, .ref 0), (1, .ref r1), (2, .int a2)]) (by decide) rfl (fun _ => Nat.le_of_ble_eq_true rfl) rfl ?_
  unfold fX7_stretch
  refine tz_iconst (0 : Int32) zk_iconst_0 (zd DX7_stretch 0 rfl) ?_
  refine tz_istore_n [(3, .int (0 : Int32)), (0, .ref 0), (1, .ref r1), (2, .int a2)] (Nat.le_of_ble_eq_true rfl) rfl (zd DX7_stretch 1 rfl) ?_
  refine tz_lv (lv2 := [(0, .ref 0), (1, .ref r1), (2, .int a2), (3, .int (0 : Int32))]) [1, 2, 3, 0] rfl ?_
  exact lX7_stretch_L2 r1 (hr1) a2 zFU (0 : Int32) w
def QX7_firstAtMost : List (Nat × Instr × Nat) := [(0, .iconst 0, 1), (1, .istore_n 3, 1), (2, .iload_n 3, 1), (3, .iload_n 2, 1), (4, .if_icmp .ge 25, 3), (7, .aload_n 0, 1), (8, .getfield 61, 3), (11, .iload_n 3, 1), (12, .invokestatic 249, 3), (15, .iload_n 1, 1), (16, .i2l, 1), (17, .lcmp, 1), (18, .ifCond .gt 5, 3), (21, .iload_n 3, 1), (22, .ireturn, 1), (23, .iinc 3 1, 3), (26, .goto (-24), 3), (29, .iconst (-1), 1), (30, .ireturn, 1)]
set_option maxRecDepth 100000 in
theorem DX7_firstAtMost : ∀ q ∈ QX7_firstAtMost, decode cX7_firstAtMost q.1 = .ok (q.2.1, q.2.2) := by decide +kernel
abbrev MX7_firstAtMost : zM := (cX7_firstAtMost, "EndSums", 4, (some .int), { frames := 1, cells := 0, slots := 0, locals := 21 })
def fX7_firstAtMost_L2 (x1 : Int32) (x2 : Int32) : Nat → Int32 → zW → Option (Int32 × zW)
  | 0, _, _ => none
  | n + 1, x3, w =>
    if x2 ≤ x3 then
      some ((-1 : Int32), w)
    else
    bd (fX7_at_ 72 x3 w) fun v4 w2 =>
    if (x1).toInt64 < v4 then
      fX7_firstAtMost_L2 x1 x2 n (x3 + (1 : Int32)) w2
    else
    some (x3, w2)
def fX7_firstAtMost (a1 : Int32) (a2 : Int32) (w : zW) : Option (Int32 × zW) :=
  fX7_firstAtMost_L2 a1 a2 zFU (0 : Int32) w
theorem YX7_firstAtMost : zYV yX7_firstAtMost MX7_firstAtMost 2 := ⟨wk_642, wk_1, ⟨wk_641, ws_60⟩, ⟨by decide, by decide, by decide +kernel⟩, rfl, rfl⟩
set_option maxHeartbeats 4000000 in
set_option maxRecDepth 100000 in
theorem lX7_firstAtMost_L2 (x1 : Int32) (x2 : Int32) : ∀ (n : Nat) (x3 : Int32) (w : zW), Tz MX7_firstAtMost (zRet zi) (fX7_firstAtMost_L2 x1 x2 n x3 w) 2 [(0, .ref 0), (1, .int x1), (2, .int x2), (3, .int x3)] [] w := by
  intro n
  induction n with
  | zero => intro x3 w; exact tz_eq (fX7_firstAtMost_L2.eq_1 _ _ _ _) tz_none
  | succ n ih =>
    intro x3 w
    refine tz_eq (fX7_firstAtMost_L2.eq_2 _ _ _ _ _) ?_
    refine tz_iload_n 3 rfl (zd DX7_firstAtMost 2 rfl) ?_
    refine tz_iload_n 2 rfl (zd DX7_firstAtMost 3 rfl) ?_
    refine tz_icmp_ge 29 (zd DX7_firstAtMost 4 rfl) rfl (fun q1 => ?_) (fun q1 => ?_)
    · refine tz_iconst (-1 : Int32) zk_iconst_m1 (zd DX7_firstAtMost 17 rfl) ?_
      exact tz_iret rfl (zd DX7_firstAtMost 18 rfl)
    refine tz_aload_n 0 rfl (zd DX7_firstAtMost 5 rfl) ?_
    refine tz_getR 72 9 kz7 (zs_0) (by decide) (by decide) rfl wk_193 (zd DX7_firstAtMost 6 rfl) ?_
    refine tz_iload_n 3 rfl (zd DX7_firstAtMost 7 rfl) ?_
    refine tz_cS_l (rest := []) (YX7_at_) wk_461 (tX7_at_ 72 (zs_72.1) x3 w) rfl rfl (Nat.le_of_ble_eq_true rfl) ⟨Nat.le_of_ble_eq_true rfl, Nat.le_of_ble_eq_true rfl⟩ (zd DX7_firstAtMost 8 rfl) (fun v4 w2 e3 => ?_)
    refine tz_iload_n 1 rfl (zd DX7_firstAtMost 9 rfl) ?_
    refine tz_i2l (zd DX7_firstAtMost 10 rfl) ?_
    refine tz_lcmp_gt 23 (zd DX7_firstAtMost 11 rfl) (zd DX7_firstAtMost 12 rfl) rfl (fun q5 => ?_) (fun q5 => ?_)
    · refine tz_iinc 3 (1 : Int32) [(3, .int (x3 + (1 : Int32))), (0, .ref 0), (1, .int x1), (2, .int x2)] rfl zk_iconst_1 (Nat.le_of_ble_eq_true rfl) rfl (zd DX7_firstAtMost 15 rfl) ?_
      refine tz_goto 2 (zd DX7_firstAtMost 16 rfl) rfl ?_
      refine tz_lv (lv2 := [(0, .ref 0), (1, .int x1), (2, .int x2), (3, .int (x3 + (1 : Int32)))]) [1, 2, 3, 0] rfl ?_
      exact ih (x3 + (1 : Int32)) w2
    refine tz_iload_n 3 rfl (zd DX7_firstAtMost 13 rfl) ?_
    exact tz_iret rfl (zd DX7_firstAtMost 14 rfl)
set_option maxHeartbeats 4000000 in
set_option maxRecDepth 100000 in
theorem tX7_firstAtMost (a1 : Int32) (a2 : Int32) (w : zW) : Sm yX7_firstAtMost MX7_firstAtMost zi [.ref 0, .int a1, .int a2] w (fX7_firstAtMost a1 a2 w) := by
  refine Sm_of (lv0 := [(0, .ref 0), (1, .int a1), (2, .int a2)]) (by decide) rfl (fun _ => Nat.le_of_ble_eq_true rfl) rfl ?_
  unfold fX7_firstAtMost
  refine tz_iconst (0 : Int32) zk_iconst_0 (zd DX7_firstAtMost 0 rfl) ?_
  refine tz_istore_n [(3, .int (0 : Int32)), (0, .ref 0), (1, .int a1), (2, .int a2)] (Nat.le_of_ble_eq_true rfl) rfl (zd DX7_firstAtMost 1 rfl) ?_
  refine tz_lv (lv2 := [(0, .ref 0), (1, .int a1), (2, .int a2), (3, .int (0 : Int32))]) [1, 2, 3, 0] rfl ?_
  exact lX7_firstAtMost_L2 a1 a2 zFU (0 : Int32) w
def QX7_longest : List (Nat × Instr × Nat) := [(0, .aload_n 0, 1), (1, .iload_n 1, 1), (2, .invokevirtual 158, 3), (5, .astore_n 3, 1), (6, .aload_n 3, 1), (7, .ifnonnull 5, 3), (10, .iconst (-1), 1), (11, .ireturn, 1), (12, .iconst 0, 1), (13, .istore 4, 2), (15, .iconst (-1), 1), (16, .istore 5, 2), (18, .iconst 1, 1), (19, .istore 6, 2), (21, .iload 6, 2), (23, .aload_n 3, 1), (24, .invokevirtual 165, 3), (27, .if_icmp .gt 46, 3), (30, .aload_n 0, 1), (31, .aload_n 3, 1), (32, .iload 6, 2), (34, .invokevirtual 262, 3), (37, .aload_n 0, 1), (38, .iload_n 2, 1), (39, .aload_n 3, 1), (40, .invokevirtual 165, 3), (43, .iload 6, 2), (45, .isub, 1), (46, .iconst 1, 1), (47, .iadd, 1), (48, .invokevirtual 266, 3), (51, .istore 7, 2), (53, .iload 7, 2), (55, .iconst (-1), 1), (56, .if_icmp .eq 11, 3), (59, .iload 6, 2), (61, .istore 4, 2), (63, .iload 7, 2), (65, .istore 5, 2), (67, .iinc 6 1, 3), (70, .goto (-49), 3), (73, .aload_n 0, 1), (74, .iload 5, 2), (76, .i2l, 1), (77, .invokevirtual 148, 3), (80, .iload 4, 2), (82, .ireturn, 1)]
set_option maxRecDepth 100000 in
theorem DX7_longest : ∀ q ∈ QX7_longest, decode cX7_longest q.1 = .ok (q.2.1, q.2.2) := by decide +kernel
abbrev MX7_longest : zM := (cX7_longest, "EndSums", 8, (some .int), { frames := 4, cells := 0, slots := 0, locals := 104 })
def fX7_longest_L21 (x2 : Int32) (r3 : Nat) : Nat → Int32 → Int32 → Int32 → zW → Option (Int32 × zW)
  | 0, _, _, _, _ => none
  | n + 1, x4, x5, x6, w =>
    bd (fX1_size r3 w) fun v7 w5 =>
    if v7 < x6 then
      bd (fX7_tell (x5).toInt64 w5) fun _ w9 =>
      some (x4, w9)
    else
    bd (fX7_stretch r3 x6 w5) fun _ w12 =>
    bd (fX1_size r3 w12) fun v17 w15 =>
    bd (fX7_firstAtMost x2 ((v17 - x6) + (1 : Int32)) w15) fun v20 w18 =>
    lt (fun (y4_67 : Int32) (y5_67 : Int32) (w21 : zW) =>
      fX7_longest_L21 x2 r3 n y4_67 y5_67 (x6 + (1 : Int32)) w21) fun j21 =>
    if v20 = (-1 : Int32) then
      j21 x4 x5 w18
    else
    j21 x6 v20 w18
def fX7_longest (a1 : Int32) (a2 : Int32) (w : zW) : Option (Int32 × zW) :=
  bd (fX7_lineAt a1 w) fun o3 w1 => oc o3 (
    some ((-1 : Int32), w1)) fun l4 =>
    fX7_longest_L21 a2 l4 zFU (0 : Int32) (-1 : Int32) (1 : Int32) w1
theorem YX7_longest : zYV yX7_longest MX7_longest 2 := ⟨wk_633, wk_1, ⟨wk_631, wk_632⟩, ⟨by decide, by decide, by decide +kernel⟩, rfl, rfl⟩
set_option maxHeartbeats 4000000 in
set_option maxRecDepth 100000 in
theorem lX7_longest_L21 (x2 : Int32) (r3 : Nat) (hr3 : zc 1 r3) : ∀ (n : Nat) (x4 : Int32) (x5 : Int32) (x6 : Int32) (w : zW), Tz MX7_longest (zRet zi) (fX7_longest_L21 x2 r3 n x4 x5 x6 w) 21 [(0, .ref 0), (2, .int x2), (3, .ref r3), (4, .int x4), (5, .int x5), (6, .int x6)] [] w := by
  intro n
  induction n with
  | zero => intro x4 x5 x6 w; exact tz_eq (fX7_longest_L21.eq_1 _ _ _ _ _ _) tz_none
  | succ n ih =>
    intro x4 x5 x6 w
    refine tz_eq (fX7_longest_L21.eq_2 _ _ _ _ _ _ _) ?_
    refine tz_iload 5 rfl (zd DX7_longest 14 rfl) ?_
    refine tz_aload_n 2 rfl (zd DX7_longest 15 rfl) ?_
    refine tz_cVN_i kz1 (hr3) rfl (rest := [.int x6]) (YX1_size) wn_486 (tX1_size r3 (hr3) w) rfl rfl (Nat.le_of_ble_eq_true rfl) ⟨Nat.le_of_ble_eq_true rfl, Nat.le_of_ble_eq_true rfl⟩ (zd DX7_longest 16 rfl) (fun v7 w5 e6 => ?_)
    refine tz_icmp_gt 73 (zd DX7_longest 17 rfl) rfl (fun q8 => ?_) (fun q8 => ?_)
    · refine tz_aload_n 0 rfl (zd DX7_longest 41 rfl) ?_
      refine tz_iload 4 rfl (zd DX7_longest 42 rfl) ?_
      refine tz_i2l (zd DX7_longest 43 rfl) ?_
      refine tz_cV_n kz7 (zs_0) rfl (rest := []) (YX7_tell) wk_391 (tX7_tell (x5).toInt64 w5) rfl rfl (Nat.le_of_ble_eq_true rfl) ⟨Nat.le_of_ble_eq_true rfl, Nat.le_of_ble_eq_true rfl⟩ (zd DX7_longest 44 rfl) (fun v11 w9 e10 => ?_)
      refine tz_iload 3 rfl (zd DX7_longest 45 rfl) ?_
      exact tz_iret rfl (zd DX7_longest 46 rfl)
    refine tz_aload_n 0 rfl (zd DX7_longest 18 rfl) ?_
    refine tz_aload_n 2 rfl (zd DX7_longest 19 rfl) ?_
    refine tz_iload 5 rfl (zd DX7_longest 20 rfl) ?_
    refine tz_cV_n kz7 (zs_0) rfl (rest := []) (YX7_stretch) wk_634 (tX7_stretch r3 (hr3) x6 w5) rfl rfl (Nat.le_of_ble_eq_true rfl) ⟨Nat.le_of_ble_eq_true rfl, Nat.le_of_ble_eq_true rfl⟩ (zd DX7_longest 21 rfl) (fun v14 w12 e13 => ?_)
    refine tz_aload_n 0 rfl (zd DX7_longest 22 rfl) ?_
    refine tz_iload_n 1 rfl (zd DX7_longest 23 rfl) ?_
    refine tz_aload_n 2 rfl (zd DX7_longest 24 rfl) ?_
    refine tz_cVN_i kz1 (hr3) rfl (rest := [.int x2, .ref 0]) (YX1_size) wn_486 (tX1_size r3 (hr3) w12) rfl rfl (Nat.le_of_ble_eq_true rfl) ⟨Nat.le_of_ble_eq_true rfl, Nat.le_of_ble_eq_true rfl⟩ (zd DX7_longest 25 rfl) (fun v17 w15 e16 => ?_)
    refine tz_iload 5 rfl (zd DX7_longest 26 rfl) ?_
    refine tz_isub (zd DX7_longest 27 rfl) ?_
    refine tz_iconst (1 : Int32) zk_iconst_1 (zd DX7_longest 28 rfl) ?_
    refine tz_iadd (zd DX7_longest 29 rfl) ?_
    refine tz_cV_i kz7 (zs_0) rfl (rest := []) (YX7_firstAtMost) wk_639 (tX7_firstAtMost x2 ((v17 - x6) + (1 : Int32)) w15) rfl rfl (Nat.le_of_ble_eq_true rfl) ⟨Nat.le_of_ble_eq_true rfl, Nat.le_of_ble_eq_true rfl⟩ (zd DX7_longest 30 rfl) (fun v20 w18 e19 => ?_)
    refine tz_istore [(7, .int v20), (0, .ref 0), (2, .int x2), (3, .ref r3), (4, .int x4), (5, .int x5), (6, .int x6)] (Nat.le_of_ble_eq_true rfl) rfl (zd DX7_longest 31 rfl) ?_
    refine tz_iload 0 rfl (zd DX7_longest 32 rfl) ?_
    refine tz_iconst (-1 : Int32) zk_iconst_m1 (zd DX7_longest 33 rfl) ?_
    refine tz_jp (P := fun j => ∀ (y4_67 : Int32) (y5_67 : Int32) (w21 : zW), Tz MX7_longest (zRet zi) (j y4_67 y5_67 w21) 67 [(0, .ref 0), (2, .int x2), (3, .ref r3), (4, .int y4_67), (5, .int y5_67), (6, .int x6)] [] w21) ?_ (fun j21 hj21 => ?_)
    · intro y4_67 y5_67 w21
      refine tz_iinc 5 (1 : Int32) [(6, .int (x6 + (1 : Int32))), (0, .ref 0), (2, .int x2), (3, .ref r3), (4, .int y4_67), (5, .int y5_67)] rfl zk_iconst_1 (Nat.le_of_ble_eq_true rfl) rfl (zd DX7_longest 39 rfl) ?_
      refine tz_goto 21 (zd DX7_longest 40 rfl) rfl ?_
      refine tz_lv (lv2 := [(0, .ref 0), (2, .int x2), (3, .ref r3), (4, .int y4_67), (5, .int y5_67), (6, .int (x6 + (1 : Int32)))]) [1, 2, 3, 4, 5, 0] rfl ?_
      exact ih y4_67 y5_67 (x6 + (1 : Int32)) w21
    refine tz_icmp_eq 67 (zd DX7_longest 34 rfl) rfl (fun q22 => ?_) (fun q22 => ?_)
    · refine tz_lv (lv2 := [(0, .ref 0), (2, .int x2), (3, .ref r3), (4, .int x4), (5, .int x5), (6, .int x6)]) [1, 2, 3, 4, 5, 6] rfl ?_
      exact hj21 x4 x5 w18
    refine tz_iload 6 rfl (zd DX7_longest 35 rfl) ?_
    refine tz_istore [(4, .int x6), (7, .int v20), (0, .ref 0), (2, .int x2), (3, .ref r3), (5, .int x5), (6, .int x6)] (Nat.le_of_ble_eq_true rfl) rfl (zd DX7_longest 36 rfl) ?_
    refine tz_iload 1 rfl (zd DX7_longest 37 rfl) ?_
    refine tz_istore [(5, .int v20), (4, .int x6), (7, .int v20), (0, .ref 0), (2, .int x2), (3, .ref r3), (6, .int x6)] (Nat.le_of_ble_eq_true rfl) rfl (zd DX7_longest 38 rfl) ?_
    refine tz_lv (lv2 := [(0, .ref 0), (2, .int x2), (3, .ref r3), (4, .int x6), (5, .int v20), (6, .int x6)]) [3, 4, 5, 1, 0, 6] rfl ?_
    exact hj21 x6 v20 w18
set_option maxHeartbeats 4000000 in
set_option maxRecDepth 100000 in
theorem tX7_longest (a1 : Int32) (a2 : Int32) (w : zW) : Sm yX7_longest MX7_longest zi [.ref 0, .int a1, .int a2] w (fX7_longest a1 a2 w) := by
  refine Sm_of (lv0 := [(0, .ref 0), (1, .int a1), (2, .int a2)]) (by decide) rfl (fun _ => Nat.le_of_ble_eq_true rfl) rfl ?_
  unfold fX7_longest
  refine tz_aload_n 0 rfl (zd DX7_longest 0 rfl) ?_
  refine tz_iload_n 1 rfl (zd DX7_longest 1 rfl) ?_
  refine tz_cV_o kz7 (zs_0) rfl (rest := []) (YX7_lineAt) wk_226 (tX7_lineAt a1 w) rfl rfl (Nat.le_of_ble_eq_true rfl) ⟨Nat.le_of_ble_eq_true rfl, Nat.le_of_ble_eq_true rfl⟩ (zd DX7_longest 2 rfl) (fun w1 e2 => ?_) (fun l4 w1 e2 => ?_)
  · refine tz_astore_nN [(3, .null), (0, .ref 0), (1, .int a1), (2, .int a2)] (Nat.le_of_ble_eq_true rfl) rfl (zd DX7_longest 3 rfl) ?_
    refine tz_aload_nN 0 rfl (zd DX7_longest 4 rfl) ?_
    refine tz_ifnonnullN (zd DX7_longest 5 rfl) ?_
    refine tz_iconst (-1 : Int32) zk_iconst_m1 (zd DX7_longest 6 rfl) ?_
    exact tz_iret rfl (zd DX7_longest 7 rfl)
  refine tz_astore_n [(3, .ref l4), (0, .ref 0), (1, .int a1), (2, .int a2)] (Nat.le_of_ble_eq_true rfl) rfl (zd DX7_longest 3 rfl) ?_
  refine tz_aload_n 0 rfl (zd DX7_longest 4 rfl) ?_
  refine tz_ifnonnull 12 (zd DX7_longest 5 rfl) rfl ?_
  refine tz_iconst (0 : Int32) zk_iconst_0 (zd DX7_longest 8 rfl) ?_
  refine tz_istore [(4, .int (0 : Int32)), (3, .ref l4), (0, .ref 0), (1, .int a1), (2, .int a2)] (Nat.le_of_ble_eq_true rfl) rfl (zd DX7_longest 9 rfl) ?_
  refine tz_iconst (-1 : Int32) zk_iconst_m1 (zd DX7_longest 10 rfl) ?_
  refine tz_istore [(5, .int (-1 : Int32)), (4, .int (0 : Int32)), (3, .ref l4), (0, .ref 0), (1, .int a1), (2, .int a2)] (Nat.le_of_ble_eq_true rfl) rfl (zd DX7_longest 11 rfl) ?_
  refine tz_iconst (1 : Int32) zk_iconst_1 (zd DX7_longest 12 rfl) ?_
  refine tz_istore [(6, .int (1 : Int32)), (5, .int (-1 : Int32)), (4, .int (0 : Int32)), (3, .ref l4), (0, .ref 0), (1, .int a1), (2, .int a2)] (Nat.le_of_ble_eq_true rfl) rfl (zd DX7_longest 13 rfl) ?_
  refine tz_lv (lv2 := [(0, .ref 0), (2, .int a2), (3, .ref l4), (4, .int (0 : Int32)), (5, .int (-1 : Int32)), (6, .int (1 : Int32))]) [4, 6, 3, 2, 1, 0] rfl ?_
  exact lX7_longest_L21 a2 l4 (fX7_lineAt_c e2) zFU (0 : Int32) (-1 : Int32) (1 : Int32) w1
def QX7_greatest : List (Nat × Instr × Nat) := [(0, .aload_n 0, 1), (1, .iload_n 1, 1), (2, .invokevirtual 158, 3), (5, .astore_n 3, 1), (6, .aload_n 3, 1), (7, .ifnull 14, 3), (10, .iload_n 2, 1), (11, .iconst 1, 1), (12, .if_icmp .lt 9, 3), (15, .iload_n 2, 1), (16, .bipush 64, 2), (18, .if_icmp .le 5, 3), (21, .iconst (-1), 1), (22, .ireturn, 1), (23, .aload_n 3, 1), (24, .invokevirtual 165, 3), (27, .iload_n 2, 1), (28, .if_icmp .ge 6, 3), (31, .bipush (-2), 2), (33, .ireturn, 1), (34, .iconst (-1), 1), (35, .istore 4, 2), (37, .lconst 0, 1), (38, .lstore 5, 2), (40, .lconst 0, 1), (41, .lstore 7, 2), (43, .iconst 0, 1), (44, .istore 9, 2), (46, .iload 9, 2), (48, .iload_n 2, 1), (49, .iadd, 1), (50, .aload_n 3, 1), (51, .invokevirtual 165, 3), (54, .if_icmp .gt 61, 3), (57, .aload_n 0, 1), (58, .aload_n 3, 1), (59, .iload 9, 2), (61, .iload 9, 2), (63, .iload_n 2, 1), (64, .iadd, 1), (65, .invokevirtual 206, 3), (68, .iload 4, 2), (70, .iconst (-1), 1), (71, .if_icmp .eq 16, 3), (74, .aload_n 0, 1), (75, .getfield 10, 3), (78, .getfield 120, 3), (81, .lload 7, 2), (83, .lcmp, 1), (84, .ifCond .le 25, 3), (87, .iload 9, 2), (89, .istore 4, 2), (91, .aload_n 0, 1), (92, .getfield 10, 3), (95, .getfield 116, 3), (98, .lstore 5, 2), (100, .aload_n 0, 1), (101, .getfield 10, 3), (104, .getfield 120, 3), (107, .lstore 7, 2), (109, .iinc 9 1, 3), (112, .goto (-66), 3), (115, .aload_n 0, 1), (116, .lload 5, 2), (118, .lload 7, 2), (120, .invokevirtual 135, 3), (123, .iload 4, 2), (125, .ireturn, 1)]
set_option maxRecDepth 100000 in
theorem DX7_greatest : ∀ q ∈ QX7_greatest, decode cX7_greatest q.1 = .ok (q.2.1, q.2.2) := by decide +kernel
abbrev MX7_greatest : zM := (cX7_greatest, "EndSums", 10, (some .int), { frames := 4, cells := 0, slots := 0, locals := 105 })
def fX7_greatest_L46 (x2 : Int32) (r3 : Nat) : Nat → Int32 → Int64 → Int64 → Int32 → zW → Option (Int32 × zW)
  | 0, _, _, _, _, _ => none
  | n + 1, x4, x5, x7, x9, w =>
    bd (fX1_size r3 w) fun v13 w11 =>
    if v13 < (x9 + x2) then
      bd (fX7_tell_ x5 x7 w11) fun _ w15 =>
      some (x4, w15)
    else
    bd (fX7_sumUp r3 x9 (x9 + x2) w11) fun _ w18 =>
    lt (fun (y4_109 : Int32) (y5_109 : Int64) (y7_109 : Int64) (w21 : zW) =>
      fX7_greatest_L46 x2 r3 n y4_109 y5_109 y7_109 (x9 + (1 : Int32)) w21) fun j21 =>
    lt (fun (w22 : zW) =>
      lt (zL w22 1 2) fun v23 =>
      lt (zL w22 1 3) fun v24 =>
      j21 x9 v23 v24 w22) fun j22 =>
    if x4 = (-1 : Int32) then
      j22 w18
    else
    if (zL w18 1 3) ≤ x7 then
      j21 x4 x5 x7 w18
    else
    j22 w18
def fX7_greatest (a1 : Int32) (a2 : Int32) (w : zW) : Option (Int32 × zW) :=
  bd (fX7_lineAt a1 w) fun o3 w1 => oc o3 (
    some ((-1 : Int32), w1)) fun l4 =>
    if a2 < (1 : Int32) then
      some ((-1 : Int32), w1)
    else
    if a2 ≤ (64 : Int32) then
      bd (fX1_size l4 w1) fun v9 w7 =>
      if a2 ≤ v9 then
        fX7_greatest_L46 a2 l4 zFU (-1 : Int32) (0 : Int64) (0 : Int64) (0 : Int32) w7
      else
      some ((-2 : Int32), w7)
    else
    some ((-1 : Int32), w1)
theorem YX7_greatest : zYV yX7_greatest MX7_greatest 2 := ⟨wk_646, wk_1, ⟨wk_644, wk_645⟩, ⟨by decide, by decide, by decide +kernel⟩, rfl, rfl⟩
set_option maxHeartbeats 4000000 in
set_option maxRecDepth 100000 in
theorem lX7_greatest_L46 (x2 : Int32) (r3 : Nat) (hr3 : zc 1 r3) : ∀ (n : Nat) (x4 : Int32) (x5 : Int64) (x7 : Int64) (x9 : Int32) (w : zW), Tz MX7_greatest (zRet zi) (fX7_greatest_L46 x2 r3 n x4 x5 x7 x9 w) 46 [(0, .ref 0), (2, .int x2), (3, .ref r3), (4, .int x4), (5, .long x5), (7, .long x7), (9, .int x9)] [] w := by
  intro n
  induction n with
  | zero => intro x4 x5 x7 x9 w; exact tz_eq (fX7_greatest_L46.eq_1 _ _ _ _ _ _ _) tz_none
  | succ n ih =>
    intro x4 x5 x7 x9 w
    refine tz_eq (fX7_greatest_L46.eq_2 _ _ _ _ _ _ _ _) ?_
    refine tz_iload 6 rfl (zd DX7_greatest 28 rfl) ?_
    refine tz_iload_n 1 rfl (zd DX7_greatest 29 rfl) ?_
    refine tz_iadd (zd DX7_greatest 30 rfl) ?_
    refine tz_aload_n 2 rfl (zd DX7_greatest 31 rfl) ?_
    refine tz_cVN_i kz1 (hr3) rfl (rest := [.int (x9 + x2)]) (YX1_size) wn_486 (tX1_size r3 (hr3) w) rfl rfl (Nat.le_of_ble_eq_true rfl) ⟨Nat.le_of_ble_eq_true rfl, Nat.le_of_ble_eq_true rfl⟩ (zd DX7_greatest 32 rfl) (fun v13 w11 e12 => ?_)
    refine tz_icmp_gt 115 (zd DX7_greatest 33 rfl) rfl (fun q14 => ?_) (fun q14 => ?_)
    · refine tz_aload_n 0 rfl (zd DX7_greatest 62 rfl) ?_
      refine tz_lload 4 rfl (zd DX7_greatest 63 rfl) ?_
      refine tz_lload 5 rfl (zd DX7_greatest 64 rfl) ?_
      refine tz_cV_n kz7 (zs_0) rfl (rest := []) (YX7_tell_) wk_387 (tX7_tell_ x5 x7 w11) rfl rfl (Nat.le_of_ble_eq_true rfl) ⟨Nat.le_of_ble_eq_true rfl, Nat.le_of_ble_eq_true rfl⟩ (zd DX7_greatest 65 rfl) (fun v17 w15 e16 => ?_)
      refine tz_iload 3 rfl (zd DX7_greatest 66 rfl) ?_
      exact tz_iret rfl (zd DX7_greatest 67 rfl)
    refine tz_aload_n 0 rfl (zd DX7_greatest 34 rfl) ?_
    refine tz_aload_n 2 rfl (zd DX7_greatest 35 rfl) ?_
    refine tz_iload 6 rfl (zd DX7_greatest 36 rfl) ?_
    refine tz_iload 6 rfl (zd DX7_greatest 37 rfl) ?_
    refine tz_iload_n 1 rfl (zd DX7_greatest 38 rfl) ?_
    refine tz_iadd (zd DX7_greatest 39 rfl) ?_
    refine tz_cV_n kz7 (zs_0) rfl (rest := []) (YX7_sumUp) wk_559 (tX7_sumUp r3 (hr3) x9 (x9 + x2) w11) rfl rfl (Nat.le_of_ble_eq_true rfl) ⟨Nat.le_of_ble_eq_true rfl, Nat.le_of_ble_eq_true rfl⟩ (zd DX7_greatest 40 rfl) (fun v20 w18 e19 => ?_)
    refine tz_iload 3 rfl (zd DX7_greatest 41 rfl) ?_
    refine tz_iconst (-1 : Int32) zk_iconst_m1 (zd DX7_greatest 42 rfl) ?_
    refine tz_jp (P := fun j => ∀ (y4_109 : Int32) (y5_109 : Int64) (y7_109 : Int64) (w21 : zW), Tz MX7_greatest (zRet zi) (j y4_109 y5_109 y7_109 w21) 109 [(0, .ref 0), (2, .int x2), (3, .ref r3), (4, .int y4_109), (5, .long y5_109), (7, .long y7_109), (9, .int x9)] [] w21) ?_ (fun j21 hj21 => ?_)
    · intro y4_109 y5_109 y7_109 w21
      refine tz_iinc 6 (1 : Int32) [(9, .int (x9 + (1 : Int32))), (0, .ref 0), (2, .int x2), (3, .ref r3), (4, .int y4_109), (5, .long y5_109), (7, .long y7_109)] rfl zk_iconst_1 (Nat.le_of_ble_eq_true rfl) rfl (zd DX7_greatest 60 rfl) ?_
      refine tz_goto 46 (zd DX7_greatest 61 rfl) rfl ?_
      refine tz_lv (lv2 := [(0, .ref 0), (2, .int x2), (3, .ref r3), (4, .int y4_109), (5, .long y5_109), (7, .long y7_109), (9, .int (x9 + (1 : Int32)))]) [1, 2, 3, 4, 5, 6, 0] rfl ?_
      exact ih y4_109 y5_109 y7_109 (x9 + (1 : Int32)) w21
    refine tz_jp (P := fun j => ∀ (w22 : zW), Tz MX7_greatest (zRet zi) (j w22) 87 [(0, .ref 0), (2, .int x2), (3, .ref r3), (9, .int x9)] [] w22) ?_ (fun j22 hj22 => ?_)
    · intro w22
      refine tz_iload 3 rfl (zd DX7_greatest 50 rfl) ?_
      refine tz_istore [(4, .int x9), (0, .ref 0), (2, .int x2), (3, .ref r3), (9, .int x9)] (Nat.le_of_ble_eq_true rfl) rfl (zd DX7_greatest 51 rfl) ?_
      refine tz_aload_n 1 rfl (zd DX7_greatest 52 rfl) ?_
      refine tz_getR 1 0 kz7 (zs_0) (by decide) (by decide) rfl wk_184 (zd DX7_greatest 53 rfl) ?_
      refine tz_getJN 2 kz0 (zs_1) (by decide) rfl wn_56 (zd DX7_greatest 54 rfl) ?_
      refine tz_ltl (fun v23 => ?_)
      refine tz_lstore [(5, .long v23), (4, .int x9), (0, .ref 0), (2, .int x2), (3, .ref r3), (9, .int x9)] (Nat.le_of_ble_eq_true rfl) rfl (zd DX7_greatest 55 rfl) ?_
      refine tz_aload_n 2 rfl (zd DX7_greatest 56 rfl) ?_
      refine tz_getR 1 0 kz7 (zs_0) (by decide) (by decide) rfl wk_184 (zd DX7_greatest 57 rfl) ?_
      refine tz_getJN 3 kz0 (zs_1) (by decide) rfl wn_59 (zd DX7_greatest 58 rfl) ?_
      refine tz_ltl (fun v24 => ?_)
      refine tz_lstore [(7, .long v24), (5, .long v23), (4, .int x9), (0, .ref 0), (2, .int x2), (3, .ref r3), (9, .int x9)] (Nat.le_of_ble_eq_true rfl) rfl (zd DX7_greatest 59 rfl) ?_
      refine tz_lv (lv2 := [(0, .ref 0), (2, .int x2), (3, .ref r3), (4, .int x9), (5, .long v23), (7, .long v24), (9, .int x9)]) [3, 4, 5, 2, 1, 0, 6] rfl ?_
      exact hj21 x9 v23 v24 w22
    refine tz_icmp_eq 87 (zd DX7_greatest 43 rfl) rfl (fun q25 => ?_) (fun q25 => ?_)
    · refine tz_lv (lv2 := [(0, .ref 0), (2, .int x2), (3, .ref r3), (9, .int x9)]) [0, 1, 2, 6] rfl ?_
      exact hj22 w18
    refine tz_aload_n 0 rfl (zd DX7_greatest 44 rfl) ?_
    refine tz_getR 1 0 kz7 (zs_0) (by decide) (by decide) rfl wk_184 (zd DX7_greatest 45 rfl) ?_
    refine tz_getJN 3 kz0 (zs_1) (by decide) rfl wn_59 (zd DX7_greatest 46 rfl) ?_
    refine tz_lload 5 rfl (zd DX7_greatest 47 rfl) ?_
    refine tz_lcmp_le 109 (zd DX7_greatest 48 rfl) (zd DX7_greatest 49 rfl) rfl (fun q26 => ?_) (fun q26 => ?_)
    · exact hj21 x4 x5 x7 w18
    refine tz_lv (lv2 := [(0, .ref 0), (2, .int x2), (3, .ref r3), (9, .int x9)]) [0, 1, 2, 6] rfl ?_
    exact hj22 w18
set_option maxHeartbeats 4000000 in
set_option maxRecDepth 100000 in
theorem tX7_greatest (a1 : Int32) (a2 : Int32) (w : zW) : Sm yX7_greatest MX7_greatest zi [.ref 0, .int a1, .int a2] w (fX7_greatest a1 a2 w) := by
  refine Sm_of (lv0 := [(0, .ref 0), (1, .int a1), (2, .int a2)]) (by decide) rfl (fun _ => Nat.le_of_ble_eq_true rfl) rfl ?_
  unfold fX7_greatest
  refine tz_aload_n 0 rfl (zd DX7_greatest 0 rfl) ?_
  refine tz_iload_n 1 rfl (zd DX7_greatest 1 rfl) ?_
  refine tz_cV_o kz7 (zs_0) rfl (rest := []) (YX7_lineAt) wk_226 (tX7_lineAt a1 w) rfl rfl (Nat.le_of_ble_eq_true rfl) ⟨Nat.le_of_ble_eq_true rfl, Nat.le_of_ble_eq_true rfl⟩ (zd DX7_greatest 2 rfl) (fun w1 e2 => ?_) (fun l4 w1 e2 => ?_)
  · refine tz_astore_nN [(3, .null), (0, .ref 0), (1, .int a1), (2, .int a2)] (Nat.le_of_ble_eq_true rfl) rfl (zd DX7_greatest 3 rfl) ?_
    refine tz_aload_nN 0 rfl (zd DX7_greatest 4 rfl) ?_
    refine tz_ifnullN 21 (zd DX7_greatest 5 rfl) rfl ?_
    refine tz_iconst (-1 : Int32) zk_iconst_m1 (zd DX7_greatest 12 rfl) ?_
    exact tz_iret rfl (zd DX7_greatest 13 rfl)
  refine tz_astore_n [(3, .ref l4), (0, .ref 0), (1, .int a1), (2, .int a2)] (Nat.le_of_ble_eq_true rfl) rfl (zd DX7_greatest 3 rfl) ?_
  refine tz_aload_n 0 rfl (zd DX7_greatest 4 rfl) ?_
  refine tz_ifnull (zd DX7_greatest 5 rfl) ?_
  refine tz_iload_n 3 rfl (zd DX7_greatest 6 rfl) ?_
  refine tz_iconst (1 : Int32) zk_iconst_1 (zd DX7_greatest 7 rfl) ?_
  refine tz_icmp_lt 21 (zd DX7_greatest 8 rfl) rfl (fun q5 => ?_) (fun q5 => ?_)
  · refine tz_iconst (-1 : Int32) zk_iconst_m1 (zd DX7_greatest 12 rfl) ?_
    exact tz_iret rfl (zd DX7_greatest 13 rfl)
  refine tz_iload_n 3 rfl (zd DX7_greatest 9 rfl) ?_
  refine tz_bipush (64 : Int32) zk_bipush_64 (zd DX7_greatest 10 rfl) ?_
  refine tz_icmp_le 23 (zd DX7_greatest 11 rfl) rfl (fun q6 => ?_) (fun q6 => ?_)
  · refine tz_aload_n 0 rfl (zd DX7_greatest 14 rfl) ?_
    refine tz_cVN_i kz1 (fX7_lineAt_c e2) rfl (rest := []) (YX1_size) wn_486 (tX1_size l4 (fX7_lineAt_c e2) w1) rfl rfl (Nat.le_of_ble_eq_true rfl) ⟨Nat.le_of_ble_eq_true rfl, Nat.le_of_ble_eq_true rfl⟩ (zd DX7_greatest 15 rfl) (fun v9 w7 e8 => ?_)
    refine tz_iload_n 3 rfl (zd DX7_greatest 16 rfl) ?_
    refine tz_icmp_ge 34 (zd DX7_greatest 17 rfl) rfl (fun q10 => ?_) (fun q10 => ?_)
    · refine tz_iconst (-1 : Int32) zk_iconst_m1 (zd DX7_greatest 20 rfl) ?_
      refine tz_istore [(4, .int (-1 : Int32)), (3, .ref l4), (0, .ref 0), (1, .int a1), (2, .int a2)] (Nat.le_of_ble_eq_true rfl) rfl (zd DX7_greatest 21 rfl) ?_
      refine tz_lconst (0 : Int64) rfl (zd DX7_greatest 22 rfl) ?_
      refine tz_lstore [(5, .long (0 : Int64)), (4, .int (-1 : Int32)), (3, .ref l4), (0, .ref 0), (1, .int a1), (2, .int a2)] (Nat.le_of_ble_eq_true rfl) rfl (zd DX7_greatest 23 rfl) ?_
      refine tz_lconst (0 : Int64) rfl (zd DX7_greatest 24 rfl) ?_
      refine tz_lstore [(7, .long (0 : Int64)), (5, .long (0 : Int64)), (4, .int (-1 : Int32)), (3, .ref l4), (0, .ref 0), (1, .int a1), (2, .int a2)] (Nat.le_of_ble_eq_true rfl) rfl (zd DX7_greatest 25 rfl) ?_
      refine tz_iconst (0 : Int32) zk_iconst_0 (zd DX7_greatest 26 rfl) ?_
      refine tz_istore [(9, .int (0 : Int32)), (7, .long (0 : Int64)), (5, .long (0 : Int64)), (4, .int (-1 : Int32)), (3, .ref l4), (0, .ref 0), (1, .int a1), (2, .int a2)] (Nat.le_of_ble_eq_true rfl) rfl (zd DX7_greatest 27 rfl) ?_
      refine tz_lv (lv2 := [(0, .ref 0), (2, .int a2), (3, .ref l4), (4, .int (-1 : Int32)), (5, .long (0 : Int64)), (7, .long (0 : Int64)), (9, .int (0 : Int32))]) [5, 7, 4, 3, 2, 1, 0] rfl ?_
      exact lX7_greatest_L46 a2 l4 (fX7_lineAt_c e2) zFU (-1 : Int32) (0 : Int64) (0 : Int64) (0 : Int32) w7
    refine tz_bipush (-2 : Int32) zk_bipush_m2 (zd DX7_greatest 18 rfl) ?_
    exact tz_iret rfl (zd DX7_greatest 19 rfl)
  refine tz_iconst (-1 : Int32) zk_iconst_m1 (zd DX7_greatest 12 rfl) ?_
  exact tz_iret rfl (zd DX7_greatest 13 rfl)
def QX7_sumsJust : List (Nat × Instr × Nat) := [(0, .iconst 0, 1), (1, .istore 6, 2), (3, .iconst 0, 1), (4, .istore 7, 2), (6, .iload 7, 2), (8, .iload 5, 2), (10, .if_icmp .ge 30, 3), (13, .iload 6, 2), (15, .aload_n 0, 1), (16, .iload 7, 2), (18, .lload_n 1, 1), (19, .lload_n 3, 1), (20, .invokevirtual 334, 3), (23, .ifCond .eq 7, 3), (26, .iconst 1, 1), (27, .goto 4, 3), (30, .iconst 0, 1), (31, .iadd, 1), (32, .istore 6, 2), (34, .iinc 7 1, 3), (37, .goto (-31), 3), (40, .iload 6, 2), (42, .ireturn, 1)]
set_option maxRecDepth 100000 in
theorem DX7_sumsJust : ∀ q ∈ QX7_sumsJust, decode cX7_sumsJust q.1 = .ok (q.2.1, q.2.2) := by decide +kernel
abbrev MX7_sumsJust : zM := (cX7_sumsJust, "EndSums", 8, (some .int), { frames := 2, cells := 0, slots := 0, locals := 46 })
def fX7_sumsJust_L6 (x1 : Int64) (x3 : Int64) (x5 : Int32) : Nat → Int32 → Int32 → zW → Option (Int32 × zW)
  | 0, _, _, _ => none
  | n + 1, x6, x7, w =>
    if x5 ≤ x7 then
      some (x6, w)
    else
    bd (fX7_sumIsJust x7 x1 x3 w) fun b4 w2 =>
    lt (if b4 = true then (1 : Int32) else (0 : Int32)) fun v6 =>
    lt (x6 + v6) fun v7 =>
    fX7_sumsJust_L6 x1 x3 x5 n v7 (x7 + (1 : Int32)) w2
def fX7_sumsJust (a1 : Int64) (a3 : Int64) (a5 : Int32) (w : zW) : Option (Int32 × zW) :=
  fX7_sumsJust_L6 a1 a3 a5 zFU (0 : Int32) (0 : Int32) w
theorem YX7_sumsJust : zYV yX7_sumsJust MX7_sumsJust 3 := ⟨wk_654, wk_1, ⟨wk_653, ws_61⟩, ⟨by decide, by decide, by decide +kernel⟩, rfl, rfl⟩
set_option maxHeartbeats 4000000 in
set_option maxRecDepth 100000 in
theorem lX7_sumsJust_L6 (x1 : Int64) (x3 : Int64) (x5 : Int32) : ∀ (n : Nat) (x6 : Int32) (x7 : Int32) (w : zW), Tz MX7_sumsJust (zRet zi) (fX7_sumsJust_L6 x1 x3 x5 n x6 x7 w) 6 [(0, .ref 0), (1, .long x1), (3, .long x3), (5, .int x5), (6, .int x6), (7, .int x7)] [] w := by
  intro n
  induction n with
  | zero => intro x6 x7 w; exact tz_eq (fX7_sumsJust_L6.eq_1 _ _ _ _ _ _) tz_none
  | succ n ih =>
    intro x6 x7 w
    refine tz_eq (fX7_sumsJust_L6.eq_2 _ _ _ _ _ _ _) ?_
    refine tz_iload 5 rfl (zd DX7_sumsJust 4 rfl) ?_
    refine tz_iload 3 rfl (zd DX7_sumsJust 5 rfl) ?_
    refine tz_icmp_ge 40 (zd DX7_sumsJust 6 rfl) rfl (fun q1 => ?_) (fun q1 => ?_)
    · refine tz_iload 4 rfl (zd DX7_sumsJust 21 rfl) ?_
      exact tz_iret rfl (zd DX7_sumsJust 22 rfl)
    refine tz_iload 4 rfl (zd DX7_sumsJust 7 rfl) ?_
    refine tz_aload_n 0 rfl (zd DX7_sumsJust 8 rfl) ?_
    refine tz_iload 5 rfl (zd DX7_sumsJust 9 rfl) ?_
    refine tz_lload_n 1 rfl (zd DX7_sumsJust 10 rfl) ?_
    refine tz_lload_n 2 rfl (zd DX7_sumsJust 11 rfl) ?_
    refine tz_cV_z kz7 (zs_0) rfl (rest := [.int x6]) (YX7_sumIsJust) wk_462 (tX7_sumIsJust x7 x1 x3 w) rfl rfl (Nat.le_of_ble_eq_true rfl) ⟨Nat.le_of_ble_eq_true rfl, Nat.le_of_ble_eq_true rfl⟩ (zd DX7_sumsJust 12 rfl) (fun b4 w2 e3 => ?_)
    refine tz_dia (P := fun F => ∀ v : Int32, Tz MX7_sumsJust (zRet zi) (F v) 31 [(0, .ref 0), (1, .long x1), (3, .long x3), (5, .int x5), (6, .int x6), (7, .int x7)] (.int v :: [.int x6]) w2) ?_ (fun _ hJ31 => ?_)
    · intro v6
      refine tz_iadd (zd DX7_sumsJust 17 rfl) ?_
      refine tz_lti (fun v7 => ?_)
      refine tz_istore [(6, .int v7), (0, .ref 0), (1, .long x1), (3, .long x3), (5, .int x5), (7, .int x7)] (Nat.le_of_ble_eq_true rfl) rfl (zd DX7_sumsJust 18 rfl) ?_
      refine tz_iinc 5 (1 : Int32) [(7, .int (x7 + (1 : Int32))), (6, .int v7), (0, .ref 0), (1, .long x1), (3, .long x3), (5, .int x5)] rfl zk_iconst_1 (Nat.le_of_ble_eq_true rfl) rfl (zd DX7_sumsJust 19 rfl) ?_
      refine tz_goto 6 (zd DX7_sumsJust 20 rfl) rfl ?_
      refine tz_lv (lv2 := [(0, .ref 0), (1, .long x1), (3, .long x3), (5, .int x5), (6, .int v7), (7, .int (x7 + (1 : Int32)))]) [2, 3, 4, 5, 1, 0] rfl ?_
      exact ih v7 (x7 + (1 : Int32)) w2
    refine tz_ite ?_
    refine tz_bif_eq 30 (zd DX7_sumsJust 13 rfl) rfl (fun q5 => ?_) (fun q5 => ?_)
    · refine tz_iconst (1 : Int32) zk_iconst_1 (zd DX7_sumsJust 14 rfl) ?_
      refine tz_goto 31 (zd DX7_sumsJust 15 rfl) rfl ?_
      exact hJ31 (1 : Int32)
    refine tz_iconst (0 : Int32) zk_iconst_0 (zd DX7_sumsJust 16 rfl) ?_
    exact hJ31 (0 : Int32)
set_option maxHeartbeats 4000000 in
set_option maxRecDepth 100000 in
theorem tX7_sumsJust (a1 : Int64) (a3 : Int64) (a5 : Int32) (w : zW) : Sm yX7_sumsJust MX7_sumsJust zi [.ref 0, .long a1, .long a3, .int a5] w (fX7_sumsJust a1 a3 a5 w) := by
  refine Sm_of (lv0 := [(0, .ref 0), (1, .long a1), (3, .long a3), (5, .int a5)]) (by decide) rfl (fun _ => Nat.le_of_ble_eq_true rfl) rfl ?_
  unfold fX7_sumsJust
  refine tz_iconst (0 : Int32) zk_iconst_0 (zd DX7_sumsJust 0 rfl) ?_
  refine tz_istore [(6, .int (0 : Int32)), (0, .ref 0), (1, .long a1), (3, .long a3), (5, .int a5)] (Nat.le_of_ble_eq_true rfl) rfl (zd DX7_sumsJust 1 rfl) ?_
  refine tz_iconst (0 : Int32) zk_iconst_0 (zd DX7_sumsJust 2 rfl) ?_
  refine tz_istore [(7, .int (0 : Int32)), (6, .int (0 : Int32)), (0, .ref 0), (1, .long a1), (3, .long a3), (5, .int a5)] (Nat.le_of_ble_eq_true rfl) rfl (zd DX7_sumsJust 3 rfl) ?_
  refine tz_lv (lv2 := [(0, .ref 0), (1, .long a1), (3, .long a3), (5, .int a5), (6, .int (0 : Int32)), (7, .int (0 : Int32))]) [2, 3, 4, 5, 1, 0] rfl ?_
  exact lX7_sumsJust_L6 a1 a3 a5 zFU (0 : Int32) (0 : Int32) w
def QX7_firstJust : List (Nat × Instr × Nat) := [(0, .iconst 0, 1), (1, .istore 6, 2), (3, .iload 6, 2), (5, .iload 5, 2), (7, .if_icmp .ge 23, 3), (10, .aload_n 0, 1), (11, .iload 6, 2), (13, .lload_n 1, 1), (14, .lload_n 3, 1), (15, .invokevirtual 334, 3), (18, .ifCond .eq 6, 3), (21, .iload 6, 2), (23, .ireturn, 1), (24, .iinc 6 1, 3), (27, .goto (-24), 3), (30, .iconst (-1), 1), (31, .ireturn, 1)]
set_option maxRecDepth 100000 in
theorem DX7_firstJust : ∀ q ∈ QX7_firstJust, decode cX7_firstJust q.1 = .ok (q.2.1, q.2.2) := by decide +kernel
abbrev MX7_firstJust : zM := (cX7_firstJust, "EndSums", 7, (some .int), { frames := 2, cells := 0, slots := 0, locals := 46 })
def fX7_firstJust_L3 (x1 : Int64) (x3 : Int64) (x5 : Int32) : Nat → Int32 → zW → Option (Int32 × zW)
  | 0, _, _ => none
  | n + 1, x6, w =>
    if x5 ≤ x6 then
      some ((-1 : Int32), w)
    else
    bd (fX7_sumIsJust x6 x1 x3 w) fun b4 w2 =>
    if b4 = true then
      some (x6, w2)
    else
    fX7_firstJust_L3 x1 x3 x5 n (x6 + (1 : Int32)) w2
def fX7_firstJust (a1 : Int64) (a3 : Int64) (a5 : Int32) (w : zW) : Option (Int32 × zW) :=
  fX7_firstJust_L3 a1 a3 a5 zFU (0 : Int32) w
theorem YX7_firstJust : zYV yX7_firstJust MX7_firstJust 3 := ⟨wk_658, wk_1, ⟨wk_657, ws_62⟩, ⟨by decide, by decide, by decide +kernel⟩, rfl, rfl⟩
set_option maxHeartbeats 4000000 in
set_option maxRecDepth 100000 in
theorem lX7_firstJust_L3 (x1 : Int64) (x3 : Int64) (x5 : Int32) : ∀ (n : Nat) (x6 : Int32) (w : zW), Tz MX7_firstJust (zRet zi) (fX7_firstJust_L3 x1 x3 x5 n x6 w) 3 [(0, .ref 0), (1, .long x1), (3, .long x3), (5, .int x5), (6, .int x6)] [] w := by
  intro n
  induction n with
  | zero => intro x6 w; exact tz_eq (fX7_firstJust_L3.eq_1 _ _ _ _ _) tz_none
  | succ n ih =>
    intro x6 w
    refine tz_eq (fX7_firstJust_L3.eq_2 _ _ _ _ _ _) ?_
    refine tz_iload 4 rfl (zd DX7_firstJust 2 rfl) ?_
    refine tz_iload 3 rfl (zd DX7_firstJust 3 rfl) ?_
    refine tz_icmp_ge 30 (zd DX7_firstJust 4 rfl) rfl (fun q1 => ?_) (fun q1 => ?_)
    · refine tz_iconst (-1 : Int32) zk_iconst_m1 (zd DX7_firstJust 15 rfl) ?_
      exact tz_iret rfl (zd DX7_firstJust 16 rfl)
    refine tz_aload_n 0 rfl (zd DX7_firstJust 5 rfl) ?_
    refine tz_iload 4 rfl (zd DX7_firstJust 6 rfl) ?_
    refine tz_lload_n 1 rfl (zd DX7_firstJust 7 rfl) ?_
    refine tz_lload_n 2 rfl (zd DX7_firstJust 8 rfl) ?_
    refine tz_cV_z kz7 (zs_0) rfl (rest := []) (YX7_sumIsJust) wk_462 (tX7_sumIsJust x6 x1 x3 w) rfl rfl (Nat.le_of_ble_eq_true rfl) ⟨Nat.le_of_ble_eq_true rfl, Nat.le_of_ble_eq_true rfl⟩ (zd DX7_firstJust 9 rfl) (fun b4 w2 e3 => ?_)
    refine tz_bif_eq 24 (zd DX7_firstJust 10 rfl) rfl (fun q5 => ?_) (fun q5 => ?_)
    · refine tz_iload 4 rfl (zd DX7_firstJust 11 rfl) ?_
      exact tz_iret rfl (zd DX7_firstJust 12 rfl)
    refine tz_iinc 4 (1 : Int32) [(6, .int (x6 + (1 : Int32))), (0, .ref 0), (1, .long x1), (3, .long x3), (5, .int x5)] rfl zk_iconst_1 (Nat.le_of_ble_eq_true rfl) rfl (zd DX7_firstJust 13 rfl) ?_
    refine tz_goto 3 (zd DX7_firstJust 14 rfl) rfl ?_
    refine tz_lv (lv2 := [(0, .ref 0), (1, .long x1), (3, .long x3), (5, .int x5), (6, .int (x6 + (1 : Int32)))]) [1, 2, 3, 4, 0] rfl ?_
    exact ih (x6 + (1 : Int32)) w2
set_option maxHeartbeats 4000000 in
set_option maxRecDepth 100000 in
theorem tX7_firstJust (a1 : Int64) (a3 : Int64) (a5 : Int32) (w : zW) : Sm yX7_firstJust MX7_firstJust zi [.ref 0, .long a1, .long a3, .int a5] w (fX7_firstJust a1 a3 a5 w) := by
  refine Sm_of (lv0 := [(0, .ref 0), (1, .long a1), (3, .long a3), (5, .int a5)]) (by decide) rfl (fun _ => Nat.le_of_ble_eq_true rfl) rfl ?_
  unfold fX7_firstJust
  refine tz_iconst (0 : Int32) zk_iconst_0 (zd DX7_firstJust 0 rfl) ?_
  refine tz_istore [(6, .int (0 : Int32)), (0, .ref 0), (1, .long a1), (3, .long a3), (5, .int a5)] (Nat.le_of_ble_eq_true rfl) rfl (zd DX7_firstJust 1 rfl) ?_
  refine tz_lv (lv2 := [(0, .ref 0), (1, .long a1), (3, .long a3), (5, .int a5), (6, .int (0 : Int32))]) [1, 2, 3, 4, 0] rfl ?_
  exact lX7_firstJust_L3 a1 a3 a5 zFU (0 : Int32) w
def QX7_finds : List (Nat × Instr × Nat) := [(0, .aload_n 0, 1), (1, .iload_n 1, 1), (2, .invokevirtual 158, 3), (5, .astore 4, 2), (7, .aload 4, 2), (9, .ifnonnull 5, 3), (12, .iconst (-1), 1), (13, .ireturn, 1), (14, .iconst 1, 1), (15, .istore 5, 2), (17, .iload 5, 2), (19, .aload 4, 2), (21, .invokevirtual 165, 3), (24, .if_icmp .gt 67, 3), (27, .aload_n 0, 1), (28, .aload 4, 2), (30, .iload 5, 2), (32, .invokevirtual 262, 3), (35, .aload 4, 2), (37, .invokevirtual 165, 3), (40, .iload 5, 2), (42, .isub, 1), (43, .iconst 1, 1), (44, .iadd, 1), (45, .istore 6, 2), (47, .aload_n 0, 1), (48, .iload_n 2, 1), (49, .i2l, 1), (50, .iload_n 3, 1), (51, .i2l, 1), (52, .iload 6, 2), (54, .invokevirtual 269, 3), (57, .istore 7, 2), (59, .iload 7, 2), (61, .ifCond .le 24, 3), (64, .aload_n 0, 1), (65, .aload_n 0, 1), (66, .iload_n 2, 1), (67, .i2l, 1), (68, .iload_n 3, 1), (69, .i2l, 1), (70, .iload 6, 2), (72, .invokevirtual 273, 3), (75, .i2l, 1), (76, .iload 7, 2), (78, .i2l, 1), (79, .invokevirtual 135, 3), (82, .iload 5, 2), (84, .ireturn, 1), (85, .iinc 5 1, 3), (88, .goto (-71), 3), (91, .bipush (-2), 2), (93, .ireturn, 1)]
set_option maxRecDepth 100000 in
theorem DX7_finds : ∀ q ∈ QX7_finds, decode cX7_finds q.1 = .ok (q.2.1, q.2.2) := by decide +kernel
abbrev MX7_finds : zM := (cX7_finds, "EndSums", 8, (some .int), { frames := 4, cells := 0, slots := 0, locals := 104 })
def fX7_finds_L17 (x2 : Int32) (x3 : Int32) (r4 : Nat) : Nat → Int32 → zW → Option (Int32 × zW)
  | 0, _, _ => none
  | n + 1, x5, w =>
    bd (fX1_size r4 w) fun v7 w5 =>
    if v7 < x5 then
      some ((-2 : Int32), w5)
    else
    bd (fX7_stretch r4 x5 w5) fun _ w9 =>
    bd (fX1_size r4 w9) fun v14 w12 =>
    lt ((v14 - x5) + (1 : Int32)) fun v15 =>
    bd (fX7_sumsJust (x2).toInt64 (x3).toInt64 v15 w12) fun v18 w16 =>
    if v18 ≤ (0 : Int32) then
      fX7_finds_L17 x2 x3 r4 n (x5 + (1 : Int32)) w16
    else
    bd (fX7_firstJust (x2).toInt64 (x3).toInt64 v15 w16) fun v22 w20 =>
    bd (fX7_tell_ (v22).toInt64 (v18).toInt64 w20) fun _ w23 =>
    some (x5, w23)
def fX7_finds (a1 : Int32) (a2 : Int32) (a3 : Int32) (w : zW) : Option (Int32 × zW) :=
  bd (fX7_lineAt a1 w) fun o3 w1 => oc o3 (
    some ((-1 : Int32), w1)) fun l4 =>
    fX7_finds_L17 a2 a3 l4 zFU (1 : Int32) w1
theorem YX7_finds : zYV yX7_finds MX7_finds 3 := ⟨wk_650, wk_1, ⟨wk_648, wk_649⟩, ⟨by decide, by decide, by decide +kernel⟩, rfl, rfl⟩
set_option maxHeartbeats 4000000 in
set_option maxRecDepth 100000 in
theorem lX7_finds_L17 (x2 : Int32) (x3 : Int32) (r4 : Nat) (hr4 : zc 1 r4) : ∀ (n : Nat) (x5 : Int32) (w : zW), Tz MX7_finds (zRet zi) (fX7_finds_L17 x2 x3 r4 n x5 w) 17 [(0, .ref 0), (2, .int x2), (3, .int x3), (4, .ref r4), (5, .int x5)] [] w := by
  intro n
  induction n with
  | zero => intro x5 w; exact tz_eq (fX7_finds_L17.eq_1 _ _ _ _ _) tz_none
  | succ n ih =>
    intro x5 w
    refine tz_eq (fX7_finds_L17.eq_2 _ _ _ _ _ _) ?_
    refine tz_iload 4 rfl (zd DX7_finds 10 rfl) ?_
    refine tz_aload 3 rfl (zd DX7_finds 11 rfl) ?_
    refine tz_cVN_i kz1 (hr4) rfl (rest := [.int x5]) (YX1_size) wn_486 (tX1_size r4 (hr4) w) rfl rfl (Nat.le_of_ble_eq_true rfl) ⟨Nat.le_of_ble_eq_true rfl, Nat.le_of_ble_eq_true rfl⟩ (zd DX7_finds 12 rfl) (fun v7 w5 e6 => ?_)
    refine tz_icmp_gt 91 (zd DX7_finds 13 rfl) rfl (fun q8 => ?_) (fun q8 => ?_)
    · refine tz_bipush (-2 : Int32) zk_bipush_m2 (zd DX7_finds 51 rfl) ?_
      exact tz_iret rfl (zd DX7_finds 52 rfl)
    refine tz_aload_n 0 rfl (zd DX7_finds 14 rfl) ?_
    refine tz_aload 3 rfl (zd DX7_finds 15 rfl) ?_
    refine tz_iload 4 rfl (zd DX7_finds 16 rfl) ?_
    refine tz_cV_n kz7 (zs_0) rfl (rest := []) (YX7_stretch) wk_634 (tX7_stretch r4 (hr4) x5 w5) rfl rfl (Nat.le_of_ble_eq_true rfl) ⟨Nat.le_of_ble_eq_true rfl, Nat.le_of_ble_eq_true rfl⟩ (zd DX7_finds 17 rfl) (fun v11 w9 e10 => ?_)
    refine tz_aload 3 rfl (zd DX7_finds 18 rfl) ?_
    refine tz_cVN_i kz1 (hr4) rfl (rest := []) (YX1_size) wn_486 (tX1_size r4 (hr4) w9) rfl rfl (Nat.le_of_ble_eq_true rfl) ⟨Nat.le_of_ble_eq_true rfl, Nat.le_of_ble_eq_true rfl⟩ (zd DX7_finds 19 rfl) (fun v14 w12 e13 => ?_)
    refine tz_iload 4 rfl (zd DX7_finds 20 rfl) ?_
    refine tz_isub (zd DX7_finds 21 rfl) ?_
    refine tz_iconst (1 : Int32) zk_iconst_1 (zd DX7_finds 22 rfl) ?_
    refine tz_iadd (zd DX7_finds 23 rfl) ?_
    refine tz_lti (fun v15 => ?_)
    refine tz_istore [(6, .int v15), (0, .ref 0), (2, .int x2), (3, .int x3), (4, .ref r4), (5, .int x5)] (Nat.le_of_ble_eq_true rfl) rfl (zd DX7_finds 24 rfl) ?_
    refine tz_aload_n 1 rfl (zd DX7_finds 25 rfl) ?_
    refine tz_iload_n 2 rfl (zd DX7_finds 26 rfl) ?_
    refine tz_i2l (zd DX7_finds 27 rfl) ?_
    refine tz_iload_n 3 rfl (zd DX7_finds 28 rfl) ?_
    refine tz_i2l (zd DX7_finds 29 rfl) ?_
    refine tz_iload 0 rfl (zd DX7_finds 30 rfl) ?_
    refine tz_cV_i kz7 (zs_0) rfl (rest := []) (YX7_sumsJust) wk_651 (tX7_sumsJust (x2).toInt64 (x3).toInt64 v15 w12) rfl rfl (Nat.le_of_ble_eq_true rfl) ⟨Nat.le_of_ble_eq_true rfl, Nat.le_of_ble_eq_true rfl⟩ (zd DX7_finds 31 rfl) (fun v18 w16 e17 => ?_)
    refine tz_istore [(7, .int v18), (6, .int v15), (0, .ref 0), (2, .int x2), (3, .int x3), (4, .ref r4), (5, .int x5)] (Nat.le_of_ble_eq_true rfl) rfl (zd DX7_finds 32 rfl) ?_
    refine tz_iload 0 rfl (zd DX7_finds 33 rfl) ?_
    refine tz_if_le 85 (zd DX7_finds 34 rfl) rfl (fun q19 => ?_) (fun q19 => ?_)
    · refine tz_iinc 6 (1 : Int32) [(5, .int (x5 + (1 : Int32))), (7, .int v18), (6, .int v15), (0, .ref 0), (2, .int x2), (3, .int x3), (4, .ref r4)] rfl zk_iconst_1 (Nat.le_of_ble_eq_true rfl) rfl (zd DX7_finds 49 rfl) ?_
      refine tz_goto 17 (zd DX7_finds 50 rfl) rfl ?_
      refine tz_lv (lv2 := [(0, .ref 0), (2, .int x2), (3, .int x3), (4, .ref r4), (5, .int (x5 + (1 : Int32)))]) [3, 4, 5, 6, 0] rfl ?_
      exact ih (x5 + (1 : Int32)) w16
    refine tz_aload_n 2 rfl (zd DX7_finds 35 rfl) ?_
    refine tz_aload_n 2 rfl (zd DX7_finds 36 rfl) ?_
    refine tz_iload_n 3 rfl (zd DX7_finds 37 rfl) ?_
    refine tz_i2l (zd DX7_finds 38 rfl) ?_
    refine tz_iload_n 4 rfl (zd DX7_finds 39 rfl) ?_
    refine tz_i2l (zd DX7_finds 40 rfl) ?_
    refine tz_iload 1 rfl (zd DX7_finds 41 rfl) ?_
    refine tz_cV_i kz7 (zs_0) rfl (rest := [.ref 0]) (YX7_firstJust) wk_655 (tX7_firstJust (x2).toInt64 (x3).toInt64 v15 w16) rfl rfl (Nat.le_of_ble_eq_true rfl) ⟨Nat.le_of_ble_eq_true rfl, Nat.le_of_ble_eq_true rfl⟩ (zd DX7_finds 42 rfl) (fun v22 w20 e21 => ?_)
    refine tz_i2l (zd DX7_finds 43 rfl) ?_
    refine tz_iload 0 rfl (zd DX7_finds 44 rfl) ?_
    refine tz_i2l (zd DX7_finds 45 rfl) ?_
    refine tz_cV_n kz7 (zs_0) rfl (rest := []) (YX7_tell_) wk_387 (tX7_tell_ (v22).toInt64 (v18).toInt64 w20) rfl rfl (Nat.le_of_ble_eq_true rfl) ⟨Nat.le_of_ble_eq_true rfl, Nat.le_of_ble_eq_true rfl⟩ (zd DX7_finds 46 rfl) (fun v25 w23 e24 => ?_)
    refine tz_iload 6 rfl (zd DX7_finds 47 rfl) ?_
    exact tz_iret rfl (zd DX7_finds 48 rfl)
set_option maxHeartbeats 4000000 in
set_option maxRecDepth 100000 in
theorem tX7_finds (a1 : Int32) (a2 : Int32) (a3 : Int32) (w : zW) : Sm yX7_finds MX7_finds zi [.ref 0, .int a1, .int a2, .int a3] w (fX7_finds a1 a2 a3 w) := by
  refine Sm_of (lv0 := [(0, .ref 0), (1, .int a1), (2, .int a2), (3, .int a3)]) (by decide) rfl (fun _ => Nat.le_of_ble_eq_true rfl) rfl ?_
  unfold fX7_finds
  refine tz_aload_n 0 rfl (zd DX7_finds 0 rfl) ?_
  refine tz_iload_n 1 rfl (zd DX7_finds 1 rfl) ?_
  refine tz_cV_o kz7 (zs_0) rfl (rest := []) (YX7_lineAt) wk_226 (tX7_lineAt a1 w) rfl rfl (Nat.le_of_ble_eq_true rfl) ⟨Nat.le_of_ble_eq_true rfl, Nat.le_of_ble_eq_true rfl⟩ (zd DX7_finds 2 rfl) (fun w1 e2 => ?_) (fun l4 w1 e2 => ?_)
  · refine tz_astoreN [(4, .null), (0, .ref 0), (1, .int a1), (2, .int a2), (3, .int a3)] (Nat.le_of_ble_eq_true rfl) rfl (zd DX7_finds 3 rfl) ?_
    refine tz_aloadN 0 rfl (zd DX7_finds 4 rfl) ?_
    refine tz_ifnonnullN (zd DX7_finds 5 rfl) ?_
    refine tz_iconst (-1 : Int32) zk_iconst_m1 (zd DX7_finds 6 rfl) ?_
    exact tz_iret rfl (zd DX7_finds 7 rfl)
  refine tz_astore [(4, .ref l4), (0, .ref 0), (1, .int a1), (2, .int a2), (3, .int a3)] (Nat.le_of_ble_eq_true rfl) rfl (zd DX7_finds 3 rfl) ?_
  refine tz_aload 0 rfl (zd DX7_finds 4 rfl) ?_
  refine tz_ifnonnull 14 (zd DX7_finds 5 rfl) rfl ?_
  refine tz_iconst (1 : Int32) zk_iconst_1 (zd DX7_finds 8 rfl) ?_
  refine tz_istore [(5, .int (1 : Int32)), (4, .ref l4), (0, .ref 0), (1, .int a1), (2, .int a2), (3, .int a3)] (Nat.le_of_ble_eq_true rfl) rfl (zd DX7_finds 9 rfl) ?_
  refine tz_lv (lv2 := [(0, .ref 0), (2, .int a2), (3, .int a3), (4, .ref l4), (5, .int (1 : Int32))]) [2, 4, 5, 1, 0] rfl ?_
  exact lX7_finds_L17 a2 a3 l4 (fX7_lineAt_c e2) zFU (1 : Int32) w1
def QX7_drains : List (Nat × Instr × Nat) := [(0, .aload_n 0, 1), (1, .iload_n 1, 1), (2, .invokevirtual 158, 3), (5, .astore_n 2, 1), (6, .aload_n 2, 1), (7, .ifnonnull 5, 3), (10, .iconst (-1), 1), (11, .ireturn, 1), (12, .aload_n 2, 1), (13, .getfield 209, 3), (16, .getfield 213, 3), (19, .aload_n 2, 1), (20, .getfield 217, 3), (23, .getfield 213, 3), (26, .invokestatic 276, 3), (29, .istore_n 3, 1), (30, .aload_n 2, 1), (31, .getfield 217, 3), (34, .getfield 213, 3), (37, .aload_n 2, 1), (38, .getfield 209, 3), (41, .getfield 213, 3), (44, .invokestatic 276, 3), (47, .istore 4, 2), (49, .iload 4, 2), (51, .iload_n 3, 1), (52, .if_icmp .ge 7, 3), (55, .iconst 1, 1), (56, .goto 4, 3), (59, .iconst 0, 1), (60, .istore 5, 2), (62, .aload_n 0, 1), (63, .iload 5, 2), (65, .i2l, 1), (66, .iload_n 3, 1), (67, .i2l, 1), (68, .iload 4, 2), (70, .i2l, 1), (71, .invokevirtual 88, 3), (74, .iload 5, 2), (76, .ifCond .ne 7, 3), (79, .iload_n 3, 1), (80, .goto 5, 3), (83, .iload 4, 2), (85, .ireturn, 1)]
set_option maxRecDepth 100000 in
theorem DX7_drains : ∀ q ∈ QX7_drains, decode cX7_drains q.1 = .ok (q.2.1, q.2.2) := by decide +kernel
abbrev MX7_drains : zM := (cX7_drains, "EndSums", 6, (some .int), { frames := 4, cells := 0, slots := 0, locals := 94 })
def fX7_drains (a1 : Int32) (w : zW) : Option (Int32 × zW) :=
  bd (fX7_lineAt a1 w) fun o3 w1 => oc o3 (
    some ((-1 : Int32), w1)) fun l4 =>
    bd (fX4_drain (zI w1 (l4 + 1) 0) (zI w1 (l4 + 6) 0) w1) fun v7 w5 =>
    bd (fX4_drain (zI w5 (l4 + 6) 0) (zI w5 (l4 + 1) 0) w5) fun v10 w8 =>
    lt (if v7 ≤ v10 then (0 : Int32) else (1 : Int32)) fun v12 =>
    bd (fX7_tell__ (v12).toInt64 (v7).toInt64 (v10).toInt64 w8) fun _ w13 =>
    if ¬ v12 = (0 : Int32) then
      some (v10, w13)
    else
    some (v7, w13)
theorem YX7_drains : zYV yX7_drains MX7_drains 1 := ⟨wk_662, wk_1, ⟨wk_660, wk_661⟩, ⟨by decide, by decide, by decide +kernel⟩, rfl, rfl⟩
set_option maxHeartbeats 4000000 in
set_option maxRecDepth 100000 in
theorem tX7_drains (a1 : Int32) (w : zW) : Sm yX7_drains MX7_drains zi [.ref 0, .int a1] w (fX7_drains a1 w) := by
  refine Sm_of (lv0 := [(0, .ref 0), (1, .int a1)]) (by decide) rfl (fun _ => Nat.le_of_ble_eq_true rfl) rfl ?_
  unfold fX7_drains
  refine tz_aload_n 0 rfl (zd DX7_drains 0 rfl) ?_
  refine tz_iload_n 1 rfl (zd DX7_drains 1 rfl) ?_
  refine tz_cV_o kz7 (zs_0) rfl (rest := []) (YX7_lineAt) wk_226 (tX7_lineAt a1 w) rfl rfl (Nat.le_of_ble_eq_true rfl) ⟨Nat.le_of_ble_eq_true rfl, Nat.le_of_ble_eq_true rfl⟩ (zd DX7_drains 2 rfl) (fun w1 e2 => ?_) (fun l4 w1 e2 => ?_)
  · refine tz_astore_nN [(2, .null), (0, .ref 0), (1, .int a1)] (Nat.le_of_ble_eq_true rfl) rfl (zd DX7_drains 3 rfl) ?_
    refine tz_aload_nN 0 rfl (zd DX7_drains 4 rfl) ?_
    refine tz_ifnonnullN (zd DX7_drains 5 rfl) ?_
    refine tz_iconst (-1 : Int32) zk_iconst_m1 (zd DX7_drains 6 rfl) ?_
    exact tz_iret rfl (zd DX7_drains 7 rfl)
  refine tz_astore_n [(2, .ref l4), (0, .ref 0), (1, .int a1)] (Nat.le_of_ble_eq_true rfl) rfl (zd DX7_drains 3 rfl) ?_
  refine tz_aload_n 0 rfl (zd DX7_drains 4 rfl) ?_
  refine tz_ifnonnull 12 (zd DX7_drains 5 rfl) rfl ?_
  refine tz_aload_n 0 rfl (zd DX7_drains 8 rfl) ?_
  refine tz_getRN (l4 + 1) 0 kz1 (fX7_lineAt_c e2) (by decide) (by decide) ((zf1_0 (fX7_lineAt_c e2)).1) wn_132 (zd DX7_drains 9 rfl) ?_
  refine tz_getIN 0 kz2 ((zf1_0 (w := w1) (fX7_lineAt_c e2)).2) (by decide) rfl wn_106 (zd DX7_drains 10 rfl) ?_
  refine tz_aload_n 0 rfl (zd DX7_drains 11 rfl) ?_
  refine tz_getRN (l4 + 6) 1 kz1 (fX7_lineAt_c e2) (by decide) (by decide) ((zf1_1 (fX7_lineAt_c e2)).1) wn_135 (zd DX7_drains 12 rfl) ?_
  refine tz_getIN 0 kz2 ((zf1_1 (w := w1) (fX7_lineAt_c e2)).2) (by decide) rfl wn_106 (zd DX7_drains 13 rfl) ?_
  refine tz_cSN_i (rest := []) (YX4_drain) wn_663 (tX4_drain (zI w1 (l4 + 1) 0) (zI w1 (l4 + 6) 0) w1) rfl rfl (Nat.le_of_ble_eq_true rfl) ⟨Nat.le_of_ble_eq_true rfl, Nat.le_of_ble_eq_true rfl⟩ (zd DX7_drains 14 rfl) (fun v7 w5 e6 => ?_)
  refine tz_istore_n [(3, .int v7), (2, .ref l4), (0, .ref 0), (1, .int a1)] (Nat.le_of_ble_eq_true rfl) rfl (zd DX7_drains 15 rfl) ?_
  refine tz_aload_n 1 rfl (zd DX7_drains 16 rfl) ?_
  refine tz_getRN (l4 + 6) 1 kz1 (fX7_lineAt_c e2) (by decide) (by decide) ((zf1_1 (fX7_lineAt_c e2)).1) wn_135 (zd DX7_drains 17 rfl) ?_
  refine tz_getIN 0 kz2 ((zf1_1 (w := w5) (fX7_lineAt_c e2)).2) (by decide) rfl wn_106 (zd DX7_drains 18 rfl) ?_
  refine tz_aload_n 1 rfl (zd DX7_drains 19 rfl) ?_
  refine tz_getRN (l4 + 1) 0 kz1 (fX7_lineAt_c e2) (by decide) (by decide) ((zf1_0 (fX7_lineAt_c e2)).1) wn_132 (zd DX7_drains 20 rfl) ?_
  refine tz_getIN 0 kz2 ((zf1_0 (w := w5) (fX7_lineAt_c e2)).2) (by decide) rfl wn_106 (zd DX7_drains 21 rfl) ?_
  refine tz_cSN_i (rest := []) (YX4_drain) wn_663 (tX4_drain (zI w5 (l4 + 6) 0) (zI w5 (l4 + 1) 0) w5) rfl rfl (Nat.le_of_ble_eq_true rfl) ⟨Nat.le_of_ble_eq_true rfl, Nat.le_of_ble_eq_true rfl⟩ (zd DX7_drains 22 rfl) (fun v10 w8 e9 => ?_)
  refine tz_istore [(4, .int v10), (3, .int v7), (2, .ref l4), (0, .ref 0), (1, .int a1)] (Nat.le_of_ble_eq_true rfl) rfl (zd DX7_drains 23 rfl) ?_
  refine tz_iload 0 rfl (zd DX7_drains 24 rfl) ?_
  refine tz_iload_n 1 rfl (zd DX7_drains 25 rfl) ?_
  refine tz_dia (P := fun F => ∀ v : Int32, Tz MX7_drains (zRet zi) (F v) 60 [(4, .int v10), (3, .int v7), (2, .ref l4), (0, .ref 0), (1, .int a1)] (.int v :: []) w8) ?_ (fun _ hJ60 => ?_)
  · intro v12
    refine tz_istore [(5, .int v12), (4, .int v10), (3, .int v7), (2, .ref l4), (0, .ref 0), (1, .int a1)] (Nat.le_of_ble_eq_true rfl) rfl (zd DX7_drains 30 rfl) ?_
    refine tz_aload_n 4 rfl (zd DX7_drains 31 rfl) ?_
    refine tz_iload 0 rfl (zd DX7_drains 32 rfl) ?_
    refine tz_i2l (zd DX7_drains 33 rfl) ?_
    refine tz_iload_n 2 rfl (zd DX7_drains 34 rfl) ?_
    refine tz_i2l (zd DX7_drains 35 rfl) ?_
    refine tz_iload 1 rfl (zd DX7_drains 36 rfl) ?_
    refine tz_i2l (zd DX7_drains 37 rfl) ?_
    refine tz_cV_n kz7 (zs_0) rfl (rest := []) (YX7_tell__) wk_383 (tX7_tell__ (v12).toInt64 (v7).toInt64 (v10).toInt64 w8) rfl rfl (Nat.le_of_ble_eq_true rfl) ⟨Nat.le_of_ble_eq_true rfl, Nat.le_of_ble_eq_true rfl⟩ (zd DX7_drains 38 rfl) (fun v15 w13 e14 => ?_)
    refine tz_iload 0 rfl (zd DX7_drains 39 rfl) ?_
    refine tz_if_ne 83 (zd DX7_drains 40 rfl) rfl (fun q16 => ?_) (fun q16 => ?_)
    · refine tz_iload 1 rfl (zd DX7_drains 43 rfl) ?_
      exact tz_iret rfl (zd DX7_drains 44 rfl)
    refine tz_iload_n 2 rfl (zd DX7_drains 41 rfl) ?_
    refine tz_goto 85 (zd DX7_drains 42 rfl) rfl ?_
    exact tz_iret rfl (zd DX7_drains 44 rfl)
  refine tz_ite ?_
  refine tz_icmp_ge 59 (zd DX7_drains 26 rfl) rfl (fun q11 => ?_) (fun q11 => ?_)
  · refine tz_iconst (0 : Int32) zk_iconst_0 (zd DX7_drains 29 rfl) ?_
    exact hJ60 (0 : Int32)
  refine tz_iconst (1 : Int32) zk_iconst_1 (zd DX7_drains 27 rfl) ?_
  refine tz_goto 60 (zd DX7_drains 28 rfl) rfl ?_
  exact hJ60 (1 : Int32)
def QX7_sumFirsts : List (Nat × Instr × Nat) := [(0, .aload_n 0, 1), (1, .getfield 10, 3), (4, .invokevirtual 138, 3), (7, .iconst 1, 1), (8, .istore_n 2, 1), (9, .iload_n 2, 1), (10, .aload_n 1, 1), (11, .invokevirtual 165, 3), (14, .if_icmp .gt 28, 3), (17, .aload_n 0, 1), (18, .getfield 10, 3), (21, .aload_n 1, 1), (22, .iload_n 2, 1), (23, .iconst 1, 1), (24, .isub, 1), (25, .invokevirtual 189, 3), (28, .invokevirtual 113, 3), (31, .aload_n 0, 1), (32, .iload_n 2, 1), (33, .invokevirtual 141, 3), (36, .iinc 2 1, 3), (39, .goto (-30), 3), (42, .return_, 1)]
set_option maxRecDepth 100000 in
theorem DX7_sumFirsts : ∀ q ∈ QX7_sumFirsts, decode cX7_sumFirsts q.1 = .ok (q.2.1, q.2.2) := by decide +kernel
abbrev MX7_sumFirsts : zM := (cX7_sumFirsts, "EndSums", 3, none, { frames := 3, cells := 0, slots := 0, locals := 81 })
def fX7_sumFirsts_L9 (r1 : Nat) : Nat → Int32 → zW → Option (Unit × zW)
  | 0, _, _ => none
  | n + 1, x2, w =>
    bd (fX1_size r1 w) fun v6 w4 =>
    if v6 < x2 then
      some ((), w4)
    else
    bd (fX1_itemAt r1 (x2 - (1 : Int32)) w4) fun v10 w8 =>
    bd (fX0_follow v10 w8) fun _ w11 =>
    bd (fX7_keepSum x2 w11) fun _ w14 =>
    fX7_sumFirsts_L9 r1 n (x2 + (1 : Int32)) w14
def fX7_sumFirsts (r1 : Nat) (w : zW) : Option (Unit × zW) :=
  bd (fX0_startEmpty w) fun _ w1 =>
  fX7_sumFirsts_L9 r1 zFU (1 : Int32) w1
theorem YX7_sumFirsts : zYV yX7_sumFirsts MX7_sumFirsts 1 := ⟨wk_679, wk_1, ⟨wk_678, ws_63⟩, ⟨by decide, by decide, by decide +kernel⟩, rfl, rfl⟩
set_option maxHeartbeats 4000000 in
set_option maxRecDepth 100000 in
theorem lX7_sumFirsts_L9 (r1 : Nat) (hr1 : zc 1 r1) : ∀ (n : Nat) (x2 : Int32) (w : zW), Tz MX7_sumFirsts (zRet zn) (fX7_sumFirsts_L9 r1 n x2 w) 9 [(0, .ref 0), (1, .ref r1), (2, .int x2)] [] w := by
  intro n
  induction n with
  | zero => intro x2 w; exact tz_eq (fX7_sumFirsts_L9.eq_1 _ _ _) tz_none
  | succ n ih =>
    intro x2 w
    refine tz_eq (fX7_sumFirsts_L9.eq_2 _ _ _ _) ?_
    refine tz_iload_n 2 rfl (zd DX7_sumFirsts 5 rfl) ?_
    refine tz_aload_n 1 rfl (zd DX7_sumFirsts 6 rfl) ?_
    refine tz_cVN_i kz1 (hr1) rfl (rest := [.int x2]) (YX1_size) wn_486 (tX1_size r1 (hr1) w) rfl rfl (Nat.le_of_ble_eq_true rfl) ⟨Nat.le_of_ble_eq_true rfl, Nat.le_of_ble_eq_true rfl⟩ (zd DX7_sumFirsts 7 rfl) (fun v6 w4 e5 => ?_)
    refine tz_icmp_gt 42 (zd DX7_sumFirsts 8 rfl) rfl (fun q7 => ?_) (fun q7 => ?_)
    · exact tz_vret rfl (zd DX7_sumFirsts 22 rfl)
    refine tz_aload_n 0 rfl (zd DX7_sumFirsts 9 rfl) ?_
    refine tz_getR 1 0 kz7 (zs_0) (by decide) (by decide) rfl wk_184 (zd DX7_sumFirsts 10 rfl) ?_
    refine tz_aload_n 1 rfl (zd DX7_sumFirsts 11 rfl) ?_
    refine tz_iload_n 2 rfl (zd DX7_sumFirsts 12 rfl) ?_
    refine tz_iconst (1 : Int32) zk_iconst_1 (zd DX7_sumFirsts 13 rfl) ?_
    refine tz_isub (zd DX7_sumFirsts 14 rfl) ?_
    refine tz_cVN_i kz1 (hr1) rfl (rest := [.ref 1]) (YX1_itemAt) wn_539 (tX1_itemAt r1 (hr1) (x2 - (1 : Int32)) w4) rfl rfl (Nat.le_of_ble_eq_true rfl) ⟨Nat.le_of_ble_eq_true rfl, Nat.le_of_ble_eq_true rfl⟩ (zd DX7_sumFirsts 15 rfl) (fun v10 w8 e9 => ?_)
    refine tz_cVN_n kz0 (zs_1) rfl (rest := []) (YX0_follow) wn_417 (tX0_follow v10 w8) rfl rfl (Nat.le_of_ble_eq_true rfl) ⟨Nat.le_of_ble_eq_true rfl, Nat.le_of_ble_eq_true rfl⟩ (zd DX7_sumFirsts 16 rfl) (fun v13 w11 e12 => ?_)
    refine tz_aload_n 0 rfl (zd DX7_sumFirsts 17 rfl) ?_
    refine tz_iload_n 2 rfl (zd DX7_sumFirsts 18 rfl) ?_
    refine tz_cV_n kz7 (zs_0) rfl (rest := []) (YX7_keepSum) wk_452 (tX7_keepSum x2 w11) rfl rfl (Nat.le_of_ble_eq_true rfl) ⟨Nat.le_of_ble_eq_true rfl, Nat.le_of_ble_eq_true rfl⟩ (zd DX7_sumFirsts 19 rfl) (fun v16 w14 e15 => ?_)
    refine tz_iinc 2 (1 : Int32) [(2, .int (x2 + (1 : Int32))), (0, .ref 0), (1, .ref r1)] rfl zk_iconst_1 (Nat.le_of_ble_eq_true rfl) rfl (zd DX7_sumFirsts 20 rfl) ?_
    refine tz_goto 9 (zd DX7_sumFirsts 21 rfl) rfl ?_
    refine tz_lv (lv2 := [(0, .ref 0), (1, .ref r1), (2, .int (x2 + (1 : Int32)))]) [1, 2, 0] rfl ?_
    exact ih (x2 + (1 : Int32)) w14
set_option maxHeartbeats 4000000 in
set_option maxRecDepth 100000 in
theorem tX7_sumFirsts (r1 : Nat) (hr1 : zc 1 r1) (w : zW) : Sm yX7_sumFirsts MX7_sumFirsts zn [.ref 0, .ref r1] w (fX7_sumFirsts r1 w) := by
  refine Sm_of (lv0 := [(0, .ref 0), (1, .ref r1)]) (by decide) rfl (fun _ => Nat.le_of_ble_eq_true rfl) rfl ?_
  unfold fX7_sumFirsts
  refine tz_aload_n 0 rfl (zd DX7_sumFirsts 0 rfl) ?_
  refine tz_getR 1 0 kz7 (zs_0) (by decide) (by decide) rfl wk_184 (zd DX7_sumFirsts 1 rfl) ?_
  refine tz_cVN_n kz0 (zs_1) rfl (rest := []) (YX0_startEmpty) wn_451 (tX0_startEmpty w) rfl rfl (Nat.le_of_ble_eq_true rfl) ⟨Nat.le_of_ble_eq_true rfl, Nat.le_of_ble_eq_true rfl⟩ (zd DX7_sumFirsts 2 rfl) (fun v3 w1 e2 => ?_)
  refine tz_iconst (1 : Int32) zk_iconst_1 (zd DX7_sumFirsts 3 rfl) ?_
  refine tz_istore_n [(2, .int (1 : Int32)), (0, .ref 0), (1, .ref r1)] (Nat.le_of_ble_eq_true rfl) rfl (zd DX7_sumFirsts 4 rfl) ?_
  refine tz_lv (lv2 := [(0, .ref 0), (1, .ref r1), (2, .int (1 : Int32))]) [1, 2, 0] rfl ?_
  exact lX7_sumFirsts_L9 r1 (hr1) zFU (1 : Int32) w1
def QX7_sumsLike : List (Nat × Instr × Nat) := [(0, .iconst 0, 1), (1, .istore_n 3, 1), (2, .iload_n 1, 1), (3, .istore 4, 2), (5, .iload 4, 2), (7, .iload_n 2, 1), (8, .if_icmp .gt 37, 3), (11, .aload_n 0, 1), (12, .iload 4, 2), (14, .aload_n 0, 1), (15, .getfield 61, 3), (18, .iload_n 1, 1), (19, .invokestatic 249, 3), (22, .aload_n 0, 1), (23, .getfield 64, 3), (26, .iload_n 1, 1), (27, .invokestatic 249, 3), (30, .invokevirtual 334, 3), (33, .ifCond .eq 6, 3), (36, .iinc 3 1, 3), (39, .iinc 4 1, 3), (42, .goto (-37), 3), (45, .iload_n 3, 1), (46, .ireturn, 1)]
set_option maxRecDepth 100000 in
theorem DX7_sumsLike : ∀ q ∈ QX7_sumsLike, decode cX7_sumsLike q.1 = .ok (q.2.1, q.2.2) := by decide +kernel
abbrev MX7_sumsLike : zM := (cX7_sumsLike, "EndSums", 5, (some .int), { frames := 2, cells := 0, slots := 0, locals := 46 })
def fX7_sumsLike_L5 (x1 : Int32) (x2 : Int32) : Nat → Int32 → Int32 → zW → Option (Int32 × zW)
  | 0, _, _, _ => none
  | n + 1, x3, x4, w =>
    if x2 < x4 then
      some (x3, w)
    else
    bd (fX7_at_ 72 x1 w) fun v4 w2 =>
    bd (fX7_at_ 73 x1 w2) fun v7 w5 =>
    bd (fX7_sumIsJust x4 v4 v7 w5) fun b10 w8 =>
    lt (fun (y3_39 : Int32) (w11 : zW) =>
      fX7_sumsLike_L5 x1 x2 n y3_39 (x4 + (1 : Int32)) w11) fun j11 =>
    if b10 = true then
      j11 (x3 + (1 : Int32)) w8
    else
    j11 x3 w8
def fX7_sumsLike (a1 : Int32) (a2 : Int32) (w : zW) : Option (Int32 × zW) :=
  fX7_sumsLike_L5 a1 a2 zFU (0 : Int32) a1 w
theorem YX7_sumsLike : zYV yX7_sumsLike MX7_sumsLike 2 := ⟨wk_683, wk_1, ⟨wk_682, ws_64⟩, ⟨by decide, by decide, by decide +kernel⟩, rfl, rfl⟩
set_option maxHeartbeats 4000000 in
set_option maxRecDepth 100000 in
theorem lX7_sumsLike_L5 (x1 : Int32) (x2 : Int32) : ∀ (n : Nat) (x3 : Int32) (x4 : Int32) (w : zW), Tz MX7_sumsLike (zRet zi) (fX7_sumsLike_L5 x1 x2 n x3 x4 w) 5 [(0, .ref 0), (1, .int x1), (2, .int x2), (3, .int x3), (4, .int x4)] [] w := by
  intro n
  induction n with
  | zero => intro x3 x4 w; exact tz_eq (fX7_sumsLike_L5.eq_1 _ _ _ _ _) tz_none
  | succ n ih =>
    intro x3 x4 w
    refine tz_eq (fX7_sumsLike_L5.eq_2 _ _ _ _ _ _) ?_
    refine tz_iload 4 rfl (zd DX7_sumsLike 4 rfl) ?_
    refine tz_iload_n 2 rfl (zd DX7_sumsLike 5 rfl) ?_
    refine tz_icmp_gt 45 (zd DX7_sumsLike 6 rfl) rfl (fun q1 => ?_) (fun q1 => ?_)
    · refine tz_iload_n 3 rfl (zd DX7_sumsLike 22 rfl) ?_
      exact tz_iret rfl (zd DX7_sumsLike 23 rfl)
    refine tz_aload_n 0 rfl (zd DX7_sumsLike 7 rfl) ?_
    refine tz_iload 4 rfl (zd DX7_sumsLike 8 rfl) ?_
    refine tz_aload_n 0 rfl (zd DX7_sumsLike 9 rfl) ?_
    refine tz_getR 72 9 kz7 (zs_0) (by decide) (by decide) rfl wk_193 (zd DX7_sumsLike 10 rfl) ?_
    refine tz_iload_n 1 rfl (zd DX7_sumsLike 11 rfl) ?_
    refine tz_cS_l (rest := [.int x4, .ref 0]) (YX7_at_) wk_461 (tX7_at_ 72 (zs_72.1) x1 w) rfl rfl (Nat.le_of_ble_eq_true rfl) ⟨Nat.le_of_ble_eq_true rfl, Nat.le_of_ble_eq_true rfl⟩ (zd DX7_sumsLike 12 rfl) (fun v4 w2 e3 => ?_)
    refine tz_aload_n 0 rfl (zd DX7_sumsLike 13 rfl) ?_
    refine tz_getR 73 10 kz7 (zs_0) (by decide) (by decide) rfl wk_194 (zd DX7_sumsLike 14 rfl) ?_
    refine tz_iload_n 1 rfl (zd DX7_sumsLike 15 rfl) ?_
    refine tz_cS_l (rest := [.long v4, .int x4, .ref 0]) (YX7_at_) wk_461 (tX7_at_ 73 (zs_73.1) x1 w2) rfl rfl (Nat.le_of_ble_eq_true rfl) ⟨Nat.le_of_ble_eq_true rfl, Nat.le_of_ble_eq_true rfl⟩ (zd DX7_sumsLike 16 rfl) (fun v7 w5 e6 => ?_)
    refine tz_cV_z kz7 (zs_0) rfl (rest := []) (YX7_sumIsJust) wk_462 (tX7_sumIsJust x4 v4 v7 w5) rfl rfl (Nat.le_of_ble_eq_true rfl) ⟨Nat.le_of_ble_eq_true rfl, Nat.le_of_ble_eq_true rfl⟩ (zd DX7_sumsLike 17 rfl) (fun b10 w8 e9 => ?_)
    refine tz_jp (P := fun j => ∀ (y3_39 : Int32) (w11 : zW), Tz MX7_sumsLike (zRet zi) (j y3_39 w11) 39 [(0, .ref 0), (1, .int x1), (2, .int x2), (3, .int y3_39), (4, .int x4)] [] w11) ?_ (fun j11 hj11 => ?_)
    · intro y3_39 w11
      refine tz_iinc 4 (1 : Int32) [(4, .int (x4 + (1 : Int32))), (0, .ref 0), (1, .int x1), (2, .int x2), (3, .int y3_39)] rfl zk_iconst_1 (Nat.le_of_ble_eq_true rfl) rfl (zd DX7_sumsLike 20 rfl) ?_
      refine tz_goto 5 (zd DX7_sumsLike 21 rfl) rfl ?_
      refine tz_lv (lv2 := [(0, .ref 0), (1, .int x1), (2, .int x2), (3, .int y3_39), (4, .int (x4 + (1 : Int32)))]) [1, 2, 3, 4, 0] rfl ?_
      exact ih y3_39 (x4 + (1 : Int32)) w11
    refine tz_bif_eq 39 (zd DX7_sumsLike 18 rfl) rfl (fun q12 => ?_) (fun q12 => ?_)
    · refine tz_iinc 3 (1 : Int32) [(3, .int (x3 + (1 : Int32))), (0, .ref 0), (1, .int x1), (2, .int x2), (4, .int x4)] rfl zk_iconst_1 (Nat.le_of_ble_eq_true rfl) rfl (zd DX7_sumsLike 19 rfl) ?_
      refine tz_lv (lv2 := [(0, .ref 0), (1, .int x1), (2, .int x2), (3, .int (x3 + (1 : Int32))), (4, .int x4)]) [1, 2, 3, 0, 4] rfl ?_
      exact hj11 (x3 + (1 : Int32)) w8
    exact hj11 x3 w8
set_option maxHeartbeats 4000000 in
set_option maxRecDepth 100000 in
theorem tX7_sumsLike (a1 : Int32) (a2 : Int32) (w : zW) : Sm yX7_sumsLike MX7_sumsLike zi [.ref 0, .int a1, .int a2] w (fX7_sumsLike a1 a2 w) := by
  refine Sm_of (lv0 := [(0, .ref 0), (1, .int a1), (2, .int a2)]) (by decide) rfl (fun _ => Nat.le_of_ble_eq_true rfl) rfl ?_
  unfold fX7_sumsLike
  refine tz_iconst (0 : Int32) zk_iconst_0 (zd DX7_sumsLike 0 rfl) ?_
  refine tz_istore_n [(3, .int (0 : Int32)), (0, .ref 0), (1, .int a1), (2, .int a2)] (Nat.le_of_ble_eq_true rfl) rfl (zd DX7_sumsLike 1 rfl) ?_
  refine tz_iload_n 2 rfl (zd DX7_sumsLike 2 rfl) ?_
  refine tz_istore [(4, .int a1), (3, .int (0 : Int32)), (0, .ref 0), (1, .int a1), (2, .int a2)] (Nat.le_of_ble_eq_true rfl) rfl (zd DX7_sumsLike 3 rfl) ?_
  refine tz_lv (lv2 := [(0, .ref 0), (1, .int a1), (2, .int a2), (3, .int (0 : Int32)), (4, .int a1)]) [2, 3, 4, 1, 0] rfl ?_
  exact lX7_sumsLike_L5 a1 a2 zFU (0 : Int32) a1 w
def QX7_unlike : List (Nat × Instr × Nat) := [(0, .aload_n 0, 1), (1, .iload_n 1, 1), (2, .invokevirtual 158, 3), (5, .astore_n 2, 1), (6, .aload_n 2, 1), (7, .ifnonnull 5, 3), (10, .iconst (-1), 1), (11, .ireturn, 1), (12, .aload_n 0, 1), (13, .aload_n 2, 1), (14, .invokevirtual 279, 3), (17, .iconst 0, 1), (18, .istore_n 3, 1), (19, .iconst 0, 1), (20, .istore 4, 2), (22, .iconst 0, 1), (23, .istore 5, 2), (25, .iconst 1, 1), (26, .istore 6, 2), (28, .iload 6, 2), (30, .aload_n 2, 1), (31, .invokevirtual 165, 3), (34, .if_icmp .gt 60, 3), (37, .aload_n 0, 1), (38, .iload 6, 2), (40, .invokevirtual 144, 3), (43, .iload 6, 2), (45, .if_icmp .ne 43, 3), (48, .iinc 3 1, 3), (51, .aload_n 0, 1), (52, .iload 6, 2), (54, .aload_n 2, 1), (55, .invokevirtual 165, 3), (58, .invokevirtual 282, 3), (61, .istore 7, 2), (63, .iload 7, 2), (65, .iload 4, 2), (67, .if_icmp .le 8, 3), (70, .iload 6, 2), (72, .goto 5, 3), (75, .iload 5, 2), (77, .istore 5, 2), (79, .iload 7, 2), (81, .iload 4, 2), (83, .invokestatic 285, 3), (86, .istore 4, 2), (88, .iinc 6 1, 3), (91, .goto (-63), 3), (94, .aload_n 0, 1), (95, .iconst 0, 1), (96, .putfield 256, 3), (99, .iload 4, 2), (101, .ifCond .le 28, 3), (104, .aload_n 0, 1), (105, .aload_n 0, 1), (106, .getfield 61, 3), (109, .iload 5, 2), (111, .invokestatic 249, 3), (114, .aload_n 0, 1), (115, .getfield 64, 3), (118, .iload 5, 2), (120, .invokestatic 249, 3), (123, .iload 4, 2), (125, .i2l, 1), (126, .invokevirtual 88, 3), (129, .iload_n 3, 1), (130, .ireturn, 1)]
set_option maxRecDepth 100000 in
theorem DX7_unlike : ∀ q ∈ QX7_unlike, decode cX7_unlike q.1 = .ok (q.2.1, q.2.2) := by decide +kernel
abbrev MX7_unlike : zM := (cX7_unlike, "EndSums", 8, (some .int), { frames := 4, cells := 0, slots := 0, locals := 103 })
def fX7_unlike_L28 (r2 : Nat) : Nat → Int32 → Int32 → Int32 → Int32 → zW → Option (Int32 × zW)
  | 0, _, _, _, _, _ => none
  | n + 1, x3, x4, x5, x6, w =>
    bd (fX1_size r2 w) fun v10 w8 =>
    if v10 < x6 then
      lt (zsI w8 0 8 (0 : Int32)) fun w12 =>
      if x4 ≤ (0 : Int32) then
        some (x3, w12)
      else
      bd (fX7_at_ 72 x5 w12) fun v16 w14 =>
      bd (fX7_at_ 73 x5 w14) fun v19 w17 =>
      bd (fX7_tell__ v16 v19 (x4).toInt64 w17) fun _ w20 =>
      some (x3, w20)
    else
    bd (fX7_firstSumLike x6 w8) fun v25 w23 =>
    lt (fun (y3_88 : Int32) (y4_88 : Int32) (y5_88 : Int32) (w26 : zW) =>
      fX7_unlike_L28 r2 n y3_88 y4_88 y5_88 (x6 + (1 : Int32)) w26) fun j26 =>
    if ¬ v25 = x6 then
      j26 x3 x4 x5 w23
    else
    bd (fX1_size r2 w23) fun v30 w28 =>
    bd (fX7_sumsLike x6 v30 w28) fun v33 w31 =>
    lt (if v33 ≤ x4 then x5 else x6) fun v35 =>
    lt (if v33 < x4 then x4 else v33) fun v36 =>
    j26 (x3 + (1 : Int32)) v36 v35 w31
def fX7_unlike (a1 : Int32) (w : zW) : Option (Int32 × zW) :=
  bd (fX7_lineAt a1 w) fun o3 w1 => oc o3 (
    some ((-1 : Int32), w1)) fun l4 =>
    bd (fX7_sumFirsts l4 w1) fun _ w5 =>
    fX7_unlike_L28 l4 zFU (0 : Int32) (0 : Int32) (0 : Int32) (1 : Int32) w5
theorem YX7_unlike : zYV yX7_unlike MX7_unlike 1 := ⟨wk_675, wk_1, ⟨wk_673, wk_674⟩, ⟨by decide, by decide, by decide +kernel⟩, rfl, rfl⟩
set_option maxHeartbeats 4000000 in
set_option maxRecDepth 100000 in
theorem lX7_unlike_L28 (r2 : Nat) (hr2 : zc 1 r2) : ∀ (n : Nat) (x3 : Int32) (x4 : Int32) (x5 : Int32) (x6 : Int32) (w : zW), Tz MX7_unlike (zRet zi) (fX7_unlike_L28 r2 n x3 x4 x5 x6 w) 28 [(0, .ref 0), (2, .ref r2), (3, .int x3), (4, .int x4), (5, .int x5), (6, .int x6)] [] w := by
  intro n
  induction n with
  | zero => intro x3 x4 x5 x6 w; exact tz_eq (fX7_unlike_L28.eq_1 _ _ _ _ _ _) tz_none
  | succ n ih =>
    intro x3 x4 x5 x6 w
    refine tz_eq (fX7_unlike_L28.eq_2 _ _ _ _ _ _ _) ?_
    refine tz_iload 5 rfl (zd DX7_unlike 19 rfl) ?_
    refine tz_aload_n 1 rfl (zd DX7_unlike 20 rfl) ?_
    refine tz_cVN_i kz1 (hr2) rfl (rest := [.int x6]) (YX1_size) wn_486 (tX1_size r2 (hr2) w) rfl rfl (Nat.le_of_ble_eq_true rfl) ⟨Nat.le_of_ble_eq_true rfl, Nat.le_of_ble_eq_true rfl⟩ (zd DX7_unlike 21 rfl) (fun v10 w8 e9 => ?_)
    refine tz_icmp_gt 94 (zd DX7_unlike 22 rfl) rfl (fun q11 => ?_) (fun q11 => ?_)
    · refine tz_aload_n 0 rfl (zd DX7_unlike 48 rfl) ?_
      refine tz_iconst (0 : Int32) zk_iconst_0 (zd DX7_unlike 49 rfl) ?_
      refine tz_putI 8 kz7 (zs_0) (by decide) rfl rfl wk_192 (zd DX7_unlike 50 rfl) (fun w12 => ?_)
      refine tz_iload 3 rfl (zd DX7_unlike 51 rfl) ?_
      refine tz_if_le 129 (zd DX7_unlike 52 rfl) rfl (fun q13 => ?_) (fun q13 => ?_)
      · refine tz_iload_n 2 rfl (zd DX7_unlike 65 rfl) ?_
        exact tz_iret rfl (zd DX7_unlike 66 rfl)
      refine tz_aload_n 0 rfl (zd DX7_unlike 53 rfl) ?_
      refine tz_aload_n 0 rfl (zd DX7_unlike 54 rfl) ?_
      refine tz_getR 72 9 kz7 (zs_0) (by decide) (by decide) rfl wk_193 (zd DX7_unlike 55 rfl) ?_
      refine tz_iload 4 rfl (zd DX7_unlike 56 rfl) ?_
      refine tz_cS_l (rest := [.ref 0]) (YX7_at_) wk_461 (tX7_at_ 72 (zs_72.1) x5 w12) rfl rfl (Nat.le_of_ble_eq_true rfl) ⟨Nat.le_of_ble_eq_true rfl, Nat.le_of_ble_eq_true rfl⟩ (zd DX7_unlike 57 rfl) (fun v16 w14 e15 => ?_)
      refine tz_aload_n 0 rfl (zd DX7_unlike 58 rfl) ?_
      refine tz_getR 73 10 kz7 (zs_0) (by decide) (by decide) rfl wk_194 (zd DX7_unlike 59 rfl) ?_
      refine tz_iload 4 rfl (zd DX7_unlike 60 rfl) ?_
      refine tz_cS_l (rest := [.long v16, .ref 0]) (YX7_at_) wk_461 (tX7_at_ 73 (zs_73.1) x5 w14) rfl rfl (Nat.le_of_ble_eq_true rfl) ⟨Nat.le_of_ble_eq_true rfl, Nat.le_of_ble_eq_true rfl⟩ (zd DX7_unlike 61 rfl) (fun v19 w17 e18 => ?_)
      refine tz_iload 3 rfl (zd DX7_unlike 62 rfl) ?_
      refine tz_i2l (zd DX7_unlike 63 rfl) ?_
      refine tz_cV_n kz7 (zs_0) rfl (rest := []) (YX7_tell__) wk_383 (tX7_tell__ v16 v19 (x4).toInt64 w17) rfl rfl (Nat.le_of_ble_eq_true rfl) ⟨Nat.le_of_ble_eq_true rfl, Nat.le_of_ble_eq_true rfl⟩ (zd DX7_unlike 64 rfl) (fun v22 w20 e21 => ?_)
      refine tz_iload_n 2 rfl (zd DX7_unlike 65 rfl) ?_
      exact tz_iret rfl (zd DX7_unlike 66 rfl)
    refine tz_aload_n 0 rfl (zd DX7_unlike 23 rfl) ?_
    refine tz_iload 5 rfl (zd DX7_unlike 24 rfl) ?_
    refine tz_cV_i kz7 (zs_0) rfl (rest := []) (YX7_firstSumLike) wk_457 (tX7_firstSumLike x6 w8) rfl rfl (Nat.le_of_ble_eq_true rfl) ⟨Nat.le_of_ble_eq_true rfl, Nat.le_of_ble_eq_true rfl⟩ (zd DX7_unlike 25 rfl) (fun v25 w23 e24 => ?_)
    refine tz_iload 5 rfl (zd DX7_unlike 26 rfl) ?_
    refine tz_jp (P := fun j => ∀ (y3_88 : Int32) (y4_88 : Int32) (y5_88 : Int32) (w26 : zW), Tz MX7_unlike (zRet zi) (j y3_88 y4_88 y5_88 w26) 88 [(0, .ref 0), (2, .ref r2), (3, .int y3_88), (4, .int y4_88), (5, .int y5_88), (6, .int x6)] [] w26) ?_ (fun j26 hj26 => ?_)
    · intro y3_88 y4_88 y5_88 w26
      refine tz_iinc 5 (1 : Int32) [(6, .int (x6 + (1 : Int32))), (0, .ref 0), (2, .ref r2), (3, .int y3_88), (4, .int y4_88), (5, .int y5_88)] rfl zk_iconst_1 (Nat.le_of_ble_eq_true rfl) rfl (zd DX7_unlike 46 rfl) ?_
      refine tz_goto 28 (zd DX7_unlike 47 rfl) rfl ?_
      refine tz_lv (lv2 := [(0, .ref 0), (2, .ref r2), (3, .int y3_88), (4, .int y4_88), (5, .int y5_88), (6, .int (x6 + (1 : Int32)))]) [1, 2, 3, 4, 5, 0] rfl ?_
      exact ih y3_88 y4_88 y5_88 (x6 + (1 : Int32)) w26
    refine tz_icmp_ne 88 (zd DX7_unlike 27 rfl) rfl (fun q27 => ?_) (fun q27 => ?_)
    · exact hj26 x3 x4 x5 w23
    refine tz_iinc 2 (1 : Int32) [(3, .int (x3 + (1 : Int32))), (0, .ref 0), (2, .ref r2), (4, .int x4), (5, .int x5), (6, .int x6)] rfl zk_iconst_1 (Nat.le_of_ble_eq_true rfl) rfl (zd DX7_unlike 28 rfl) ?_
    refine tz_aload_n 1 rfl (zd DX7_unlike 29 rfl) ?_
    refine tz_iload 5 rfl (zd DX7_unlike 30 rfl) ?_
    refine tz_aload_n 2 rfl (zd DX7_unlike 31 rfl) ?_
    refine tz_cVN_i kz1 (hr2) rfl (rest := [.int x6, .ref 0]) (YX1_size) wn_486 (tX1_size r2 (hr2) w23) rfl rfl (Nat.le_of_ble_eq_true rfl) ⟨Nat.le_of_ble_eq_true rfl, Nat.le_of_ble_eq_true rfl⟩ (zd DX7_unlike 32 rfl) (fun v30 w28 e29 => ?_)
    refine tz_cV_i kz7 (zs_0) rfl (rest := []) (YX7_sumsLike) wk_680 (tX7_sumsLike x6 v30 w28) rfl rfl (Nat.le_of_ble_eq_true rfl) ⟨Nat.le_of_ble_eq_true rfl, Nat.le_of_ble_eq_true rfl⟩ (zd DX7_unlike 33 rfl) (fun v33 w31 e32 => ?_)
    refine tz_istore [(7, .int v33), (3, .int (x3 + (1 : Int32))), (0, .ref 0), (2, .ref r2), (4, .int x4), (5, .int x5), (6, .int x6)] (Nat.le_of_ble_eq_true rfl) rfl (zd DX7_unlike 34 rfl) ?_
    refine tz_iload 0 rfl (zd DX7_unlike 35 rfl) ?_
    refine tz_iload 4 rfl (zd DX7_unlike 36 rfl) ?_
    refine tz_dia (P := fun F => ∀ v : Int32, Tz MX7_unlike (zRet zi) (F v) 77 [(7, .int v33), (3, .int (x3 + (1 : Int32))), (0, .ref 0), (2, .ref r2), (4, .int x4), (5, .int x5), (6, .int x6)] (.int v :: []) w31) ?_ (fun _ hJ77 => ?_)
    · intro v35
      refine tz_istore [(5, .int v35), (7, .int v33), (3, .int (x3 + (1 : Int32))), (0, .ref 0), (2, .ref r2), (4, .int x4), (6, .int x6)] (Nat.le_of_ble_eq_true rfl) rfl (zd DX7_unlike 41 rfl) ?_
      refine tz_iload 1 rfl (zd DX7_unlike 42 rfl) ?_
      refine tz_iload 5 rfl (zd DX7_unlike 43 rfl) ?_
      refine tz_mmax wk_684 wk_685 wk_10 wk_686 (Nat.le_of_ble_eq_true rfl) (Nat.le_of_ble_eq_true rfl) (zd DX7_unlike 44 rfl) ?_
      refine tz_lti (fun v36 => ?_)
      refine tz_istore [(4, .int v36), (5, .int v35), (7, .int v33), (3, .int (x3 + (1 : Int32))), (0, .ref 0), (2, .ref r2), (6, .int x6)] (Nat.le_of_ble_eq_true rfl) rfl (zd DX7_unlike 45 rfl) ?_
      refine tz_lv (lv2 := [(0, .ref 0), (2, .ref r2), (3, .int (x3 + (1 : Int32))), (4, .int v36), (5, .int v35), (6, .int x6)]) [4, 5, 3, 0, 1, 6] rfl ?_
      exact hj26 (x3 + (1 : Int32)) v36 v35 w31
    refine tz_ite ?_
    refine tz_icmp_le 75 (zd DX7_unlike 37 rfl) rfl (fun q34 => ?_) (fun q34 => ?_)
    · refine tz_iload 5 rfl (zd DX7_unlike 40 rfl) ?_
      exact hJ77 x5
    refine tz_iload 6 rfl (zd DX7_unlike 38 rfl) ?_
    refine tz_goto 77 (zd DX7_unlike 39 rfl) rfl ?_
    exact hJ77 x6
set_option maxHeartbeats 4000000 in
set_option maxRecDepth 100000 in
theorem tX7_unlike (a1 : Int32) (w : zW) : Sm yX7_unlike MX7_unlike zi [.ref 0, .int a1] w (fX7_unlike a1 w) := by
  refine Sm_of (lv0 := [(0, .ref 0), (1, .int a1)]) (by decide) rfl (fun _ => Nat.le_of_ble_eq_true rfl) rfl ?_
  unfold fX7_unlike
  refine tz_aload_n 0 rfl (zd DX7_unlike 0 rfl) ?_
  refine tz_iload_n 1 rfl (zd DX7_unlike 1 rfl) ?_
  refine tz_cV_o kz7 (zs_0) rfl (rest := []) (YX7_lineAt) wk_226 (tX7_lineAt a1 w) rfl rfl (Nat.le_of_ble_eq_true rfl) ⟨Nat.le_of_ble_eq_true rfl, Nat.le_of_ble_eq_true rfl⟩ (zd DX7_unlike 2 rfl) (fun w1 e2 => ?_) (fun l4 w1 e2 => ?_)
  · refine tz_astore_nN [(2, .null), (0, .ref 0), (1, .int a1)] (Nat.le_of_ble_eq_true rfl) rfl (zd DX7_unlike 3 rfl) ?_
    refine tz_aload_nN 0 rfl (zd DX7_unlike 4 rfl) ?_
    refine tz_ifnonnullN (zd DX7_unlike 5 rfl) ?_
    refine tz_iconst (-1 : Int32) zk_iconst_m1 (zd DX7_unlike 6 rfl) ?_
    exact tz_iret rfl (zd DX7_unlike 7 rfl)
  refine tz_astore_n [(2, .ref l4), (0, .ref 0), (1, .int a1)] (Nat.le_of_ble_eq_true rfl) rfl (zd DX7_unlike 3 rfl) ?_
  refine tz_aload_n 0 rfl (zd DX7_unlike 4 rfl) ?_
  refine tz_ifnonnull 12 (zd DX7_unlike 5 rfl) rfl ?_
  refine tz_aload_n 1 rfl (zd DX7_unlike 8 rfl) ?_
  refine tz_aload_n 0 rfl (zd DX7_unlike 9 rfl) ?_
  refine tz_cV_n kz7 (zs_0) rfl (rest := []) (YX7_sumFirsts) wk_676 (tX7_sumFirsts l4 (fX7_lineAt_c e2) w1) rfl rfl (Nat.le_of_ble_eq_true rfl) ⟨Nat.le_of_ble_eq_true rfl, Nat.le_of_ble_eq_true rfl⟩ (zd DX7_unlike 10 rfl) (fun v7 w5 e6 => ?_)
  refine tz_iconst (0 : Int32) zk_iconst_0 (zd DX7_unlike 11 rfl) ?_
  refine tz_istore_n [(3, .int (0 : Int32)), (2, .ref l4), (0, .ref 0), (1, .int a1)] (Nat.le_of_ble_eq_true rfl) rfl (zd DX7_unlike 12 rfl) ?_
  refine tz_iconst (0 : Int32) zk_iconst_0 (zd DX7_unlike 13 rfl) ?_
  refine tz_istore [(4, .int (0 : Int32)), (3, .int (0 : Int32)), (2, .ref l4), (0, .ref 0), (1, .int a1)] (Nat.le_of_ble_eq_true rfl) rfl (zd DX7_unlike 14 rfl) ?_
  refine tz_iconst (0 : Int32) zk_iconst_0 (zd DX7_unlike 15 rfl) ?_
  refine tz_istore [(5, .int (0 : Int32)), (4, .int (0 : Int32)), (3, .int (0 : Int32)), (2, .ref l4), (0, .ref 0), (1, .int a1)] (Nat.le_of_ble_eq_true rfl) rfl (zd DX7_unlike 16 rfl) ?_
  refine tz_iconst (1 : Int32) zk_iconst_1 (zd DX7_unlike 17 rfl) ?_
  refine tz_istore [(6, .int (1 : Int32)), (5, .int (0 : Int32)), (4, .int (0 : Int32)), (3, .int (0 : Int32)), (2, .ref l4), (0, .ref 0), (1, .int a1)] (Nat.le_of_ble_eq_true rfl) rfl (zd DX7_unlike 18 rfl) ?_
  refine tz_lv (lv2 := [(0, .ref 0), (2, .ref l4), (3, .int (0 : Int32)), (4, .int (0 : Int32)), (5, .int (0 : Int32)), (6, .int (1 : Int32))]) [5, 4, 3, 2, 1, 0] rfl ?_
  exact lX7_unlike_L28 l4 (fX7_lineAt_c e2) zFU (0 : Int32) (0 : Int32) (0 : Int32) (1 : Int32) w5
def QX7_same : List (Nat × Instr × Nat) := [(0, .aload_n 0, 1), (1, .iload_n 1, 1), (2, .invokevirtual 158, 3), (5, .astore_n 3, 1), (6, .aload_n 0, 1), (7, .iload_n 2, 1), (8, .invokevirtual 158, 3), (11, .astore 4, 2), (13, .aload_n 3, 1), (14, .ifnull 8, 3), (17, .aload 4, 2), (19, .ifnonnull 5, 3), (22, .iconst (-1), 1), (23, .ireturn, 1), (24, .aload_n 0, 1), (25, .aload_n 3, 1), (26, .iconst 0, 1), (27, .aload_n 3, 1), (28, .invokevirtual 165, 3), (31, .invokevirtual 206, 3), (34, .aload_n 0, 1), (35, .getfield 10, 3), (38, .getfield 116, 3), (41, .lstore 5, 2), (43, .aload_n 0, 1), (44, .getfield 10, 3), (47, .getfield 120, 3), (50, .lstore 7, 2), (52, .aload_n 0, 1), (53, .aload 4, 2), (55, .iconst 0, 1), (56, .aload 4, 2), (58, .invokevirtual 165, 3), (61, .invokevirtual 206, 3), (64, .aload_n 0, 1), (65, .aload_n 0, 1), (66, .getfield 10, 3), (69, .lload 5, 2), (71, .lload 7, 2), (73, .invokevirtual 123, 3), (76, .ifCond .eq 7, 3), (79, .lconst 1, 1), (80, .goto 4, 3), (83, .lconst 0, 1), (84, .aload_n 3, 1), (85, .aload 4, 2), (87, .invokevirtual 290, 3), (90, .i2l, 1), (91, .invokevirtual 135, 3), (94, .aload_n 3, 1), (95, .aload 4, 2), (97, .invokevirtual 294, 3), (100, .ifCond .eq 7, 3), (103, .iconst 1, 1), (104, .goto 4, 3), (107, .iconst 0, 1), (108, .ireturn, 1)]
set_option maxRecDepth 100000 in
theorem DX7_same : ∀ q ∈ QX7_same, decode cX7_same q.1 = .ok (q.2.1, q.2.2) := by decide +kernel
abbrev MX7_same : zM := (cX7_same, "EndSums", 9, (some .int), { frames := 4, cells := 0, slots := 0, locals := 105 })
def fX7_same (a1 : Int32) (a2 : Int32) (w : zW) : Option (Int32 × zW) :=
  bd (fX7_lineAt a1 w) fun o3 w1 => oc o3 (
    bd (fX7_lineAt a2 w1) fun o7 w5 => oc o7 (
      some ((-1 : Int32), w5)) fun l8 =>
      some ((-1 : Int32), w5)) fun l4 =>
    bd (fX7_lineAt a2 w1) fun o11 w9 => oc o11 (
      some ((-1 : Int32), w9)) fun l12 =>
      bd (fX1_size l4 w9) fun v15 w13 =>
      bd (fX7_sumUp l4 (0 : Int32) v15 w13) fun _ w16 =>
      lt (zL w16 1 2) fun v19 =>
      lt (zL w16 1 3) fun v20 =>
      bd (fX1_size l12 w16) fun v23 w21 =>
      bd (fX7_sumUp l12 (0 : Int32) v23 w21) fun _ w24 =>
      bd (fX0_comesTo v19 v20 w24) fun b29 w27 =>
      lt (fun (s_84 : Int64) (w30 : zW) =>
        bd (fX1_cellsSharedWith l4 l12 w30) fun v33 w31 =>
        bd (fX7_tell_ s_84 (v33).toInt64 w31) fun _ w34 =>
        bd (fX1_hasItemsOf l4 l12 w34) fun b39 w37 =>
        if b39 = true then
          some ((1 : Int32), w37)
        else
        some ((0 : Int32), w37)) fun j30 =>
      if b29 = true then
        j30 (1 : Int64) w27
      else
      j30 (0 : Int64) w27
theorem YX7_same : zYV yX7_same MX7_same 2 := ⟨wk_690, wk_1, ⟨wk_688, wk_689⟩, ⟨by decide, by decide, by decide +kernel⟩, rfl, rfl⟩
set_option maxHeartbeats 4000000 in
set_option maxRecDepth 100000 in
theorem tX7_same (a1 : Int32) (a2 : Int32) (w : zW) : Sm yX7_same MX7_same zi [.ref 0, .int a1, .int a2] w (fX7_same a1 a2 w) := by
  refine Sm_of (lv0 := [(0, .ref 0), (1, .int a1), (2, .int a2)]) (by decide) rfl (fun _ => Nat.le_of_ble_eq_true rfl) rfl ?_
  unfold fX7_same
  refine tz_aload_n 0 rfl (zd DX7_same 0 rfl) ?_
  refine tz_iload_n 1 rfl (zd DX7_same 1 rfl) ?_
  refine tz_cV_o kz7 (zs_0) rfl (rest := []) (YX7_lineAt) wk_226 (tX7_lineAt a1 w) rfl rfl (Nat.le_of_ble_eq_true rfl) ⟨Nat.le_of_ble_eq_true rfl, Nat.le_of_ble_eq_true rfl⟩ (zd DX7_same 2 rfl) (fun w1 e2 => ?_) (fun l4 w1 e2 => ?_)
  · refine tz_astore_nN [(3, .null), (0, .ref 0), (1, .int a1), (2, .int a2)] (Nat.le_of_ble_eq_true rfl) rfl (zd DX7_same 3 rfl) ?_
    refine tz_aload_n 1 rfl (zd DX7_same 4 rfl) ?_
    refine tz_iload_n 3 rfl (zd DX7_same 5 rfl) ?_
    refine tz_cV_o kz7 (zs_0) rfl (rest := []) (YX7_lineAt) wk_226 (tX7_lineAt a2 w1) rfl rfl (Nat.le_of_ble_eq_true rfl) ⟨Nat.le_of_ble_eq_true rfl, Nat.le_of_ble_eq_true rfl⟩ (zd DX7_same 6 rfl) (fun w5 e6 => ?_) (fun l8 w5 e6 => ?_)
    · refine tz_astoreN [(4, .null), (3, .null), (0, .ref 0), (1, .int a1), (2, .int a2)] (Nat.le_of_ble_eq_true rfl) rfl (zd DX7_same 7 rfl) ?_
      refine tz_aload_nN 1 rfl (zd DX7_same 8 rfl) ?_
      refine tz_ifnullN 22 (zd DX7_same 9 rfl) rfl ?_
      refine tz_iconst (-1 : Int32) zk_iconst_m1 (zd DX7_same 12 rfl) ?_
      exact tz_iret rfl (zd DX7_same 13 rfl)
    refine tz_astore [(4, .ref l8), (3, .null), (0, .ref 0), (1, .int a1), (2, .int a2)] (Nat.le_of_ble_eq_true rfl) rfl (zd DX7_same 7 rfl) ?_
    refine tz_aload_nN 1 rfl (zd DX7_same 8 rfl) ?_
    refine tz_ifnullN 22 (zd DX7_same 9 rfl) rfl ?_
    refine tz_iconst (-1 : Int32) zk_iconst_m1 (zd DX7_same 12 rfl) ?_
    exact tz_iret rfl (zd DX7_same 13 rfl)
  refine tz_astore_n [(3, .ref l4), (0, .ref 0), (1, .int a1), (2, .int a2)] (Nat.le_of_ble_eq_true rfl) rfl (zd DX7_same 3 rfl) ?_
  refine tz_aload_n 1 rfl (zd DX7_same 4 rfl) ?_
  refine tz_iload_n 3 rfl (zd DX7_same 5 rfl) ?_
  refine tz_cV_o kz7 (zs_0) rfl (rest := []) (YX7_lineAt) wk_226 (tX7_lineAt a2 w1) rfl rfl (Nat.le_of_ble_eq_true rfl) ⟨Nat.le_of_ble_eq_true rfl, Nat.le_of_ble_eq_true rfl⟩ (zd DX7_same 6 rfl) (fun w9 e10 => ?_) (fun l12 w9 e10 => ?_)
  · refine tz_astoreN [(4, .null), (3, .ref l4), (0, .ref 0), (1, .int a1), (2, .int a2)] (Nat.le_of_ble_eq_true rfl) rfl (zd DX7_same 7 rfl) ?_
    refine tz_aload_n 1 rfl (zd DX7_same 8 rfl) ?_
    refine tz_ifnull (zd DX7_same 9 rfl) ?_
    refine tz_aloadN 0 rfl (zd DX7_same 10 rfl) ?_
    refine tz_ifnonnullN (zd DX7_same 11 rfl) ?_
    refine tz_iconst (-1 : Int32) zk_iconst_m1 (zd DX7_same 12 rfl) ?_
    exact tz_iret rfl (zd DX7_same 13 rfl)
  refine tz_astore [(4, .ref l12), (3, .ref l4), (0, .ref 0), (1, .int a1), (2, .int a2)] (Nat.le_of_ble_eq_true rfl) rfl (zd DX7_same 7 rfl) ?_
  refine tz_aload_n 1 rfl (zd DX7_same 8 rfl) ?_
  refine tz_ifnull (zd DX7_same 9 rfl) ?_
  refine tz_aload 0 rfl (zd DX7_same 10 rfl) ?_
  refine tz_ifnonnull 24 (zd DX7_same 11 rfl) rfl ?_
  refine tz_aload_n 2 rfl (zd DX7_same 14 rfl) ?_
  refine tz_aload_n 1 rfl (zd DX7_same 15 rfl) ?_
  refine tz_iconst (0 : Int32) zk_iconst_0 (zd DX7_same 16 rfl) ?_
  refine tz_aload_n 1 rfl (zd DX7_same 17 rfl) ?_
  refine tz_cVN_i kz1 (fX7_lineAt_c e2) rfl (rest := [.int (0 : Int32), .ref l4, .ref 0]) (YX1_size) wn_486 (tX1_size l4 (fX7_lineAt_c e2) w9) rfl rfl (Nat.le_of_ble_eq_true rfl) ⟨Nat.le_of_ble_eq_true rfl, Nat.le_of_ble_eq_true rfl⟩ (zd DX7_same 18 rfl) (fun v15 w13 e14 => ?_)
  refine tz_cV_n kz7 (zs_0) rfl (rest := []) (YX7_sumUp) wk_559 (tX7_sumUp l4 (fX7_lineAt_c e2) (0 : Int32) v15 w13) rfl rfl (Nat.le_of_ble_eq_true rfl) ⟨Nat.le_of_ble_eq_true rfl, Nat.le_of_ble_eq_true rfl⟩ (zd DX7_same 19 rfl) (fun v18 w16 e17 => ?_)
  refine tz_aload_n 2 rfl (zd DX7_same 20 rfl) ?_
  refine tz_getR 1 0 kz7 (zs_0) (by decide) (by decide) rfl wk_184 (zd DX7_same 21 rfl) ?_
  refine tz_getJN 2 kz0 (zs_1) (by decide) rfl wn_56 (zd DX7_same 22 rfl) ?_
  refine tz_ltl (fun v19 => ?_)
  refine tz_lstore [(5, .long v19), (4, .ref l12), (3, .ref l4), (0, .ref 0), (1, .int a1), (2, .int a2)] (Nat.le_of_ble_eq_true rfl) rfl (zd DX7_same 23 rfl) ?_
  refine tz_aload_n 3 rfl (zd DX7_same 24 rfl) ?_
  refine tz_getR 1 0 kz7 (zs_0) (by decide) (by decide) rfl wk_184 (zd DX7_same 25 rfl) ?_
  refine tz_getJN 3 kz0 (zs_1) (by decide) rfl wn_59 (zd DX7_same 26 rfl) ?_
  refine tz_ltl (fun v20 => ?_)
  refine tz_lstore [(7, .long v20), (5, .long v19), (4, .ref l12), (3, .ref l4), (0, .ref 0), (1, .int a1), (2, .int a2)] (Nat.le_of_ble_eq_true rfl) rfl (zd DX7_same 27 rfl) ?_
  refine tz_aload_n 4 rfl (zd DX7_same 28 rfl) ?_
  refine tz_aload 2 rfl (zd DX7_same 29 rfl) ?_
  refine tz_iconst (0 : Int32) zk_iconst_0 (zd DX7_same 30 rfl) ?_
  refine tz_aload 2 rfl (zd DX7_same 31 rfl) ?_
  refine tz_cVN_i kz1 (fX7_lineAt_c e10) rfl (rest := [.int (0 : Int32), .ref l12, .ref 0]) (YX1_size) wn_486 (tX1_size l12 (fX7_lineAt_c e10) w16) rfl rfl (Nat.le_of_ble_eq_true rfl) ⟨Nat.le_of_ble_eq_true rfl, Nat.le_of_ble_eq_true rfl⟩ (zd DX7_same 32 rfl) (fun v23 w21 e22 => ?_)
  refine tz_cV_n kz7 (zs_0) rfl (rest := []) (YX7_sumUp) wk_559 (tX7_sumUp l12 (fX7_lineAt_c e10) (0 : Int32) v23 w21) rfl rfl (Nat.le_of_ble_eq_true rfl) ⟨Nat.le_of_ble_eq_true rfl, Nat.le_of_ble_eq_true rfl⟩ (zd DX7_same 33 rfl) (fun v26 w24 e25 => ?_)
  refine tz_aload_n 4 rfl (zd DX7_same 34 rfl) ?_
  refine tz_aload_n 4 rfl (zd DX7_same 35 rfl) ?_
  refine tz_getR 1 0 kz7 (zs_0) (by decide) (by decide) rfl wk_184 (zd DX7_same 36 rfl) ?_
  refine tz_lload 1 rfl (zd DX7_same 37 rfl) ?_
  refine tz_lload 0 rfl (zd DX7_same 38 rfl) ?_
  refine tz_cVN_z kz0 (zs_1) rfl (rest := [.ref 0]) (YX0_comesTo) wn_422 (tX0_comesTo v19 v20 w24) rfl rfl (Nat.le_of_ble_eq_true rfl) ⟨Nat.le_of_ble_eq_true rfl, Nat.le_of_ble_eq_true rfl⟩ (zd DX7_same 39 rfl) (fun b29 w27 e28 => ?_)
  refine tz_jp (P := fun j => ∀ (s_84 : Int64) (w30 : zW), Tz MX7_same (zRet zi) (j s_84 w30) 84 [(3, .ref l4), (4, .ref l12)] [.long s_84, .ref 0] w30) ?_ (fun j30 hj30 => ?_)
  · intro s_84 w30
    refine tz_aload_n 0 rfl (zd DX7_same 44 rfl) ?_
    refine tz_aload 1 rfl (zd DX7_same 45 rfl) ?_
    refine tz_cVN_i kz1 (fX7_lineAt_c e2) rfl (rest := [.long s_84, .ref 0]) (YX1_cellsSharedWith) wn_691 (tX1_cellsSharedWith l4 (fX7_lineAt_c e2) l12 (fX7_lineAt_c e10) w30) rfl rfl (Nat.le_of_ble_eq_true rfl) ⟨Nat.le_of_ble_eq_true rfl, Nat.le_of_ble_eq_true rfl⟩ (zd DX7_same 46 rfl) (fun v33 w31 e32 => ?_)
    refine tz_i2l (zd DX7_same 47 rfl) ?_
    refine tz_cV_n kz7 (zs_0) rfl (rest := []) (YX7_tell_) wk_387 (tX7_tell_ s_84 (v33).toInt64 w31) rfl rfl (Nat.le_of_ble_eq_true rfl) ⟨Nat.le_of_ble_eq_true rfl, Nat.le_of_ble_eq_true rfl⟩ (zd DX7_same 48 rfl) (fun v36 w34 e35 => ?_)
    refine tz_aload_n 0 rfl (zd DX7_same 49 rfl) ?_
    refine tz_aload 1 rfl (zd DX7_same 50 rfl) ?_
    refine tz_cVN_z kz1 (fX7_lineAt_c e2) rfl (rest := []) (YX1_hasItemsOf) wn_708 (tX1_hasItemsOf l4 (fX7_lineAt_c e2) l12 (fX7_lineAt_c e10) w34) rfl rfl (Nat.le_of_ble_eq_true rfl) ⟨Nat.le_of_ble_eq_true rfl, Nat.le_of_ble_eq_true rfl⟩ (zd DX7_same 51 rfl) (fun b39 w37 e38 => ?_)
    refine tz_bif_eq 107 (zd DX7_same 52 rfl) rfl (fun q40 => ?_) (fun q40 => ?_)
    · refine tz_iconst (1 : Int32) zk_iconst_1 (zd DX7_same 53 rfl) ?_
      refine tz_goto 108 (zd DX7_same 54 rfl) rfl ?_
      exact tz_iret rfl (zd DX7_same 56 rfl)
    refine tz_iconst (0 : Int32) zk_iconst_0 (zd DX7_same 55 rfl) ?_
    exact tz_iret rfl (zd DX7_same 56 rfl)
  refine tz_bif_eq 83 (zd DX7_same 40 rfl) rfl (fun q41 => ?_) (fun q41 => ?_)
  · refine tz_lconst (1 : Int64) rfl (zd DX7_same 41 rfl) ?_
    refine tz_goto 84 (zd DX7_same 42 rfl) rfl ?_
    refine tz_lv (lv2 := [(3, .ref l4), (4, .ref l12)]) [3, 2] rfl ?_
    exact hj30 (1 : Int64) w27
  refine tz_lconst (0 : Int64) rfl (zd DX7_same 43 rfl) ?_
  refine tz_lv (lv2 := [(3, .ref l4), (4, .ref l12)]) [3, 2] rfl ?_
  exact hj30 (0 : Int64) w27
def QX7_linesWithCell : List (Nat × Instr × Nat) := [(0, .iconst 0, 1), (1, .istore 4, 2), (3, .iconst 0, 1), (4, .istore 5, 2), (6, .iload 5, 2), (8, .iload_n 3, 1), (9, .if_icmp .ge 55, 3), (12, .aload_n 0, 1), (13, .iload 5, 2), (15, .invokevirtual 158, 3), (18, .astore 6, 2), (20, .iload 4, 2), (22, .aload 6, 2), (24, .ifnull 30, 3), (27, .aload 6, 2), (29, .aload_n 1, 1), (30, .iload_n 2, 1), (31, .invokevirtual 192, 3), (34, .aload_n 1, 1), (35, .iload_n 2, 1), (36, .invokevirtual 195, 3), (39, .aload_n 1, 1), (40, .iload_n 2, 1), (41, .invokevirtual 338, 3), (44, .invokevirtual 341, 3), (47, .ifCond .eq 7, 3), (50, .iconst 1, 1), (51, .goto 4, 3), (54, .iconst 0, 1), (55, .iadd, 1), (56, .istore 4, 2), (58, .iinc 5 1, 3), (61, .goto (-55), 3), (64, .iload 4, 2), (66, .ireturn, 1)]
set_option maxRecDepth 100000 in
theorem DX7_linesWithCell : ∀ q ∈ QX7_linesWithCell, decode cX7_linesWithCell q.1 = .ok (q.2.1, q.2.2) := by decide +kernel
abbrev MX7_linesWithCell : zM := (cX7_linesWithCell, "EndSums", 7, (some .int), { frames := 3, cells := 0, slots := 0, locals := 66 })
def fX7_linesWithCell_L6 (r1 : Nat) (x2 : Int32) (x3 : Int32) : Nat → Int32 → Int32 → zW → Option (Int32 × zW)
  | 0, _, _, _ => none
  | n + 1, x4, x5, w =>
    if x3 ≤ x5 then
      some (x4, w)
    else
    bd (fX7_lineAt x5 w) fun o4 w2 => oc o4 (
      lt (fun (s_55 : Int32) (w6 : zW) =>
        lt (x4 + s_55) fun v7 =>
        fX7_linesWithCell_L6 r1 x2 x3 n v7 (x5 + (1 : Int32)) w6) fun j6 =>
      lt (fun (w8 : zW) =>
        j6 (0 : Int32) w8) fun j8 =>
      j8 w2) fun l5 =>
      lt (fun (s_55 : Int32) (w9 : zW) =>
        lt (x4 + s_55) fun v10 =>
        fX7_linesWithCell_L6 r1 x2 x3 n v10 (x5 + (1 : Int32)) w9) fun j9 =>
      lt (fun (w11 : zW) =>
        j9 (0 : Int32) w11) fun j11 =>
      bd (fX1_endOf r1 x2 w2) fun v14 w12 =>
      bd (fX1_heightOf r1 x2 w12) fun v17 w15 =>
      bd (fX1_markOf r1 x2 w15) fun v20 w18 =>
      bd (fX1_hasCell l5 v14 v17 v20 w18) fun b23 w21 =>
      if b23 = true then
        j9 (1 : Int32) w21
      else
      j11 w21
def fX7_linesWithCell (r1 : Nat) (a2 : Int32) (a3 : Int32) (w : zW) : Option (Int32 × zW) :=
  fX7_linesWithCell_L6 r1 a2 a3 zFU (0 : Int32) (0 : Int32) w
theorem YX7_linesWithCell : zYV yX7_linesWithCell MX7_linesWithCell 3 := ⟨wk_720, wk_1, ⟨wk_719, ws_70⟩, ⟨by decide, by decide, by decide +kernel⟩, rfl, rfl⟩
set_option maxHeartbeats 4000000 in
set_option maxRecDepth 100000 in
theorem lX7_linesWithCell_L6 (r1 : Nat) (hr1 : zc 1 r1) (x2 : Int32) (x3 : Int32) : ∀ (n : Nat) (x4 : Int32) (x5 : Int32) (w : zW), Tz MX7_linesWithCell (zRet zi) (fX7_linesWithCell_L6 r1 x2 x3 n x4 x5 w) 6 [(0, .ref 0), (1, .ref r1), (2, .int x2), (3, .int x3), (4, .int x4), (5, .int x5)] [] w := by
  intro n
  induction n with
  | zero => intro x4 x5 w; exact tz_eq (fX7_linesWithCell_L6.eq_1 _ _ _ _ _ _) tz_none
  | succ n ih =>
    intro x4 x5 w
    refine tz_eq (fX7_linesWithCell_L6.eq_2 _ _ _ _ _ _ _) ?_
    refine tz_iload 5 rfl (zd DX7_linesWithCell 4 rfl) ?_
    refine tz_iload_n 3 rfl (zd DX7_linesWithCell 5 rfl) ?_
    refine tz_icmp_ge 64 (zd DX7_linesWithCell 6 rfl) rfl (fun q1 => ?_) (fun q1 => ?_)
    · refine tz_iload 4 rfl (zd DX7_linesWithCell 33 rfl) ?_
      exact tz_iret rfl (zd DX7_linesWithCell 34 rfl)
    refine tz_aload_n 0 rfl (zd DX7_linesWithCell 7 rfl) ?_
    refine tz_iload 5 rfl (zd DX7_linesWithCell 8 rfl) ?_
    refine tz_cV_o kz7 (zs_0) rfl (rest := []) (YX7_lineAt) wk_226 (tX7_lineAt x5 w) rfl rfl (Nat.le_of_ble_eq_true rfl) ⟨Nat.le_of_ble_eq_true rfl, Nat.le_of_ble_eq_true rfl⟩ (zd DX7_linesWithCell 9 rfl) (fun w2 e3 => ?_) (fun l5 w2 e3 => ?_)
    · refine tz_astoreN [(6, .null), (0, .ref 0), (1, .ref r1), (2, .int x2), (3, .int x3), (4, .int x4), (5, .int x5)] (Nat.le_of_ble_eq_true rfl) rfl (zd DX7_linesWithCell 10 rfl) ?_
      refine tz_iload 5 rfl (zd DX7_linesWithCell 11 rfl) ?_
      refine tz_aloadN 0 rfl (zd DX7_linesWithCell 12 rfl) ?_
      refine tz_jp (P := fun j => ∀ (s_55 : Int32) (w6 : zW), Tz MX7_linesWithCell (zRet zi) (j s_55 w6) 55 [(0, .ref 0), (1, .ref r1), (2, .int x2), (3, .int x3), (5, .int x5)] [.int s_55, .int x4] w6) ?_ (fun j6 hj6 => ?_)
      · intro s_55 w6
        refine tz_iadd (zd DX7_linesWithCell 29 rfl) ?_
        refine tz_lti (fun v7 => ?_)
        refine tz_istore [(4, .int v7), (0, .ref 0), (1, .ref r1), (2, .int x2), (3, .int x3), (5, .int x5)] (Nat.le_of_ble_eq_true rfl) rfl (zd DX7_linesWithCell 30 rfl) ?_
        refine tz_iinc 5 (1 : Int32) [(5, .int (x5 + (1 : Int32))), (4, .int v7), (0, .ref 0), (1, .ref r1), (2, .int x2), (3, .int x3)] rfl zk_iconst_1 (Nat.le_of_ble_eq_true rfl) rfl (zd DX7_linesWithCell 31 rfl) ?_
        refine tz_goto 6 (zd DX7_linesWithCell 32 rfl) rfl ?_
        refine tz_lv (lv2 := [(0, .ref 0), (1, .ref r1), (2, .int x2), (3, .int x3), (4, .int v7), (5, .int (x5 + (1 : Int32)))]) [2, 3, 4, 5, 1, 0] rfl ?_
        exact ih v7 (x5 + (1 : Int32)) w6
      refine tz_jp (P := fun j => ∀ (w8 : zW), Tz MX7_linesWithCell (zRet zi) (j w8) 54 [(0, .ref 0), (1, .ref r1), (2, .int x2), (3, .int x3), (5, .int x5)] [.int x4] w8) ?_ (fun j8 hj8 => ?_)
      · intro w8
        refine tz_iconst (0 : Int32) zk_iconst_0 (zd DX7_linesWithCell 28 rfl) ?_
        exact hj6 (0 : Int32) w8
      refine tz_ifnullN 54 (zd DX7_linesWithCell 13 rfl) rfl ?_
      refine tz_lv (lv2 := [(0, .ref 0), (1, .ref r1), (2, .int x2), (3, .int x3), (5, .int x5)]) [1, 2, 3, 4, 6] rfl ?_
      exact hj8 w2
    refine tz_astore [(6, .ref l5), (0, .ref 0), (1, .ref r1), (2, .int x2), (3, .int x3), (4, .int x4), (5, .int x5)] (Nat.le_of_ble_eq_true rfl) rfl (zd DX7_linesWithCell 10 rfl) ?_
    refine tz_iload 5 rfl (zd DX7_linesWithCell 11 rfl) ?_
    refine tz_aload 0 rfl (zd DX7_linesWithCell 12 rfl) ?_
    refine tz_jp (P := fun j => ∀ (s_55 : Int32) (w9 : zW), Tz MX7_linesWithCell (zRet zi) (j s_55 w9) 55 [(0, .ref 0), (1, .ref r1), (2, .int x2), (3, .int x3), (5, .int x5)] [.int s_55, .int x4] w9) ?_ (fun j9 hj9 => ?_)
    · intro s_55 w9
      refine tz_iadd (zd DX7_linesWithCell 29 rfl) ?_
      refine tz_lti (fun v10 => ?_)
      refine tz_istore [(4, .int v10), (0, .ref 0), (1, .ref r1), (2, .int x2), (3, .int x3), (5, .int x5)] (Nat.le_of_ble_eq_true rfl) rfl (zd DX7_linesWithCell 30 rfl) ?_
      refine tz_iinc 5 (1 : Int32) [(5, .int (x5 + (1 : Int32))), (4, .int v10), (0, .ref 0), (1, .ref r1), (2, .int x2), (3, .int x3)] rfl zk_iconst_1 (Nat.le_of_ble_eq_true rfl) rfl (zd DX7_linesWithCell 31 rfl) ?_
      refine tz_goto 6 (zd DX7_linesWithCell 32 rfl) rfl ?_
      refine tz_lv (lv2 := [(0, .ref 0), (1, .ref r1), (2, .int x2), (3, .int x3), (4, .int v10), (5, .int (x5 + (1 : Int32)))]) [2, 3, 4, 5, 1, 0] rfl ?_
      exact ih v10 (x5 + (1 : Int32)) w9
    refine tz_jp (P := fun j => ∀ (w11 : zW), Tz MX7_linesWithCell (zRet zi) (j w11) 54 [(0, .ref 0), (1, .ref r1), (2, .int x2), (3, .int x3), (5, .int x5)] [.int x4] w11) ?_ (fun j11 hj11 => ?_)
    · intro w11
      refine tz_iconst (0 : Int32) zk_iconst_0 (zd DX7_linesWithCell 28 rfl) ?_
      exact hj9 (0 : Int32) w11
    refine tz_ifnull (zd DX7_linesWithCell 13 rfl) ?_
    refine tz_aload 0 rfl (zd DX7_linesWithCell 14 rfl) ?_
    refine tz_aload_n 2 rfl (zd DX7_linesWithCell 15 rfl) ?_
    refine tz_iload_n 3 rfl (zd DX7_linesWithCell 16 rfl) ?_
    refine tz_cVN_i kz1 (hr1) rfl (rest := [.ref l5, .int x4]) (YX1_endOf) wn_540 (tX1_endOf r1 (hr1) x2 w2) rfl rfl (Nat.le_of_ble_eq_true rfl) ⟨Nat.le_of_ble_eq_true rfl, Nat.le_of_ble_eq_true rfl⟩ (zd DX7_linesWithCell 17 rfl) (fun v14 w12 e13 => ?_)
    refine tz_aload_n 2 rfl (zd DX7_linesWithCell 18 rfl) ?_
    refine tz_iload_n 3 rfl (zd DX7_linesWithCell 19 rfl) ?_
    refine tz_cVN_i kz1 (hr1) rfl (rest := [.int v14, .ref l5, .int x4]) (YX1_heightOf) wn_541 (tX1_heightOf r1 (hr1) x2 w12) rfl rfl (Nat.le_of_ble_eq_true rfl) ⟨Nat.le_of_ble_eq_true rfl, Nat.le_of_ble_eq_true rfl⟩ (zd DX7_linesWithCell 20 rfl) (fun v17 w15 e16 => ?_)
    refine tz_aload_n 2 rfl (zd DX7_linesWithCell 21 rfl) ?_
    refine tz_iload_n 3 rfl (zd DX7_linesWithCell 22 rfl) ?_
    refine tz_cVN_i kz1 (hr1) rfl (rest := [.int v17, .int v14, .ref l5, .int x4]) (YX1_markOf) wn_721 (tX1_markOf r1 (hr1) x2 w15) rfl rfl (Nat.le_of_ble_eq_true rfl) ⟨Nat.le_of_ble_eq_true rfl, Nat.le_of_ble_eq_true rfl⟩ (zd DX7_linesWithCell 23 rfl) (fun v20 w18 e19 => ?_)
    refine tz_cVN_z kz1 (fX7_lineAt_c e3) rfl (rest := [.int x4]) (YX1_hasCell) wn_722 (tX1_hasCell l5 (fX7_lineAt_c e3) v14 v17 v20 w18) rfl rfl (Nat.le_of_ble_eq_true rfl) ⟨Nat.le_of_ble_eq_true rfl, Nat.le_of_ble_eq_true rfl⟩ (zd DX7_linesWithCell 24 rfl) (fun b23 w21 e22 => ?_)
    refine tz_bif_eq 54 (zd DX7_linesWithCell 25 rfl) rfl (fun q24 => ?_) (fun q24 => ?_)
    · refine tz_iconst (1 : Int32) zk_iconst_1 (zd DX7_linesWithCell 26 rfl) ?_
      refine tz_goto 55 (zd DX7_linesWithCell 27 rfl) rfl ?_
      refine tz_lv (lv2 := [(0, .ref 0), (1, .ref r1), (2, .int x2), (3, .int x3), (5, .int x5)]) [1, 2, 3, 4, 6] rfl ?_
      exact hj9 (1 : Int32) w21
    refine tz_lv (lv2 := [(0, .ref 0), (1, .ref r1), (2, .int x2), (3, .int x3), (5, .int x5)]) [1, 2, 3, 4, 6] rfl ?_
    exact hj11 w21
set_option maxHeartbeats 4000000 in
set_option maxRecDepth 100000 in
theorem tX7_linesWithCell (r1 : Nat) (hr1 : zc 1 r1) (a2 : Int32) (a3 : Int32) (w : zW) : Sm yX7_linesWithCell MX7_linesWithCell zi [.ref 0, .ref r1, .int a2, .int a3] w (fX7_linesWithCell r1 a2 a3 w) := by
  refine Sm_of (lv0 := [(0, .ref 0), (1, .ref r1), (2, .int a2), (3, .int a3)]) (by decide) rfl (fun _ => Nat.le_of_ble_eq_true rfl) rfl ?_
  unfold fX7_linesWithCell
  refine tz_iconst (0 : Int32) zk_iconst_0 (zd DX7_linesWithCell 0 rfl) ?_
  refine tz_istore [(4, .int (0 : Int32)), (0, .ref 0), (1, .ref r1), (2, .int a2), (3, .int a3)] (Nat.le_of_ble_eq_true rfl) rfl (zd DX7_linesWithCell 1 rfl) ?_
  refine tz_iconst (0 : Int32) zk_iconst_0 (zd DX7_linesWithCell 2 rfl) ?_
  refine tz_istore [(5, .int (0 : Int32)), (4, .int (0 : Int32)), (0, .ref 0), (1, .ref r1), (2, .int a2), (3, .int a3)] (Nat.le_of_ble_eq_true rfl) rfl (zd DX7_linesWithCell 3 rfl) ?_
  refine tz_lv (lv2 := [(0, .ref 0), (1, .ref r1), (2, .int a2), (3, .int a3), (4, .int (0 : Int32)), (5, .int (0 : Int32))]) [2, 3, 4, 5, 1, 0] rfl ?_
  exact lX7_linesWithCell_L6 r1 (hr1) a2 a3 zFU (0 : Int32) (0 : Int32) w
def QX7_shared : List (Nat × Instr × Nat) := [(0, .iconst 0, 1), (1, .istore_n 1, 1), (2, .iconst 0, 1), (3, .istore_n 2, 1), (4, .iconst 0, 1), (5, .istore_n 3, 1), (6, .iconst 0, 1), (7, .istore 4, 2), (9, .iload 4, 2), (11, .iconst 4, 1), (12, .if_icmp .ge 109, 3), (15, .aload_n 0, 1), (16, .iload 4, 2), (18, .invokevirtual 158, 3), (21, .astore 5, 2), (23, .aload 5, 2), (25, .ifnonnull 7, 3), (28, .iconst 0, 1), (29, .goto 8, 3), (32, .aload 5, 2), (34, .invokevirtual 165, 3), (37, .istore 6, 2), (39, .iload_n 3, 1), (40, .iload 6, 2), (42, .iadd, 1), (43, .istore_n 3, 1), (44, .iconst 0, 1), (45, .istore 7, 2), (47, .iload 7, 2), (49, .iload 6, 2), (51, .if_icmp .ge 64, 3), (54, .aload_n 0, 1), (55, .aload 5, 2), (57, .iload 7, 2), (59, .iconst 4, 1), (60, .invokevirtual 298, 3), (63, .istore 8, 2), (65, .aload_n 0, 1), (66, .aload 5, 2), (68, .iload 7, 2), (70, .iload 4, 2), (72, .invokevirtual 298, 3), (75, .istore 9, 2), (77, .iload_n 1, 1), (78, .iload 9, 2), (80, .ifCond .ne 7, 3), (83, .iconst 1, 1), (84, .goto 4, 3), (87, .iconst 0, 1), (88, .iadd, 1), (89, .istore_n 1, 1), (90, .iload_n 2, 1), (91, .iload 9, 2), (93, .ifCond .ne 13, 3), (96, .iload 8, 2), (98, .iconst 1, 1), (99, .if_icmp .le 7, 3), (102, .iconst 1, 1), (103, .goto 4, 3), (106, .iconst 0, 1), (107, .iadd, 1), (108, .istore_n 2, 1), (109, .iinc 7 1, 3), (112, .goto (-65), 3), (115, .iinc 4 1, 3), (118, .goto (-109), 3), (121, .aload_n 0, 1), (122, .iload_n 2, 1), (123, .i2l, 1), (124, .iload_n 3, 1), (125, .i2l, 1), (126, .invokevirtual 135, 3), (129, .iload_n 1, 1), (130, .ireturn, 1)]
set_option maxRecDepth 100000 in
theorem DX7_shared : ∀ q ∈ QX7_shared, decode cX7_shared q.1 = .ok (q.2.1, q.2.2) := by decide +kernel
abbrev MX7_shared : zM := (cX7_shared, "EndSums", 10, (some .int), { frames := 4, cells := 0, slots := 0, locals := 92 })
def fX7_shared_L47 (x3 : Int32) (x4 : Int32) (x6 : Int32) (j9 : Int32 → Int32 → Int32 → Int32 → zW → Option (Int32 × zW)) : Nat → Int32 → Int32 → Int32 → zW → Option (Int32 × zW)
  | 0, _, _, _, _ => none
  | n + 1, x1, x2, x7, w =>
    if x6 ≤ x7 then
      j9 x1 x2 x3 (x4 + (1 : Int32)) w
    else
    none
def fX7_shared_L47b (x3 : Int32) (x4 : Int32) (r5 : Nat) (x6 : Int32) (j9 : Int32 → Int32 → Int32 → Int32 → zW → Option (Int32 × zW)) : Nat → Int32 → Int32 → Int32 → zW → Option (Int32 × zW)
  | 0, _, _, _, _ => none
  | n + 1, x1, x2, x7, w =>
    if x6 ≤ x7 then
      j9 x1 x2 x3 (x4 + (1 : Int32)) w
    else
    bd (fX7_linesWithCell r5 x7 (4 : Int32) w) fun v17 w15 =>
    bd (fX7_linesWithCell r5 x7 x4 w15) fun v20 w18 =>
    lt (if ¬ v20 = (0 : Int32) then (0 : Int32) else (1 : Int32)) fun v22 =>
    lt (x1 + v22) fun v23 =>
    lt (if ¬ v20 = (0 : Int32) then (0 : Int32) else if v17 ≤ (1 : Int32) then (0 : Int32) else (1 : Int32)) fun v26 =>
    lt (x2 + v26) fun v27 =>
    fX7_shared_L47b x3 x4 r5 x6 j9 n v23 v27 (x7 + (1 : Int32)) w18
def fX7_shared_L9  : Nat → Int32 → Int32 → Int32 → Int32 → zW → Option (Int32 × zW)
  | 0, _, _, _, _, _ => none
  | n + 1, x1, x2, x3, x4, w =>
    if (4 : Int32) ≤ x4 then
      bd (fX7_tell_ (x2).toInt64 (x3).toInt64 w) fun _ w2 =>
      some (x1, w2)
    else
    bd (fX7_lineAt x4 w) fun o7 w5 => oc o7 (
      lt (fun (s_37 : Int32) (w9 : zW) =>
        lt (x3 + s_37) fun v10 =>
        fX7_shared_L47 v10 x4 s_37 (fX7_shared_L9 n) zFU x1 x2 (0 : Int32) w9) fun j9 =>
      j9 (0 : Int32) w5) fun l8 =>
      lt (fun (s_37 : Int32) (w12 : zW) =>
        lt (x3 + s_37) fun v13 =>
        fX7_shared_L47b v13 x4 l8 s_37 (fX7_shared_L9 n) zFU x1 x2 (0 : Int32) w12) fun j12 =>
      bd (fX1_size l8 w5) fun v30 w28 =>
      j12 v30 w28
def fX7_shared  (w : zW) : Option (Int32 × zW) :=
  fX7_shared_L9 zFU (0 : Int32) (0 : Int32) (0 : Int32) (0 : Int32) w
theorem YX7_shared : zYV yX7_shared MX7_shared 0 := ⟨wk_716, wk_1, ⟨wk_714, wk_715⟩, ⟨by decide, by decide, by decide +kernel⟩, rfl, rfl⟩
set_option maxHeartbeats 4000000 in
set_option maxRecDepth 100000 in
theorem lX7_shared_L47 (x3 : Int32) (x4 : Int32) (x6 : Int32) (j9 : Int32 → Int32 → Int32 → Int32 → zW → Option (Int32 × zW)) (hj9 : ∀ (y1 : Int32) (y2 : Int32) (y3 : Int32) (y4 : Int32) (w : zW), Tz MX7_shared (zRet zi) (j9 y1 y2 y3 y4 w) 9 [(0, .ref 0), (1, .int y1), (2, .int y2), (3, .int y3), (4, .int y4)] [] w) : ∀ (n : Nat) (x1 : Int32) (x2 : Int32) (x7 : Int32) (w : zW), Tz MX7_shared (zRet zi) (fX7_shared_L47 x3 x4 x6 j9 n x1 x2 x7 w) 47 [(0, .ref 0), (1, .int x1), (2, .int x2), (3, .int x3), (4, .int x4), (5, .null), (6, .int x6), (7, .int x7)] [] w := by
  intro n
  induction n with
  | zero => intro x1 x2 x7 w; exact tz_eq (fX7_shared_L47.eq_1 _ _ _ _ _ _ _ _) tz_none
  | succ n ih =>
    intro x1 x2 x7 w
    refine tz_eq (fX7_shared_L47.eq_2 _ _ _ _ _ _ _ _ _) ?_
    refine tz_iload 7 rfl (zd DX7_shared 28 rfl) ?_
    refine tz_iload 6 rfl (zd DX7_shared 29 rfl) ?_
    refine tz_icmp_ge 115 (zd DX7_shared 30 rfl) rfl (fun q11 => ?_) (fun q11 => ?_)
    · refine tz_iinc 4 (1 : Int32) [(4, .int (x4 + (1 : Int32))), (0, .ref 0), (1, .int x1), (2, .int x2), (3, .int x3), (5, .null), (6, .int x6), (7, .int x7)] rfl zk_iconst_1 (Nat.le_of_ble_eq_true rfl) rfl (zd DX7_shared 64 rfl) ?_
      refine tz_goto 9 (zd DX7_shared 65 rfl) rfl ?_
      refine tz_lv (lv2 := [(0, .ref 0), (1, .int x1), (2, .int x2), (3, .int x3), (4, .int (x4 + (1 : Int32)))]) [1, 2, 3, 4, 0] rfl ?_
      exact hj9 x1 x2 x3 (x4 + (1 : Int32)) w
    refine tz_aload_n 0 rfl (zd DX7_shared 31 rfl) ?_
    refine tz_aloadN 5 rfl (zd DX7_shared 32 rfl) ?_
    refine tz_iload 7 rfl (zd DX7_shared 33 rfl) ?_
    refine tz_iconst (4 : Int32) zk_iconst_4 (zd DX7_shared 34 rfl) ?_
    exact tz_none
set_option maxHeartbeats 4000000 in
set_option maxRecDepth 100000 in
theorem lX7_shared_L47b (x3 : Int32) (x4 : Int32) (r5 : Nat) (hr5 : zc 1 r5) (x6 : Int32) (j9 : Int32 → Int32 → Int32 → Int32 → zW → Option (Int32 × zW)) (hj9 : ∀ (y1 : Int32) (y2 : Int32) (y3 : Int32) (y4 : Int32) (w : zW), Tz MX7_shared (zRet zi) (j9 y1 y2 y3 y4 w) 9 [(0, .ref 0), (1, .int y1), (2, .int y2), (3, .int y3), (4, .int y4)] [] w) : ∀ (n : Nat) (x1 : Int32) (x2 : Int32) (x7 : Int32) (w : zW), Tz MX7_shared (zRet zi) (fX7_shared_L47b x3 x4 r5 x6 j9 n x1 x2 x7 w) 47 [(0, .ref 0), (1, .int x1), (2, .int x2), (3, .int x3), (4, .int x4), (5, .ref r5), (6, .int x6), (7, .int x7)] [] w := by
  intro n
  induction n with
  | zero => intro x1 x2 x7 w; exact tz_eq (fX7_shared_L47b.eq_1 _ _ _ _ _ _ _ _ _) tz_none
  | succ n ih =>
    intro x1 x2 x7 w
    refine tz_eq (fX7_shared_L47b.eq_2 _ _ _ _ _ _ _ _ _ _) ?_
    refine tz_iload 7 rfl (zd DX7_shared 28 rfl) ?_
    refine tz_iload 6 rfl (zd DX7_shared 29 rfl) ?_
    refine tz_icmp_ge 115 (zd DX7_shared 30 rfl) rfl (fun q14 => ?_) (fun q14 => ?_)
    · refine tz_iinc 4 (1 : Int32) [(4, .int (x4 + (1 : Int32))), (0, .ref 0), (1, .int x1), (2, .int x2), (3, .int x3), (5, .ref r5), (6, .int x6), (7, .int x7)] rfl zk_iconst_1 (Nat.le_of_ble_eq_true rfl) rfl (zd DX7_shared 64 rfl) ?_
      refine tz_goto 9 (zd DX7_shared 65 rfl) rfl ?_
      refine tz_lv (lv2 := [(0, .ref 0), (1, .int x1), (2, .int x2), (3, .int x3), (4, .int (x4 + (1 : Int32)))]) [1, 2, 3, 4, 0] rfl ?_
      exact hj9 x1 x2 x3 (x4 + (1 : Int32)) w
    refine tz_aload_n 0 rfl (zd DX7_shared 31 rfl) ?_
    refine tz_aload 5 rfl (zd DX7_shared 32 rfl) ?_
    refine tz_iload 7 rfl (zd DX7_shared 33 rfl) ?_
    refine tz_iconst (4 : Int32) zk_iconst_4 (zd DX7_shared 34 rfl) ?_
    refine tz_cV_i kz7 (zs_0) rfl (rest := []) (YX7_linesWithCell) wk_717 (tX7_linesWithCell r5 (hr5) x7 (4 : Int32) w) rfl rfl (Nat.le_of_ble_eq_true rfl) ⟨Nat.le_of_ble_eq_true rfl, Nat.le_of_ble_eq_true rfl⟩ (zd DX7_shared 35 rfl) (fun v17 w15 e16 => ?_)
    refine tz_istore [(8, .int v17), (0, .ref 0), (1, .int x1), (2, .int x2), (3, .int x3), (4, .int x4), (5, .ref r5), (6, .int x6), (7, .int x7)] (Nat.le_of_ble_eq_true rfl) rfl (zd DX7_shared 36 rfl) ?_
    refine tz_aload_n 1 rfl (zd DX7_shared 37 rfl) ?_
    refine tz_aload 6 rfl (zd DX7_shared 38 rfl) ?_
    refine tz_iload 8 rfl (zd DX7_shared 39 rfl) ?_
    refine tz_iload 5 rfl (zd DX7_shared 40 rfl) ?_
    refine tz_cV_i kz7 (zs_0) rfl (rest := []) (YX7_linesWithCell) wk_717 (tX7_linesWithCell r5 (hr5) x7 x4 w15) rfl rfl (Nat.le_of_ble_eq_true rfl) ⟨Nat.le_of_ble_eq_true rfl, Nat.le_of_ble_eq_true rfl⟩ (zd DX7_shared 41 rfl) (fun v20 w18 e19 => ?_)
    refine tz_istore [(9, .int v20), (8, .int v17), (0, .ref 0), (1, .int x1), (2, .int x2), (3, .int x3), (4, .int x4), (5, .ref r5), (6, .int x6), (7, .int x7)] (Nat.le_of_ble_eq_true rfl) rfl (zd DX7_shared 42 rfl) ?_
    refine tz_iload_n 3 rfl (zd DX7_shared 43 rfl) ?_
    refine tz_iload 0 rfl (zd DX7_shared 44 rfl) ?_
    refine tz_dia (P := fun F => ∀ v : Int32, Tz MX7_shared (zRet zi) (F v) 88 [(9, .int v20), (8, .int v17), (0, .ref 0), (1, .int x1), (2, .int x2), (3, .int x3), (4, .int x4), (5, .ref r5), (6, .int x6), (7, .int x7)] (.int v :: [.int x1]) w18) ?_ (fun _ hJ88 => ?_)
    · intro v22
      refine tz_iadd (zd DX7_shared 49 rfl) ?_
      refine tz_lti (fun v23 => ?_)
      refine tz_istore_n [(1, .int v23), (9, .int v20), (8, .int v17), (0, .ref 0), (2, .int x2), (3, .int x3), (4, .int x4), (5, .ref r5), (6, .int x6), (7, .int x7)] (Nat.le_of_ble_eq_true rfl) rfl (zd DX7_shared 50 rfl) ?_
      refine tz_iload_n 4 rfl (zd DX7_shared 51 rfl) ?_
      refine tz_iload 1 rfl (zd DX7_shared 52 rfl) ?_
      refine tz_dia (P := fun F => ∀ v : Int32, Tz MX7_shared (zRet zi) (F v) 107 [(1, .int v23), (9, .int v20), (8, .int v17), (0, .ref 0), (2, .int x2), (3, .int x3), (4, .int x4), (5, .ref r5), (6, .int x6), (7, .int x7)] (.int v :: [.int x2]) w18) ?_ (fun _ hJ107 => ?_)
      · intro v26
        refine tz_iadd (zd DX7_shared 60 rfl) ?_
        refine tz_lti (fun v27 => ?_)
        refine tz_istore_n [(2, .int v27), (1, .int v23), (9, .int v20), (8, .int v17), (0, .ref 0), (3, .int x3), (4, .int x4), (5, .ref r5), (6, .int x6), (7, .int x7)] (Nat.le_of_ble_eq_true rfl) rfl (zd DX7_shared 61 rfl) ?_
        refine tz_iinc 9 (1 : Int32) [(7, .int (x7 + (1 : Int32))), (2, .int v27), (1, .int v23), (9, .int v20), (8, .int v17), (0, .ref 0), (3, .int x3), (4, .int x4), (5, .ref r5), (6, .int x6)] rfl zk_iconst_1 (Nat.le_of_ble_eq_true rfl) rfl (zd DX7_shared 62 rfl) ?_
        refine tz_goto 47 (zd DX7_shared 63 rfl) rfl ?_
        refine tz_lv (lv2 := [(0, .ref 0), (1, .int v23), (2, .int v27), (3, .int x3), (4, .int x4), (5, .ref r5), (6, .int x6), (7, .int (x7 + (1 : Int32)))]) [5, 2, 1, 6, 7, 8, 9, 0] rfl ?_
        exact ih v23 v27 (x7 + (1 : Int32)) w18
      refine tz_ite ?_
      refine tz_if_ne 106 (zd DX7_shared 53 rfl) rfl (fun q24 => ?_) (fun q24 => ?_)
      · refine tz_iconst (0 : Int32) zk_iconst_0 (zd DX7_shared 59 rfl) ?_
        exact hJ107 (0 : Int32)
      refine tz_iload 2 rfl (zd DX7_shared 54 rfl) ?_
      refine tz_iconst (1 : Int32) zk_iconst_1 (zd DX7_shared 55 rfl) ?_
      refine tz_ite ?_
      refine tz_icmp_le 106 (zd DX7_shared 56 rfl) rfl (fun q25 => ?_) (fun q25 => ?_)
      · refine tz_iconst (0 : Int32) zk_iconst_0 (zd DX7_shared 59 rfl) ?_
        exact hJ107 (0 : Int32)
      refine tz_iconst (1 : Int32) zk_iconst_1 (zd DX7_shared 57 rfl) ?_
      refine tz_goto 107 (zd DX7_shared 58 rfl) rfl ?_
      exact hJ107 (1 : Int32)
    refine tz_ite ?_
    refine tz_if_ne 87 (zd DX7_shared 45 rfl) rfl (fun q21 => ?_) (fun q21 => ?_)
    · refine tz_iconst (0 : Int32) zk_iconst_0 (zd DX7_shared 48 rfl) ?_
      exact hJ88 (0 : Int32)
    refine tz_iconst (1 : Int32) zk_iconst_1 (zd DX7_shared 46 rfl) ?_
    refine tz_goto 88 (zd DX7_shared 47 rfl) rfl ?_
    exact hJ88 (1 : Int32)
set_option maxHeartbeats 4000000 in
set_option maxRecDepth 100000 in
theorem lX7_shared_L9  : ∀ (n : Nat) (x1 : Int32) (x2 : Int32) (x3 : Int32) (x4 : Int32) (w : zW), Tz MX7_shared (zRet zi) (fX7_shared_L9 n x1 x2 x3 x4 w) 9 [(0, .ref 0), (1, .int x1), (2, .int x2), (3, .int x3), (4, .int x4)] [] w := by
  intro n
  induction n with
  | zero => intro x1 x2 x3 x4 w; exact tz_eq (fX7_shared_L9.eq_1 _ _ _ _ _) tz_none
  | succ n ih =>
    intro x1 x2 x3 x4 w
    refine tz_eq (fX7_shared_L9.eq_2 _ _ _ _ _ _) ?_
    refine tz_iload 4 rfl (zd DX7_shared 8 rfl) ?_
    refine tz_iconst (4 : Int32) zk_iconst_4 (zd DX7_shared 9 rfl) ?_
    refine tz_icmp_ge 121 (zd DX7_shared 10 rfl) rfl (fun q1 => ?_) (fun q1 => ?_)
    · refine tz_aload_n 0 rfl (zd DX7_shared 66 rfl) ?_
      refine tz_iload_n 2 rfl (zd DX7_shared 67 rfl) ?_
      refine tz_i2l (zd DX7_shared 68 rfl) ?_
      refine tz_iload_n 3 rfl (zd DX7_shared 69 rfl) ?_
      refine tz_i2l (zd DX7_shared 70 rfl) ?_
      refine tz_cV_n kz7 (zs_0) rfl (rest := []) (YX7_tell_) wk_387 (tX7_tell_ (x2).toInt64 (x3).toInt64 w) rfl rfl (Nat.le_of_ble_eq_true rfl) ⟨Nat.le_of_ble_eq_true rfl, Nat.le_of_ble_eq_true rfl⟩ (zd DX7_shared 71 rfl) (fun v4 w2 e3 => ?_)
      refine tz_iload_n 1 rfl (zd DX7_shared 72 rfl) ?_
      exact tz_iret rfl (zd DX7_shared 73 rfl)
    refine tz_aload_n 0 rfl (zd DX7_shared 11 rfl) ?_
    refine tz_iload 4 rfl (zd DX7_shared 12 rfl) ?_
    refine tz_cV_o kz7 (zs_0) rfl (rest := []) (YX7_lineAt) wk_226 (tX7_lineAt x4 w) rfl rfl (Nat.le_of_ble_eq_true rfl) ⟨Nat.le_of_ble_eq_true rfl, Nat.le_of_ble_eq_true rfl⟩ (zd DX7_shared 13 rfl) (fun w5 e6 => ?_) (fun l8 w5 e6 => ?_)
    · refine tz_astoreN [(5, .null), (0, .ref 0), (1, .int x1), (2, .int x2), (3, .int x3), (4, .int x4)] (Nat.le_of_ble_eq_true rfl) rfl (zd DX7_shared 14 rfl) ?_
      refine tz_aloadN 0 rfl (zd DX7_shared 15 rfl) ?_
      refine tz_jp (P := fun j => ∀ (s_37 : Int32) (w9 : zW), Tz MX7_shared (zRet zi) (j s_37 w9) 37 [(0, .ref 0), (1, .int x1), (2, .int x2), (3, .int x3), (4, .int x4), (5, .null)] [.int s_37] w9) ?_ (fun j9 hj9 => ?_)
      · intro s_37 w9
        refine tz_istore [(6, .int s_37), (0, .ref 0), (1, .int x1), (2, .int x2), (3, .int x3), (4, .int x4), (5, .null)] (Nat.le_of_ble_eq_true rfl) rfl (zd DX7_shared 21 rfl) ?_
        refine tz_iload_n 4 rfl (zd DX7_shared 22 rfl) ?_
        refine tz_iload 0 rfl (zd DX7_shared 23 rfl) ?_
        refine tz_iadd (zd DX7_shared 24 rfl) ?_
        refine tz_lti (fun v10 => ?_)
        refine tz_istore_n [(3, .int v10), (6, .int s_37), (0, .ref 0), (1, .int x1), (2, .int x2), (4, .int x4), (5, .null)] (Nat.le_of_ble_eq_true rfl) rfl (zd DX7_shared 25 rfl) ?_
        refine tz_iconst (0 : Int32) zk_iconst_0 (zd DX7_shared 26 rfl) ?_
        refine tz_istore [(7, .int (0 : Int32)), (3, .int v10), (6, .int s_37), (0, .ref 0), (1, .int x1), (2, .int x2), (4, .int x4), (5, .null)] (Nat.le_of_ble_eq_true rfl) rfl (zd DX7_shared 27 rfl) ?_
        refine tz_lv (lv2 := [(0, .ref 0), (1, .int x1), (2, .int x2), (3, .int v10), (4, .int x4), (5, .null), (6, .int s_37), (7, .int (0 : Int32))]) [3, 4, 5, 1, 6, 7, 2, 0] rfl ?_
        exact lX7_shared_L47 v10 x4 s_37 _ ih zFU x1 x2 (0 : Int32) w9
      refine tz_ifnonnullN (zd DX7_shared 16 rfl) ?_
      refine tz_iconst (0 : Int32) zk_iconst_0 (zd DX7_shared 17 rfl) ?_
      refine tz_goto 37 (zd DX7_shared 18 rfl) rfl ?_
      refine tz_lv (lv2 := [(0, .ref 0), (1, .int x1), (2, .int x2), (3, .int x3), (4, .int x4), (5, .null)]) [1, 2, 3, 4, 5, 0] rfl ?_
      exact hj9 (0 : Int32) w5
    refine tz_astore [(5, .ref l8), (0, .ref 0), (1, .int x1), (2, .int x2), (3, .int x3), (4, .int x4)] (Nat.le_of_ble_eq_true rfl) rfl (zd DX7_shared 14 rfl) ?_
    refine tz_aload 0 rfl (zd DX7_shared 15 rfl) ?_
    refine tz_jp (P := fun j => ∀ (s_37 : Int32) (w12 : zW), Tz MX7_shared (zRet zi) (j s_37 w12) 37 [(0, .ref 0), (1, .int x1), (2, .int x2), (3, .int x3), (4, .int x4), (5, .ref l8)] [.int s_37] w12) ?_ (fun j12 hj12 => ?_)
    · intro s_37 w12
      refine tz_istore [(6, .int s_37), (0, .ref 0), (1, .int x1), (2, .int x2), (3, .int x3), (4, .int x4), (5, .ref l8)] (Nat.le_of_ble_eq_true rfl) rfl (zd DX7_shared 21 rfl) ?_
      refine tz_iload_n 4 rfl (zd DX7_shared 22 rfl) ?_
      refine tz_iload 0 rfl (zd DX7_shared 23 rfl) ?_
      refine tz_iadd (zd DX7_shared 24 rfl) ?_
      refine tz_lti (fun v13 => ?_)
      refine tz_istore_n [(3, .int v13), (6, .int s_37), (0, .ref 0), (1, .int x1), (2, .int x2), (4, .int x4), (5, .ref l8)] (Nat.le_of_ble_eq_true rfl) rfl (zd DX7_shared 25 rfl) ?_
      refine tz_iconst (0 : Int32) zk_iconst_0 (zd DX7_shared 26 rfl) ?_
      refine tz_istore [(7, .int (0 : Int32)), (3, .int v13), (6, .int s_37), (0, .ref 0), (1, .int x1), (2, .int x2), (4, .int x4), (5, .ref l8)] (Nat.le_of_ble_eq_true rfl) rfl (zd DX7_shared 27 rfl) ?_
      refine tz_lv (lv2 := [(0, .ref 0), (1, .int x1), (2, .int x2), (3, .int v13), (4, .int x4), (5, .ref l8), (6, .int s_37), (7, .int (0 : Int32))]) [3, 4, 5, 1, 6, 7, 2, 0] rfl ?_
      exact lX7_shared_L47b v13 x4 l8 (fX7_lineAt_c e6) s_37 _ ih zFU x1 x2 (0 : Int32) w12
    refine tz_ifnonnull 32 (zd DX7_shared 16 rfl) rfl ?_
    refine tz_aload 0 rfl (zd DX7_shared 19 rfl) ?_
    refine tz_cVN_i kz1 (fX7_lineAt_c e6) rfl (rest := []) (YX1_size) wn_486 (tX1_size l8 (fX7_lineAt_c e6) w5) rfl rfl (Nat.le_of_ble_eq_true rfl) ⟨Nat.le_of_ble_eq_true rfl, Nat.le_of_ble_eq_true rfl⟩ (zd DX7_shared 20 rfl) (fun v30 w28 e29 => ?_)
    refine tz_lv (lv2 := [(0, .ref 0), (1, .int x1), (2, .int x2), (3, .int x3), (4, .int x4), (5, .ref l8)]) [1, 2, 3, 4, 5, 0] rfl ?_
    exact hj12 v30 w28
set_option maxHeartbeats 4000000 in
set_option maxRecDepth 100000 in
theorem tX7_shared  (w : zW) : Sm yX7_shared MX7_shared zi [.ref 0] w (fX7_shared w) := by
  refine Sm_of (lv0 := [(0, .ref 0)]) (by decide) rfl (fun _ => Nat.le_of_ble_eq_true rfl) rfl ?_
  unfold fX7_shared
  refine tz_iconst (0 : Int32) zk_iconst_0 (zd DX7_shared 0 rfl) ?_
  refine tz_istore_n [(1, .int (0 : Int32)), (0, .ref 0)] (Nat.le_of_ble_eq_true rfl) rfl (zd DX7_shared 1 rfl) ?_
  refine tz_iconst (0 : Int32) zk_iconst_0 (zd DX7_shared 2 rfl) ?_
  refine tz_istore_n [(2, .int (0 : Int32)), (1, .int (0 : Int32)), (0, .ref 0)] (Nat.le_of_ble_eq_true rfl) rfl (zd DX7_shared 3 rfl) ?_
  refine tz_iconst (0 : Int32) zk_iconst_0 (zd DX7_shared 4 rfl) ?_
  refine tz_istore_n [(3, .int (0 : Int32)), (2, .int (0 : Int32)), (1, .int (0 : Int32)), (0, .ref 0)] (Nat.le_of_ble_eq_true rfl) rfl (zd DX7_shared 5 rfl) ?_
  refine tz_iconst (0 : Int32) zk_iconst_0 (zd DX7_shared 6 rfl) ?_
  refine tz_istore [(4, .int (0 : Int32)), (3, .int (0 : Int32)), (2, .int (0 : Int32)), (1, .int (0 : Int32)), (0, .ref 0)] (Nat.le_of_ble_eq_true rfl) rfl (zd DX7_shared 7 rfl) ?_
  refine tz_lv (lv2 := [(0, .ref 0), (1, .int (0 : Int32)), (2, .int (0 : Int32)), (3, .int (0 : Int32)), (4, .int (0 : Int32))]) [4, 3, 2, 1, 0] rfl ?_
  exact lX7_shared_L9 zFU (0 : Int32) (0 : Int32) (0 : Int32) (0 : Int32) w
