def QX7_undoes : List (Nat × Instr × Nat) := [(0, .iload_n 1, 1), (1, .invokestatic 105, 3), (4, .ifCond .ne 5, 3), (7, .iconst (-1), 1), (8, .ireturn, 1), (9, .aload_n 0, 1), (10, .getfield 10, 3), (13, .invokevirtual 151, 3), (16, .istore_n 2, 1), (17, .iconst 0, 1), (18, .istore_n 3, 1), (19, .iload_n 3, 1), (20, .iload_n 2, 1), (21, .if_icmp .ge 35, 3), (24, .aload_n 0, 1), (25, .getfield 10, 3), (28, .iload_n 1, 1), (29, .iload_n 3, 1), (30, .invokevirtual 154, 3), (33, .ifCond .eq 17, 3), (36, .aload_n 0, 1), (37, .getfield 10, 3), (40, .iload_n 3, 1), (41, .iload_n 1, 1), (42, .invokevirtual 154, 3), (45, .ifCond .eq 5, 3), (48, .iload_n 3, 1), (49, .ireturn, 1), (50, .iinc 3 1, 3), (53, .goto (-34), 3), (56, .bipush (-2), 2), (58, .ireturn, 1)]
set_option maxRecDepth 100000 in
theorem DX7_undoes : ∀ q ∈ QX7_undoes, decode cX7_undoes q.1 = .ok (q.2.1, q.2.2) := by decide +kernel
abbrev MX7_undoes : zM := (cX7_undoes, "EndSums", 4, (some .int), { frames := 4, cells := 0, slots := 0, locals := 103 })
def fX7_undoes_L19 (x1 : Int32) (x2 : Int32) : Nat → Int32 → zW → Option (Int32 × zW)
  | 0, _, _ => none
  | n + 1, x3, w =>
    if x2 ≤ x3 then
      some ((-2 : Int32), w)
    else
    bd (fX0_undo x1 x3 w) fun b11 w9 =>
    lt (fun (w12 : zW) =>
      fX7_undoes_L19 x1 x2 n (x3 + (1 : Int32)) w12) fun j12 =>
    if b11 = true then
      bd (fX0_undo x3 x1 w9) fun b16 w14 =>
      if b16 = true then
        some (x3, w14)
      else
      j12 w14
    else
    j12 w9
def fX7_undoes (a1 : Int32) (w : zW) : Option (Int32 × zW) :=
  bd (fX7_isItem a1 w) fun b3 w1 =>
  if b3 = true then
    bd (fX0_unlikeItems w1) fun v7 w5 =>
    fX7_undoes_L19 a1 v7 zFU (0 : Int32) w5
  else
  some ((-1 : Int32), w1)
theorem YX7_undoes : zYV yX7_undoes MX7_undoes 1 := ⟨wk_469, wk_1, ⟨wk_467, wk_468⟩, ⟨by decide, by decide, by decide +kernel⟩, rfl, rfl⟩
set_option maxHeartbeats 4000000 in
set_option maxRecDepth 100000 in
theorem lX7_undoes_L19 (x1 : Int32) (x2 : Int32) : ∀ (n : Nat) (x3 : Int32) (w : zW), Tz MX7_undoes (zRet zi) (fX7_undoes_L19 x1 x2 n x3 w) 19 [(0, .ref 0), (1, .int x1), (2, .int x2), (3, .int x3)] [] w := by
  intro n
  induction n with
  | zero => intro x3 w; exact tz_eq (fX7_undoes_L19.eq_1 _ _ _ _) tz_none
  | succ n ih =>
    intro x3 w
    refine tz_eq (fX7_undoes_L19.eq_2 _ _ _ _ _) ?_
    refine tz_iload_n 3 rfl (zd DX7_undoes 11 rfl) ?_
    refine tz_iload_n 2 rfl (zd DX7_undoes 12 rfl) ?_
    refine tz_icmp_ge 56 (zd DX7_undoes 13 rfl) rfl (fun q8 => ?_) (fun q8 => ?_)
    · refine tz_bipush (-2 : Int32) zk_bipush_m2 (zd DX7_undoes 30 rfl) ?_
      exact tz_iret rfl (zd DX7_undoes 31 rfl)
    refine tz_aload_n 0 rfl (zd DX7_undoes 14 rfl) ?_
    refine tz_getR 1 0 kz7 (zs_0) (by decide) (by decide) rfl wk_184 (zd DX7_undoes 15 rfl) ?_
    refine tz_iload_n 1 rfl (zd DX7_undoes 16 rfl) ?_
    refine tz_iload_n 3 rfl (zd DX7_undoes 17 rfl) ?_
    refine tz_cVN_z kz0 (zs_1) rfl (rest := []) (YX0_undo) wn_474 (tX0_undo x1 x3 w) rfl rfl (Nat.le_of_ble_eq_true rfl) ⟨Nat.le_of_ble_eq_true rfl, Nat.le_of_ble_eq_true rfl⟩ (zd DX7_undoes 18 rfl) (fun b11 w9 e10 => ?_)
    refine tz_jp (P := fun j => ∀ (w12 : zW), Tz MX7_undoes (zRet zi) (j w12) 50 [(0, .ref 0), (1, .int x1), (2, .int x2), (3, .int x3)] [] w12) ?_ (fun j12 hj12 => ?_)
    · intro w12
      refine tz_iinc 3 (1 : Int32) [(3, .int (x3 + (1 : Int32))), (0, .ref 0), (1, .int x1), (2, .int x2)] rfl zk_iconst_1 (Nat.le_of_ble_eq_true rfl) rfl (zd DX7_undoes 28 rfl) ?_
      refine tz_goto 19 (zd DX7_undoes 29 rfl) rfl ?_
      refine tz_lv (lv2 := [(0, .ref 0), (1, .int x1), (2, .int x2), (3, .int (x3 + (1 : Int32)))]) [1, 2, 3, 0] rfl ?_
      exact ih (x3 + (1 : Int32)) w12
    refine tz_bif_eq 50 (zd DX7_undoes 19 rfl) rfl (fun q13 => ?_) (fun q13 => ?_)
    · refine tz_aload_n 0 rfl (zd DX7_undoes 20 rfl) ?_
      refine tz_getR 1 0 kz7 (zs_0) (by decide) (by decide) rfl wk_184 (zd DX7_undoes 21 rfl) ?_
      refine tz_iload_n 3 rfl (zd DX7_undoes 22 rfl) ?_
      refine tz_iload_n 1 rfl (zd DX7_undoes 23 rfl) ?_
      refine tz_cVN_z kz0 (zs_1) rfl (rest := []) (YX0_undo) wn_474 (tX0_undo x3 x1 w9) rfl rfl (Nat.le_of_ble_eq_true rfl) ⟨Nat.le_of_ble_eq_true rfl, Nat.le_of_ble_eq_true rfl⟩ (zd DX7_undoes 24 rfl) (fun b16 w14 e15 => ?_)
      refine tz_bif_eq 50 (zd DX7_undoes 25 rfl) rfl (fun q17 => ?_) (fun q17 => ?_)
      · refine tz_iload_n 3 rfl (zd DX7_undoes 26 rfl) ?_
        exact tz_iret rfl (zd DX7_undoes 27 rfl)
      exact hj12 w14
    exact hj12 w9
set_option maxHeartbeats 4000000 in
set_option maxRecDepth 100000 in
theorem tX7_undoes (a1 : Int32) (w : zW) : Sm yX7_undoes MX7_undoes zi [.ref 0, .int a1] w (fX7_undoes a1 w) := by
  refine Sm_of (lv0 := [(0, .ref 0), (1, .int a1)]) (by decide) rfl (fun _ => Nat.le_of_ble_eq_true rfl) rfl ?_
  unfold fX7_undoes
  refine tz_iload_n 1 rfl (zd DX7_undoes 0 rfl) ?_
  refine tz_cS_z (rest := []) (YX7_isItem) wk_408 (tX7_isItem a1 w) rfl rfl (Nat.le_of_ble_eq_true rfl) ⟨Nat.le_of_ble_eq_true rfl, Nat.le_of_ble_eq_true rfl⟩ (zd DX7_undoes 1 rfl) (fun b3 w1 e2 => ?_)
  refine tz_bif_ne 9 (zd DX7_undoes 2 rfl) rfl (fun q4 => ?_) (fun q4 => ?_)
  · refine tz_aload_n 0 rfl (zd DX7_undoes 5 rfl) ?_
    refine tz_getR 1 0 kz7 (zs_0) (by decide) (by decide) rfl wk_184 (zd DX7_undoes 6 rfl) ?_
    refine tz_cVN_i kz0 (zs_1) rfl (rest := []) (YX0_unlikeItems) wn_470 (tX0_unlikeItems w1) rfl rfl (Nat.le_of_ble_eq_true rfl) ⟨Nat.le_of_ble_eq_true rfl, Nat.le_of_ble_eq_true rfl⟩ (zd DX7_undoes 7 rfl) (fun v7 w5 e6 => ?_)
    refine tz_istore_n [(2, .int v7), (0, .ref 0), (1, .int a1)] (Nat.le_of_ble_eq_true rfl) rfl (zd DX7_undoes 8 rfl) ?_
    refine tz_iconst (0 : Int32) zk_iconst_0 (zd DX7_undoes 9 rfl) ?_
    refine tz_istore_n [(3, .int (0 : Int32)), (2, .int v7), (0, .ref 0), (1, .int a1)] (Nat.le_of_ble_eq_true rfl) rfl (zd DX7_undoes 10 rfl) ?_
    refine tz_lv (lv2 := [(0, .ref 0), (1, .int a1), (2, .int v7), (3, .int (0 : Int32))]) [2, 3, 1, 0] rfl ?_
    exact lX7_undoes_L19 a1 v7 zFU (0 : Int32) w5
  refine tz_iconst (-1 : Int32) zk_iconst_m1 (zd DX7_undoes 3 rfl) ?_
  exact tz_iret rfl (zd DX7_undoes 4 rfl)
def QX7_isEnd : List (Nat × Instr × Nat) := [(0, .iload_n 0, 1), (1, .ifCond .eq 8, 3), (4, .iload_n 0, 1), (5, .iconst 1, 1), (6, .if_icmp .ne 7, 3), (9, .iconst 1, 1), (10, .goto 4, 3), (13, .iconst 0, 1), (14, .ireturn, 1)]
set_option maxRecDepth 100000 in
theorem DX7_isEnd : ∀ q ∈ QX7_isEnd, decode cX7_isEnd q.1 = .ok (q.2.1, q.2.2) := by decide +kernel
abbrev MX7_isEnd : zM := (cX7_isEnd, "EndSums", 1, (some .boolean), { frames := 0, cells := 0, slots := 0, locals := 0 })
def fX7_isEnd (a0 : Int32) (w : zW) : Option (Bool × zW) :=
  if a0 = (0 : Int32) then
    some (true, w)
  else
  if ¬ a0 = (1 : Int32) then
    some (false, w)
  else
  some (true, w)
theorem YX7_isEnd : zYS yX7_isEnd MX7_isEnd 1 := ⟨wk_485, wk_1, wk_484, ⟨by decide, by decide, by decide +kernel⟩, rfl, rfl⟩
set_option maxHeartbeats 4000000 in
set_option maxRecDepth 100000 in
theorem tX7_isEnd (a0 : Int32) (w : zW) : Sm yX7_isEnd MX7_isEnd zz [.int a0] w (fX7_isEnd a0 w) := by
  refine Sm_of (lv0 := [(0, .int a0)]) (by decide) rfl (fun _ => Nat.le_of_ble_eq_true rfl) rfl ?_
  unfold fX7_isEnd
  refine tz_iload_n 0 rfl (zd DX7_isEnd 0 rfl) ?_
  refine tz_if_eq 9 (zd DX7_isEnd 1 rfl) rfl (fun q1 => ?_) (fun q1 => ?_)
  · refine tz_iconst (1 : Int32) zk_iconst_1 (zd DX7_isEnd 5 rfl) ?_
    refine tz_goto 14 (zd DX7_isEnd 6 rfl) rfl ?_
    exact tz_zret1 rfl (zd DX7_isEnd 8 rfl)
  refine tz_iload_n 0 rfl (zd DX7_isEnd 2 rfl) ?_
  refine tz_iconst (1 : Int32) zk_iconst_1 (zd DX7_isEnd 3 rfl) ?_
  refine tz_icmp_ne 13 (zd DX7_isEnd 4 rfl) rfl (fun q2 => ?_) (fun q2 => ?_)
  · refine tz_iconst (0 : Int32) zk_iconst_0 (zd DX7_isEnd 7 rfl) ?_
    exact tz_zret0 rfl (zd DX7_isEnd 8 rfl)
  refine tz_iconst (1 : Int32) zk_iconst_1 (zd DX7_isEnd 5 rfl) ?_
  refine tz_goto 14 (zd DX7_isEnd 6 rfl) rfl ?_
  exact tz_zret1 rfl (zd DX7_isEnd 8 rfl)
def QX7_puts : List (Nat × Instr × Nat) := [(0, .aload_n 0, 1), (1, .iload_n 1, 1), (2, .invokevirtual 158, 3), (5, .astore 4, 2), (7, .aload 4, 2), (9, .ifnull 17, 3), (12, .iload_n 2, 1), (13, .invokestatic 162, 3), (16, .ifCond .eq 10, 3), (19, .iload_n 3, 1), (20, .invokestatic 105, 3), (23, .ifCond .ne 5, 3), (26, .iconst (-1), 1), (27, .ireturn, 1), (28, .aload 4, 2), (30, .invokevirtual 165, 3), (33, .bipush 64, 2), (35, .if_icmp .lt 6, 3), (38, .bipush (-3), 2), (40, .ireturn, 1), (41, .aload_n 0, 1), (42, .getfield 21, 3), (45, .aload 4, 2), (47, .iload_n 2, 1), (48, .iload_n 3, 1), (49, .invokevirtual 168, 3), (52, .aload 4, 2), (54, .invokevirtual 165, 3), (57, .ireturn, 1)]
set_option maxRecDepth 100000 in
theorem DX7_puts : ∀ q ∈ QX7_puts, decode cX7_puts q.1 = .ok (q.2.1, q.2.2) := by decide +kernel
abbrev MX7_puts : zM := (cX7_puts, "EndSums", 5, (some .int), { frames := 4, cells := 0, slots := 0, locals := 111 })
def fX7_puts (a1 : Int32) (a2 : Int32) (a3 : Int32) (w : zW) : Option (Int32 × zW) :=
  bd (fX7_lineAt a1 w) fun o3 w1 => oc o3 (
    some ((-1 : Int32), w1)) fun l4 =>
    bd (fX7_isEnd a2 w1) fun b7 w5 =>
    if b7 = true then
      bd (fX7_isItem a3 w5) fun b11 w9 =>
      if b11 = true then
        bd (fX1_size l4 w9) fun v15 w13 =>
        if v15 < (64 : Int32) then
          bd (fX6_put l4 a2 a3 w13) fun _ w17 =>
          bd (fX1_size l4 w17) fun v22 w20 =>
          some (v22, w20)
        else
        some ((-3 : Int32), w13)
      else
      some ((-1 : Int32), w9)
    else
    some ((-1 : Int32), w5)
theorem YX7_puts : zYV yX7_puts MX7_puts 3 := ⟨wk_482, wk_1, ⟨wk_480, wk_481⟩, ⟨by decide, by decide, by decide +kernel⟩, rfl, rfl⟩
set_option maxHeartbeats 4000000 in
set_option maxRecDepth 100000 in
theorem tX7_puts (a1 : Int32) (a2 : Int32) (a3 : Int32) (w : zW) : Sm yX7_puts MX7_puts zi [.ref 0, .int a1, .int a2, .int a3] w (fX7_puts a1 a2 a3 w) := by
  refine Sm_of (lv0 := [(0, .ref 0), (1, .int a1), (2, .int a2), (3, .int a3)]) (by decide) rfl (fun _ => Nat.le_of_ble_eq_true rfl) rfl ?_
  unfold fX7_puts
  refine tz_aload_n 0 rfl (zd DX7_puts 0 rfl) ?_
  refine tz_iload_n 1 rfl (zd DX7_puts 1 rfl) ?_
  refine tz_cV_o kz7 (zs_0) rfl (rest := []) (YX7_lineAt) wk_226 (tX7_lineAt a1 w) rfl rfl (Nat.le_of_ble_eq_true rfl) ⟨Nat.le_of_ble_eq_true rfl, Nat.le_of_ble_eq_true rfl⟩ (zd DX7_puts 2 rfl) (fun w1 e2 => ?_) (fun l4 w1 e2 => ?_)
  · refine tz_astoreN [(4, .null), (0, .ref 0), (1, .int a1), (2, .int a2), (3, .int a3)] (Nat.le_of_ble_eq_true rfl) rfl (zd DX7_puts 3 rfl) ?_
    refine tz_aloadN 0 rfl (zd DX7_puts 4 rfl) ?_
    refine tz_ifnullN 26 (zd DX7_puts 5 rfl) rfl ?_
    refine tz_iconst (-1 : Int32) zk_iconst_m1 (zd DX7_puts 12 rfl) ?_
    exact tz_iret rfl (zd DX7_puts 13 rfl)
  refine tz_astore [(4, .ref l4), (0, .ref 0), (1, .int a1), (2, .int a2), (3, .int a3)] (Nat.le_of_ble_eq_true rfl) rfl (zd DX7_puts 3 rfl) ?_
  refine tz_aload 0 rfl (zd DX7_puts 4 rfl) ?_
  refine tz_ifnull (zd DX7_puts 5 rfl) ?_
  refine tz_iload_n 3 rfl (zd DX7_puts 6 rfl) ?_
  refine tz_cS_z (rest := []) (YX7_isEnd) wk_483 (tX7_isEnd a2 w1) rfl rfl (Nat.le_of_ble_eq_true rfl) ⟨Nat.le_of_ble_eq_true rfl, Nat.le_of_ble_eq_true rfl⟩ (zd DX7_puts 7 rfl) (fun b7 w5 e6 => ?_)
  refine tz_bif_eq 26 (zd DX7_puts 8 rfl) rfl (fun q8 => ?_) (fun q8 => ?_)
  · refine tz_iload_n 4 rfl (zd DX7_puts 9 rfl) ?_
    refine tz_cS_z (rest := []) (YX7_isItem) wk_408 (tX7_isItem a3 w5) rfl rfl (Nat.le_of_ble_eq_true rfl) ⟨Nat.le_of_ble_eq_true rfl, Nat.le_of_ble_eq_true rfl⟩ (zd DX7_puts 10 rfl) (fun b11 w9 e10 => ?_)
    refine tz_bif_ne 28 (zd DX7_puts 11 rfl) rfl (fun q12 => ?_) (fun q12 => ?_)
    · refine tz_aload 0 rfl (zd DX7_puts 14 rfl) ?_
      refine tz_cVN_i kz1 (fX7_lineAt_c e2) rfl (rest := []) (YX1_size) wn_486 (tX1_size l4 (fX7_lineAt_c e2) w9) rfl rfl (Nat.le_of_ble_eq_true rfl) ⟨Nat.le_of_ble_eq_true rfl, Nat.le_of_ble_eq_true rfl⟩ (zd DX7_puts 15 rfl) (fun v15 w13 e14 => ?_)
      refine tz_bipush (64 : Int32) zk_bipush_64 (zd DX7_puts 16 rfl) ?_
      refine tz_icmp_lt 41 (zd DX7_puts 17 rfl) rfl (fun q16 => ?_) (fun q16 => ?_)
      · refine tz_aload_n 1 rfl (zd DX7_puts 20 rfl) ?_
        refine tz_getR 4 1 kz7 (zs_0) (by decide) (by decide) rfl wk_185 (zd DX7_puts 21 rfl) ?_
        refine tz_aload 0 rfl (zd DX7_puts 22 rfl) ?_
        refine tz_iload_n 3 rfl (zd DX7_puts 23 rfl) ?_
        refine tz_iload_n 4 rfl (zd DX7_puts 24 rfl) ?_
        refine tz_cVN_n kz6 (zs_4) rfl (rest := []) (YX6_put) wn_487 (tX6_put l4 (fX7_lineAt_c e2) a2 a3 w13) rfl rfl (Nat.le_of_ble_eq_true rfl) ⟨Nat.le_of_ble_eq_true rfl, Nat.le_of_ble_eq_true rfl⟩ (zd DX7_puts 25 rfl) (fun v19 w17 e18 => ?_)
        refine tz_aload 0 rfl (zd DX7_puts 26 rfl) ?_
        refine tz_cVN_i kz1 (fX7_lineAt_c e2) rfl (rest := []) (YX1_size) wn_486 (tX1_size l4 (fX7_lineAt_c e2) w17) rfl rfl (Nat.le_of_ble_eq_true rfl) ⟨Nat.le_of_ble_eq_true rfl, Nat.le_of_ble_eq_true rfl⟩ (zd DX7_puts 27 rfl) (fun v22 w20 e21 => ?_)
        exact tz_iret rfl (zd DX7_puts 28 rfl)
      refine tz_bipush (-3 : Int32) zk_bipush_m3 (zd DX7_puts 18 rfl) ?_
      exact tz_iret rfl (zd DX7_puts 19 rfl)
    refine tz_iconst (-1 : Int32) zk_iconst_m1 (zd DX7_puts 12 rfl) ?_
    exact tz_iret rfl (zd DX7_puts 13 rfl)
  refine tz_iconst (-1 : Int32) zk_iconst_m1 (zd DX7_puts 12 rfl) ?_
  exact tz_iret rfl (zd DX7_puts 13 rfl)
def QX7_takes : List (Nat × Instr × Nat) := [(0, .aload_n 0, 1), (1, .iload_n 1, 1), (2, .invokevirtual 158, 3), (5, .astore_n 3, 1), (6, .aload_n 3, 1), (7, .ifnull 10, 3), (10, .iload_n 2, 1), (11, .invokestatic 162, 3), (14, .ifCond .ne 5, 3), (17, .iconst (-1), 1), (18, .ireturn, 1), (19, .aload_n 3, 1), (20, .invokevirtual 165, 3), (23, .ifCond .ne 6, 3), (26, .bipush (-2), 2), (28, .ireturn, 1), (29, .aload_n 0, 1), (30, .getfield 21, 3), (33, .getfield 172, 3), (36, .istore 4, 2), (38, .aload_n 0, 1), (39, .getfield 21, 3), (42, .aload_n 3, 1), (43, .iload_n 2, 1), (44, .invokevirtual 175, 3), (47, .istore 5, 2), (49, .aload_n 0, 1), (50, .aload_n 0, 1), (51, .getfield 21, 3), (54, .getfield 172, 3), (57, .iload 4, 2), (59, .isub, 1), (60, .i2l, 1), (61, .invokevirtual 148, 3), (64, .iload 5, 2), (66, .ireturn, 1)]
set_option maxRecDepth 100000 in
theorem DX7_takes : ∀ q ∈ QX7_takes, decode cX7_takes q.1 = .ok (q.2.1, q.2.2) := by decide +kernel
abbrev MX7_takes : zM := (cX7_takes, "EndSums", 6, (some .int), { frames := 5, cells := 0, slots := 0, locals := 138 })
def fX7_takes (a1 : Int32) (a2 : Int32) (w : zW) : Option (Int32 × zW) :=
  bd (fX7_lineAt a1 w) fun o3 w1 => oc o3 (
    some ((-1 : Int32), w1)) fun l4 =>
    bd (fX7_isEnd a2 w1) fun b7 w5 =>
    if b7 = true then
      bd (fX1_size l4 w5) fun v11 w9 =>
      if ¬ v11 = (0 : Int32) then
        lt (zI w9 4 1) fun v13 =>
        bd (fX6_take l4 a2 w9) fun v16 w14 =>
        bd (fX7_tell ((zI w14 4 1) - v13).toInt64 w14) fun _ w17 =>
        some (v16, w17)
      else
      some ((-2 : Int32), w9)
    else
    some ((-1 : Int32), w5)
theorem YX7_takes : zYV yX7_takes MX7_takes 2 := ⟨wk_495, wk_1, ⟨wk_493, wk_494⟩, ⟨by decide, by decide, by decide +kernel⟩, rfl, rfl⟩
set_option maxHeartbeats 4000000 in
set_option maxRecDepth 100000 in
theorem tX7_takes (a1 : Int32) (a2 : Int32) (w : zW) : Sm yX7_takes MX7_takes zi [.ref 0, .int a1, .int a2] w (fX7_takes a1 a2 w) := by
  refine Sm_of (lv0 := [(0, .ref 0), (1, .int a1), (2, .int a2)]) (by decide) rfl (fun _ => Nat.le_of_ble_eq_true rfl) rfl ?_
  unfold fX7_takes
  refine tz_aload_n 0 rfl (zd DX7_takes 0 rfl) ?_
  refine tz_iload_n 1 rfl (zd DX7_takes 1 rfl) ?_
  refine tz_cV_o kz7 (zs_0) rfl (rest := []) (YX7_lineAt) wk_226 (tX7_lineAt a1 w) rfl rfl (Nat.le_of_ble_eq_true rfl) ⟨Nat.le_of_ble_eq_true rfl, Nat.le_of_ble_eq_true rfl⟩ (zd DX7_takes 2 rfl) (fun w1 e2 => ?_) (fun l4 w1 e2 => ?_)
  · refine tz_astore_nN [(3, .null), (0, .ref 0), (1, .int a1), (2, .int a2)] (Nat.le_of_ble_eq_true rfl) rfl (zd DX7_takes 3 rfl) ?_
    refine tz_aload_nN 0 rfl (zd DX7_takes 4 rfl) ?_
    refine tz_ifnullN 17 (zd DX7_takes 5 rfl) rfl ?_
    refine tz_iconst (-1 : Int32) zk_iconst_m1 (zd DX7_takes 9 rfl) ?_
    exact tz_iret rfl (zd DX7_takes 10 rfl)
  refine tz_astore_n [(3, .ref l4), (0, .ref 0), (1, .int a1), (2, .int a2)] (Nat.le_of_ble_eq_true rfl) rfl (zd DX7_takes 3 rfl) ?_
  refine tz_aload_n 0 rfl (zd DX7_takes 4 rfl) ?_
  refine tz_ifnull (zd DX7_takes 5 rfl) ?_
  refine tz_iload_n 3 rfl (zd DX7_takes 6 rfl) ?_
  refine tz_cS_z (rest := []) (YX7_isEnd) wk_483 (tX7_isEnd a2 w1) rfl rfl (Nat.le_of_ble_eq_true rfl) ⟨Nat.le_of_ble_eq_true rfl, Nat.le_of_ble_eq_true rfl⟩ (zd DX7_takes 7 rfl) (fun b7 w5 e6 => ?_)
  refine tz_bif_ne 19 (zd DX7_takes 8 rfl) rfl (fun q8 => ?_) (fun q8 => ?_)
  · refine tz_aload_n 0 rfl (zd DX7_takes 11 rfl) ?_
    refine tz_cVN_i kz1 (fX7_lineAt_c e2) rfl (rest := []) (YX1_size) wn_486 (tX1_size l4 (fX7_lineAt_c e2) w5) rfl rfl (Nat.le_of_ble_eq_true rfl) ⟨Nat.le_of_ble_eq_true rfl, Nat.le_of_ble_eq_true rfl⟩ (zd DX7_takes 12 rfl) (fun v11 w9 e10 => ?_)
    refine tz_if_ne 29 (zd DX7_takes 13 rfl) rfl (fun q12 => ?_) (fun q12 => ?_)
    · refine tz_aload_n 1 rfl (zd DX7_takes 16 rfl) ?_
      refine tz_getR 4 1 kz7 (zs_0) (by decide) (by decide) rfl wk_185 (zd DX7_takes 17 rfl) ?_
      refine tz_getIN 1 kz6 (zs_4) (by decide) rfl wn_77 (zd DX7_takes 18 rfl) ?_
      refine tz_lti (fun v13 => ?_)
      refine tz_istore [(4, .int v13), (3, .ref l4), (0, .ref 0), (1, .int a1), (2, .int a2)] (Nat.le_of_ble_eq_true rfl) rfl (zd DX7_takes 19 rfl) ?_
      refine tz_aload_n 2 rfl (zd DX7_takes 20 rfl) ?_
      refine tz_getR 4 1 kz7 (zs_0) (by decide) (by decide) rfl wk_185 (zd DX7_takes 21 rfl) ?_
      refine tz_aload_n 1 rfl (zd DX7_takes 22 rfl) ?_
      refine tz_iload_n 4 rfl (zd DX7_takes 23 rfl) ?_
      refine tz_cVN_i kz6 (zs_4) rfl (rest := []) (YX6_take) wn_496 (tX6_take l4 (fX7_lineAt_c e2) a2 w9) rfl rfl (Nat.le_of_ble_eq_true rfl) ⟨Nat.le_of_ble_eq_true rfl, Nat.le_of_ble_eq_true rfl⟩ (zd DX7_takes 24 rfl) (fun v16 w14 e15 => ?_)
      refine tz_istore [(5, .int v16), (4, .int v13), (3, .ref l4), (0, .ref 0), (1, .int a1), (2, .int a2)] (Nat.le_of_ble_eq_true rfl) rfl (zd DX7_takes 25 rfl) ?_
      refine tz_aload_n 3 rfl (zd DX7_takes 26 rfl) ?_
      refine tz_aload_n 3 rfl (zd DX7_takes 27 rfl) ?_
      refine tz_getR 4 1 kz7 (zs_0) (by decide) (by decide) rfl wk_185 (zd DX7_takes 28 rfl) ?_
      refine tz_getIN 1 kz6 (zs_4) (by decide) rfl wn_77 (zd DX7_takes 29 rfl) ?_
      refine tz_iload 1 rfl (zd DX7_takes 30 rfl) ?_
      refine tz_isub (zd DX7_takes 31 rfl) ?_
      refine tz_i2l (zd DX7_takes 32 rfl) ?_
      refine tz_cV_n kz7 (zs_0) rfl (rest := []) (YX7_tell) wk_391 (tX7_tell ((zI w14 4 1) - v13).toInt64 w14) rfl rfl (Nat.le_of_ble_eq_true rfl) ⟨Nat.le_of_ble_eq_true rfl, Nat.le_of_ble_eq_true rfl⟩ (zd DX7_takes 33 rfl) (fun v19 w17 e18 => ?_)
      refine tz_iload 0 rfl (zd DX7_takes 34 rfl) ?_
      exact tz_iret rfl (zd DX7_takes 35 rfl)
    refine tz_bipush (-2 : Int32) zk_bipush_m2 (zd DX7_takes 14 rfl) ?_
    exact tz_iret rfl (zd DX7_takes 15 rfl)
  refine tz_iconst (-1 : Int32) zk_iconst_m1 (zd DX7_takes 9 rfl) ?_
  exact tz_iret rfl (zd DX7_takes 10 rfl)
def QX7_copies : List (Nat × Instr × Nat) := [(0, .aload_n 0, 1), (1, .iload_n 1, 1), (2, .invokevirtual 158, 3), (5, .astore_n 3, 1), (6, .aload_n 0, 1), (7, .iload_n 2, 1), (8, .invokevirtual 158, 3), (11, .astore 4, 2), (13, .aload_n 3, 1), (14, .ifnull 8, 3), (17, .aload 4, 2), (19, .ifnonnull 5, 3), (22, .iconst (-1), 1), (23, .ireturn, 1), (24, .iload_n 1, 1), (25, .iload_n 2, 1), (26, .if_icmp .ne 6, 3), (29, .bipush (-2), 2), (31, .ireturn, 1), (32, .aload 4, 2), (34, .aload_n 3, 1), (35, .invokevirtual 179, 3), (38, .aload 4, 2), (40, .invokevirtual 165, 3), (43, .ireturn, 1)]
set_option maxRecDepth 100000 in
theorem DX7_copies : ∀ q ∈ QX7_copies, decode cX7_copies q.1 = .ok (q.2.1, q.2.2) := by decide +kernel
abbrev MX7_copies : zM := (cX7_copies, "EndSums", 5, (some .int), { frames := 4, cells := 0, slots := 0, locals := 92 })
def fX7_copies (a1 : Int32) (a2 : Int32) (w : zW) : Option (Int32 × zW) :=
  bd (fX7_lineAt a1 w) fun o3 w1 => oc o3 (
    bd (fX7_lineAt a2 w1) fun o7 w5 => oc o7 (
      some ((-1 : Int32), w5)) fun l8 =>
      some ((-1 : Int32), w5)) fun l4 =>
    bd (fX7_lineAt a2 w1) fun o11 w9 => oc o11 (
      some ((-1 : Int32), w9)) fun l12 =>
      if ¬ a1 = a2 then
        bd (fX1_become l12 l4 w9) fun _ w14 =>
        bd (fX1_size l12 w14) fun v19 w17 =>
        some (v19, w17)
      else
      some ((-2 : Int32), w9)
theorem YX7_copies : zYV yX7_copies MX7_copies 2 := ⟨wk_503, wk_1, ⟨wk_501, wk_502⟩, ⟨by decide, by decide, by decide +kernel⟩, rfl, rfl⟩
set_option maxHeartbeats 4000000 in
set_option maxRecDepth 100000 in
theorem tX7_copies (a1 : Int32) (a2 : Int32) (w : zW) : Sm yX7_copies MX7_copies zi [.ref 0, .int a1, .int a2] w (fX7_copies a1 a2 w) := by
  refine Sm_of (lv0 := [(0, .ref 0), (1, .int a1), (2, .int a2)]) (by decide) rfl (fun _ => Nat.le_of_ble_eq_true rfl) rfl ?_
  unfold fX7_copies
  refine tz_aload_n 0 rfl (zd DX7_copies 0 rfl) ?_
  refine tz_iload_n 1 rfl (zd DX7_copies 1 rfl) ?_
  refine tz_cV_o kz7 (zs_0) rfl (rest := []) (YX7_lineAt) wk_226 (tX7_lineAt a1 w) rfl rfl (Nat.le_of_ble_eq_true rfl) ⟨Nat.le_of_ble_eq_true rfl, Nat.le_of_ble_eq_true rfl⟩ (zd DX7_copies 2 rfl) (fun w1 e2 => ?_) (fun l4 w1 e2 => ?_)
  · refine tz_astore_nN [(3, .null), (0, .ref 0), (1, .int a1), (2, .int a2)] (Nat.le_of_ble_eq_true rfl) rfl (zd DX7_copies 3 rfl) ?_
    refine tz_aload_n 1 rfl (zd DX7_copies 4 rfl) ?_
    refine tz_iload_n 3 rfl (zd DX7_copies 5 rfl) ?_
    refine tz_cV_o kz7 (zs_0) rfl (rest := []) (YX7_lineAt) wk_226 (tX7_lineAt a2 w1) rfl rfl (Nat.le_of_ble_eq_true rfl) ⟨Nat.le_of_ble_eq_true rfl, Nat.le_of_ble_eq_true rfl⟩ (zd DX7_copies 6 rfl) (fun w5 e6 => ?_) (fun l8 w5 e6 => ?_)
    · refine tz_astoreN [(4, .null), (3, .null), (0, .ref 0), (1, .int a1), (2, .int a2)] (Nat.le_of_ble_eq_true rfl) rfl (zd DX7_copies 7 rfl) ?_
      refine tz_aload_nN 1 rfl (zd DX7_copies 8 rfl) ?_
      refine tz_ifnullN 22 (zd DX7_copies 9 rfl) rfl ?_
      refine tz_iconst (-1 : Int32) zk_iconst_m1 (zd DX7_copies 12 rfl) ?_
      exact tz_iret rfl (zd DX7_copies 13 rfl)
    refine tz_astore [(4, .ref l8), (3, .null), (0, .ref 0), (1, .int a1), (2, .int a2)] (Nat.le_of_ble_eq_true rfl) rfl (zd DX7_copies 7 rfl) ?_
    refine tz_aload_nN 1 rfl (zd DX7_copies 8 rfl) ?_
    refine tz_ifnullN 22 (zd DX7_copies 9 rfl) rfl ?_
    refine tz_iconst (-1 : Int32) zk_iconst_m1 (zd DX7_copies 12 rfl) ?_
    exact tz_iret rfl (zd DX7_copies 13 rfl)
  refine tz_astore_n [(3, .ref l4), (0, .ref 0), (1, .int a1), (2, .int a2)] (Nat.le_of_ble_eq_true rfl) rfl (zd DX7_copies 3 rfl) ?_
  refine tz_aload_n 1 rfl (zd DX7_copies 4 rfl) ?_
  refine tz_iload_n 3 rfl (zd DX7_copies 5 rfl) ?_
  refine tz_cV_o kz7 (zs_0) rfl (rest := []) (YX7_lineAt) wk_226 (tX7_lineAt a2 w1) rfl rfl (Nat.le_of_ble_eq_true rfl) ⟨Nat.le_of_ble_eq_true rfl, Nat.le_of_ble_eq_true rfl⟩ (zd DX7_copies 6 rfl) (fun w9 e10 => ?_) (fun l12 w9 e10 => ?_)
  · refine tz_astoreN [(4, .null), (3, .ref l4), (0, .ref 0), (1, .int a1), (2, .int a2)] (Nat.le_of_ble_eq_true rfl) rfl (zd DX7_copies 7 rfl) ?_
    refine tz_aload_n 1 rfl (zd DX7_copies 8 rfl) ?_
    refine tz_ifnull (zd DX7_copies 9 rfl) ?_
    refine tz_aloadN 0 rfl (zd DX7_copies 10 rfl) ?_
    refine tz_ifnonnullN (zd DX7_copies 11 rfl) ?_
    refine tz_iconst (-1 : Int32) zk_iconst_m1 (zd DX7_copies 12 rfl) ?_
    exact tz_iret rfl (zd DX7_copies 13 rfl)
  refine tz_astore [(4, .ref l12), (3, .ref l4), (0, .ref 0), (1, .int a1), (2, .int a2)] (Nat.le_of_ble_eq_true rfl) rfl (zd DX7_copies 7 rfl) ?_
  refine tz_aload_n 1 rfl (zd DX7_copies 8 rfl) ?_
  refine tz_ifnull (zd DX7_copies 9 rfl) ?_
  refine tz_aload 0 rfl (zd DX7_copies 10 rfl) ?_
  refine tz_ifnonnull 24 (zd DX7_copies 11 rfl) rfl ?_
  refine tz_iload_n 3 rfl (zd DX7_copies 14 rfl) ?_
  refine tz_iload_n 4 rfl (zd DX7_copies 15 rfl) ?_
  refine tz_icmp_ne 32 (zd DX7_copies 16 rfl) rfl (fun q13 => ?_) (fun q13 => ?_)
  · refine tz_aload 0 rfl (zd DX7_copies 19 rfl) ?_
    refine tz_aload_n 1 rfl (zd DX7_copies 20 rfl) ?_
    refine tz_cVN_n kz1 (fX7_lineAt_c e10) rfl (rest := []) (YX1_become) wn_504 (tX1_become l12 (fX7_lineAt_c e10) l4 (fX7_lineAt_c e2) w9) rfl rfl (Nat.le_of_ble_eq_true rfl) ⟨Nat.le_of_ble_eq_true rfl, Nat.le_of_ble_eq_true rfl⟩ (zd DX7_copies 21 rfl) (fun v16 w14 e15 => ?_)
    refine tz_aload 0 rfl (zd DX7_copies 22 rfl) ?_
    refine tz_cVN_i kz1 (fX7_lineAt_c e10) rfl (rest := []) (YX1_size) wn_486 (tX1_size l12 (fX7_lineAt_c e10) w14) rfl rfl (Nat.le_of_ble_eq_true rfl) ⟨Nat.le_of_ble_eq_true rfl, Nat.le_of_ble_eq_true rfl⟩ (zd DX7_copies 23 rfl) (fun v19 w17 e18 => ?_)
    exact tz_iret rfl (zd DX7_copies 24 rfl)
  refine tz_bipush (-2 : Int32) zk_bipush_m2 (zd DX7_copies 17 rfl) ?_
  exact tz_iret rfl (zd DX7_copies 18 rfl)
def QX7_joins : List (Nat × Instr × Nat) := [(0, .aload_n 0, 1), (1, .iload_n 1, 1), (2, .invokevirtual 158, 3), (5, .astore_n 3, 1), (6, .aload_n 0, 1), (7, .iload_n 2, 1), (8, .invokevirtual 158, 3), (11, .astore 4, 2), (13, .aload_n 3, 1), (14, .ifnull 8, 3), (17, .aload 4, 2), (19, .ifnonnull 5, 3), (22, .iconst (-1), 1), (23, .ireturn, 1), (24, .aload 4, 2), (26, .invokevirtual 165, 3), (29, .istore 5, 2), (31, .aload_n 3, 1), (32, .invokevirtual 165, 3), (35, .iload 5, 2), (37, .iadd, 1), (38, .bipush 64, 2), (40, .if_icmp .le 6, 3), (43, .bipush (-3), 2), (45, .ireturn, 1), (46, .aload_n 0, 1), (47, .getfield 21, 3), (50, .getfield 172, 3), (53, .istore 6, 2), (55, .aload_n 0, 1), (56, .getfield 32, 3), (59, .aload 4, 2), (61, .invokevirtual 179, 3), (64, .iconst 0, 1), (65, .istore 7, 2), (67, .iload 7, 2), (69, .iload 5, 2), (71, .if_icmp .ge 30, 3), (74, .aload_n 0, 1), (75, .getfield 21, 3), (78, .aload_n 3, 1), (79, .iconst 1, 1), (80, .aload_n 0, 1), (81, .getfield 21, 3), (84, .aload_n 0, 1), (85, .getfield 32, 3), (88, .iconst 0, 1), (89, .invokevirtual 175, 3), (92, .invokevirtual 168, 3), (95, .iinc 7 1, 3), (98, .goto (-31), 3), (101, .aload_n 0, 1), (102, .aload_n 0, 1), (103, .getfield 21, 3), (106, .getfield 172, 3), (109, .iload 6, 2), (111, .isub, 1), (112, .i2l, 1), (113, .invokevirtual 148, 3), (116, .aload_n 3, 1), (117, .invokevirtual 165, 3), (120, .ireturn, 1)]
set_option maxRecDepth 100000 in
theorem DX7_joins : ∀ q ∈ QX7_joins, decode cX7_joins q.1 = .ok (q.2.1, q.2.2) := by decide +kernel
abbrev MX7_joins : zM := (cX7_joins, "EndSums", 8, (some .int), { frames := 5, cells := 0, slots := 0, locals := 138 })
def fX7_joins_L67 (r3 : Nat) (x5 : Int32) (x6 : Int32) : Nat → Int32 → zW → Option (Int32 × zW)
  | 0, _, _ => none
  | n + 1, x7, w =>
    if x5 ≤ x7 then
      bd (fX7_tell ((zI w 4 1) - x6).toInt64 w) fun _ w25 =>
      bd (fX1_size r3 w25) fun v30 w28 =>
      some (v30, w28)
    else
    bd (fX6_take 51 (0 : Int32) w) fun v33 w31 =>
    bd (fX6_put r3 (1 : Int32) v33 w31) fun _ w34 =>
    fX7_joins_L67 r3 x5 x6 n (x7 + (1 : Int32)) w34
def fX7_joins (a1 : Int32) (a2 : Int32) (w : zW) : Option (Int32 × zW) :=
  bd (fX7_lineAt a1 w) fun o3 w1 => oc o3 (
    bd (fX7_lineAt a2 w1) fun o7 w5 => oc o7 (
      some ((-1 : Int32), w5)) fun l8 =>
      some ((-1 : Int32), w5)) fun l4 =>
    bd (fX7_lineAt a2 w1) fun o11 w9 => oc o11 (
      some ((-1 : Int32), w9)) fun l12 =>
      bd (fX1_size l12 w9) fun v15 w13 =>
      bd (fX1_size l4 w13) fun v18 w16 =>
      if (v18 + v15) ≤ (64 : Int32) then
        lt (zI w16 4 1) fun v20 =>
        bd (fX1_become 51 l12 w16) fun _ w21 =>
        fX7_joins_L67 l4 v15 v20 zFU (0 : Int32) w21
      else
      some ((-3 : Int32), w16)
theorem YX7_joins : zYV yX7_joins MX7_joins 2 := ⟨wk_518, wk_1, ⟨wk_516, wk_517⟩, ⟨by decide, by decide, by decide +kernel⟩, rfl, rfl⟩
set_option maxHeartbeats 4000000 in
set_option maxRecDepth 100000 in
theorem lX7_joins_L67 (r3 : Nat) (hr3 : zc 1 r3) (x5 : Int32) (x6 : Int32) : ∀ (n : Nat) (x7 : Int32) (w : zW), Tz MX7_joins (zRet zi) (fX7_joins_L67 r3 x5 x6 n x7 w) 67 [(0, .ref 0), (3, .ref r3), (5, .int x5), (6, .int x6), (7, .int x7)] [] w := by
  intro n
  induction n with
  | zero => intro x7 w; exact tz_eq (fX7_joins_L67.eq_1 _ _ _ _ _) tz_none
  | succ n ih =>
    intro x7 w
    refine tz_eq (fX7_joins_L67.eq_2 _ _ _ _ _ _) ?_
    refine tz_iload 4 rfl (zd DX7_joins 35 rfl) ?_
    refine tz_iload 2 rfl (zd DX7_joins 36 rfl) ?_
    refine tz_icmp_ge 101 (zd DX7_joins 37 rfl) rfl (fun q24 => ?_) (fun q24 => ?_)
    · refine tz_aload_n 0 rfl (zd DX7_joins 51 rfl) ?_
      refine tz_aload_n 0 rfl (zd DX7_joins 52 rfl) ?_
      refine tz_getR 4 1 kz7 (zs_0) (by decide) (by decide) rfl wk_185 (zd DX7_joins 53 rfl) ?_
      refine tz_getIN 1 kz6 (zs_4) (by decide) rfl wn_77 (zd DX7_joins 54 rfl) ?_
      refine tz_iload 3 rfl (zd DX7_joins 55 rfl) ?_
      refine tz_isub (zd DX7_joins 56 rfl) ?_
      refine tz_i2l (zd DX7_joins 57 rfl) ?_
      refine tz_cV_n kz7 (zs_0) rfl (rest := []) (YX7_tell) wk_391 (tX7_tell ((zI w 4 1) - x6).toInt64 w) rfl rfl (Nat.le_of_ble_eq_true rfl) ⟨Nat.le_of_ble_eq_true rfl, Nat.le_of_ble_eq_true rfl⟩ (zd DX7_joins 58 rfl) (fun v27 w25 e26 => ?_)
      refine tz_aload_n 1 rfl (zd DX7_joins 59 rfl) ?_
      refine tz_cVN_i kz1 (hr3) rfl (rest := []) (YX1_size) wn_486 (tX1_size r3 (hr3) w25) rfl rfl (Nat.le_of_ble_eq_true rfl) ⟨Nat.le_of_ble_eq_true rfl, Nat.le_of_ble_eq_true rfl⟩ (zd DX7_joins 60 rfl) (fun v30 w28 e29 => ?_)
      exact tz_iret rfl (zd DX7_joins 61 rfl)
    refine tz_aload_n 0 rfl (zd DX7_joins 38 rfl) ?_
    refine tz_getR 4 1 kz7 (zs_0) (by decide) (by decide) rfl wk_185 (zd DX7_joins 39 rfl) ?_
    refine tz_aload_n 1 rfl (zd DX7_joins 40 rfl) ?_
    refine tz_iconst (1 : Int32) zk_iconst_1 (zd DX7_joins 41 rfl) ?_
    refine tz_aload_n 0 rfl (zd DX7_joins 42 rfl) ?_
    refine tz_getR 4 1 kz7 (zs_0) (by decide) (by decide) rfl wk_185 (zd DX7_joins 43 rfl) ?_
    refine tz_aload_n 0 rfl (zd DX7_joins 44 rfl) ?_
    refine tz_getR 51 3 kz7 (zs_0) (by decide) (by decide) rfl wk_187 (zd DX7_joins 45 rfl) ?_
    refine tz_iconst (0 : Int32) zk_iconst_0 (zd DX7_joins 46 rfl) ?_
    refine tz_cVN_i kz6 (zs_4) rfl (rest := [.int (1 : Int32), .ref r3, .ref 4]) (YX6_take) wn_496 (tX6_take 51 (zs_51) (0 : Int32) w) rfl rfl (Nat.le_of_ble_eq_true rfl) ⟨Nat.le_of_ble_eq_true rfl, Nat.le_of_ble_eq_true rfl⟩ (zd DX7_joins 47 rfl) (fun v33 w31 e32 => ?_)
    refine tz_cVN_n kz6 (zs_4) rfl (rest := []) (YX6_put) wn_487 (tX6_put r3 (hr3) (1 : Int32) v33 w31) rfl rfl (Nat.le_of_ble_eq_true rfl) ⟨Nat.le_of_ble_eq_true rfl, Nat.le_of_ble_eq_true rfl⟩ (zd DX7_joins 48 rfl) (fun v36 w34 e35 => ?_)
    refine tz_iinc 4 (1 : Int32) [(7, .int (x7 + (1 : Int32))), (0, .ref 0), (3, .ref r3), (5, .int x5), (6, .int x6)] rfl zk_iconst_1 (Nat.le_of_ble_eq_true rfl) rfl (zd DX7_joins 49 rfl) ?_
    refine tz_goto 67 (zd DX7_joins 50 rfl) rfl ?_
    refine tz_lv (lv2 := [(0, .ref 0), (3, .ref r3), (5, .int x5), (6, .int x6), (7, .int (x7 + (1 : Int32)))]) [1, 2, 3, 4, 0] rfl ?_
    exact ih (x7 + (1 : Int32)) w34
set_option maxHeartbeats 4000000 in
set_option maxRecDepth 100000 in
theorem tX7_joins (a1 : Int32) (a2 : Int32) (w : zW) : Sm yX7_joins MX7_joins zi [.ref 0, .int a1, .int a2] w (fX7_joins a1 a2 w) := by
  refine Sm_of (lv0 := [(0, .ref 0), (1, .int a1), (2, .int a2)]) (by decide) rfl (fun _ => Nat.le_of_ble_eq_true rfl) rfl ?_
  unfold fX7_joins
  refine tz_aload_n 0 rfl (zd DX7_joins 0 rfl) ?_
  refine tz_iload_n 1 rfl (zd DX7_joins 1 rfl) ?_
  refine tz_cV_o kz7 (zs_0) rfl (rest := []) (YX7_lineAt) wk_226 (tX7_lineAt a1 w) rfl rfl (Nat.le_of_ble_eq_true rfl) ⟨Nat.le_of_ble_eq_true rfl, Nat.le_of_ble_eq_true rfl⟩ (zd DX7_joins 2 rfl) (fun w1 e2 => ?_) (fun l4 w1 e2 => ?_)
  · refine tz_astore_nN [(3, .null), (0, .ref 0), (1, .int a1), (2, .int a2)] (Nat.le_of_ble_eq_true rfl) rfl (zd DX7_joins 3 rfl) ?_
    refine tz_aload_n 1 rfl (zd DX7_joins 4 rfl) ?_
    refine tz_iload_n 3 rfl (zd DX7_joins 5 rfl) ?_
    refine tz_cV_o kz7 (zs_0) rfl (rest := []) (YX7_lineAt) wk_226 (tX7_lineAt a2 w1) rfl rfl (Nat.le_of_ble_eq_true rfl) ⟨Nat.le_of_ble_eq_true rfl, Nat.le_of_ble_eq_true rfl⟩ (zd DX7_joins 6 rfl) (fun w5 e6 => ?_) (fun l8 w5 e6 => ?_)
    · refine tz_astoreN [(4, .null), (3, .null), (0, .ref 0), (1, .int a1), (2, .int a2)] (Nat.le_of_ble_eq_true rfl) rfl (zd DX7_joins 7 rfl) ?_
      refine tz_aload_nN 1 rfl (zd DX7_joins 8 rfl) ?_
      refine tz_ifnullN 22 (zd DX7_joins 9 rfl) rfl ?_
      refine tz_iconst (-1 : Int32) zk_iconst_m1 (zd DX7_joins 12 rfl) ?_
      exact tz_iret rfl (zd DX7_joins 13 rfl)
    refine tz_astore [(4, .ref l8), (3, .null), (0, .ref 0), (1, .int a1), (2, .int a2)] (Nat.le_of_ble_eq_true rfl) rfl (zd DX7_joins 7 rfl) ?_
    refine tz_aload_nN 1 rfl (zd DX7_joins 8 rfl) ?_
    refine tz_ifnullN 22 (zd DX7_joins 9 rfl) rfl ?_
    refine tz_iconst (-1 : Int32) zk_iconst_m1 (zd DX7_joins 12 rfl) ?_
    exact tz_iret rfl (zd DX7_joins 13 rfl)
  refine tz_astore_n [(3, .ref l4), (0, .ref 0), (1, .int a1), (2, .int a2)] (Nat.le_of_ble_eq_true rfl) rfl (zd DX7_joins 3 rfl) ?_
  refine tz_aload_n 1 rfl (zd DX7_joins 4 rfl) ?_
  refine tz_iload_n 3 rfl (zd DX7_joins 5 rfl) ?_
  refine tz_cV_o kz7 (zs_0) rfl (rest := []) (YX7_lineAt) wk_226 (tX7_lineAt a2 w1) rfl rfl (Nat.le_of_ble_eq_true rfl) ⟨Nat.le_of_ble_eq_true rfl, Nat.le_of_ble_eq_true rfl⟩ (zd DX7_joins 6 rfl) (fun w9 e10 => ?_) (fun l12 w9 e10 => ?_)
  · refine tz_astoreN [(4, .null), (3, .ref l4), (0, .ref 0), (1, .int a1), (2, .int a2)] (Nat.le_of_ble_eq_true rfl) rfl (zd DX7_joins 7 rfl) ?_
    refine tz_aload_n 1 rfl (zd DX7_joins 8 rfl) ?_
    refine tz_ifnull (zd DX7_joins 9 rfl) ?_
    refine tz_aloadN 0 rfl (zd DX7_joins 10 rfl) ?_
    refine tz_ifnonnullN (zd DX7_joins 11 rfl) ?_
    refine tz_iconst (-1 : Int32) zk_iconst_m1 (zd DX7_joins 12 rfl) ?_
    exact tz_iret rfl (zd DX7_joins 13 rfl)
  refine tz_astore [(4, .ref l12), (3, .ref l4), (0, .ref 0), (1, .int a1), (2, .int a2)] (Nat.le_of_ble_eq_true rfl) rfl (zd DX7_joins 7 rfl) ?_
  refine tz_aload_n 1 rfl (zd DX7_joins 8 rfl) ?_
  refine tz_ifnull (zd DX7_joins 9 rfl) ?_
  refine tz_aload 0 rfl (zd DX7_joins 10 rfl) ?_
  refine tz_ifnonnull 24 (zd DX7_joins 11 rfl) rfl ?_
  refine tz_aload 0 rfl (zd DX7_joins 14 rfl) ?_
  refine tz_cVN_i kz1 (fX7_lineAt_c e10) rfl (rest := []) (YX1_size) wn_486 (tX1_size l12 (fX7_lineAt_c e10) w9) rfl rfl (Nat.le_of_ble_eq_true rfl) ⟨Nat.le_of_ble_eq_true rfl, Nat.le_of_ble_eq_true rfl⟩ (zd DX7_joins 15 rfl) (fun v15 w13 e14 => ?_)
  refine tz_istore [(5, .int v15), (4, .ref l12), (3, .ref l4), (0, .ref 0), (1, .int a1), (2, .int a2)] (Nat.le_of_ble_eq_true rfl) rfl (zd DX7_joins 16 rfl) ?_
  refine tz_aload_n 2 rfl (zd DX7_joins 17 rfl) ?_
  refine tz_cVN_i kz1 (fX7_lineAt_c e2) rfl (rest := []) (YX1_size) wn_486 (tX1_size l4 (fX7_lineAt_c e2) w13) rfl rfl (Nat.le_of_ble_eq_true rfl) ⟨Nat.le_of_ble_eq_true rfl, Nat.le_of_ble_eq_true rfl⟩ (zd DX7_joins 18 rfl) (fun v18 w16 e17 => ?_)
  refine tz_iload 0 rfl (zd DX7_joins 19 rfl) ?_
  refine tz_iadd (zd DX7_joins 20 rfl) ?_
  refine tz_bipush (64 : Int32) zk_bipush_64 (zd DX7_joins 21 rfl) ?_
  refine tz_icmp_le 46 (zd DX7_joins 22 rfl) rfl (fun q19 => ?_) (fun q19 => ?_)
  · refine tz_aload_n 3 rfl (zd DX7_joins 25 rfl) ?_
    refine tz_getR 4 1 kz7 (zs_0) (by decide) (by decide) rfl wk_185 (zd DX7_joins 26 rfl) ?_
    refine tz_getIN 1 kz6 (zs_4) (by decide) rfl wn_77 (zd DX7_joins 27 rfl) ?_
    refine tz_lti (fun v20 => ?_)
    refine tz_istore [(6, .int v20), (5, .int v15), (4, .ref l12), (3, .ref l4), (0, .ref 0), (1, .int a1), (2, .int a2)] (Nat.le_of_ble_eq_true rfl) rfl (zd DX7_joins 28 rfl) ?_
    refine tz_aload_n 4 rfl (zd DX7_joins 29 rfl) ?_
    refine tz_getR 51 3 kz7 (zs_0) (by decide) (by decide) rfl wk_187 (zd DX7_joins 30 rfl) ?_
    refine tz_aload 2 rfl (zd DX7_joins 31 rfl) ?_
    refine tz_cVN_n kz1 (zs_51) rfl (rest := []) (YX1_become) wn_504 (tX1_become 51 (zs_51) l12 (fX7_lineAt_c e10) w16) rfl rfl (Nat.le_of_ble_eq_true rfl) ⟨Nat.le_of_ble_eq_true rfl, Nat.le_of_ble_eq_true rfl⟩ (zd DX7_joins 32 rfl) (fun v23 w21 e22 => ?_)
    refine tz_iconst (0 : Int32) zk_iconst_0 (zd DX7_joins 33 rfl) ?_
    refine tz_istore [(7, .int (0 : Int32)), (6, .int v20), (5, .int v15), (4, .ref l12), (3, .ref l4), (0, .ref 0), (1, .int a1), (2, .int a2)] (Nat.le_of_ble_eq_true rfl) rfl (zd DX7_joins 34 rfl) ?_
    refine tz_lv (lv2 := [(0, .ref 0), (3, .ref l4), (5, .int v15), (6, .int v20), (7, .int (0 : Int32))]) [5, 4, 2, 1, 0] rfl ?_
    exact lX7_joins_L67 l4 (fX7_lineAt_c e2) v15 v20 zFU (0 : Int32) w21
  refine tz_bipush (-3 : Int32) zk_bipush_m3 (zd DX7_joins 23 rfl) ?_
  exact tz_iret rfl (zd DX7_joins 24 rfl)
def QX7_parts : List (Nat × Instr × Nat) := [(0, .aload_n 0, 1), (1, .iload_n 1, 1), (2, .invokevirtual 158, 3), (5, .astore 4, 2), (7, .aload_n 0, 1), (8, .iload_n 3, 1), (9, .invokevirtual 158, 3), (12, .astore 5, 2), (14, .aload 4, 2), (16, .ifnull 12, 3), (19, .aload 5, 2), (21, .ifnull 7, 3), (24, .iload_n 2, 1), (25, .ifCond .ge 5, 3), (28, .iconst (-1), 1), (29, .ireturn, 1), (30, .iload_n 1, 1), (31, .iload_n 3, 1), (32, .if_icmp .ne 6, 3), (35, .bipush (-2), 2), (37, .ireturn, 1), (38, .aload 4, 2), (40, .invokevirtual 165, 3), (43, .iload_n 2, 1), (44, .if_icmp .ge 6, 3), (47, .bipush (-3), 2), (49, .ireturn, 1), (50, .aload_n 0, 1), (51, .getfield 21, 3), (54, .aload 4, 2), (56, .iload_n 2, 1), (57, .aload 5, 2), (59, .invokevirtual 182, 3), (62, .aload 5, 2), (64, .invokevirtual 165, 3), (67, .ireturn, 1)]
set_option maxRecDepth 100000 in
theorem DX7_parts : ∀ q ∈ QX7_parts, decode cX7_parts q.1 = .ok (q.2.1, q.2.2) := by decide +kernel
abbrev MX7_parts : zM := (cX7_parts, "EndSums", 6, (some .int), { frames := 5, cells := 0, slots := 0, locals := 137 })
def fX7_parts (a1 : Int32) (a2 : Int32) (a3 : Int32) (w : zW) : Option (Int32 × zW) :=
  bd (fX7_lineAt a1 w) fun o3 w1 => oc o3 (
    bd (fX7_lineAt a3 w1) fun o7 w5 => oc o7 (
      some ((-1 : Int32), w5)) fun l8 =>
      some ((-1 : Int32), w5)) fun l4 =>
    bd (fX7_lineAt a3 w1) fun o11 w9 => oc o11 (
      some ((-1 : Int32), w9)) fun l12 =>
      if (0 : Int32) ≤ a2 then
        if ¬ a1 = a3 then
          bd (fX1_size l4 w9) fun v17 w15 =>
          if a2 ≤ v17 then
            bd (fX6_split l4 a2 l12 w15) fun _ w19 =>
            bd (fX1_size l12 w19) fun v24 w22 =>
            some (v24, w22)
          else
          some ((-3 : Int32), w15)
        else
        some ((-2 : Int32), w9)
      else
      some ((-1 : Int32), w9)
theorem YX7_parts : zYV yX7_parts MX7_parts 3 := ⟨wk_522, wk_1, ⟨wk_520, wk_521⟩, ⟨by decide, by decide, by decide +kernel⟩, rfl, rfl⟩
set_option maxHeartbeats 4000000 in
set_option maxRecDepth 100000 in
theorem tX7_parts (a1 : Int32) (a2 : Int32) (a3 : Int32) (w : zW) : Sm yX7_parts MX7_parts zi [.ref 0, .int a1, .int a2, .int a3] w (fX7_parts a1 a2 a3 w) := by
  refine Sm_of (lv0 := [(0, .ref 0), (1, .int a1), (2, .int a2), (3, .int a3)]) (by decide) rfl (fun _ => Nat.le_of_ble_eq_true rfl) rfl ?_
  unfold fX7_parts
  refine tz_aload_n 0 rfl (zd DX7_parts 0 rfl) ?_
  refine tz_iload_n 1 rfl (zd DX7_parts 1 rfl) ?_
  refine tz_cV_o kz7 (zs_0) rfl (rest := []) (YX7_lineAt) wk_226 (tX7_lineAt a1 w) rfl rfl (Nat.le_of_ble_eq_true rfl) ⟨Nat.le_of_ble_eq_true rfl, Nat.le_of_ble_eq_true rfl⟩ (zd DX7_parts 2 rfl) (fun w1 e2 => ?_) (fun l4 w1 e2 => ?_)
  · refine tz_astoreN [(4, .null), (0, .ref 0), (1, .int a1), (2, .int a2), (3, .int a3)] (Nat.le_of_ble_eq_true rfl) rfl (zd DX7_parts 3 rfl) ?_
    refine tz_aload_n 1 rfl (zd DX7_parts 4 rfl) ?_
    refine tz_iload_n 4 rfl (zd DX7_parts 5 rfl) ?_
    refine tz_cV_o kz7 (zs_0) rfl (rest := []) (YX7_lineAt) wk_226 (tX7_lineAt a3 w1) rfl rfl (Nat.le_of_ble_eq_true rfl) ⟨Nat.le_of_ble_eq_true rfl, Nat.le_of_ble_eq_true rfl⟩ (zd DX7_parts 6 rfl) (fun w5 e6 => ?_) (fun l8 w5 e6 => ?_)
    · refine tz_astoreN [(5, .null), (4, .null), (0, .ref 0), (1, .int a1), (2, .int a2), (3, .int a3)] (Nat.le_of_ble_eq_true rfl) rfl (zd DX7_parts 7 rfl) ?_
      refine tz_aloadN 1 rfl (zd DX7_parts 8 rfl) ?_
      refine tz_ifnullN 28 (zd DX7_parts 9 rfl) rfl ?_
      refine tz_iconst (-1 : Int32) zk_iconst_m1 (zd DX7_parts 14 rfl) ?_
      exact tz_iret rfl (zd DX7_parts 15 rfl)
    refine tz_astore [(5, .ref l8), (4, .null), (0, .ref 0), (1, .int a1), (2, .int a2), (3, .int a3)] (Nat.le_of_ble_eq_true rfl) rfl (zd DX7_parts 7 rfl) ?_
    refine tz_aloadN 1 rfl (zd DX7_parts 8 rfl) ?_
    refine tz_ifnullN 28 (zd DX7_parts 9 rfl) rfl ?_
    refine tz_iconst (-1 : Int32) zk_iconst_m1 (zd DX7_parts 14 rfl) ?_
    exact tz_iret rfl (zd DX7_parts 15 rfl)
  refine tz_astore [(4, .ref l4), (0, .ref 0), (1, .int a1), (2, .int a2), (3, .int a3)] (Nat.le_of_ble_eq_true rfl) rfl (zd DX7_parts 3 rfl) ?_
  refine tz_aload_n 1 rfl (zd DX7_parts 4 rfl) ?_
  refine tz_iload_n 4 rfl (zd DX7_parts 5 rfl) ?_
  refine tz_cV_o kz7 (zs_0) rfl (rest := []) (YX7_lineAt) wk_226 (tX7_lineAt a3 w1) rfl rfl (Nat.le_of_ble_eq_true rfl) ⟨Nat.le_of_ble_eq_true rfl, Nat.le_of_ble_eq_true rfl⟩ (zd DX7_parts 6 rfl) (fun w9 e10 => ?_) (fun l12 w9 e10 => ?_)
  · refine tz_astoreN [(5, .null), (4, .ref l4), (0, .ref 0), (1, .int a1), (2, .int a2), (3, .int a3)] (Nat.le_of_ble_eq_true rfl) rfl (zd DX7_parts 7 rfl) ?_
    refine tz_aload 1 rfl (zd DX7_parts 8 rfl) ?_
    refine tz_ifnull (zd DX7_parts 9 rfl) ?_
    refine tz_aloadN 0 rfl (zd DX7_parts 10 rfl) ?_
    refine tz_ifnullN 28 (zd DX7_parts 11 rfl) rfl ?_
    refine tz_iconst (-1 : Int32) zk_iconst_m1 (zd DX7_parts 14 rfl) ?_
    exact tz_iret rfl (zd DX7_parts 15 rfl)
  refine tz_astore [(5, .ref l12), (4, .ref l4), (0, .ref 0), (1, .int a1), (2, .int a2), (3, .int a3)] (Nat.le_of_ble_eq_true rfl) rfl (zd DX7_parts 7 rfl) ?_
  refine tz_aload 1 rfl (zd DX7_parts 8 rfl) ?_
  refine tz_ifnull (zd DX7_parts 9 rfl) ?_
  refine tz_aload 0 rfl (zd DX7_parts 10 rfl) ?_
  refine tz_ifnull (zd DX7_parts 11 rfl) ?_
  refine tz_iload_n 4 rfl (zd DX7_parts 12 rfl) ?_
  refine tz_if_ge 30 (zd DX7_parts 13 rfl) rfl (fun q13 => ?_) (fun q13 => ?_)
  · refine tz_iload_n 3 rfl (zd DX7_parts 16 rfl) ?_
    refine tz_iload_n 5 rfl (zd DX7_parts 17 rfl) ?_
    refine tz_icmp_ne 38 (zd DX7_parts 18 rfl) rfl (fun q14 => ?_) (fun q14 => ?_)
    · refine tz_aload 1 rfl (zd DX7_parts 21 rfl) ?_
      refine tz_cVN_i kz1 (fX7_lineAt_c e2) rfl (rest := []) (YX1_size) wn_486 (tX1_size l4 (fX7_lineAt_c e2) w9) rfl rfl (Nat.le_of_ble_eq_true rfl) ⟨Nat.le_of_ble_eq_true rfl, Nat.le_of_ble_eq_true rfl⟩ (zd DX7_parts 22 rfl) (fun v17 w15 e16 => ?_)
      refine tz_iload_n 4 rfl (zd DX7_parts 23 rfl) ?_
      refine tz_icmp_ge 50 (zd DX7_parts 24 rfl) rfl (fun q18 => ?_) (fun q18 => ?_)
      · refine tz_aload_n 2 rfl (zd DX7_parts 27 rfl) ?_
        refine tz_getR 4 1 kz7 (zs_0) (by decide) (by decide) rfl wk_185 (zd DX7_parts 28 rfl) ?_
        refine tz_aload 1 rfl (zd DX7_parts 29 rfl) ?_
        refine tz_iload_n 4 rfl (zd DX7_parts 30 rfl) ?_
        refine tz_aload 0 rfl (zd DX7_parts 31 rfl) ?_
        refine tz_cVN_n kz6 (zs_4) rfl (rest := []) (YX6_split) wn_523 (tX6_split l4 (fX7_lineAt_c e2) a2 l12 (fX7_lineAt_c e10) w15) rfl rfl (Nat.le_of_ble_eq_true rfl) ⟨Nat.le_of_ble_eq_true rfl, Nat.le_of_ble_eq_true rfl⟩ (zd DX7_parts 32 rfl) (fun v21 w19 e20 => ?_)
        refine tz_aload 0 rfl (zd DX7_parts 33 rfl) ?_
        refine tz_cVN_i kz1 (fX7_lineAt_c e10) rfl (rest := []) (YX1_size) wn_486 (tX1_size l12 (fX7_lineAt_c e10) w19) rfl rfl (Nat.le_of_ble_eq_true rfl) ⟨Nat.le_of_ble_eq_true rfl, Nat.le_of_ble_eq_true rfl⟩ (zd DX7_parts 34 rfl) (fun v24 w22 e23 => ?_)
        exact tz_iret rfl (zd DX7_parts 35 rfl)
      refine tz_bipush (-3 : Int32) zk_bipush_m3 (zd DX7_parts 25 rfl) ?_
      exact tz_iret rfl (zd DX7_parts 26 rfl)
    refine tz_bipush (-2 : Int32) zk_bipush_m2 (zd DX7_parts 19 rfl) ?_
    exact tz_iret rfl (zd DX7_parts 20 rfl)
  refine tz_iconst (-1 : Int32) zk_iconst_m1 (zd DX7_parts 14 rfl) ?_
  exact tz_iret rfl (zd DX7_parts 15 rfl)
def QX7_reverses : List (Nat × Instr × Nat) := [(0, .aload_n 0, 1), (1, .iload_n 1, 1), (2, .invokevirtual 158, 3), (5, .astore_n 2, 1), (6, .aload_n 2, 1), (7, .ifnonnull 5, 3), (10, .iconst (-1), 1), (11, .ireturn, 1), (12, .aload_n 0, 1), (13, .getfield 21, 3), (16, .aload_n 2, 1), (17, .invokevirtual 186, 3), (20, .aload_n 2, 1), (21, .invokevirtual 165, 3), (24, .ireturn, 1)]
set_option maxRecDepth 100000 in
theorem DX7_reverses : ∀ q ∈ QX7_reverses, decode cX7_reverses q.1 = .ok (q.2.1, q.2.2) := by decide +kernel
abbrev MX7_reverses : zM := (cX7_reverses, "EndSums", 3, (some .int), { frames := 5, cells := 0, slots := 0, locals := 136 })
def fX7_reverses (a1 : Int32) (w : zW) : Option (Int32 × zW) :=
  bd (fX7_lineAt a1 w) fun o3 w1 => oc o3 (
    some ((-1 : Int32), w1)) fun l4 =>
    bd (fX6_turn l4 w1) fun _ w5 =>
    bd (fX1_size l4 w5) fun v10 w8 =>
    some (v10, w8)
theorem YX7_reverses : zYV yX7_reverses MX7_reverses 1 := ⟨wk_530, wk_1, ⟨wk_528, wk_529⟩, ⟨by decide, by decide, by decide +kernel⟩, rfl, rfl⟩
set_option maxHeartbeats 4000000 in
set_option maxRecDepth 100000 in
theorem tX7_reverses (a1 : Int32) (w : zW) : Sm yX7_reverses MX7_reverses zi [.ref 0, .int a1] w (fX7_reverses a1 w) := by
  refine Sm_of (lv0 := [(0, .ref 0), (1, .int a1)]) (by decide) rfl (fun _ => Nat.le_of_ble_eq_true rfl) rfl ?_
  unfold fX7_reverses
  refine tz_aload_n 0 rfl (zd DX7_reverses 0 rfl) ?_
  refine tz_iload_n 1 rfl (zd DX7_reverses 1 rfl) ?_
  refine tz_cV_o kz7 (zs_0) rfl (rest := []) (YX7_lineAt) wk_226 (tX7_lineAt a1 w) rfl rfl (Nat.le_of_ble_eq_true rfl) ⟨Nat.le_of_ble_eq_true rfl, Nat.le_of_ble_eq_true rfl⟩ (zd DX7_reverses 2 rfl) (fun w1 e2 => ?_) (fun l4 w1 e2 => ?_)
  · refine tz_astore_nN [(2, .null), (0, .ref 0), (1, .int a1)] (Nat.le_of_ble_eq_true rfl) rfl (zd DX7_reverses 3 rfl) ?_
    refine tz_aload_nN 0 rfl (zd DX7_reverses 4 rfl) ?_
    refine tz_ifnonnullN (zd DX7_reverses 5 rfl) ?_
    refine tz_iconst (-1 : Int32) zk_iconst_m1 (zd DX7_reverses 6 rfl) ?_
    exact tz_iret rfl (zd DX7_reverses 7 rfl)
  refine tz_astore_n [(2, .ref l4), (0, .ref 0), (1, .int a1)] (Nat.le_of_ble_eq_true rfl) rfl (zd DX7_reverses 3 rfl) ?_
  refine tz_aload_n 0 rfl (zd DX7_reverses 4 rfl) ?_
  refine tz_ifnonnull 12 (zd DX7_reverses 5 rfl) rfl ?_
  refine tz_aload_n 1 rfl (zd DX7_reverses 8 rfl) ?_
  refine tz_getR 4 1 kz7 (zs_0) (by decide) (by decide) rfl wk_185 (zd DX7_reverses 9 rfl) ?_
  refine tz_aload_n 0 rfl (zd DX7_reverses 10 rfl) ?_
  refine tz_cVN_n kz6 (zs_4) rfl (rest := []) (YX6_turn) wn_531 (tX6_turn l4 (fX7_lineAt_c e2) w1) rfl rfl (Nat.le_of_ble_eq_true rfl) ⟨Nat.le_of_ble_eq_true rfl, Nat.le_of_ble_eq_true rfl⟩ (zd DX7_reverses 11 rfl) (fun v7 w5 e6 => ?_)
  refine tz_aload_n 0 rfl (zd DX7_reverses 12 rfl) ?_
  refine tz_cVN_i kz1 (fX7_lineAt_c e2) rfl (rest := []) (YX1_size) wn_486 (tX1_size l4 (fX7_lineAt_c e2) w5) rfl rfl (Nat.le_of_ble_eq_true rfl) ⟨Nat.le_of_ble_eq_true rfl, Nat.le_of_ble_eq_true rfl⟩ (zd DX7_reverses 13 rfl) (fun v10 w8 e9 => ?_)
  exact tz_iret rfl (zd DX7_reverses 14 rfl)
def QX7_changes : List (Nat × Instr × Nat) := [(0, .aload_n 0, 1), (1, .iload_n 1, 1), (2, .invokevirtual 158, 3), (5, .astore 4, 2), (7, .aload 4, 2), (9, .ifnull 10, 3), (12, .iload_n 3, 1), (13, .invokestatic 105, 3), (16, .ifCond .ne 5, 3), (19, .iconst (-1), 1), (20, .ireturn, 1), (21, .iload_n 2, 1), (22, .ifCond .lt 12, 3), (25, .iload_n 2, 1), (26, .aload 4, 2), (28, .invokevirtual 165, 3), (31, .if_icmp .lt 6, 3), (34, .bipush (-2), 2), (36, .ireturn, 1), (37, .aload 4, 2), (39, .iload_n 2, 1), (40, .invokevirtual 189, 3), (43, .istore 5, 2), (45, .iload 5, 2), (47, .iload_n 3, 1), (48, .if_icmp .ne 6, 3), (51, .bipush (-4), 2), (53, .ireturn, 1), (54, .aload_n 0, 1), (55, .getfield 21, 3), (58, .getfield 172, 3), (61, .istore 6, 2), (63, .aload 4, 2), (65, .iload_n 2, 1), (66, .invokevirtual 192, 3), (69, .istore 7, 2), (71, .aload 4, 2), (73, .iload_n 2, 1), (74, .invokevirtual 195, 3), (77, .istore 8, 2), (79, .aload_n 0, 1), (80, .getfield 21, 3), (83, .aload 4, 2), (85, .iload 7, 2), (87, .invokevirtual 198, 3), (90, .iload 7, 2), (92, .iload 8, 2), (94, .iload_n 3, 1), (95, .iload 8, 2), (97, .iconst 1, 1), (98, .iadd, 1), (99, .invokevirtual 202, 3), (102, .aload_n 0, 1), (103, .aload_n 0, 1), (104, .getfield 21, 3), (107, .getfield 172, 3), (110, .iload 6, 2), (112, .isub, 1), (113, .i2l, 1), (114, .invokevirtual 148, 3), (117, .iload 5, 2), (119, .ireturn, 1)]
set_option maxRecDepth 100000 in
theorem DX7_changes : ∀ q ∈ QX7_changes, decode cX7_changes q.1 = .ok (q.2.1, q.2.2) := by decide +kernel
abbrev MX7_changes : zM := (cX7_changes, "EndSums", 9, (some .int), { frames := 4, cells := 0, slots := 0, locals := 115 })
def fX7_changes (a1 : Int32) (a2 : Int32) (a3 : Int32) (w : zW) : Option (Int32 × zW) :=
  bd (fX7_lineAt a1 w) fun o3 w1 => oc o3 (
    some ((-1 : Int32), w1)) fun l4 =>
    bd (fX7_isItem a3 w1) fun b7 w5 =>
    if b7 = true then
      if a2 < (0 : Int32) then
        some ((-2 : Int32), w5)
      else
      bd (fX1_size l4 w5) fun v12 w10 =>
      if a2 < v12 then
        bd (fX1_itemAt l4 a2 w10) fun v16 w14 =>
        if ¬ v16 = a3 then
          lt (zI w14 4 1) fun v18 =>
          bd (fX1_endOf l4 a2 w14) fun v21 w19 =>
          bd (fX1_heightOf l4 a2 w19) fun v24 w22 =>
          bd (fX1_pile l4 v21 w22) fun v27 w25 =>
          bd (fX6_remake v27 v21 v24 a3 (v24 + (1 : Int32)) w25) fun _ w28 =>
          bd (fX7_tell ((zI w28 4 1) - v18).toInt64 w28) fun _ w31 =>
          some (v16, w31)
        else
        some ((-4 : Int32), w14)
      else
      some ((-2 : Int32), w10)
    else
    some ((-1 : Int32), w5)
theorem YX7_changes : zYV yX7_changes MX7_changes 3 := ⟨wk_538, wk_1, ⟨wk_536, wk_537⟩, ⟨by decide, by decide, by decide +kernel⟩, rfl, rfl⟩
set_option maxHeartbeats 4000000 in
set_option maxRecDepth 100000 in
theorem tX7_changes (a1 : Int32) (a2 : Int32) (a3 : Int32) (w : zW) : Sm yX7_changes MX7_changes zi [.ref 0, .int a1, .int a2, .int a3] w (fX7_changes a1 a2 a3 w) := by
  refine Sm_of (lv0 := [(0, .ref 0), (1, .int a1), (2, .int a2), (3, .int a3)]) (by decide) rfl (fun _ => Nat.le_of_ble_eq_true rfl) rfl ?_
  unfold fX7_changes
  refine tz_aload_n 0 rfl (zd DX7_changes 0 rfl) ?_
  refine tz_iload_n 1 rfl (zd DX7_changes 1 rfl) ?_
  refine tz_cV_o kz7 (zs_0) rfl (rest := []) (YX7_lineAt) wk_226 (tX7_lineAt a1 w) rfl rfl (Nat.le_of_ble_eq_true rfl) ⟨Nat.le_of_ble_eq_true rfl, Nat.le_of_ble_eq_true rfl⟩ (zd DX7_changes 2 rfl) (fun w1 e2 => ?_) (fun l4 w1 e2 => ?_)
  · refine tz_astoreN [(4, .null), (0, .ref 0), (1, .int a1), (2, .int a2), (3, .int a3)] (Nat.le_of_ble_eq_true rfl) rfl (zd DX7_changes 3 rfl) ?_
    refine tz_aloadN 0 rfl (zd DX7_changes 4 rfl) ?_
    refine tz_ifnullN 19 (zd DX7_changes 5 rfl) rfl ?_
    refine tz_iconst (-1 : Int32) zk_iconst_m1 (zd DX7_changes 9 rfl) ?_
    exact tz_iret rfl (zd DX7_changes 10 rfl)
  refine tz_astore [(4, .ref l4), (0, .ref 0), (1, .int a1), (2, .int a2), (3, .int a3)] (Nat.le_of_ble_eq_true rfl) rfl (zd DX7_changes 3 rfl) ?_
  refine tz_aload 0 rfl (zd DX7_changes 4 rfl) ?_
  refine tz_ifnull (zd DX7_changes 5 rfl) ?_
  refine tz_iload_n 4 rfl (zd DX7_changes 6 rfl) ?_
  refine tz_cS_z (rest := []) (YX7_isItem) wk_408 (tX7_isItem a3 w1) rfl rfl (Nat.le_of_ble_eq_true rfl) ⟨Nat.le_of_ble_eq_true rfl, Nat.le_of_ble_eq_true rfl⟩ (zd DX7_changes 7 rfl) (fun b7 w5 e6 => ?_)
  refine tz_bif_ne 21 (zd DX7_changes 8 rfl) rfl (fun q8 => ?_) (fun q8 => ?_)
  · refine tz_iload_n 3 rfl (zd DX7_changes 11 rfl) ?_
    refine tz_if_lt 34 (zd DX7_changes 12 rfl) rfl (fun q9 => ?_) (fun q9 => ?_)
    · refine tz_bipush (-2 : Int32) zk_bipush_m2 (zd DX7_changes 17 rfl) ?_
      exact tz_iret rfl (zd DX7_changes 18 rfl)
    refine tz_iload_n 3 rfl (zd DX7_changes 13 rfl) ?_
    refine tz_aload 0 rfl (zd DX7_changes 14 rfl) ?_
    refine tz_cVN_i kz1 (fX7_lineAt_c e2) rfl (rest := [.int a2]) (YX1_size) wn_486 (tX1_size l4 (fX7_lineAt_c e2) w5) rfl rfl (Nat.le_of_ble_eq_true rfl) ⟨Nat.le_of_ble_eq_true rfl, Nat.le_of_ble_eq_true rfl⟩ (zd DX7_changes 15 rfl) (fun v12 w10 e11 => ?_)
    refine tz_icmp_lt 37 (zd DX7_changes 16 rfl) rfl (fun q13 => ?_) (fun q13 => ?_)
    · refine tz_aload 0 rfl (zd DX7_changes 19 rfl) ?_
      refine tz_iload_n 3 rfl (zd DX7_changes 20 rfl) ?_
      refine tz_cVN_i kz1 (fX7_lineAt_c e2) rfl (rest := []) (YX1_itemAt) wn_539 (tX1_itemAt l4 (fX7_lineAt_c e2) a2 w10) rfl rfl (Nat.le_of_ble_eq_true rfl) ⟨Nat.le_of_ble_eq_true rfl, Nat.le_of_ble_eq_true rfl⟩ (zd DX7_changes 21 rfl) (fun v16 w14 e15 => ?_)
      refine tz_istore [(5, .int v16), (4, .ref l4), (0, .ref 0), (1, .int a1), (2, .int a2), (3, .int a3)] (Nat.le_of_ble_eq_true rfl) rfl (zd DX7_changes 22 rfl) ?_
      refine tz_iload 0 rfl (zd DX7_changes 23 rfl) ?_
      refine tz_iload_n 5 rfl (zd DX7_changes 24 rfl) ?_
      refine tz_icmp_ne 54 (zd DX7_changes 25 rfl) rfl (fun q17 => ?_) (fun q17 => ?_)
      · refine tz_aload_n 2 rfl (zd DX7_changes 28 rfl) ?_
        refine tz_getR 4 1 kz7 (zs_0) (by decide) (by decide) rfl wk_185 (zd DX7_changes 29 rfl) ?_
        refine tz_getIN 1 kz6 (zs_4) (by decide) rfl wn_77 (zd DX7_changes 30 rfl) ?_
        refine tz_lti (fun v18 => ?_)
        refine tz_istore [(6, .int v18), (5, .int v16), (4, .ref l4), (0, .ref 0), (1, .int a1), (2, .int a2), (3, .int a3)] (Nat.le_of_ble_eq_true rfl) rfl (zd DX7_changes 31 rfl) ?_
        refine tz_aload 2 rfl (zd DX7_changes 32 rfl) ?_
        refine tz_iload_n 5 rfl (zd DX7_changes 33 rfl) ?_
        refine tz_cVN_i kz1 (fX7_lineAt_c e2) rfl (rest := []) (YX1_endOf) wn_540 (tX1_endOf l4 (fX7_lineAt_c e2) a2 w14) rfl rfl (Nat.le_of_ble_eq_true rfl) ⟨Nat.le_of_ble_eq_true rfl, Nat.le_of_ble_eq_true rfl⟩ (zd DX7_changes 34 rfl) (fun v21 w19 e20 => ?_)
        refine tz_istore [(7, .int v21), (6, .int v18), (5, .int v16), (4, .ref l4), (0, .ref 0), (1, .int a1), (2, .int a2), (3, .int a3)] (Nat.le_of_ble_eq_true rfl) rfl (zd DX7_changes 35 rfl) ?_
        refine tz_aload 3 rfl (zd DX7_changes 36 rfl) ?_
        refine tz_iload_n 6 rfl (zd DX7_changes 37 rfl) ?_
        refine tz_cVN_i kz1 (fX7_lineAt_c e2) rfl (rest := []) (YX1_heightOf) wn_541 (tX1_heightOf l4 (fX7_lineAt_c e2) a2 w19) rfl rfl (Nat.le_of_ble_eq_true rfl) ⟨Nat.le_of_ble_eq_true rfl, Nat.le_of_ble_eq_true rfl⟩ (zd DX7_changes 38 rfl) (fun v24 w22 e23 => ?_)
        refine tz_istore [(8, .int v24), (7, .int v21), (6, .int v18), (5, .int v16), (4, .ref l4), (0, .ref 0), (1, .int a1), (2, .int a2), (3, .int a3)] (Nat.le_of_ble_eq_true rfl) rfl (zd DX7_changes 39 rfl) ?_
        refine tz_aload_n 5 rfl (zd DX7_changes 40 rfl) ?_
        refine tz_getR 4 1 kz7 (zs_0) (by decide) (by decide) rfl wk_185 (zd DX7_changes 41 rfl) ?_
        refine tz_aload 4 rfl (zd DX7_changes 42 rfl) ?_
        refine tz_iload 1 rfl (zd DX7_changes 43 rfl) ?_
        refine tz_cVN_q kz1 (fX7_lineAt_c e2) rfl (rest := [.ref 4]) (YX1_pile) wn_542 (tX1_pile l4 (fX7_lineAt_c e2) v21 w22) rfl rfl (Nat.le_of_ble_eq_true rfl) ⟨Nat.le_of_ble_eq_true rfl, Nat.le_of_ble_eq_true rfl⟩ (zd DX7_changes 44 rfl) (fun v27 w25 e26 => ?_)
        refine tz_iload 1 rfl (zd DX7_changes 45 rfl) ?_
        refine tz_iload 0 rfl (zd DX7_changes 46 rfl) ?_
        refine tz_iload_n 8 rfl (zd DX7_changes 47 rfl) ?_
        refine tz_iload 0 rfl (zd DX7_changes 48 rfl) ?_
        refine tz_iconst (1 : Int32) zk_iconst_1 (zd DX7_changes 49 rfl) ?_
        refine tz_iadd (zd DX7_changes 50 rfl) ?_
        refine tz_cVN_n kz6 (zs_4) rfl (rest := []) (YX6_remake) wn_543 (tX6_remake v27 (fX1_pile_c (fX7_lineAt_c e2) e26) v21 v24 a3 (v24 + (1 : Int32)) w25) rfl rfl (Nat.le_of_ble_eq_true rfl) ⟨Nat.le_of_ble_eq_true rfl, Nat.le_of_ble_eq_true rfl⟩ (zd DX7_changes 51 rfl) (fun v30 w28 e29 => ?_)
        refine tz_aload_n 5 rfl (zd DX7_changes 52 rfl) ?_
        refine tz_aload_n 5 rfl (zd DX7_changes 53 rfl) ?_
        refine tz_getR 4 1 kz7 (zs_0) (by decide) (by decide) rfl wk_185 (zd DX7_changes 54 rfl) ?_
        refine tz_getIN 1 kz6 (zs_4) (by decide) rfl wn_77 (zd DX7_changes 55 rfl) ?_
        refine tz_iload 2 rfl (zd DX7_changes 56 rfl) ?_
        refine tz_isub (zd DX7_changes 57 rfl) ?_
        refine tz_i2l (zd DX7_changes 58 rfl) ?_
        refine tz_cV_n kz7 (zs_0) rfl (rest := []) (YX7_tell) wk_391 (tX7_tell ((zI w28 4 1) - v18).toInt64 w28) rfl rfl (Nat.le_of_ble_eq_true rfl) ⟨Nat.le_of_ble_eq_true rfl, Nat.le_of_ble_eq_true rfl⟩ (zd DX7_changes 59 rfl) (fun v33 w31 e32 => ?_)
        refine tz_iload 3 rfl (zd DX7_changes 60 rfl) ?_
        exact tz_iret rfl (zd DX7_changes 61 rfl)
      refine tz_bipush (-4 : Int32) zk_bipush_m4 (zd DX7_changes 26 rfl) ?_
      exact tz_iret rfl (zd DX7_changes 27 rfl)
    refine tz_bipush (-2 : Int32) zk_bipush_m2 (zd DX7_changes 17 rfl) ?_
    exact tz_iret rfl (zd DX7_changes 18 rfl)
  refine tz_iconst (-1 : Int32) zk_iconst_m1 (zd DX7_changes 9 rfl) ?_
  exact tz_iret rfl (zd DX7_changes 10 rfl)
def QX7_slips : List (Nat × Instr × Nat) := [(0, .aload_n 0, 1), (1, .iload_n 1, 1), (2, .invokevirtual 158, 3), (5, .astore 4, 2), (7, .aload 4, 2), (9, .ifnull 10, 3), (12, .iload_n 3, 1), (13, .invokestatic 105, 3), (16, .ifCond .ne 5, 3), (19, .iconst (-1), 1), (20, .ireturn, 1), (21, .iload_n 2, 1), (22, .ifCond .lt 12, 3), (25, .iload_n 2, 1), (26, .aload 4, 2), (28, .invokevirtual 165, 3), (31, .if_icmp .le 6, 3), (34, .bipush (-2), 2), (36, .ireturn, 1), (37, .aload 4, 2), (39, .invokevirtual 165, 3), (42, .bipush 64, 2), (44, .if_icmp .lt 6, 3), (47, .bipush (-3), 2), (49, .ireturn, 1), (50, .aload_n 0, 1), (51, .getfield 21, 3), (54, .getfield 172, 3), (57, .istore 5, 2), (59, .aload 4, 2), (61, .iload_n 2, 1), (62, .invokevirtual 192, 3), (65, .istore 6, 2), (67, .iload 6, 2), (69, .ifCond .ne 14, 3), (72, .aload 4, 2), (74, .iload_n 2, 1), (75, .invokevirtual 195, 3), (78, .iconst 1, 1), (79, .iadd, 1), (80, .goto 9, 3), (83, .aload 4, 2), (85, .iload_n 2, 1), (86, .invokevirtual 195, 3), (89, .istore 7, 2), (91, .aload_n 0, 1), (92, .getfield 21, 3), (95, .aload 4, 2), (97, .iload 6, 2), (99, .invokevirtual 198, 3), (102, .iload 6, 2), (104, .iload 7, 2), (106, .iload_n 3, 1), (107, .iload 7, 2), (109, .invokevirtual 202, 3), (112, .aload_n 0, 1), (113, .aload_n 0, 1), (114, .getfield 21, 3), (117, .getfield 172, 3), (120, .iload 5, 2), (122, .isub, 1), (123, .i2l, 1), (124, .invokevirtual 148, 3), (127, .aload 4, 2), (129, .invokevirtual 165, 3), (132, .ireturn, 1)]
set_option maxRecDepth 100000 in
theorem DX7_slips : ∀ q ∈ QX7_slips, decode cX7_slips q.1 = .ok (q.2.1, q.2.2) := by decide +kernel
abbrev MX7_slips : zM := (cX7_slips, "EndSums", 8, (some .int), { frames := 4, cells := 0, slots := 0, locals := 115 })
def fX7_slips (a1 : Int32) (a2 : Int32) (a3 : Int32) (w : zW) : Option (Int32 × zW) :=
  bd (fX7_lineAt a1 w) fun o3 w1 => oc o3 (
    some ((-1 : Int32), w1)) fun l4 =>
    bd (fX7_isItem a3 w1) fun b7 w5 =>
    if b7 = true then
      if a2 < (0 : Int32) then
        some ((-2 : Int32), w5)
      else
      bd (fX1_size l4 w5) fun v12 w10 =>
      if a2 ≤ v12 then
        bd (fX1_size l4 w10) fun v16 w14 =>
        if v16 < (64 : Int32) then
          lt (zI w14 4 1) fun v18 =>
          bd (fX1_endOf l4 a2 w14) fun v21 w19 =>
          lt (fun (s_89 : Int32) (w23 : zW) =>
            bd (fX1_pile l4 v21 w23) fun v26 w24 =>
            bd (fX6_remake v26 v21 s_89 a3 s_89 w24) fun _ w27 =>
            bd (fX7_tell ((zI w27 4 1) - v18).toInt64 w27) fun _ w30 =>
            bd (fX1_size l4 w30) fun v35 w33 =>
            some (v35, w33)) fun j23 =>
          if ¬ v21 = (0 : Int32) then
            bd (fX1_heightOf l4 a2 w19) fun v39 w37 =>
            j23 v39 w37
          else
          bd (fX1_heightOf l4 a2 w19) fun v42 w40 =>
          j23 (v42 + (1 : Int32)) w40
        else
        some ((-3 : Int32), w14)
      else
      some ((-2 : Int32), w10)
    else
    some ((-1 : Int32), w5)
theorem YX7_slips : zYV yX7_slips MX7_slips 3 := ⟨wk_550, wk_1, ⟨wk_548, wk_549⟩, ⟨by decide, by decide, by decide +kernel⟩, rfl, rfl⟩
set_option maxHeartbeats 4000000 in
set_option maxRecDepth 100000 in
theorem tX7_slips (a1 : Int32) (a2 : Int32) (a3 : Int32) (w : zW) : Sm yX7_slips MX7_slips zi [.ref 0, .int a1, .int a2, .int a3] w (fX7_slips a1 a2 a3 w) := by
  refine Sm_of (lv0 := [(0, .ref 0), (1, .int a1), (2, .int a2), (3, .int a3)]) (by decide) rfl (fun _ => Nat.le_of_ble_eq_true rfl) rfl ?_
  unfold fX7_slips
  refine tz_aload_n 0 rfl (zd DX7_slips 0 rfl) ?_
  refine tz_iload_n 1 rfl (zd DX7_slips 1 rfl) ?_
  refine tz_cV_o kz7 (zs_0) rfl (rest := []) (YX7_lineAt) wk_226 (tX7_lineAt a1 w) rfl rfl (Nat.le_of_ble_eq_true rfl) ⟨Nat.le_of_ble_eq_true rfl, Nat.le_of_ble_eq_true rfl⟩ (zd DX7_slips 2 rfl) (fun w1 e2 => ?_) (fun l4 w1 e2 => ?_)
  · refine tz_astoreN [(4, .null), (0, .ref 0), (1, .int a1), (2, .int a2), (3, .int a3)] (Nat.le_of_ble_eq_true rfl) rfl (zd DX7_slips 3 rfl) ?_
    refine tz_aloadN 0 rfl (zd DX7_slips 4 rfl) ?_
    refine tz_ifnullN 19 (zd DX7_slips 5 rfl) rfl ?_
    refine tz_iconst (-1 : Int32) zk_iconst_m1 (zd DX7_slips 9 rfl) ?_
    exact tz_iret rfl (zd DX7_slips 10 rfl)
  refine tz_astore [(4, .ref l4), (0, .ref 0), (1, .int a1), (2, .int a2), (3, .int a3)] (Nat.le_of_ble_eq_true rfl) rfl (zd DX7_slips 3 rfl) ?_
  refine tz_aload 0 rfl (zd DX7_slips 4 rfl) ?_
  refine tz_ifnull (zd DX7_slips 5 rfl) ?_
  refine tz_iload_n 4 rfl (zd DX7_slips 6 rfl) ?_
  refine tz_cS_z (rest := []) (YX7_isItem) wk_408 (tX7_isItem a3 w1) rfl rfl (Nat.le_of_ble_eq_true rfl) ⟨Nat.le_of_ble_eq_true rfl, Nat.le_of_ble_eq_true rfl⟩ (zd DX7_slips 7 rfl) (fun b7 w5 e6 => ?_)
  refine tz_bif_ne 21 (zd DX7_slips 8 rfl) rfl (fun q8 => ?_) (fun q8 => ?_)
  · refine tz_iload_n 3 rfl (zd DX7_slips 11 rfl) ?_
    refine tz_if_lt 34 (zd DX7_slips 12 rfl) rfl (fun q9 => ?_) (fun q9 => ?_)
    · refine tz_bipush (-2 : Int32) zk_bipush_m2 (zd DX7_slips 17 rfl) ?_
      exact tz_iret rfl (zd DX7_slips 18 rfl)
    refine tz_iload_n 3 rfl (zd DX7_slips 13 rfl) ?_
    refine tz_aload 0 rfl (zd DX7_slips 14 rfl) ?_
    refine tz_cVN_i kz1 (fX7_lineAt_c e2) rfl (rest := [.int a2]) (YX1_size) wn_486 (tX1_size l4 (fX7_lineAt_c e2) w5) rfl rfl (Nat.le_of_ble_eq_true rfl) ⟨Nat.le_of_ble_eq_true rfl, Nat.le_of_ble_eq_true rfl⟩ (zd DX7_slips 15 rfl) (fun v12 w10 e11 => ?_)
    refine tz_icmp_le 37 (zd DX7_slips 16 rfl) rfl (fun q13 => ?_) (fun q13 => ?_)
    · refine tz_aload 0 rfl (zd DX7_slips 19 rfl) ?_
      refine tz_cVN_i kz1 (fX7_lineAt_c e2) rfl (rest := []) (YX1_size) wn_486 (tX1_size l4 (fX7_lineAt_c e2) w10) rfl rfl (Nat.le_of_ble_eq_true rfl) ⟨Nat.le_of_ble_eq_true rfl, Nat.le_of_ble_eq_true rfl⟩ (zd DX7_slips 20 rfl) (fun v16 w14 e15 => ?_)
      refine tz_bipush (64 : Int32) zk_bipush_64 (zd DX7_slips 21 rfl) ?_
      refine tz_icmp_lt 50 (zd DX7_slips 22 rfl) rfl (fun q17 => ?_) (fun q17 => ?_)
      · refine tz_aload_n 1 rfl (zd DX7_slips 25 rfl) ?_
        refine tz_getR 4 1 kz7 (zs_0) (by decide) (by decide) rfl wk_185 (zd DX7_slips 26 rfl) ?_
        refine tz_getIN 1 kz6 (zs_4) (by decide) rfl wn_77 (zd DX7_slips 27 rfl) ?_
        refine tz_lti (fun v18 => ?_)
        refine tz_istore [(5, .int v18), (4, .ref l4), (0, .ref 0), (1, .int a1), (2, .int a2), (3, .int a3)] (Nat.le_of_ble_eq_true rfl) rfl (zd DX7_slips 28 rfl) ?_
        refine tz_aload 1 rfl (zd DX7_slips 29 rfl) ?_
        refine tz_iload_n 4 rfl (zd DX7_slips 30 rfl) ?_
        refine tz_cVN_i kz1 (fX7_lineAt_c e2) rfl (rest := []) (YX1_endOf) wn_540 (tX1_endOf l4 (fX7_lineAt_c e2) a2 w14) rfl rfl (Nat.le_of_ble_eq_true rfl) ⟨Nat.le_of_ble_eq_true rfl, Nat.le_of_ble_eq_true rfl⟩ (zd DX7_slips 31 rfl) (fun v21 w19 e20 => ?_)
        refine tz_istore [(6, .int v21), (5, .int v18), (4, .ref l4), (0, .ref 0), (1, .int a1), (2, .int a2), (3, .int a3)] (Nat.le_of_ble_eq_true rfl) rfl (zd DX7_slips 32 rfl) ?_
        refine tz_iload 0 rfl (zd DX7_slips 33 rfl) ?_
        refine tz_jp (P := fun j => ∀ (s_89 : Int32) (w23 : zW), Tz MX7_slips (zRet zi) (j s_89 w23) 89 [(0, .ref 0), (3, .int a3), (4, .ref l4), (5, .int v18), (6, .int v21)] [.int s_89] w23) ?_ (fun j23 hj23 => ?_)
        · intro s_89 w23
          refine tz_istore [(7, .int s_89), (0, .ref 0), (3, .int a3), (4, .ref l4), (5, .int v18), (6, .int v21)] (Nat.le_of_ble_eq_true rfl) rfl (zd DX7_slips 44 rfl) ?_
          refine tz_aload_n 1 rfl (zd DX7_slips 45 rfl) ?_
          refine tz_getR 4 1 kz7 (zs_0) (by decide) (by decide) rfl wk_185 (zd DX7_slips 46 rfl) ?_
          refine tz_aload 3 rfl (zd DX7_slips 47 rfl) ?_
          refine tz_iload 5 rfl (zd DX7_slips 48 rfl) ?_
          refine tz_cVN_q kz1 (fX7_lineAt_c e2) rfl (rest := [.ref 4]) (YX1_pile) wn_542 (tX1_pile l4 (fX7_lineAt_c e2) v21 w23) rfl rfl (Nat.le_of_ble_eq_true rfl) ⟨Nat.le_of_ble_eq_true rfl, Nat.le_of_ble_eq_true rfl⟩ (zd DX7_slips 49 rfl) (fun v26 w24 e25 => ?_)
          refine tz_iload 5 rfl (zd DX7_slips 50 rfl) ?_
          refine tz_iload 0 rfl (zd DX7_slips 51 rfl) ?_
          refine tz_iload_n 2 rfl (zd DX7_slips 52 rfl) ?_
          refine tz_iload 0 rfl (zd DX7_slips 53 rfl) ?_
          refine tz_cVN_n kz6 (zs_4) rfl (rest := []) (YX6_remake) wn_543 (tX6_remake v26 (fX1_pile_c (fX7_lineAt_c e2) e25) v21 s_89 a3 s_89 w24) rfl rfl (Nat.le_of_ble_eq_true rfl) ⟨Nat.le_of_ble_eq_true rfl, Nat.le_of_ble_eq_true rfl⟩ (zd DX7_slips 54 rfl) (fun v29 w27 e28 => ?_)
          refine tz_aload_n 1 rfl (zd DX7_slips 55 rfl) ?_
          refine tz_aload_n 1 rfl (zd DX7_slips 56 rfl) ?_
          refine tz_getR 4 1 kz7 (zs_0) (by decide) (by decide) rfl wk_185 (zd DX7_slips 57 rfl) ?_
          refine tz_getIN 1 kz6 (zs_4) (by decide) rfl wn_77 (zd DX7_slips 58 rfl) ?_
          refine tz_iload 4 rfl (zd DX7_slips 59 rfl) ?_
          refine tz_isub (zd DX7_slips 60 rfl) ?_
          refine tz_i2l (zd DX7_slips 61 rfl) ?_
          refine tz_cV_n kz7 (zs_0) rfl (rest := []) (YX7_tell) wk_391 (tX7_tell ((zI w27 4 1) - v18).toInt64 w27) rfl rfl (Nat.le_of_ble_eq_true rfl) ⟨Nat.le_of_ble_eq_true rfl, Nat.le_of_ble_eq_true rfl⟩ (zd DX7_slips 62 rfl) (fun v32 w30 e31 => ?_)
          refine tz_aload 3 rfl (zd DX7_slips 63 rfl) ?_
          refine tz_cVN_i kz1 (fX7_lineAt_c e2) rfl (rest := []) (YX1_size) wn_486 (tX1_size l4 (fX7_lineAt_c e2) w30) rfl rfl (Nat.le_of_ble_eq_true rfl) ⟨Nat.le_of_ble_eq_true rfl, Nat.le_of_ble_eq_true rfl⟩ (zd DX7_slips 64 rfl) (fun v35 w33 e34 => ?_)
          exact tz_iret rfl (zd DX7_slips 65 rfl)
        refine tz_if_ne 83 (zd DX7_slips 34 rfl) rfl (fun q36 => ?_) (fun q36 => ?_)
        · refine tz_aload 2 rfl (zd DX7_slips 41 rfl) ?_
          refine tz_iload_n 5 rfl (zd DX7_slips 42 rfl) ?_
          refine tz_cVN_i kz1 (fX7_lineAt_c e2) rfl (rest := []) (YX1_heightOf) wn_541 (tX1_heightOf l4 (fX7_lineAt_c e2) a2 w19) rfl rfl (Nat.le_of_ble_eq_true rfl) ⟨Nat.le_of_ble_eq_true rfl, Nat.le_of_ble_eq_true rfl⟩ (zd DX7_slips 43 rfl) (fun v39 w37 e38 => ?_)
          refine tz_lv (lv2 := [(0, .ref 0), (3, .int a3), (4, .ref l4), (5, .int v18), (6, .int v21)]) [3, 6, 2, 1, 0] rfl ?_
          exact hj23 v39 w37
        refine tz_aload 2 rfl (zd DX7_slips 35 rfl) ?_
        refine tz_iload_n 5 rfl (zd DX7_slips 36 rfl) ?_
        refine tz_cVN_i kz1 (fX7_lineAt_c e2) rfl (rest := []) (YX1_heightOf) wn_541 (tX1_heightOf l4 (fX7_lineAt_c e2) a2 w19) rfl rfl (Nat.le_of_ble_eq_true rfl) ⟨Nat.le_of_ble_eq_true rfl, Nat.le_of_ble_eq_true rfl⟩ (zd DX7_slips 37 rfl) (fun v42 w40 e41 => ?_)
        refine tz_iconst (1 : Int32) zk_iconst_1 (zd DX7_slips 38 rfl) ?_
        refine tz_iadd (zd DX7_slips 39 rfl) ?_
        refine tz_goto 89 (zd DX7_slips 40 rfl) rfl ?_
        refine tz_lv (lv2 := [(0, .ref 0), (3, .int a3), (4, .ref l4), (5, .int v18), (6, .int v21)]) [3, 6, 2, 1, 0] rfl ?_
        exact hj23 (v42 + (1 : Int32)) w40
      refine tz_bipush (-3 : Int32) zk_bipush_m3 (zd DX7_slips 23 rfl) ?_
      exact tz_iret rfl (zd DX7_slips 24 rfl)
    refine tz_bipush (-2 : Int32) zk_bipush_m2 (zd DX7_slips 17 rfl) ?_
    exact tz_iret rfl (zd DX7_slips 18 rfl)
  refine tz_iconst (-1 : Int32) zk_iconst_m1 (zd DX7_slips 9 rfl) ?_
  exact tz_iret rfl (zd DX7_slips 10 rfl)
def QX7_drops : List (Nat × Instr × Nat) := [(0, .aload_n 0, 1), (1, .iload_n 1, 1), (2, .invokevirtual 158, 3), (5, .astore_n 3, 1), (6, .aload_n 3, 1), (7, .ifnonnull 5, 3), (10, .iconst (-1), 1), (11, .ireturn, 1), (12, .iload_n 2, 1), (13, .ifCond .lt 11, 3), (16, .iload_n 2, 1), (17, .aload_n 3, 1), (18, .invokevirtual 165, 3), (21, .if_icmp .lt 6, 3), (24, .bipush (-2), 2), (26, .ireturn, 1), (27, .aload_n 3, 1), (28, .iload_n 2, 1), (29, .invokevirtual 189, 3), (32, .istore 4, 2), (34, .aload_n 0, 1), (35, .getfield 21, 3), (38, .getfield 172, 3), (41, .istore 5, 2), (43, .aload_n 3, 1), (44, .iload_n 2, 1), (45, .invokevirtual 192, 3), (48, .istore 6, 2), (50, .aload_n 3, 1), (51, .iload_n 2, 1), (52, .invokevirtual 195, 3), (55, .istore 7, 2), (57, .aload_n 0, 1), (58, .getfield 21, 3), (61, .aload_n 3, 1), (62, .iload 6, 2), (64, .invokevirtual 198, 3), (67, .iload 6, 2), (69, .iload 7, 2), (71, .iconst (-1), 1), (72, .iload 7, 2), (74, .iconst 1, 1), (75, .iadd, 1), (76, .invokevirtual 202, 3), (79, .aload_n 0, 1), (80, .aload_n 0, 1), (81, .getfield 21, 3), (84, .getfield 172, 3), (87, .iload 5, 2), (89, .isub, 1), (90, .i2l, 1), (91, .invokevirtual 148, 3), (94, .iload 4, 2), (96, .ireturn, 1)]
set_option maxRecDepth 100000 in
theorem DX7_drops : ∀ q ∈ QX7_drops, decode cX7_drops q.1 = .ok (q.2.1, q.2.2) := by decide +kernel
abbrev MX7_drops : zM := (cX7_drops, "EndSums", 8, (some .int), { frames := 4, cells := 0, slots := 0, locals := 115 })
def fX7_drops (a1 : Int32) (a2 : Int32) (w : zW) : Option (Int32 × zW) :=
  bd (fX7_lineAt a1 w) fun o3 w1 => oc o3 (
    some ((-1 : Int32), w1)) fun l4 =>
    if a2 < (0 : Int32) then
      some ((-2 : Int32), w1)
    else
    bd (fX1_size l4 w1) fun v8 w6 =>
    if a2 < v8 then
      bd (fX1_itemAt l4 a2 w6) fun v12 w10 =>
      lt (zI w10 4 1) fun v13 =>
      bd (fX1_endOf l4 a2 w10) fun v16 w14 =>
      bd (fX1_heightOf l4 a2 w14) fun v19 w17 =>
      bd (fX1_pile l4 v16 w17) fun v22 w20 =>
      bd (fX6_remake v22 v16 v19 (-1 : Int32) (v19 + (1 : Int32)) w20) fun _ w23 =>
      bd (fX7_tell ((zI w23 4 1) - v13).toInt64 w23) fun _ w26 =>
      some (v12, w26)
    else
    some ((-2 : Int32), w6)
theorem YX7_drops : zYV yX7_drops MX7_drops 2 := ⟨wk_554, wk_1, ⟨wk_552, wk_553⟩, ⟨by decide, by decide, by decide +kernel⟩, rfl, rfl⟩
set_option maxHeartbeats 4000000 in
set_option maxRecDepth 100000 in
theorem tX7_drops (a1 : Int32) (a2 : Int32) (w : zW) : Sm yX7_drops MX7_drops zi [.ref 0, .int a1, .int a2] w (fX7_drops a1 a2 w) := by
  refine Sm_of (lv0 := [(0, .ref 0), (1, .int a1), (2, .int a2)]) (by decide) rfl (fun _ => Nat.le_of_ble_eq_true rfl) rfl ?_
  unfold fX7_drops
  refine tz_aload_n 0 rfl (zd DX7_drops 0 rfl) ?_
  refine tz_iload_n 1 rfl (zd DX7_drops 1 rfl) ?_
  refine tz_cV_o kz7 (zs_0) rfl (rest := []) (YX7_lineAt) wk_226 (tX7_lineAt a1 w) rfl rfl (Nat.le_of_ble_eq_true rfl) ⟨Nat.le_of_ble_eq_true rfl, Nat.le_of_ble_eq_true rfl⟩ (zd DX7_drops 2 rfl) (fun w1 e2 => ?_) (fun l4 w1 e2 => ?_)
  · refine tz_astore_nN [(3, .null), (0, .ref 0), (1, .int a1), (2, .int a2)] (Nat.le_of_ble_eq_true rfl) rfl (zd DX7_drops 3 rfl) ?_
    refine tz_aload_nN 0 rfl (zd DX7_drops 4 rfl) ?_
    refine tz_ifnonnullN (zd DX7_drops 5 rfl) ?_
    refine tz_iconst (-1 : Int32) zk_iconst_m1 (zd DX7_drops 6 rfl) ?_
    exact tz_iret rfl (zd DX7_drops 7 rfl)
  refine tz_astore_n [(3, .ref l4), (0, .ref 0), (1, .int a1), (2, .int a2)] (Nat.le_of_ble_eq_true rfl) rfl (zd DX7_drops 3 rfl) ?_
  refine tz_aload_n 0 rfl (zd DX7_drops 4 rfl) ?_
  refine tz_ifnonnull 12 (zd DX7_drops 5 rfl) rfl ?_
  refine tz_iload_n 3 rfl (zd DX7_drops 8 rfl) ?_
  refine tz_if_lt 24 (zd DX7_drops 9 rfl) rfl (fun q5 => ?_) (fun q5 => ?_)
  · refine tz_bipush (-2 : Int32) zk_bipush_m2 (zd DX7_drops 14 rfl) ?_
    exact tz_iret rfl (zd DX7_drops 15 rfl)
  refine tz_iload_n 3 rfl (zd DX7_drops 10 rfl) ?_
  refine tz_aload_n 0 rfl (zd DX7_drops 11 rfl) ?_
  refine tz_cVN_i kz1 (fX7_lineAt_c e2) rfl (rest := [.int a2]) (YX1_size) wn_486 (tX1_size l4 (fX7_lineAt_c e2) w1) rfl rfl (Nat.le_of_ble_eq_true rfl) ⟨Nat.le_of_ble_eq_true rfl, Nat.le_of_ble_eq_true rfl⟩ (zd DX7_drops 12 rfl) (fun v8 w6 e7 => ?_)
  refine tz_icmp_lt 27 (zd DX7_drops 13 rfl) rfl (fun q9 => ?_) (fun q9 => ?_)
  · refine tz_aload_n 0 rfl (zd DX7_drops 16 rfl) ?_
    refine tz_iload_n 3 rfl (zd DX7_drops 17 rfl) ?_
    refine tz_cVN_i kz1 (fX7_lineAt_c e2) rfl (rest := []) (YX1_itemAt) wn_539 (tX1_itemAt l4 (fX7_lineAt_c e2) a2 w6) rfl rfl (Nat.le_of_ble_eq_true rfl) ⟨Nat.le_of_ble_eq_true rfl, Nat.le_of_ble_eq_true rfl⟩ (zd DX7_drops 18 rfl) (fun v12 w10 e11 => ?_)
    refine tz_istore [(4, .int v12), (3, .ref l4), (0, .ref 0), (1, .int a1), (2, .int a2)] (Nat.le_of_ble_eq_true rfl) rfl (zd DX7_drops 19 rfl) ?_
    refine tz_aload_n 2 rfl (zd DX7_drops 20 rfl) ?_
    refine tz_getR 4 1 kz7 (zs_0) (by decide) (by decide) rfl wk_185 (zd DX7_drops 21 rfl) ?_
    refine tz_getIN 1 kz6 (zs_4) (by decide) rfl wn_77 (zd DX7_drops 22 rfl) ?_
    refine tz_lti (fun v13 => ?_)
    refine tz_istore [(5, .int v13), (4, .int v12), (3, .ref l4), (0, .ref 0), (1, .int a1), (2, .int a2)] (Nat.le_of_ble_eq_true rfl) rfl (zd DX7_drops 23 rfl) ?_
    refine tz_aload_n 2 rfl (zd DX7_drops 24 rfl) ?_
    refine tz_iload_n 5 rfl (zd DX7_drops 25 rfl) ?_
    refine tz_cVN_i kz1 (fX7_lineAt_c e2) rfl (rest := []) (YX1_endOf) wn_540 (tX1_endOf l4 (fX7_lineAt_c e2) a2 w10) rfl rfl (Nat.le_of_ble_eq_true rfl) ⟨Nat.le_of_ble_eq_true rfl, Nat.le_of_ble_eq_true rfl⟩ (zd DX7_drops 26 rfl) (fun v16 w14 e15 => ?_)
    refine tz_istore [(6, .int v16), (5, .int v13), (4, .int v12), (3, .ref l4), (0, .ref 0), (1, .int a1), (2, .int a2)] (Nat.le_of_ble_eq_true rfl) rfl (zd DX7_drops 27 rfl) ?_
    refine tz_aload_n 3 rfl (zd DX7_drops 28 rfl) ?_
    refine tz_iload_n 6 rfl (zd DX7_drops 29 rfl) ?_
    refine tz_cVN_i kz1 (fX7_lineAt_c e2) rfl (rest := []) (YX1_heightOf) wn_541 (tX1_heightOf l4 (fX7_lineAt_c e2) a2 w14) rfl rfl (Nat.le_of_ble_eq_true rfl) ⟨Nat.le_of_ble_eq_true rfl, Nat.le_of_ble_eq_true rfl⟩ (zd DX7_drops 30 rfl) (fun v19 w17 e18 => ?_)
    refine tz_istore [(7, .int v19), (6, .int v16), (5, .int v13), (4, .int v12), (3, .ref l4), (0, .ref 0), (1, .int a1), (2, .int a2)] (Nat.le_of_ble_eq_true rfl) rfl (zd DX7_drops 31 rfl) ?_
    refine tz_aload_n 5 rfl (zd DX7_drops 32 rfl) ?_
    refine tz_getR 4 1 kz7 (zs_0) (by decide) (by decide) rfl wk_185 (zd DX7_drops 33 rfl) ?_
    refine tz_aload_n 4 rfl (zd DX7_drops 34 rfl) ?_
    refine tz_iload 1 rfl (zd DX7_drops 35 rfl) ?_
    refine tz_cVN_q kz1 (fX7_lineAt_c e2) rfl (rest := [.ref 4]) (YX1_pile) wn_542 (tX1_pile l4 (fX7_lineAt_c e2) v16 w17) rfl rfl (Nat.le_of_ble_eq_true rfl) ⟨Nat.le_of_ble_eq_true rfl, Nat.le_of_ble_eq_true rfl⟩ (zd DX7_drops 36 rfl) (fun v22 w20 e21 => ?_)
    refine tz_iload 1 rfl (zd DX7_drops 37 rfl) ?_
    refine tz_iload 0 rfl (zd DX7_drops 38 rfl) ?_
    refine tz_iconst (-1 : Int32) zk_iconst_m1 (zd DX7_drops 39 rfl) ?_
    refine tz_iload 0 rfl (zd DX7_drops 40 rfl) ?_
    refine tz_iconst (1 : Int32) zk_iconst_1 (zd DX7_drops 41 rfl) ?_
    refine tz_iadd (zd DX7_drops 42 rfl) ?_
    refine tz_cVN_n kz6 (zs_4) rfl (rest := []) (YX6_remake) wn_543 (tX6_remake v22 (fX1_pile_c (fX7_lineAt_c e2) e21) v16 v19 (-1 : Int32) (v19 + (1 : Int32)) w20) rfl rfl (Nat.le_of_ble_eq_true rfl) ⟨Nat.le_of_ble_eq_true rfl, Nat.le_of_ble_eq_true rfl⟩ (zd DX7_drops 43 rfl) (fun v25 w23 e24 => ?_)
    refine tz_aload_n 5 rfl (zd DX7_drops 44 rfl) ?_
    refine tz_aload_n 5 rfl (zd DX7_drops 45 rfl) ?_
    refine tz_getR 4 1 kz7 (zs_0) (by decide) (by decide) rfl wk_185 (zd DX7_drops 46 rfl) ?_
    refine tz_getIN 1 kz6 (zs_4) (by decide) rfl wn_77 (zd DX7_drops 47 rfl) ?_
    refine tz_iload 2 rfl (zd DX7_drops 48 rfl) ?_
    refine tz_isub (zd DX7_drops 49 rfl) ?_
    refine tz_i2l (zd DX7_drops 50 rfl) ?_
    refine tz_cV_n kz7 (zs_0) rfl (rest := []) (YX7_tell) wk_391 (tX7_tell ((zI w23 4 1) - v13).toInt64 w23) rfl rfl (Nat.le_of_ble_eq_true rfl) ⟨Nat.le_of_ble_eq_true rfl, Nat.le_of_ble_eq_true rfl⟩ (zd DX7_drops 51 rfl) (fun v28 w26 e27 => ?_)
    refine tz_iload 3 rfl (zd DX7_drops 52 rfl) ?_
    exact tz_iret rfl (zd DX7_drops 53 rfl)
  refine tz_bipush (-2 : Int32) zk_bipush_m2 (zd DX7_drops 14 rfl) ?_
  exact tz_iret rfl (zd DX7_drops 15 rfl)
def QX7_sumUp : List (Nat × Instr × Nat) := [(0, .aload_n 0, 1), (1, .getfield 10, 3), (4, .invokevirtual 138, 3), (7, .iload_n 2, 1), (8, .istore 4, 2), (10, .iload 4, 2), (12, .iload_n 3, 1), (13, .if_icmp .ge 22, 3), (16, .aload_n 0, 1), (17, .getfield 10, 3), (20, .aload_n 1, 1), (21, .iload 4, 2), (23, .invokevirtual 189, 3), (26, .invokevirtual 113, 3), (29, .iinc 4 1, 3), (32, .goto (-22), 3), (35, .return_, 1)]
set_option maxRecDepth 100000 in
theorem DX7_sumUp : ∀ q ∈ QX7_sumUp, decode cX7_sumUp q.1 = .ok (q.2.1, q.2.2) := by decide +kernel
abbrev MX7_sumUp : zM := (cX7_sumUp, "EndSums", 5, none, { frames := 3, cells := 0, slots := 0, locals := 81 })
def fX7_sumUp_L10 (r1 : Nat) (x3 : Int32) : Nat → Int32 → zW → Option (Unit × zW)
  | 0, _, _ => none
  | n + 1, x4, w =>
    if x3 ≤ x4 then
      some ((), w)
    else
    bd (fX1_itemAt r1 x4 w) fun v7 w5 =>
    bd (fX0_follow v7 w5) fun _ w8 =>
    fX7_sumUp_L10 r1 x3 n (x4 + (1 : Int32)) w8
def fX7_sumUp (r1 : Nat) (a2 : Int32) (a3 : Int32) (w : zW) : Option (Unit × zW) :=
  bd (fX0_startEmpty w) fun _ w1 =>
  fX7_sumUp_L10 r1 a3 zFU a2 w1
theorem YX7_sumUp : zYV yX7_sumUp MX7_sumUp 3 := ⟨wk_562, wk_1, ⟨wk_561, ws_51⟩, ⟨by decide, by decide, by decide +kernel⟩, rfl, rfl⟩
set_option maxHeartbeats 4000000 in
set_option maxRecDepth 100000 in
theorem lX7_sumUp_L10 (r1 : Nat) (hr1 : zc 1 r1) (x3 : Int32) : ∀ (n : Nat) (x4 : Int32) (w : zW), Tz MX7_sumUp (zRet zn) (fX7_sumUp_L10 r1 x3 n x4 w) 10 [(0, .ref 0), (1, .ref r1), (3, .int x3), (4, .int x4)] [] w := by
  intro n
  induction n with
  | zero => intro x4 w; exact tz_eq (fX7_sumUp_L10.eq_1 _ _ _ _) tz_none
  | succ n ih =>
    intro x4 w
    refine tz_eq (fX7_sumUp_L10.eq_2 _ _ _ _ _) ?_
    refine tz_iload 3 rfl (zd DX7_sumUp 5 rfl) ?_
    refine tz_iload_n 2 rfl (zd DX7_sumUp 6 rfl) ?_
    refine tz_icmp_ge 35 (zd DX7_sumUp 7 rfl) rfl (fun q4 => ?_) (fun q4 => ?_)
    · exact tz_vret rfl (zd DX7_sumUp 16 rfl)
    refine tz_aload_n 0 rfl (zd DX7_sumUp 8 rfl) ?_
    refine tz_getR 1 0 kz7 (zs_0) (by decide) (by decide) rfl wk_184 (zd DX7_sumUp 9 rfl) ?_
    refine tz_aload_n 1 rfl (zd DX7_sumUp 10 rfl) ?_
    refine tz_iload 3 rfl (zd DX7_sumUp 11 rfl) ?_
    refine tz_cVN_i kz1 (hr1) rfl (rest := [.ref 1]) (YX1_itemAt) wn_539 (tX1_itemAt r1 (hr1) x4 w) rfl rfl (Nat.le_of_ble_eq_true rfl) ⟨Nat.le_of_ble_eq_true rfl, Nat.le_of_ble_eq_true rfl⟩ (zd DX7_sumUp 12 rfl) (fun v7 w5 e6 => ?_)
    refine tz_cVN_n kz0 (zs_1) rfl (rest := []) (YX0_follow) wn_417 (tX0_follow v7 w5) rfl rfl (Nat.le_of_ble_eq_true rfl) ⟨Nat.le_of_ble_eq_true rfl, Nat.le_of_ble_eq_true rfl⟩ (zd DX7_sumUp 13 rfl) (fun v10 w8 e9 => ?_)
    refine tz_iinc 3 (1 : Int32) [(4, .int (x4 + (1 : Int32))), (0, .ref 0), (1, .ref r1), (3, .int x3)] rfl zk_iconst_1 (Nat.le_of_ble_eq_true rfl) rfl (zd DX7_sumUp 14 rfl) ?_
    refine tz_goto 10 (zd DX7_sumUp 15 rfl) rfl ?_
    refine tz_lv (lv2 := [(0, .ref 0), (1, .ref r1), (3, .int x3), (4, .int (x4 + (1 : Int32)))]) [1, 2, 3, 0] rfl ?_
    exact ih (x4 + (1 : Int32)) w8
set_option maxHeartbeats 4000000 in
set_option maxRecDepth 100000 in
theorem tX7_sumUp (r1 : Nat) (hr1 : zc 1 r1) (a2 : Int32) (a3 : Int32) (w : zW) : Sm yX7_sumUp MX7_sumUp zn [.ref 0, .ref r1, .int a2, .int a3] w (fX7_sumUp r1 a2 a3 w) := by
  refine Sm_of (lv0 := [(0, .ref 0), (1, .ref r1), (2, .int a2), (3, .int a3)]) (by decide) rfl (fun _ => Nat.le_of_ble_eq_true rfl) rfl ?_
  unfold fX7_sumUp
  refine tz_aload_n 0 rfl (zd DX7_sumUp 0 rfl) ?_
  refine tz_getR 1 0 kz7 (zs_0) (by decide) (by decide) rfl wk_184 (zd DX7_sumUp 1 rfl) ?_
  refine tz_cVN_n kz0 (zs_1) rfl (rest := []) (YX0_startEmpty) wn_451 (tX0_startEmpty w) rfl rfl (Nat.le_of_ble_eq_true rfl) ⟨Nat.le_of_ble_eq_true rfl, Nat.le_of_ble_eq_true rfl⟩ (zd DX7_sumUp 2 rfl) (fun v3 w1 e2 => ?_)
  refine tz_iload_n 2 rfl (zd DX7_sumUp 3 rfl) ?_
  refine tz_istore [(4, .int a2), (0, .ref 0), (1, .ref r1), (2, .int a2), (3, .int a3)] (Nat.le_of_ble_eq_true rfl) rfl (zd DX7_sumUp 4 rfl) ?_
  refine tz_lv (lv2 := [(0, .ref 0), (1, .ref r1), (3, .int a3), (4, .int a2)]) [1, 2, 4, 0] rfl ?_
  exact lX7_sumUp_L10 r1 (hr1) a3 zFU a2 w1
def QX7_shifts : List (Nat × Instr × Nat) := [(0, .aload_n 0, 1), (1, .iload_n 1, 1), (2, .invokevirtual 158, 3), (5, .astore 4, 2), (7, .aload 4, 2), (9, .ifnull 21, 3), (12, .iload_n 2, 1), (13, .invokestatic 162, 3), (16, .ifCond .eq 14, 3), (19, .iload_n 3, 1), (20, .iconst 1, 1), (21, .if_icmp .lt 9, 3), (24, .iload_n 3, 1), (25, .bipush 64, 2), (27, .if_icmp .le 5, 3), (30, .iconst (-1), 1), (31, .ireturn, 1), (32, .aload 4, 2), (34, .invokevirtual 165, 3), (37, .ifCond .ne 6, 3), (40, .bipush (-2), 2), (42, .ireturn, 1), (43, .aload_n 0, 1), (44, .getfield 21, 3), (47, .getfield 172, 3), (50, .istore 5, 2), (52, .iconst 0, 1), (53, .istore 6, 2), (55, .iload 6, 2), (57, .iload_n 3, 1), (58, .if_icmp .ge 31, 3), (61, .aload_n 0, 1), (62, .getfield 21, 3), (65, .aload 4, 2), (67, .iconst 1, 1), (68, .iload_n 2, 1), (69, .isub, 1), (70, .aload_n 0, 1), (71, .getfield 21, 3), (74, .aload 4, 2), (76, .iload_n 2, 1), (77, .invokevirtual 175, 3), (80, .invokevirtual 168, 3), (83, .iinc 6 1, 3), (86, .goto (-31), 3), (89, .aload_n 0, 1), (90, .aload 4, 2), (92, .iconst 0, 1), (93, .aload 4, 2), (95, .invokevirtual 165, 3), (98, .invokevirtual 206, 3), (101, .aload_n 0, 1), (102, .aload_n 0, 1), (103, .getfield 10, 3), (106, .getfield 116, 3), (109, .aload_n 0, 1), (110, .getfield 10, 3), (113, .getfield 120, 3), (116, .invokevirtual 135, 3), (119, .aload_n 0, 1), (120, .getfield 21, 3), (123, .getfield 172, 3), (126, .iload 5, 2), (128, .isub, 1), (129, .ireturn, 1)]
set_option maxRecDepth 100000 in
theorem DX7_shifts : ∀ q ∈ QX7_shifts, decode cX7_shifts q.1 = .ok (q.2.1, q.2.2) := by decide +kernel
abbrev MX7_shifts : zM := (cX7_shifts, "EndSums", 7, (some .int), { frames := 5, cells := 0, slots := 0, locals := 138 })
def fX7_shifts_L55 (x2 : Int32) (x3 : Int32) (r4 : Nat) (x5 : Int32) : Nat → Int32 → zW → Option (Int32 × zW)
  | 0, _, _ => none
  | n + 1, x6, w =>
    if x3 ≤ x6 then
      bd (fX1_size r4 w) fun v19 w17 =>
      bd (fX7_sumUp r4 (0 : Int32) v19 w17) fun _ w20 =>
      bd (fX7_tell_ (zL w20 1 2) (zL w20 1 3) w20) fun _ w23 =>
      some (((zI w23 4 1) - x5), w23)
    else
    bd (fX6_take r4 x2 w) fun v28 w26 =>
    bd (fX6_put r4 ((1 : Int32) - x2) v28 w26) fun _ w29 =>
    fX7_shifts_L55 x2 x3 r4 x5 n (x6 + (1 : Int32)) w29
def fX7_shifts (a1 : Int32) (a2 : Int32) (a3 : Int32) (w : zW) : Option (Int32 × zW) :=
  bd (fX7_lineAt a1 w) fun o3 w1 => oc o3 (
    some ((-1 : Int32), w1)) fun l4 =>
    bd (fX7_isEnd a2 w1) fun b7 w5 =>
    if b7 = true then
      if a3 < (1 : Int32) then
        some ((-1 : Int32), w5)
      else
      if a3 ≤ (64 : Int32) then
        bd (fX1_size l4 w5) fun v13 w11 =>
        if ¬ v13 = (0 : Int32) then
          lt (zI w11 4 1) fun v15 =>
          fX7_shifts_L55 a2 a3 l4 v15 zFU (0 : Int32) w11
        else
        some ((-2 : Int32), w11)
      else
      some ((-1 : Int32), w5)
    else
    some ((-1 : Int32), w5)
theorem YX7_shifts : zYV yX7_shifts MX7_shifts 3 := ⟨wk_558, wk_1, ⟨wk_556, wk_557⟩, ⟨by decide, by decide, by decide +kernel⟩, rfl, rfl⟩
set_option maxHeartbeats 4000000 in
set_option maxRecDepth 100000 in
theorem lX7_shifts_L55 (x2 : Int32) (x3 : Int32) (r4 : Nat) (hr4 : zc 1 r4) (x5 : Int32) : ∀ (n : Nat) (x6 : Int32) (w : zW), Tz MX7_shifts (zRet zi) (fX7_shifts_L55 x2 x3 r4 x5 n x6 w) 55 [(0, .ref 0), (2, .int x2), (3, .int x3), (4, .ref r4), (5, .int x5), (6, .int x6)] [] w := by
  intro n
  induction n with
  | zero => intro x6 w; exact tz_eq (fX7_shifts_L55.eq_1 _ _ _ _ _ _) tz_none
  | succ n ih =>
    intro x6 w
    refine tz_eq (fX7_shifts_L55.eq_2 _ _ _ _ _ _ _) ?_
    refine tz_iload 5 rfl (zd DX7_shifts 28 rfl) ?_
    refine tz_iload_n 2 rfl (zd DX7_shifts 29 rfl) ?_
    refine tz_icmp_ge 89 (zd DX7_shifts 30 rfl) rfl (fun q16 => ?_) (fun q16 => ?_)
    · refine tz_aload_n 0 rfl (zd DX7_shifts 45 rfl) ?_
      refine tz_aload 3 rfl (zd DX7_shifts 46 rfl) ?_
      refine tz_iconst (0 : Int32) zk_iconst_0 (zd DX7_shifts 47 rfl) ?_
      refine tz_aload 3 rfl (zd DX7_shifts 48 rfl) ?_
      refine tz_cVN_i kz1 (hr4) rfl (rest := [.int (0 : Int32), .ref r4, .ref 0]) (YX1_size) wn_486 (tX1_size r4 (hr4) w) rfl rfl (Nat.le_of_ble_eq_true rfl) ⟨Nat.le_of_ble_eq_true rfl, Nat.le_of_ble_eq_true rfl⟩ (zd DX7_shifts 49 rfl) (fun v19 w17 e18 => ?_)
      refine tz_cV_n kz7 (zs_0) rfl (rest := []) (YX7_sumUp) wk_559 (tX7_sumUp r4 (hr4) (0 : Int32) v19 w17) rfl rfl (Nat.le_of_ble_eq_true rfl) ⟨Nat.le_of_ble_eq_true rfl, Nat.le_of_ble_eq_true rfl⟩ (zd DX7_shifts 50 rfl) (fun v22 w20 e21 => ?_)
      refine tz_aload_n 0 rfl (zd DX7_shifts 51 rfl) ?_
      refine tz_aload_n 0 rfl (zd DX7_shifts 52 rfl) ?_
      refine tz_getR 1 0 kz7 (zs_0) (by decide) (by decide) rfl wk_184 (zd DX7_shifts 53 rfl) ?_
      refine tz_getJN 2 kz0 (zs_1) (by decide) rfl wn_56 (zd DX7_shifts 54 rfl) ?_
      refine tz_aload_n 0 rfl (zd DX7_shifts 55 rfl) ?_
      refine tz_getR 1 0 kz7 (zs_0) (by decide) (by decide) rfl wk_184 (zd DX7_shifts 56 rfl) ?_
      refine tz_getJN 3 kz0 (zs_1) (by decide) rfl wn_59 (zd DX7_shifts 57 rfl) ?_
      refine tz_cV_n kz7 (zs_0) rfl (rest := []) (YX7_tell_) wk_387 (tX7_tell_ (zL w20 1 2) (zL w20 1 3) w20) rfl rfl (Nat.le_of_ble_eq_true rfl) ⟨Nat.le_of_ble_eq_true rfl, Nat.le_of_ble_eq_true rfl⟩ (zd DX7_shifts 58 rfl) (fun v25 w23 e24 => ?_)
      refine tz_aload_n 0 rfl (zd DX7_shifts 59 rfl) ?_
      refine tz_getR 4 1 kz7 (zs_0) (by decide) (by decide) rfl wk_185 (zd DX7_shifts 60 rfl) ?_
      refine tz_getIN 1 kz6 (zs_4) (by decide) rfl wn_77 (zd DX7_shifts 61 rfl) ?_
      refine tz_iload 4 rfl (zd DX7_shifts 62 rfl) ?_
      refine tz_isub (zd DX7_shifts 63 rfl) ?_
      exact tz_iret rfl (zd DX7_shifts 64 rfl)
    refine tz_aload_n 0 rfl (zd DX7_shifts 31 rfl) ?_
    refine tz_getR 4 1 kz7 (zs_0) (by decide) (by decide) rfl wk_185 (zd DX7_shifts 32 rfl) ?_
    refine tz_aload 3 rfl (zd DX7_shifts 33 rfl) ?_
    refine tz_iconst (1 : Int32) zk_iconst_1 (zd DX7_shifts 34 rfl) ?_
    refine tz_iload_n 1 rfl (zd DX7_shifts 35 rfl) ?_
    refine tz_isub (zd DX7_shifts 36 rfl) ?_
    refine tz_aload_n 0 rfl (zd DX7_shifts 37 rfl) ?_
    refine tz_getR 4 1 kz7 (zs_0) (by decide) (by decide) rfl wk_185 (zd DX7_shifts 38 rfl) ?_
    refine tz_aload 3 rfl (zd DX7_shifts 39 rfl) ?_
    refine tz_iload_n 1 rfl (zd DX7_shifts 40 rfl) ?_
    refine tz_cVN_i kz6 (zs_4) rfl (rest := [.int ((1 : Int32) - x2), .ref r4, .ref 4]) (YX6_take) wn_496 (tX6_take r4 (hr4) x2 w) rfl rfl (Nat.le_of_ble_eq_true rfl) ⟨Nat.le_of_ble_eq_true rfl, Nat.le_of_ble_eq_true rfl⟩ (zd DX7_shifts 41 rfl) (fun v28 w26 e27 => ?_)
    refine tz_cVN_n kz6 (zs_4) rfl (rest := []) (YX6_put) wn_487 (tX6_put r4 (hr4) ((1 : Int32) - x2) v28 w26) rfl rfl (Nat.le_of_ble_eq_true rfl) ⟨Nat.le_of_ble_eq_true rfl, Nat.le_of_ble_eq_true rfl⟩ (zd DX7_shifts 42 rfl) (fun v31 w29 e30 => ?_)
    refine tz_iinc 5 (1 : Int32) [(6, .int (x6 + (1 : Int32))), (0, .ref 0), (2, .int x2), (3, .int x3), (4, .ref r4), (5, .int x5)] rfl zk_iconst_1 (Nat.le_of_ble_eq_true rfl) rfl (zd DX7_shifts 43 rfl) ?_
    refine tz_goto 55 (zd DX7_shifts 44 rfl) rfl ?_
    refine tz_lv (lv2 := [(0, .ref 0), (2, .int x2), (3, .int x3), (4, .ref r4), (5, .int x5), (6, .int (x6 + (1 : Int32)))]) [1, 2, 3, 4, 5, 0] rfl ?_
    exact ih (x6 + (1 : Int32)) w29
set_option maxHeartbeats 4000000 in
set_option maxRecDepth 100000 in
theorem tX7_shifts (a1 : Int32) (a2 : Int32) (a3 : Int32) (w : zW) : Sm yX7_shifts MX7_shifts zi [.ref 0, .int a1, .int a2, .int a3] w (fX7_shifts a1 a2 a3 w) := by
  refine Sm_of (lv0 := [(0, .ref 0), (1, .int a1), (2, .int a2), (3, .int a3)]) (by decide) rfl (fun _ => Nat.le_of_ble_eq_true rfl) rfl ?_
  unfold fX7_shifts
  refine tz_aload_n 0 rfl (zd DX7_shifts 0 rfl) ?_
  refine tz_iload_n 1 rfl (zd DX7_shifts 1 rfl) ?_
  refine tz_cV_o kz7 (zs_0) rfl (rest := []) (YX7_lineAt) wk_226 (tX7_lineAt a1 w) rfl rfl (Nat.le_of_ble_eq_true rfl) ⟨Nat.le_of_ble_eq_true rfl, Nat.le_of_ble_eq_true rfl⟩ (zd DX7_shifts 2 rfl) (fun w1 e2 => ?_) (fun l4 w1 e2 => ?_)
  · refine tz_astoreN [(4, .null), (0, .ref 0), (1, .int a1), (2, .int a2), (3, .int a3)] (Nat.le_of_ble_eq_true rfl) rfl (zd DX7_shifts 3 rfl) ?_
    refine tz_aloadN 0 rfl (zd DX7_shifts 4 rfl) ?_
    refine tz_ifnullN 30 (zd DX7_shifts 5 rfl) rfl ?_
    refine tz_iconst (-1 : Int32) zk_iconst_m1 (zd DX7_shifts 15 rfl) ?_
    exact tz_iret rfl (zd DX7_shifts 16 rfl)
  refine tz_astore [(4, .ref l4), (0, .ref 0), (1, .int a1), (2, .int a2), (3, .int a3)] (Nat.le_of_ble_eq_true rfl) rfl (zd DX7_shifts 3 rfl) ?_
  refine tz_aload 0 rfl (zd DX7_shifts 4 rfl) ?_
  refine tz_ifnull (zd DX7_shifts 5 rfl) ?_
  refine tz_iload_n 3 rfl (zd DX7_shifts 6 rfl) ?_
  refine tz_cS_z (rest := []) (YX7_isEnd) wk_483 (tX7_isEnd a2 w1) rfl rfl (Nat.le_of_ble_eq_true rfl) ⟨Nat.le_of_ble_eq_true rfl, Nat.le_of_ble_eq_true rfl⟩ (zd DX7_shifts 7 rfl) (fun b7 w5 e6 => ?_)
  refine tz_bif_eq 30 (zd DX7_shifts 8 rfl) rfl (fun q8 => ?_) (fun q8 => ?_)
  · refine tz_iload_n 4 rfl (zd DX7_shifts 9 rfl) ?_
    refine tz_iconst (1 : Int32) zk_iconst_1 (zd DX7_shifts 10 rfl) ?_
    refine tz_icmp_lt 30 (zd DX7_shifts 11 rfl) rfl (fun q9 => ?_) (fun q9 => ?_)
    · refine tz_iconst (-1 : Int32) zk_iconst_m1 (zd DX7_shifts 15 rfl) ?_
      exact tz_iret rfl (zd DX7_shifts 16 rfl)
    refine tz_iload_n 4 rfl (zd DX7_shifts 12 rfl) ?_
    refine tz_bipush (64 : Int32) zk_bipush_64 (zd DX7_shifts 13 rfl) ?_
    refine tz_icmp_le 32 (zd DX7_shifts 14 rfl) rfl (fun q10 => ?_) (fun q10 => ?_)
    · refine tz_aload 0 rfl (zd DX7_shifts 17 rfl) ?_
      refine tz_cVN_i kz1 (fX7_lineAt_c e2) rfl (rest := []) (YX1_size) wn_486 (tX1_size l4 (fX7_lineAt_c e2) w5) rfl rfl (Nat.le_of_ble_eq_true rfl) ⟨Nat.le_of_ble_eq_true rfl, Nat.le_of_ble_eq_true rfl⟩ (zd DX7_shifts 18 rfl) (fun v13 w11 e12 => ?_)
      refine tz_if_ne 43 (zd DX7_shifts 19 rfl) rfl (fun q14 => ?_) (fun q14 => ?_)
      · refine tz_aload_n 1 rfl (zd DX7_shifts 22 rfl) ?_
        refine tz_getR 4 1 kz7 (zs_0) (by decide) (by decide) rfl wk_185 (zd DX7_shifts 23 rfl) ?_
        refine tz_getIN 1 kz6 (zs_4) (by decide) rfl wn_77 (zd DX7_shifts 24 rfl) ?_
        refine tz_lti (fun v15 => ?_)
        refine tz_istore [(5, .int v15), (4, .ref l4), (0, .ref 0), (1, .int a1), (2, .int a2), (3, .int a3)] (Nat.le_of_ble_eq_true rfl) rfl (zd DX7_shifts 25 rfl) ?_
        refine tz_iconst (0 : Int32) zk_iconst_0 (zd DX7_shifts 26 rfl) ?_
        refine tz_istore [(6, .int (0 : Int32)), (5, .int v15), (4, .ref l4), (0, .ref 0), (1, .int a1), (2, .int a2), (3, .int a3)] (Nat.le_of_ble_eq_true rfl) rfl (zd DX7_shifts 27 rfl) ?_
        refine tz_lv (lv2 := [(0, .ref 0), (2, .int a2), (3, .int a3), (4, .ref l4), (5, .int v15), (6, .int (0 : Int32))]) [3, 5, 6, 2, 1, 0] rfl ?_
        exact lX7_shifts_L55 a2 a3 l4 (fX7_lineAt_c e2) v15 zFU (0 : Int32) w11
      refine tz_bipush (-2 : Int32) zk_bipush_m2 (zd DX7_shifts 20 rfl) ?_
      exact tz_iret rfl (zd DX7_shifts 21 rfl)
    refine tz_iconst (-1 : Int32) zk_iconst_m1 (zd DX7_shifts 15 rfl) ?_
    exact tz_iret rfl (zd DX7_shifts 16 rfl)
  refine tz_iconst (-1 : Int32) zk_iconst_m1 (zd DX7_shifts 15 rfl) ?_
  exact tz_iret rfl (zd DX7_shifts 16 rfl)
def QX7_clears : List (Nat × Instr × Nat) := [(0, .aload_n 0, 1), (1, .iload_n 1, 1), (2, .invokevirtual 158, 3), (5, .astore_n 2, 1), (6, .aload_n 2, 1), (7, .ifnonnull 5, 3), (10, .iconst (-1), 1), (11, .ireturn, 1), (12, .aload_n 2, 1), (13, .invokevirtual 165, 3), (16, .istore_n 3, 1), (17, .aload_n 2, 1), (18, .getfield 209, 3), (21, .iconst 0, 1), (22, .putfield 213, 3), (25, .aload_n 2, 1), (26, .getfield 217, 3), (29, .iconst 0, 1), (30, .putfield 213, 3), (33, .iload_n 3, 1), (34, .ireturn, 1)]
set_option maxRecDepth 100000 in
theorem DX7_clears : ∀ q ∈ QX7_clears, decode cX7_clears q.1 = .ok (q.2.1, q.2.2) := by decide +kernel
abbrev MX7_clears : zM := (cX7_clears, "EndSums", 4, (some .int), { frames := 1, cells := 0, slots := 0, locals := 21 })
def fX7_clears (a1 : Int32) (w : zW) : Option (Int32 × zW) :=
  bd (fX7_lineAt a1 w) fun o3 w1 => oc o3 (
    some ((-1 : Int32), w1)) fun l4 =>
    bd (fX1_size l4 w1) fun v7 w5 =>
    lt (zsI w5 (l4 + 1) 0 (0 : Int32)) fun w8 =>
    lt (zsI w8 (l4 + 6) 0 (0 : Int32)) fun w9 =>
    some (v7, w9)
theorem YX7_clears : zYV yX7_clears MX7_clears 1 := ⟨wk_566, wk_1, ⟨wk_564, wk_565⟩, ⟨by decide, by decide, by decide +kernel⟩, rfl, rfl⟩
set_option maxHeartbeats 4000000 in
set_option maxRecDepth 100000 in
theorem tX7_clears (a1 : Int32) (w : zW) : Sm yX7_clears MX7_clears zi [.ref 0, .int a1] w (fX7_clears a1 w) := by
  refine Sm_of (lv0 := [(0, .ref 0), (1, .int a1)]) (by decide) rfl (fun _ => Nat.le_of_ble_eq_true rfl) rfl ?_
  unfold fX7_clears
  refine tz_aload_n 0 rfl (zd DX7_clears 0 rfl) ?_
  refine tz_iload_n 1 rfl (zd DX7_clears 1 rfl) ?_
  refine tz_cV_o kz7 (zs_0) rfl (rest := []) (YX7_lineAt) wk_226 (tX7_lineAt a1 w) rfl rfl (Nat.le_of_ble_eq_true rfl) ⟨Nat.le_of_ble_eq_true rfl, Nat.le_of_ble_eq_true rfl⟩ (zd DX7_clears 2 rfl) (fun w1 e2 => ?_) (fun l4 w1 e2 => ?_)
  · refine tz_astore_nN [(2, .null), (0, .ref 0), (1, .int a1)] (Nat.le_of_ble_eq_true rfl) rfl (zd DX7_clears 3 rfl) ?_
    refine tz_aload_nN 0 rfl (zd DX7_clears 4 rfl) ?_
    refine tz_ifnonnullN (zd DX7_clears 5 rfl) ?_
    refine tz_iconst (-1 : Int32) zk_iconst_m1 (zd DX7_clears 6 rfl) ?_
    exact tz_iret rfl (zd DX7_clears 7 rfl)
  refine tz_astore_n [(2, .ref l4), (0, .ref 0), (1, .int a1)] (Nat.le_of_ble_eq_true rfl) rfl (zd DX7_clears 3 rfl) ?_
  refine tz_aload_n 0 rfl (zd DX7_clears 4 rfl) ?_
  refine tz_ifnonnull 12 (zd DX7_clears 5 rfl) rfl ?_
  refine tz_aload_n 0 rfl (zd DX7_clears 8 rfl) ?_
  refine tz_cVN_i kz1 (fX7_lineAt_c e2) rfl (rest := []) (YX1_size) wn_486 (tX1_size l4 (fX7_lineAt_c e2) w1) rfl rfl (Nat.le_of_ble_eq_true rfl) ⟨Nat.le_of_ble_eq_true rfl, Nat.le_of_ble_eq_true rfl⟩ (zd DX7_clears 9 rfl) (fun v7 w5 e6 => ?_)
  refine tz_istore_n [(3, .int v7), (2, .ref l4), (0, .ref 0), (1, .int a1)] (Nat.le_of_ble_eq_true rfl) rfl (zd DX7_clears 10 rfl) ?_
  refine tz_aload_n 1 rfl (zd DX7_clears 11 rfl) ?_
  refine tz_getRN (l4 + 1) 0 kz1 (fX7_lineAt_c e2) (by decide) (by decide) ((zf1_0 (fX7_lineAt_c e2)).1) wn_132 (zd DX7_clears 12 rfl) ?_
  refine tz_iconst (0 : Int32) zk_iconst_0 (zd DX7_clears 13 rfl) ?_
  refine tz_putIN 0 kz2 ((zf1_0 (w := w5) (fX7_lineAt_c e2)).2) (by decide) rfl rfl wn_106 (zd DX7_clears 14 rfl) (fun w8 => ?_)
  refine tz_aload_n 1 rfl (zd DX7_clears 15 rfl) ?_
  refine tz_getRN (l4 + 6) 1 kz1 (fX7_lineAt_c e2) (by decide) (by decide) ((zf1_1 (fX7_lineAt_c e2)).1) wn_135 (zd DX7_clears 16 rfl) ?_
  refine tz_iconst (0 : Int32) zk_iconst_0 (zd DX7_clears 17 rfl) ?_
  refine tz_putIN 0 kz2 ((zf1_1 (w := w8) (fX7_lineAt_c e2)).2) (by decide) rfl rfl wn_106 (zd DX7_clears 18 rfl) (fun w9 => ?_)
  refine tz_iload_n 0 rfl (zd DX7_clears 19 rfl) ?_
  exact tz_iret rfl (zd DX7_clears 20 rfl)
def QX7_act : List (Nat × Instr × Nat) := [(0, .iload_n 2, 1), (1, .bipush 102, 2), (3, .if_icmp .eq 9, 3), (6, .iload_n 2, 1), (7, .bipush 98, 2), (9, .if_icmp .ne 7, 3), (12, .iconst 1, 1), (13, .goto 4, 3), (16, .iconst 0, 1), (17, .istore 4, 2), (19, .iload_n 2, 1), (20, .bipush 114, 2), (22, .if_icmp .ne 13, 3), (25, .aload_n 0, 1), (26, .getfield 21, 3), (29, .aload_n 1, 1), (30, .invokevirtual 186, 3), (33, .iconst 1, 1), (34, .ireturn, 1), (35, .iload 4, 2), (37, .ifCond .eq 15, 3), (40, .aload_n 1, 1), (41, .invokevirtual 165, 3), (44, .bipush 64, 2), (46, .if_icmp .lt 15, 3), (49, .goto 10, 3), (52, .aload_n 1, 1), (53, .invokevirtual 165, 3), (56, .ifCond .ne 5, 3), (59, .iconst 0, 1), (60, .ireturn, 1), (61, .iload_n 2, 1), (62, .bipush 102, 2), (64, .if_icmp .eq 9, 3), (67, .iload_n 2, 1), (68, .bipush 70, 2), (70, .if_icmp .ne 7, 3), (73, .iconst 0, 1), (74, .goto 4, 3), (77, .iconst 1, 1), (78, .istore 5, 2), (80, .iload 4, 2), (82, .ifCond .eq 17, 3), (85, .aload_n 0, 1), (86, .getfield 21, 3), (89, .aload_n 1, 1), (90, .iload 5, 2), (92, .iload_n 3, 1), (93, .invokevirtual 168, 3), (96, .goto 14, 3), (99, .aload_n 0, 1), (100, .getfield 21, 3), (103, .aload_n 1, 1), (104, .iload 5, 2), (106, .invokevirtual 175, 3), (109, .pop, 1), (110, .iconst 1, 1), (111, .ireturn, 1)]
set_option maxRecDepth 100000 in
theorem DX7_act : ∀ q ∈ QX7_act, decode cX7_act q.1 = .ok (q.2.1, q.2.2) := by decide +kernel
abbrev MX7_act : zM := (cX7_act, "EndSums", 6, (some .boolean), { frames := 5, cells := 0, slots := 0, locals := 138 })
def fX7_act (r1 : Nat) (a2 : Int32) (a3 : Int32) (w : zW) : Option (Bool × zW) :=
  lt (if a2 = (102 : Int32) then (1 : Int32) else if ¬ a2 = (98 : Int32) then (0 : Int32) else (1 : Int32)) fun v3 =>
  if ¬ a2 = (114 : Int32) then
    lt (fun (w5 : zW) =>
      lt (if a2 = (102 : Int32) then (0 : Int32) else if ¬ a2 = (70 : Int32) then (1 : Int32) else (0 : Int32)) fun v8 =>
      if v3 = (0 : Int32) then
        bd (fX6_take r1 v8 w5) fun v12 w10 =>
        some (true, w10)
      else
      bd (fX6_put r1 v8 a3 w5) fun _ w13 =>
      some (true, w13)) fun j5 =>
    if v3 = (0 : Int32) then
      bd (fX1_size r1 w) fun v19 w17 =>
      if ¬ v19 = (0 : Int32) then
        j5 w17
      else
      some (false, w17)
    else
    bd (fX1_size r1 w) fun v23 w21 =>
    if v23 < (64 : Int32) then
      j5 w21
    else
    some (false, w21)
  else
  bd (fX6_turn r1 w) fun _ w25 =>
  some (true, w25)
theorem YX7_act : zYV yX7_act MX7_act 3 := ⟨wk_600, wk_1, ⟨wk_599, ws_57⟩, ⟨by decide, by decide, by decide +kernel⟩, rfl, rfl⟩
set_option maxHeartbeats 4000000 in
set_option maxRecDepth 100000 in
theorem tX7_act (r1 : Nat) (hr1 : zc 1 r1) (a2 : Int32) (a3 : Int32) (w : zW) : Sm yX7_act MX7_act zz [.ref 0, .ref r1, .int a2, .int a3] w (fX7_act r1 a2 a3 w) := by
  refine Sm_of (lv0 := [(0, .ref 0), (1, .ref r1), (2, .int a2), (3, .int a3)]) (by decide) rfl (fun _ => Nat.le_of_ble_eq_true rfl) rfl ?_
  unfold fX7_act
  refine tz_iload_n 2 rfl (zd DX7_act 0 rfl) ?_
  refine tz_bipush (102 : Int32) zk_bipush_102 (zd DX7_act 1 rfl) ?_
  refine tz_dia (P := fun F => ∀ v : Int32, Tz MX7_act (zRet zz) (F v) 17 [(0, .ref 0), (1, .ref r1), (2, .int a2), (3, .int a3)] (.int v :: []) w) ?_ (fun _ hJ17 => ?_)
  · intro v3
    refine tz_istore [(4, .int v3), (0, .ref 0), (1, .ref r1), (2, .int a2), (3, .int a3)] (Nat.le_of_ble_eq_true rfl) rfl (zd DX7_act 9 rfl) ?_
    refine tz_iload_n 3 rfl (zd DX7_act 10 rfl) ?_
    refine tz_bipush (114 : Int32) zk_bipush_114 (zd DX7_act 11 rfl) ?_
    refine tz_icmp_ne 35 (zd DX7_act 12 rfl) rfl (fun q4 => ?_) (fun q4 => ?_)
    · refine tz_iload 0 rfl (zd DX7_act 19 rfl) ?_
      refine tz_jp (P := fun j => ∀ (w5 : zW), Tz MX7_act (zRet zz) (j w5) 61 [(0, .ref 0), (1, .ref r1), (2, .int a2), (3, .int a3), (4, .int v3)] [] w5) ?_ (fun j5 hj5 => ?_)
      · intro w5
        refine tz_iload_n 2 rfl (zd DX7_act 31 rfl) ?_
        refine tz_bipush (102 : Int32) zk_bipush_102 (zd DX7_act 32 rfl) ?_
        refine tz_dia (P := fun F => ∀ v : Int32, Tz MX7_act (zRet zz) (F v) 78 [(0, .ref 0), (1, .ref r1), (2, .int a2), (3, .int a3), (4, .int v3)] (.int v :: []) w5) ?_ (fun _ hJ78 => ?_)
        · intro v8
          refine tz_istore [(5, .int v8), (0, .ref 0), (1, .ref r1), (2, .int a2), (3, .int a3), (4, .int v3)] (Nat.le_of_ble_eq_true rfl) rfl (zd DX7_act 40 rfl) ?_
          refine tz_iload 5 rfl (zd DX7_act 41 rfl) ?_
          refine tz_if_eq 99 (zd DX7_act 42 rfl) rfl (fun q9 => ?_) (fun q9 => ?_)
          · refine tz_aload_n 1 rfl (zd DX7_act 50 rfl) ?_
            refine tz_getR 4 1 kz7 (zs_0) (by decide) (by decide) rfl wk_185 (zd DX7_act 51 rfl) ?_
            refine tz_aload_n 2 rfl (zd DX7_act 52 rfl) ?_
            refine tz_iload 0 rfl (zd DX7_act 53 rfl) ?_
            refine tz_cVN_i kz6 (zs_4) rfl (rest := []) (YX6_take) wn_496 (tX6_take r1 (hr1) v8 w5) rfl rfl (Nat.le_of_ble_eq_true rfl) ⟨Nat.le_of_ble_eq_true rfl, Nat.le_of_ble_eq_true rfl⟩ (zd DX7_act 54 rfl) (fun v12 w10 e11 => ?_)
            refine tz_popi (zd DX7_act 55 rfl) ?_
            refine tz_iconst (1 : Int32) zk_iconst_1 (zd DX7_act 56 rfl) ?_
            exact tz_zret1 rfl (zd DX7_act 57 rfl)
          refine tz_aload_n 1 rfl (zd DX7_act 43 rfl) ?_
          refine tz_getR 4 1 kz7 (zs_0) (by decide) (by decide) rfl wk_185 (zd DX7_act 44 rfl) ?_
          refine tz_aload_n 2 rfl (zd DX7_act 45 rfl) ?_
          refine tz_iload 0 rfl (zd DX7_act 46 rfl) ?_
          refine tz_iload_n 4 rfl (zd DX7_act 47 rfl) ?_
          refine tz_cVN_n kz6 (zs_4) rfl (rest := []) (YX6_put) wn_487 (tX6_put r1 (hr1) v8 a3 w5) rfl rfl (Nat.le_of_ble_eq_true rfl) ⟨Nat.le_of_ble_eq_true rfl, Nat.le_of_ble_eq_true rfl⟩ (zd DX7_act 48 rfl) (fun v15 w13 e14 => ?_)
          refine tz_goto 110 (zd DX7_act 49 rfl) rfl ?_
          refine tz_iconst (1 : Int32) zk_iconst_1 (zd DX7_act 56 rfl) ?_
          exact tz_zret1 rfl (zd DX7_act 57 rfl)
        refine tz_ite ?_
        refine tz_icmp_eq 73 (zd DX7_act 33 rfl) rfl (fun q6 => ?_) (fun q6 => ?_)
        · refine tz_iconst (0 : Int32) zk_iconst_0 (zd DX7_act 37 rfl) ?_
          refine tz_goto 78 (zd DX7_act 38 rfl) rfl ?_
          exact hJ78 (0 : Int32)
        refine tz_iload_n 2 rfl (zd DX7_act 34 rfl) ?_
        refine tz_bipush (70 : Int32) zk_bipush_70 (zd DX7_act 35 rfl) ?_
        refine tz_ite ?_
        refine tz_icmp_ne 77 (zd DX7_act 36 rfl) rfl (fun q7 => ?_) (fun q7 => ?_)
        · refine tz_iconst (1 : Int32) zk_iconst_1 (zd DX7_act 39 rfl) ?_
          exact hJ78 (1 : Int32)
        refine tz_iconst (0 : Int32) zk_iconst_0 (zd DX7_act 37 rfl) ?_
        refine tz_goto 78 (zd DX7_act 38 rfl) rfl ?_
        exact hJ78 (0 : Int32)
      refine tz_if_eq 52 (zd DX7_act 20 rfl) rfl (fun q16 => ?_) (fun q16 => ?_)
      · refine tz_aload_n 2 rfl (zd DX7_act 26 rfl) ?_
        refine tz_cVN_i kz1 (hr1) rfl (rest := []) (YX1_size) wn_486 (tX1_size r1 (hr1) w) rfl rfl (Nat.le_of_ble_eq_true rfl) ⟨Nat.le_of_ble_eq_true rfl, Nat.le_of_ble_eq_true rfl⟩ (zd DX7_act 27 rfl) (fun v19 w17 e18 => ?_)
        refine tz_if_ne 61 (zd DX7_act 28 rfl) rfl (fun q20 => ?_) (fun q20 => ?_)
        · refine tz_lv (lv2 := [(0, .ref 0), (1, .ref r1), (2, .int a2), (3, .int a3), (4, .int v3)]) [1, 2, 3, 4, 0] rfl ?_
          exact hj5 w17
        refine tz_iconst (0 : Int32) zk_iconst_0 (zd DX7_act 29 rfl) ?_
        exact tz_zret0 rfl (zd DX7_act 30 rfl)
      refine tz_aload_n 2 rfl (zd DX7_act 21 rfl) ?_
      refine tz_cVN_i kz1 (hr1) rfl (rest := []) (YX1_size) wn_486 (tX1_size r1 (hr1) w) rfl rfl (Nat.le_of_ble_eq_true rfl) ⟨Nat.le_of_ble_eq_true rfl, Nat.le_of_ble_eq_true rfl⟩ (zd DX7_act 22 rfl) (fun v23 w21 e22 => ?_)
      refine tz_bipush (64 : Int32) zk_bipush_64 (zd DX7_act 23 rfl) ?_
      refine tz_icmp_lt 61 (zd DX7_act 24 rfl) rfl (fun q24 => ?_) (fun q24 => ?_)
      · refine tz_lv (lv2 := [(0, .ref 0), (1, .ref r1), (2, .int a2), (3, .int a3), (4, .int v3)]) [1, 2, 3, 4, 0] rfl ?_
        exact hj5 w21
      refine tz_goto 59 (zd DX7_act 25 rfl) rfl ?_
      refine tz_iconst (0 : Int32) zk_iconst_0 (zd DX7_act 29 rfl) ?_
      exact tz_zret0 rfl (zd DX7_act 30 rfl)
    refine tz_aload_n 1 rfl (zd DX7_act 13 rfl) ?_
    refine tz_getR 4 1 kz7 (zs_0) (by decide) (by decide) rfl wk_185 (zd DX7_act 14 rfl) ?_
    refine tz_aload_n 2 rfl (zd DX7_act 15 rfl) ?_
    refine tz_cVN_n kz6 (zs_4) rfl (rest := []) (YX6_turn) wn_531 (tX6_turn r1 (hr1) w) rfl rfl (Nat.le_of_ble_eq_true rfl) ⟨Nat.le_of_ble_eq_true rfl, Nat.le_of_ble_eq_true rfl⟩ (zd DX7_act 16 rfl) (fun v27 w25 e26 => ?_)
    refine tz_iconst (1 : Int32) zk_iconst_1 (zd DX7_act 17 rfl) ?_
    exact tz_zret1 rfl (zd DX7_act 18 rfl)
  refine tz_ite ?_
  refine tz_icmp_eq 12 (zd DX7_act 2 rfl) rfl (fun q1 => ?_) (fun q1 => ?_)
  · refine tz_iconst (1 : Int32) zk_iconst_1 (zd DX7_act 6 rfl) ?_
    refine tz_goto 17 (zd DX7_act 7 rfl) rfl ?_
    exact hJ17 (1 : Int32)
  refine tz_iload_n 2 rfl (zd DX7_act 3 rfl) ?_
  refine tz_bipush (98 : Int32) zk_bipush_98 (zd DX7_act 4 rfl) ?_
  refine tz_ite ?_
  refine tz_icmp_ne 16 (zd DX7_act 5 rfl) rfl (fun q2 => ?_) (fun q2 => ?_)
  · refine tz_iconst (0 : Int32) zk_iconst_0 (zd DX7_act 8 rfl) ?_
    exact hJ17 (0 : Int32)
  refine tz_iconst (1 : Int32) zk_iconst_1 (zd DX7_act 6 rfl) ?_
  refine tz_goto 17 (zd DX7_act 7 rfl) rfl ?_
  exact hJ17 (1 : Int32)
def QX7_run : List (Nat × Instr × Nat) := [(0, .aload_n 0, 1), (1, .iload_n 1, 1), (2, .invokevirtual 158, 3), (5, .astore_n 2, 1), (6, .aload_n 0, 1), (7, .getfield 46, 3), (10, .getfield 82, 3), (13, .istore_n 3, 1), (14, .aload_n 0, 1), (15, .getfield 46, 3), (18, .invokevirtual 220, 3), (21, .istore 4, 2), (23, .aload_n 0, 1), (24, .getfield 46, 3), (27, .iconst 0, 1), (28, .putfield 82, 3), (31, .aload_n 2, 1), (32, .ifnonnull 5, 3), (35, .iconst (-1), 1), (36, .ireturn, 1), (37, .iload 4, 2), (39, .iconst (-1), 1), (40, .if_icmp .eq 9, 3), (43, .bipush (-21), 2), (45, .iload 4, 2), (47, .isub, 1), (48, .ireturn, 1), (49, .aload_n 0, 1), (50, .getfield 21, 3), (53, .getfield 172, 3), (56, .istore 5, 2), (58, .iconst 0, 1), (59, .istore 6, 2), (61, .iconst 0, 1), (62, .istore 7, 2), (64, .iconst 0, 1), (65, .istore 8, 2), (67, .iload 8, 2), (69, .iload_n 3, 1), (70, .if_icmp .ge 79, 3), (73, .iload 7, 2), (75, .ifCond .ne 74, 3), (78, .aload_n 0, 1), (79, .getfield 46, 3), (82, .iload 8, 2), (84, .invokevirtual 223, 3), (87, .ifCond .eq 56, 3), (90, .aload_n 0, 1), (91, .aload_n 2, 1), (92, .aload_n 0, 1), (93, .getfield 46, 3), (96, .iload 8, 2), (98, .invokevirtual 226, 3), (101, .aload_n 0, 1), (102, .getfield 46, 3), (105, .iload 8, 2), (107, .iload_n 3, 1), (108, .invokevirtual 229, 3), (111, .invokevirtual 232, 3), (114, .istore 9, 2), (116, .iload 6, 2), (118, .iload 9, 2), (120, .ifCond .eq 7, 3), (123, .iconst 1, 1), (124, .goto 4, 3), (127, .iconst 0, 1), (128, .iadd, 1), (129, .istore 6, 2), (131, .iload 9, 2), (133, .ifCond .eq 7, 3), (136, .iconst 0, 1), (137, .goto 4, 3), (140, .iconst 1, 1), (141, .istore 7, 2), (143, .iinc 8 1, 3), (146, .goto (-79), 3), (149, .aload_n 0, 1), (150, .aload_n 2, 1), (151, .iconst 0, 1), (152, .aload_n 2, 1), (153, .invokevirtual 165, 3), (156, .invokevirtual 206, 3), (159, .aload_n 0, 1), (160, .iload 7, 2), (162, .i2l, 1), (163, .aload_n 0, 1), (164, .getfield 21, 3), (167, .getfield 172, 3), (170, .iload 5, 2), (172, .isub, 1), (173, .i2l, 1), (174, .aload_n 0, 1), (175, .getfield 10, 3), (178, .getfield 116, 3), (181, .aload_n 0, 1), (182, .getfield 10, 3), (185, .getfield 120, 3), (188, .invokevirtual 127, 3), (191, .iload 6, 2), (193, .ireturn, 1)]
set_option maxRecDepth 100000 in
theorem DX7_run : ∀ q ∈ QX7_run, decode cX7_run q.1 = .ok (q.2.1, q.2.2) := by decide +kernel
abbrev MX7_run : zM := (cX7_run, "EndSums", 10, (some .int), { frames := 6, cells := 0, slots := 0, locals := 163 })
def fX7_run_L67 (r2 : Nat) (x3 : Int32) (x5 : Int32) : Nat → Int32 → Int32 → Int32 → zW → Option (Int32 × zW)
  | 0, _, _, _, _ => none
  | n + 1, x6, x7, x8, w =>
    lt (fun (w17 : zW) =>
      bd (fX1_size r2 w17) fun v20 w18 =>
      bd (fX7_sumUp r2 (0 : Int32) v20 w18) fun _ w21 =>
      bd (fX7_tell___ (x7).toInt64 ((zI w21 4 1) - x5).toInt64 (zL w21 1 2) (zL w21 1 3) w21) fun _ w24 =>
      some (x6, w24)) fun j17 =>
    if x3 ≤ x8 then
      j17 w
    else
    if ¬ x7 = (0 : Int32) then
      j17 w
    else
    bd (fX5_isAct x8 w) fun b31 w29 =>
    lt (fun (y6_143 : Int32) (y7_143 : Int32) (w32 : zW) =>
      fX7_run_L67 r2 x3 x5 n y6_143 y7_143 (x8 + (1 : Int32)) w32) fun j32 =>
    if b31 = true then
      bd (fX5_signAt x8 w29) fun v36 w34 =>
      bd (fX5_itemBehind x8 x3 w34) fun v39 w37 =>
      bd (fX7_act r2 v36 v39 w37) fun b42 w40 =>
      lt (zb b42) fun v43 =>
      lt (if v43 = (0 : Int32) then (0 : Int32) else (1 : Int32)) fun v45 =>
      lt (x6 + v45) fun v46 =>
      lt (if v43 = (0 : Int32) then (1 : Int32) else (0 : Int32)) fun v48 =>
      j32 v46 v48 w40
    else
    j32 x6 x7 w29
def fX7_run (a1 : Int32) (w : zW) : Option (Int32 × zW) :=
  bd (fX7_lineAt a1 w) fun o3 w1 => oc o3 (
    lt (zI w1 64 0) fun v5 =>
    bd (fX5_firstWrongInActs w1) fun v8 w6 =>
    lt (zsI w6 64 0 (0 : Int32)) fun w9 =>
    some ((-1 : Int32), w9)) fun l4 =>
    lt (zI w1 64 0) fun v10 =>
    bd (fX5_firstWrongInActs w1) fun v13 w11 =>
    lt (zsI w11 64 0 (0 : Int32)) fun w14 =>
    if v13 = (-1 : Int32) then
      lt (zI w14 4 1) fun v16 =>
      fX7_run_L67 l4 v10 v16 zFU (0 : Int32) (0 : Int32) (0 : Int32) w14
    else
    some (((-21 : Int32) - v13), w14)
theorem YX7_run : zYV yX7_run MX7_run 1 := ⟨wk_570, wk_1, ⟨wk_568, wk_569⟩, ⟨by decide, by decide, by decide +kernel⟩, rfl, rfl⟩
set_option maxHeartbeats 4000000 in
set_option maxRecDepth 100000 in
theorem lX7_run_L67 (r2 : Nat) (hr2 : zc 1 r2) (x3 : Int32) (x5 : Int32) : ∀ (n : Nat) (x6 : Int32) (x7 : Int32) (x8 : Int32) (w : zW), Tz MX7_run (zRet zi) (fX7_run_L67 r2 x3 x5 n x6 x7 x8 w) 67 [(0, .ref 0), (2, .ref r2), (3, .int x3), (5, .int x5), (6, .int x6), (7, .int x7), (8, .int x8)] [] w := by
  intro n
  induction n with
  | zero => intro x6 x7 x8 w; exact tz_eq (fX7_run_L67.eq_1 _ _ _ _ _ _ _) tz_none
  | succ n ih =>
    intro x6 x7 x8 w
    refine tz_eq (fX7_run_L67.eq_2 _ _ _ _ _ _ _ _) ?_
    refine tz_iload 6 rfl (zd DX7_run 37 rfl) ?_
    refine tz_iload_n 2 rfl (zd DX7_run 38 rfl) ?_
    refine tz_jp (P := fun j => ∀ (w17 : zW), Tz MX7_run (zRet zi) (j w17) 149 [(0, .ref 0), (2, .ref r2), (5, .int x5), (6, .int x6), (7, .int x7)] [] w17) ?_ (fun j17 hj17 => ?_)
    · intro w17
      refine tz_aload_n 0 rfl (zd DX7_run 76 rfl) ?_
      refine tz_aload_n 1 rfl (zd DX7_run 77 rfl) ?_
      refine tz_iconst (0 : Int32) zk_iconst_0 (zd DX7_run 78 rfl) ?_
      refine tz_aload_n 1 rfl (zd DX7_run 79 rfl) ?_
      refine tz_cVN_i kz1 (hr2) rfl (rest := [.int (0 : Int32), .ref r2, .ref 0]) (YX1_size) wn_486 (tX1_size r2 (hr2) w17) rfl rfl (Nat.le_of_ble_eq_true rfl) ⟨Nat.le_of_ble_eq_true rfl, Nat.le_of_ble_eq_true rfl⟩ (zd DX7_run 80 rfl) (fun v20 w18 e19 => ?_)
      refine tz_cV_n kz7 (zs_0) rfl (rest := []) (YX7_sumUp) wk_559 (tX7_sumUp r2 (hr2) (0 : Int32) v20 w18) rfl rfl (Nat.le_of_ble_eq_true rfl) ⟨Nat.le_of_ble_eq_true rfl, Nat.le_of_ble_eq_true rfl⟩ (zd DX7_run 81 rfl) (fun v23 w21 e22 => ?_)
      refine tz_aload_n 0 rfl (zd DX7_run 82 rfl) ?_
      refine tz_iload 4 rfl (zd DX7_run 83 rfl) ?_
      refine tz_i2l (zd DX7_run 84 rfl) ?_
      refine tz_aload_n 0 rfl (zd DX7_run 85 rfl) ?_
      refine tz_getR 4 1 kz7 (zs_0) (by decide) (by decide) rfl wk_185 (zd DX7_run 86 rfl) ?_
      refine tz_getIN 1 kz6 (zs_4) (by decide) rfl wn_77 (zd DX7_run 87 rfl) ?_
      refine tz_iload 2 rfl (zd DX7_run 88 rfl) ?_
      refine tz_isub (zd DX7_run 89 rfl) ?_
      refine tz_i2l (zd DX7_run 90 rfl) ?_
      refine tz_aload_n 0 rfl (zd DX7_run 91 rfl) ?_
      refine tz_getR 1 0 kz7 (zs_0) (by decide) (by decide) rfl wk_184 (zd DX7_run 92 rfl) ?_
      refine tz_getJN 2 kz0 (zs_1) (by decide) rfl wn_56 (zd DX7_run 93 rfl) ?_
      refine tz_aload_n 0 rfl (zd DX7_run 94 rfl) ?_
      refine tz_getR 1 0 kz7 (zs_0) (by decide) (by decide) rfl wk_184 (zd DX7_run 95 rfl) ?_
      refine tz_getJN 3 kz0 (zs_1) (by decide) rfl wn_59 (zd DX7_run 96 rfl) ?_
      refine tz_cV_n kz7 (zs_0) rfl (rest := []) (YX7_tell___) wk_426 (tX7_tell___ (x7).toInt64 ((zI w21 4 1) - x5).toInt64 (zL w21 1 2) (zL w21 1 3) w21) rfl rfl (Nat.le_of_ble_eq_true rfl) ⟨Nat.le_of_ble_eq_true rfl, Nat.le_of_ble_eq_true rfl⟩ (zd DX7_run 97 rfl) (fun v26 w24 e25 => ?_)
      refine tz_iload 3 rfl (zd DX7_run 98 rfl) ?_
      exact tz_iret rfl (zd DX7_run 99 rfl)
    refine tz_icmp_ge 149 (zd DX7_run 39 rfl) rfl (fun q27 => ?_) (fun q27 => ?_)
    · refine tz_lv (lv2 := [(0, .ref 0), (2, .ref r2), (5, .int x5), (6, .int x6), (7, .int x7)]) [0, 1, 3, 4, 5] rfl ?_
      exact hj17 w
    refine tz_iload 5 rfl (zd DX7_run 40 rfl) ?_
    refine tz_if_ne 149 (zd DX7_run 41 rfl) rfl (fun q28 => ?_) (fun q28 => ?_)
    · refine tz_lv (lv2 := [(0, .ref 0), (2, .ref r2), (5, .int x5), (6, .int x6), (7, .int x7)]) [0, 1, 3, 4, 5] rfl ?_
      exact hj17 w
    refine tz_aload_n 0 rfl (zd DX7_run 42 rfl) ?_
    refine tz_getR 64 5 kz7 (zs_0) (by decide) (by decide) rfl wk_189 (zd DX7_run 43 rfl) ?_
    refine tz_iload 6 rfl (zd DX7_run 44 rfl) ?_
    refine tz_cVN_z kz5 (zs_64) rfl (rest := []) (YX5_isAct) wn_591 (tX5_isAct x8 w) rfl rfl (Nat.le_of_ble_eq_true rfl) ⟨Nat.le_of_ble_eq_true rfl, Nat.le_of_ble_eq_true rfl⟩ (zd DX7_run 45 rfl) (fun b31 w29 e30 => ?_)
    refine tz_jp (P := fun j => ∀ (y6_143 : Int32) (y7_143 : Int32) (w32 : zW), Tz MX7_run (zRet zi) (j y6_143 y7_143 w32) 143 [(0, .ref 0), (2, .ref r2), (3, .int x3), (5, .int x5), (6, .int y6_143), (7, .int y7_143), (8, .int x8)] [] w32) ?_ (fun j32 hj32 => ?_)
    · intro y6_143 y7_143 w32
      refine tz_iinc 6 (1 : Int32) [(8, .int (x8 + (1 : Int32))), (0, .ref 0), (2, .ref r2), (3, .int x3), (5, .int x5), (6, .int y6_143), (7, .int y7_143)] rfl zk_iconst_1 (Nat.le_of_ble_eq_true rfl) rfl (zd DX7_run 74 rfl) ?_
      refine tz_goto 67 (zd DX7_run 75 rfl) rfl ?_
      refine tz_lv (lv2 := [(0, .ref 0), (2, .ref r2), (3, .int x3), (5, .int x5), (6, .int y6_143), (7, .int y7_143), (8, .int (x8 + (1 : Int32)))]) [1, 2, 3, 4, 5, 6, 0] rfl ?_
      exact ih y6_143 y7_143 (x8 + (1 : Int32)) w32
    refine tz_bif_eq 143 (zd DX7_run 46 rfl) rfl (fun q33 => ?_) (fun q33 => ?_)
    · refine tz_aload_n 0 rfl (zd DX7_run 47 rfl) ?_
      refine tz_aload_n 1 rfl (zd DX7_run 48 rfl) ?_
      refine tz_aload_n 0 rfl (zd DX7_run 49 rfl) ?_
      refine tz_getR 64 5 kz7 (zs_0) (by decide) (by decide) rfl wk_189 (zd DX7_run 50 rfl) ?_
      refine tz_iload 6 rfl (zd DX7_run 51 rfl) ?_
      refine tz_cVN_i kz5 (zs_64) rfl (rest := [.ref r2, .ref 0]) (YX5_signAt) wn_592 (tX5_signAt x8 w29) rfl rfl (Nat.le_of_ble_eq_true rfl) ⟨Nat.le_of_ble_eq_true rfl, Nat.le_of_ble_eq_true rfl⟩ (zd DX7_run 52 rfl) (fun v36 w34 e35 => ?_)
      refine tz_aload_n 0 rfl (zd DX7_run 53 rfl) ?_
      refine tz_getR 64 5 kz7 (zs_0) (by decide) (by decide) rfl wk_189 (zd DX7_run 54 rfl) ?_
      refine tz_iload 6 rfl (zd DX7_run 55 rfl) ?_
      refine tz_iload_n 2 rfl (zd DX7_run 56 rfl) ?_
      refine tz_cVN_i kz5 (zs_64) rfl (rest := [.int v36, .ref r2, .ref 0]) (YX5_itemBehind) wn_593 (tX5_itemBehind x8 x3 w34) rfl rfl (Nat.le_of_ble_eq_true rfl) ⟨Nat.le_of_ble_eq_true rfl, Nat.le_of_ble_eq_true rfl⟩ (zd DX7_run 57 rfl) (fun v39 w37 e38 => ?_)
      refine tz_cV_z kz7 (zs_0) rfl (rest := []) (YX7_act) wk_597 (tX7_act r2 (hr2) v36 v39 w37) rfl rfl (Nat.le_of_ble_eq_true rfl) ⟨Nat.le_of_ble_eq_true rfl, Nat.le_of_ble_eq_true rfl⟩ (zd DX7_run 58 rfl) (fun b42 w40 e41 => ?_)
      refine tz_lti (fun v43 => ?_)
      refine tz_istore [(9, .int v43), (0, .ref 0), (2, .ref r2), (3, .int x3), (5, .int x5), (6, .int x6), (7, .int x7), (8, .int x8)] (Nat.le_of_ble_eq_true rfl) rfl (zd DX7_run 59 rfl) ?_
      refine tz_iload 5 rfl (zd DX7_run 60 rfl) ?_
      refine tz_iload 0 rfl (zd DX7_run 61 rfl) ?_
      refine tz_dia (P := fun F => ∀ v : Int32, Tz MX7_run (zRet zi) (F v) 128 [(9, .int v43), (0, .ref 0), (2, .ref r2), (3, .int x3), (5, .int x5), (6, .int x6), (7, .int x7), (8, .int x8)] (.int v :: [.int x6]) w40) ?_ (fun _ hJ128 => ?_)
      · intro v45
        refine tz_iadd (zd DX7_run 66 rfl) ?_
        refine tz_lti (fun v46 => ?_)
        refine tz_istore [(6, .int v46), (9, .int v43), (0, .ref 0), (2, .ref r2), (3, .int x3), (5, .int x5), (7, .int x7), (8, .int x8)] (Nat.le_of_ble_eq_true rfl) rfl (zd DX7_run 67 rfl) ?_
        refine tz_iload 1 rfl (zd DX7_run 68 rfl) ?_
        refine tz_dia (P := fun F => ∀ v : Int32, Tz MX7_run (zRet zi) (F v) 141 [(6, .int v46), (9, .int v43), (0, .ref 0), (2, .ref r2), (3, .int x3), (5, .int x5), (7, .int x7), (8, .int x8)] (.int v :: []) w40) ?_ (fun _ hJ141 => ?_)
        · intro v48
          refine tz_istore [(7, .int v48), (6, .int v46), (9, .int v43), (0, .ref 0), (2, .ref r2), (3, .int x3), (5, .int x5), (8, .int x8)] (Nat.le_of_ble_eq_true rfl) rfl (zd DX7_run 73 rfl) ?_
          refine tz_lv (lv2 := [(0, .ref 0), (2, .ref r2), (3, .int x3), (5, .int x5), (6, .int v46), (7, .int v48), (8, .int x8)]) [3, 4, 5, 6, 1, 0, 7] rfl ?_
          exact hj32 v46 v48 w40
        refine tz_ite ?_
        refine tz_if_eq 140 (zd DX7_run 69 rfl) rfl (fun q47 => ?_) (fun q47 => ?_)
        · refine tz_iconst (1 : Int32) zk_iconst_1 (zd DX7_run 72 rfl) ?_
          exact hJ141 (1 : Int32)
        refine tz_iconst (0 : Int32) zk_iconst_0 (zd DX7_run 70 rfl) ?_
        refine tz_goto 141 (zd DX7_run 71 rfl) rfl ?_
        exact hJ141 (0 : Int32)
      refine tz_ite ?_
      refine tz_if_eq 127 (zd DX7_run 62 rfl) rfl (fun q44 => ?_) (fun q44 => ?_)
      · refine tz_iconst (0 : Int32) zk_iconst_0 (zd DX7_run 65 rfl) ?_
        exact hJ128 (0 : Int32)
      refine tz_iconst (1 : Int32) zk_iconst_1 (zd DX7_run 63 rfl) ?_
      refine tz_goto 128 (zd DX7_run 64 rfl) rfl ?_
      exact hJ128 (1 : Int32)
    exact hj32 x6 x7 w29
set_option maxHeartbeats 4000000 in
set_option maxRecDepth 100000 in
theorem tX7_run (a1 : Int32) (w : zW) : Sm yX7_run MX7_run zi [.ref 0, .int a1] w (fX7_run a1 w) := by
  refine Sm_of (lv0 := [(0, .ref 0), (1, .int a1)]) (by decide) rfl (fun _ => Nat.le_of_ble_eq_true rfl) rfl ?_
  unfold fX7_run
  refine tz_aload_n 0 rfl (zd DX7_run 0 rfl) ?_
  refine tz_iload_n 1 rfl (zd DX7_run 1 rfl) ?_
  refine tz_cV_o kz7 (zs_0) rfl (rest := []) (YX7_lineAt) wk_226 (tX7_lineAt a1 w) rfl rfl (Nat.le_of_ble_eq_true rfl) ⟨Nat.le_of_ble_eq_true rfl, Nat.le_of_ble_eq_true rfl⟩ (zd DX7_run 2 rfl) (fun w1 e2 => ?_) (fun l4 w1 e2 => ?_)
  · refine tz_astore_nN [(2, .null), (0, .ref 0), (1, .int a1)] (Nat.le_of_ble_eq_true rfl) rfl (zd DX7_run 3 rfl) ?_
    refine tz_aload_n 1 rfl (zd DX7_run 4 rfl) ?_
    refine tz_getR 64 5 kz7 (zs_0) (by decide) (by decide) rfl wk_189 (zd DX7_run 5 rfl) ?_
    refine tz_getIN 0 kz5 (zs_64) (by decide) rfl wn_150 (zd DX7_run 6 rfl) ?_
    refine tz_lti (fun v5 => ?_)
    refine tz_istore_n [(3, .int v5), (2, .null), (0, .ref 0), (1, .int a1)] (Nat.le_of_ble_eq_true rfl) rfl (zd DX7_run 7 rfl) ?_
    refine tz_aload_n 2 rfl (zd DX7_run 8 rfl) ?_
    refine tz_getR 64 5 kz7 (zs_0) (by decide) (by decide) rfl wk_189 (zd DX7_run 9 rfl) ?_
    refine tz_cVN_i kz5 (zs_64) rfl (rest := []) (YX5_firstWrongInActs) wn_571 (tX5_firstWrongInActs w1) rfl rfl (Nat.le_of_ble_eq_true rfl) ⟨Nat.le_of_ble_eq_true rfl, Nat.le_of_ble_eq_true rfl⟩ (zd DX7_run 10 rfl) (fun v8 w6 e7 => ?_)
    refine tz_istore [(4, .int v8), (3, .int v5), (2, .null), (0, .ref 0), (1, .int a1)] (Nat.le_of_ble_eq_true rfl) rfl (zd DX7_run 11 rfl) ?_
    refine tz_aload_n 3 rfl (zd DX7_run 12 rfl) ?_
    refine tz_getR 64 5 kz7 (zs_0) (by decide) (by decide) rfl wk_189 (zd DX7_run 13 rfl) ?_
    refine tz_iconst (0 : Int32) zk_iconst_0 (zd DX7_run 14 rfl) ?_
    refine tz_putIN 0 kz5 (zs_64) (by decide) rfl rfl wn_150 (zd DX7_run 15 rfl) (fun w9 => ?_)
    refine tz_aload_nN 2 rfl (zd DX7_run 16 rfl) ?_
    refine tz_ifnonnullN (zd DX7_run 17 rfl) ?_
    refine tz_iconst (-1 : Int32) zk_iconst_m1 (zd DX7_run 18 rfl) ?_
    exact tz_iret rfl (zd DX7_run 19 rfl)
  refine tz_astore_n [(2, .ref l4), (0, .ref 0), (1, .int a1)] (Nat.le_of_ble_eq_true rfl) rfl (zd DX7_run 3 rfl) ?_
  refine tz_aload_n 1 rfl (zd DX7_run 4 rfl) ?_
  refine tz_getR 64 5 kz7 (zs_0) (by decide) (by decide) rfl wk_189 (zd DX7_run 5 rfl) ?_
  refine tz_getIN 0 kz5 (zs_64) (by decide) rfl wn_150 (zd DX7_run 6 rfl) ?_
  refine tz_lti (fun v10 => ?_)
  refine tz_istore_n [(3, .int v10), (2, .ref l4), (0, .ref 0), (1, .int a1)] (Nat.le_of_ble_eq_true rfl) rfl (zd DX7_run 7 rfl) ?_
  refine tz_aload_n 2 rfl (zd DX7_run 8 rfl) ?_
  refine tz_getR 64 5 kz7 (zs_0) (by decide) (by decide) rfl wk_189 (zd DX7_run 9 rfl) ?_
  refine tz_cVN_i kz5 (zs_64) rfl (rest := []) (YX5_firstWrongInActs) wn_571 (tX5_firstWrongInActs w1) rfl rfl (Nat.le_of_ble_eq_true rfl) ⟨Nat.le_of_ble_eq_true rfl, Nat.le_of_ble_eq_true rfl⟩ (zd DX7_run 10 rfl) (fun v13 w11 e12 => ?_)
  refine tz_istore [(4, .int v13), (3, .int v10), (2, .ref l4), (0, .ref 0), (1, .int a1)] (Nat.le_of_ble_eq_true rfl) rfl (zd DX7_run 11 rfl) ?_
  refine tz_aload_n 3 rfl (zd DX7_run 12 rfl) ?_
  refine tz_getR 64 5 kz7 (zs_0) (by decide) (by decide) rfl wk_189 (zd DX7_run 13 rfl) ?_
  refine tz_iconst (0 : Int32) zk_iconst_0 (zd DX7_run 14 rfl) ?_
  refine tz_putIN 0 kz5 (zs_64) (by decide) rfl rfl wn_150 (zd DX7_run 15 rfl) (fun w14 => ?_)
  refine tz_aload_n 2 rfl (zd DX7_run 16 rfl) ?_
  refine tz_ifnonnull 37 (zd DX7_run 17 rfl) rfl ?_
  refine tz_iload 0 rfl (zd DX7_run 20 rfl) ?_
  refine tz_iconst (-1 : Int32) zk_iconst_m1 (zd DX7_run 21 rfl) ?_
  refine tz_icmp_eq 49 (zd DX7_run 22 rfl) rfl (fun q15 => ?_) (fun q15 => ?_)
  · refine tz_aload_n 3 rfl (zd DX7_run 27 rfl) ?_
    refine tz_getR 4 1 kz7 (zs_0) (by decide) (by decide) rfl wk_185 (zd DX7_run 28 rfl) ?_
    refine tz_getIN 1 kz6 (zs_4) (by decide) rfl wn_77 (zd DX7_run 29 rfl) ?_
    refine tz_lti (fun v16 => ?_)
    refine tz_istore [(5, .int v16), (4, .int v13), (3, .int v10), (2, .ref l4), (0, .ref 0), (1, .int a1)] (Nat.le_of_ble_eq_true rfl) rfl (zd DX7_run 30 rfl) ?_
    refine tz_iconst (0 : Int32) zk_iconst_0 (zd DX7_run 31 rfl) ?_
    refine tz_istore [(6, .int (0 : Int32)), (5, .int v16), (4, .int v13), (3, .int v10), (2, .ref l4), (0, .ref 0), (1, .int a1)] (Nat.le_of_ble_eq_true rfl) rfl (zd DX7_run 32 rfl) ?_
    refine tz_iconst (0 : Int32) zk_iconst_0 (zd DX7_run 33 rfl) ?_
    refine tz_istore [(7, .int (0 : Int32)), (6, .int (0 : Int32)), (5, .int v16), (4, .int v13), (3, .int v10), (2, .ref l4), (0, .ref 0), (1, .int a1)] (Nat.le_of_ble_eq_true rfl) rfl (zd DX7_run 34 rfl) ?_
    refine tz_iconst (0 : Int32) zk_iconst_0 (zd DX7_run 35 rfl) ?_
    refine tz_istore [(8, .int (0 : Int32)), (7, .int (0 : Int32)), (6, .int (0 : Int32)), (5, .int v16), (4, .int v13), (3, .int v10), (2, .ref l4), (0, .ref 0), (1, .int a1)] (Nat.le_of_ble_eq_true rfl) rfl (zd DX7_run 36 rfl) ?_
    refine tz_lv (lv2 := [(0, .ref 0), (2, .ref l4), (3, .int v10), (5, .int v16), (6, .int (0 : Int32)), (7, .int (0 : Int32)), (8, .int (0 : Int32))]) [7, 6, 5, 3, 2, 1, 0] rfl ?_
    exact lX7_run_L67 l4 (fX7_lineAt_c e2) v10 v16 zFU (0 : Int32) (0 : Int32) (0 : Int32) w14
  refine tz_bipush (-21 : Int32) zk_bipush_m21 (zd DX7_run 23 rfl) ?_
  refine tz_iload 0 rfl (zd DX7_run 24 rfl) ?_
  refine tz_isub (zd DX7_run 25 rfl) ?_
  exact tz_iret rfl (zd DX7_run 26 rfl)
def QX7_sign : List (Nat × Instr × Nat) := [(0, .aload_n 0, 1), (1, .getfield 46, 3), (4, .getfield 82, 3), (7, .iconst 4, 1), (8, .iadd, 1), (9, .bipush 100, 2), (11, .if_icmp .le 5, 3), (14, .iconst (-1), 1), (15, .ireturn, 1), (16, .bipush 24, 2), (18, .istore_n 2, 1), (19, .iload_n 2, 1), (20, .ifCond .lt 23, 3), (23, .aload_n 0, 1), (24, .getfield 46, 3), (27, .iload_n 1, 1), (28, .iload_n 2, 1), (29, .ishr, 1), (30, .sipush 255, 3), (33, .iand, 1), (34, .invokevirtual 236, 3), (37, .iinc 2 (-8), 3), (40, .goto (-21), 3), (43, .aload_n 0, 1), (44, .getfield 46, 3), (47, .getfield 82, 3), (50, .ireturn, 1)]
set_option maxRecDepth 100000 in
theorem DX7_sign : ∀ q ∈ QX7_sign, decode cX7_sign q.1 = .ok (q.2.1, q.2.2) := by decide +kernel
abbrev MX7_sign : zM := (cX7_sign, "EndSums", 3, (some .int), { frames := 2, cells := 0, slots := 0, locals := 43 })
def fX7_sign_L19 (x1 : Int32) : Nat → Int32 → zW → Option (Int32 × zW)
  | 0, _, _ => none
  | n + 1, x2, w =>
    if x2 < (0 : Int32) then
      some ((zI w 64 0), w)
    else
    bd (fX5_grow ((x1 >>> (x2 &&& 31)) &&& (255 : Int32)) w) fun _ w3 =>
    fX7_sign_L19 x1 n (x2 + (-8 : Int32)) w3
def fX7_sign (a1 : Int32) (w : zW) : Option (Int32 × zW) :=
  if ((zI w 64 0) + (4 : Int32)) ≤ (100 : Int32) then
    fX7_sign_L19 a1 zFU (24 : Int32) w
  else
  some ((-1 : Int32), w)
theorem YX7_sign : zYV yX7_sign MX7_sign 1 := ⟨wk_604, wk_1, ⟨wk_602, wk_603⟩, ⟨by decide, by decide, by decide +kernel⟩, rfl, rfl⟩
set_option maxHeartbeats 4000000 in
set_option maxRecDepth 100000 in
theorem lX7_sign_L19 (x1 : Int32) : ∀ (n : Nat) (x2 : Int32) (w : zW), Tz MX7_sign (zRet zi) (fX7_sign_L19 x1 n x2 w) 19 [(0, .ref 0), (1, .int x1), (2, .int x2)] [] w := by
  intro n
  induction n with
  | zero => intro x2 w; exact tz_eq (fX7_sign_L19.eq_1 _ _ _) tz_none
  | succ n ih =>
    intro x2 w
    refine tz_eq (fX7_sign_L19.eq_2 _ _ _ _) ?_
    refine tz_iload_n 2 rfl (zd DX7_sign 11 rfl) ?_
    refine tz_if_lt 43 (zd DX7_sign 12 rfl) rfl (fun q2 => ?_) (fun q2 => ?_)
    · refine tz_aload_n 0 rfl (zd DX7_sign 23 rfl) ?_
      refine tz_getR 64 5 kz7 (zs_0) (by decide) (by decide) rfl wk_189 (zd DX7_sign 24 rfl) ?_
      refine tz_getIN 0 kz5 (zs_64) (by decide) rfl wn_150 (zd DX7_sign 25 rfl) ?_
      exact tz_iret rfl (zd DX7_sign 26 rfl)
    refine tz_aload_n 0 rfl (zd DX7_sign 13 rfl) ?_
    refine tz_getR 64 5 kz7 (zs_0) (by decide) (by decide) rfl wk_189 (zd DX7_sign 14 rfl) ?_
    refine tz_iload_n 1 rfl (zd DX7_sign 15 rfl) ?_
    refine tz_iload_n 2 rfl (zd DX7_sign 16 rfl) ?_
    refine tz_ishr (zd DX7_sign 17 rfl) ?_
    refine tz_sipush (255 : Int32) zk_sipush_255 (zd DX7_sign 18 rfl) ?_
    refine tz_iand (zd DX7_sign 19 rfl) ?_
    refine tz_cVN_n kz5 (zs_64) rfl (rest := []) (YX5_grow) wn_605 (tX5_grow ((x1 >>> (x2 &&& 31)) &&& (255 : Int32)) w) rfl rfl (Nat.le_of_ble_eq_true rfl) ⟨Nat.le_of_ble_eq_true rfl, Nat.le_of_ble_eq_true rfl⟩ (zd DX7_sign 20 rfl) (fun v5 w3 e4 => ?_)
    refine tz_iinc 2 (-8 : Int32) [(2, .int (x2 + (-8 : Int32))), (0, .ref 0), (1, .int x1)] rfl zk_iconst_m8 (Nat.le_of_ble_eq_true rfl) rfl (zd DX7_sign 21 rfl) ?_
    refine tz_goto 19 (zd DX7_sign 22 rfl) rfl ?_
    refine tz_lv (lv2 := [(0, .ref 0), (1, .int x1), (2, .int (x2 + (-8 : Int32)))]) [1, 2, 0] rfl ?_
    exact ih (x2 + (-8 : Int32)) w3
set_option maxHeartbeats 4000000 in
set_option maxRecDepth 100000 in
theorem tX7_sign (a1 : Int32) (w : zW) : Sm yX7_sign MX7_sign zi [.ref 0, .int a1] w (fX7_sign a1 w) := by
  refine Sm_of (lv0 := [(0, .ref 0), (1, .int a1)]) (by decide) rfl (fun _ => Nat.le_of_ble_eq_true rfl) rfl ?_
  unfold fX7_sign
  refine tz_aload_n 0 rfl (zd DX7_sign 0 rfl) ?_
  refine tz_getR 64 5 kz7 (zs_0) (by decide) (by decide) rfl wk_189 (zd DX7_sign 1 rfl) ?_
  refine tz_getIN 0 kz5 (zs_64) (by decide) rfl wn_150 (zd DX7_sign 2 rfl) ?_
  refine tz_iconst (4 : Int32) zk_iconst_4 (zd DX7_sign 3 rfl) ?_
  refine tz_iadd (zd DX7_sign 4 rfl) ?_
  refine tz_bipush (100 : Int32) zk_bipush_100 (zd DX7_sign 5 rfl) ?_
  refine tz_icmp_le 16 (zd DX7_sign 6 rfl) rfl (fun q1 => ?_) (fun q1 => ?_)
  · refine tz_bipush (24 : Int32) zk_bipush_24 (zd DX7_sign 9 rfl) ?_
    refine tz_istore_n [(2, .int (24 : Int32)), (0, .ref 0), (1, .int a1)] (Nat.le_of_ble_eq_true rfl) rfl (zd DX7_sign 10 rfl) ?_
    refine tz_lv (lv2 := [(0, .ref 0), (1, .int a1), (2, .int (24 : Int32))]) [1, 2, 0] rfl ?_
    exact lX7_sign_L19 a1 zFU (24 : Int32) w
  refine tz_iconst (-1 : Int32) zk_iconst_m1 (zd DX7_sign 7 rfl) ?_
  exact tz_iret rfl (zd DX7_sign 8 rfl)
