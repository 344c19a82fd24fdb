def QX8_sums : List (Nat × Instr × Nat) := [(0, .aload_n 0, 1), (1, .invokevirtual 168, 3), (4, .aload_n 0, 1), (5, .getfield 96, 3), (8, .lstore 4, 2), (10, .aload_n 0, 1), (11, .getfield 100, 3), (14, .lstore 6, 2), (16, .iconst 0, 1), (17, .istore 8, 2), (19, .iload 8, 2), (21, .iload_n 3, 1), (22, .if_icmp .ge 55, 3), (25, .aload_n 0, 1), (26, .aload_n 0, 1), (27, .iload_n 1, 1), (28, .iload_n 2, 1), (29, .iload 8, 2), (31, .iadd, 1), (32, .invokevirtual 190, 3), (35, .invokevirtual 148, 3), (38, .iload 8, 2), (40, .ifCond .le 19, 3), (43, .aload_n 0, 1), (44, .lload 4, 2), (46, .lload 6, 2), (48, .aload_n 0, 1), (49, .getfield 96, 3), (52, .aload_n 0, 1), (53, .getfield 100, 3), (56, .invokevirtual 152, 3), (59, .aload_n 0, 1), (60, .getfield 96, 3), (63, .lstore 4, 2), (65, .aload_n 0, 1), (66, .getfield 100, 3), (69, .lstore 6, 2), (71, .iinc 8 1, 3), (74, .goto (-55), 3), (77, .aload_n 0, 1), (78, .lload 4, 2), (80, .lload 6, 2), (82, .invokevirtual 107, 3), (85, .return_, 1)]
set_option maxRecDepth 100000 in
theorem DX8_sums : ∀ q ∈ QX8_sums, decode cX8_sums q.1 = .ok (q.2.1, q.2.2) := by decide +kernel
abbrev MX8_sums : zM := (cX8_sums, "EndSumsModel", 9, none, { frames := 4, cells := 0, slots := 0, locals := 100 })
def fX8_sums_L19 (x1 : Int32) (x2 : Int32) (x3 : Int32) : Nat → Int64 → Int64 → Int32 → zW → Option (Unit × zW)
  | 0, _, _, _, _ => none
  | n + 1, x4, x6, x8, w =>
    if x3 ≤ x8 then
      bd (fX8_is x4 x6 w) fun _ w7 =>
      some ((), w7)
    else
    bd (fX8_itemAt x1 (x2 + x8) w) fun v12 w10 =>
    bd (fX8_element v12 w10) fun _ w13 =>
    lt (fun (w16 : zW) =>
      lt (zL w16 74 11) fun v17 =>
      lt (zL w16 74 12) fun v18 =>
      fX8_sums_L19 x1 x2 x3 n v17 v18 (x8 + (1 : Int32)) w16) fun j16 =>
    if x8 ≤ (0 : Int32) then
      j16 w13
    else
    bd (fX8_join x4 x6 (zL w13 74 11) (zL w13 74 12) w13) fun _ w20 =>
    j16 w20
def fX8_sums (a1 : Int32) (a2 : Int32) (a3 : Int32) (w : zW) : Option (Unit × zW) :=
  bd (fX8_empty w) fun _ w1 =>
  lt (zL w1 74 11) fun v4 =>
  lt (zL w1 74 12) fun v5 =>
  fX8_sums_L19 a1 a2 a3 zFU v4 v5 (0 : Int32) w1
theorem YX8_sums : zYV yX8_sums MX8_sums 3 := ⟨wk_1215, wk_9, ⟨wk_1214, ws_110⟩, ⟨by decide, by decide, by decide +kernel⟩, rfl, rfl⟩
set_option maxHeartbeats 4000000 in
set_option maxRecDepth 100000 in
theorem lX8_sums_L19 (x1 : Int32) (x2 : Int32) (x3 : Int32) : ∀ (n : Nat) (x4 : Int64) (x6 : Int64) (x8 : Int32) (w : zW), Tz MX8_sums (zRet zn) (fX8_sums_L19 x1 x2 x3 n x4 x6 x8 w) 19 [(0, .ref 74), (1, .int x1), (2, .int x2), (3, .int x3), (4, .long x4), (6, .long x6), (8, .int x8)] [] w := by
  intro n
  induction n with
  | zero => intro x4 x6 x8 w; exact tz_eq (fX8_sums_L19.eq_1 _ _ _ _ _ _ _) tz_none
  | succ n ih =>
    intro x4 x6 x8 w
    refine tz_eq (fX8_sums_L19.eq_2 _ _ _ _ _ _ _ _) ?_
    refine tz_iload 6 rfl (zd DX8_sums 10 rfl) ?_
    refine tz_iload_n 3 rfl (zd DX8_sums 11 rfl) ?_
    refine tz_icmp_ge 77 (zd DX8_sums 12 rfl) rfl (fun q6 => ?_) (fun q6 => ?_)
    · refine tz_aload_n 0 rfl (zd DX8_sums 39 rfl) ?_
      refine tz_lload 4 rfl (zd DX8_sums 40 rfl) ?_
      refine tz_lload 5 rfl (zd DX8_sums 41 rfl) ?_
      refine tz_cV_n kz8 (zs_74) rfl (rest := []) (YX8_is) wk_970 (tX8_is x4 x6 w) rfl rfl (Nat.le_of_ble_eq_true rfl) ⟨Nat.le_of_ble_eq_true rfl, Nat.le_of_ble_eq_true rfl⟩ (zd DX8_sums 42 rfl) (fun v9 w7 e8 => ?_)
      exact tz_vret rfl (zd DX8_sums 43 rfl)
    refine tz_aload_n 0 rfl (zd DX8_sums 13 rfl) ?_
    refine tz_aload_n 0 rfl (zd DX8_sums 14 rfl) ?_
    refine tz_iload_n 1 rfl (zd DX8_sums 15 rfl) ?_
    refine tz_iload_n 2 rfl (zd DX8_sums 16 rfl) ?_
    refine tz_iload 6 rfl (zd DX8_sums 17 rfl) ?_
    refine tz_iadd (zd DX8_sums 18 rfl) ?_
    refine tz_cV_i kz8 (zs_74) rfl (rest := [.ref 74]) (YX8_itemAt) wk_1046 (tX8_itemAt x1 (x2 + x8) w) rfl rfl (Nat.le_of_ble_eq_true rfl) ⟨Nat.le_of_ble_eq_true rfl, Nat.le_of_ble_eq_true rfl⟩ (zd DX8_sums 19 rfl) (fun v12 w10 e11 => ?_)
    refine tz_cV_n kz8 (zs_74) rfl (rest := []) (YX8_element) wk_966 (tX8_element v12 w10) rfl rfl (Nat.le_of_ble_eq_true rfl) ⟨Nat.le_of_ble_eq_true rfl, Nat.le_of_ble_eq_true rfl⟩ (zd DX8_sums 20 rfl) (fun v15 w13 e14 => ?_)
    refine tz_iload 6 rfl (zd DX8_sums 21 rfl) ?_
    refine tz_jp (P := fun j => ∀ (w16 : zW), Tz MX8_sums (zRet zn) (j w16) 59 [(0, .ref 74), (1, .int x1), (2, .int x2), (3, .int x3), (8, .int x8)] [] w16) ?_ (fun j16 hj16 => ?_)
    · intro w16
      refine tz_aload_n 0 rfl (zd DX8_sums 31 rfl) ?_
      refine tz_getJ 11 kz8 (zs_74) (by decide) rfl wk_868 (zd DX8_sums 32 rfl) ?_
      refine tz_ltl (fun v17 => ?_)
      refine tz_lstore [(4, .long v17), (0, .ref 74), (1, .int x1), (2, .int x2), (3, .int x3), (8, .int x8)] (Nat.le_of_ble_eq_true rfl) rfl (zd DX8_sums 33 rfl) ?_
      refine tz_aload_n 1 rfl (zd DX8_sums 34 rfl) ?_
      refine tz_getJ 12 kz8 (zs_74) (by decide) rfl wk_869 (zd DX8_sums 35 rfl) ?_
      refine tz_ltl (fun v18 => ?_)
      refine tz_lstore [(6, .long v18), (4, .long v17), (0, .ref 74), (1, .int x1), (2, .int x2), (3, .int x3), (8, .int x8)] (Nat.le_of_ble_eq_true rfl) rfl (zd DX8_sums 36 rfl) ?_
      refine tz_iinc 6 (1 : Int32) [(8, .int (x8 + (1 : Int32))), (6, .long v18), (4, .long v17), (0, .ref 74), (1, .int x1), (2, .int x2), (3, .int x3)] rfl zk_iconst_1 (Nat.le_of_ble_eq_true rfl) rfl (zd DX8_sums 37 rfl) ?_
      refine tz_goto 19 (zd DX8_sums 38 rfl) rfl ?_
      refine tz_lv (lv2 := [(0, .ref 74), (1, .int x1), (2, .int x2), (3, .int x3), (4, .long v17), (6, .long v18), (8, .int (x8 + (1 : Int32)))]) [3, 4, 5, 6, 2, 1, 0] rfl ?_
      exact ih v17 v18 (x8 + (1 : Int32)) w16
    refine tz_if_le 59 (zd DX8_sums 22 rfl) rfl (fun q19 => ?_) (fun q19 => ?_)
    · refine tz_lv (lv2 := [(0, .ref 74), (1, .int x1), (2, .int x2), (3, .int x3), (8, .int x8)]) [0, 1, 2, 3, 6] rfl ?_
      exact hj16 w13
    refine tz_aload_n 0 rfl (zd DX8_sums 23 rfl) ?_
    refine tz_lload 4 rfl (zd DX8_sums 24 rfl) ?_
    refine tz_lload 5 rfl (zd DX8_sums 25 rfl) ?_
    refine tz_aload_n 0 rfl (zd DX8_sums 26 rfl) ?_
    refine tz_getJ 11 kz8 (zs_74) (by decide) rfl wk_868 (zd DX8_sums 27 rfl) ?_
    refine tz_aload_n 0 rfl (zd DX8_sums 28 rfl) ?_
    refine tz_getJ 12 kz8 (zs_74) (by decide) rfl wk_869 (zd DX8_sums 29 rfl) ?_
    refine tz_cV_n kz8 (zs_74) rfl (rest := []) (YX8_join) wk_984 (tX8_join x4 x6 (zL w13 74 11) (zL w13 74 12) w13) rfl rfl (Nat.le_of_ble_eq_true rfl) ⟨Nat.le_of_ble_eq_true rfl, Nat.le_of_ble_eq_true rfl⟩ (zd DX8_sums 30 rfl) (fun v22 w20 e21 => ?_)
    refine tz_lv (lv2 := [(0, .ref 74), (1, .int x1), (2, .int x2), (3, .int x3), (8, .int x8)]) [0, 1, 2, 3, 6] rfl ?_
    exact hj16 w20
set_option maxHeartbeats 4000000 in
set_option maxRecDepth 100000 in
theorem tX8_sums (a1 : Int32) (a2 : Int32) (a3 : Int32) (w : zW) : Sm yX8_sums MX8_sums zn [.ref 74, .int a1, .int a2, .int a3] w (fX8_sums a1 a2 a3 w) := by
  refine Sm_of (lv0 := [(0, .ref 74), (1, .int a1), (2, .int a2), (3, .int a3)]) (by decide) rfl (fun _ => Nat.le_of_ble_eq_true rfl) rfl ?_
  unfold fX8_sums
  refine tz_aload_n 0 rfl (zd DX8_sums 0 rfl) ?_
  refine tz_cV_n kz8 (zs_74) rfl (rest := []) (YX8_empty) wk_1015 (tX8_empty w) rfl rfl (Nat.le_of_ble_eq_true rfl) ⟨Nat.le_of_ble_eq_true rfl, Nat.le_of_ble_eq_true rfl⟩ (zd DX8_sums 1 rfl) (fun v3 w1 e2 => ?_)
  refine tz_aload_n 0 rfl (zd DX8_sums 2 rfl) ?_
  refine tz_getJ 11 kz8 (zs_74) (by decide) rfl wk_868 (zd DX8_sums 3 rfl) ?_
  refine tz_ltl (fun v4 => ?_)
  refine tz_lstore [(4, .long v4), (0, .ref 74), (1, .int a1), (2, .int a2), (3, .int a3)] (Nat.le_of_ble_eq_true rfl) rfl (zd DX8_sums 4 rfl) ?_
  refine tz_aload_n 1 rfl (zd DX8_sums 5 rfl) ?_
  refine tz_getJ 12 kz8 (zs_74) (by decide) rfl wk_869 (zd DX8_sums 6 rfl) ?_
  refine tz_ltl (fun v5 => ?_)
  refine tz_lstore [(6, .long v5), (4, .long v4), (0, .ref 74), (1, .int a1), (2, .int a2), (3, .int a3)] (Nat.le_of_ble_eq_true rfl) rfl (zd DX8_sums 7 rfl) ?_
  refine tz_iconst (0 : Int32) zk_iconst_0 (zd DX8_sums 8 rfl) ?_
  refine tz_istore [(8, .int (0 : Int32)), (6, .long v5), (4, .long v4), (0, .ref 74), (1, .int a1), (2, .int a2), (3, .int a3)] (Nat.le_of_ble_eq_true rfl) rfl (zd DX8_sums 9 rfl) ?_
  refine tz_lv (lv2 := [(0, .ref 74), (1, .int a1), (2, .int a2), (3, .int a3), (4, .long v4), (6, .long v5), (8, .int (0 : Int32))]) [3, 4, 5, 6, 2, 1, 0] rfl ?_
  exact lX8_sums_L19 a1 a2 a3 zFU v4 v5 (0 : Int32) w1
def QX8_part : List (Nat × Instr × Nat) := [(0, .aload_n 0, 1), (1, .iconst 0, 1), (2, .putfield 1, 3), (5, .iload_n 1, 1), (6, .invokestatic 237, 3), (9, .ifCond .ne 5, 3), (12, .iconst (-1), 1), (13, .ireturn, 1), (14, .iload_n 2, 1), (15, .ifCond .lt 17, 3), (18, .iload_n 3, 1), (19, .iload_n 2, 1), (20, .if_icmp .lt 12, 3), (23, .iload_n 3, 1), (24, .aload_n 0, 1), (25, .iload_n 1, 1), (26, .invokevirtual 187, 3), (29, .if_icmp .le 6, 3), (32, .bipush (-2), 2), (34, .ireturn, 1), (35, .aload_n 0, 1), (36, .iload_n 1, 1), (37, .iload_n 2, 1), (38, .iload_n 3, 1), (39, .iload_n 2, 1), (40, .isub, 1), (41, .invokevirtual 280, 3), (44, .aload_n 0, 1), (45, .iconst 0, 1), (46, .putfield 11, 3), (49, .aload_n 0, 1), (50, .aload_n 0, 1), (51, .getfield 96, 3), (54, .invokevirtual 164, 3), (57, .aload_n 0, 1), (58, .aload_n 0, 1), (59, .getfield 100, 3), (62, .invokevirtual 164, 3), (65, .iload_n 3, 1), (66, .iload_n 2, 1), (67, .isub, 1), (68, .ireturn, 1)]
set_option maxRecDepth 100000 in
theorem DX8_part : ∀ q ∈ QX8_part, decode cX8_part q.1 = .ok (q.2.1, q.2.2) := by decide +kernel
abbrev MX8_part : zM := (cX8_part, "EndSumsModel", 4, (some .int), { frames := 5, cells := 0, slots := 0, locals := 128 })
def fX8_part (a1 : Int32) (a2 : Int32) (a3 : Int32) (w : zW) : Option (Int32 × zW) :=
  lt (zsI w 74 0 (0 : Int32)) fun w1 =>
  bd (fX8_isLine a1 w1) fun b4 w2 =>
  if b4 = true then
    if a2 < (0 : Int32) then
      some ((-2 : Int32), w2)
    else
    if a3 < a2 then
      some ((-2 : Int32), w2)
    else
    bd (fX8_sizeOf a1 w2) fun v10 w8 =>
    if a3 ≤ v10 then
      bd (fX8_sums a1 a2 (a3 - a2) w8) fun _ w12 =>
      lt (zsI w12 74 1 (0 : Int32)) fun w15 =>
      bd (fX8_enters (zL w15 74 11) w15) fun _ w16 =>
      bd (fX8_enters (zL w16 74 12) w16) fun _ w19 =>
      some ((a3 - a2), w19)
    else
    some ((-2 : Int32), w8)
  else
  some ((-1 : Int32), w2)
theorem YX8_part : zYV yX8_part MX8_part 3 := ⟨wk_1211, wk_9, ⟨wk_1209, wk_1210⟩, ⟨by decide, by decide, by decide +kernel⟩, rfl, rfl⟩
set_option maxHeartbeats 4000000 in
set_option maxRecDepth 100000 in
theorem tX8_part (a1 : Int32) (a2 : Int32) (a3 : Int32) (w : zW) : Sm yX8_part MX8_part zi [.ref 74, .int a1, .int a2, .int a3] w (fX8_part a1 a2 a3 w) := by
  refine Sm_of (lv0 := [(0, .ref 74), (1, .int a1), (2, .int a2), (3, .int a3)]) (by decide) rfl (fun _ => Nat.le_of_ble_eq_true rfl) rfl ?_
  unfold fX8_part
  refine tz_aload_n 0 rfl (zd DX8_part 0 rfl) ?_
  refine tz_iconst (0 : Int32) zk_iconst_0 (zd DX8_part 1 rfl) ?_
  refine tz_putI 0 kz8 (zs_74) (by decide) rfl rfl wk_857 (zd DX8_part 2 rfl) (fun w1 => ?_)
  refine tz_iload_n 1 rfl (zd DX8_part 3 rfl) ?_
  refine tz_cS_z (rest := []) (YX8_isLine) wk_1104 (tX8_isLine a1 w1) rfl rfl (Nat.le_of_ble_eq_true rfl) ⟨Nat.le_of_ble_eq_true rfl, Nat.le_of_ble_eq_true rfl⟩ (zd DX8_part 4 rfl) (fun b4 w2 e3 => ?_)
  refine tz_bif_ne 14 (zd DX8_part 5 rfl) rfl (fun q5 => ?_) (fun q5 => ?_)
  · refine tz_iload_n 2 rfl (zd DX8_part 8 rfl) ?_
    refine tz_if_lt 32 (zd DX8_part 9 rfl) rfl (fun q6 => ?_) (fun q6 => ?_)
    · refine tz_bipush (-2 : Int32) zk_bipush_m2 (zd DX8_part 18 rfl) ?_
      exact tz_iret rfl (zd DX8_part 19 rfl)
    refine tz_iload_n 3 rfl (zd DX8_part 10 rfl) ?_
    refine tz_iload_n 2 rfl (zd DX8_part 11 rfl) ?_
    refine tz_icmp_lt 32 (zd DX8_part 12 rfl) rfl (fun q7 => ?_) (fun q7 => ?_)
    · refine tz_bipush (-2 : Int32) zk_bipush_m2 (zd DX8_part 18 rfl) ?_
      exact tz_iret rfl (zd DX8_part 19 rfl)
    refine tz_iload_n 3 rfl (zd DX8_part 13 rfl) ?_
    refine tz_aload_n 0 rfl (zd DX8_part 14 rfl) ?_
    refine tz_iload_n 1 rfl (zd DX8_part 15 rfl) ?_
    refine tz_cV_i kz8 (zs_74) rfl (rest := [.int a3]) (YX8_sizeOf) wk_1042 (tX8_sizeOf a1 w2) rfl rfl (Nat.le_of_ble_eq_true rfl) ⟨Nat.le_of_ble_eq_true rfl, Nat.le_of_ble_eq_true rfl⟩ (zd DX8_part 16 rfl) (fun v10 w8 e9 => ?_)
    refine tz_icmp_le 35 (zd DX8_part 17 rfl) rfl (fun q11 => ?_) (fun q11 => ?_)
    · refine tz_aload_n 0 rfl (zd DX8_part 20 rfl) ?_
      refine tz_iload_n 1 rfl (zd DX8_part 21 rfl) ?_
      refine tz_iload_n 2 rfl (zd DX8_part 22 rfl) ?_
      refine tz_iload_n 3 rfl (zd DX8_part 23 rfl) ?_
      refine tz_iload_n 2 rfl (zd DX8_part 24 rfl) ?_
      refine tz_isub (zd DX8_part 25 rfl) ?_
      refine tz_cV_n kz8 (zs_74) rfl (rest := []) (YX8_sums) wk_1212 (tX8_sums a1 a2 (a3 - a2) w8) rfl rfl (Nat.le_of_ble_eq_true rfl) ⟨Nat.le_of_ble_eq_true rfl, Nat.le_of_ble_eq_true rfl⟩ (zd DX8_part 26 rfl) (fun v14 w12 e13 => ?_)
      refine tz_aload_n 0 rfl (zd DX8_part 27 rfl) ?_
      refine tz_iconst (0 : Int32) zk_iconst_0 (zd DX8_part 28 rfl) ?_
      refine tz_putI 1 kz8 (zs_74) (by decide) rfl rfl wk_858 (zd DX8_part 29 rfl) (fun w15 => ?_)
      refine tz_aload_n 0 rfl (zd DX8_part 30 rfl) ?_
      refine tz_aload_n 0 rfl (zd DX8_part 31 rfl) ?_
      refine tz_getJ 11 kz8 (zs_74) (by decide) rfl wk_868 (zd DX8_part 32 rfl) ?_
      refine tz_cV_n kz8 (zs_74) rfl (rest := []) (YX8_enters) wk_1002 (tX8_enters (zL w15 74 11) w15) rfl rfl (Nat.le_of_ble_eq_true rfl) ⟨Nat.le_of_ble_eq_true rfl, Nat.le_of_ble_eq_true rfl⟩ (zd DX8_part 33 rfl) (fun v18 w16 e17 => ?_)
      refine tz_aload_n 0 rfl (zd DX8_part 34 rfl) ?_
      refine tz_aload_n 0 rfl (zd DX8_part 35 rfl) ?_
      refine tz_getJ 12 kz8 (zs_74) (by decide) rfl wk_869 (zd DX8_part 36 rfl) ?_
      refine tz_cV_n kz8 (zs_74) rfl (rest := []) (YX8_enters) wk_1002 (tX8_enters (zL w16 74 12) w16) rfl rfl (Nat.le_of_ble_eq_true rfl) ⟨Nat.le_of_ble_eq_true rfl, Nat.le_of_ble_eq_true rfl⟩ (zd DX8_part 37 rfl) (fun v21 w19 e20 => ?_)
      refine tz_iload_n 3 rfl (zd DX8_part 38 rfl) ?_
      refine tz_iload_n 2 rfl (zd DX8_part 39 rfl) ?_
      refine tz_isub (zd DX8_part 40 rfl) ?_
      exact tz_iret rfl (zd DX8_part 41 rfl)
    refine tz_bipush (-2 : Int32) zk_bipush_m2 (zd DX8_part 18 rfl) ?_
    exact tz_iret rfl (zd DX8_part 19 rfl)
  refine tz_iconst (-1 : Int32) zk_iconst_m1 (zd DX8_part 6 rfl) ?_
  exact tz_iret rfl (zd DX8_part 7 rfl)
def QX8_windows : List (Nat × Instr × Nat) := [(0, .aload_n 0, 1), (1, .iconst 0, 1), (2, .putfield 1, 3), (5, .iload_n 1, 1), (6, .invokestatic 237, 3), (9, .ifCond .eq 15, 3), (12, .iload_n 2, 1), (13, .i2l, 1), (14, .lconst 1, 1), (15, .ldc2_w 266, 3), (18, .invokestatic 21, 3), (21, .ifCond .ne 5, 3), (24, .iconst (-1), 1), (25, .ireturn, 1), (26, .aload_n 0, 1), (27, .iload_n 1, 1), (28, .invokevirtual 187, 3), (31, .iload_n 2, 1), (32, .isub, 1), (33, .iconst 1, 1), (34, .iadd, 1), (35, .istore_n 3, 1), (36, .iload_n 3, 1), (37, .iconst 1, 1), (38, .if_icmp .ge 6, 3), (41, .bipush (-2), 2), (43, .ireturn, 1), (44, .aload_n 0, 1), (45, .iconst 0, 1), (46, .putfield 11, 3), (49, .iconst 0, 1), (50, .istore 4, 2), (52, .iload 4, 2), (54, .iload_n 3, 1), (55, .if_icmp .ge 33, 3), (58, .aload_n 0, 1), (59, .iload_n 1, 1), (60, .iload 4, 2), (62, .iload_n 2, 1), (63, .invokevirtual 280, 3), (66, .aload_n 0, 1), (67, .aload_n 0, 1), (68, .getfield 96, 3), (71, .invokevirtual 164, 3), (74, .aload_n 0, 1), (75, .aload_n 0, 1), (76, .getfield 100, 3), (79, .invokevirtual 164, 3), (82, .iinc 4 1, 3), (85, .goto (-33), 3), (88, .iload_n 3, 1), (89, .ireturn, 1)]
set_option maxRecDepth 100000 in
theorem DX8_windows : ∀ q ∈ QX8_windows, decode cX8_windows q.1 = .ok (q.2.1, q.2.2) := by decide +kernel
abbrev MX8_windows : zM := (cX8_windows, "EndSumsModel", 5, (some .int), { frames := 5, cells := 0, slots := 0, locals := 128 })
def fX8_windows_L52 (x1 : Int32) (x2 : Int32) (x3 : Int32) : Nat → Int32 → zW → Option (Int32 × zW)
  | 0, _, _ => none
  | n + 1, x4, w =>
    if x3 ≤ x4 then
      some (x3, w)
    else
    bd (fX8_sums x1 x4 x2 w) fun _ w17 =>
    bd (fX8_enters (zL w17 74 11) w17) fun _ w20 =>
    bd (fX8_enters (zL w20 74 12) w20) fun _ w23 =>
    fX8_windows_L52 x1 x2 x3 n (x4 + (1 : Int32)) w23
def fX8_windows (a1 : Int32) (a2 : Int32) (w : zW) : Option (Int32 × zW) :=
  lt (zsI w 74 0 (0 : Int32)) fun w1 =>
  bd (fX8_isLine a1 w1) fun b4 w2 =>
  if b4 = true then
    bd (fX8_in (a2).toInt64 (1 : Int64) (64 : Int64) w2) fun b8 w6 =>
    if b8 = true then
      bd (fX8_sizeOf a1 w6) fun v12 w10 =>
      lt ((v12 - a2) + (1 : Int32)) fun v13 =>
      if (1 : Int32) ≤ v13 then
        lt (zsI w10 74 1 (0 : Int32)) fun w15 =>
        fX8_windows_L52 a1 a2 v13 zFU (0 : Int32) w15
      else
      some ((-2 : Int32), w10)
    else
    some ((-1 : Int32), w6)
  else
  some ((-1 : Int32), w2)
theorem YX8_windows : zYV yX8_windows MX8_windows 2 := ⟨wk_1219, wk_9, ⟨wk_1217, wk_1218⟩, ⟨by decide, by decide, by decide +kernel⟩, rfl, rfl⟩
set_option maxHeartbeats 4000000 in
set_option maxRecDepth 100000 in
theorem lX8_windows_L52 (x1 : Int32) (x2 : Int32) (x3 : Int32) : ∀ (n : Nat) (x4 : Int32) (w : zW), Tz MX8_windows (zRet zi) (fX8_windows_L52 x1 x2 x3 n x4 w) 52 [(0, .ref 74), (1, .int x1), (2, .int x2), (3, .int x3), (4, .int x4)] [] w := by
  intro n
  induction n with
  | zero => intro x4 w; exact tz_eq (fX8_windows_L52.eq_1 _ _ _ _ _) tz_none
  | succ n ih =>
    intro x4 w
    refine tz_eq (fX8_windows_L52.eq_2 _ _ _ _ _ _) ?_
    refine tz_iload 4 rfl (zd DX8_windows 32 rfl) ?_
    refine tz_iload_n 3 rfl (zd DX8_windows 33 rfl) ?_
    refine tz_icmp_ge 88 (zd DX8_windows 34 rfl) rfl (fun q16 => ?_) (fun q16 => ?_)
    · refine tz_iload_n 3 rfl (zd DX8_windows 50 rfl) ?_
      exact tz_iret rfl (zd DX8_windows 51 rfl)
    refine tz_aload_n 0 rfl (zd DX8_windows 35 rfl) ?_
    refine tz_iload_n 1 rfl (zd DX8_windows 36 rfl) ?_
    refine tz_iload 4 rfl (zd DX8_windows 37 rfl) ?_
    refine tz_iload_n 2 rfl (zd DX8_windows 38 rfl) ?_
    refine tz_cV_n kz8 (zs_74) rfl (rest := []) (YX8_sums) wk_1212 (tX8_sums x1 x4 x2 w) rfl rfl (Nat.le_of_ble_eq_true rfl) ⟨Nat.le_of_ble_eq_true rfl, Nat.le_of_ble_eq_true rfl⟩ (zd DX8_windows 39 rfl) (fun v19 w17 e18 => ?_)
    refine tz_aload_n 0 rfl (zd DX8_windows 40 rfl) ?_
    refine tz_aload_n 0 rfl (zd DX8_windows 41 rfl) ?_
    refine tz_getJ 11 kz8 (zs_74) (by decide) rfl wk_868 (zd DX8_windows 42 rfl) ?_
    refine tz_cV_n kz8 (zs_74) rfl (rest := []) (YX8_enters) wk_1002 (tX8_enters (zL w17 74 11) w17) rfl rfl (Nat.le_of_ble_eq_true rfl) ⟨Nat.le_of_ble_eq_true rfl, Nat.le_of_ble_eq_true rfl⟩ (zd DX8_windows 43 rfl) (fun v22 w20 e21 => ?_)
    refine tz_aload_n 0 rfl (zd DX8_windows 44 rfl) ?_
    refine tz_aload_n 0 rfl (zd DX8_windows 45 rfl) ?_
    refine tz_getJ 12 kz8 (zs_74) (by decide) rfl wk_869 (zd DX8_windows 46 rfl) ?_
    refine tz_cV_n kz8 (zs_74) rfl (rest := []) (YX8_enters) wk_1002 (tX8_enters (zL w20 74 12) w20) rfl rfl (Nat.le_of_ble_eq_true rfl) ⟨Nat.le_of_ble_eq_true rfl, Nat.le_of_ble_eq_true rfl⟩ (zd DX8_windows 47 rfl) (fun v25 w23 e24 => ?_)
    refine tz_iinc 4 (1 : Int32) [(4, .int (x4 + (1 : Int32))), (0, .ref 74), (1, .int x1), (2, .int x2), (3, .int x3)] rfl zk_iconst_1 (Nat.le_of_ble_eq_true rfl) rfl (zd DX8_windows 48 rfl) ?_
    refine tz_goto 52 (zd DX8_windows 49 rfl) rfl ?_
    refine tz_lv (lv2 := [(0, .ref 74), (1, .int x1), (2, .int x2), (3, .int x3), (4, .int (x4 + (1 : Int32)))]) [1, 2, 3, 4, 0] rfl ?_
    exact ih (x4 + (1 : Int32)) w23
set_option maxHeartbeats 4000000 in
set_option maxRecDepth 100000 in
theorem tX8_windows (a1 : Int32) (a2 : Int32) (w : zW) : Sm yX8_windows MX8_windows zi [.ref 74, .int a1, .int a2] w (fX8_windows a1 a2 w) := by
  refine Sm_of (lv0 := [(0, .ref 74), (1, .int a1), (2, .int a2)]) (by decide) rfl (fun _ => Nat.le_of_ble_eq_true rfl) rfl ?_
  unfold fX8_windows
  refine tz_aload_n 0 rfl (zd DX8_windows 0 rfl) ?_
  refine tz_iconst (0 : Int32) zk_iconst_0 (zd DX8_windows 1 rfl) ?_
  refine tz_putI 0 kz8 (zs_74) (by decide) rfl rfl wk_857 (zd DX8_windows 2 rfl) (fun w1 => ?_)
  refine tz_iload_n 1 rfl (zd DX8_windows 3 rfl) ?_
  refine tz_cS_z (rest := []) (YX8_isLine) wk_1104 (tX8_isLine a1 w1) rfl rfl (Nat.le_of_ble_eq_true rfl) ⟨Nat.le_of_ble_eq_true rfl, Nat.le_of_ble_eq_true rfl⟩ (zd DX8_windows 4 rfl) (fun b4 w2 e3 => ?_)
  refine tz_bif_eq 24 (zd DX8_windows 5 rfl) rfl (fun q5 => ?_) (fun q5 => ?_)
  · refine tz_iload_n 2 rfl (zd DX8_windows 6 rfl) ?_
    refine tz_i2l (zd DX8_windows 7 rfl) ?_
    refine tz_lconst (1 : Int64) rfl (zd DX8_windows 8 rfl) ?_
    refine tz_ldc2_w wk_1171 (zd DX8_windows 9 rfl) ?_
    refine tz_cS_z (rest := []) (YX8_in) wk_848 (tX8_in (a2).toInt64 (1 : Int64) (64 : Int64) w2) rfl rfl (Nat.le_of_ble_eq_true rfl) ⟨Nat.le_of_ble_eq_true rfl, Nat.le_of_ble_eq_true rfl⟩ (zd DX8_windows 10 rfl) (fun b8 w6 e7 => ?_)
    refine tz_bif_ne 26 (zd DX8_windows 11 rfl) rfl (fun q9 => ?_) (fun q9 => ?_)
    · refine tz_aload_n 0 rfl (zd DX8_windows 14 rfl) ?_
      refine tz_iload_n 1 rfl (zd DX8_windows 15 rfl) ?_
      refine tz_cV_i kz8 (zs_74) rfl (rest := []) (YX8_sizeOf) wk_1042 (tX8_sizeOf a1 w6) rfl rfl (Nat.le_of_ble_eq_true rfl) ⟨Nat.le_of_ble_eq_true rfl, Nat.le_of_ble_eq_true rfl⟩ (zd DX8_windows 16 rfl) (fun v12 w10 e11 => ?_)
      refine tz_iload_n 2 rfl (zd DX8_windows 17 rfl) ?_
      refine tz_isub (zd DX8_windows 18 rfl) ?_
      refine tz_iconst (1 : Int32) zk_iconst_1 (zd DX8_windows 19 rfl) ?_
      refine tz_iadd (zd DX8_windows 20 rfl) ?_
      refine tz_lti (fun v13 => ?_)
      refine tz_istore_n [(3, .int v13), (0, .ref 74), (1, .int a1), (2, .int a2)] (Nat.le_of_ble_eq_true rfl) rfl (zd DX8_windows 21 rfl) ?_
      refine tz_iload_n 0 rfl (zd DX8_windows 22 rfl) ?_
      refine tz_iconst (1 : Int32) zk_iconst_1 (zd DX8_windows 23 rfl) ?_
      refine tz_icmp_ge 44 (zd DX8_windows 24 rfl) rfl (fun q14 => ?_) (fun q14 => ?_)
      · refine tz_aload_n 1 rfl (zd DX8_windows 27 rfl) ?_
        refine tz_iconst (0 : Int32) zk_iconst_0 (zd DX8_windows 28 rfl) ?_
        refine tz_putI 1 kz8 (zs_74) (by decide) rfl rfl wk_858 (zd DX8_windows 29 rfl) (fun w15 => ?_)
        refine tz_iconst (0 : Int32) zk_iconst_0 (zd DX8_windows 30 rfl) ?_
        refine tz_istore [(4, .int (0 : Int32)), (3, .int v13), (0, .ref 74), (1, .int a1), (2, .int a2)] (Nat.le_of_ble_eq_true rfl) rfl (zd DX8_windows 31 rfl) ?_
        refine tz_lv (lv2 := [(0, .ref 74), (1, .int a1), (2, .int a2), (3, .int v13), (4, .int (0 : Int32))]) [2, 3, 4, 1, 0] rfl ?_
        exact lX8_windows_L52 a1 a2 v13 zFU (0 : Int32) w15
      refine tz_bipush (-2 : Int32) zk_bipush_m2 (zd DX8_windows 25 rfl) ?_
      exact tz_iret rfl (zd DX8_windows 26 rfl)
    refine tz_iconst (-1 : Int32) zk_iconst_m1 (zd DX8_windows 12 rfl) ?_
    exact tz_iret rfl (zd DX8_windows 13 rfl)
  refine tz_iconst (-1 : Int32) zk_iconst_m1 (zd DX8_windows 12 rfl) ?_
  exact tz_iret rfl (zd DX8_windows 13 rfl)
def QX8_first : List (Nat × Instr × Nat) := [(0, .aload_n 0, 1), (1, .iconst 0, 1), (2, .putfield 1, 3), (5, .iload_n 1, 1), (6, .invokestatic 237, 3), (9, .ifCond .ne 5, 3), (12, .iconst (-1), 1), (13, .ireturn, 1), (14, .iconst 1, 1), (15, .istore_n 3, 1), (16, .iload_n 3, 1), (17, .aload_n 0, 1), (18, .iload_n 1, 1), (19, .invokevirtual 187, 3), (22, .if_icmp .gt 49, 3), (25, .aload_n 0, 1), (26, .iload_n 1, 1), (27, .iconst 0, 1), (28, .iload_n 3, 1), (29, .invokevirtual 280, 3), (32, .aload_n 0, 1), (33, .getfield 96, 3), (36, .iload_n 2, 1), (37, .i2l, 1), (38, .lcmp, 1), (39, .ifCond .lt 26, 3), (42, .aload_n 0, 1), (43, .iconst 0, 1), (44, .putfield 11, 3), (47, .aload_n 0, 1), (48, .aload_n 0, 1), (49, .getfield 96, 3), (52, .invokevirtual 164, 3), (55, .aload_n 0, 1), (56, .aload_n 0, 1), (57, .getfield 100, 3), (60, .invokevirtual 164, 3), (63, .iload_n 3, 1), (64, .ireturn, 1), (65, .iinc 3 1, 3), (68, .goto (-52), 3), (71, .bipush (-2), 2), (73, .ireturn, 1)]
set_option maxRecDepth 100000 in
theorem DX8_first : ∀ q ∈ QX8_first, decode cX8_first q.1 = .ok (q.2.1, q.2.2) := by decide +kernel
abbrev MX8_first : zM := (cX8_first, "EndSumsModel", 4, (some .int), { frames := 5, cells := 0, slots := 0, locals := 128 })
def fX8_first_L16 (x1 : Int32) (x2 : Int32) : Nat → Int32 → zW → Option (Int32 × zW)
  | 0, _, _ => none
  | n + 1, x3, w =>
    bd (fX8_sizeOf x1 w) fun v8 w6 =>
    if v8 < x3 then
      some ((-2 : Int32), w6)
    else
    bd (fX8_sums x1 (0 : Int32) x3 w6) fun _ w10 =>
    if (zL w10 74 11) < (x2).toInt64 then
      fX8_first_L16 x1 x2 n (x3 + (1 : Int32)) w10
    else
    lt (zsI w10 74 1 (0 : Int32)) fun w14 =>
    bd (fX8_enters (zL w14 74 11) w14) fun _ w15 =>
    bd (fX8_enters (zL w15 74 12) w15) fun _ w18 =>
    some (x3, w18)
def fX8_first (a1 : Int32) (a2 : Int32) (w : zW) : Option (Int32 × zW) :=
  lt (zsI w 74 0 (0 : Int32)) fun w1 =>
  bd (fX8_isLine a1 w1) fun b4 w2 =>
  if b4 = true then
    fX8_first_L16 a1 a2 zFU (1 : Int32) w2
  else
  some ((-1 : Int32), w2)
theorem YX8_first : zYV yX8_first MX8_first 2 := ⟨wk_1223, wk_9, ⟨wk_1221, wk_1222⟩, ⟨by decide, by decide, by decide +kernel⟩, rfl, rfl⟩
set_option maxHeartbeats 4000000 in
set_option maxRecDepth 100000 in
theorem lX8_first_L16 (x1 : Int32) (x2 : Int32) : ∀ (n : Nat) (x3 : Int32) (w : zW), Tz MX8_first (zRet zi) (fX8_first_L16 x1 x2 n x3 w) 16 [(0, .ref 74), (1, .int x1), (2, .int x2), (3, .int x3)] [] w := by
  intro n
  induction n with
  | zero => intro x3 w; exact tz_eq (fX8_first_L16.eq_1 _ _ _ _) tz_none
  | succ n ih =>
    intro x3 w
    refine tz_eq (fX8_first_L16.eq_2 _ _ _ _ _) ?_
    refine tz_iload_n 3 rfl (zd DX8_first 10 rfl) ?_
    refine tz_aload_n 0 rfl (zd DX8_first 11 rfl) ?_
    refine tz_iload_n 1 rfl (zd DX8_first 12 rfl) ?_
    refine tz_cV_i kz8 (zs_74) rfl (rest := [.int x3]) (YX8_sizeOf) wk_1042 (tX8_sizeOf x1 w) rfl rfl (Nat.le_of_ble_eq_true rfl) ⟨Nat.le_of_ble_eq_true rfl, Nat.le_of_ble_eq_true rfl⟩ (zd DX8_first 13 rfl) (fun v8 w6 e7 => ?_)
    refine tz_icmp_gt 71 (zd DX8_first 14 rfl) rfl (fun q9 => ?_) (fun q9 => ?_)
    · refine tz_bipush (-2 : Int32) zk_bipush_m2 (zd DX8_first 41 rfl) ?_
      exact tz_iret rfl (zd DX8_first 42 rfl)
    refine tz_aload_n 0 rfl (zd DX8_first 15 rfl) ?_
    refine tz_iload_n 1 rfl (zd DX8_first 16 rfl) ?_
    refine tz_iconst (0 : Int32) zk_iconst_0 (zd DX8_first 17 rfl) ?_
    refine tz_iload_n 3 rfl (zd DX8_first 18 rfl) ?_
    refine tz_cV_n kz8 (zs_74) rfl (rest := []) (YX8_sums) wk_1212 (tX8_sums x1 (0 : Int32) x3 w6) rfl rfl (Nat.le_of_ble_eq_true rfl) ⟨Nat.le_of_ble_eq_true rfl, Nat.le_of_ble_eq_true rfl⟩ (zd DX8_first 19 rfl) (fun v12 w10 e11 => ?_)
    refine tz_aload_n 0 rfl (zd DX8_first 20 rfl) ?_
    refine tz_getJ 11 kz8 (zs_74) (by decide) rfl wk_868 (zd DX8_first 21 rfl) ?_
    refine tz_iload_n 2 rfl (zd DX8_first 22 rfl) ?_
    refine tz_i2l (zd DX8_first 23 rfl) ?_
    refine tz_lcmp_lt 65 (zd DX8_first 24 rfl) (zd DX8_first 25 rfl) rfl (fun q13 => ?_) (fun q13 => ?_)
    · refine tz_iinc 3 (1 : Int32) [(3, .int (x3 + (1 : Int32))), (0, .ref 74), (1, .int x1), (2, .int x2)] rfl zk_iconst_1 (Nat.le_of_ble_eq_true rfl) rfl (zd DX8_first 39 rfl) ?_
      refine tz_goto 16 (zd DX8_first 40 rfl) rfl ?_
      refine tz_lv (lv2 := [(0, .ref 74), (1, .int x1), (2, .int x2), (3, .int (x3 + (1 : Int32)))]) [1, 2, 3, 0] rfl ?_
      exact ih (x3 + (1 : Int32)) w10
    refine tz_aload_n 0 rfl (zd DX8_first 26 rfl) ?_
    refine tz_iconst (0 : Int32) zk_iconst_0 (zd DX8_first 27 rfl) ?_
    refine tz_putI 1 kz8 (zs_74) (by decide) rfl rfl wk_858 (zd DX8_first 28 rfl) (fun w14 => ?_)
    refine tz_aload_n 0 rfl (zd DX8_first 29 rfl) ?_
    refine tz_aload_n 0 rfl (zd DX8_first 30 rfl) ?_
    refine tz_getJ 11 kz8 (zs_74) (by decide) rfl wk_868 (zd DX8_first 31 rfl) ?_
    refine tz_cV_n kz8 (zs_74) rfl (rest := []) (YX8_enters) wk_1002 (tX8_enters (zL w14 74 11) w14) rfl rfl (Nat.le_of_ble_eq_true rfl) ⟨Nat.le_of_ble_eq_true rfl, Nat.le_of_ble_eq_true rfl⟩ (zd DX8_first 32 rfl) (fun v17 w15 e16 => ?_)
    refine tz_aload_n 0 rfl (zd DX8_first 33 rfl) ?_
    refine tz_aload_n 0 rfl (zd DX8_first 34 rfl) ?_
    refine tz_getJ 12 kz8 (zs_74) (by decide) rfl wk_869 (zd DX8_first 35 rfl) ?_
    refine tz_cV_n kz8 (zs_74) rfl (rest := []) (YX8_enters) wk_1002 (tX8_enters (zL w15 74 12) w15) rfl rfl (Nat.le_of_ble_eq_true rfl) ⟨Nat.le_of_ble_eq_true rfl, Nat.le_of_ble_eq_true rfl⟩ (zd DX8_first 36 rfl) (fun v20 w18 e19 => ?_)
    refine tz_iload_n 3 rfl (zd DX8_first 37 rfl) ?_
    exact tz_iret rfl (zd DX8_first 38 rfl)
set_option maxHeartbeats 4000000 in
set_option maxRecDepth 100000 in
theorem tX8_first (a1 : Int32) (a2 : Int32) (w : zW) : Sm yX8_first MX8_first zi [.ref 74, .int a1, .int a2] w (fX8_first a1 a2 w) := by
  refine Sm_of (lv0 := [(0, .ref 74), (1, .int a1), (2, .int a2)]) (by decide) rfl (fun _ => Nat.le_of_ble_eq_true rfl) rfl ?_
  unfold fX8_first
  refine tz_aload_n 0 rfl (zd DX8_first 0 rfl) ?_
  refine tz_iconst (0 : Int32) zk_iconst_0 (zd DX8_first 1 rfl) ?_
  refine tz_putI 0 kz8 (zs_74) (by decide) rfl rfl wk_857 (zd DX8_first 2 rfl) (fun w1 => ?_)
  refine tz_iload_n 1 rfl (zd DX8_first 3 rfl) ?_
  refine tz_cS_z (rest := []) (YX8_isLine) wk_1104 (tX8_isLine a1 w1) rfl rfl (Nat.le_of_ble_eq_true rfl) ⟨Nat.le_of_ble_eq_true rfl, Nat.le_of_ble_eq_true rfl⟩ (zd DX8_first 4 rfl) (fun b4 w2 e3 => ?_)
  refine tz_bif_ne 14 (zd DX8_first 5 rfl) rfl (fun q5 => ?_) (fun q5 => ?_)
  · refine tz_iconst (1 : Int32) zk_iconst_1 (zd DX8_first 8 rfl) ?_
    refine tz_istore_n [(3, .int (1 : Int32)), (0, .ref 74), (1, .int a1), (2, .int a2)] (Nat.le_of_ble_eq_true rfl) rfl (zd DX8_first 9 rfl) ?_
    refine tz_lv (lv2 := [(0, .ref 74), (1, .int a1), (2, .int a2), (3, .int (1 : Int32))]) [1, 2, 3, 0] rfl ?_
    exact lX8_first_L16 a1 a2 zFU (1 : Int32) w2
  refine tz_iconst (-1 : Int32) zk_iconst_m1 (zd DX8_first 6 rfl) ?_
  exact tz_iret rfl (zd DX8_first 7 rfl)
def QX8_longest : List (Nat × Instr × Nat) := [(0, .aload_n 0, 1), (1, .iconst 0, 1), (2, .putfield 1, 3), (5, .iload_n 1, 1), (6, .invokestatic 237, 3), (9, .ifCond .ne 5, 3), (12, .iconst (-1), 1), (13, .ireturn, 1), (14, .aload_n 0, 1), (15, .iload_n 1, 1), (16, .invokevirtual 187, 3), (19, .istore_n 3, 1), (20, .aload_n 0, 1), (21, .iconst 0, 1), (22, .putfield 11, 3), (25, .iload_n 3, 1), (26, .istore 4, 2), (28, .iload 4, 2), (30, .ifCond .le 56, 3), (33, .iconst 0, 1), (34, .istore 5, 2), (36, .iload 5, 2), (38, .iload 4, 2), (40, .iadd, 1), (41, .iload_n 3, 1), (42, .if_icmp .gt 38, 3), (45, .aload_n 0, 1), (46, .iload_n 1, 1), (47, .iload 5, 2), (49, .iload 4, 2), (51, .invokevirtual 280, 3), (54, .aload_n 0, 1), (55, .getfield 96, 3), (58, .iload_n 2, 1), (59, .i2l, 1), (60, .lcmp, 1), (61, .ifCond .gt 13, 3), (64, .aload_n 0, 1), (65, .iload 5, 2), (67, .i2l, 1), (68, .invokevirtual 164, 3), (71, .iload 4, 2), (73, .ireturn, 1), (74, .iinc 5 1, 3), (77, .goto (-41), 3), (80, .iinc 4 (-1), 3), (83, .goto (-55), 3), (86, .aload_n 0, 1), (87, .ldc2_w 105, 3), (90, .invokevirtual 164, 3), (93, .iconst 0, 1), (94, .ireturn, 1)]
set_option maxRecDepth 100000 in
theorem DX8_longest : ∀ q ∈ QX8_longest, decode cX8_longest q.1 = .ok (q.2.1, q.2.2) := by decide +kernel
abbrev MX8_longest : zM := (cX8_longest, "EndSumsModel", 6, (some .int), { frames := 5, cells := 0, slots := 0, locals := 128 })
def fX8_longest_L36 (x1 : Int32) (x2 : Int32) (x3 : Int32) (x4 : Int32) (j28 : Int32 → zW → Option (Int32 × zW)) : Nat → Int32 → zW → Option (Int32 × zW)
  | 0, _, _ => none
  | n + 1, x5, w =>
    if x3 < (x5 + x4) then
      j28 (x4 + (-1 : Int32)) w
    else
    bd (fX8_sums x1 x5 x4 w) fun _ w15 =>
    if (x2).toInt64 < (zL w15 74 11) then
      fX8_longest_L36 x1 x2 x3 x4 j28 n (x5 + (1 : Int32)) w15
    else
    bd (fX8_enters (x5).toInt64 w15) fun _ w19 =>
    some (x4, w19)
def fX8_longest_L28 (x1 : Int32) (x2 : Int32) (x3 : Int32) : Nat → Int32 → zW → Option (Int32 × zW)
  | 0, _, _ => none
  | n + 1, x4, w =>
    if x4 ≤ (0 : Int32) then
      bd (fX8_enters (-1 : Int64) w) fun _ w11 =>
      some ((0 : Int32), w11)
    else
    fX8_longest_L36 x1 x2 x3 x4 (fX8_longest_L28 x1 x2 x3 n) zFU (0 : Int32) w
def fX8_longest (a1 : Int32) (a2 : Int32) (w : zW) : Option (Int32 × zW) :=
  lt (zsI w 74 0 (0 : Int32)) fun w1 =>
  bd (fX8_isLine a1 w1) fun b4 w2 =>
  if b4 = true then
    bd (fX8_sizeOf a1 w2) fun v8 w6 =>
    lt (zsI w6 74 1 (0 : Int32)) fun w9 =>
    fX8_longest_L28 a1 a2 v8 zFU v8 w9
  else
  some ((-1 : Int32), w2)
theorem YX8_longest : zYV yX8_longest MX8_longest 2 := ⟨wk_1227, wk_9, ⟨wk_1225, wk_1226⟩, ⟨by decide, by decide, by decide +kernel⟩, rfl, rfl⟩
set_option maxHeartbeats 4000000 in
set_option maxRecDepth 100000 in
theorem lX8_longest_L36 (x1 : Int32) (x2 : Int32) (x3 : Int32) (x4 : Int32) (j28 : Int32 → zW → Option (Int32 × zW)) (hj28 : ∀ (y4 : Int32) (w : zW), Tz MX8_longest (zRet zi) (j28 y4 w) 28 [(0, .ref 74), (1, .int x1), (2, .int x2), (3, .int x3), (4, .int y4)] [] w) : ∀ (n : Nat) (x5 : Int32) (w : zW), Tz MX8_longest (zRet zi) (fX8_longest_L36 x1 x2 x3 x4 j28 n x5 w) 36 [(0, .ref 74), (1, .int x1), (2, .int x2), (3, .int x3), (4, .int x4), (5, .int x5)] [] w := by
  intro n
  induction n with
  | zero => intro x5 w; exact tz_eq (fX8_longest_L36.eq_1 _ _ _ _ _ _ _) tz_none
  | succ n ih =>
    intro x5 w
    refine tz_eq (fX8_longest_L36.eq_2 _ _ _ _ _ _ _ _) ?_
    refine tz_iload 5 rfl (zd DX8_longest 21 rfl) ?_
    refine tz_iload 4 rfl (zd DX8_longest 22 rfl) ?_
    refine tz_iadd (zd DX8_longest 23 rfl) ?_
    refine tz_iload_n 3 rfl (zd DX8_longest 24 rfl) ?_
    refine tz_icmp_gt 80 (zd DX8_longest 25 rfl) rfl (fun q14 => ?_) (fun q14 => ?_)
    · refine tz_iinc 4 (-1 : Int32) [(4, .int (x4 + (-1 : Int32))), (0, .ref 74), (1, .int x1), (2, .int x2), (3, .int x3), (5, .int x5)] rfl zk_iconst_m1 (Nat.le_of_ble_eq_true rfl) rfl (zd DX8_longest 45 rfl) ?_
      refine tz_goto 28 (zd DX8_longest 46 rfl) rfl ?_
      refine tz_lv (lv2 := [(0, .ref 74), (1, .int x1), (2, .int x2), (3, .int x3), (4, .int (x4 + (-1 : Int32)))]) [1, 2, 3, 4, 0] rfl ?_
      exact hj28 (x4 + (-1 : Int32)) w
    refine tz_aload_n 0 rfl (zd DX8_longest 26 rfl) ?_
    refine tz_iload_n 1 rfl (zd DX8_longest 27 rfl) ?_
    refine tz_iload 5 rfl (zd DX8_longest 28 rfl) ?_
    refine tz_iload 4 rfl (zd DX8_longest 29 rfl) ?_
    refine tz_cV_n kz8 (zs_74) rfl (rest := []) (YX8_sums) wk_1212 (tX8_sums x1 x5 x4 w) rfl rfl (Nat.le_of_ble_eq_true rfl) ⟨Nat.le_of_ble_eq_true rfl, Nat.le_of_ble_eq_true rfl⟩ (zd DX8_longest 30 rfl) (fun v17 w15 e16 => ?_)
    refine tz_aload_n 0 rfl (zd DX8_longest 31 rfl) ?_
    refine tz_getJ 11 kz8 (zs_74) (by decide) rfl wk_868 (zd DX8_longest 32 rfl) ?_
    refine tz_iload_n 2 rfl (zd DX8_longest 33 rfl) ?_
    refine tz_i2l (zd DX8_longest 34 rfl) ?_
    refine tz_lcmp_gt 74 (zd DX8_longest 35 rfl) (zd DX8_longest 36 rfl) rfl (fun q18 => ?_) (fun q18 => ?_)
    · refine tz_iinc 5 (1 : Int32) [(5, .int (x5 + (1 : Int32))), (0, .ref 74), (1, .int x1), (2, .int x2), (3, .int x3), (4, .int x4)] rfl zk_iconst_1 (Nat.le_of_ble_eq_true rfl) rfl (zd DX8_longest 43 rfl) ?_
      refine tz_goto 36 (zd DX8_longest 44 rfl) rfl ?_
      refine tz_lv (lv2 := [(0, .ref 74), (1, .int x1), (2, .int x2), (3, .int x3), (4, .int x4), (5, .int (x5 + (1 : Int32)))]) [1, 2, 3, 4, 5, 0] rfl ?_
      exact ih (x5 + (1 : Int32)) w15
    refine tz_aload_n 0 rfl (zd DX8_longest 37 rfl) ?_
    refine tz_iload 5 rfl (zd DX8_longest 38 rfl) ?_
    refine tz_i2l (zd DX8_longest 39 rfl) ?_
    refine tz_cV_n kz8 (zs_74) rfl (rest := []) (YX8_enters) wk_1002 (tX8_enters (x5).toInt64 w15) rfl rfl (Nat.le_of_ble_eq_true rfl) ⟨Nat.le_of_ble_eq_true rfl, Nat.le_of_ble_eq_true rfl⟩ (zd DX8_longest 40 rfl) (fun v21 w19 e20 => ?_)
    refine tz_iload 4 rfl (zd DX8_longest 41 rfl) ?_
    exact tz_iret rfl (zd DX8_longest 42 rfl)
set_option maxHeartbeats 4000000 in
set_option maxRecDepth 100000 in
theorem lX8_longest_L28 (x1 : Int32) (x2 : Int32) (x3 : Int32) : ∀ (n : Nat) (x4 : Int32) (w : zW), Tz MX8_longest (zRet zi) (fX8_longest_L28 x1 x2 x3 n x4 w) 28 [(0, .ref 74), (1, .int x1), (2, .int x2), (3, .int x3), (4, .int x4)] [] w := by
  intro n
  induction n with
  | zero => intro x4 w; exact tz_eq (fX8_longest_L28.eq_1 _ _ _ _ _) tz_none
  | succ n ih =>
    intro x4 w
    refine tz_eq (fX8_longest_L28.eq_2 _ _ _ _ _ _) ?_
    refine tz_iload 4 rfl (zd DX8_longest 17 rfl) ?_
    refine tz_if_le 86 (zd DX8_longest 18 rfl) rfl (fun q10 => ?_) (fun q10 => ?_)
    · refine tz_aload_n 0 rfl (zd DX8_longest 47 rfl) ?_
      refine tz_ldc2_w wk_1020 (zd DX8_longest 48 rfl) ?_
      refine tz_cV_n kz8 (zs_74) rfl (rest := []) (YX8_enters) wk_1002 (tX8_enters (-1 : Int64) w) rfl rfl (Nat.le_of_ble_eq_true rfl) ⟨Nat.le_of_ble_eq_true rfl, Nat.le_of_ble_eq_true rfl⟩ (zd DX8_longest 49 rfl) (fun v13 w11 e12 => ?_)
      refine tz_iconst (0 : Int32) zk_iconst_0 (zd DX8_longest 50 rfl) ?_
      exact tz_iret rfl (zd DX8_longest 51 rfl)
    refine tz_iconst (0 : Int32) zk_iconst_0 (zd DX8_longest 19 rfl) ?_
    refine tz_istore [(5, .int (0 : Int32)), (0, .ref 74), (1, .int x1), (2, .int x2), (3, .int x3), (4, .int x4)] (Nat.le_of_ble_eq_true rfl) rfl (zd DX8_longest 20 rfl) ?_
    refine tz_lv (lv2 := [(0, .ref 74), (1, .int x1), (2, .int x2), (3, .int x3), (4, .int x4), (5, .int (0 : Int32))]) [1, 2, 3, 4, 5, 0] rfl ?_
    exact lX8_longest_L36 x1 x2 x3 x4 _ ih zFU (0 : Int32) w
set_option maxHeartbeats 4000000 in
set_option maxRecDepth 100000 in
theorem tX8_longest (a1 : Int32) (a2 : Int32) (w : zW) : Sm yX8_longest MX8_longest zi [.ref 74, .int a1, .int a2] w (fX8_longest a1 a2 w) := by
  refine Sm_of (lv0 := [(0, .ref 74), (1, .int a1), (2, .int a2)]) (by decide) rfl (fun _ => Nat.le_of_ble_eq_true rfl) rfl ?_
  unfold fX8_longest
  refine tz_aload_n 0 rfl (zd DX8_longest 0 rfl) ?_
  refine tz_iconst (0 : Int32) zk_iconst_0 (zd DX8_longest 1 rfl) ?_
  refine tz_putI 0 kz8 (zs_74) (by decide) rfl rfl wk_857 (zd DX8_longest 2 rfl) (fun w1 => ?_)
  refine tz_iload_n 1 rfl (zd DX8_longest 3 rfl) ?_
  refine tz_cS_z (rest := []) (YX8_isLine) wk_1104 (tX8_isLine a1 w1) rfl rfl (Nat.le_of_ble_eq_true rfl) ⟨Nat.le_of_ble_eq_true rfl, Nat.le_of_ble_eq_true rfl⟩ (zd DX8_longest 4 rfl) (fun b4 w2 e3 => ?_)
  refine tz_bif_ne 14 (zd DX8_longest 5 rfl) rfl (fun q5 => ?_) (fun q5 => ?_)
  · refine tz_aload_n 0 rfl (zd DX8_longest 8 rfl) ?_
    refine tz_iload_n 1 rfl (zd DX8_longest 9 rfl) ?_
    refine tz_cV_i kz8 (zs_74) rfl (rest := []) (YX8_sizeOf) wk_1042 (tX8_sizeOf a1 w2) rfl rfl (Nat.le_of_ble_eq_true rfl) ⟨Nat.le_of_ble_eq_true rfl, Nat.le_of_ble_eq_true rfl⟩ (zd DX8_longest 10 rfl) (fun v8 w6 e7 => ?_)
    refine tz_istore_n [(3, .int v8), (0, .ref 74), (1, .int a1), (2, .int a2)] (Nat.le_of_ble_eq_true rfl) rfl (zd DX8_longest 11 rfl) ?_
    refine tz_aload_n 1 rfl (zd DX8_longest 12 rfl) ?_
    refine tz_iconst (0 : Int32) zk_iconst_0 (zd DX8_longest 13 rfl) ?_
    refine tz_putI 1 kz8 (zs_74) (by decide) rfl rfl wk_858 (zd DX8_longest 14 rfl) (fun w9 => ?_)
    refine tz_iload_n 0 rfl (zd DX8_longest 15 rfl) ?_
    refine tz_istore [(4, .int v8), (3, .int v8), (0, .ref 74), (1, .int a1), (2, .int a2)] (Nat.le_of_ble_eq_true rfl) rfl (zd DX8_longest 16 rfl) ?_
    refine tz_lv (lv2 := [(0, .ref 74), (1, .int a1), (2, .int a2), (3, .int v8), (4, .int v8)]) [2, 3, 4, 1, 0] rfl ?_
    exact lX8_longest_L28 a1 a2 v8 zFU v8 w9
  refine tz_iconst (-1 : Int32) zk_iconst_m1 (zd DX8_longest 6 rfl) ?_
  exact tz_iret rfl (zd DX8_longest 7 rfl)
def QX8_greatest : List (Nat × Instr × Nat) := [(0, .aload_n 0, 1), (1, .iconst 0, 1), (2, .putfield 1, 3), (5, .iload_n 1, 1), (6, .invokestatic 237, 3), (9, .ifCond .eq 15, 3), (12, .iload_n 2, 1), (13, .i2l, 1), (14, .lconst 1, 1), (15, .ldc2_w 266, 3), (18, .invokestatic 21, 3), (21, .ifCond .ne 5, 3), (24, .iconst (-1), 1), (25, .ireturn, 1), (26, .aload_n 0, 1), (27, .iload_n 1, 1), (28, .invokevirtual 187, 3), (31, .iload_n 2, 1), (32, .isub, 1), (33, .iconst 1, 1), (34, .iadd, 1), (35, .istore_n 3, 1), (36, .iload_n 3, 1), (37, .iconst 1, 1), (38, .if_icmp .ge 6, 3), (41, .bipush (-2), 2), (43, .ireturn, 1), (44, .iconst 0, 1), (45, .istore 4, 2), (47, .lconst 0, 1), (48, .lstore 5, 2), (50, .lconst 0, 1), (51, .lstore 7, 2), (53, .iconst 0, 1), (54, .istore 9, 2), (56, .iload 9, 2), (58, .iload_n 3, 1), (59, .if_icmp .ge 48, 3), (62, .aload_n 0, 1), (63, .iload_n 1, 1), (64, .iload 9, 2), (66, .iload_n 2, 1), (67, .invokevirtual 280, 3), (70, .iload 9, 2), (72, .ifCond .eq 13, 3), (75, .aload_n 0, 1), (76, .getfield 100, 3), (79, .lload 7, 2), (81, .lcmp, 1), (82, .ifCond .le 19, 3), (85, .iload 9, 2), (87, .istore 4, 2), (89, .aload_n 0, 1), (90, .getfield 96, 3), (93, .lstore 5, 2), (95, .aload_n 0, 1), (96, .getfield 100, 3), (99, .lstore 7, 2), (101, .iinc 9 1, 3), (104, .goto (-48), 3), (107, .aload_n 0, 1), (108, .iconst 0, 1), (109, .putfield 11, 3), (112, .aload_n 0, 1), (113, .lload 5, 2), (115, .invokevirtual 164, 3), (118, .aload_n 0, 1), (119, .lload 7, 2), (121, .invokevirtual 164, 3), (124, .iload 4, 2), (126, .ireturn, 1)]
set_option maxRecDepth 100000 in
theorem DX8_greatest : ∀ q ∈ QX8_greatest, decode cX8_greatest q.1 = .ok (q.2.1, q.2.2) := by decide +kernel
abbrev MX8_greatest : zM := (cX8_greatest, "EndSumsModel", 10, (some .int), { frames := 5, cells := 0, slots := 0, locals := 128 })
def fX8_greatest_L56 (x1 : Int32) (x2 : Int32) (x3 : Int32) : Nat → Int32 → Int64 → Int64 → Int32 → zW → Option (Int32 × zW)
  | 0, _, _, _, _, _ => none
  | n + 1, x4, x5, x7, x9, w =>
    if x3 ≤ x9 then
      lt (zsI w 74 1 (0 : Int32)) fun w16 =>
      bd (fX8_enters x5 w16) fun _ w17 =>
      bd (fX8_enters x7 w17) fun _ w20 =>
      some (x4, w20)
    else
    bd (fX8_sums x1 x9 x2 w) fun _ w23 =>
    lt (fun (y4_101 : Int32) (y5_101 : Int64) (y7_101 : Int64) (w26 : zW) =>
      fX8_greatest_L56 x1 x2 x3 n y4_101 y5_101 y7_101 (x9 + (1 : Int32)) w26) fun j26 =>
    lt (fun (w27 : zW) =>
      lt (zL w27 74 11) fun v28 =>
      lt (zL w27 74 12) fun v29 =>
      j26 x9 v28 v29 w27) fun j27 =>
    if x9 = (0 : Int32) then
      j27 w23
    else
    if (zL w23 74 12) ≤ x7 then
      j26 x4 x5 x7 w23
    else
    j27 w23
def fX8_greatest (a1 : Int32) (a2 : Int32) (w : zW) : Option (Int32 × zW) :=
  lt (zsI w 74 0 (0 : Int32)) fun w1 =>
  bd (fX8_isLine a1 w1) fun b4 w2 =>
  if b4 = true then
    bd (fX8_in (a2).toInt64 (1 : Int64) (64 : Int64) w2) fun b8 w6 =>
    if b8 = true then
      bd (fX8_sizeOf a1 w6) fun v12 w10 =>
      lt ((v12 - a2) + (1 : Int32)) fun v13 =>
      if (1 : Int32) ≤ v13 then
        fX8_greatest_L56 a1 a2 v13 zFU (0 : Int32) (0 : Int64) (0 : Int64) (0 : Int32) w10
      else
      some ((-2 : Int32), w10)
    else
    some ((-1 : Int32), w6)
  else
  some ((-1 : Int32), w2)
theorem YX8_greatest : zYV yX8_greatest MX8_greatest 2 := ⟨wk_1231, wk_9, ⟨wk_1229, wk_1230⟩, ⟨by decide, by decide, by decide +kernel⟩, rfl, rfl⟩
set_option maxHeartbeats 4000000 in
set_option maxRecDepth 100000 in
theorem lX8_greatest_L56 (x1 : Int32) (x2 : Int32) (x3 : Int32) : ∀ (n : Nat) (x4 : Int32) (x5 : Int64) (x7 : Int64) (x9 : Int32) (w : zW), Tz MX8_greatest (zRet zi) (fX8_greatest_L56 x1 x2 x3 n x4 x5 x7 x9 w) 56 [(0, .ref 74), (1, .int x1), (2, .int x2), (3, .int x3), (4, .int x4), (5, .long x5), (7, .long x7), (9, .int x9)] [] w := by
  intro n
  induction n with
  | zero => intro x4 x5 x7 x9 w; exact tz_eq (fX8_greatest_L56.eq_1 _ _ _ _ _ _ _ _) tz_none
  | succ n ih =>
    intro x4 x5 x7 x9 w
    refine tz_eq (fX8_greatest_L56.eq_2 _ _ _ _ _ _ _ _ _) ?_
    refine tz_iload 7 rfl (zd DX8_greatest 35 rfl) ?_
    refine tz_iload_n 3 rfl (zd DX8_greatest 36 rfl) ?_
    refine tz_icmp_ge 107 (zd DX8_greatest 37 rfl) rfl (fun q15 => ?_) (fun q15 => ?_)
    · refine tz_aload_n 0 rfl (zd DX8_greatest 60 rfl) ?_
      refine tz_iconst (0 : Int32) zk_iconst_0 (zd DX8_greatest 61 rfl) ?_
      refine tz_putI 1 kz8 (zs_74) (by decide) rfl rfl wk_858 (zd DX8_greatest 62 rfl) (fun w16 => ?_)
      refine tz_aload_n 0 rfl (zd DX8_greatest 63 rfl) ?_
      refine tz_lload 5 rfl (zd DX8_greatest 64 rfl) ?_
      refine tz_cV_n kz8 (zs_74) rfl (rest := []) (YX8_enters) wk_1002 (tX8_enters x5 w16) rfl rfl (Nat.le_of_ble_eq_true rfl) ⟨Nat.le_of_ble_eq_true rfl, Nat.le_of_ble_eq_true rfl⟩ (zd DX8_greatest 65 rfl) (fun v19 w17 e18 => ?_)
      refine tz_aload_n 0 rfl (zd DX8_greatest 66 rfl) ?_
      refine tz_lload 6 rfl (zd DX8_greatest 67 rfl) ?_
      refine tz_cV_n kz8 (zs_74) rfl (rest := []) (YX8_enters) wk_1002 (tX8_enters x7 w17) rfl rfl (Nat.le_of_ble_eq_true rfl) ⟨Nat.le_of_ble_eq_true rfl, Nat.le_of_ble_eq_true rfl⟩ (zd DX8_greatest 68 rfl) (fun v22 w20 e21 => ?_)
      refine tz_iload 4 rfl (zd DX8_greatest 69 rfl) ?_
      exact tz_iret rfl (zd DX8_greatest 70 rfl)
    refine tz_aload_n 0 rfl (zd DX8_greatest 38 rfl) ?_
    refine tz_iload_n 1 rfl (zd DX8_greatest 39 rfl) ?_
    refine tz_iload 7 rfl (zd DX8_greatest 40 rfl) ?_
    refine tz_iload_n 2 rfl (zd DX8_greatest 41 rfl) ?_
    refine tz_cV_n kz8 (zs_74) rfl (rest := []) (YX8_sums) wk_1212 (tX8_sums x1 x9 x2 w) rfl rfl (Nat.le_of_ble_eq_true rfl) ⟨Nat.le_of_ble_eq_true rfl, Nat.le_of_ble_eq_true rfl⟩ (zd DX8_greatest 42 rfl) (fun v25 w23 e24 => ?_)
    refine tz_iload 7 rfl (zd DX8_greatest 43 rfl) ?_
    refine tz_jp (P := fun j => ∀ (y4_101 : Int32) (y5_101 : Int64) (y7_101 : Int64) (w26 : zW), Tz MX8_greatest (zRet zi) (j y4_101 y5_101 y7_101 w26) 101 [(0, .ref 74), (1, .int x1), (2, .int x2), (3, .int x3), (4, .int y4_101), (5, .long y5_101), (7, .long y7_101), (9, .int x9)] [] w26) ?_ (fun j26 hj26 => ?_)
    · intro y4_101 y5_101 y7_101 w26
      refine tz_iinc 7 (1 : Int32) [(9, .int (x9 + (1 : Int32))), (0, .ref 74), (1, .int x1), (2, .int x2), (3, .int x3), (4, .int y4_101), (5, .long y5_101), (7, .long y7_101)] rfl zk_iconst_1 (Nat.le_of_ble_eq_true rfl) rfl (zd DX8_greatest 58 rfl) ?_
      refine tz_goto 56 (zd DX8_greatest 59 rfl) rfl ?_
      refine tz_lv (lv2 := [(0, .ref 74), (1, .int x1), (2, .int x2), (3, .int x3), (4, .int y4_101), (5, .long y5_101), (7, .long y7_101), (9, .int (x9 + (1 : Int32)))]) [1, 2, 3, 4, 5, 6, 7, 0] rfl ?_
      exact ih y4_101 y5_101 y7_101 (x9 + (1 : Int32)) w26
    refine tz_jp (P := fun j => ∀ (w27 : zW), Tz MX8_greatest (zRet zi) (j w27) 85 [(0, .ref 74), (1, .int x1), (2, .int x2), (3, .int x3), (9, .int x9)] [] w27) ?_ (fun j27 hj27 => ?_)
    · intro w27
      refine tz_iload 4 rfl (zd DX8_greatest 50 rfl) ?_
      refine tz_istore [(4, .int x9), (0, .ref 74), (1, .int x1), (2, .int x2), (3, .int x3), (9, .int x9)] (Nat.le_of_ble_eq_true rfl) rfl (zd DX8_greatest 51 rfl) ?_
      refine tz_aload_n 1 rfl (zd DX8_greatest 52 rfl) ?_
      refine tz_getJ 11 kz8 (zs_74) (by decide) rfl wk_868 (zd DX8_greatest 53 rfl) ?_
      refine tz_ltl (fun v28 => ?_)
      refine tz_lstore [(5, .long v28), (4, .int x9), (0, .ref 74), (1, .int x1), (2, .int x2), (3, .int x3), (9, .int x9)] (Nat.le_of_ble_eq_true rfl) rfl (zd DX8_greatest 54 rfl) ?_
      refine tz_aload_n 2 rfl (zd DX8_greatest 55 rfl) ?_
      refine tz_getJ 12 kz8 (zs_74) (by decide) rfl wk_869 (zd DX8_greatest 56 rfl) ?_
      refine tz_ltl (fun v29 => ?_)
      refine tz_lstore [(7, .long v29), (5, .long v28), (4, .int x9), (0, .ref 74), (1, .int x1), (2, .int x2), (3, .int x3), (9, .int x9)] (Nat.le_of_ble_eq_true rfl) rfl (zd DX8_greatest 57 rfl) ?_
      refine tz_lv (lv2 := [(0, .ref 74), (1, .int x1), (2, .int x2), (3, .int x3), (4, .int x9), (5, .long v28), (7, .long v29), (9, .int x9)]) [3, 4, 5, 6, 2, 1, 0, 7] rfl ?_
      exact hj26 x9 v28 v29 w27
    refine tz_if_eq 85 (zd DX8_greatest 44 rfl) rfl (fun q30 => ?_) (fun q30 => ?_)
    · refine tz_lv (lv2 := [(0, .ref 74), (1, .int x1), (2, .int x2), (3, .int x3), (9, .int x9)]) [0, 1, 2, 3, 7] rfl ?_
      exact hj27 w23
    refine tz_aload_n 0 rfl (zd DX8_greatest 45 rfl) ?_
    refine tz_getJ 12 kz8 (zs_74) (by decide) rfl wk_869 (zd DX8_greatest 46 rfl) ?_
    refine tz_lload 6 rfl (zd DX8_greatest 47 rfl) ?_
    refine tz_lcmp_le 101 (zd DX8_greatest 48 rfl) (zd DX8_greatest 49 rfl) rfl (fun q31 => ?_) (fun q31 => ?_)
    · exact hj26 x4 x5 x7 w23
    refine tz_lv (lv2 := [(0, .ref 74), (1, .int x1), (2, .int x2), (3, .int x3), (9, .int x9)]) [0, 1, 2, 3, 7] rfl ?_
    exact hj27 w23
set_option maxHeartbeats 4000000 in
set_option maxRecDepth 100000 in
theorem tX8_greatest (a1 : Int32) (a2 : Int32) (w : zW) : Sm yX8_greatest MX8_greatest zi [.ref 74, .int a1, .int a2] w (fX8_greatest a1 a2 w) := by
  refine Sm_of (lv0 := [(0, .ref 74), (1, .int a1), (2, .int a2)]) (by decide) rfl (fun _ => Nat.le_of_ble_eq_true rfl) rfl ?_
  unfold fX8_greatest
  refine tz_aload_n 0 rfl (zd DX8_greatest 0 rfl) ?_
  refine tz_iconst (0 : Int32) zk_iconst_0 (zd DX8_greatest 1 rfl) ?_
  refine tz_putI 0 kz8 (zs_74) (by decide) rfl rfl wk_857 (zd DX8_greatest 2 rfl) (fun w1 => ?_)
  refine tz_iload_n 1 rfl (zd DX8_greatest 3 rfl) ?_
  refine tz_cS_z (rest := []) (YX8_isLine) wk_1104 (tX8_isLine a1 w1) rfl rfl (Nat.le_of_ble_eq_true rfl) ⟨Nat.le_of_ble_eq_true rfl, Nat.le_of_ble_eq_true rfl⟩ (zd DX8_greatest 4 rfl) (fun b4 w2 e3 => ?_)
  refine tz_bif_eq 24 (zd DX8_greatest 5 rfl) rfl (fun q5 => ?_) (fun q5 => ?_)
  · refine tz_iload_n 2 rfl (zd DX8_greatest 6 rfl) ?_
    refine tz_i2l (zd DX8_greatest 7 rfl) ?_
    refine tz_lconst (1 : Int64) rfl (zd DX8_greatest 8 rfl) ?_
    refine tz_ldc2_w wk_1171 (zd DX8_greatest 9 rfl) ?_
    refine tz_cS_z (rest := []) (YX8_in) wk_848 (tX8_in (a2).toInt64 (1 : Int64) (64 : Int64) w2) rfl rfl (Nat.le_of_ble_eq_true rfl) ⟨Nat.le_of_ble_eq_true rfl, Nat.le_of_ble_eq_true rfl⟩ (zd DX8_greatest 10 rfl) (fun b8 w6 e7 => ?_)
    refine tz_bif_ne 26 (zd DX8_greatest 11 rfl) rfl (fun q9 => ?_) (fun q9 => ?_)
    · refine tz_aload_n 0 rfl (zd DX8_greatest 14 rfl) ?_
      refine tz_iload_n 1 rfl (zd DX8_greatest 15 rfl) ?_
      refine tz_cV_i kz8 (zs_74) rfl (rest := []) (YX8_sizeOf) wk_1042 (tX8_sizeOf a1 w6) rfl rfl (Nat.le_of_ble_eq_true rfl) ⟨Nat.le_of_ble_eq_true rfl, Nat.le_of_ble_eq_true rfl⟩ (zd DX8_greatest 16 rfl) (fun v12 w10 e11 => ?_)
      refine tz_iload_n 2 rfl (zd DX8_greatest 17 rfl) ?_
      refine tz_isub (zd DX8_greatest 18 rfl) ?_
      refine tz_iconst (1 : Int32) zk_iconst_1 (zd DX8_greatest 19 rfl) ?_
      refine tz_iadd (zd DX8_greatest 20 rfl) ?_
      refine tz_lti (fun v13 => ?_)
      refine tz_istore_n [(3, .int v13), (0, .ref 74), (1, .int a1), (2, .int a2)] (Nat.le_of_ble_eq_true rfl) rfl (zd DX8_greatest 21 rfl) ?_
      refine tz_iload_n 0 rfl (zd DX8_greatest 22 rfl) ?_
      refine tz_iconst (1 : Int32) zk_iconst_1 (zd DX8_greatest 23 rfl) ?_
      refine tz_icmp_ge 44 (zd DX8_greatest 24 rfl) rfl (fun q14 => ?_) (fun q14 => ?_)
      · refine tz_iconst (0 : Int32) zk_iconst_0 (zd DX8_greatest 27 rfl) ?_
        refine tz_istore [(4, .int (0 : Int32)), (3, .int v13), (0, .ref 74), (1, .int a1), (2, .int a2)] (Nat.le_of_ble_eq_true rfl) rfl (zd DX8_greatest 28 rfl) ?_
        refine tz_lconst (0 : Int64) rfl (zd DX8_greatest 29 rfl) ?_
        refine tz_lstore [(5, .long (0 : Int64)), (4, .int (0 : Int32)), (3, .int v13), (0, .ref 74), (1, .int a1), (2, .int a2)] (Nat.le_of_ble_eq_true rfl) rfl (zd DX8_greatest 30 rfl) ?_
        refine tz_lconst (0 : Int64) rfl (zd DX8_greatest 31 rfl) ?_
        refine tz_lstore [(7, .long (0 : Int64)), (5, .long (0 : Int64)), (4, .int (0 : Int32)), (3, .int v13), (0, .ref 74), (1, .int a1), (2, .int a2)] (Nat.le_of_ble_eq_true rfl) rfl (zd DX8_greatest 32 rfl) ?_
        refine tz_iconst (0 : Int32) zk_iconst_0 (zd DX8_greatest 33 rfl) ?_
        refine tz_istore [(9, .int (0 : Int32)), (7, .long (0 : Int64)), (5, .long (0 : Int64)), (4, .int (0 : Int32)), (3, .int v13), (0, .ref 74), (1, .int a1), (2, .int a2)] (Nat.le_of_ble_eq_true rfl) rfl (zd DX8_greatest 34 rfl) ?_
        refine tz_lv (lv2 := [(0, .ref 74), (1, .int a1), (2, .int a2), (3, .int v13), (4, .int (0 : Int32)), (5, .long (0 : Int64)), (7, .long (0 : Int64)), (9, .int (0 : Int32))]) [5, 6, 7, 4, 3, 2, 1, 0] rfl ?_
        exact lX8_greatest_L56 a1 a2 v13 zFU (0 : Int32) (0 : Int64) (0 : Int64) (0 : Int32) w10
      refine tz_bipush (-2 : Int32) zk_bipush_m2 (zd DX8_greatest 25 rfl) ?_
      exact tz_iret rfl (zd DX8_greatest 26 rfl)
    refine tz_iconst (-1 : Int32) zk_iconst_m1 (zd DX8_greatest 12 rfl) ?_
    exact tz_iret rfl (zd DX8_greatest 13 rfl)
  refine tz_iconst (-1 : Int32) zk_iconst_m1 (zd DX8_greatest 12 rfl) ?_
  exact tz_iret rfl (zd DX8_greatest 13 rfl)
def QX8_finds : List (Nat × Instr × Nat) := [(0, .aload_n 0, 1), (1, .iconst 0, 1), (2, .putfield 1, 3), (5, .iload_n 1, 1), (6, .invokestatic 237, 3), (9, .ifCond .ne 5, 3), (12, .iconst (-1), 1), (13, .ireturn, 1), (14, .aload_n 0, 1), (15, .iload_n 1, 1), (16, .invokevirtual 187, 3), (19, .istore 4, 2), (21, .iconst 1, 1), (22, .istore 5, 2), (24, .iload 5, 2), (26, .iload 4, 2), (28, .if_icmp .gt 120, 3), (31, .iconst (-1), 1), (32, .istore 6, 2), (34, .iconst 0, 1), (35, .istore 7, 2), (37, .iload 4, 2), (39, .iload 5, 2), (41, .isub, 1), (42, .istore 8, 2), (44, .iload 8, 2), (46, .ifCond .lt 69, 3), (49, .aload_n 0, 1), (50, .iload_n 1, 1), (51, .iload 8, 2), (53, .iload 5, 2), (55, .invokevirtual 280, 3), (58, .aload_n 0, 1), (59, .getfield 96, 3), (62, .iload_n 2, 1), (63, .i2l, 1), (64, .lcmp, 1), (65, .ifCond .ne 17, 3), (68, .aload_n 0, 1), (69, .getfield 100, 3), (72, .iload_n 3, 1), (73, .i2l, 1), (74, .lcmp, 1), (75, .ifCond .ne 7, 3), (78, .iconst 1, 1), (79, .goto 4, 3), (82, .iconst 0, 1), (83, .istore 9, 2), (85, .iload 9, 2), (87, .ifCond .eq 8, 3), (90, .iload 8, 2), (92, .goto 5, 3), (95, .iload 6, 2), (97, .istore 6, 2), (99, .iload 7, 2), (101, .iload 9, 2), (103, .invokestatic 31, 3), (106, .iadd, 1), (107, .istore 7, 2), (109, .iinc 8 (-1), 3), (112, .goto (-68), 3), (115, .iload 7, 2), (117, .ifCond .le 25, 3), (120, .aload_n 0, 1), (121, .iconst 0, 1), (122, .putfield 11, 3), (125, .aload_n 0, 1), (126, .iload 6, 2), (128, .i2l, 1), (129, .invokevirtual 164, 3), (132, .aload_n 0, 1), (133, .iload 7, 2), (135, .i2l, 1), (136, .invokevirtual 164, 3), (139, .iload 5, 2), (141, .ireturn, 1), (142, .iinc 5 1, 3), (145, .goto (-121), 3), (148, .bipush (-2), 2), (150, .ireturn, 1)]
set_option maxRecDepth 100000 in
theorem DX8_finds : ∀ q ∈ QX8_finds, decode cX8_finds q.1 = .ok (q.2.1, q.2.2) := by decide +kernel
abbrev MX8_finds : zM := (cX8_finds, "EndSumsModel", 10, (some .int), { frames := 5, cells := 0, slots := 0, locals := 128 })
def fX8_finds_L44 (x1 : Int32) (x2 : Int32) (x3 : Int32) (x4 : Int32) (x5 : Int32) (j24 : Int32 → zW → Option (Int32 × zW)) : Nat → Int32 → Int32 → Int32 → zW → Option (Int32 × zW)
  | 0, _, _, _, _ => none
  | n + 1, x6, x7, x8, w =>
    if x8 < (0 : Int32) then
      if x7 ≤ (0 : Int32) then
        j24 (x5 + (1 : Int32)) w
      else
      lt (zsI w 74 1 (0 : Int32)) fun w13 =>
      bd (fX8_enters (x6).toInt64 w13) fun _ w14 =>
      bd (fX8_enters (x7).toInt64 w14) fun _ w17 =>
      some (x5, w17)
    else
    bd (fX8_sums x1 x8 x5 w) fun _ w20 =>
    if ¬ (zL w20 74 11) = (x2).toInt64 then
      lt (if (0 : Int32) = (0 : Int32) then x6 else x8) fun v25 =>
      bd (fX8_flag (0 : Int32) w20) fun v28 w26 =>
      lt (x7 + v28) fun v29 =>
      fX8_finds_L44 x1 x2 x3 x4 x5 j24 n v25 v29 (x8 + (-1 : Int32)) w26
    else
    if ¬ (zL w20 74 12) = (x3).toInt64 then
      lt (if (0 : Int32) = (0 : Int32) then x6 else x8) fun v32 =>
      bd (fX8_flag (0 : Int32) w20) fun v35 w33 =>
      lt (x7 + v35) fun v36 =>
      fX8_finds_L44 x1 x2 x3 x4 x5 j24 n v32 v36 (x8 + (-1 : Int32)) w33
    else
    lt (if (1 : Int32) = (0 : Int32) then x6 else x8) fun v38 =>
    bd (fX8_flag (1 : Int32) w20) fun v41 w39 =>
    lt (x7 + v41) fun v42 =>
    fX8_finds_L44 x1 x2 x3 x4 x5 j24 n v38 v42 (x8 + (-1 : Int32)) w39
def fX8_finds_L24 (x1 : Int32) (x2 : Int32) (x3 : Int32) (x4 : Int32) : Nat → Int32 → zW → Option (Int32 × zW)
  | 0, _, _ => none
  | n + 1, x5, w =>
    if x4 < x5 then
      some ((-2 : Int32), w)
    else
    lt (x4 - x5) fun v10 =>
    fX8_finds_L44 x1 x2 x3 x4 x5 (fX8_finds_L24 x1 x2 x3 x4 n) zFU (-1 : Int32) (0 : Int32) v10 w
def fX8_finds (a1 : Int32) (a2 : Int32) (a3 : Int32) (w : zW) : Option (Int32 × zW) :=
  lt (zsI w 74 0 (0 : Int32)) fun w1 =>
  bd (fX8_isLine a1 w1) fun b4 w2 =>
  if b4 = true then
    bd (fX8_sizeOf a1 w2) fun v8 w6 =>
    fX8_finds_L24 a1 a2 a3 v8 zFU (1 : Int32) w6
  else
  some ((-1 : Int32), w2)
theorem YX8_finds : zYV yX8_finds MX8_finds 3 := ⟨wk_1235, wk_9, ⟨wk_1233, wk_1234⟩, ⟨by decide, by decide, by decide +kernel⟩, rfl, rfl⟩
set_option maxHeartbeats 4000000 in
set_option maxRecDepth 100000 in
theorem lX8_finds_L44 (x1 : Int32) (x2 : Int32) (x3 : Int32) (x4 : Int32) (x5 : Int32) (j24 : Int32 → zW → Option (Int32 × zW)) (hj24 : ∀ (y5 : Int32) (w : zW), Tz MX8_finds (zRet zi) (j24 y5 w) 24 [(0, .ref 74), (1, .int x1), (2, .int x2), (3, .int x3), (4, .int x4), (5, .int y5)] [] w) : ∀ (n : Nat) (x6 : Int32) (x7 : Int32) (x8 : Int32) (w : zW), Tz MX8_finds (zRet zi) (fX8_finds_L44 x1 x2 x3 x4 x5 j24 n x6 x7 x8 w) 44 [(0, .ref 74), (1, .int x1), (2, .int x2), (3, .int x3), (4, .int x4), (5, .int x5), (6, .int x6), (7, .int x7), (8, .int x8)] [] w := by
  intro n
  induction n with
  | zero => intro x6 x7 x8 w; exact tz_eq (fX8_finds_L44.eq_1 _ _ _ _ _ _ _ _ _ _) tz_none
  | succ n ih =>
    intro x6 x7 x8 w
    refine tz_eq (fX8_finds_L44.eq_2 _ _ _ _ _ _ _ _ _ _ _) ?_
    refine tz_iload 8 rfl (zd DX8_finds 25 rfl) ?_
    refine tz_if_lt 115 (zd DX8_finds 26 rfl) rfl (fun q11 => ?_) (fun q11 => ?_)
    · refine tz_iload 7 rfl (zd DX8_finds 61 rfl) ?_
      refine tz_if_le 142 (zd DX8_finds 62 rfl) rfl (fun q12 => ?_) (fun q12 => ?_)
      · refine tz_iinc 5 (1 : Int32) [(5, .int (x5 + (1 : Int32))), (0, .ref 74), (1, .int x1), (2, .int x2), (3, .int x3), (4, .int x4), (6, .int x6), (7, .int x7), (8, .int x8)] rfl zk_iconst_1 (Nat.le_of_ble_eq_true rfl) rfl (zd DX8_finds 76 rfl) ?_
        refine tz_goto 24 (zd DX8_finds 77 rfl) rfl ?_
        refine tz_lv (lv2 := [(0, .ref 74), (1, .int x1), (2, .int x2), (3, .int x3), (4, .int x4), (5, .int (x5 + (1 : Int32)))]) [1, 2, 3, 4, 5, 0] rfl ?_
        exact hj24 (x5 + (1 : Int32)) w
      refine tz_aload_n 0 rfl (zd DX8_finds 63 rfl) ?_
      refine tz_iconst (0 : Int32) zk_iconst_0 (zd DX8_finds 64 rfl) ?_
      refine tz_putI 1 kz8 (zs_74) (by decide) rfl rfl wk_858 (zd DX8_finds 65 rfl) (fun w13 => ?_)
      refine tz_aload_n 0 rfl (zd DX8_finds 66 rfl) ?_
      refine tz_iload 6 rfl (zd DX8_finds 67 rfl) ?_
      refine tz_i2l (zd DX8_finds 68 rfl) ?_
      refine tz_cV_n kz8 (zs_74) rfl (rest := []) (YX8_enters) wk_1002 (tX8_enters (x6).toInt64 w13) rfl rfl (Nat.le_of_ble_eq_true rfl) ⟨Nat.le_of_ble_eq_true rfl, Nat.le_of_ble_eq_true rfl⟩ (zd DX8_finds 69 rfl) (fun v16 w14 e15 => ?_)
      refine tz_aload_n 0 rfl (zd DX8_finds 70 rfl) ?_
      refine tz_iload 7 rfl (zd DX8_finds 71 rfl) ?_
      refine tz_i2l (zd DX8_finds 72 rfl) ?_
      refine tz_cV_n kz8 (zs_74) rfl (rest := []) (YX8_enters) wk_1002 (tX8_enters (x7).toInt64 w14) rfl rfl (Nat.le_of_ble_eq_true rfl) ⟨Nat.le_of_ble_eq_true rfl, Nat.le_of_ble_eq_true rfl⟩ (zd DX8_finds 73 rfl) (fun v19 w17 e18 => ?_)
      refine tz_iload 5 rfl (zd DX8_finds 74 rfl) ?_
      exact tz_iret rfl (zd DX8_finds 75 rfl)
    refine tz_aload_n 0 rfl (zd DX8_finds 27 rfl) ?_
    refine tz_iload_n 1 rfl (zd DX8_finds 28 rfl) ?_
    refine tz_iload 8 rfl (zd DX8_finds 29 rfl) ?_
    refine tz_iload 5 rfl (zd DX8_finds 30 rfl) ?_
    refine tz_cV_n kz8 (zs_74) rfl (rest := []) (YX8_sums) wk_1212 (tX8_sums x1 x8 x5 w) rfl rfl (Nat.le_of_ble_eq_true rfl) ⟨Nat.le_of_ble_eq_true rfl, Nat.le_of_ble_eq_true rfl⟩ (zd DX8_finds 31 rfl) (fun v22 w20 e21 => ?_)
    refine tz_aload_n 0 rfl (zd DX8_finds 32 rfl) ?_
    refine tz_getJ 11 kz8 (zs_74) (by decide) rfl wk_868 (zd DX8_finds 33 rfl) ?_
    refine tz_iload_n 2 rfl (zd DX8_finds 34 rfl) ?_
    refine tz_i2l (zd DX8_finds 35 rfl) ?_
    refine tz_lcmp_ne 82 (zd DX8_finds 36 rfl) (zd DX8_finds 37 rfl) rfl (fun q23 => ?_) (fun q23 => ?_)
    · refine tz_iconst (0 : Int32) zk_iconst_0 (zd DX8_finds 46 rfl) ?_
      refine tz_istore [(9, .int (0 : Int32)), (0, .ref 74), (1, .int x1), (2, .int x2), (3, .int x3), (4, .int x4), (5, .int x5), (6, .int x6), (7, .int x7), (8, .int x8)] (Nat.le_of_ble_eq_true rfl) rfl (zd DX8_finds 47 rfl) ?_
      refine tz_iload 0 rfl (zd DX8_finds 48 rfl) ?_
      refine tz_dia (P := fun F => ∀ v : Int32, Tz MX8_finds (zRet zi) (F v) 97 [(9, .int (0 : Int32)), (0, .ref 74), (1, .int x1), (2, .int x2), (3, .int x3), (4, .int x4), (5, .int x5), (6, .int x6), (7, .int x7), (8, .int x8)] (.int v :: []) w20) ?_ (fun _ hJ97 => ?_)
      · intro v25
        refine tz_istore [(6, .int v25), (9, .int (0 : Int32)), (0, .ref 74), (1, .int x1), (2, .int x2), (3, .int x3), (4, .int x4), (5, .int x5), (7, .int x7), (8, .int x8)] (Nat.le_of_ble_eq_true rfl) rfl (zd DX8_finds 53 rfl) ?_
        refine tz_iload 8 rfl (zd DX8_finds 54 rfl) ?_
        refine tz_iload 1 rfl (zd DX8_finds 55 rfl) ?_
        refine tz_cS_i (rest := [.int x7]) (YX8_flag) wk_981 (tX8_flag (0 : Int32) w20) rfl rfl (Nat.le_of_ble_eq_true rfl) ⟨Nat.le_of_ble_eq_true rfl, Nat.le_of_ble_eq_true rfl⟩ (zd DX8_finds 56 rfl) (fun v28 w26 e27 => ?_)
        refine tz_iadd (zd DX8_finds 57 rfl) ?_
        refine tz_lti (fun v29 => ?_)
        refine tz_istore [(7, .int v29), (6, .int v25), (9, .int (0 : Int32)), (0, .ref 74), (1, .int x1), (2, .int x2), (3, .int x3), (4, .int x4), (5, .int x5), (8, .int x8)] (Nat.le_of_ble_eq_true rfl) rfl (zd DX8_finds 58 rfl) ?_
        refine tz_iinc 9 (-1 : Int32) [(8, .int (x8 + (-1 : Int32))), (7, .int v29), (6, .int v25), (9, .int (0 : Int32)), (0, .ref 74), (1, .int x1), (2, .int x2), (3, .int x3), (4, .int x4), (5, .int x5)] rfl zk_iconst_m1 (Nat.le_of_ble_eq_true rfl) rfl (zd DX8_finds 59 rfl) ?_
        refine tz_goto 44 (zd DX8_finds 60 rfl) rfl ?_
        refine tz_lv (lv2 := [(0, .ref 74), (1, .int x1), (2, .int x2), (3, .int x3), (4, .int x4), (5, .int x5), (6, .int v25), (7, .int v29), (8, .int (x8 + (-1 : Int32)))]) [4, 5, 6, 7, 8, 9, 2, 1, 0] rfl ?_
        exact ih v25 v29 (x8 + (-1 : Int32)) w26
      refine tz_ite ?_
      refine tz_if_eq 95 (zd DX8_finds 49 rfl) rfl (fun q24 => ?_) (fun q24 => ?_)
      · refine tz_iload 7 rfl (zd DX8_finds 52 rfl) ?_
        exact hJ97 x6
      refine tz_iload 9 rfl (zd DX8_finds 50 rfl) ?_
      refine tz_goto 97 (zd DX8_finds 51 rfl) rfl ?_
      exact hJ97 x8
    refine tz_aload_n 0 rfl (zd DX8_finds 38 rfl) ?_
    refine tz_getJ 12 kz8 (zs_74) (by decide) rfl wk_869 (zd DX8_finds 39 rfl) ?_
    refine tz_iload_n 3 rfl (zd DX8_finds 40 rfl) ?_
    refine tz_i2l (zd DX8_finds 41 rfl) ?_
    refine tz_lcmp_ne 82 (zd DX8_finds 42 rfl) (zd DX8_finds 43 rfl) rfl (fun q30 => ?_) (fun q30 => ?_)
    · refine tz_iconst (0 : Int32) zk_iconst_0 (zd DX8_finds 46 rfl) ?_
      refine tz_istore [(9, .int (0 : Int32)), (0, .ref 74), (1, .int x1), (2, .int x2), (3, .int x3), (4, .int x4), (5, .int x5), (6, .int x6), (7, .int x7), (8, .int x8)] (Nat.le_of_ble_eq_true rfl) rfl (zd DX8_finds 47 rfl) ?_
      refine tz_iload 0 rfl (zd DX8_finds 48 rfl) ?_
      refine tz_dia (P := fun F => ∀ v : Int32, Tz MX8_finds (zRet zi) (F v) 97 [(9, .int (0 : Int32)), (0, .ref 74), (1, .int x1), (2, .int x2), (3, .int x3), (4, .int x4), (5, .int x5), (6, .int x6), (7, .int x7), (8, .int x8)] (.int v :: []) w20) ?_ (fun _ hJ97 => ?_)
      · intro v32
        refine tz_istore [(6, .int v32), (9, .int (0 : Int32)), (0, .ref 74), (1, .int x1), (2, .int x2), (3, .int x3), (4, .int x4), (5, .int x5), (7, .int x7), (8, .int x8)] (Nat.le_of_ble_eq_true rfl) rfl (zd DX8_finds 53 rfl) ?_
        refine tz_iload 8 rfl (zd DX8_finds 54 rfl) ?_
        refine tz_iload 1 rfl (zd DX8_finds 55 rfl) ?_
        refine tz_cS_i (rest := [.int x7]) (YX8_flag) wk_981 (tX8_flag (0 : Int32) w20) rfl rfl (Nat.le_of_ble_eq_true rfl) ⟨Nat.le_of_ble_eq_true rfl, Nat.le_of_ble_eq_true rfl⟩ (zd DX8_finds 56 rfl) (fun v35 w33 e34 => ?_)
        refine tz_iadd (zd DX8_finds 57 rfl) ?_
        refine tz_lti (fun v36 => ?_)
        refine tz_istore [(7, .int v36), (6, .int v32), (9, .int (0 : Int32)), (0, .ref 74), (1, .int x1), (2, .int x2), (3, .int x3), (4, .int x4), (5, .int x5), (8, .int x8)] (Nat.le_of_ble_eq_true rfl) rfl (zd DX8_finds 58 rfl) ?_
        refine tz_iinc 9 (-1 : Int32) [(8, .int (x8 + (-1 : Int32))), (7, .int v36), (6, .int v32), (9, .int (0 : Int32)), (0, .ref 74), (1, .int x1), (2, .int x2), (3, .int x3), (4, .int x4), (5, .int x5)] rfl zk_iconst_m1 (Nat.le_of_ble_eq_true rfl) rfl (zd DX8_finds 59 rfl) ?_
        refine tz_goto 44 (zd DX8_finds 60 rfl) rfl ?_
        refine tz_lv (lv2 := [(0, .ref 74), (1, .int x1), (2, .int x2), (3, .int x3), (4, .int x4), (5, .int x5), (6, .int v32), (7, .int v36), (8, .int (x8 + (-1 : Int32)))]) [4, 5, 6, 7, 8, 9, 2, 1, 0] rfl ?_
        exact ih v32 v36 (x8 + (-1 : Int32)) w33
      refine tz_ite ?_
      refine tz_if_eq 95 (zd DX8_finds 49 rfl) rfl (fun q31 => ?_) (fun q31 => ?_)
      · refine tz_iload 7 rfl (zd DX8_finds 52 rfl) ?_
        exact hJ97 x6
      refine tz_iload 9 rfl (zd DX8_finds 50 rfl) ?_
      refine tz_goto 97 (zd DX8_finds 51 rfl) rfl ?_
      exact hJ97 x8
    refine tz_iconst (1 : Int32) zk_iconst_1 (zd DX8_finds 44 rfl) ?_
    refine tz_goto 83 (zd DX8_finds 45 rfl) rfl ?_
    refine tz_istore [(9, .int (1 : Int32)), (0, .ref 74), (1, .int x1), (2, .int x2), (3, .int x3), (4, .int x4), (5, .int x5), (6, .int x6), (7, .int x7), (8, .int x8)] (Nat.le_of_ble_eq_true rfl) rfl (zd DX8_finds 47 rfl) ?_
    refine tz_iload 0 rfl (zd DX8_finds 48 rfl) ?_
    refine tz_dia (P := fun F => ∀ v : Int32, Tz MX8_finds (zRet zi) (F v) 97 [(9, .int (1 : Int32)), (0, .ref 74), (1, .int x1), (2, .int x2), (3, .int x3), (4, .int x4), (5, .int x5), (6, .int x6), (7, .int x7), (8, .int x8)] (.int v :: []) w20) ?_ (fun _ hJ97 => ?_)
    · intro v38
      refine tz_istore [(6, .int v38), (9, .int (1 : Int32)), (0, .ref 74), (1, .int x1), (2, .int x2), (3, .int x3), (4, .int x4), (5, .int x5), (7, .int x7), (8, .int x8)] (Nat.le_of_ble_eq_true rfl) rfl (zd DX8_finds 53 rfl) ?_
      refine tz_iload 8 rfl (zd DX8_finds 54 rfl) ?_
      refine tz_iload 1 rfl (zd DX8_finds 55 rfl) ?_
      refine tz_cS_i (rest := [.int x7]) (YX8_flag) wk_981 (tX8_flag (1 : Int32) w20) rfl rfl (Nat.le_of_ble_eq_true rfl) ⟨Nat.le_of_ble_eq_true rfl, Nat.le_of_ble_eq_true rfl⟩ (zd DX8_finds 56 rfl) (fun v41 w39 e40 => ?_)
      refine tz_iadd (zd DX8_finds 57 rfl) ?_
      refine tz_lti (fun v42 => ?_)
      refine tz_istore [(7, .int v42), (6, .int v38), (9, .int (1 : Int32)), (0, .ref 74), (1, .int x1), (2, .int x2), (3, .int x3), (4, .int x4), (5, .int x5), (8, .int x8)] (Nat.le_of_ble_eq_true rfl) rfl (zd DX8_finds 58 rfl) ?_
      refine tz_iinc 9 (-1 : Int32) [(8, .int (x8 + (-1 : Int32))), (7, .int v42), (6, .int v38), (9, .int (1 : Int32)), (0, .ref 74), (1, .int x1), (2, .int x2), (3, .int x3), (4, .int x4), (5, .int x5)] rfl zk_iconst_m1 (Nat.le_of_ble_eq_true rfl) rfl (zd DX8_finds 59 rfl) ?_
      refine tz_goto 44 (zd DX8_finds 60 rfl) rfl ?_
      refine tz_lv (lv2 := [(0, .ref 74), (1, .int x1), (2, .int x2), (3, .int x3), (4, .int x4), (5, .int x5), (6, .int v38), (7, .int v42), (8, .int (x8 + (-1 : Int32)))]) [4, 5, 6, 7, 8, 9, 2, 1, 0] rfl ?_
      exact ih v38 v42 (x8 + (-1 : Int32)) w39
    refine tz_ite ?_
    refine tz_if_eq 95 (zd DX8_finds 49 rfl) rfl (fun q37 => ?_) (fun q37 => ?_)
    · refine tz_iload 7 rfl (zd DX8_finds 52 rfl) ?_
      exact hJ97 x6
    refine tz_iload 9 rfl (zd DX8_finds 50 rfl) ?_
    refine tz_goto 97 (zd DX8_finds 51 rfl) rfl ?_
    exact hJ97 x8
set_option maxHeartbeats 4000000 in
set_option maxRecDepth 100000 in
theorem lX8_finds_L24 (x1 : Int32) (x2 : Int32) (x3 : Int32) (x4 : Int32) : ∀ (n : Nat) (x5 : Int32) (w : zW), Tz MX8_finds (zRet zi) (fX8_finds_L24 x1 x2 x3 x4 n x5 w) 24 [(0, .ref 74), (1, .int x1), (2, .int x2), (3, .int x3), (4, .int x4), (5, .int x5)] [] w := by
  intro n
  induction n with
  | zero => intro x5 w; exact tz_eq (fX8_finds_L24.eq_1 _ _ _ _ _ _) tz_none
  | succ n ih =>
    intro x5 w
    refine tz_eq (fX8_finds_L24.eq_2 _ _ _ _ _ _ _) ?_
    refine tz_iload 5 rfl (zd DX8_finds 14 rfl) ?_
    refine tz_iload 4 rfl (zd DX8_finds 15 rfl) ?_
    refine tz_icmp_gt 148 (zd DX8_finds 16 rfl) rfl (fun q9 => ?_) (fun q9 => ?_)
    · refine tz_bipush (-2 : Int32) zk_bipush_m2 (zd DX8_finds 78 rfl) ?_
      exact tz_iret rfl (zd DX8_finds 79 rfl)
    refine tz_iconst (-1 : Int32) zk_iconst_m1 (zd DX8_finds 17 rfl) ?_
    refine tz_istore [(6, .int (-1 : Int32)), (0, .ref 74), (1, .int x1), (2, .int x2), (3, .int x3), (4, .int x4), (5, .int x5)] (Nat.le_of_ble_eq_true rfl) rfl (zd DX8_finds 18 rfl) ?_
    refine tz_iconst (0 : Int32) zk_iconst_0 (zd DX8_finds 19 rfl) ?_
    refine tz_istore [(7, .int (0 : Int32)), (6, .int (-1 : Int32)), (0, .ref 74), (1, .int x1), (2, .int x2), (3, .int x3), (4, .int x4), (5, .int x5)] (Nat.le_of_ble_eq_true rfl) rfl (zd DX8_finds 20 rfl) ?_
    refine tz_iload 6 rfl (zd DX8_finds 21 rfl) ?_
    refine tz_iload 7 rfl (zd DX8_finds 22 rfl) ?_
    refine tz_isub (zd DX8_finds 23 rfl) ?_
    refine tz_lti (fun v10 => ?_)
    refine tz_istore [(8, .int v10), (7, .int (0 : Int32)), (6, .int (-1 : Int32)), (0, .ref 74), (1, .int x1), (2, .int x2), (3, .int x3), (4, .int x4), (5, .int x5)] (Nat.le_of_ble_eq_true rfl) rfl (zd DX8_finds 24 rfl) ?_
    refine tz_lv (lv2 := [(0, .ref 74), (1, .int x1), (2, .int x2), (3, .int x3), (4, .int x4), (5, .int x5), (6, .int (-1 : Int32)), (7, .int (0 : Int32)), (8, .int v10)]) [3, 4, 5, 6, 7, 8, 2, 1, 0] rfl ?_
    exact lX8_finds_L44 x1 x2 x3 x4 x5 _ ih zFU (-1 : Int32) (0 : Int32) v10 w
set_option maxHeartbeats 4000000 in
set_option maxRecDepth 100000 in
theorem tX8_finds (a1 : Int32) (a2 : Int32) (a3 : Int32) (w : zW) : Sm yX8_finds MX8_finds zi [.ref 74, .int a1, .int a2, .int a3] w (fX8_finds a1 a2 a3 w) := by
  refine Sm_of (lv0 := [(0, .ref 74), (1, .int a1), (2, .int a2), (3, .int a3)]) (by decide) rfl (fun _ => Nat.le_of_ble_eq_true rfl) rfl ?_
  unfold fX8_finds
  refine tz_aload_n 0 rfl (zd DX8_finds 0 rfl) ?_
  refine tz_iconst (0 : Int32) zk_iconst_0 (zd DX8_finds 1 rfl) ?_
  refine tz_putI 0 kz8 (zs_74) (by decide) rfl rfl wk_857 (zd DX8_finds 2 rfl) (fun w1 => ?_)
  refine tz_iload_n 1 rfl (zd DX8_finds 3 rfl) ?_
  refine tz_cS_z (rest := []) (YX8_isLine) wk_1104 (tX8_isLine a1 w1) rfl rfl (Nat.le_of_ble_eq_true rfl) ⟨Nat.le_of_ble_eq_true rfl, Nat.le_of_ble_eq_true rfl⟩ (zd DX8_finds 4 rfl) (fun b4 w2 e3 => ?_)
  refine tz_bif_ne 14 (zd DX8_finds 5 rfl) rfl (fun q5 => ?_) (fun q5 => ?_)
  · refine tz_aload_n 0 rfl (zd DX8_finds 8 rfl) ?_
    refine tz_iload_n 1 rfl (zd DX8_finds 9 rfl) ?_
    refine tz_cV_i kz8 (zs_74) rfl (rest := []) (YX8_sizeOf) wk_1042 (tX8_sizeOf a1 w2) rfl rfl (Nat.le_of_ble_eq_true rfl) ⟨Nat.le_of_ble_eq_true rfl, Nat.le_of_ble_eq_true rfl⟩ (zd DX8_finds 10 rfl) (fun v8 w6 e7 => ?_)
    refine tz_istore [(4, .int v8), (0, .ref 74), (1, .int a1), (2, .int a2), (3, .int a3)] (Nat.le_of_ble_eq_true rfl) rfl (zd DX8_finds 11 rfl) ?_
    refine tz_iconst (1 : Int32) zk_iconst_1 (zd DX8_finds 12 rfl) ?_
    refine tz_istore [(5, .int (1 : Int32)), (4, .int v8), (0, .ref 74), (1, .int a1), (2, .int a2), (3, .int a3)] (Nat.le_of_ble_eq_true rfl) rfl (zd DX8_finds 13 rfl) ?_
    refine tz_lv (lv2 := [(0, .ref 74), (1, .int a1), (2, .int a2), (3, .int a3), (4, .int v8), (5, .int (1 : Int32))]) [2, 3, 4, 5, 1, 0] rfl ?_
    exact lX8_finds_L24 a1 a2 a3 v8 zFU (1 : Int32) w6
  refine tz_iconst (-1 : Int32) zk_iconst_m1 (zd DX8_finds 6 rfl) ?_
  exact tz_iret rfl (zd DX8_finds 7 rfl)
def QX8_costs : List (Nat × Instr × Nat) := [(0, .aload_n 0, 1), (1, .getfield 284, 3), (4, .aload_n 0, 1), (5, .getfield 287, 3), (8, .iadd, 1), (9, .istore_n 2, 1), (10, .iconst 0, 1), (11, .istore_n 3, 1), (12, .iload_n 1, 1), (13, .ifCond .ne 10, 3), (16, .aload_n 0, 1), (17, .getfield 284, 3), (20, .goto 7, 3), (23, .aload_n 0, 1), (24, .getfield 287, 3), (27, .ifCond .ne 39, 3), (30, .iload_n 2, 1), (31, .iconst 1, 1), (32, .iadd, 1), (33, .iconst 2, 1), (34, .idiv, 1), (35, .istore 4, 2), (37, .aload_n 0, 1), (38, .iload_n 1, 1), (39, .ifCond .ne 8, 3), (42, .iload 4, 2), (44, .goto 7, 3), (47, .iload_n 2, 1), (48, .iload 4, 2), (50, .isub, 1), (51, .putfield 284, 3), (54, .aload_n 0, 1), (55, .iload_n 2, 1), (56, .aload_n 0, 1), (57, .getfield 284, 3), (60, .isub, 1), (61, .putfield 287, 3), (64, .iload_n 2, 1), (65, .istore_n 3, 1), (66, .aload_n 0, 1), (67, .dup, 1), (68, .getfield 284, 3), (71, .iload_n 1, 1), (72, .ifCond .ne 7, 3), (75, .iconst 1, 1), (76, .goto 4, 3), (79, .iconst 0, 1), (80, .invokestatic 31, 3), (83, .isub, 1), (84, .putfield 284, 3), (87, .aload_n 0, 1), (88, .dup, 1), (89, .getfield 287, 3), (92, .iload_n 1, 1), (93, .iconst 1, 1), (94, .if_icmp .ne 7, 3), (97, .iconst 1, 1), (98, .goto 4, 3), (101, .iconst 0, 1), (102, .invokestatic 31, 3), (105, .isub, 1), (106, .putfield 287, 3), (109, .iload_n 3, 1), (110, .ireturn, 1)]
set_option maxRecDepth 100000 in
theorem DX8_costs : ∀ q ∈ QX8_costs, decode cX8_costs q.1 = .ok (q.2.1, q.2.2) := by decide +kernel
abbrev MX8_costs : zM := (cX8_costs, "EndSumsModel", 5, (some .int), { frames := 1, cells := 0, slots := 0, locals := 20 })
def fX8_costs (a1 : Int32) (w : zW) : Option (Int32 × zW) :=
  lt ((zI w 74 30) + (zI w 74 31)) fun v1 =>
  lt (if ¬ a1 = (0 : Int32) then (zI w 74 31) else (zI w 74 30)) fun v3 =>
  lt (fun (y3_66 : Int32) (w4 : zW) =>
    lt (if ¬ a1 = (0 : Int32) then (0 : Int32) else (1 : Int32)) fun v6 =>
    bd (fX8_flag v6 w4) fun v9 w7 =>
    lt (zsI w7 74 30 ((zI w4 74 30) - v9)) fun w10 =>
    lt (if ¬ a1 = (1 : Int32) then (0 : Int32) else (1 : Int32)) fun v12 =>
    bd (fX8_flag v12 w10) fun v15 w13 =>
    lt (zsI w13 74 31 ((zI w10 74 31) - v15)) fun w16 =>
    some (y3_66, w16)) fun j4 =>
  if ¬ v3 = (0 : Int32) then
    j4 (0 : Int32) w
  else
  lt ((v1 + (1 : Int32)) / (2 : Int32)) fun v18 =>
  lt (if ¬ a1 = (0 : Int32) then (v1 - v18) else v18) fun v20 =>
  lt (zsI w 74 30 v20) fun w21 =>
  lt (zsI w21 74 31 (v1 - (zI w21 74 30))) fun w22 =>
  j4 v1 w22
theorem YX8_costs : zYV yX8_costs MX8_costs 1 := ⟨wk_1251, wk_9, ⟨wk_1250, ws_113⟩, ⟨by decide, by decide, by decide +kernel⟩, rfl, rfl⟩
set_option maxHeartbeats 4000000 in
set_option maxRecDepth 100000 in
theorem tX8_costs (a1 : Int32) (w : zW) : Sm yX8_costs MX8_costs zi [.ref 74, .int a1] w (fX8_costs a1 w) := by
  refine Sm_of (lv0 := [(0, .ref 74), (1, .int a1)]) (by decide) rfl (fun _ => Nat.le_of_ble_eq_true rfl) rfl ?_
  unfold fX8_costs
  refine tz_aload_n 0 rfl (zd DX8_costs 0 rfl) ?_
  refine tz_getI 30 kz8 (zs_74) (by decide) rfl wk_887 (zd DX8_costs 1 rfl) ?_
  refine tz_aload_n 0 rfl (zd DX8_costs 2 rfl) ?_
  refine tz_getI 31 kz8 (zs_74) (by decide) rfl wk_888 (zd DX8_costs 3 rfl) ?_
  refine tz_iadd (zd DX8_costs 4 rfl) ?_
  refine tz_lti (fun v1 => ?_)
  refine tz_istore_n [(2, .int v1), (0, .ref 74), (1, .int a1)] (Nat.le_of_ble_eq_true rfl) rfl (zd DX8_costs 5 rfl) ?_
  refine tz_iconst (0 : Int32) zk_iconst_0 (zd DX8_costs 6 rfl) ?_
  refine tz_istore_n [(3, .int (0 : Int32)), (2, .int v1), (0, .ref 74), (1, .int a1)] (Nat.le_of_ble_eq_true rfl) rfl (zd DX8_costs 7 rfl) ?_
  refine tz_iload_n 3 rfl (zd DX8_costs 8 rfl) ?_
  refine tz_dia (P := fun F => ∀ v : Int32, Tz MX8_costs (zRet zi) (F v) 27 [(3, .int (0 : Int32)), (2, .int v1), (0, .ref 74), (1, .int a1)] (.int v :: []) w) ?_ (fun _ hJ27 => ?_)
  · intro v3
    refine tz_jp (P := fun j => ∀ (y3_66 : Int32) (w4 : zW), Tz MX8_costs (zRet zi) (j y3_66 w4) 66 [(0, .ref 74), (1, .int a1), (3, .int y3_66)] [] w4) ?_ (fun j4 hj4 => ?_)
    · intro y3_66 w4
      refine tz_aload_n 0 rfl (zd DX8_costs 39 rfl) ?_
      refine tz_dupa (zd DX8_costs 40 rfl) ?_
      refine tz_getI 30 kz8 (zs_74) (by decide) rfl wk_887 (zd DX8_costs 41 rfl) ?_
      refine tz_iload_n 1 rfl (zd DX8_costs 42 rfl) ?_
      refine tz_dia (P := fun F => ∀ v : Int32, Tz MX8_costs (zRet zi) (F v) 80 [(0, .ref 74), (1, .int a1), (3, .int y3_66)] (.int v :: [.int (zI w4 74 30), .ref 74]) w4) ?_ (fun _ hJ80 => ?_)
      · intro v6
        refine tz_cS_i (rest := [.int (zI w4 74 30), .ref 74]) (YX8_flag) wk_981 (tX8_flag v6 w4) rfl rfl (Nat.le_of_ble_eq_true rfl) ⟨Nat.le_of_ble_eq_true rfl, Nat.le_of_ble_eq_true rfl⟩ (zd DX8_costs 47 rfl) (fun v9 w7 e8 => ?_)
        refine tz_isub (zd DX8_costs 48 rfl) ?_
        refine tz_putI 30 kz8 (zs_74) (by decide) rfl rfl wk_887 (zd DX8_costs 49 rfl) (fun w10 => ?_)
        refine tz_aload_n 0 rfl (zd DX8_costs 50 rfl) ?_
        refine tz_dupa (zd DX8_costs 51 rfl) ?_
        refine tz_getI 31 kz8 (zs_74) (by decide) rfl wk_888 (zd DX8_costs 52 rfl) ?_
        refine tz_iload_n 1 rfl (zd DX8_costs 53 rfl) ?_
        refine tz_iconst (1 : Int32) zk_iconst_1 (zd DX8_costs 54 rfl) ?_
        refine tz_dia (P := fun F => ∀ v : Int32, Tz MX8_costs (zRet zi) (F v) 102 [(0, .ref 74), (1, .int a1), (3, .int y3_66)] (.int v :: [.int (zI w10 74 31), .ref 74]) w10) ?_ (fun _ hJ102 => ?_)
        · intro v12
          refine tz_cS_i (rest := [.int (zI w10 74 31), .ref 74]) (YX8_flag) wk_981 (tX8_flag v12 w10) rfl rfl (Nat.le_of_ble_eq_true rfl) ⟨Nat.le_of_ble_eq_true rfl, Nat.le_of_ble_eq_true rfl⟩ (zd DX8_costs 59 rfl) (fun v15 w13 e14 => ?_)
          refine tz_isub (zd DX8_costs 60 rfl) ?_
          refine tz_putI 31 kz8 (zs_74) (by decide) rfl rfl wk_888 (zd DX8_costs 61 rfl) (fun w16 => ?_)
          refine tz_iload_n 2 rfl (zd DX8_costs 62 rfl) ?_
          exact tz_iret rfl (zd DX8_costs 63 rfl)
        refine tz_ite ?_
        refine tz_icmp_ne 101 (zd DX8_costs 55 rfl) rfl (fun q11 => ?_) (fun q11 => ?_)
        · refine tz_iconst (0 : Int32) zk_iconst_0 (zd DX8_costs 58 rfl) ?_
          exact hJ102 (0 : Int32)
        refine tz_iconst (1 : Int32) zk_iconst_1 (zd DX8_costs 56 rfl) ?_
        refine tz_goto 102 (zd DX8_costs 57 rfl) rfl ?_
        exact hJ102 (1 : Int32)
      refine tz_ite ?_
      refine tz_if_ne 79 (zd DX8_costs 43 rfl) rfl (fun q5 => ?_) (fun q5 => ?_)
      · refine tz_iconst (0 : Int32) zk_iconst_0 (zd DX8_costs 46 rfl) ?_
        exact hJ80 (0 : Int32)
      refine tz_iconst (1 : Int32) zk_iconst_1 (zd DX8_costs 44 rfl) ?_
      refine tz_goto 80 (zd DX8_costs 45 rfl) rfl ?_
      exact hJ80 (1 : Int32)
    refine tz_if_ne 66 (zd DX8_costs 15 rfl) rfl (fun q17 => ?_) (fun q17 => ?_)
    · refine tz_lv (lv2 := [(0, .ref 74), (1, .int a1), (3, .int (0 : Int32))]) [2, 3, 0] rfl ?_
      exact hj4 (0 : Int32) w
    refine tz_iload_n 1 rfl (zd DX8_costs 16 rfl) ?_
    refine tz_iconst (1 : Int32) zk_iconst_1 (zd DX8_costs 17 rfl) ?_
    refine tz_iadd (zd DX8_costs 18 rfl) ?_
    refine tz_iconst (2 : Int32) zk_iconst_2 (zd DX8_costs 19 rfl) ?_
    refine tz_idiv (by decide) (zd DX8_costs 20 rfl) ?_
    refine tz_lti (fun v18 => ?_)
    refine tz_istore [(4, .int v18), (3, .int (0 : Int32)), (2, .int v1), (0, .ref 74), (1, .int a1)] (Nat.le_of_ble_eq_true rfl) rfl (zd DX8_costs 21 rfl) ?_
    refine tz_aload_n 3 rfl (zd DX8_costs 22 rfl) ?_
    refine tz_iload_n 4 rfl (zd DX8_costs 23 rfl) ?_
    refine tz_dia (P := fun F => ∀ v : Int32, Tz MX8_costs (zRet zi) (F v) 51 [(4, .int v18), (3, .int (0 : Int32)), (2, .int v1), (0, .ref 74), (1, .int a1)] (.int v :: [.ref 74]) w) ?_ (fun _ hJ51 => ?_)
    · intro v20
      refine tz_putI 30 kz8 (zs_74) (by decide) rfl rfl wk_887 (zd DX8_costs 30 rfl) (fun w21 => ?_)
      refine tz_aload_n 3 rfl (zd DX8_costs 31 rfl) ?_
      refine tz_iload_n 2 rfl (zd DX8_costs 32 rfl) ?_
      refine tz_aload_n 3 rfl (zd DX8_costs 33 rfl) ?_
      refine tz_getI 30 kz8 (zs_74) (by decide) rfl wk_887 (zd DX8_costs 34 rfl) ?_
      refine tz_isub (zd DX8_costs 35 rfl) ?_
      refine tz_putI 31 kz8 (zs_74) (by decide) rfl rfl wk_888 (zd DX8_costs 36 rfl) (fun w22 => ?_)
      refine tz_iload_n 2 rfl (zd DX8_costs 37 rfl) ?_
      refine tz_istore_n [(3, .int v1), (4, .int v18), (2, .int v1), (0, .ref 74), (1, .int a1)] (Nat.le_of_ble_eq_true rfl) rfl (zd DX8_costs 38 rfl) ?_
      refine tz_lv (lv2 := [(0, .ref 74), (1, .int a1), (3, .int v1)]) [3, 4, 0] rfl ?_
      exact hj4 v1 w22
    refine tz_ite ?_
    refine tz_if_ne 47 (zd DX8_costs 24 rfl) rfl (fun q19 => ?_) (fun q19 => ?_)
    · refine tz_iload_n 2 rfl (zd DX8_costs 27 rfl) ?_
      refine tz_iload 0 rfl (zd DX8_costs 28 rfl) ?_
      refine tz_isub (zd DX8_costs 29 rfl) ?_
      exact hJ51 (v1 - v18)
    refine tz_iload 0 rfl (zd DX8_costs 25 rfl) ?_
    refine tz_goto 51 (zd DX8_costs 26 rfl) rfl ?_
    exact hJ51 v18
  refine tz_ite ?_
  refine tz_if_ne 23 (zd DX8_costs 9 rfl) rfl (fun q2 => ?_) (fun q2 => ?_)
  · refine tz_aload_n 2 rfl (zd DX8_costs 13 rfl) ?_
    refine tz_getI 31 kz8 (zs_74) (by decide) rfl wk_888 (zd DX8_costs 14 rfl) ?_
    exact hJ27 (zI w 74 31)
  refine tz_aload_n 2 rfl (zd DX8_costs 10 rfl) ?_
  refine tz_getI 30 kz8 (zs_74) (by decide) rfl wk_887 (zd DX8_costs 11 rfl) ?_
  refine tz_goto 27 (zd DX8_costs 12 rfl) rfl ?_
  exact hJ27 (zI w 74 30)
def QX8_begins : List (Nat × Instr × Nat) := [(0, .aload_n 0, 1), (1, .aload_n 0, 1), (2, .getfield 66, 3), (5, .iconst 2, 1), (6, .iload_n 1, 1), (7, .imul, 1), (8, .iaload, 1), (9, .putfield 284, 3), (12, .aload_n 0, 1), (13, .aload_n 0, 1), (14, .getfield 66, 3), (17, .iconst 2, 1), (18, .iload_n 1, 1), (19, .imul, 1), (20, .iconst 1, 1), (21, .iadd, 1), (22, .iaload, 1), (23, .putfield 287, 3), (26, .return_, 1)]
set_option maxRecDepth 100000 in
theorem DX8_begins : ∀ q ∈ QX8_begins, decode cX8_begins q.1 = .ok (q.2.1, q.2.2) := by decide +kernel
abbrev MX8_begins : zM := (cX8_begins, "EndSumsModel", 2, none, { frames := 0, cells := 0, slots := 0, locals := 0 })
def fX8_begins (a1 : Int32) (w : zW) : Option (Unit × zW) :=
  zg (zin ((2 : Int32) * a1) 10) <|
  lt (zsI w 74 30 (zI w 83 ((2 : Int32) * a1).toNatClampNeg)) fun w1 =>
  zg (zin (((2 : Int32) * a1) + (1 : Int32)) 10) <|
  lt (zsI w1 74 31 (zI w1 83 (((2 : Int32) * a1) + (1 : Int32)).toNatClampNeg)) fun w2 =>
  some ((), w2)
theorem YX8_begins : zYV yX8_begins MX8_begins 1 := ⟨wk_1247, wk_9, ⟨wk_1246, ws_112⟩, ⟨by decide, by decide, by decide +kernel⟩, rfl, rfl⟩
set_option maxHeartbeats 4000000 in
set_option maxRecDepth 100000 in
theorem tX8_begins (a1 : Int32) (w : zW) : Sm yX8_begins MX8_begins zn [.ref 74, .int a1] w (fX8_begins a1 w) := by
  refine Sm_of (lv0 := [(0, .ref 74), (1, .int a1)]) (by decide) rfl (fun _ => Nat.le_of_ble_eq_true rfl) rfl ?_
  unfold fX8_begins
  refine tz_aload_n 0 rfl (zd DX8_begins 0 rfl) ?_
  refine tz_aload_n 0 rfl (zd DX8_begins 1 rfl) ?_
  refine tz_getR 83 18 kz8 (zs_74) (by decide) (by decide) rfl wk_875 (zd DX8_begins 2 rfl) ?_
  refine tz_iconst (2 : Int32) zk_iconst_2 (zd DX8_begins 3 rfl) ?_
  refine tz_iload_n 1 rfl (zd DX8_begins 4 rfl) ?_
  refine tz_imul (zd DX8_begins 5 rfl) ?_
  refine tz_iald (zs_83.1) (zs_83.2) (zd DX8_begins 6 rfl) ?_
  refine tz_putI 30 kz8 (zs_74) (by decide) rfl rfl wk_887 (zd DX8_begins 7 rfl) (fun w1 => ?_)
  refine tz_aload_n 0 rfl (zd DX8_begins 8 rfl) ?_
  refine tz_aload_n 0 rfl (zd DX8_begins 9 rfl) ?_
  refine tz_getR 83 18 kz8 (zs_74) (by decide) (by decide) rfl wk_875 (zd DX8_begins 10 rfl) ?_
  refine tz_iconst (2 : Int32) zk_iconst_2 (zd DX8_begins 11 rfl) ?_
  refine tz_iload_n 1 rfl (zd DX8_begins 12 rfl) ?_
  refine tz_imul (zd DX8_begins 13 rfl) ?_
  refine tz_iconst (1 : Int32) zk_iconst_1 (zd DX8_begins 14 rfl) ?_
  refine tz_iadd (zd DX8_begins 15 rfl) ?_
  refine tz_iald (zs_83.1) (zs_83.2) (zd DX8_begins 16 rfl) ?_
  refine tz_putI 31 kz8 (zs_74) (by decide) rfl rfl wk_888 (zd DX8_begins 17 rfl) (fun w2 => ?_)
  exact tz_vret rfl (zd DX8_begins 18 rfl)
def QX8_drainsBy : List (Nat × Instr × Nat) := [(0, .aload_n 0, 1), (1, .iload_n 1, 1), (2, .invokevirtual 290, 3), (5, .iconst 0, 1), (6, .istore_n 3, 1), (7, .aload_n 0, 1), (8, .getfield 284, 3), (11, .aload_n 0, 1), (12, .getfield 287, 3), (15, .iadd, 1), (16, .ifCond .le 14, 3), (19, .iload_n 3, 1), (20, .aload_n 0, 1), (21, .iload_n 2, 1), (22, .invokevirtual 293, 3), (25, .iadd, 1), (26, .istore_n 3, 1), (27, .goto (-20), 3), (30, .iload_n 3, 1), (31, .ireturn, 1)]
set_option maxRecDepth 100000 in
theorem DX8_drainsBy : ∀ q ∈ QX8_drainsBy, decode cX8_drainsBy q.1 = .ok (q.2.1, q.2.2) := by decide +kernel
abbrev MX8_drainsBy : zM := (cX8_drainsBy, "EndSumsModel", 4, (some .int), { frames := 2, cells := 0, slots := 0, locals := 44 })
def fX8_drainsBy_L7 (x2 : Int32) : Nat → Int32 → zW → Option (Int32 × zW)
  | 0, _, _ => none
  | n + 1, x3, w =>
    if ((zI w 74 30) + (zI w 74 31)) ≤ (0 : Int32) then
      some (x3, w)
    else
    bd (fX8_costs x2 w) fun v7 w5 =>
    lt (x3 + v7) fun v8 =>
    fX8_drainsBy_L7 x2 n v8 w5
def fX8_drainsBy (a1 : Int32) (a2 : Int32) (w : zW) : Option (Int32 × zW) :=
  bd (fX8_begins a1 w) fun _ w1 =>
  fX8_drainsBy_L7 a2 zFU (0 : Int32) w1
theorem YX8_drainsBy : zYV yX8_drainsBy MX8_drainsBy 2 := ⟨wk_1243, wk_9, ⟨wk_1242, ws_111⟩, ⟨by decide, by decide, by decide +kernel⟩, rfl, rfl⟩
set_option maxHeartbeats 4000000 in
set_option maxRecDepth 100000 in
theorem lX8_drainsBy_L7 (x2 : Int32) : ∀ (n : Nat) (x3 : Int32) (w : zW), Tz MX8_drainsBy (zRet zi) (fX8_drainsBy_L7 x2 n x3 w) 7 [(0, .ref 74), (2, .int x2), (3, .int x3)] [] w := by
  intro n
  induction n with
  | zero => intro x3 w; exact tz_eq (fX8_drainsBy_L7.eq_1 _ _ _) tz_none
  | succ n ih =>
    intro x3 w
    refine tz_eq (fX8_drainsBy_L7.eq_2 _ _ _ _) ?_
    refine tz_aload_n 0 rfl (zd DX8_drainsBy 5 rfl) ?_
    refine tz_getI 30 kz8 (zs_74) (by decide) rfl wk_887 (zd DX8_drainsBy 6 rfl) ?_
    refine tz_aload_n 0 rfl (zd DX8_drainsBy 7 rfl) ?_
    refine tz_getI 31 kz8 (zs_74) (by decide) rfl wk_888 (zd DX8_drainsBy 8 rfl) ?_
    refine tz_iadd (zd DX8_drainsBy 9 rfl) ?_
    refine tz_if_le 30 (zd DX8_drainsBy 10 rfl) rfl (fun q4 => ?_) (fun q4 => ?_)
    · refine tz_iload_n 2 rfl (zd DX8_drainsBy 18 rfl) ?_
      exact tz_iret rfl (zd DX8_drainsBy 19 rfl)
    refine tz_iload_n 2 rfl (zd DX8_drainsBy 11 rfl) ?_
    refine tz_aload_n 0 rfl (zd DX8_drainsBy 12 rfl) ?_
    refine tz_iload_n 1 rfl (zd DX8_drainsBy 13 rfl) ?_
    refine tz_cV_i kz8 (zs_74) rfl (rest := [.int x3]) (YX8_costs) wk_1248 (tX8_costs x2 w) rfl rfl (Nat.le_of_ble_eq_true rfl) ⟨Nat.le_of_ble_eq_true rfl, Nat.le_of_ble_eq_true rfl⟩ (zd DX8_drainsBy 14 rfl) (fun v7 w5 e6 => ?_)
    refine tz_iadd (zd DX8_drainsBy 15 rfl) ?_
    refine tz_lti (fun v8 => ?_)
    refine tz_istore_n [(3, .int v8), (0, .ref 74), (2, .int x2)] (Nat.le_of_ble_eq_true rfl) rfl (zd DX8_drainsBy 16 rfl) ?_
    refine tz_goto 7 (zd DX8_drainsBy 17 rfl) rfl ?_
    refine tz_lv (lv2 := [(0, .ref 74), (2, .int x2), (3, .int v8)]) [1, 2, 0] rfl ?_
    exact ih v8 w5
set_option maxHeartbeats 4000000 in
set_option maxRecDepth 100000 in
theorem tX8_drainsBy (a1 : Int32) (a2 : Int32) (w : zW) : Sm yX8_drainsBy MX8_drainsBy zi [.ref 74, .int a1, .int a2] w (fX8_drainsBy a1 a2 w) := by
  refine Sm_of (lv0 := [(0, .ref 74), (1, .int a1), (2, .int a2)]) (by decide) rfl (fun _ => Nat.le_of_ble_eq_true rfl) rfl ?_
  unfold fX8_drainsBy
  refine tz_aload_n 0 rfl (zd DX8_drainsBy 0 rfl) ?_
  refine tz_iload_n 1 rfl (zd DX8_drainsBy 1 rfl) ?_
  refine tz_cV_n kz8 (zs_74) rfl (rest := []) (YX8_begins) wk_1244 (tX8_begins a1 w) rfl rfl (Nat.le_of_ble_eq_true rfl) ⟨Nat.le_of_ble_eq_true rfl, Nat.le_of_ble_eq_true rfl⟩ (zd DX8_drainsBy 2 rfl) (fun v3 w1 e2 => ?_)
  refine tz_iconst (0 : Int32) zk_iconst_0 (zd DX8_drainsBy 3 rfl) ?_
  refine tz_istore_n [(3, .int (0 : Int32)), (0, .ref 74), (1, .int a1), (2, .int a2)] (Nat.le_of_ble_eq_true rfl) rfl (zd DX8_drainsBy 4 rfl) ?_
  refine tz_lv (lv2 := [(0, .ref 74), (2, .int a2), (3, .int (0 : Int32))]) [1, 3, 0] rfl ?_
  exact lX8_drainsBy_L7 a2 zFU (0 : Int32) w1
def QX8_drains : List (Nat × Instr × Nat) := [(0, .aload_n 0, 1), (1, .iconst 0, 1), (2, .putfield 1, 3), (5, .iload_n 1, 1), (6, .invokestatic 237, 3), (9, .ifCond .ne 5, 3), (12, .iconst (-1), 1), (13, .ireturn, 1), (14, .aload_n 0, 1), (15, .iload_n 1, 1), (16, .iconst 0, 1), (17, .invokevirtual 296, 3), (20, .istore_n 2, 1), (21, .aload_n 0, 1), (22, .iload_n 1, 1), (23, .iconst 1, 1), (24, .invokevirtual 296, 3), (27, .istore_n 3, 1), (28, .aload_n 0, 1), (29, .iconst 0, 1), (30, .putfield 11, 3), (33, .aload_n 0, 1), (34, .iload_n 3, 1), (35, .iload_n 2, 1), (36, .if_icmp .ge 7, 3), (39, .iconst 1, 1), (40, .goto 4, 3), (43, .iconst 0, 1), (44, .invokestatic 31, 3), (47, .i2l, 1), (48, .invokevirtual 164, 3), (51, .aload_n 0, 1), (52, .iload_n 2, 1), (53, .i2l, 1), (54, .invokevirtual 164, 3), (57, .aload_n 0, 1), (58, .iload_n 3, 1), (59, .i2l, 1), (60, .invokevirtual 164, 3), (63, .iload_n 2, 1), (64, .iload_n 3, 1), (65, .invokestatic 299, 3), (68, .ireturn, 1)]
set_option maxRecDepth 100000 in
theorem DX8_drains : ∀ q ∈ QX8_drains, decode cX8_drains q.1 = .ok (q.2.1, q.2.2) := by decide +kernel
abbrev MX8_drains : zM := (cX8_drains, "EndSumsModel", 4, (some .int), { frames := 3, cells := 0, slots := 0, locals := 67 })
def fX8_drains (a1 : Int32) (w : zW) : Option (Int32 × zW) :=
  lt (zsI w 74 0 (0 : Int32)) fun w1 =>
  bd (fX8_isLine a1 w1) fun b4 w2 =>
  if b4 = true then
    bd (fX8_drainsBy a1 (0 : Int32) w2) fun v8 w6 =>
    bd (fX8_drainsBy a1 (1 : Int32) w6) fun v11 w9 =>
    lt (zsI w9 74 1 (0 : Int32)) fun w12 =>
    lt (if v8 ≤ v11 then (0 : Int32) else (1 : Int32)) fun v14 =>
    bd (fX8_flag v14 w12) fun v17 w15 =>
    bd (fX8_enters (v17).toInt64 w15) fun _ w18 =>
    bd (fX8_enters (v8).toInt64 w18) fun _ w21 =>
    bd (fX8_enters (v11).toInt64 w21) fun _ w24 =>
    some ((if v11 < v8 then v11 else v8), w24)
  else
  some ((-1 : Int32), w2)
theorem YX8_drains : zYV yX8_drains MX8_drains 1 := ⟨wk_1239, wk_9, ⟨wk_1237, wk_1238⟩, ⟨by decide, by decide, by decide +kernel⟩, rfl, rfl⟩
set_option maxHeartbeats 4000000 in
set_option maxRecDepth 100000 in
theorem tX8_drains (a1 : Int32) (w : zW) : Sm yX8_drains MX8_drains zi [.ref 74, .int a1] w (fX8_drains a1 w) := by
  refine Sm_of (lv0 := [(0, .ref 74), (1, .int a1)]) (by decide) rfl (fun _ => Nat.le_of_ble_eq_true rfl) rfl ?_
  unfold fX8_drains
  refine tz_aload_n 0 rfl (zd DX8_drains 0 rfl) ?_
  refine tz_iconst (0 : Int32) zk_iconst_0 (zd DX8_drains 1 rfl) ?_
  refine tz_putI 0 kz8 (zs_74) (by decide) rfl rfl wk_857 (zd DX8_drains 2 rfl) (fun w1 => ?_)
  refine tz_iload_n 1 rfl (zd DX8_drains 3 rfl) ?_
  refine tz_cS_z (rest := []) (YX8_isLine) wk_1104 (tX8_isLine a1 w1) rfl rfl (Nat.le_of_ble_eq_true rfl) ⟨Nat.le_of_ble_eq_true rfl, Nat.le_of_ble_eq_true rfl⟩ (zd DX8_drains 4 rfl) (fun b4 w2 e3 => ?_)
  refine tz_bif_ne 14 (zd DX8_drains 5 rfl) rfl (fun q5 => ?_) (fun q5 => ?_)
  · refine tz_aload_n 0 rfl (zd DX8_drains 8 rfl) ?_
    refine tz_iload_n 1 rfl (zd DX8_drains 9 rfl) ?_
    refine tz_iconst (0 : Int32) zk_iconst_0 (zd DX8_drains 10 rfl) ?_
    refine tz_cV_i kz8 (zs_74) rfl (rest := []) (YX8_drainsBy) wk_1240 (tX8_drainsBy a1 (0 : Int32) w2) rfl rfl (Nat.le_of_ble_eq_true rfl) ⟨Nat.le_of_ble_eq_true rfl, Nat.le_of_ble_eq_true rfl⟩ (zd DX8_drains 11 rfl) (fun v8 w6 e7 => ?_)
    refine tz_istore_n [(2, .int v8), (0, .ref 74), (1, .int a1)] (Nat.le_of_ble_eq_true rfl) rfl (zd DX8_drains 12 rfl) ?_
    refine tz_aload_n 1 rfl (zd DX8_drains 13 rfl) ?_
    refine tz_iload_n 2 rfl (zd DX8_drains 14 rfl) ?_
    refine tz_iconst (1 : Int32) zk_iconst_1 (zd DX8_drains 15 rfl) ?_
    refine tz_cV_i kz8 (zs_74) rfl (rest := []) (YX8_drainsBy) wk_1240 (tX8_drainsBy a1 (1 : Int32) w6) rfl rfl (Nat.le_of_ble_eq_true rfl) ⟨Nat.le_of_ble_eq_true rfl, Nat.le_of_ble_eq_true rfl⟩ (zd DX8_drains 16 rfl) (fun v11 w9 e10 => ?_)
    refine tz_istore_n [(3, .int v11), (2, .int v8), (0, .ref 74), (1, .int a1)] (Nat.le_of_ble_eq_true rfl) rfl (zd DX8_drains 17 rfl) ?_
    refine tz_aload_n 2 rfl (zd DX8_drains 18 rfl) ?_
    refine tz_iconst (0 : Int32) zk_iconst_0 (zd DX8_drains 19 rfl) ?_
    refine tz_putI 1 kz8 (zs_74) (by decide) rfl rfl wk_858 (zd DX8_drains 20 rfl) (fun w12 => ?_)
    refine tz_aload_n 2 rfl (zd DX8_drains 21 rfl) ?_
    refine tz_iload_n 0 rfl (zd DX8_drains 22 rfl) ?_
    refine tz_iload_n 1 rfl (zd DX8_drains 23 rfl) ?_
    refine tz_dia (P := fun F => ∀ v : Int32, Tz MX8_drains (zRet zi) (F v) 44 [(3, .int v11), (2, .int v8), (0, .ref 74), (1, .int a1)] (.int v :: [.ref 74]) w12) ?_ (fun _ hJ44 => ?_)
    · intro v14
      refine tz_cS_i (rest := [.ref 74]) (YX8_flag) wk_981 (tX8_flag v14 w12) rfl rfl (Nat.le_of_ble_eq_true rfl) ⟨Nat.le_of_ble_eq_true rfl, Nat.le_of_ble_eq_true rfl⟩ (zd DX8_drains 28 rfl) (fun v17 w15 e16 => ?_)
      refine tz_i2l (zd DX8_drains 29 rfl) ?_
      refine tz_cV_n kz8 (zs_74) rfl (rest := []) (YX8_enters) wk_1002 (tX8_enters (v17).toInt64 w15) rfl rfl (Nat.le_of_ble_eq_true rfl) ⟨Nat.le_of_ble_eq_true rfl, Nat.le_of_ble_eq_true rfl⟩ (zd DX8_drains 30 rfl) (fun v20 w18 e19 => ?_)
      refine tz_aload_n 2 rfl (zd DX8_drains 31 rfl) ?_
      refine tz_iload_n 1 rfl (zd DX8_drains 32 rfl) ?_
      refine tz_i2l (zd DX8_drains 33 rfl) ?_
      refine tz_cV_n kz8 (zs_74) rfl (rest := []) (YX8_enters) wk_1002 (tX8_enters (v8).toInt64 w18) rfl rfl (Nat.le_of_ble_eq_true rfl) ⟨Nat.le_of_ble_eq_true rfl, Nat.le_of_ble_eq_true rfl⟩ (zd DX8_drains 34 rfl) (fun v23 w21 e22 => ?_)
      refine tz_aload_n 2 rfl (zd DX8_drains 35 rfl) ?_
      refine tz_iload_n 0 rfl (zd DX8_drains 36 rfl) ?_
      refine tz_i2l (zd DX8_drains 37 rfl) ?_
      refine tz_cV_n kz8 (zs_74) rfl (rest := []) (YX8_enters) wk_1002 (tX8_enters (v11).toInt64 w21) rfl rfl (Nat.le_of_ble_eq_true rfl) ⟨Nat.le_of_ble_eq_true rfl, Nat.le_of_ble_eq_true rfl⟩ (zd DX8_drains 38 rfl) (fun v26 w24 e25 => ?_)
      refine tz_iload_n 1 rfl (zd DX8_drains 39 rfl) ?_
      refine tz_iload_n 0 rfl (zd DX8_drains 40 rfl) ?_
      refine tz_mmin wk_1252 wk_362 wk_10 wk_363 (Nat.le_of_ble_eq_true rfl) (Nat.le_of_ble_eq_true rfl) (zd DX8_drains 41 rfl) ?_
      exact tz_iret rfl (zd DX8_drains 42 rfl)
    refine tz_ite ?_
    refine tz_icmp_ge 43 (zd DX8_drains 24 rfl) rfl (fun q13 => ?_) (fun q13 => ?_)
    · refine tz_iconst (0 : Int32) zk_iconst_0 (zd DX8_drains 27 rfl) ?_
      exact hJ44 (0 : Int32)
    refine tz_iconst (1 : Int32) zk_iconst_1 (zd DX8_drains 25 rfl) ?_
    refine tz_goto 44 (zd DX8_drains 26 rfl) rfl ?_
    exact hJ44 (1 : Int32)
  refine tz_iconst (-1 : Int32) zk_iconst_m1 (zd DX8_drains 6 rfl) ?_
  exact tz_iret rfl (zd DX8_drains 7 rfl)
def QX8_would : List (Nat × Instr × Nat) := [(0, .aload_n 0, 1), (1, .iconst 0, 1), (2, .putfield 1, 3), (5, .iload_n 1, 1), (6, .invokestatic 237, 3), (9, .ifCond .eq 10, 3), (12, .iload_n 2, 1), (13, .invokestatic 240, 3), (16, .ifCond .ne 5, 3), (19, .iconst (-1), 1), (20, .ireturn, 1), (21, .aload_n 0, 1), (22, .iload_n 1, 1), (23, .invokevirtual 187, 3), (26, .ifCond .ne 6, 3), (29, .bipush (-2), 2), (31, .ireturn, 1), (32, .aload_n 0, 1), (33, .iload_n 1, 1), (34, .invokevirtual 290, 3), (37, .aload_n 0, 1), (38, .iload_n 2, 1), (39, .invokevirtual 293, 3), (42, .istore_n 3, 1), (43, .aload_n 0, 1), (44, .iconst 0, 1), (45, .putfield 11, 3), (48, .aload_n 0, 1), (49, .aload_n 0, 1), (50, .getfield 284, 3), (53, .i2l, 1), (54, .invokevirtual 164, 3), (57, .aload_n 0, 1), (58, .aload_n 0, 1), (59, .getfield 287, 3), (62, .i2l, 1), (63, .invokevirtual 164, 3), (66, .iload_n 3, 1), (67, .ireturn, 1)]
set_option maxRecDepth 100000 in
theorem DX8_would : ∀ q ∈ QX8_would, decode cX8_would q.1 = .ok (q.2.1, q.2.2) := by decide +kernel
abbrev MX8_would : zM := (cX8_would, "EndSumsModel", 4, (some .int), { frames := 2, cells := 0, slots := 0, locals := 45 })
def fX8_would (a1 : Int32) (a2 : Int32) (w : zW) : Option (Int32 × zW) :=
  lt (zsI w 74 0 (0 : Int32)) fun w1 =>
  bd (fX8_isLine a1 w1) fun b4 w2 =>
  if b4 = true then
    bd (fX8_isEnd a2 w2) fun b8 w6 =>
    if b8 = true then
      bd (fX8_sizeOf a1 w6) fun v12 w10 =>
      if ¬ v12 = (0 : Int32) then
        bd (fX8_begins a1 w10) fun _ w14 =>
        bd (fX8_costs a2 w14) fun v19 w17 =>
        lt (zsI w17 74 1 (0 : Int32)) fun w20 =>
        bd (fX8_enters (zI w20 74 30).toInt64 w20) fun _ w21 =>
        bd (fX8_enters (zI w21 74 31).toInt64 w21) fun _ w24 =>
        some (v19, w24)
      else
      some ((-2 : Int32), w10)
    else
    some ((-1 : Int32), w6)
  else
  some ((-1 : Int32), w2)
theorem YX8_would : zYV yX8_would MX8_would 2 := ⟨wk_1256, wk_9, ⟨wk_1254, wk_1255⟩, ⟨by decide, by decide, by decide +kernel⟩, rfl, rfl⟩
set_option maxHeartbeats 4000000 in
set_option maxRecDepth 100000 in
theorem tX8_would (a1 : Int32) (a2 : Int32) (w : zW) : Sm yX8_would MX8_would zi [.ref 74, .int a1, .int a2] w (fX8_would a1 a2 w) := by
  refine Sm_of (lv0 := [(0, .ref 74), (1, .int a1), (2, .int a2)]) (by decide) rfl (fun _ => Nat.le_of_ble_eq_true rfl) rfl ?_
  unfold fX8_would
  refine tz_aload_n 0 rfl (zd DX8_would 0 rfl) ?_
  refine tz_iconst (0 : Int32) zk_iconst_0 (zd DX8_would 1 rfl) ?_
  refine tz_putI 0 kz8 (zs_74) (by decide) rfl rfl wk_857 (zd DX8_would 2 rfl) (fun w1 => ?_)
  refine tz_iload_n 1 rfl (zd DX8_would 3 rfl) ?_
  refine tz_cS_z (rest := []) (YX8_isLine) wk_1104 (tX8_isLine a1 w1) rfl rfl (Nat.le_of_ble_eq_true rfl) ⟨Nat.le_of_ble_eq_true rfl, Nat.le_of_ble_eq_true rfl⟩ (zd DX8_would 4 rfl) (fun b4 w2 e3 => ?_)
  refine tz_bif_eq 19 (zd DX8_would 5 rfl) rfl (fun q5 => ?_) (fun q5 => ?_)
  · refine tz_iload_n 2 rfl (zd DX8_would 6 rfl) ?_
    refine tz_cS_z (rest := []) (YX8_isEnd) wk_1108 (tX8_isEnd a2 w2) rfl rfl (Nat.le_of_ble_eq_true rfl) ⟨Nat.le_of_ble_eq_true rfl, Nat.le_of_ble_eq_true rfl⟩ (zd DX8_would 7 rfl) (fun b8 w6 e7 => ?_)
    refine tz_bif_ne 21 (zd DX8_would 8 rfl) rfl (fun q9 => ?_) (fun q9 => ?_)
    · refine tz_aload_n 0 rfl (zd DX8_would 11 rfl) ?_
      refine tz_iload_n 1 rfl (zd DX8_would 12 rfl) ?_
      refine tz_cV_i kz8 (zs_74) rfl (rest := []) (YX8_sizeOf) wk_1042 (tX8_sizeOf a1 w6) rfl rfl (Nat.le_of_ble_eq_true rfl) ⟨Nat.le_of_ble_eq_true rfl, Nat.le_of_ble_eq_true rfl⟩ (zd DX8_would 13 rfl) (fun v12 w10 e11 => ?_)
      refine tz_if_ne 32 (zd DX8_would 14 rfl) rfl (fun q13 => ?_) (fun q13 => ?_)
      · refine tz_aload_n 0 rfl (zd DX8_would 17 rfl) ?_
        refine tz_iload_n 1 rfl (zd DX8_would 18 rfl) ?_
        refine tz_cV_n kz8 (zs_74) rfl (rest := []) (YX8_begins) wk_1244 (tX8_begins a1 w10) rfl rfl (Nat.le_of_ble_eq_true rfl) ⟨Nat.le_of_ble_eq_true rfl, Nat.le_of_ble_eq_true rfl⟩ (zd DX8_would 19 rfl) (fun v16 w14 e15 => ?_)
        refine tz_aload_n 0 rfl (zd DX8_would 20 rfl) ?_
        refine tz_iload_n 2 rfl (zd DX8_would 21 rfl) ?_
        refine tz_cV_i kz8 (zs_74) rfl (rest := []) (YX8_costs) wk_1248 (tX8_costs a2 w14) rfl rfl (Nat.le_of_ble_eq_true rfl) ⟨Nat.le_of_ble_eq_true rfl, Nat.le_of_ble_eq_true rfl⟩ (zd DX8_would 22 rfl) (fun v19 w17 e18 => ?_)
        refine tz_istore_n [(3, .int v19), (0, .ref 74), (1, .int a1), (2, .int a2)] (Nat.le_of_ble_eq_true rfl) rfl (zd DX8_would 23 rfl) ?_
        refine tz_aload_n 1 rfl (zd DX8_would 24 rfl) ?_
        refine tz_iconst (0 : Int32) zk_iconst_0 (zd DX8_would 25 rfl) ?_
        refine tz_putI 1 kz8 (zs_74) (by decide) rfl rfl wk_858 (zd DX8_would 26 rfl) (fun w20 => ?_)
        refine tz_aload_n 1 rfl (zd DX8_would 27 rfl) ?_
        refine tz_aload_n 1 rfl (zd DX8_would 28 rfl) ?_
        refine tz_getI 30 kz8 (zs_74) (by decide) rfl wk_887 (zd DX8_would 29 rfl) ?_
        refine tz_i2l (zd DX8_would 30 rfl) ?_
        refine tz_cV_n kz8 (zs_74) rfl (rest := []) (YX8_enters) wk_1002 (tX8_enters (zI w20 74 30).toInt64 w20) rfl rfl (Nat.le_of_ble_eq_true rfl) ⟨Nat.le_of_ble_eq_true rfl, Nat.le_of_ble_eq_true rfl⟩ (zd DX8_would 31 rfl) (fun v23 w21 e22 => ?_)
        refine tz_aload_n 1 rfl (zd DX8_would 32 rfl) ?_
        refine tz_aload_n 1 rfl (zd DX8_would 33 rfl) ?_
        refine tz_getI 31 kz8 (zs_74) (by decide) rfl wk_888 (zd DX8_would 34 rfl) ?_
        refine tz_i2l (zd DX8_would 35 rfl) ?_
        refine tz_cV_n kz8 (zs_74) rfl (rest := []) (YX8_enters) wk_1002 (tX8_enters (zI w21 74 31).toInt64 w21) rfl rfl (Nat.le_of_ble_eq_true rfl) ⟨Nat.le_of_ble_eq_true rfl, Nat.le_of_ble_eq_true rfl⟩ (zd DX8_would 36 rfl) (fun v26 w24 e25 => ?_)
        refine tz_iload_n 0 rfl (zd DX8_would 37 rfl) ?_
        exact tz_iret rfl (zd DX8_would 38 rfl)
      refine tz_bipush (-2 : Int32) zk_bipush_m2 (zd DX8_would 15 rfl) ?_
      exact tz_iret rfl (zd DX8_would 16 rfl)
    refine tz_iconst (-1 : Int32) zk_iconst_m1 (zd DX8_would 9 rfl) ?_
    exact tz_iret rfl (zd DX8_would 10 rfl)
  refine tz_iconst (-1 : Int32) zk_iconst_m1 (zd DX8_would 9 rfl) ?_
  exact tz_iret rfl (zd DX8_would 10 rfl)
def QX8_dearest : List (Nat × Instr × Nat) := [(0, .aload_n 0, 1), (1, .iconst 0, 1), (2, .putfield 1, 3), (5, .iload_n 1, 1), (6, .invokestatic 237, 3), (9, .ifCond .eq 15, 3), (12, .iload_n 2, 1), (13, .i2l, 1), (14, .lconst 1, 1), (15, .ldc2_w 301, 3), (18, .invokestatic 21, 3), (21, .ifCond .ne 5, 3), (24, .iconst (-1), 1), (25, .ireturn, 1), (26, .aload_n 0, 1), (27, .iload_n 1, 1), (28, .invokevirtual 187, 3), (31, .iload_n 2, 1), (32, .if_icmp .ge 6, 3), (35, .bipush (-2), 2), (37, .ireturn, 1), (38, .iconst 0, 1), (39, .istore_n 3, 1), (40, .iconst (-1), 1), (41, .istore 4, 2), (43, .iconst 0, 1), (44, .istore 5, 2), (46, .iload 5, 2), (48, .iconst 1, 1), (49, .iload_n 2, 1), (50, .ishl, 1), (51, .if_icmp .ge 62, 3), (54, .aload_n 0, 1), (55, .iload_n 1, 1), (56, .invokevirtual 290, 3), (59, .iconst 0, 1), (60, .istore 6, 2), (62, .iconst 0, 1), (63, .istore 7, 2), (65, .iload 7, 2), (67, .iload_n 2, 1), (68, .if_icmp .ge 25, 3), (71, .iload 6, 2), (73, .aload_n 0, 1), (74, .iload 5, 2), (76, .iload 7, 2), (78, .ishr, 1), (79, .iconst 1, 1), (80, .iand, 1), (81, .invokevirtual 293, 3), (84, .iadd, 1), (85, .istore 6, 2), (87, .iinc 7 1, 3), (90, .goto (-25), 3), (93, .iload 6, 2), (95, .iload 4, 2), (97, .if_icmp .le 10, 3), (100, .iload 5, 2), (102, .istore_n 3, 1), (103, .iload 6, 2), (105, .istore 4, 2), (107, .iinc 5 1, 3), (110, .goto (-64), 3), (113, .aload_n 0, 1), (114, .iconst 0, 1), (115, .putfield 11, 3), (118, .aload_n 0, 1), (119, .iload_n 3, 1), (120, .i2l, 1), (121, .invokevirtual 164, 3), (124, .iload 4, 2), (126, .ireturn, 1)]
set_option maxRecDepth 100000 in
theorem DX8_dearest : ∀ q ∈ QX8_dearest, decode cX8_dearest q.1 = .ok (q.2.1, q.2.2) := by decide +kernel
abbrev MX8_dearest : zM := (cX8_dearest, "EndSumsModel", 8, (some .int), { frames := 2, cells := 0, slots := 0, locals := 45 })
def fX8_dearest_L65 (x1 : Int32) (x2 : Int32) (x3 : Int32) (x4 : Int32) (x5 : Int32) (j46 : Int32 → Int32 → Int32 → zW → Option (Int32 × zW)) : Nat → Int32 → Int32 → zW → Option (Int32 × zW)
  | 0, _, _, _ => none
  | n + 1, x6, x7, w =>
    if x2 ≤ x7 then
      lt (fun (y3_107 : Int32) (y4_107 : Int32) (w23 : zW) =>
        j46 y3_107 y4_107 (x5 + (1 : Int32)) w23) fun j23 =>
      if x6 ≤ x4 then
        j23 x3 x4 w
      else
      j23 x5 x6 w
    else
    bd (fX8_costs ((x5 >>> (x7 &&& 31)) &&& (1 : Int32)) w) fun v27 w25 =>
    lt (x6 + v27) fun v28 =>
    fX8_dearest_L65 x1 x2 x3 x4 x5 j46 n v28 (x7 + (1 : Int32)) w25
def fX8_dearest_L46 (x1 : Int32) (x2 : Int32) : Nat → Int32 → Int32 → Int32 → zW → Option (Int32 × zW)
  | 0, _, _, _, _ => none
  | n + 1, x3, x4, x5, w =>
    if ((1 : Int32) <<< (x2 &&& 31)) ≤ x5 then
      lt (zsI w 74 1 (0 : Int32)) fun w15 =>
      bd (fX8_enters (x3).toInt64 w15) fun _ w16 =>
      some (x4, w16)
    else
    bd (fX8_begins x1 w) fun _ w19 =>
    fX8_dearest_L65 x1 x2 x3 x4 x5 (fX8_dearest_L46 x1 x2 n) zFU (0 : Int32) (0 : Int32) w19
def fX8_dearest (a1 : Int32) (a2 : Int32) (w : zW) : Option (Int32 × zW) :=
  lt (zsI w 74 0 (0 : Int32)) fun w1 =>
  bd (fX8_isLine a1 w1) fun b4 w2 =>
  if b4 = true then
    bd (fX8_in (a2).toInt64 (1 : Int64) (12 : Int64) w2) fun b8 w6 =>
    if b8 = true then
      bd (fX8_sizeOf a1 w6) fun v12 w10 =>
      if a2 ≤ v12 then
        fX8_dearest_L46 a1 a2 zFU (0 : Int32) (-1 : Int32) (0 : Int32) w10
      else
      some ((-2 : Int32), w10)
    else
    some ((-1 : Int32), w6)
  else
  some ((-1 : Int32), w2)
theorem YX8_dearest : zYV yX8_dearest MX8_dearest 2 := ⟨wk_1260, wk_9, ⟨wk_1258, wk_1259⟩, ⟨by decide, by decide, by decide +kernel⟩, rfl, rfl⟩
set_option maxHeartbeats 4000000 in
set_option maxRecDepth 100000 in
theorem lX8_dearest_L65 (x1 : Int32) (x2 : Int32) (x3 : Int32) (x4 : Int32) (x5 : Int32) (j46 : Int32 → Int32 → Int32 → zW → Option (Int32 × zW)) (hj46 : ∀ (y3 : Int32) (y4 : Int32) (y5 : Int32) (w : zW), Tz MX8_dearest (zRet zi) (j46 y3 y4 y5 w) 46 [(0, .ref 74), (1, .int x1), (2, .int x2), (3, .int y3), (4, .int y4), (5, .int y5)] [] w) : ∀ (n : Nat) (x6 : Int32) (x7 : Int32) (w : zW), Tz MX8_dearest (zRet zi) (fX8_dearest_L65 x1 x2 x3 x4 x5 j46 n x6 x7 w) 65 [(0, .ref 74), (1, .int x1), (2, .int x2), (3, .int x3), (4, .int x4), (5, .int x5), (6, .int x6), (7, .int x7)] [] w := by
  intro n
  induction n with
  | zero => intro x6 x7 w; exact tz_eq (fX8_dearest_L65.eq_1 _ _ _ _ _ _ _ _ _) tz_none
  | succ n ih =>
    intro x6 x7 w
    refine tz_eq (fX8_dearest_L65.eq_2 _ _ _ _ _ _ _ _ _ _) ?_
    refine tz_iload 7 rfl (zd DX8_dearest 39 rfl) ?_
    refine tz_iload_n 2 rfl (zd DX8_dearest 40 rfl) ?_
    refine tz_icmp_ge 93 (zd DX8_dearest 41 rfl) rfl (fun q22 => ?_) (fun q22 => ?_)
    · refine tz_iload 6 rfl (zd DX8_dearest 54 rfl) ?_
      refine tz_iload 4 rfl (zd DX8_dearest 55 rfl) ?_
      refine tz_jp (P := fun j => ∀ (y3_107 : Int32) (y4_107 : Int32) (w23 : zW), Tz MX8_dearest (zRet zi) (j y3_107 y4_107 w23) 107 [(0, .ref 74), (1, .int x1), (2, .int x2), (3, .int y3_107), (4, .int y4_107), (5, .int x5)] [] w23) ?_ (fun j23 hj23 => ?_)
      · intro y3_107 y4_107 w23
        refine tz_iinc 5 (1 : Int32) [(5, .int (x5 + (1 : Int32))), (0, .ref 74), (1, .int x1), (2, .int x2), (3, .int y3_107), (4, .int y4_107)] rfl zk_iconst_1 (Nat.le_of_ble_eq_true rfl) rfl (zd DX8_dearest 61 rfl) ?_
        refine tz_goto 46 (zd DX8_dearest 62 rfl) rfl ?_
        refine tz_lv (lv2 := [(0, .ref 74), (1, .int x1), (2, .int x2), (3, .int y3_107), (4, .int y4_107), (5, .int (x5 + (1 : Int32)))]) [1, 2, 3, 4, 5, 0] rfl ?_
        exact hj46 y3_107 y4_107 (x5 + (1 : Int32)) w23
      refine tz_icmp_le 107 (zd DX8_dearest 56 rfl) rfl (fun q24 => ?_) (fun q24 => ?_)
      · refine tz_lv (lv2 := [(0, .ref 74), (1, .int x1), (2, .int x2), (3, .int x3), (4, .int x4), (5, .int x5)]) [0, 1, 2, 3, 4, 5] rfl ?_
        exact hj23 x3 x4 w
      refine tz_iload 5 rfl (zd DX8_dearest 57 rfl) ?_
      refine tz_istore_n [(3, .int x5), (0, .ref 74), (1, .int x1), (2, .int x2), (4, .int x4), (5, .int x5), (6, .int x6), (7, .int x7)] (Nat.le_of_ble_eq_true rfl) rfl (zd DX8_dearest 58 rfl) ?_
      refine tz_iload 6 rfl (zd DX8_dearest 59 rfl) ?_
      refine tz_istore [(4, .int x6), (3, .int x5), (0, .ref 74), (1, .int x1), (2, .int x2), (5, .int x5), (6, .int x6), (7, .int x7)] (Nat.le_of_ble_eq_true rfl) rfl (zd DX8_dearest 60 rfl) ?_
      refine tz_lv (lv2 := [(0, .ref 74), (1, .int x1), (2, .int x2), (3, .int x5), (4, .int x6), (5, .int x5)]) [2, 3, 4, 1, 0, 5] rfl ?_
      exact hj23 x5 x6 w
    refine tz_iload 6 rfl (zd DX8_dearest 42 rfl) ?_
    refine tz_aload_n 0 rfl (zd DX8_dearest 43 rfl) ?_
    refine tz_iload 5 rfl (zd DX8_dearest 44 rfl) ?_
    refine tz_iload 7 rfl (zd DX8_dearest 45 rfl) ?_
    refine tz_ishr (zd DX8_dearest 46 rfl) ?_
    refine tz_iconst (1 : Int32) zk_iconst_1 (zd DX8_dearest 47 rfl) ?_
    refine tz_iand (zd DX8_dearest 48 rfl) ?_
    refine tz_cV_i kz8 (zs_74) rfl (rest := [.int x6]) (YX8_costs) wk_1248 (tX8_costs ((x5 >>> (x7 &&& 31)) &&& (1 : Int32)) w) rfl rfl (Nat.le_of_ble_eq_true rfl) ⟨Nat.le_of_ble_eq_true rfl, Nat.le_of_ble_eq_true rfl⟩ (zd DX8_dearest 49 rfl) (fun v27 w25 e26 => ?_)
    refine tz_iadd (zd DX8_dearest 50 rfl) ?_
    refine tz_lti (fun v28 => ?_)
    refine tz_istore [(6, .int v28), (0, .ref 74), (1, .int x1), (2, .int x2), (3, .int x3), (4, .int x4), (5, .int x5), (7, .int x7)] (Nat.le_of_ble_eq_true rfl) rfl (zd DX8_dearest 51 rfl) ?_
    refine tz_iinc 7 (1 : Int32) [(7, .int (x7 + (1 : Int32))), (6, .int v28), (0, .ref 74), (1, .int x1), (2, .int x2), (3, .int x3), (4, .int x4), (5, .int x5)] rfl zk_iconst_1 (Nat.le_of_ble_eq_true rfl) rfl (zd DX8_dearest 52 rfl) ?_
    refine tz_goto 65 (zd DX8_dearest 53 rfl) rfl ?_
    refine tz_lv (lv2 := [(0, .ref 74), (1, .int x1), (2, .int x2), (3, .int x3), (4, .int x4), (5, .int x5), (6, .int v28), (7, .int (x7 + (1 : Int32)))]) [2, 3, 4, 5, 6, 7, 1, 0] rfl ?_
    exact ih v28 (x7 + (1 : Int32)) w25
set_option maxHeartbeats 4000000 in
set_option maxRecDepth 100000 in
theorem lX8_dearest_L46 (x1 : Int32) (x2 : Int32) : ∀ (n : Nat) (x3 : Int32) (x4 : Int32) (x5 : Int32) (w : zW), Tz MX8_dearest (zRet zi) (fX8_dearest_L46 x1 x2 n x3 x4 x5 w) 46 [(0, .ref 74), (1, .int x1), (2, .int x2), (3, .int x3), (4, .int x4), (5, .int x5)] [] w := by
  intro n
  induction n with
  | zero => intro x3 x4 x5 w; exact tz_eq (fX8_dearest_L46.eq_1 _ _ _ _ _ _) tz_none
  | succ n ih =>
    intro x3 x4 x5 w
    refine tz_eq (fX8_dearest_L46.eq_2 _ _ _ _ _ _ _) ?_
    refine tz_iload 5 rfl (zd DX8_dearest 27 rfl) ?_
    refine tz_iconst (1 : Int32) zk_iconst_1 (zd DX8_dearest 28 rfl) ?_
    refine tz_iload_n 2 rfl (zd DX8_dearest 29 rfl) ?_
    refine tz_ishl (zd DX8_dearest 30 rfl) ?_
    refine tz_icmp_ge 113 (zd DX8_dearest 31 rfl) rfl (fun q14 => ?_) (fun q14 => ?_)
    · refine tz_aload_n 0 rfl (zd DX8_dearest 63 rfl) ?_
      refine tz_iconst (0 : Int32) zk_iconst_0 (zd DX8_dearest 64 rfl) ?_
      refine tz_putI 1 kz8 (zs_74) (by decide) rfl rfl wk_858 (zd DX8_dearest 65 rfl) (fun w15 => ?_)
      refine tz_aload_n 0 rfl (zd DX8_dearest 66 rfl) ?_
      refine tz_iload_n 3 rfl (zd DX8_dearest 67 rfl) ?_
      refine tz_i2l (zd DX8_dearest 68 rfl) ?_
      refine tz_cV_n kz8 (zs_74) rfl (rest := []) (YX8_enters) wk_1002 (tX8_enters (x3).toInt64 w15) rfl rfl (Nat.le_of_ble_eq_true rfl) ⟨Nat.le_of_ble_eq_true rfl, Nat.le_of_ble_eq_true rfl⟩ (zd DX8_dearest 69 rfl) (fun v18 w16 e17 => ?_)
      refine tz_iload 4 rfl (zd DX8_dearest 70 rfl) ?_
      exact tz_iret rfl (zd DX8_dearest 71 rfl)
    refine tz_aload_n 0 rfl (zd DX8_dearest 32 rfl) ?_
    refine tz_iload_n 1 rfl (zd DX8_dearest 33 rfl) ?_
    refine tz_cV_n kz8 (zs_74) rfl (rest := []) (YX8_begins) wk_1244 (tX8_begins x1 w) rfl rfl (Nat.le_of_ble_eq_true rfl) ⟨Nat.le_of_ble_eq_true rfl, Nat.le_of_ble_eq_true rfl⟩ (zd DX8_dearest 34 rfl) (fun v21 w19 e20 => ?_)
    refine tz_iconst (0 : Int32) zk_iconst_0 (zd DX8_dearest 35 rfl) ?_
    refine tz_istore [(6, .int (0 : Int32)), (0, .ref 74), (1, .int x1), (2, .int x2), (3, .int x3), (4, .int x4), (5, .int x5)] (Nat.le_of_ble_eq_true rfl) rfl (zd DX8_dearest 36 rfl) ?_
    refine tz_iconst (0 : Int32) zk_iconst_0 (zd DX8_dearest 37 rfl) ?_
    refine tz_istore [(7, .int (0 : Int32)), (6, .int (0 : Int32)), (0, .ref 74), (1, .int x1), (2, .int x2), (3, .int x3), (4, .int x4), (5, .int x5)] (Nat.le_of_ble_eq_true rfl) rfl (zd DX8_dearest 38 rfl) ?_
    refine tz_lv (lv2 := [(0, .ref 74), (1, .int x1), (2, .int x2), (3, .int x3), (4, .int x4), (5, .int x5), (6, .int (0 : Int32)), (7, .int (0 : Int32))]) [2, 3, 4, 5, 6, 7, 1, 0] rfl ?_
    exact lX8_dearest_L65 x1 x2 x3 x4 x5 _ ih zFU (0 : Int32) (0 : Int32) w19
set_option maxHeartbeats 4000000 in
set_option maxRecDepth 100000 in
theorem tX8_dearest (a1 : Int32) (a2 : Int32) (w : zW) : Sm yX8_dearest MX8_dearest zi [.ref 74, .int a1, .int a2] w (fX8_dearest a1 a2 w) := by
  refine Sm_of (lv0 := [(0, .ref 74), (1, .int a1), (2, .int a2)]) (by decide) rfl (fun _ => Nat.le_of_ble_eq_true rfl) rfl ?_
  unfold fX8_dearest
  refine tz_aload_n 0 rfl (zd DX8_dearest 0 rfl) ?_
  refine tz_iconst (0 : Int32) zk_iconst_0 (zd DX8_dearest 1 rfl) ?_
  refine tz_putI 0 kz8 (zs_74) (by decide) rfl rfl wk_857 (zd DX8_dearest 2 rfl) (fun w1 => ?_)
  refine tz_iload_n 1 rfl (zd DX8_dearest 3 rfl) ?_
  refine tz_cS_z (rest := []) (YX8_isLine) wk_1104 (tX8_isLine a1 w1) rfl rfl (Nat.le_of_ble_eq_true rfl) ⟨Nat.le_of_ble_eq_true rfl, Nat.le_of_ble_eq_true rfl⟩ (zd DX8_dearest 4 rfl) (fun b4 w2 e3 => ?_)
  refine tz_bif_eq 24 (zd DX8_dearest 5 rfl) rfl (fun q5 => ?_) (fun q5 => ?_)
  · refine tz_iload_n 2 rfl (zd DX8_dearest 6 rfl) ?_
    refine tz_i2l (zd DX8_dearest 7 rfl) ?_
    refine tz_lconst (1 : Int64) rfl (zd DX8_dearest 8 rfl) ?_
    refine tz_ldc2_w wk_1261 (zd DX8_dearest 9 rfl) ?_
    refine tz_cS_z (rest := []) (YX8_in) wk_848 (tX8_in (a2).toInt64 (1 : Int64) (12 : Int64) w2) rfl rfl (Nat.le_of_ble_eq_true rfl) ⟨Nat.le_of_ble_eq_true rfl, Nat.le_of_ble_eq_true rfl⟩ (zd DX8_dearest 10 rfl) (fun b8 w6 e7 => ?_)
    refine tz_bif_ne 26 (zd DX8_dearest 11 rfl) rfl (fun q9 => ?_) (fun q9 => ?_)
    · refine tz_aload_n 0 rfl (zd DX8_dearest 14 rfl) ?_
      refine tz_iload_n 1 rfl (zd DX8_dearest 15 rfl) ?_
      refine tz_cV_i kz8 (zs_74) rfl (rest := []) (YX8_sizeOf) wk_1042 (tX8_sizeOf a1 w6) rfl rfl (Nat.le_of_ble_eq_true rfl) ⟨Nat.le_of_ble_eq_true rfl, Nat.le_of_ble_eq_true rfl⟩ (zd DX8_dearest 16 rfl) (fun v12 w10 e11 => ?_)
      refine tz_iload_n 2 rfl (zd DX8_dearest 17 rfl) ?_
      refine tz_icmp_ge 38 (zd DX8_dearest 18 rfl) rfl (fun q13 => ?_) (fun q13 => ?_)
      · refine tz_iconst (0 : Int32) zk_iconst_0 (zd DX8_dearest 21 rfl) ?_
        refine tz_istore_n [(3, .int (0 : Int32)), (0, .ref 74), (1, .int a1), (2, .int a2)] (Nat.le_of_ble_eq_true rfl) rfl (zd DX8_dearest 22 rfl) ?_
        refine tz_iconst (-1 : Int32) zk_iconst_m1 (zd DX8_dearest 23 rfl) ?_
        refine tz_istore [(4, .int (-1 : Int32)), (3, .int (0 : Int32)), (0, .ref 74), (1, .int a1), (2, .int a2)] (Nat.le_of_ble_eq_true rfl) rfl (zd DX8_dearest 24 rfl) ?_
        refine tz_iconst (0 : Int32) zk_iconst_0 (zd DX8_dearest 25 rfl) ?_
        refine tz_istore [(5, .int (0 : Int32)), (4, .int (-1 : Int32)), (3, .int (0 : Int32)), (0, .ref 74), (1, .int a1), (2, .int a2)] (Nat.le_of_ble_eq_true rfl) rfl (zd DX8_dearest 26 rfl) ?_
        refine tz_lv (lv2 := [(0, .ref 74), (1, .int a1), (2, .int a2), (3, .int (0 : Int32)), (4, .int (-1 : Int32)), (5, .int (0 : Int32))]) [3, 4, 5, 2, 1, 0] rfl ?_
        exact lX8_dearest_L46 a1 a2 zFU (0 : Int32) (-1 : Int32) (0 : Int32) w10
      refine tz_bipush (-2 : Int32) zk_bipush_m2 (zd DX8_dearest 19 rfl) ?_
      exact tz_iret rfl (zd DX8_dearest 20 rfl)
    refine tz_iconst (-1 : Int32) zk_iconst_m1 (zd DX8_dearest 12 rfl) ?_
    exact tz_iret rfl (zd DX8_dearest 13 rfl)
  refine tz_iconst (-1 : Int32) zk_iconst_m1 (zd DX8_dearest 12 rfl) ?_
  exact tz_iret rfl (zd DX8_dearest 13 rfl)
def QX8_unlike : List (Nat × Instr × Nat) := [(0, .aload_n 0, 1), (1, .iconst 0, 1), (2, .putfield 1, 3), (5, .iload_n 1, 1), (6, .invokestatic 237, 3), (9, .ifCond .ne 5, 3), (12, .iconst (-1), 1), (13, .ireturn, 1), (14, .aload_n 0, 1), (15, .iload_n 1, 1), (16, .invokevirtual 187, 3), (19, .istore_n 2, 1), (20, .iconst 1, 1), (21, .istore_n 3, 1), (22, .iload_n 3, 1), (23, .iload_n 2, 1), (24, .if_icmp .gt 36, 3), (27, .aload_n 0, 1), (28, .iload_n 1, 1), (29, .iconst 0, 1), (30, .iload_n 3, 1), (31, .invokevirtual 280, 3), (34, .aload_n 0, 1), (35, .getfield 60, 3), (38, .iload_n 3, 1), (39, .aload_n 0, 1), (40, .getfield 96, 3), (43, .lastore, 1), (44, .aload_n 0, 1), (45, .getfield 63, 3), (48, .iload_n 3, 1), (49, .aload_n 0, 1), (50, .getfield 100, 3), (53, .lastore, 1), (54, .iinc 3 1, 3), (57, .goto (-35), 3), (60, .iconst 0, 1), (61, .istore_n 3, 1), (62, .iconst 0, 1), (63, .istore 4, 2), (65, .iconst 0, 1), (66, .istore 5, 2), (68, .iconst 1, 1), (69, .istore 6, 2), (71, .iload 6, 2), (73, .iload_n 2, 1), (74, .if_icmp .gt 140, 3), (77, .iconst 0, 1), (78, .istore 7, 2), (80, .iconst 1, 1), (81, .istore 8, 2), (83, .iconst 1, 1), (84, .istore 9, 2), (86, .iload 9, 2), (88, .iload_n 2, 1), (89, .if_icmp .gt 86, 3), (92, .aload_n 0, 1), (93, .getfield 60, 3), (96, .iload 9, 2), (98, .laload, 1), (99, .aload_n 0, 1), (100, .getfield 60, 3), (103, .iload 6, 2), (105, .laload, 1), (106, .lcmp, 1), (107, .ifCond .ne 25, 3), (110, .aload_n 0, 1), (111, .getfield 63, 3), (114, .iload 9, 2), (116, .laload, 1), (117, .aload_n 0, 1), (118, .getfield 63, 3), (121, .iload 6, 2), (123, .laload, 1), (124, .lcmp, 1), (125, .ifCond .ne 7, 3), (128, .iconst 1, 1), (129, .goto 4, 3), (132, .iconst 0, 1), (133, .istore 10, 2), (135, .iload 7, 2), (137, .iload 10, 2), (139, .invokestatic 31, 3), (142, .iadd, 1), (143, .istore 7, 2), (145, .iload 8, 2), (147, .ifCond .eq 19, 3), (150, .iload 10, 2), (152, .ifCond .eq 10, 3), (155, .iload 9, 2), (157, .iload 6, 2), (159, .if_icmp .lt 7, 3), (162, .iconst 1, 1), (163, .goto 4, 3), (166, .iconst 0, 1), (167, .istore 8, 2), (169, .iinc 9 1, 3), (172, .goto (-86), 3), (175, .iload_n 3, 1), (176, .iload 8, 2), (178, .invokestatic 31, 3), (181, .iadd, 1), (182, .istore_n 3, 1), (183, .iload 7, 2), (185, .iload 5, 2), (187, .if_icmp .le 8, 3), (190, .iload 6, 2), (192, .goto 5, 3), (195, .iload 4, 2), (197, .istore 4, 2), (199, .iload 5, 2), (201, .iload 7, 2), (203, .invokestatic 303, 3), (206, .istore 5, 2), (208, .iinc 6 1, 3), (211, .goto (-140), 3), (214, .aload_n 0, 1), (215, .iconst 0, 1), (216, .putfield 11, 3), (219, .iload_n 2, 1), (220, .ifCond .le 32, 3), (223, .aload_n 0, 1), (224, .aload_n 0, 1), (225, .getfield 60, 3), (228, .iload 4, 2), (230, .laload, 1), (231, .invokevirtual 164, 3), (234, .aload_n 0, 1), (235, .aload_n 0, 1), (236, .getfield 63, 3), (239, .iload 4, 2), (241, .laload, 1), (242, .invokevirtual 164, 3), (245, .aload_n 0, 1), (246, .iload 5, 2), (248, .i2l, 1), (249, .invokevirtual 164, 3), (252, .iload_n 3, 1), (253, .ireturn, 1)]
set_option maxRecDepth 100000 in
theorem DX8_unlike : ∀ q ∈ QX8_unlike, decode cX8_unlike q.1 = .ok (q.2.1, q.2.2) := by decide +kernel
abbrev MX8_unlike : zM := (cX8_unlike, "EndSumsModel", 11, (some .int), { frames := 5, cells := 0, slots := 0, locals := 128 })
def fX8_unlike_L86 (x2 : Int32) (x3 : Int32) (x4 : Int32) (x5 : Int32) (x6 : Int32) (j71 : Int32 → Int32 → Int32 → Int32 → zW → Option (Int32 × zW)) : Nat → Int32 → Int32 → Int32 → zW → Option (Int32 × zW)
  | 0, _, _, _, _ => none
  | n + 1, x7, x8, x9, w =>
    if x2 < x9 then
      bd (fX8_flag x8 w) fun v25 w23 =>
      lt (x3 + v25) fun v26 =>
      lt (if x7 ≤ x5 then x4 else x6) fun v28 =>
      lt (if x5 < x7 then x7 else x5) fun v29 =>
      j71 v26 v28 v29 (x6 + (1 : Int32)) w23
    else
    zg (zin x9 129) <|
    zg (zin x6 129) <|
    if ¬ (zL w 81 x9.toNatClampNeg) = (zL w 81 x6.toNatClampNeg) then
      bd (fX8_flag (0 : Int32) w) fun v33 w31 =>
      lt (x7 + v33) fun v34 =>
      lt (if x8 = (0 : Int32) then (0 : Int32) else if (0 : Int32) = (0 : Int32) then (1 : Int32) else if x9 < x6 then (0 : Int32) else (1 : Int32)) fun v38 =>
      fX8_unlike_L86 x2 x3 x4 x5 x6 j71 n v34 v38 (x9 + (1 : Int32)) w31
    else
    zg (zin x9 129) <|
    zg (zin x6 129) <|
    if ¬ (zL w 82 x9.toNatClampNeg) = (zL w 82 x6.toNatClampNeg) then
      bd (fX8_flag (0 : Int32) w) fun v42 w40 =>
      lt (x7 + v42) fun v43 =>
      lt (if x8 = (0 : Int32) then (0 : Int32) else if (0 : Int32) = (0 : Int32) then (1 : Int32) else if x9 < x6 then (0 : Int32) else (1 : Int32)) fun v47 =>
      fX8_unlike_L86 x2 x3 x4 x5 x6 j71 n v43 v47 (x9 + (1 : Int32)) w40
    else
    bd (fX8_flag (1 : Int32) w) fun v50 w48 =>
    lt (x7 + v50) fun v51 =>
    lt (if x8 = (0 : Int32) then (0 : Int32) else if (1 : Int32) = (0 : Int32) then (1 : Int32) else if x9 < x6 then (0 : Int32) else (1 : Int32)) fun v55 =>
    fX8_unlike_L86 x2 x3 x4 x5 x6 j71 n v51 v55 (x9 + (1 : Int32)) w48
def fX8_unlike_L71 (x2 : Int32) : Nat → Int32 → Int32 → Int32 → Int32 → zW → Option (Int32 × zW)
  | 0, _, _, _, _, _ => none
  | n + 1, x3, x4, x5, x6, w =>
    if x2 < x6 then
      lt (zsI w 74 1 (0 : Int32)) fun w11 =>
      if x2 ≤ (0 : Int32) then
        some (x3, w11)
      else
      zg (zin x4 129) <|
      bd (fX8_enters (zL w11 81 x4.toNatClampNeg) w11) fun _ w13 =>
      zg (zin x4 129) <|
      bd (fX8_enters (zL w13 82 x4.toNatClampNeg) w13) fun _ w16 =>
      bd (fX8_enters (x5).toInt64 w16) fun _ w19 =>
      some (x3, w19)
    else
    fX8_unlike_L86 x2 x3 x4 x5 x6 (fX8_unlike_L71 x2 n) zFU (0 : Int32) (1 : Int32) (1 : Int32) w
def fX8_unlike_L22 (x1 : Int32) (x2 : Int32) : Nat → Int32 → zW → Option (Int32 × zW)
  | 0, _, _ => none
  | n + 1, x3, w =>
    if x2 < x3 then
      fX8_unlike_L71 x2 zFU (0 : Int32) (0 : Int32) (0 : Int32) (1 : Int32) w
    else
    bd (fX8_sums x1 (0 : Int32) x3 w) fun _ w56 =>
    zg (zin x3 129) <| lt (zsL w56 81 x3.toNatClampNeg (zL w56 74 11)) fun w59 =>
    zg (zin x3 129) <| lt (zsL w59 82 x3.toNatClampNeg (zL w59 74 12)) fun w60 =>
    fX8_unlike_L22 x1 x2 n (x3 + (1 : Int32)) w60
def fX8_unlike (a1 : Int32) (w : zW) : Option (Int32 × zW) :=
  lt (zsI w 74 0 (0 : Int32)) fun w1 =>
  bd (fX8_isLine a1 w1) fun b4 w2 =>
  if b4 = true then
    bd (fX8_sizeOf a1 w2) fun v8 w6 =>
    fX8_unlike_L22 a1 v8 zFU (1 : Int32) w6
  else
  some ((-1 : Int32), w2)
theorem YX8_unlike : zYV yX8_unlike MX8_unlike 1 := ⟨wk_1265, wk_9, ⟨wk_1263, wk_1264⟩, ⟨by decide, by decide, by decide +kernel⟩, rfl, rfl⟩
set_option maxHeartbeats 4000000 in
set_option maxRecDepth 100000 in
theorem lX8_unlike_L86 (x2 : Int32) (x3 : Int32) (x4 : Int32) (x5 : Int32) (x6 : Int32) (j71 : Int32 → Int32 → Int32 → Int32 → zW → Option (Int32 × zW)) (hj71 : ∀ (y3 : Int32) (y4 : Int32) (y5 : Int32) (y6 : Int32) (w : zW), Tz MX8_unlike (zRet zi) (j71 y3 y4 y5 y6 w) 71 [(0, .ref 74), (2, .int x2), (3, .int y3), (4, .int y4), (5, .int y5), (6, .int y6)] [] w) : ∀ (n : Nat) (x7 : Int32) (x8 : Int32) (x9 : Int32) (w : zW), Tz MX8_unlike (zRet zi) (fX8_unlike_L86 x2 x3 x4 x5 x6 j71 n x7 x8 x9 w) 86 [(0, .ref 74), (2, .int x2), (3, .int x3), (4, .int x4), (5, .int x5), (6, .int x6), (7, .int x7), (8, .int x8), (9, .int x9)] [] w := by
  intro n
  induction n with
  | zero => intro x7 x8 x9 w; exact tz_eq (fX8_unlike_L86.eq_1 _ _ _ _ _ _ _ _ _ _) tz_none
  | succ n ih =>
    intro x7 x8 x9 w
    refine tz_eq (fX8_unlike_L86.eq_2 _ _ _ _ _ _ _ _ _ _ _) ?_
    refine tz_iload 8 rfl (zd DX8_unlike 53 rfl) ?_
    refine tz_iload_n 1 rfl (zd DX8_unlike 54 rfl) ?_
    refine tz_icmp_gt 175 (zd DX8_unlike 55 rfl) rfl (fun q22 => ?_) (fun q22 => ?_)
    · refine tz_iload_n 2 rfl (zd DX8_unlike 98 rfl) ?_
      refine tz_iload 7 rfl (zd DX8_unlike 99 rfl) ?_
      refine tz_cS_i (rest := [.int x3]) (YX8_flag) wk_981 (tX8_flag x8 w) rfl rfl (Nat.le_of_ble_eq_true rfl) ⟨Nat.le_of_ble_eq_true rfl, Nat.le_of_ble_eq_true rfl⟩ (zd DX8_unlike 100 rfl) (fun v25 w23 e24 => ?_)
      refine tz_iadd (zd DX8_unlike 101 rfl) ?_
      refine tz_lti (fun v26 => ?_)
      refine tz_istore_n [(3, .int v26), (0, .ref 74), (2, .int x2), (4, .int x4), (5, .int x5), (6, .int x6), (7, .int x7), (8, .int x8), (9, .int x9)] (Nat.le_of_ble_eq_true rfl) rfl (zd DX8_unlike 102 rfl) ?_
      refine tz_iload 6 rfl (zd DX8_unlike 103 rfl) ?_
      refine tz_iload 4 rfl (zd DX8_unlike 104 rfl) ?_
      refine tz_dia (P := fun F => ∀ v : Int32, Tz MX8_unlike (zRet zi) (F v) 197 [(3, .int v26), (0, .ref 74), (2, .int x2), (4, .int x4), (5, .int x5), (6, .int x6), (7, .int x7), (8, .int x8), (9, .int x9)] (.int v :: []) w23) ?_ (fun _ hJ197 => ?_)
      · intro v28
        refine tz_istore [(4, .int v28), (3, .int v26), (0, .ref 74), (2, .int x2), (5, .int x5), (6, .int x6), (7, .int x7), (8, .int x8), (9, .int x9)] (Nat.le_of_ble_eq_true rfl) rfl (zd DX8_unlike 109 rfl) ?_
        refine tz_iload 4 rfl (zd DX8_unlike 110 rfl) ?_
        refine tz_iload 6 rfl (zd DX8_unlike 111 rfl) ?_
        refine tz_mmax wk_1266 wk_685 wk_10 wk_686 (Nat.le_of_ble_eq_true rfl) (Nat.le_of_ble_eq_true rfl) (zd DX8_unlike 112 rfl) ?_
        refine tz_lti (fun v29 => ?_)
        refine tz_istore [(5, .int v29), (4, .int v28), (3, .int v26), (0, .ref 74), (2, .int x2), (6, .int x6), (7, .int x7), (8, .int x8), (9, .int x9)] (Nat.le_of_ble_eq_true rfl) rfl (zd DX8_unlike 113 rfl) ?_
        refine tz_iinc 5 (1 : Int32) [(6, .int (x6 + (1 : Int32))), (5, .int v29), (4, .int v28), (3, .int v26), (0, .ref 74), (2, .int x2), (7, .int x7), (8, .int x8), (9, .int x9)] rfl zk_iconst_1 (Nat.le_of_ble_eq_true rfl) rfl (zd DX8_unlike 114 rfl) ?_
        refine tz_goto 71 (zd DX8_unlike 115 rfl) rfl ?_
        refine tz_lv (lv2 := [(0, .ref 74), (2, .int x2), (3, .int v26), (4, .int v28), (5, .int v29), (6, .int (x6 + (1 : Int32)))]) [4, 5, 3, 2, 1, 0] rfl ?_
        exact hj71 v26 v28 v29 (x6 + (1 : Int32)) w23
      refine tz_ite ?_
      refine tz_icmp_le 195 (zd DX8_unlike 105 rfl) rfl (fun q27 => ?_) (fun q27 => ?_)
      · refine tz_iload 3 rfl (zd DX8_unlike 108 rfl) ?_
        exact hJ197 x4
      refine tz_iload 5 rfl (zd DX8_unlike 106 rfl) ?_
      refine tz_goto 197 (zd DX8_unlike 107 rfl) rfl ?_
      exact hJ197 x6
    refine tz_aload_n 0 rfl (zd DX8_unlike 56 rfl) ?_
    refine tz_getR 81 16 kz8 (zs_74) (by decide) (by decide) rfl wk_873 (zd DX8_unlike 57 rfl) ?_
    refine tz_iload 8 rfl (zd DX8_unlike 58 rfl) ?_
    refine tz_lald (zs_81.1) (zs_81.2) (zd DX8_unlike 59 rfl) ?_
    refine tz_aload_n 0 rfl (zd DX8_unlike 60 rfl) ?_
    refine tz_getR 81 16 kz8 (zs_74) (by decide) (by decide) rfl wk_873 (zd DX8_unlike 61 rfl) ?_
    refine tz_iload 5 rfl (zd DX8_unlike 62 rfl) ?_
    refine tz_lald (zs_81.1) (zs_81.2) (zd DX8_unlike 63 rfl) ?_
    refine tz_lcmp_ne 132 (zd DX8_unlike 64 rfl) (zd DX8_unlike 65 rfl) rfl (fun q30 => ?_) (fun q30 => ?_)
    · refine tz_iconst (0 : Int32) zk_iconst_0 (zd DX8_unlike 78 rfl) ?_
      refine tz_istore [(10, .int (0 : Int32)), (0, .ref 74), (2, .int x2), (3, .int x3), (4, .int x4), (5, .int x5), (6, .int x6), (7, .int x7), (8, .int x8), (9, .int x9)] (Nat.le_of_ble_eq_true rfl) rfl (zd DX8_unlike 79 rfl) ?_
      refine tz_iload 7 rfl (zd DX8_unlike 80 rfl) ?_
      refine tz_iload 0 rfl (zd DX8_unlike 81 rfl) ?_
      refine tz_cS_i (rest := [.int x7]) (YX8_flag) wk_981 (tX8_flag (0 : Int32) w) rfl rfl (Nat.le_of_ble_eq_true rfl) ⟨Nat.le_of_ble_eq_true rfl, Nat.le_of_ble_eq_true rfl⟩ (zd DX8_unlike 82 rfl) (fun v33 w31 e32 => ?_)
      refine tz_iadd (zd DX8_unlike 83 rfl) ?_
      refine tz_lti (fun v34 => ?_)
      refine tz_istore [(7, .int v34), (10, .int (0 : Int32)), (0, .ref 74), (2, .int x2), (3, .int x3), (4, .int x4), (5, .int x5), (6, .int x6), (8, .int x8), (9, .int x9)] (Nat.le_of_ble_eq_true rfl) rfl (zd DX8_unlike 84 rfl) ?_
      refine tz_iload 8 rfl (zd DX8_unlike 85 rfl) ?_
      refine tz_dia (P := fun F => ∀ v : Int32, Tz MX8_unlike (zRet zi) (F v) 167 [(7, .int v34), (10, .int (0 : Int32)), (0, .ref 74), (2, .int x2), (3, .int x3), (4, .int x4), (5, .int x5), (6, .int x6), (8, .int x8), (9, .int x9)] (.int v :: []) w31) ?_ (fun _ hJ167 => ?_)
      · intro v38
        refine tz_istore [(8, .int v38), (7, .int v34), (10, .int (0 : Int32)), (0, .ref 74), (2, .int x2), (3, .int x3), (4, .int x4), (5, .int x5), (6, .int x6), (9, .int x9)] (Nat.le_of_ble_eq_true rfl) rfl (zd DX8_unlike 95 rfl) ?_
        refine tz_iinc 9 (1 : Int32) [(9, .int (x9 + (1 : Int32))), (8, .int v38), (7, .int v34), (10, .int (0 : Int32)), (0, .ref 74), (2, .int x2), (3, .int x3), (4, .int x4), (5, .int x5), (6, .int x6)] rfl zk_iconst_1 (Nat.le_of_ble_eq_true rfl) rfl (zd DX8_unlike 96 rfl) ?_
        refine tz_goto 86 (zd DX8_unlike 97 rfl) rfl ?_
        refine tz_lv (lv2 := [(0, .ref 74), (2, .int x2), (3, .int x3), (4, .int x4), (5, .int x5), (6, .int x6), (7, .int v34), (8, .int v38), (9, .int (x9 + (1 : Int32)))]) [4, 5, 6, 7, 8, 9, 2, 1, 0] rfl ?_
        exact ih v34 v38 (x9 + (1 : Int32)) w31
      refine tz_ite ?_
      refine tz_if_eq 166 (zd DX8_unlike 86 rfl) rfl (fun q35 => ?_) (fun q35 => ?_)
      · refine tz_iconst (0 : Int32) zk_iconst_0 (zd DX8_unlike 94 rfl) ?_
        exact hJ167 (0 : Int32)
      refine tz_iload 1 rfl (zd DX8_unlike 87 rfl) ?_
      refine tz_ite ?_
      refine tz_if_eq 162 (zd DX8_unlike 88 rfl) rfl (fun q36 => ?_) (fun q36 => ?_)
      · refine tz_iconst (1 : Int32) zk_iconst_1 (zd DX8_unlike 92 rfl) ?_
        refine tz_goto 167 (zd DX8_unlike 93 rfl) rfl ?_
        exact hJ167 (1 : Int32)
      refine tz_iload 9 rfl (zd DX8_unlike 89 rfl) ?_
      refine tz_iload 7 rfl (zd DX8_unlike 90 rfl) ?_
      refine tz_ite ?_
      refine tz_icmp_lt 166 (zd DX8_unlike 91 rfl) rfl (fun q37 => ?_) (fun q37 => ?_)
      · refine tz_iconst (0 : Int32) zk_iconst_0 (zd DX8_unlike 94 rfl) ?_
        exact hJ167 (0 : Int32)
      refine tz_iconst (1 : Int32) zk_iconst_1 (zd DX8_unlike 92 rfl) ?_
      refine tz_goto 167 (zd DX8_unlike 93 rfl) rfl ?_
      exact hJ167 (1 : Int32)
    refine tz_aload_n 0 rfl (zd DX8_unlike 66 rfl) ?_
    refine tz_getR 82 17 kz8 (zs_74) (by decide) (by decide) rfl wk_874 (zd DX8_unlike 67 rfl) ?_
    refine tz_iload 8 rfl (zd DX8_unlike 68 rfl) ?_
    refine tz_lald (zs_82.1) (zs_82.2) (zd DX8_unlike 69 rfl) ?_
    refine tz_aload_n 0 rfl (zd DX8_unlike 70 rfl) ?_
    refine tz_getR 82 17 kz8 (zs_74) (by decide) (by decide) rfl wk_874 (zd DX8_unlike 71 rfl) ?_
    refine tz_iload 5 rfl (zd DX8_unlike 72 rfl) ?_
    refine tz_lald (zs_82.1) (zs_82.2) (zd DX8_unlike 73 rfl) ?_
    refine tz_lcmp_ne 132 (zd DX8_unlike 74 rfl) (zd DX8_unlike 75 rfl) rfl (fun q39 => ?_) (fun q39 => ?_)
    · refine tz_iconst (0 : Int32) zk_iconst_0 (zd DX8_unlike 78 rfl) ?_
      refine tz_istore [(10, .int (0 : Int32)), (0, .ref 74), (2, .int x2), (3, .int x3), (4, .int x4), (5, .int x5), (6, .int x6), (7, .int x7), (8, .int x8), (9, .int x9)] (Nat.le_of_ble_eq_true rfl) rfl (zd DX8_unlike 79 rfl) ?_
      refine tz_iload 7 rfl (zd DX8_unlike 80 rfl) ?_
      refine tz_iload 0 rfl (zd DX8_unlike 81 rfl) ?_
      refine tz_cS_i (rest := [.int x7]) (YX8_flag) wk_981 (tX8_flag (0 : Int32) w) rfl rfl (Nat.le_of_ble_eq_true rfl) ⟨Nat.le_of_ble_eq_true rfl, Nat.le_of_ble_eq_true rfl⟩ (zd DX8_unlike 82 rfl) (fun v42 w40 e41 => ?_)
      refine tz_iadd (zd DX8_unlike 83 rfl) ?_
      refine tz_lti (fun v43 => ?_)
      refine tz_istore [(7, .int v43), (10, .int (0 : Int32)), (0, .ref 74), (2, .int x2), (3, .int x3), (4, .int x4), (5, .int x5), (6, .int x6), (8, .int x8), (9, .int x9)] (Nat.le_of_ble_eq_true rfl) rfl (zd DX8_unlike 84 rfl) ?_
      refine tz_iload 8 rfl (zd DX8_unlike 85 rfl) ?_
      refine tz_dia (P := fun F => ∀ v : Int32, Tz MX8_unlike (zRet zi) (F v) 167 [(7, .int v43), (10, .int (0 : Int32)), (0, .ref 74), (2, .int x2), (3, .int x3), (4, .int x4), (5, .int x5), (6, .int x6), (8, .int x8), (9, .int x9)] (.int v :: []) w40) ?_ (fun _ hJ167 => ?_)
      · intro v47
        refine tz_istore [(8, .int v47), (7, .int v43), (10, .int (0 : Int32)), (0, .ref 74), (2, .int x2), (3, .int x3), (4, .int x4), (5, .int x5), (6, .int x6), (9, .int x9)] (Nat.le_of_ble_eq_true rfl) rfl (zd DX8_unlike 95 rfl) ?_
        refine tz_iinc 9 (1 : Int32) [(9, .int (x9 + (1 : Int32))), (8, .int v47), (7, .int v43), (10, .int (0 : Int32)), (0, .ref 74), (2, .int x2), (3, .int x3), (4, .int x4), (5, .int x5), (6, .int x6)] rfl zk_iconst_1 (Nat.le_of_ble_eq_true rfl) rfl (zd DX8_unlike 96 rfl) ?_
        refine tz_goto 86 (zd DX8_unlike 97 rfl) rfl ?_
        refine tz_lv (lv2 := [(0, .ref 74), (2, .int x2), (3, .int x3), (4, .int x4), (5, .int x5), (6, .int x6), (7, .int v43), (8, .int v47), (9, .int (x9 + (1 : Int32)))]) [4, 5, 6, 7, 8, 9, 2, 1, 0] rfl ?_
        exact ih v43 v47 (x9 + (1 : Int32)) w40
      refine tz_ite ?_
      refine tz_if_eq 166 (zd DX8_unlike 86 rfl) rfl (fun q44 => ?_) (fun q44 => ?_)
      · refine tz_iconst (0 : Int32) zk_iconst_0 (zd DX8_unlike 94 rfl) ?_
        exact hJ167 (0 : Int32)
      refine tz_iload 1 rfl (zd DX8_unlike 87 rfl) ?_
      refine tz_ite ?_
      refine tz_if_eq 162 (zd DX8_unlike 88 rfl) rfl (fun q45 => ?_) (fun q45 => ?_)
      · refine tz_iconst (1 : Int32) zk_iconst_1 (zd DX8_unlike 92 rfl) ?_
        refine tz_goto 167 (zd DX8_unlike 93 rfl) rfl ?_
        exact hJ167 (1 : Int32)
      refine tz_iload 9 rfl (zd DX8_unlike 89 rfl) ?_
      refine tz_iload 7 rfl (zd DX8_unlike 90 rfl) ?_
      refine tz_ite ?_
      refine tz_icmp_lt 166 (zd DX8_unlike 91 rfl) rfl (fun q46 => ?_) (fun q46 => ?_)
      · refine tz_iconst (0 : Int32) zk_iconst_0 (zd DX8_unlike 94 rfl) ?_
        exact hJ167 (0 : Int32)
      refine tz_iconst (1 : Int32) zk_iconst_1 (zd DX8_unlike 92 rfl) ?_
      refine tz_goto 167 (zd DX8_unlike 93 rfl) rfl ?_
      exact hJ167 (1 : Int32)
    refine tz_iconst (1 : Int32) zk_iconst_1 (zd DX8_unlike 76 rfl) ?_
    refine tz_goto 133 (zd DX8_unlike 77 rfl) rfl ?_
    refine tz_istore [(10, .int (1 : Int32)), (0, .ref 74), (2, .int x2), (3, .int x3), (4, .int x4), (5, .int x5), (6, .int x6), (7, .int x7), (8, .int x8), (9, .int x9)] (Nat.le_of_ble_eq_true rfl) rfl (zd DX8_unlike 79 rfl) ?_
    refine tz_iload 7 rfl (zd DX8_unlike 80 rfl) ?_
    refine tz_iload 0 rfl (zd DX8_unlike 81 rfl) ?_
    refine tz_cS_i (rest := [.int x7]) (YX8_flag) wk_981 (tX8_flag (1 : Int32) w) rfl rfl (Nat.le_of_ble_eq_true rfl) ⟨Nat.le_of_ble_eq_true rfl, Nat.le_of_ble_eq_true rfl⟩ (zd DX8_unlike 82 rfl) (fun v50 w48 e49 => ?_)
    refine tz_iadd (zd DX8_unlike 83 rfl) ?_
    refine tz_lti (fun v51 => ?_)
    refine tz_istore [(7, .int v51), (10, .int (1 : Int32)), (0, .ref 74), (2, .int x2), (3, .int x3), (4, .int x4), (5, .int x5), (6, .int x6), (8, .int x8), (9, .int x9)] (Nat.le_of_ble_eq_true rfl) rfl (zd DX8_unlike 84 rfl) ?_
    refine tz_iload 8 rfl (zd DX8_unlike 85 rfl) ?_
    refine tz_dia (P := fun F => ∀ v : Int32, Tz MX8_unlike (zRet zi) (F v) 167 [(7, .int v51), (10, .int (1 : Int32)), (0, .ref 74), (2, .int x2), (3, .int x3), (4, .int x4), (5, .int x5), (6, .int x6), (8, .int x8), (9, .int x9)] (.int v :: []) w48) ?_ (fun _ hJ167 => ?_)
    · intro v55
      refine tz_istore [(8, .int v55), (7, .int v51), (10, .int (1 : Int32)), (0, .ref 74), (2, .int x2), (3, .int x3), (4, .int x4), (5, .int x5), (6, .int x6), (9, .int x9)] (Nat.le_of_ble_eq_true rfl) rfl (zd DX8_unlike 95 rfl) ?_
      refine tz_iinc 9 (1 : Int32) [(9, .int (x9 + (1 : Int32))), (8, .int v55), (7, .int v51), (10, .int (1 : Int32)), (0, .ref 74), (2, .int x2), (3, .int x3), (4, .int x4), (5, .int x5), (6, .int x6)] rfl zk_iconst_1 (Nat.le_of_ble_eq_true rfl) rfl (zd DX8_unlike 96 rfl) ?_
      refine tz_goto 86 (zd DX8_unlike 97 rfl) rfl ?_
      refine tz_lv (lv2 := [(0, .ref 74), (2, .int x2), (3, .int x3), (4, .int x4), (5, .int x5), (6, .int x6), (7, .int v51), (8, .int v55), (9, .int (x9 + (1 : Int32)))]) [4, 5, 6, 7, 8, 9, 2, 1, 0] rfl ?_
      exact ih v51 v55 (x9 + (1 : Int32)) w48
    refine tz_ite ?_
    refine tz_if_eq 166 (zd DX8_unlike 86 rfl) rfl (fun q52 => ?_) (fun q52 => ?_)
    · refine tz_iconst (0 : Int32) zk_iconst_0 (zd DX8_unlike 94 rfl) ?_
      exact hJ167 (0 : Int32)
    refine tz_iload 1 rfl (zd DX8_unlike 87 rfl) ?_
    refine tz_ite ?_
    refine tz_if_eq 162 (zd DX8_unlike 88 rfl) rfl (fun q53 => ?_) (fun q53 => ?_)
    · refine tz_iconst (1 : Int32) zk_iconst_1 (zd DX8_unlike 92 rfl) ?_
      refine tz_goto 167 (zd DX8_unlike 93 rfl) rfl ?_
      exact hJ167 (1 : Int32)
    refine tz_iload 9 rfl (zd DX8_unlike 89 rfl) ?_
    refine tz_iload 7 rfl (zd DX8_unlike 90 rfl) ?_
    refine tz_ite ?_
    refine tz_icmp_lt 166 (zd DX8_unlike 91 rfl) rfl (fun q54 => ?_) (fun q54 => ?_)
    · refine tz_iconst (0 : Int32) zk_iconst_0 (zd DX8_unlike 94 rfl) ?_
      exact hJ167 (0 : Int32)
    refine tz_iconst (1 : Int32) zk_iconst_1 (zd DX8_unlike 92 rfl) ?_
    refine tz_goto 167 (zd DX8_unlike 93 rfl) rfl ?_
    exact hJ167 (1 : Int32)
set_option maxHeartbeats 4000000 in
set_option maxRecDepth 100000 in
theorem lX8_unlike_L71 (x2 : Int32) : ∀ (n : Nat) (x3 : Int32) (x4 : Int32) (x5 : Int32) (x6 : Int32) (w : zW), Tz MX8_unlike (zRet zi) (fX8_unlike_L71 x2 n x3 x4 x5 x6 w) 71 [(0, .ref 74), (2, .int x2), (3, .int x3), (4, .int x4), (5, .int x5), (6, .int x6)] [] w := by
  intro n
  induction n with
  | zero => intro x3 x4 x5 x6 w; exact tz_eq (fX8_unlike_L71.eq_1 _ _ _ _ _ _) tz_none
  | succ n ih =>
    intro x3 x4 x5 x6 w
    refine tz_eq (fX8_unlike_L71.eq_2 _ _ _ _ _ _ _) ?_
    refine tz_iload 5 rfl (zd DX8_unlike 44 rfl) ?_
    refine tz_iload_n 1 rfl (zd DX8_unlike 45 rfl) ?_
    refine tz_icmp_gt 214 (zd DX8_unlike 46 rfl) rfl (fun q10 => ?_) (fun q10 => ?_)
    · refine tz_aload_n 0 rfl (zd DX8_unlike 116 rfl) ?_
      refine tz_iconst (0 : Int32) zk_iconst_0 (zd DX8_unlike 117 rfl) ?_
      refine tz_putI 1 kz8 (zs_74) (by decide) rfl rfl wk_858 (zd DX8_unlike 118 rfl) (fun w11 => ?_)
      refine tz_iload_n 1 rfl (zd DX8_unlike 119 rfl) ?_
      refine tz_if_le 252 (zd DX8_unlike 120 rfl) rfl (fun q12 => ?_) (fun q12 => ?_)
      · refine tz_iload_n 2 rfl (zd DX8_unlike 137 rfl) ?_
        exact tz_iret rfl (zd DX8_unlike 138 rfl)
      refine tz_aload_n 0 rfl (zd DX8_unlike 121 rfl) ?_
      refine tz_aload_n 0 rfl (zd DX8_unlike 122 rfl) ?_
      refine tz_getR 81 16 kz8 (zs_74) (by decide) (by decide) rfl wk_873 (zd DX8_unlike 123 rfl) ?_
      refine tz_iload 3 rfl (zd DX8_unlike 124 rfl) ?_
      refine tz_lald (zs_81.1) (zs_81.2) (zd DX8_unlike 125 rfl) ?_
      refine tz_cV_n kz8 (zs_74) rfl (rest := []) (YX8_enters) wk_1002 (tX8_enters (zL w11 81 x4.toNatClampNeg) w11) rfl rfl (Nat.le_of_ble_eq_true rfl) ⟨Nat.le_of_ble_eq_true rfl, Nat.le_of_ble_eq_true rfl⟩ (zd DX8_unlike 126 rfl) (fun v15 w13 e14 => ?_)
      refine tz_aload_n 0 rfl (zd DX8_unlike 127 rfl) ?_
      refine tz_aload_n 0 rfl (zd DX8_unlike 128 rfl) ?_
      refine tz_getR 82 17 kz8 (zs_74) (by decide) (by decide) rfl wk_874 (zd DX8_unlike 129 rfl) ?_
      refine tz_iload 3 rfl (zd DX8_unlike 130 rfl) ?_
      refine tz_lald (zs_82.1) (zs_82.2) (zd DX8_unlike 131 rfl) ?_
      refine tz_cV_n kz8 (zs_74) rfl (rest := []) (YX8_enters) wk_1002 (tX8_enters (zL w13 82 x4.toNatClampNeg) w13) rfl rfl (Nat.le_of_ble_eq_true rfl) ⟨Nat.le_of_ble_eq_true rfl, Nat.le_of_ble_eq_true rfl⟩ (zd DX8_unlike 132 rfl) (fun v18 w16 e17 => ?_)
      refine tz_aload_n 0 rfl (zd DX8_unlike 133 rfl) ?_
      refine tz_iload 4 rfl (zd DX8_unlike 134 rfl) ?_
      refine tz_i2l (zd DX8_unlike 135 rfl) ?_
      refine tz_cV_n kz8 (zs_74) rfl (rest := []) (YX8_enters) wk_1002 (tX8_enters (x5).toInt64 w16) rfl rfl (Nat.le_of_ble_eq_true rfl) ⟨Nat.le_of_ble_eq_true rfl, Nat.le_of_ble_eq_true rfl⟩ (zd DX8_unlike 136 rfl) (fun v21 w19 e20 => ?_)
      refine tz_iload_n 2 rfl (zd DX8_unlike 137 rfl) ?_
      exact tz_iret rfl (zd DX8_unlike 138 rfl)
    refine tz_iconst (0 : Int32) zk_iconst_0 (zd DX8_unlike 47 rfl) ?_
    refine tz_istore [(7, .int (0 : Int32)), (0, .ref 74), (2, .int x2), (3, .int x3), (4, .int x4), (5, .int x5), (6, .int x6)] (Nat.le_of_ble_eq_true rfl) rfl (zd DX8_unlike 48 rfl) ?_
    refine tz_iconst (1 : Int32) zk_iconst_1 (zd DX8_unlike 49 rfl) ?_
    refine tz_istore [(8, .int (1 : Int32)), (7, .int (0 : Int32)), (0, .ref 74), (2, .int x2), (3, .int x3), (4, .int x4), (5, .int x5), (6, .int x6)] (Nat.le_of_ble_eq_true rfl) rfl (zd DX8_unlike 50 rfl) ?_
    refine tz_iconst (1 : Int32) zk_iconst_1 (zd DX8_unlike 51 rfl) ?_
    refine tz_istore [(9, .int (1 : Int32)), (8, .int (1 : Int32)), (7, .int (0 : Int32)), (0, .ref 74), (2, .int x2), (3, .int x3), (4, .int x4), (5, .int x5), (6, .int x6)] (Nat.le_of_ble_eq_true rfl) rfl (zd DX8_unlike 52 rfl) ?_
    refine tz_lv (lv2 := [(0, .ref 74), (2, .int x2), (3, .int x3), (4, .int x4), (5, .int x5), (6, .int x6), (7, .int (0 : Int32)), (8, .int (1 : Int32)), (9, .int (1 : Int32))]) [3, 4, 5, 6, 7, 8, 2, 1, 0] rfl ?_
    exact lX8_unlike_L86 x2 x3 x4 x5 x6 _ ih zFU (0 : Int32) (1 : Int32) (1 : Int32) w
set_option maxHeartbeats 4000000 in
set_option maxRecDepth 100000 in
theorem lX8_unlike_L22 (x1 : Int32) (x2 : Int32) : ∀ (n : Nat) (x3 : Int32) (w : zW), Tz MX8_unlike (zRet zi) (fX8_unlike_L22 x1 x2 n x3 w) 22 [(0, .ref 74), (1, .int x1), (2, .int x2), (3, .int x3)] [] w := by
  intro n
  induction n with
  | zero => intro x3 w; exact tz_eq (fX8_unlike_L22.eq_1 _ _ _ _) tz_none
  | succ n ih =>
    intro x3 w
    refine tz_eq (fX8_unlike_L22.eq_2 _ _ _ _ _) ?_
    refine tz_iload_n 3 rfl (zd DX8_unlike 14 rfl) ?_
    refine tz_iload_n 2 rfl (zd DX8_unlike 15 rfl) ?_
    refine tz_icmp_gt 60 (zd DX8_unlike 16 rfl) rfl (fun q9 => ?_) (fun q9 => ?_)
    · refine tz_iconst (0 : Int32) zk_iconst_0 (zd DX8_unlike 36 rfl) ?_
      refine tz_istore_n [(3, .int (0 : Int32)), (0, .ref 74), (1, .int x1), (2, .int x2)] (Nat.le_of_ble_eq_true rfl) rfl (zd DX8_unlike 37 rfl) ?_
      refine tz_iconst (0 : Int32) zk_iconst_0 (zd DX8_unlike 38 rfl) ?_
      refine tz_istore [(4, .int (0 : Int32)), (3, .int (0 : Int32)), (0, .ref 74), (1, .int x1), (2, .int x2)] (Nat.le_of_ble_eq_true rfl) rfl (zd DX8_unlike 39 rfl) ?_
      refine tz_iconst (0 : Int32) zk_iconst_0 (zd DX8_unlike 40 rfl) ?_
      refine tz_istore [(5, .int (0 : Int32)), (4, .int (0 : Int32)), (3, .int (0 : Int32)), (0, .ref 74), (1, .int x1), (2, .int x2)] (Nat.le_of_ble_eq_true rfl) rfl (zd DX8_unlike 41 rfl) ?_
      refine tz_iconst (1 : Int32) zk_iconst_1 (zd DX8_unlike 42 rfl) ?_
      refine tz_istore [(6, .int (1 : Int32)), (5, .int (0 : Int32)), (4, .int (0 : Int32)), (3, .int (0 : Int32)), (0, .ref 74), (1, .int x1), (2, .int x2)] (Nat.le_of_ble_eq_true rfl) rfl (zd DX8_unlike 43 rfl) ?_
      refine tz_lv (lv2 := [(0, .ref 74), (2, .int x2), (3, .int (0 : Int32)), (4, .int (0 : Int32)), (5, .int (0 : Int32)), (6, .int (1 : Int32))]) [4, 6, 3, 2, 1, 0] rfl ?_
      exact lX8_unlike_L71 x2 zFU (0 : Int32) (0 : Int32) (0 : Int32) (1 : Int32) w
    refine tz_aload_n 0 rfl (zd DX8_unlike 17 rfl) ?_
    refine tz_iload_n 1 rfl (zd DX8_unlike 18 rfl) ?_
    refine tz_iconst (0 : Int32) zk_iconst_0 (zd DX8_unlike 19 rfl) ?_
    refine tz_iload_n 3 rfl (zd DX8_unlike 20 rfl) ?_
    refine tz_cV_n kz8 (zs_74) rfl (rest := []) (YX8_sums) wk_1212 (tX8_sums x1 (0 : Int32) x3 w) rfl rfl (Nat.le_of_ble_eq_true rfl) ⟨Nat.le_of_ble_eq_true rfl, Nat.le_of_ble_eq_true rfl⟩ (zd DX8_unlike 21 rfl) (fun v58 w56 e57 => ?_)
    refine tz_aload_n 0 rfl (zd DX8_unlike 22 rfl) ?_
    refine tz_getR 81 16 kz8 (zs_74) (by decide) (by decide) rfl wk_873 (zd DX8_unlike 23 rfl) ?_
    refine tz_iload_n 3 rfl (zd DX8_unlike 24 rfl) ?_
    refine tz_aload_n 0 rfl (zd DX8_unlike 25 rfl) ?_
    refine tz_getJ 11 kz8 (zs_74) (by decide) rfl wk_868 (zd DX8_unlike 26 rfl) ?_
    refine tz_last (zs_81.1) (zs_81.2) (zd DX8_unlike 27 rfl) (fun w59 => ?_)
    refine tz_aload_n 0 rfl (zd DX8_unlike 28 rfl) ?_
    refine tz_getR 82 17 kz8 (zs_74) (by decide) (by decide) rfl wk_874 (zd DX8_unlike 29 rfl) ?_
    refine tz_iload_n 3 rfl (zd DX8_unlike 30 rfl) ?_
    refine tz_aload_n 0 rfl (zd DX8_unlike 31 rfl) ?_
    refine tz_getJ 12 kz8 (zs_74) (by decide) rfl wk_869 (zd DX8_unlike 32 rfl) ?_
    refine tz_last (zs_82.1) (zs_82.2) (zd DX8_unlike 33 rfl) (fun w60 => ?_)
    refine tz_iinc 3 (1 : Int32) [(3, .int (x3 + (1 : Int32))), (0, .ref 74), (1, .int x1), (2, .int x2)] rfl zk_iconst_1 (Nat.le_of_ble_eq_true rfl) rfl (zd DX8_unlike 34 rfl) ?_
    refine tz_goto 22 (zd DX8_unlike 35 rfl) rfl ?_
    refine tz_lv (lv2 := [(0, .ref 74), (1, .int x1), (2, .int x2), (3, .int (x3 + (1 : Int32)))]) [1, 2, 3, 0] rfl ?_
    exact ih (x3 + (1 : Int32)) w60
set_option maxHeartbeats 4000000 in
set_option maxRecDepth 100000 in
theorem tX8_unlike (a1 : Int32) (w : zW) : Sm yX8_unlike MX8_unlike zi [.ref 74, .int a1] w (fX8_unlike a1 w) := by
  refine Sm_of (lv0 := [(0, .ref 74), (1, .int a1)]) (by decide) rfl (fun _ => Nat.le_of_ble_eq_true rfl) rfl ?_
  unfold fX8_unlike
  refine tz_aload_n 0 rfl (zd DX8_unlike 0 rfl) ?_
  refine tz_iconst (0 : Int32) zk_iconst_0 (zd DX8_unlike 1 rfl) ?_
  refine tz_putI 0 kz8 (zs_74) (by decide) rfl rfl wk_857 (zd DX8_unlike 2 rfl) (fun w1 => ?_)
  refine tz_iload_n 1 rfl (zd DX8_unlike 3 rfl) ?_
  refine tz_cS_z (rest := []) (YX8_isLine) wk_1104 (tX8_isLine a1 w1) rfl rfl (Nat.le_of_ble_eq_true rfl) ⟨Nat.le_of_ble_eq_true rfl, Nat.le_of_ble_eq_true rfl⟩ (zd DX8_unlike 4 rfl) (fun b4 w2 e3 => ?_)
  refine tz_bif_ne 14 (zd DX8_unlike 5 rfl) rfl (fun q5 => ?_) (fun q5 => ?_)
  · refine tz_aload_n 0 rfl (zd DX8_unlike 8 rfl) ?_
    refine tz_iload_n 1 rfl (zd DX8_unlike 9 rfl) ?_
    refine tz_cV_i kz8 (zs_74) rfl (rest := []) (YX8_sizeOf) wk_1042 (tX8_sizeOf a1 w2) rfl rfl (Nat.le_of_ble_eq_true rfl) ⟨Nat.le_of_ble_eq_true rfl, Nat.le_of_ble_eq_true rfl⟩ (zd DX8_unlike 10 rfl) (fun v8 w6 e7 => ?_)
    refine tz_istore_n [(2, .int v8), (0, .ref 74), (1, .int a1)] (Nat.le_of_ble_eq_true rfl) rfl (zd DX8_unlike 11 rfl) ?_
    refine tz_iconst (1 : Int32) zk_iconst_1 (zd DX8_unlike 12 rfl) ?_
    refine tz_istore_n [(3, .int (1 : Int32)), (2, .int v8), (0, .ref 74), (1, .int a1)] (Nat.le_of_ble_eq_true rfl) rfl (zd DX8_unlike 13 rfl) ?_
    refine tz_lv (lv2 := [(0, .ref 74), (1, .int a1), (2, .int v8), (3, .int (1 : Int32))]) [2, 3, 1, 0] rfl ?_
    exact lX8_unlike_L22 a1 v8 zFU (1 : Int32) w6
  refine tz_iconst (-1 : Int32) zk_iconst_m1 (zd DX8_unlike 6 rfl) ?_
  exact tz_iret rfl (zd DX8_unlike 7 rfl)
