def QX8_isItem : List (Nat × Instr × Nat) := [(0, .iload_n 0, 1), (1, .i2l, 1), (2, .lconst 0, 1), (3, .ldc2_w 146, 3), (6, .invokestatic 21, 3), (9, .ireturn, 1)]
set_option maxRecDepth 100000 in
theorem DX8_isItem : ∀ q ∈ QX8_isItem, decode cX8_isItem q.1 = .ok (q.2.1, q.2.2) := by decide +kernel
abbrev MX8_isItem : zM := (cX8_isItem, "EndSumsModel", 1, (some .boolean), { frames := 1, cells := 0, slots := 0, locals := 25 })
def fX8_isItem (a0 : Int32) (w : zW) : Option (Bool × zW) :=
  bd (fX8_in (a0).toInt64 (0 : Int64) (9999 : Int64) w) fun b3 w1 =>
  some (b3, w1)
theorem YX8_isItem : zYS yX8_isItem MX8_isItem 1 := ⟨wk_960, wk_9, wk_959, ⟨by decide, by decide, by decide +kernel⟩, rfl, rfl⟩
set_option maxHeartbeats 4000000 in
set_option maxRecDepth 100000 in
theorem tX8_isItem (a0 : Int32) (w : zW) : Sm yX8_isItem MX8_isItem zz [.int a0] w (fX8_isItem a0 w) := by
  refine Sm_of (lv0 := [(0, .int a0)]) (by decide) rfl (fun _ => Nat.le_of_ble_eq_true rfl) rfl ?_
  unfold fX8_isItem
  refine tz_iload_n 0 rfl (zd DX8_isItem 0 rfl) ?_
  refine tz_i2l (zd DX8_isItem 1 rfl) ?_
  refine tz_lconst (0 : Int64) rfl (zd DX8_isItem 2 rfl) ?_
  refine tz_ldc2_w wk_961 (zd DX8_isItem 3 rfl) ?_
  refine tz_cS_z (rest := []) (YX8_in) wk_848 (tX8_in (a0).toInt64 (0 : Int64) (9999 : Int64) w) rfl rfl (Nat.le_of_ble_eq_true rfl) ⟨Nat.le_of_ble_eq_true rfl, Nat.le_of_ble_eq_true rfl⟩ (zd DX8_isItem 4 rfl) (fun b3 w1 e2 => ?_)
  exact tz_zret rfl (zd DX8_isItem 5 rfl)
def QX8_joinsTwo : List (Nat × Instr × Nat) := [(0, .aload_n 0, 1), (1, .iload_n 2, 1), (2, .invokevirtual 148, 3), (5, .aload_n 0, 1), (6, .getfield 96, 3), (9, .lstore_n 3, 1), (10, .aload_n 0, 1), (11, .getfield 100, 3), (14, .lstore 5, 2), (16, .aload_n 0, 1), (17, .iload_n 1, 1), (18, .invokevirtual 148, 3), (21, .aload_n 0, 1), (22, .aload_n 0, 1), (23, .getfield 96, 3), (26, .aload_n 0, 1), (27, .getfield 100, 3), (30, .lload_n 3, 1), (31, .lload 5, 2), (33, .invokevirtual 152, 3), (36, .return_, 1)]
set_option maxRecDepth 100000 in
theorem DX8_joinsTwo : ∀ q ∈ QX8_joinsTwo, decode cX8_joinsTwo q.1 = .ok (q.2.1, q.2.2) := by decide +kernel
abbrev MX8_joinsTwo : zM := (cX8_joinsTwo, "EndSumsModel", 7, none, { frames := 4, cells := 0, slots := 0, locals := 100 })
def fX8_joinsTwo (a1 : Int32) (a2 : Int32) (w : zW) : Option (Unit × zW) :=
  bd (fX8_element a2 w) fun _ w1 =>
  lt (zL w1 74 11) fun v4 =>
  lt (zL w1 74 12) fun v5 =>
  bd (fX8_element a1 w1) fun _ w6 =>
  bd (fX8_join (zL w6 74 11) (zL w6 74 12) v4 v5 w6) fun _ w9 =>
  some ((), w9)
theorem YX8_joinsTwo : zYV yX8_joinsTwo MX8_joinsTwo 2 := ⟨wk_965, wk_9, ⟨wk_964, ws_76⟩, ⟨by decide, by decide, by decide +kernel⟩, rfl, rfl⟩
set_option maxHeartbeats 4000000 in
set_option maxRecDepth 100000 in
theorem tX8_joinsTwo (a1 : Int32) (a2 : Int32) (w : zW) : Sm yX8_joinsTwo MX8_joinsTwo zn [.ref 74, .int a1, .int a2] w (fX8_joinsTwo a1 a2 w) := by
  refine Sm_of (lv0 := [(0, .ref 74), (1, .int a1), (2, .int a2)]) (by decide) rfl (fun _ => Nat.le_of_ble_eq_true rfl) rfl ?_
  unfold fX8_joinsTwo
  refine tz_aload_n 0 rfl (zd DX8_joinsTwo 0 rfl) ?_
  refine tz_iload_n 2 rfl (zd DX8_joinsTwo 1 rfl) ?_
  refine tz_cV_n kz8 (zs_74) rfl (rest := []) (YX8_element) wk_966 (tX8_element a2 w) rfl rfl (Nat.le_of_ble_eq_true rfl) ⟨Nat.le_of_ble_eq_true rfl, Nat.le_of_ble_eq_true rfl⟩ (zd DX8_joinsTwo 2 rfl) (fun v3 w1 e2 => ?_)
  refine tz_aload_n 0 rfl (zd DX8_joinsTwo 3 rfl) ?_
  refine tz_getJ 11 kz8 (zs_74) (by decide) rfl wk_868 (zd DX8_joinsTwo 4 rfl) ?_
  refine tz_ltl (fun v4 => ?_)
  refine tz_lstore_n [(3, .long v4), (0, .ref 74), (1, .int a1), (2, .int a2)] (Nat.le_of_ble_eq_true rfl) rfl (zd DX8_joinsTwo 5 rfl) ?_
  refine tz_aload_n 1 rfl (zd DX8_joinsTwo 6 rfl) ?_
  refine tz_getJ 12 kz8 (zs_74) (by decide) rfl wk_869 (zd DX8_joinsTwo 7 rfl) ?_
  refine tz_ltl (fun v5 => ?_)
  refine tz_lstore [(5, .long v5), (3, .long v4), (0, .ref 74), (1, .int a1), (2, .int a2)] (Nat.le_of_ble_eq_true rfl) rfl (zd DX8_joinsTwo 8 rfl) ?_
  refine tz_aload_n 2 rfl (zd DX8_joinsTwo 9 rfl) ?_
  refine tz_iload_n 3 rfl (zd DX8_joinsTwo 10 rfl) ?_
  refine tz_cV_n kz8 (zs_74) rfl (rest := []) (YX8_element) wk_966 (tX8_element a1 w1) rfl rfl (Nat.le_of_ble_eq_true rfl) ⟨Nat.le_of_ble_eq_true rfl, Nat.le_of_ble_eq_true rfl⟩ (zd DX8_joinsTwo 11 rfl) (fun v8 w6 e7 => ?_)
  refine tz_aload_n 2 rfl (zd DX8_joinsTwo 12 rfl) ?_
  refine tz_aload_n 2 rfl (zd DX8_joinsTwo 13 rfl) ?_
  refine tz_getJ 11 kz8 (zs_74) (by decide) rfl wk_868 (zd DX8_joinsTwo 14 rfl) ?_
  refine tz_aload_n 2 rfl (zd DX8_joinsTwo 15 rfl) ?_
  refine tz_getJ 12 kz8 (zs_74) (by decide) rfl wk_869 (zd DX8_joinsTwo 16 rfl) ?_
  refine tz_lload_n 1 rfl (zd DX8_joinsTwo 17 rfl) ?_
  refine tz_lload 0 rfl (zd DX8_joinsTwo 18 rfl) ?_
  refine tz_cV_n kz8 (zs_74) rfl (rest := []) (YX8_join) wk_984 (tX8_join (zL w6 74 11) (zL w6 74 12) v4 v5 w6) rfl rfl (Nat.le_of_ble_eq_true rfl) ⟨Nat.le_of_ble_eq_true rfl, Nat.le_of_ble_eq_true rfl⟩ (zd DX8_joinsTwo 19 rfl) (fun v11 w9 e10 => ?_)
  exact tz_vret rfl (zd DX8_joinsTwo 20 rfl)
def QX8_commutes : List (Nat × Instr × Nat) := [(0, .aload_n 0, 1), (1, .iconst 0, 1), (2, .putfield 1, 3), (5, .iload_n 1, 1), (6, .invokestatic 156, 3), (9, .ifCond .eq 10, 3), (12, .iload_n 2, 1), (13, .invokestatic 156, 3), (16, .ifCond .ne 5, 3), (19, .iconst (-1), 1), (20, .ireturn, 1), (21, .aload_n 0, 1), (22, .iload_n 1, 1), (23, .iload_n 2, 1), (24, .invokevirtual 160, 3), (27, .aload_n 0, 1), (28, .getfield 96, 3), (31, .lstore_n 3, 1), (32, .aload_n 0, 1), (33, .getfield 100, 3), (36, .lstore 5, 2), (38, .aload_n 0, 1), (39, .iload_n 2, 1), (40, .iload_n 1, 1), (41, .invokevirtual 160, 3), (44, .aload_n 0, 1), (45, .iconst 0, 1), (46, .putfield 11, 3), (49, .aload_n 0, 1), (50, .lload_n 3, 1), (51, .invokevirtual 164, 3), (54, .aload_n 0, 1), (55, .lload 5, 2), (57, .invokevirtual 164, 3), (60, .aload_n 0, 1), (61, .aload_n 0, 1), (62, .getfield 96, 3), (65, .invokevirtual 164, 3), (68, .aload_n 0, 1), (69, .aload_n 0, 1), (70, .getfield 100, 3), (73, .invokevirtual 164, 3), (76, .lload_n 3, 1), (77, .aload_n 0, 1), (78, .getfield 96, 3), (81, .lcmp, 1), (82, .ifCond .ne 17, 3), (85, .lload 5, 2), (87, .aload_n 0, 1), (88, .getfield 100, 3), (91, .lcmp, 1), (92, .ifCond .ne 7, 3), (95, .iconst 1, 1), (96, .goto 4, 3), (99, .iconst 0, 1), (100, .invokestatic 31, 3), (103, .ireturn, 1)]
set_option maxRecDepth 100000 in
theorem DX8_commutes : ∀ q ∈ QX8_commutes, decode cX8_commutes q.1 = .ok (q.2.1, q.2.2) := by decide +kernel
abbrev MX8_commutes : zM := (cX8_commutes, "EndSumsModel", 7, (some .int), { frames := 5, cells := 0, slots := 0, locals := 126 })
def fX8_commutes (a1 : Int32) (a2 : Int32) (w : zW) : Option (Int32 × zW) :=
  lt (zsI w 74 0 (0 : Int32)) fun w1 =>
  bd (fX8_isItem a1 w1) fun b4 w2 =>
  if b4 = true then
    bd (fX8_isItem a2 w2) fun b8 w6 =>
    if b8 = true then
      bd (fX8_joinsTwo a1 a2 w6) fun _ w10 =>
      lt (zL w10 74 11) fun v13 =>
      lt (zL w10 74 12) fun v14 =>
      bd (fX8_joinsTwo a2 a1 w10) fun _ w15 =>
      lt (zsI w15 74 1 (0 : Int32)) fun w18 =>
      bd (fX8_enters v13 w18) fun _ w19 =>
      bd (fX8_enters v14 w19) fun _ w22 =>
      bd (fX8_enters (zL w22 74 11) w22) fun _ w25 =>
      bd (fX8_enters (zL w25 74 12) w25) fun _ w28 =>
      if ¬ v13 = (zL w28 74 11) then
        bd (fX8_flag (0 : Int32) w28) fun v34 w32 =>
        some (v34, w32)
      else
      if ¬ v14 = (zL w28 74 12) then
        bd (fX8_flag (0 : Int32) w28) fun v38 w36 =>
        some (v38, w36)
      else
      bd (fX8_flag (1 : Int32) w28) fun v41 w39 =>
      some (v41, w39)
    else
    some ((-1 : Int32), w6)
  else
  some ((-1 : Int32), w2)
theorem YX8_commutes : zYV yX8_commutes MX8_commutes 2 := ⟨wk_957, wk_9, ⟨wk_955, wk_956⟩, ⟨by decide, by decide, by decide +kernel⟩, rfl, rfl⟩
set_option maxHeartbeats 4000000 in
set_option maxRecDepth 100000 in
theorem tX8_commutes (a1 : Int32) (a2 : Int32) (w : zW) : Sm yX8_commutes MX8_commutes zi [.ref 74, .int a1, .int a2] w (fX8_commutes a1 a2 w) := by
  refine Sm_of (lv0 := [(0, .ref 74), (1, .int a1), (2, .int a2)]) (by decide) rfl (fun _ => Nat.le_of_ble_eq_true rfl) rfl ?_
  unfold fX8_commutes
  refine tz_aload_n 0 rfl (zd DX8_commutes 0 rfl) ?_
  refine tz_iconst (0 : Int32) zk_iconst_0 (zd DX8_commutes 1 rfl) ?_
  refine tz_putI 0 kz8 (zs_74) (by decide) rfl rfl wk_857 (zd DX8_commutes 2 rfl) (fun w1 => ?_)
  refine tz_iload_n 1 rfl (zd DX8_commutes 3 rfl) ?_
  refine tz_cS_z (rest := []) (YX8_isItem) wk_958 (tX8_isItem a1 w1) rfl rfl (Nat.le_of_ble_eq_true rfl) ⟨Nat.le_of_ble_eq_true rfl, Nat.le_of_ble_eq_true rfl⟩ (zd DX8_commutes 4 rfl) (fun b4 w2 e3 => ?_)
  refine tz_bif_eq 19 (zd DX8_commutes 5 rfl) rfl (fun q5 => ?_) (fun q5 => ?_)
  · refine tz_iload_n 2 rfl (zd DX8_commutes 6 rfl) ?_
    refine tz_cS_z (rest := []) (YX8_isItem) wk_958 (tX8_isItem a2 w2) rfl rfl (Nat.le_of_ble_eq_true rfl) ⟨Nat.le_of_ble_eq_true rfl, Nat.le_of_ble_eq_true rfl⟩ (zd DX8_commutes 7 rfl) (fun b8 w6 e7 => ?_)
    refine tz_bif_ne 21 (zd DX8_commutes 8 rfl) rfl (fun q9 => ?_) (fun q9 => ?_)
    · refine tz_aload_n 0 rfl (zd DX8_commutes 11 rfl) ?_
      refine tz_iload_n 1 rfl (zd DX8_commutes 12 rfl) ?_
      refine tz_iload_n 2 rfl (zd DX8_commutes 13 rfl) ?_
      refine tz_cV_n kz8 (zs_74) rfl (rest := []) (YX8_joinsTwo) wk_962 (tX8_joinsTwo a1 a2 w6) rfl rfl (Nat.le_of_ble_eq_true rfl) ⟨Nat.le_of_ble_eq_true rfl, Nat.le_of_ble_eq_true rfl⟩ (zd DX8_commutes 14 rfl) (fun v12 w10 e11 => ?_)
      refine tz_aload_n 0 rfl (zd DX8_commutes 15 rfl) ?_
      refine tz_getJ 11 kz8 (zs_74) (by decide) rfl wk_868 (zd DX8_commutes 16 rfl) ?_
      refine tz_ltl (fun v13 => ?_)
      refine tz_lstore_n [(3, .long v13), (0, .ref 74), (1, .int a1), (2, .int a2)] (Nat.le_of_ble_eq_true rfl) rfl (zd DX8_commutes 17 rfl) ?_
      refine tz_aload_n 1 rfl (zd DX8_commutes 18 rfl) ?_
      refine tz_getJ 12 kz8 (zs_74) (by decide) rfl wk_869 (zd DX8_commutes 19 rfl) ?_
      refine tz_ltl (fun v14 => ?_)
      refine tz_lstore [(5, .long v14), (3, .long v13), (0, .ref 74), (1, .int a1), (2, .int a2)] (Nat.le_of_ble_eq_true rfl) rfl (zd DX8_commutes 20 rfl) ?_
      refine tz_aload_n 2 rfl (zd DX8_commutes 21 rfl) ?_
      refine tz_iload_n 4 rfl (zd DX8_commutes 22 rfl) ?_
      refine tz_iload_n 3 rfl (zd DX8_commutes 23 rfl) ?_
      refine tz_cV_n kz8 (zs_74) rfl (rest := []) (YX8_joinsTwo) wk_962 (tX8_joinsTwo a2 a1 w10) rfl rfl (Nat.le_of_ble_eq_true rfl) ⟨Nat.le_of_ble_eq_true rfl, Nat.le_of_ble_eq_true rfl⟩ (zd DX8_commutes 24 rfl) (fun v17 w15 e16 => ?_)
      refine tz_aload_n 2 rfl (zd DX8_commutes 25 rfl) ?_
      refine tz_iconst (0 : Int32) zk_iconst_0 (zd DX8_commutes 26 rfl) ?_
      refine tz_putI 1 kz8 (zs_74) (by decide) rfl rfl wk_858 (zd DX8_commutes 27 rfl) (fun w18 => ?_)
      refine tz_aload_n 2 rfl (zd DX8_commutes 28 rfl) ?_
      refine tz_lload_n 1 rfl (zd DX8_commutes 29 rfl) ?_
      refine tz_cV_n kz8 (zs_74) rfl (rest := []) (YX8_enters) wk_1002 (tX8_enters v13 w18) rfl rfl (Nat.le_of_ble_eq_true rfl) ⟨Nat.le_of_ble_eq_true rfl, Nat.le_of_ble_eq_true rfl⟩ (zd DX8_commutes 30 rfl) (fun v21 w19 e20 => ?_)
      refine tz_aload_n 2 rfl (zd DX8_commutes 31 rfl) ?_
      refine tz_lload 0 rfl (zd DX8_commutes 32 rfl) ?_
      refine tz_cV_n kz8 (zs_74) rfl (rest := []) (YX8_enters) wk_1002 (tX8_enters v14 w19) rfl rfl (Nat.le_of_ble_eq_true rfl) ⟨Nat.le_of_ble_eq_true rfl, Nat.le_of_ble_eq_true rfl⟩ (zd DX8_commutes 33 rfl) (fun v24 w22 e23 => ?_)
      refine tz_aload_n 2 rfl (zd DX8_commutes 34 rfl) ?_
      refine tz_aload_n 2 rfl (zd DX8_commutes 35 rfl) ?_
      refine tz_getJ 11 kz8 (zs_74) (by decide) rfl wk_868 (zd DX8_commutes 36 rfl) ?_
      refine tz_cV_n kz8 (zs_74) rfl (rest := []) (YX8_enters) wk_1002 (tX8_enters (zL w22 74 11) w22) rfl rfl (Nat.le_of_ble_eq_true rfl) ⟨Nat.le_of_ble_eq_true rfl, Nat.le_of_ble_eq_true rfl⟩ (zd DX8_commutes 37 rfl) (fun v27 w25 e26 => ?_)
      refine tz_aload_n 2 rfl (zd DX8_commutes 38 rfl) ?_
      refine tz_aload_n 2 rfl (zd DX8_commutes 39 rfl) ?_
      refine tz_getJ 12 kz8 (zs_74) (by decide) rfl wk_869 (zd DX8_commutes 40 rfl) ?_
      refine tz_cV_n kz8 (zs_74) rfl (rest := []) (YX8_enters) wk_1002 (tX8_enters (zL w25 74 12) w25) rfl rfl (Nat.le_of_ble_eq_true rfl) ⟨Nat.le_of_ble_eq_true rfl, Nat.le_of_ble_eq_true rfl⟩ (zd DX8_commutes 41 rfl) (fun v30 w28 e29 => ?_)
      refine tz_lload_n 1 rfl (zd DX8_commutes 42 rfl) ?_
      refine tz_aload_n 2 rfl (zd DX8_commutes 43 rfl) ?_
      refine tz_getJ 11 kz8 (zs_74) (by decide) rfl wk_868 (zd DX8_commutes 44 rfl) ?_
      refine tz_lcmp_ne 99 (zd DX8_commutes 45 rfl) (zd DX8_commutes 46 rfl) rfl (fun q31 => ?_) (fun q31 => ?_)
      · refine tz_iconst (0 : Int32) zk_iconst_0 (zd DX8_commutes 54 rfl) ?_
        refine tz_cS_i (rest := []) (YX8_flag) wk_981 (tX8_flag (0 : Int32) w28) rfl rfl (Nat.le_of_ble_eq_true rfl) ⟨Nat.le_of_ble_eq_true rfl, Nat.le_of_ble_eq_true rfl⟩ (zd DX8_commutes 55 rfl) (fun v34 w32 e33 => ?_)
        exact tz_iret rfl (zd DX8_commutes 56 rfl)
      refine tz_lload 0 rfl (zd DX8_commutes 47 rfl) ?_
      refine tz_aload_n 2 rfl (zd DX8_commutes 48 rfl) ?_
      refine tz_getJ 12 kz8 (zs_74) (by decide) rfl wk_869 (zd DX8_commutes 49 rfl) ?_
      refine tz_lcmp_ne 99 (zd DX8_commutes 50 rfl) (zd DX8_commutes 51 rfl) rfl (fun q35 => ?_) (fun q35 => ?_)
      · refine tz_iconst (0 : Int32) zk_iconst_0 (zd DX8_commutes 54 rfl) ?_
        refine tz_cS_i (rest := []) (YX8_flag) wk_981 (tX8_flag (0 : Int32) w28) rfl rfl (Nat.le_of_ble_eq_true rfl) ⟨Nat.le_of_ble_eq_true rfl, Nat.le_of_ble_eq_true rfl⟩ (zd DX8_commutes 55 rfl) (fun v38 w36 e37 => ?_)
        exact tz_iret rfl (zd DX8_commutes 56 rfl)
      refine tz_iconst (1 : Int32) zk_iconst_1 (zd DX8_commutes 52 rfl) ?_
      refine tz_goto 100 (zd DX8_commutes 53 rfl) rfl ?_
      refine tz_cS_i (rest := []) (YX8_flag) wk_981 (tX8_flag (1 : Int32) w28) rfl rfl (Nat.le_of_ble_eq_true rfl) ⟨Nat.le_of_ble_eq_true rfl, Nat.le_of_ble_eq_true rfl⟩ (zd DX8_commutes 55 rfl) (fun v41 w39 e40 => ?_)
      exact tz_iret rfl (zd DX8_commutes 56 rfl)
    refine tz_iconst (-1 : Int32) zk_iconst_m1 (zd DX8_commutes 9 rfl) ?_
    exact tz_iret rfl (zd DX8_commutes 10 rfl)
  refine tz_iconst (-1 : Int32) zk_iconst_m1 (zd DX8_commutes 9 rfl) ?_
  exact tz_iret rfl (zd DX8_commutes 10 rfl)
def QX8_power : List (Nat × Instr × Nat) := [(0, .iload_n 2, 1), (1, .ifCond .ne 9, 3), (4, .aload_n 0, 1), (5, .invokevirtual 168, 3), (8, .iconst 0, 1), (9, .ireturn, 1), (10, .iload_n 2, 1), (11, .iconst 1, 1), (12, .if_icmp .ne 10, 3), (15, .aload_n 0, 1), (16, .iload_n 1, 1), (17, .invokevirtual 148, 3), (20, .iconst 0, 1), (21, .ireturn, 1), (22, .aload_n 0, 1), (23, .iload_n 1, 1), (24, .iload_n 2, 1), (25, .iconst 2, 1), (26, .idiv, 1), (27, .invokevirtual 171, 3), (30, .iconst 1, 1), (31, .iadd, 1), (32, .istore_n 3, 1), (33, .aload_n 0, 1), (34, .aload_n 0, 1), (35, .getfield 96, 3), (38, .aload_n 0, 1), (39, .getfield 100, 3), (42, .aload_n 0, 1), (43, .getfield 96, 3), (46, .aload_n 0, 1), (47, .getfield 100, 3), (50, .invokevirtual 152, 3), (53, .iload_n 2, 1), (54, .iconst 2, 1), (55, .irem, 1), (56, .ifCond .ne 5, 3), (59, .iload_n 3, 1), (60, .ireturn, 1), (61, .aload_n 0, 1), (62, .getfield 96, 3), (65, .lstore 4, 2), (67, .aload_n 0, 1), (68, .getfield 100, 3), (71, .lstore 6, 2), (73, .aload_n 0, 1), (74, .iload_n 1, 1), (75, .invokevirtual 148, 3), (78, .aload_n 0, 1), (79, .lload 4, 2), (81, .lload 6, 2), (83, .aload_n 0, 1), (84, .getfield 96, 3), (87, .aload_n 0, 1), (88, .getfield 100, 3), (91, .invokevirtual 152, 3), (94, .iload_n 3, 1), (95, .iconst 1, 1), (96, .iadd, 1), (97, .ireturn, 1)]
set_option maxRecDepth 100000 in
theorem DX8_power : ∀ q ∈ QX8_power, decode cX8_power q.1 = .ok (q.2.1, q.2.2) := by decide +kernel
abbrev MX8_power (n9 : Nat) : zM := (cX8_power, "EndSumsModel", 8, (some .int), { frames := n9 + 4, cells := 0, slots := 0, locals := n9 * 27 + 100 })
def fX8_power : Nat → Int32 → Int32 → zW → Option (Int32 × zW)
  | 0, _, _, _ => none
  | n9 + 1, a1, a2, w =>
    lt (fX8_power n9) fun f9 =>
    if ¬ a2 = (0 : Int32) then
      if ¬ a2 = (1 : Int32) then
        bd (f9 a1 (a2 / (2 : Int32)) w) fun v5 w3 =>
        lt (v5 + (1 : Int32)) fun v6 =>
        bd (fX8_join (zL w3 74 11) (zL w3 74 12) (zL w3 74 11) (zL w3 74 12) w3) fun _ w7 =>
        if ¬ (a2 - a2 / (2 : Int32) * (2 : Int32)) = (0 : Int32) then
          lt (zL w7 74 11) fun v11 =>
          lt (zL w7 74 12) fun v12 =>
          bd (fX8_element a1 w7) fun _ w13 =>
          bd (fX8_join v11 v12 (zL w13 74 11) (zL w13 74 12) w13) fun _ w16 =>
          some ((v6 + (1 : Int32)), w16)
        else
        some (v6, w7)
      else
      bd (fX8_element a1 w) fun _ w19 =>
      some ((0 : Int32), w19)
    else
    bd (fX8_empty w) fun _ w22 =>
    some ((0 : Int32), w22)
theorem YX8_power (n9 : Nat) : zYV yX8_power (MX8_power n9) 2 := ⟨wk_1014, wk_9, ⟨wk_1013, ws_83⟩, ⟨by decide, by decide, by decide +kernel⟩, rfl, rfl⟩
set_option maxHeartbeats 4000000 in
set_option maxRecDepth 100000 in
theorem tX8_power : ∀ (n9 : Nat) (a1 : Int32) (a2 : Int32) (w : zW), Sm yX8_power (MX8_power n9) zi [.ref 74, .int a1, .int a2] w (fX8_power n9 a1 a2 w) := by
  intro n9
  induction n9 with
  | zero => intro a1 a2 w; exact fun _ h => by cases h
  | succ n9 ih9 =>
    intro a1 a2 w
    refine Sm_of (lv0 := [(0, .ref 74), (1, .int a1), (2, .int a2)]) (by decide) rfl (fun _ => Nat.le_of_ble_eq_true rfl) rfl ?_
    refine tz_eq (fX8_power.eq_2 _ _ _ _) ?_
    generalize hf9 : fX8_power n9 = f9 at ih9 ⊢
    refine tz_jp (P := fun f9 => ∀ a b w, Sm yX8_power (MX8_power n9) zi [.ref 74, .int a, .int b] w (f9 a b w)) ih9 (fun f9 ih9 => ?_)
    refine tz_iload_n 2 rfl (zd DX8_power 0 rfl) ?_
    refine tz_if_ne 10 (zd DX8_power 1 rfl) rfl (fun q1 => ?_) (fun q1 => ?_)
    · refine tz_iload_n 2 rfl (zd DX8_power 6 rfl) ?_
      refine tz_iconst (1 : Int32) zk_iconst_1 (zd DX8_power 7 rfl) ?_
      refine tz_icmp_ne 22 (zd DX8_power 8 rfl) rfl (fun q2 => ?_) (fun q2 => ?_)
      · refine tz_aload_n 0 rfl (zd DX8_power 14 rfl) ?_
        refine tz_iload_n 1 rfl (zd DX8_power 15 rfl) ?_
        refine tz_iload_n 2 rfl (zd DX8_power 16 rfl) ?_
        refine tz_iconst (2 : Int32) zk_iconst_2 (zd DX8_power 17 rfl) ?_
        refine tz_idiv (by decide) (zd DX8_power 18 rfl) ?_
        refine tz_cV_i kz8 (zs_74) rfl (rest := []) (YX8_power n9) wk_1011 (ih9 a1 (a2 / (2 : Int32)) w) rfl rfl (Nat.le_of_ble_eq_true rfl) ⟨by show _ ≤ _; simp only [MX8_power]; omega, by show _ ≤ _; simp only [MX8_power]; omega⟩ (zd DX8_power 19 rfl) (fun v5 w3 e4 => ?_)
        refine tz_iconst (1 : Int32) zk_iconst_1 (zd DX8_power 20 rfl) ?_
        refine tz_iadd (zd DX8_power 21 rfl) ?_
        refine tz_lti (fun v6 => ?_)
        refine tz_istore_n [(3, .int v6), (0, .ref 74), (1, .int a1), (2, .int a2)] (Nat.le_of_ble_eq_true rfl) rfl (zd DX8_power 22 rfl) ?_
        refine tz_aload_n 1 rfl (zd DX8_power 23 rfl) ?_
        refine tz_aload_n 1 rfl (zd DX8_power 24 rfl) ?_
        refine tz_getJ 11 kz8 (zs_74) (by decide) rfl wk_868 (zd DX8_power 25 rfl) ?_
        refine tz_aload_n 1 rfl (zd DX8_power 26 rfl) ?_
        refine tz_getJ 12 kz8 (zs_74) (by decide) rfl wk_869 (zd DX8_power 27 rfl) ?_
        refine tz_aload_n 1 rfl (zd DX8_power 28 rfl) ?_
        refine tz_getJ 11 kz8 (zs_74) (by decide) rfl wk_868 (zd DX8_power 29 rfl) ?_
        refine tz_aload_n 1 rfl (zd DX8_power 30 rfl) ?_
        refine tz_getJ 12 kz8 (zs_74) (by decide) rfl wk_869 (zd DX8_power 31 rfl) ?_
        refine tz_cV_n kz8 (zs_74) rfl (rest := []) (YX8_join) wk_984 (tX8_join (zL w3 74 11) (zL w3 74 12) (zL w3 74 11) (zL w3 74 12) w3) rfl rfl (Nat.le_of_ble_eq_true rfl) ⟨by show _ ≤ _; simp only [MX8_power, MX8_join]; omega, by show _ ≤ _; simp only [MX8_power, MX8_join]; omega⟩ (zd DX8_power 32 rfl) (fun v9 w7 e8 => ?_)
        refine tz_iload_n 3 rfl (zd DX8_power 33 rfl) ?_
        refine tz_iconst (2 : Int32) zk_iconst_2 (zd DX8_power 34 rfl) ?_
        refine tz_irem (by decide) (zd DX8_power 35 rfl) ?_
        refine tz_if_ne 61 (zd DX8_power 36 rfl) rfl (fun q10 => ?_) (fun q10 => ?_)
        · refine tz_aload_n 1 rfl (zd DX8_power 39 rfl) ?_
          refine tz_getJ 11 kz8 (zs_74) (by decide) rfl wk_868 (zd DX8_power 40 rfl) ?_
          refine tz_ltl (fun v11 => ?_)
          refine tz_lstore [(4, .long v11), (3, .int v6), (0, .ref 74), (1, .int a1), (2, .int a2)] (Nat.le_of_ble_eq_true rfl) rfl (zd DX8_power 41 rfl) ?_
          refine tz_aload_n 2 rfl (zd DX8_power 42 rfl) ?_
          refine tz_getJ 12 kz8 (zs_74) (by decide) rfl wk_869 (zd DX8_power 43 rfl) ?_
          refine tz_ltl (fun v12 => ?_)
          refine tz_lstore [(6, .long v12), (4, .long v11), (3, .int v6), (0, .ref 74), (1, .int a1), (2, .int a2)] (Nat.le_of_ble_eq_true rfl) rfl (zd DX8_power 44 rfl) ?_
          refine tz_aload_n 3 rfl (zd DX8_power 45 rfl) ?_
          refine tz_iload_n 4 rfl (zd DX8_power 46 rfl) ?_
          refine tz_cV_n kz8 (zs_74) rfl (rest := []) (YX8_element) wk_966 (tX8_element a1 w7) rfl rfl (Nat.le_of_ble_eq_true rfl) ⟨by show _ ≤ _; simp only [MX8_power, MX8_element]; omega, by show _ ≤ _; simp only [MX8_power, MX8_element]; omega⟩ (zd DX8_power 47 rfl) (fun v15 w13 e14 => ?_)
          refine tz_aload_n 3 rfl (zd DX8_power 48 rfl) ?_
          refine tz_lload 1 rfl (zd DX8_power 49 rfl) ?_
          refine tz_lload 0 rfl (zd DX8_power 50 rfl) ?_
          refine tz_aload_n 3 rfl (zd DX8_power 51 rfl) ?_
          refine tz_getJ 11 kz8 (zs_74) (by decide) rfl wk_868 (zd DX8_power 52 rfl) ?_
          refine tz_aload_n 3 rfl (zd DX8_power 53 rfl) ?_
          refine tz_getJ 12 kz8 (zs_74) (by decide) rfl wk_869 (zd DX8_power 54 rfl) ?_
          refine tz_cV_n kz8 (zs_74) rfl (rest := []) (YX8_join) wk_984 (tX8_join v11 v12 (zL w13 74 11) (zL w13 74 12) w13) rfl rfl (Nat.le_of_ble_eq_true rfl) ⟨by show _ ≤ _; simp only [MX8_power, MX8_join]; omega, by show _ ≤ _; simp only [MX8_power, MX8_join]; omega⟩ (zd DX8_power 55 rfl) (fun v18 w16 e17 => ?_)
          refine tz_iload_n 2 rfl (zd DX8_power 56 rfl) ?_
          refine tz_iconst (1 : Int32) zk_iconst_1 (zd DX8_power 57 rfl) ?_
          refine tz_iadd (zd DX8_power 58 rfl) ?_
          exact tz_iret rfl (zd DX8_power 59 rfl)
        refine tz_iload_n 0 rfl (zd DX8_power 37 rfl) ?_
        exact tz_iret rfl (zd DX8_power 38 rfl)
      refine tz_aload_n 0 rfl (zd DX8_power 9 rfl) ?_
      refine tz_iload_n 1 rfl (zd DX8_power 10 rfl) ?_
      refine tz_cV_n kz8 (zs_74) rfl (rest := []) (YX8_element) wk_966 (tX8_element a1 w) rfl rfl (Nat.le_of_ble_eq_true rfl) ⟨by show _ ≤ _; simp only [MX8_power, MX8_element]; omega, by show _ ≤ _; simp only [MX8_power, MX8_element]; omega⟩ (zd DX8_power 11 rfl) (fun v21 w19 e20 => ?_)
      refine tz_iconst (0 : Int32) zk_iconst_0 (zd DX8_power 12 rfl) ?_
      exact tz_iret rfl (zd DX8_power 13 rfl)
    refine tz_aload_n 0 rfl (zd DX8_power 2 rfl) ?_
    refine tz_cV_n kz8 (zs_74) rfl (rest := []) (YX8_empty) wk_1015 (tX8_empty w) rfl rfl (Nat.le_of_ble_eq_true rfl) ⟨by show _ ≤ _; simp only [MX8_power, MX8_empty]; omega, by show _ ≤ _; simp only [MX8_power, MX8_empty]; omega⟩ (zd DX8_power 3 rfl) (fun v24 w22 e23 => ?_)
    refine tz_iconst (0 : Int32) zk_iconst_0 (zd DX8_power 4 rfl) ?_
    exact tz_iret rfl (zd DX8_power 5 rfl)
def QX8_powers : List (Nat × Instr × Nat) := [(0, .aload_n 0, 1), (1, .iconst 0, 1), (2, .putfield 1, 3), (5, .iload_n 1, 1), (6, .invokestatic 156, 3), (9, .ifCond .eq 15, 3), (12, .iload_n 2, 1), (13, .i2l, 1), (14, .lconst 0, 1), (15, .ldc2_w 174, 3), (18, .invokestatic 21, 3), (21, .ifCond .ne 5, 3), (24, .iconst (-1), 1), (25, .ireturn, 1), (26, .aload_n 0, 1), (27, .iload_n 1, 1), (28, .iload_n 2, 1), (29, .invokevirtual 171, 3), (32, .istore_n 3, 1), (33, .aload_n 0, 1), (34, .iconst 0, 1), (35, .putfield 11, 3), (38, .aload_n 0, 1), (39, .aload_n 0, 1), (40, .getfield 96, 3), (43, .invokevirtual 164, 3), (46, .aload_n 0, 1), (47, .aload_n 0, 1), (48, .getfield 100, 3), (51, .invokevirtual 164, 3), (54, .iload_n 3, 1), (55, .ireturn, 1)]
set_option maxRecDepth 100000 in
theorem DX8_powers : ∀ q ∈ QX8_powers, decode cX8_powers q.1 = .ok (q.2.1, q.2.2) := by decide +kernel
abbrev MX8_powers : zM := (cX8_powers, "EndSumsModel", 4, (some .int), { frames := 37, cells := 0, slots := 0, locals := 991 })
def fX8_powers (a1 : Int32) (a2 : Int32) (w : zW) : Option (Int32 × zW) :=
  lt (zsI w 74 0 (0 : Int32)) fun w1 =>
  bd (fX8_isItem a1 w1) fun b4 w2 =>
  if b4 = true then
    bd (fX8_in (a2).toInt64 (0 : Int64) (1000000000 : Int64) w2) fun b8 w6 =>
    if b8 = true then
      bd (fX8_power 32 a1 a2 w6) fun v12 w10 =>
      lt (zsI w10 74 1 (0 : Int32)) fun w13 =>
      bd (fX8_enters (zL w13 74 11) w13) fun _ w14 =>
      bd (fX8_enters (zL w14 74 12) w14) fun _ w17 =>
      some (v12, w17)
    else
    some ((-1 : Int32), w6)
  else
  some ((-1 : Int32), w2)
theorem YX8_powers : zYV yX8_powers MX8_powers 2 := ⟨wk_1009, wk_9, ⟨wk_1007, wk_1008⟩, ⟨by decide, by decide, by decide +kernel⟩, rfl, rfl⟩
set_option maxHeartbeats 4000000 in
set_option maxRecDepth 100000 in
theorem tX8_powers (a1 : Int32) (a2 : Int32) (w : zW) : Sm yX8_powers MX8_powers zi [.ref 74, .int a1, .int a2] w (fX8_powers a1 a2 w) := by
  refine Sm_of (lv0 := [(0, .ref 74), (1, .int a1), (2, .int a2)]) (by decide) rfl (fun _ => Nat.le_of_ble_eq_true rfl) rfl ?_
  unfold fX8_powers
  refine tz_aload_n 0 rfl (zd DX8_powers 0 rfl) ?_
  refine tz_iconst (0 : Int32) zk_iconst_0 (zd DX8_powers 1 rfl) ?_
  refine tz_putI 0 kz8 (zs_74) (by decide) rfl rfl wk_857 (zd DX8_powers 2 rfl) (fun w1 => ?_)
  refine tz_iload_n 1 rfl (zd DX8_powers 3 rfl) ?_
  refine tz_cS_z (rest := []) (YX8_isItem) wk_958 (tX8_isItem a1 w1) rfl rfl (Nat.le_of_ble_eq_true rfl) ⟨Nat.le_of_ble_eq_true rfl, Nat.le_of_ble_eq_true rfl⟩ (zd DX8_powers 4 rfl) (fun b4 w2 e3 => ?_)
  refine tz_bif_eq 24 (zd DX8_powers 5 rfl) rfl (fun q5 => ?_) (fun q5 => ?_)
  · refine tz_iload_n 2 rfl (zd DX8_powers 6 rfl) ?_
    refine tz_i2l (zd DX8_powers 7 rfl) ?_
    refine tz_lconst (0 : Int64) rfl (zd DX8_powers 8 rfl) ?_
    refine tz_ldc2_w wk_1010 (zd DX8_powers 9 rfl) ?_
    refine tz_cS_z (rest := []) (YX8_in) wk_848 (tX8_in (a2).toInt64 (0 : Int64) (1000000000 : Int64) w2) rfl rfl (Nat.le_of_ble_eq_true rfl) ⟨Nat.le_of_ble_eq_true rfl, Nat.le_of_ble_eq_true rfl⟩ (zd DX8_powers 10 rfl) (fun b8 w6 e7 => ?_)
    refine tz_bif_ne 26 (zd DX8_powers 11 rfl) rfl (fun q9 => ?_) (fun q9 => ?_)
    · refine tz_aload_n 0 rfl (zd DX8_powers 14 rfl) ?_
      refine tz_iload_n 1 rfl (zd DX8_powers 15 rfl) ?_
      refine tz_iload_n 2 rfl (zd DX8_powers 16 rfl) ?_
      refine tz_cV_i kz8 (zs_74) rfl (rest := []) (YX8_power 32) wk_1011 (tX8_power 32 a1 a2 w6) rfl rfl (Nat.le_of_ble_eq_true rfl) ⟨Nat.le_of_ble_eq_true rfl, Nat.le_of_ble_eq_true rfl⟩ (zd DX8_powers 17 rfl) (fun v12 w10 e11 => ?_)
      refine tz_istore_n [(3, .int v12), (0, .ref 74), (1, .int a1), (2, .int a2)] (Nat.le_of_ble_eq_true rfl) rfl (zd DX8_powers 18 rfl) ?_
      refine tz_aload_n 1 rfl (zd DX8_powers 19 rfl) ?_
      refine tz_iconst (0 : Int32) zk_iconst_0 (zd DX8_powers 20 rfl) ?_
      refine tz_putI 1 kz8 (zs_74) (by decide) rfl rfl wk_858 (zd DX8_powers 21 rfl) (fun w13 => ?_)
      refine tz_aload_n 1 rfl (zd DX8_powers 22 rfl) ?_
      refine tz_aload_n 1 rfl (zd DX8_powers 23 rfl) ?_
      refine tz_getJ 11 kz8 (zs_74) (by decide) rfl wk_868 (zd DX8_powers 24 rfl) ?_
      refine tz_cV_n kz8 (zs_74) rfl (rest := []) (YX8_enters) wk_1002 (tX8_enters (zL w13 74 11) w13) rfl rfl (Nat.le_of_ble_eq_true rfl) ⟨Nat.le_of_ble_eq_true rfl, Nat.le_of_ble_eq_true rfl⟩ (zd DX8_powers 25 rfl) (fun v16 w14 e15 => ?_)
      refine tz_aload_n 1 rfl (zd DX8_powers 26 rfl) ?_
      refine tz_aload_n 1 rfl (zd DX8_powers 27 rfl) ?_
      refine tz_getJ 12 kz8 (zs_74) (by decide) rfl wk_869 (zd DX8_powers 28 rfl) ?_
      refine tz_cV_n kz8 (zs_74) rfl (rest := []) (YX8_enters) wk_1002 (tX8_enters (zL w14 74 12) w14) rfl rfl (Nat.le_of_ble_eq_true rfl) ⟨Nat.le_of_ble_eq_true rfl, Nat.le_of_ble_eq_true rfl⟩ (zd DX8_powers 29 rfl) (fun v19 w17 e18 => ?_)
      refine tz_iload_n 0 rfl (zd DX8_powers 30 rfl) ?_
      exact tz_iret rfl (zd DX8_powers 31 rfl)
    refine tz_iconst (-1 : Int32) zk_iconst_m1 (zd DX8_powers 12 rfl) ?_
    exact tz_iret rfl (zd DX8_powers 13 rfl)
  refine tz_iconst (-1 : Int32) zk_iconst_m1 (zd DX8_powers 12 rfl) ?_
  exact tz_iret rfl (zd DX8_powers 13 rfl)
def QX8_order : List (Nat × Instr × Nat) := [(0, .aload_n 0, 1), (1, .iconst 0, 1), (2, .putfield 1, 3), (5, .iload_n 1, 1), (6, .invokestatic 156, 3), (9, .ifCond .ne 5, 3), (12, .iconst (-1), 1), (13, .ireturn, 1), (14, .aload_n 0, 1), (15, .iload_n 1, 1), (16, .invokevirtual 148, 3), (19, .aload_n 0, 1), (20, .getfield 96, 3), (23, .lstore_n 2, 1), (24, .aload_n 0, 1), (25, .getfield 100, 3), (28, .lstore 4, 2), (30, .aload_n 0, 1), (31, .getfield 60, 3), (34, .iconst 1, 1), (35, .lload_n 2, 1), (36, .lastore, 1), (37, .aload_n 0, 1), (38, .getfield 63, 3), (41, .iconst 1, 1), (42, .lload 4, 2), (44, .lastore, 1), (45, .iconst 2, 1), (46, .istore 6, 2), (48, .iload 6, 2), (50, .sipush 128, 3), (53, .if_icmp .gt 117, 3), (56, .aload_n 0, 1), (57, .aload_n 0, 1), (58, .getfield 60, 3), (61, .iload 6, 2), (63, .iconst 1, 1), (64, .isub, 1), (65, .laload, 1), (66, .aload_n 0, 1), (67, .getfield 63, 3), (70, .iload 6, 2), (72, .iconst 1, 1), (73, .isub, 1), (74, .laload, 1), (75, .lload_n 2, 1), (76, .lload 4, 2), (78, .invokevirtual 152, 3), (81, .aload_n 0, 1), (82, .getfield 60, 3), (85, .iload 6, 2), (87, .aload_n 0, 1), (88, .getfield 96, 3), (91, .lastore, 1), (92, .aload_n 0, 1), (93, .getfield 63, 3), (96, .iload 6, 2), (98, .aload_n 0, 1), (99, .getfield 100, 3), (102, .lastore, 1), (103, .iconst 1, 1), (104, .istore 7, 2), (106, .iload 7, 2), (108, .iload 6, 2), (110, .if_icmp .ge 54, 3), (113, .aload_n 0, 1), (114, .getfield 60, 3), (117, .iload 7, 2), (119, .laload, 1), (120, .aload_n 0, 1), (121, .getfield 96, 3), (124, .lcmp, 1), (125, .ifCond .ne 33, 3), (128, .aload_n 0, 1), (129, .getfield 63, 3), (132, .iload 7, 2), (134, .laload, 1), (135, .aload_n 0, 1), (136, .getfield 100, 3), (139, .lcmp, 1), (140, .ifCond .ne 18, 3), (143, .aload_n 0, 1), (144, .iconst 0, 1), (145, .putfield 11, 3), (148, .aload_n 0, 1), (149, .iload 7, 2), (151, .i2l, 1), (152, .invokevirtual 164, 3), (155, .iload 6, 2), (157, .ireturn, 1), (158, .iinc 7 1, 3), (161, .goto (-55), 3), (164, .iinc 6 1, 3), (167, .goto (-119), 3), (170, .bipush (-2), 2), (172, .ireturn, 1)]
set_option maxRecDepth 100000 in
theorem DX8_order : ∀ q ∈ QX8_order, decode cX8_order q.1 = .ok (q.2.1, q.2.2) := by decide +kernel
abbrev MX8_order : zM := (cX8_order, "EndSumsModel", 8, (some .int), { frames := 4, cells := 0, slots := 0, locals := 100 })
def fX8_order_L106 (x2 : Int64) (x4 : Int64) (x6 : Int32) (j48 : Int32 → zW → Option (Int32 × zW)) : Nat → Int32 → zW → Option (Int32 × zW)
  | 0, _, _ => none
  | n + 1, x7, w =>
    if x6 ≤ x7 then
      j48 (x6 + (1 : Int32)) w
    else
    zg (zin x7 129) <|
    if ¬ (zL w 81 x7.toNatClampNeg) = (zL w 74 11) then
      fX8_order_L106 x2 x4 x6 j48 n (x7 + (1 : Int32)) w
    else
    zg (zin x7 129) <|
    if ¬ (zL w 82 x7.toNatClampNeg) = (zL w 74 12) then
      fX8_order_L106 x2 x4 x6 j48 n (x7 + (1 : Int32)) w
    else
    lt (zsI w 74 1 (0 : Int32)) fun w22 =>
    bd (fX8_enters (x7).toInt64 w22) fun _ w23 =>
    some (x6, w23)
def fX8_order_L48 (x2 : Int64) (x4 : Int64) : Nat → Int32 → zW → Option (Int32 × zW)
  | 0, _, _ => none
  | n + 1, x6, w =>
    if (128 : Int32) < x6 then
      some ((-2 : Int32), w)
    else
    zg (zin (x6 - (1 : Int32)) 129) <|
    zg (zin (x6 - (1 : Int32)) 129) <|
    bd (fX8_join (zL w 81 (x6 - (1 : Int32)).toNatClampNeg) (zL w 82 (x6 - (1 : Int32)).toNatClampNeg) x2 x4 w) fun _ w14 =>
    zg (zin x6 129) <| lt (zsL w14 81 x6.toNatClampNeg (zL w14 74 11)) fun w17 =>
    zg (zin x6 129) <| lt (zsL w17 82 x6.toNatClampNeg (zL w17 74 12)) fun w18 =>
    fX8_order_L106 x2 x4 x6 (fX8_order_L48 x2 x4 n) zFU (1 : Int32) w18
def fX8_order (a1 : Int32) (w : zW) : Option (Int32 × zW) :=
  lt (zsI w 74 0 (0 : Int32)) fun w1 =>
  bd (fX8_isItem a1 w1) fun b4 w2 =>
  if b4 = true then
    bd (fX8_element a1 w2) fun _ w6 =>
    lt (zL w6 74 11) fun v9 =>
    lt (zL w6 74 12) fun v10 =>
    zg (zin (1 : Int32) 129) <| lt (zsL w6 81 (1 : Int32).toNatClampNeg v9) fun w11 =>
    zg (zin (1 : Int32) 129) <| lt (zsL w11 82 (1 : Int32).toNatClampNeg v10) fun w12 =>
    fX8_order_L48 v9 v10 zFU (2 : Int32) w12
  else
  some ((-1 : Int32), w2)
theorem YX8_order : zYV yX8_order MX8_order 1 := ⟨wk_1024, wk_9, ⟨wk_1022, wk_1023⟩, ⟨by decide, by decide, by decide +kernel⟩, rfl, rfl⟩
set_option maxHeartbeats 4000000 in
set_option maxRecDepth 100000 in
theorem lX8_order_L106 (x2 : Int64) (x4 : Int64) (x6 : Int32) (j48 : Int32 → zW → Option (Int32 × zW)) (hj48 : ∀ (y6 : Int32) (w : zW), Tz MX8_order (zRet zi) (j48 y6 w) 48 [(0, .ref 74), (2, .long x2), (4, .long x4), (6, .int y6)] [] w) : ∀ (n : Nat) (x7 : Int32) (w : zW), Tz MX8_order (zRet zi) (fX8_order_L106 x2 x4 x6 j48 n x7 w) 106 [(0, .ref 74), (2, .long x2), (4, .long x4), (6, .int x6), (7, .int x7)] [] w := by
  intro n
  induction n with
  | zero => intro x7 w; exact tz_eq (fX8_order_L106.eq_1 _ _ _ _ _ _) tz_none
  | succ n ih =>
    intro x7 w
    refine tz_eq (fX8_order_L106.eq_2 _ _ _ _ _ _ _) ?_
    refine tz_iload 4 rfl (zd DX8_order 62 rfl) ?_
    refine tz_iload 3 rfl (zd DX8_order 63 rfl) ?_
    refine tz_icmp_ge 164 (zd DX8_order 64 rfl) rfl (fun q19 => ?_) (fun q19 => ?_)
    · refine tz_iinc 3 (1 : Int32) [(6, .int (x6 + (1 : Int32))), (0, .ref 74), (2, .long x2), (4, .long x4), (7, .int x7)] rfl zk_iconst_1 (Nat.le_of_ble_eq_true rfl) rfl (zd DX8_order 92 rfl) ?_
      refine tz_goto 48 (zd DX8_order 93 rfl) rfl ?_
      refine tz_lv (lv2 := [(0, .ref 74), (2, .long x2), (4, .long x4), (6, .int (x6 + (1 : Int32)))]) [1, 2, 3, 0] rfl ?_
      exact hj48 (x6 + (1 : Int32)) w
    refine tz_aload_n 0 rfl (zd DX8_order 65 rfl) ?_
    refine tz_getR 81 16 kz8 (zs_74) (by decide) (by decide) rfl wk_873 (zd DX8_order 66 rfl) ?_
    refine tz_iload 4 rfl (zd DX8_order 67 rfl) ?_
    refine tz_lald (zs_81.1) (zs_81.2) (zd DX8_order 68 rfl) ?_
    refine tz_aload_n 0 rfl (zd DX8_order 69 rfl) ?_
    refine tz_getJ 11 kz8 (zs_74) (by decide) rfl wk_868 (zd DX8_order 70 rfl) ?_
    refine tz_lcmp_ne 158 (zd DX8_order 71 rfl) (zd DX8_order 72 rfl) rfl (fun q20 => ?_) (fun q20 => ?_)
    · refine tz_iinc 4 (1 : Int32) [(7, .int (x7 + (1 : Int32))), (0, .ref 74), (2, .long x2), (4, .long x4), (6, .int x6)] rfl zk_iconst_1 (Nat.le_of_ble_eq_true rfl) rfl (zd DX8_order 90 rfl) ?_
      refine tz_goto 106 (zd DX8_order 91 rfl) rfl ?_
      refine tz_lv (lv2 := [(0, .ref 74), (2, .long x2), (4, .long x4), (6, .int x6), (7, .int (x7 + (1 : Int32)))]) [1, 2, 3, 4, 0] rfl ?_
      exact ih (x7 + (1 : Int32)) w
    refine tz_aload_n 0 rfl (zd DX8_order 73 rfl) ?_
    refine tz_getR 82 17 kz8 (zs_74) (by decide) (by decide) rfl wk_874 (zd DX8_order 74 rfl) ?_
    refine tz_iload 4 rfl (zd DX8_order 75 rfl) ?_
    refine tz_lald (zs_82.1) (zs_82.2) (zd DX8_order 76 rfl) ?_
    refine tz_aload_n 0 rfl (zd DX8_order 77 rfl) ?_
    refine tz_getJ 12 kz8 (zs_74) (by decide) rfl wk_869 (zd DX8_order 78 rfl) ?_
    refine tz_lcmp_ne 158 (zd DX8_order 79 rfl) (zd DX8_order 80 rfl) rfl (fun q21 => ?_) (fun q21 => ?_)
    · refine tz_iinc 4 (1 : Int32) [(7, .int (x7 + (1 : Int32))), (0, .ref 74), (2, .long x2), (4, .long x4), (6, .int x6)] rfl zk_iconst_1 (Nat.le_of_ble_eq_true rfl) rfl (zd DX8_order 90 rfl) ?_
      refine tz_goto 106 (zd DX8_order 91 rfl) rfl ?_
      refine tz_lv (lv2 := [(0, .ref 74), (2, .long x2), (4, .long x4), (6, .int x6), (7, .int (x7 + (1 : Int32)))]) [1, 2, 3, 4, 0] rfl ?_
      exact ih (x7 + (1 : Int32)) w
    refine tz_aload_n 0 rfl (zd DX8_order 81 rfl) ?_
    refine tz_iconst (0 : Int32) zk_iconst_0 (zd DX8_order 82 rfl) ?_
    refine tz_putI 1 kz8 (zs_74) (by decide) rfl rfl wk_858 (zd DX8_order 83 rfl) (fun w22 => ?_)
    refine tz_aload_n 0 rfl (zd DX8_order 84 rfl) ?_
    refine tz_iload 4 rfl (zd DX8_order 85 rfl) ?_
    refine tz_i2l (zd DX8_order 86 rfl) ?_
    refine tz_cV_n kz8 (zs_74) rfl (rest := []) (YX8_enters) wk_1002 (tX8_enters (x7).toInt64 w22) rfl rfl (Nat.le_of_ble_eq_true rfl) ⟨Nat.le_of_ble_eq_true rfl, Nat.le_of_ble_eq_true rfl⟩ (zd DX8_order 87 rfl) (fun v25 w23 e24 => ?_)
    refine tz_iload 3 rfl (zd DX8_order 88 rfl) ?_
    exact tz_iret rfl (zd DX8_order 89 rfl)
set_option maxHeartbeats 4000000 in
set_option maxRecDepth 100000 in
theorem lX8_order_L48 (x2 : Int64) (x4 : Int64) : ∀ (n : Nat) (x6 : Int32) (w : zW), Tz MX8_order (zRet zi) (fX8_order_L48 x2 x4 n x6 w) 48 [(0, .ref 74), (2, .long x2), (4, .long x4), (6, .int x6)] [] w := by
  intro n
  induction n with
  | zero => intro x6 w; exact tz_eq (fX8_order_L48.eq_1 _ _ _ _) tz_none
  | succ n ih =>
    intro x6 w
    refine tz_eq (fX8_order_L48.eq_2 _ _ _ _ _) ?_
    refine tz_iload 3 rfl (zd DX8_order 29 rfl) ?_
    refine tz_sipush (128 : Int32) zk_sipush_128 (zd DX8_order 30 rfl) ?_
    refine tz_icmp_gt 170 (zd DX8_order 31 rfl) rfl (fun q13 => ?_) (fun q13 => ?_)
    · refine tz_bipush (-2 : Int32) zk_bipush_m2 (zd DX8_order 94 rfl) ?_
      exact tz_iret rfl (zd DX8_order 95 rfl)
    refine tz_aload_n 0 rfl (zd DX8_order 32 rfl) ?_
    refine tz_aload_n 0 rfl (zd DX8_order 33 rfl) ?_
    refine tz_getR 81 16 kz8 (zs_74) (by decide) (by decide) rfl wk_873 (zd DX8_order 34 rfl) ?_
    refine tz_iload 3 rfl (zd DX8_order 35 rfl) ?_
    refine tz_iconst (1 : Int32) zk_iconst_1 (zd DX8_order 36 rfl) ?_
    refine tz_isub (zd DX8_order 37 rfl) ?_
    refine tz_lald (zs_81.1) (zs_81.2) (zd DX8_order 38 rfl) ?_
    refine tz_aload_n 0 rfl (zd DX8_order 39 rfl) ?_
    refine tz_getR 82 17 kz8 (zs_74) (by decide) (by decide) rfl wk_874 (zd DX8_order 40 rfl) ?_
    refine tz_iload 3 rfl (zd DX8_order 41 rfl) ?_
    refine tz_iconst (1 : Int32) zk_iconst_1 (zd DX8_order 42 rfl) ?_
    refine tz_isub (zd DX8_order 43 rfl) ?_
    refine tz_lald (zs_82.1) (zs_82.2) (zd DX8_order 44 rfl) ?_
    refine tz_lload_n 1 rfl (zd DX8_order 45 rfl) ?_
    refine tz_lload 2 rfl (zd DX8_order 46 rfl) ?_
    refine tz_cV_n kz8 (zs_74) rfl (rest := []) (YX8_join) wk_984 (tX8_join (zL w 81 (x6 - (1 : Int32)).toNatClampNeg) (zL w 82 (x6 - (1 : Int32)).toNatClampNeg) x2 x4 w) rfl rfl (Nat.le_of_ble_eq_true rfl) ⟨Nat.le_of_ble_eq_true rfl, Nat.le_of_ble_eq_true rfl⟩ (zd DX8_order 47 rfl) (fun v16 w14 e15 => ?_)
    refine tz_aload_n 0 rfl (zd DX8_order 48 rfl) ?_
    refine tz_getR 81 16 kz8 (zs_74) (by decide) (by decide) rfl wk_873 (zd DX8_order 49 rfl) ?_
    refine tz_iload 3 rfl (zd DX8_order 50 rfl) ?_
    refine tz_aload_n 0 rfl (zd DX8_order 51 rfl) ?_
    refine tz_getJ 11 kz8 (zs_74) (by decide) rfl wk_868 (zd DX8_order 52 rfl) ?_
    refine tz_last (zs_81.1) (zs_81.2) (zd DX8_order 53 rfl) (fun w17 => ?_)
    refine tz_aload_n 0 rfl (zd DX8_order 54 rfl) ?_
    refine tz_getR 82 17 kz8 (zs_74) (by decide) (by decide) rfl wk_874 (zd DX8_order 55 rfl) ?_
    refine tz_iload 3 rfl (zd DX8_order 56 rfl) ?_
    refine tz_aload_n 0 rfl (zd DX8_order 57 rfl) ?_
    refine tz_getJ 12 kz8 (zs_74) (by decide) rfl wk_869 (zd DX8_order 58 rfl) ?_
    refine tz_last (zs_82.1) (zs_82.2) (zd DX8_order 59 rfl) (fun w18 => ?_)
    refine tz_iconst (1 : Int32) zk_iconst_1 (zd DX8_order 60 rfl) ?_
    refine tz_istore [(7, .int (1 : Int32)), (0, .ref 74), (2, .long x2), (4, .long x4), (6, .int x6)] (Nat.le_of_ble_eq_true rfl) rfl (zd DX8_order 61 rfl) ?_
    refine tz_lv (lv2 := [(0, .ref 74), (2, .long x2), (4, .long x4), (6, .int x6), (7, .int (1 : Int32))]) [1, 2, 3, 4, 0] rfl ?_
    exact lX8_order_L106 x2 x4 x6 _ ih zFU (1 : Int32) w18
set_option maxHeartbeats 4000000 in
set_option maxRecDepth 100000 in
theorem tX8_order (a1 : Int32) (w : zW) : Sm yX8_order MX8_order zi [.ref 74, .int a1] w (fX8_order a1 w) := by
  refine Sm_of (lv0 := [(0, .ref 74), (1, .int a1)]) (by decide) rfl (fun _ => Nat.le_of_ble_eq_true rfl) rfl ?_
  unfold fX8_order
  refine tz_aload_n 0 rfl (zd DX8_order 0 rfl) ?_
  refine tz_iconst (0 : Int32) zk_iconst_0 (zd DX8_order 1 rfl) ?_
  refine tz_putI 0 kz8 (zs_74) (by decide) rfl rfl wk_857 (zd DX8_order 2 rfl) (fun w1 => ?_)
  refine tz_iload_n 1 rfl (zd DX8_order 3 rfl) ?_
  refine tz_cS_z (rest := []) (YX8_isItem) wk_958 (tX8_isItem a1 w1) rfl rfl (Nat.le_of_ble_eq_true rfl) ⟨Nat.le_of_ble_eq_true rfl, Nat.le_of_ble_eq_true rfl⟩ (zd DX8_order 4 rfl) (fun b4 w2 e3 => ?_)
  refine tz_bif_ne 14 (zd DX8_order 5 rfl) rfl (fun q5 => ?_) (fun q5 => ?_)
  · refine tz_aload_n 0 rfl (zd DX8_order 8 rfl) ?_
    refine tz_iload_n 1 rfl (zd DX8_order 9 rfl) ?_
    refine tz_cV_n kz8 (zs_74) rfl (rest := []) (YX8_element) wk_966 (tX8_element a1 w2) rfl rfl (Nat.le_of_ble_eq_true rfl) ⟨Nat.le_of_ble_eq_true rfl, Nat.le_of_ble_eq_true rfl⟩ (zd DX8_order 10 rfl) (fun v8 w6 e7 => ?_)
    refine tz_aload_n 0 rfl (zd DX8_order 11 rfl) ?_
    refine tz_getJ 11 kz8 (zs_74) (by decide) rfl wk_868 (zd DX8_order 12 rfl) ?_
    refine tz_ltl (fun v9 => ?_)
    refine tz_lstore_n [(2, .long v9), (0, .ref 74), (1, .int a1)] (Nat.le_of_ble_eq_true rfl) rfl (zd DX8_order 13 rfl) ?_
    refine tz_aload_n 1 rfl (zd DX8_order 14 rfl) ?_
    refine tz_getJ 12 kz8 (zs_74) (by decide) rfl wk_869 (zd DX8_order 15 rfl) ?_
    refine tz_ltl (fun v10 => ?_)
    refine tz_lstore [(4, .long v10), (2, .long v9), (0, .ref 74), (1, .int a1)] (Nat.le_of_ble_eq_true rfl) rfl (zd DX8_order 16 rfl) ?_
    refine tz_aload_n 2 rfl (zd DX8_order 17 rfl) ?_
    refine tz_getR 81 16 kz8 (zs_74) (by decide) (by decide) rfl wk_873 (zd DX8_order 18 rfl) ?_
    refine tz_iconst (1 : Int32) zk_iconst_1 (zd DX8_order 19 rfl) ?_
    refine tz_lload_n 1 rfl (zd DX8_order 20 rfl) ?_
    refine tz_last (zs_81.1) (zs_81.2) (zd DX8_order 21 rfl) (fun w11 => ?_)
    refine tz_aload_n 2 rfl (zd DX8_order 22 rfl) ?_
    refine tz_getR 82 17 kz8 (zs_74) (by decide) (by decide) rfl wk_874 (zd DX8_order 23 rfl) ?_
    refine tz_iconst (1 : Int32) zk_iconst_1 (zd DX8_order 24 rfl) ?_
    refine tz_lload 0 rfl (zd DX8_order 25 rfl) ?_
    refine tz_last (zs_82.1) (zs_82.2) (zd DX8_order 26 rfl) (fun w12 => ?_)
    refine tz_iconst (2 : Int32) zk_iconst_2 (zd DX8_order 27 rfl) ?_
    refine tz_istore [(6, .int (2 : Int32)), (4, .long v10), (2, .long v9), (0, .ref 74), (1, .int a1)] (Nat.le_of_ble_eq_true rfl) rfl (zd DX8_order 28 rfl) ?_
    refine tz_lv (lv2 := [(0, .ref 74), (2, .long v9), (4, .long v10), (6, .int (2 : Int32))]) [3, 2, 1, 0] rfl ?_
    exact lX8_order_L48 v9 v10 zFU (2 : Int32) w12
  refine tz_iconst (-1 : Int32) zk_iconst_m1 (zd DX8_order 6 rfl) ?_
  exact tz_iret rfl (zd DX8_order 7 rfl)
def QX8_undoes : List (Nat × Instr × Nat) := [(0, .aload_n 0, 1), (1, .iconst 0, 1), (2, .putfield 1, 3), (5, .iload_n 1, 1), (6, .invokestatic 156, 3), (9, .ifCond .ne 5, 3), (12, .iconst (-1), 1), (13, .ireturn, 1), (14, .aload_n 0, 1), (15, .invokevirtual 168, 3), (18, .aload_n 0, 1), (19, .getfield 96, 3), (22, .lstore_n 2, 1), (23, .aload_n 0, 1), (24, .getfield 100, 3), (27, .lstore 4, 2), (29, .iconst 0, 1), (30, .istore 6, 2), (32, .iload 6, 2), (34, .sipush 9999, 3), (37, .if_icmp .gt 88, 3), (40, .aload_n 0, 1), (41, .iload_n 1, 1), (42, .iload 6, 2), (44, .invokevirtual 160, 3), (47, .aload_n 0, 1), (48, .getfield 96, 3), (51, .lload_n 2, 1), (52, .lcmp, 1), (53, .ifCond .ne 17, 3), (56, .aload_n 0, 1), (57, .getfield 100, 3), (60, .lload 4, 2), (62, .lcmp, 1), (63, .ifCond .ne 7, 3), (66, .iconst 1, 1), (67, .goto 4, 3), (70, .iconst 0, 1), (71, .istore 7, 2), (73, .iload 7, 2), (75, .ifCond .eq 36, 3), (78, .aload_n 0, 1), (79, .iload 6, 2), (81, .iload_n 1, 1), (82, .invokevirtual 160, 3), (85, .aload_n 0, 1), (86, .getfield 96, 3), (89, .lload_n 2, 1), (90, .lcmp, 1), (91, .ifCond .ne 17, 3), (94, .aload_n 0, 1), (95, .getfield 100, 3), (98, .lload 4, 2), (100, .lcmp, 1), (101, .ifCond .ne 7, 3), (104, .iconst 1, 1), (105, .goto 4, 3), (108, .iconst 0, 1), (109, .istore 7, 2), (111, .iload 7, 2), (113, .ifCond .eq 6, 3), (116, .iload 6, 2), (118, .ireturn, 1), (119, .iinc 6 1, 3), (122, .goto (-90), 3), (125, .bipush (-2), 2), (127, .ireturn, 1)]
set_option maxRecDepth 100000 in
theorem DX8_undoes : ∀ q ∈ QX8_undoes, decode cX8_undoes q.1 = .ok (q.2.1, q.2.2) := by decide +kernel
abbrev MX8_undoes : zM := (cX8_undoes, "EndSumsModel", 8, (some .int), { frames := 5, cells := 0, slots := 0, locals := 126 })
def fX8_undoes_L32 (x1 : Int32) (x2 : Int64) (x4 : Int64) : Nat → Int32 → zW → Option (Int32 × zW)
  | 0, _, _ => none
  | n + 1, x6, w =>
    if (9999 : Int32) < x6 then
      some ((-2 : Int32), w)
    else
    bd (fX8_joinsTwo x1 x6 w) fun _ w12 =>
    if ¬ (zL w12 74 11) = x2 then
      lt (fun (y7_111 : Int32) (w16 : zW) =>
        if y7_111 = (0 : Int32) then
          fX8_undoes_L32 x1 x2 x4 n (x6 + (1 : Int32)) w16
        else
        some (x6, w16)) fun j16 =>
      if (0 : Int32) = (0 : Int32) then
        j16 (0 : Int32) w12
      else
      bd (fX8_joinsTwo x6 x1 w12) fun _ w19 =>
      if ¬ (zL w19 74 11) = x2 then
        j16 (0 : Int32) w19
      else
      if ¬ (zL w19 74 12) = x4 then
        j16 (0 : Int32) w19
      else
      j16 (1 : Int32) w19
    else
    if ¬ (zL w12 74 12) = x4 then
      lt (fun (y7_111 : Int32) (w25 : zW) =>
        if y7_111 = (0 : Int32) then
          fX8_undoes_L32 x1 x2 x4 n (x6 + (1 : Int32)) w25
        else
        some (x6, w25)) fun j25 =>
      if (0 : Int32) = (0 : Int32) then
        j25 (0 : Int32) w12
      else
      bd (fX8_joinsTwo x6 x1 w12) fun _ w28 =>
      if ¬ (zL w28 74 11) = x2 then
        j25 (0 : Int32) w28
      else
      if ¬ (zL w28 74 12) = x4 then
        j25 (0 : Int32) w28
      else
      j25 (1 : Int32) w28
    else
    lt (fun (y7_111 : Int32) (w33 : zW) =>
      if y7_111 = (0 : Int32) then
        fX8_undoes_L32 x1 x2 x4 n (x6 + (1 : Int32)) w33
      else
      some (x6, w33)) fun j33 =>
    if (1 : Int32) = (0 : Int32) then
      j33 (1 : Int32) w12
    else
    bd (fX8_joinsTwo x6 x1 w12) fun _ w36 =>
    if ¬ (zL w36 74 11) = x2 then
      j33 (0 : Int32) w36
    else
    if ¬ (zL w36 74 12) = x4 then
      j33 (0 : Int32) w36
    else
    j33 (1 : Int32) w36
def fX8_undoes (a1 : Int32) (w : zW) : Option (Int32 × zW) :=
  lt (zsI w 74 0 (0 : Int32)) fun w1 =>
  bd (fX8_isItem a1 w1) fun b4 w2 =>
  if b4 = true then
    bd (fX8_empty w2) fun _ w6 =>
    lt (zL w6 74 11) fun v9 =>
    lt (zL w6 74 12) fun v10 =>
    fX8_undoes_L32 a1 v9 v10 zFU (0 : Int32) w6
  else
  some ((-1 : Int32), w2)
theorem YX8_undoes : zYV yX8_undoes MX8_undoes 1 := ⟨wk_1028, wk_9, ⟨wk_1026, wk_1027⟩, ⟨by decide, by decide, by decide +kernel⟩, rfl, rfl⟩
set_option maxHeartbeats 4000000 in
set_option maxRecDepth 100000 in
theorem lX8_undoes_L32 (x1 : Int32) (x2 : Int64) (x4 : Int64) : ∀ (n : Nat) (x6 : Int32) (w : zW), Tz MX8_undoes (zRet zi) (fX8_undoes_L32 x1 x2 x4 n x6 w) 32 [(0, .ref 74), (1, .int x1), (2, .long x2), (4, .long x4), (6, .int x6)] [] w := by
  intro n
  induction n with
  | zero => intro x6 w; exact tz_eq (fX8_undoes_L32.eq_1 _ _ _ _ _) tz_none
  | succ n ih =>
    intro x6 w
    refine tz_eq (fX8_undoes_L32.eq_2 _ _ _ _ _ _) ?_
    refine tz_iload 4 rfl (zd DX8_undoes 18 rfl) ?_
    refine tz_sipush (9999 : Int32) zk_sipush_9999 (zd DX8_undoes 19 rfl) ?_
    refine tz_icmp_gt 125 (zd DX8_undoes 20 rfl) rfl (fun q11 => ?_) (fun q11 => ?_)
    · refine tz_bipush (-2 : Int32) zk_bipush_m2 (zd DX8_undoes 65 rfl) ?_
      exact tz_iret rfl (zd DX8_undoes 66 rfl)
    refine tz_aload_n 0 rfl (zd DX8_undoes 21 rfl) ?_
    refine tz_iload_n 1 rfl (zd DX8_undoes 22 rfl) ?_
    refine tz_iload 4 rfl (zd DX8_undoes 23 rfl) ?_
    refine tz_cV_n kz8 (zs_74) rfl (rest := []) (YX8_joinsTwo) wk_962 (tX8_joinsTwo x1 x6 w) rfl rfl (Nat.le_of_ble_eq_true rfl) ⟨Nat.le_of_ble_eq_true rfl, Nat.le_of_ble_eq_true rfl⟩ (zd DX8_undoes 24 rfl) (fun v14 w12 e13 => ?_)
    refine tz_aload_n 0 rfl (zd DX8_undoes 25 rfl) ?_
    refine tz_getJ 11 kz8 (zs_74) (by decide) rfl wk_868 (zd DX8_undoes 26 rfl) ?_
    refine tz_lload_n 2 rfl (zd DX8_undoes 27 rfl) ?_
    refine tz_lcmp_ne 70 (zd DX8_undoes 28 rfl) (zd DX8_undoes 29 rfl) rfl (fun q15 => ?_) (fun q15 => ?_)
    · refine tz_iconst (0 : Int32) zk_iconst_0 (zd DX8_undoes 37 rfl) ?_
      refine tz_istore [(7, .int (0 : Int32)), (0, .ref 74), (1, .int x1), (2, .long x2), (4, .long x4), (6, .int x6)] (Nat.le_of_ble_eq_true rfl) rfl (zd DX8_undoes 38 rfl) ?_
      refine tz_iload 0 rfl (zd DX8_undoes 39 rfl) ?_
      refine tz_jp (P := fun j => ∀ (y7_111 : Int32) (w16 : zW), Tz MX8_undoes (zRet zi) (j y7_111 w16) 111 [(0, .ref 74), (1, .int x1), (2, .long x2), (4, .long x4), (6, .int x6), (7, .int y7_111)] [] w16) ?_ (fun j16 hj16 => ?_)
      · intro y7_111 w16
        refine tz_iload 5 rfl (zd DX8_undoes 59 rfl) ?_
        refine tz_if_eq 119 (zd DX8_undoes 60 rfl) rfl (fun q17 => ?_) (fun q17 => ?_)
        · refine tz_iinc 4 (1 : Int32) [(6, .int (x6 + (1 : Int32))), (0, .ref 74), (1, .int x1), (2, .long x2), (4, .long x4), (7, .int y7_111)] rfl zk_iconst_1 (Nat.le_of_ble_eq_true rfl) rfl (zd DX8_undoes 63 rfl) ?_
          refine tz_goto 32 (zd DX8_undoes 64 rfl) rfl ?_
          refine tz_lv (lv2 := [(0, .ref 74), (1, .int x1), (2, .long x2), (4, .long x4), (6, .int (x6 + (1 : Int32)))]) [1, 2, 3, 4, 0] rfl ?_
          exact ih (x6 + (1 : Int32)) w16
        refine tz_iload 4 rfl (zd DX8_undoes 61 rfl) ?_
        exact tz_iret rfl (zd DX8_undoes 62 rfl)
      refine tz_if_eq 111 (zd DX8_undoes 40 rfl) rfl (fun q18 => ?_) (fun q18 => ?_)
      · refine tz_lv (lv2 := [(0, .ref 74), (1, .int x1), (2, .long x2), (4, .long x4), (6, .int x6), (7, .int (0 : Int32))]) [1, 2, 3, 4, 5, 0] rfl ?_
        exact hj16 (0 : Int32) w12
      refine tz_aload_n 1 rfl (zd DX8_undoes 41 rfl) ?_
      refine tz_iload 5 rfl (zd DX8_undoes 42 rfl) ?_
      refine tz_iload_n 2 rfl (zd DX8_undoes 43 rfl) ?_
      refine tz_cV_n kz8 (zs_74) rfl (rest := []) (YX8_joinsTwo) wk_962 (tX8_joinsTwo x6 x1 w12) rfl rfl (Nat.le_of_ble_eq_true rfl) ⟨Nat.le_of_ble_eq_true rfl, Nat.le_of_ble_eq_true rfl⟩ (zd DX8_undoes 44 rfl) (fun v21 w19 e20 => ?_)
      refine tz_aload_n 1 rfl (zd DX8_undoes 45 rfl) ?_
      refine tz_getJ 11 kz8 (zs_74) (by decide) rfl wk_868 (zd DX8_undoes 46 rfl) ?_
      refine tz_lload_n 3 rfl (zd DX8_undoes 47 rfl) ?_
      refine tz_lcmp_ne 108 (zd DX8_undoes 48 rfl) (zd DX8_undoes 49 rfl) rfl (fun q22 => ?_) (fun q22 => ?_)
      · refine tz_iconst (0 : Int32) zk_iconst_0 (zd DX8_undoes 57 rfl) ?_
        refine tz_istore [(7, .int (0 : Int32)), (0, .ref 74), (1, .int x1), (2, .long x2), (4, .long x4), (6, .int x6)] (Nat.le_of_ble_eq_true rfl) rfl (zd DX8_undoes 58 rfl) ?_
        refine tz_lv (lv2 := [(0, .ref 74), (1, .int x1), (2, .long x2), (4, .long x4), (6, .int x6), (7, .int (0 : Int32))]) [1, 2, 3, 4, 5, 0] rfl ?_
        exact hj16 (0 : Int32) w19
      refine tz_aload_n 1 rfl (zd DX8_undoes 50 rfl) ?_
      refine tz_getJ 12 kz8 (zs_74) (by decide) rfl wk_869 (zd DX8_undoes 51 rfl) ?_
      refine tz_lload 4 rfl (zd DX8_undoes 52 rfl) ?_
      refine tz_lcmp_ne 108 (zd DX8_undoes 53 rfl) (zd DX8_undoes 54 rfl) rfl (fun q23 => ?_) (fun q23 => ?_)
      · refine tz_iconst (0 : Int32) zk_iconst_0 (zd DX8_undoes 57 rfl) ?_
        refine tz_istore [(7, .int (0 : Int32)), (0, .ref 74), (1, .int x1), (2, .long x2), (4, .long x4), (6, .int x6)] (Nat.le_of_ble_eq_true rfl) rfl (zd DX8_undoes 58 rfl) ?_
        refine tz_lv (lv2 := [(0, .ref 74), (1, .int x1), (2, .long x2), (4, .long x4), (6, .int x6), (7, .int (0 : Int32))]) [1, 2, 3, 4, 5, 0] rfl ?_
        exact hj16 (0 : Int32) w19
      refine tz_iconst (1 : Int32) zk_iconst_1 (zd DX8_undoes 55 rfl) ?_
      refine tz_goto 109 (zd DX8_undoes 56 rfl) rfl ?_
      refine tz_istore [(7, .int (1 : Int32)), (0, .ref 74), (1, .int x1), (2, .long x2), (4, .long x4), (6, .int x6)] (Nat.le_of_ble_eq_true rfl) rfl (zd DX8_undoes 58 rfl) ?_
      refine tz_lv (lv2 := [(0, .ref 74), (1, .int x1), (2, .long x2), (4, .long x4), (6, .int x6), (7, .int (1 : Int32))]) [1, 2, 3, 4, 5, 0] rfl ?_
      exact hj16 (1 : Int32) w19
    refine tz_aload_n 0 rfl (zd DX8_undoes 30 rfl) ?_
    refine tz_getJ 12 kz8 (zs_74) (by decide) rfl wk_869 (zd DX8_undoes 31 rfl) ?_
    refine tz_lload 3 rfl (zd DX8_undoes 32 rfl) ?_
    refine tz_lcmp_ne 70 (zd DX8_undoes 33 rfl) (zd DX8_undoes 34 rfl) rfl (fun q24 => ?_) (fun q24 => ?_)
    · refine tz_iconst (0 : Int32) zk_iconst_0 (zd DX8_undoes 37 rfl) ?_
      refine tz_istore [(7, .int (0 : Int32)), (0, .ref 74), (1, .int x1), (2, .long x2), (4, .long x4), (6, .int x6)] (Nat.le_of_ble_eq_true rfl) rfl (zd DX8_undoes 38 rfl) ?_
      refine tz_iload 0 rfl (zd DX8_undoes 39 rfl) ?_
      refine tz_jp (P := fun j => ∀ (y7_111 : Int32) (w25 : zW), Tz MX8_undoes (zRet zi) (j y7_111 w25) 111 [(0, .ref 74), (1, .int x1), (2, .long x2), (4, .long x4), (6, .int x6), (7, .int y7_111)] [] w25) ?_ (fun j25 hj25 => ?_)
      · intro y7_111 w25
        refine tz_iload 5 rfl (zd DX8_undoes 59 rfl) ?_
        refine tz_if_eq 119 (zd DX8_undoes 60 rfl) rfl (fun q26 => ?_) (fun q26 => ?_)
        · refine tz_iinc 4 (1 : Int32) [(6, .int (x6 + (1 : Int32))), (0, .ref 74), (1, .int x1), (2, .long x2), (4, .long x4), (7, .int y7_111)] rfl zk_iconst_1 (Nat.le_of_ble_eq_true rfl) rfl (zd DX8_undoes 63 rfl) ?_
          refine tz_goto 32 (zd DX8_undoes 64 rfl) rfl ?_
          refine tz_lv (lv2 := [(0, .ref 74), (1, .int x1), (2, .long x2), (4, .long x4), (6, .int (x6 + (1 : Int32)))]) [1, 2, 3, 4, 0] rfl ?_
          exact ih (x6 + (1 : Int32)) w25
        refine tz_iload 4 rfl (zd DX8_undoes 61 rfl) ?_
        exact tz_iret rfl (zd DX8_undoes 62 rfl)
      refine tz_if_eq 111 (zd DX8_undoes 40 rfl) rfl (fun q27 => ?_) (fun q27 => ?_)
      · refine tz_lv (lv2 := [(0, .ref 74), (1, .int x1), (2, .long x2), (4, .long x4), (6, .int x6), (7, .int (0 : Int32))]) [1, 2, 3, 4, 5, 0] rfl ?_
        exact hj25 (0 : Int32) w12
      refine tz_aload_n 1 rfl (zd DX8_undoes 41 rfl) ?_
      refine tz_iload 5 rfl (zd DX8_undoes 42 rfl) ?_
      refine tz_iload_n 2 rfl (zd DX8_undoes 43 rfl) ?_
      refine tz_cV_n kz8 (zs_74) rfl (rest := []) (YX8_joinsTwo) wk_962 (tX8_joinsTwo x6 x1 w12) rfl rfl (Nat.le_of_ble_eq_true rfl) ⟨Nat.le_of_ble_eq_true rfl, Nat.le_of_ble_eq_true rfl⟩ (zd DX8_undoes 44 rfl) (fun v30 w28 e29 => ?_)
      refine tz_aload_n 1 rfl (zd DX8_undoes 45 rfl) ?_
      refine tz_getJ 11 kz8 (zs_74) (by decide) rfl wk_868 (zd DX8_undoes 46 rfl) ?_
      refine tz_lload_n 3 rfl (zd DX8_undoes 47 rfl) ?_
      refine tz_lcmp_ne 108 (zd DX8_undoes 48 rfl) (zd DX8_undoes 49 rfl) rfl (fun q31 => ?_) (fun q31 => ?_)
      · refine tz_iconst (0 : Int32) zk_iconst_0 (zd DX8_undoes 57 rfl) ?_
        refine tz_istore [(7, .int (0 : Int32)), (0, .ref 74), (1, .int x1), (2, .long x2), (4, .long x4), (6, .int x6)] (Nat.le_of_ble_eq_true rfl) rfl (zd DX8_undoes 58 rfl) ?_
        refine tz_lv (lv2 := [(0, .ref 74), (1, .int x1), (2, .long x2), (4, .long x4), (6, .int x6), (7, .int (0 : Int32))]) [1, 2, 3, 4, 5, 0] rfl ?_
        exact hj25 (0 : Int32) w28
      refine tz_aload_n 1 rfl (zd DX8_undoes 50 rfl) ?_
      refine tz_getJ 12 kz8 (zs_74) (by decide) rfl wk_869 (zd DX8_undoes 51 rfl) ?_
      refine tz_lload 4 rfl (zd DX8_undoes 52 rfl) ?_
      refine tz_lcmp_ne 108 (zd DX8_undoes 53 rfl) (zd DX8_undoes 54 rfl) rfl (fun q32 => ?_) (fun q32 => ?_)
      · refine tz_iconst (0 : Int32) zk_iconst_0 (zd DX8_undoes 57 rfl) ?_
        refine tz_istore [(7, .int (0 : Int32)), (0, .ref 74), (1, .int x1), (2, .long x2), (4, .long x4), (6, .int x6)] (Nat.le_of_ble_eq_true rfl) rfl (zd DX8_undoes 58 rfl) ?_
        refine tz_lv (lv2 := [(0, .ref 74), (1, .int x1), (2, .long x2), (4, .long x4), (6, .int x6), (7, .int (0 : Int32))]) [1, 2, 3, 4, 5, 0] rfl ?_
        exact hj25 (0 : Int32) w28
      refine tz_iconst (1 : Int32) zk_iconst_1 (zd DX8_undoes 55 rfl) ?_
      refine tz_goto 109 (zd DX8_undoes 56 rfl) rfl ?_
      refine tz_istore [(7, .int (1 : Int32)), (0, .ref 74), (1, .int x1), (2, .long x2), (4, .long x4), (6, .int x6)] (Nat.le_of_ble_eq_true rfl) rfl (zd DX8_undoes 58 rfl) ?_
      refine tz_lv (lv2 := [(0, .ref 74), (1, .int x1), (2, .long x2), (4, .long x4), (6, .int x6), (7, .int (1 : Int32))]) [1, 2, 3, 4, 5, 0] rfl ?_
      exact hj25 (1 : Int32) w28
    refine tz_iconst (1 : Int32) zk_iconst_1 (zd DX8_undoes 35 rfl) ?_
    refine tz_goto 71 (zd DX8_undoes 36 rfl) rfl ?_
    refine tz_istore [(7, .int (1 : Int32)), (0, .ref 74), (1, .int x1), (2, .long x2), (4, .long x4), (6, .int x6)] (Nat.le_of_ble_eq_true rfl) rfl (zd DX8_undoes 38 rfl) ?_
    refine tz_iload 0 rfl (zd DX8_undoes 39 rfl) ?_
    refine tz_jp (P := fun j => ∀ (y7_111 : Int32) (w33 : zW), Tz MX8_undoes (zRet zi) (j y7_111 w33) 111 [(0, .ref 74), (1, .int x1), (2, .long x2), (4, .long x4), (6, .int x6), (7, .int y7_111)] [] w33) ?_ (fun j33 hj33 => ?_)
    · intro y7_111 w33
      refine tz_iload 5 rfl (zd DX8_undoes 59 rfl) ?_
      refine tz_if_eq 119 (zd DX8_undoes 60 rfl) rfl (fun q34 => ?_) (fun q34 => ?_)
      · refine tz_iinc 4 (1 : Int32) [(6, .int (x6 + (1 : Int32))), (0, .ref 74), (1, .int x1), (2, .long x2), (4, .long x4), (7, .int y7_111)] rfl zk_iconst_1 (Nat.le_of_ble_eq_true rfl) rfl (zd DX8_undoes 63 rfl) ?_
        refine tz_goto 32 (zd DX8_undoes 64 rfl) rfl ?_
        refine tz_lv (lv2 := [(0, .ref 74), (1, .int x1), (2, .long x2), (4, .long x4), (6, .int (x6 + (1 : Int32)))]) [1, 2, 3, 4, 0] rfl ?_
        exact ih (x6 + (1 : Int32)) w33
      refine tz_iload 4 rfl (zd DX8_undoes 61 rfl) ?_
      exact tz_iret rfl (zd DX8_undoes 62 rfl)
    refine tz_if_eq 111 (zd DX8_undoes 40 rfl) rfl (fun q35 => ?_) (fun q35 => ?_)
    · refine tz_lv (lv2 := [(0, .ref 74), (1, .int x1), (2, .long x2), (4, .long x4), (6, .int x6), (7, .int (1 : Int32))]) [1, 2, 3, 4, 5, 0] rfl ?_
      exact hj33 (1 : Int32) w12
    refine tz_aload_n 1 rfl (zd DX8_undoes 41 rfl) ?_
    refine tz_iload 5 rfl (zd DX8_undoes 42 rfl) ?_
    refine tz_iload_n 2 rfl (zd DX8_undoes 43 rfl) ?_
    refine tz_cV_n kz8 (zs_74) rfl (rest := []) (YX8_joinsTwo) wk_962 (tX8_joinsTwo x6 x1 w12) rfl rfl (Nat.le_of_ble_eq_true rfl) ⟨Nat.le_of_ble_eq_true rfl, Nat.le_of_ble_eq_true rfl⟩ (zd DX8_undoes 44 rfl) (fun v38 w36 e37 => ?_)
    refine tz_aload_n 1 rfl (zd DX8_undoes 45 rfl) ?_
    refine tz_getJ 11 kz8 (zs_74) (by decide) rfl wk_868 (zd DX8_undoes 46 rfl) ?_
    refine tz_lload_n 3 rfl (zd DX8_undoes 47 rfl) ?_
    refine tz_lcmp_ne 108 (zd DX8_undoes 48 rfl) (zd DX8_undoes 49 rfl) rfl (fun q39 => ?_) (fun q39 => ?_)
    · refine tz_iconst (0 : Int32) zk_iconst_0 (zd DX8_undoes 57 rfl) ?_
      refine tz_istore [(7, .int (0 : Int32)), (0, .ref 74), (1, .int x1), (2, .long x2), (4, .long x4), (6, .int x6)] (Nat.le_of_ble_eq_true rfl) rfl (zd DX8_undoes 58 rfl) ?_
      refine tz_lv (lv2 := [(0, .ref 74), (1, .int x1), (2, .long x2), (4, .long x4), (6, .int x6), (7, .int (0 : Int32))]) [1, 2, 3, 4, 5, 0] rfl ?_
      exact hj33 (0 : Int32) w36
    refine tz_aload_n 1 rfl (zd DX8_undoes 50 rfl) ?_
    refine tz_getJ 12 kz8 (zs_74) (by decide) rfl wk_869 (zd DX8_undoes 51 rfl) ?_
    refine tz_lload 4 rfl (zd DX8_undoes 52 rfl) ?_
    refine tz_lcmp_ne 108 (zd DX8_undoes 53 rfl) (zd DX8_undoes 54 rfl) rfl (fun q40 => ?_) (fun q40 => ?_)
    · refine tz_iconst (0 : Int32) zk_iconst_0 (zd DX8_undoes 57 rfl) ?_
      refine tz_istore [(7, .int (0 : Int32)), (0, .ref 74), (1, .int x1), (2, .long x2), (4, .long x4), (6, .int x6)] (Nat.le_of_ble_eq_true rfl) rfl (zd DX8_undoes 58 rfl) ?_
      refine tz_lv (lv2 := [(0, .ref 74), (1, .int x1), (2, .long x2), (4, .long x4), (6, .int x6), (7, .int (0 : Int32))]) [1, 2, 3, 4, 5, 0] rfl ?_
      exact hj33 (0 : Int32) w36
    refine tz_iconst (1 : Int32) zk_iconst_1 (zd DX8_undoes 55 rfl) ?_
    refine tz_goto 109 (zd DX8_undoes 56 rfl) rfl ?_
    refine tz_istore [(7, .int (1 : Int32)), (0, .ref 74), (1, .int x1), (2, .long x2), (4, .long x4), (6, .int x6)] (Nat.le_of_ble_eq_true rfl) rfl (zd DX8_undoes 58 rfl) ?_
    refine tz_lv (lv2 := [(0, .ref 74), (1, .int x1), (2, .long x2), (4, .long x4), (6, .int x6), (7, .int (1 : Int32))]) [1, 2, 3, 4, 5, 0] rfl ?_
    exact hj33 (1 : Int32) w36
set_option maxHeartbeats 4000000 in
set_option maxRecDepth 100000 in
theorem tX8_undoes (a1 : Int32) (w : zW) : Sm yX8_undoes MX8_undoes zi [.ref 74, .int a1] w (fX8_undoes a1 w) := by
  refine Sm_of (lv0 := [(0, .ref 74), (1, .int a1)]) (by decide) rfl (fun _ => Nat.le_of_ble_eq_true rfl) rfl ?_
  unfold fX8_undoes
  refine tz_aload_n 0 rfl (zd DX8_undoes 0 rfl) ?_
  refine tz_iconst (0 : Int32) zk_iconst_0 (zd DX8_undoes 1 rfl) ?_
  refine tz_putI 0 kz8 (zs_74) (by decide) rfl rfl wk_857 (zd DX8_undoes 2 rfl) (fun w1 => ?_)
  refine tz_iload_n 1 rfl (zd DX8_undoes 3 rfl) ?_
  refine tz_cS_z (rest := []) (YX8_isItem) wk_958 (tX8_isItem a1 w1) rfl rfl (Nat.le_of_ble_eq_true rfl) ⟨Nat.le_of_ble_eq_true rfl, Nat.le_of_ble_eq_true rfl⟩ (zd DX8_undoes 4 rfl) (fun b4 w2 e3 => ?_)
  refine tz_bif_ne 14 (zd DX8_undoes 5 rfl) rfl (fun q5 => ?_) (fun q5 => ?_)
  · refine tz_aload_n 0 rfl (zd DX8_undoes 8 rfl) ?_
    refine tz_cV_n kz8 (zs_74) rfl (rest := []) (YX8_empty) wk_1015 (tX8_empty w2) rfl rfl (Nat.le_of_ble_eq_true rfl) ⟨Nat.le_of_ble_eq_true rfl, Nat.le_of_ble_eq_true rfl⟩ (zd DX8_undoes 9 rfl) (fun v8 w6 e7 => ?_)
    refine tz_aload_n 0 rfl (zd DX8_undoes 10 rfl) ?_
    refine tz_getJ 11 kz8 (zs_74) (by decide) rfl wk_868 (zd DX8_undoes 11 rfl) ?_
    refine tz_ltl (fun v9 => ?_)
    refine tz_lstore_n [(2, .long v9), (0, .ref 74), (1, .int a1)] (Nat.le_of_ble_eq_true rfl) rfl (zd DX8_undoes 12 rfl) ?_
    refine tz_aload_n 1 rfl (zd DX8_undoes 13 rfl) ?_
    refine tz_getJ 12 kz8 (zs_74) (by decide) rfl wk_869 (zd DX8_undoes 14 rfl) ?_
    refine tz_ltl (fun v10 => ?_)
    refine tz_lstore [(4, .long v10), (2, .long v9), (0, .ref 74), (1, .int a1)] (Nat.le_of_ble_eq_true rfl) rfl (zd DX8_undoes 15 rfl) ?_
    refine tz_iconst (0 : Int32) zk_iconst_0 (zd DX8_undoes 16 rfl) ?_
    refine tz_istore [(6, .int (0 : Int32)), (4, .long v10), (2, .long v9), (0, .ref 74), (1, .int a1)] (Nat.le_of_ble_eq_true rfl) rfl (zd DX8_undoes 17 rfl) ?_
    refine tz_lv (lv2 := [(0, .ref 74), (1, .int a1), (2, .long v9), (4, .long v10), (6, .int (0 : Int32))]) [3, 4, 2, 1, 0] rfl ?_
    exact lX8_undoes_L32 a1 v9 v10 zFU (0 : Int32) w6
  refine tz_iconst (-1 : Int32) zk_iconst_m1 (zd DX8_undoes 6 rfl) ?_
  exact tz_iret rfl (zd DX8_undoes 7 rfl)
def QX8_isLine : List (Nat × Instr × Nat) := [(0, .iload_n 0, 1), (1, .i2l, 1), (2, .lconst 0, 1), (3, .ldc2_w 176, 3), (6, .invokestatic 21, 3), (9, .ireturn, 1)]
set_option maxRecDepth 100000 in
theorem DX8_isLine : ∀ q ∈ QX8_isLine, decode cX8_isLine q.1 = .ok (q.2.1, q.2.2) := by decide +kernel
abbrev MX8_isLine : zM := (cX8_isLine, "EndSumsModel", 1, (some .boolean), { frames := 1, cells := 0, slots := 0, locals := 25 })
def fX8_isLine (a0 : Int32) (w : zW) : Option (Bool × zW) :=
  bd (fX8_in (a0).toInt64 (0 : Int64) (3 : Int64) w) fun b3 w1 =>
  some (b3, w1)
theorem YX8_isLine : zYS yX8_isLine MX8_isLine 1 := ⟨wk_1106, wk_9, wk_1105, ⟨by decide, by decide, by decide +kernel⟩, rfl, rfl⟩
set_option maxHeartbeats 4000000 in
set_option maxRecDepth 100000 in
theorem tX8_isLine (a0 : Int32) (w : zW) : Sm yX8_isLine MX8_isLine zz [.int a0] w (fX8_isLine a0 w) := by
  refine Sm_of (lv0 := [(0, .int a0)]) (by decide) rfl (fun _ => Nat.le_of_ble_eq_true rfl) rfl ?_
  unfold fX8_isLine
  refine tz_iload_n 0 rfl (zd DX8_isLine 0 rfl) ?_
  refine tz_i2l (zd DX8_isLine 1 rfl) ?_
  refine tz_lconst (0 : Int64) rfl (zd DX8_isLine 2 rfl) ?_
  refine tz_ldc2_w wk_1107 (zd DX8_isLine 3 rfl) ?_
  refine tz_cS_z (rest := []) (YX8_in) wk_848 (tX8_in (a0).toInt64 (0 : Int64) (3 : Int64) w) rfl rfl (Nat.le_of_ble_eq_true rfl) ⟨Nat.le_of_ble_eq_true rfl, Nat.le_of_ble_eq_true rfl⟩ (zd DX8_isLine 4 rfl) (fun b3 w1 e2 => ?_)
  exact tz_zret rfl (zd DX8_isLine 5 rfl)
def QX8_isEnd : List (Nat × Instr × Nat) := [(0, .iload_n 0, 1), (1, .i2l, 1), (2, .lconst 0, 1), (3, .lconst 1, 1), (4, .invokestatic 21, 3), (7, .ireturn, 1)]
set_option maxRecDepth 100000 in
theorem DX8_isEnd : ∀ q ∈ QX8_isEnd, decode cX8_isEnd q.1 = .ok (q.2.1, q.2.2) := by decide +kernel
abbrev MX8_isEnd : zM := (cX8_isEnd, "EndSumsModel", 1, (some .boolean), { frames := 1, cells := 0, slots := 0, locals := 25 })
def fX8_isEnd (a0 : Int32) (w : zW) : Option (Bool × zW) :=
  bd (fX8_in (a0).toInt64 (0 : Int64) (1 : Int64) w) fun b3 w1 =>
  some (b3, w1)
theorem YX8_isEnd : zYS yX8_isEnd MX8_isEnd 1 := ⟨wk_1110, wk_9, wk_1109, ⟨by decide, by decide, by decide +kernel⟩, rfl, rfl⟩
set_option maxHeartbeats 4000000 in
set_option maxRecDepth 100000 in
theorem tX8_isEnd (a0 : Int32) (w : zW) : Sm yX8_isEnd MX8_isEnd zz [.int a0] w (fX8_isEnd a0 w) := by
  refine Sm_of (lv0 := [(0, .int a0)]) (by decide) rfl (fun _ => Nat.le_of_ble_eq_true rfl) rfl ?_
  unfold fX8_isEnd
  refine tz_iload_n 0 rfl (zd DX8_isEnd 0 rfl) ?_
  refine tz_i2l (zd DX8_isEnd 1 rfl) ?_
  refine tz_lconst (0 : Int64) rfl (zd DX8_isEnd 2 rfl) ?_
  refine tz_lconst (1 : Int64) rfl (zd DX8_isEnd 3 rfl) ?_
  refine tz_cS_z (rest := []) (YX8_in) wk_848 (tX8_in (a0).toInt64 (0 : Int64) (1 : Int64) w) rfl rfl (Nat.le_of_ble_eq_true rfl) ⟨Nat.le_of_ble_eq_true rfl, Nat.le_of_ble_eq_true rfl⟩ (zd DX8_isEnd 4 rfl) (fun b3 w1 e2 => ?_)
  exact tz_zret rfl (zd DX8_isEnd 5 rfl)
def QX8_sizeOf : List (Nat × Instr × Nat) := [(0, .aload_n 0, 1), (1, .getfield 66, 3), (4, .iconst 2, 1), (5, .iload_n 1, 1), (6, .imul, 1), (7, .iaload, 1), (8, .aload_n 0, 1), (9, .getfield 66, 3), (12, .iconst 2, 1), (13, .iload_n 1, 1), (14, .imul, 1), (15, .iconst 1, 1), (16, .iadd, 1), (17, .iaload, 1), (18, .iadd, 1), (19, .ireturn, 1)]
set_option maxRecDepth 100000 in
theorem DX8_sizeOf : ∀ q ∈ QX8_sizeOf, decode cX8_sizeOf q.1 = .ok (q.2.1, q.2.2) := by decide +kernel
abbrev MX8_sizeOf : zM := (cX8_sizeOf, "EndSumsModel", 2, (some .int), { frames := 0, cells := 0, slots := 0, locals := 0 })
def fX8_sizeOf (a1 : Int32) (w : zW) : Option (Int32 × zW) :=
  zg (zin ((2 : Int32) * a1) 10) <|
  zg (zin (((2 : Int32) * a1) + (1 : Int32)) 10) <|
  some (((zI w 83 ((2 : Int32) * a1).toNatClampNeg) + (zI w 83 (((2 : Int32) * a1) + (1 : Int32)).toNatClampNeg)), w)
theorem YX8_sizeOf : zYV yX8_sizeOf MX8_sizeOf 1 := ⟨wk_1045, wk_9, ⟨wk_1044, ws_87⟩, ⟨by decide, by decide, by decide +kernel⟩, rfl, rfl⟩
set_option maxHeartbeats 4000000 in
set_option maxRecDepth 100000 in
theorem tX8_sizeOf (a1 : Int32) (w : zW) : Sm yX8_sizeOf MX8_sizeOf zi [.ref 74, .int a1] w (fX8_sizeOf a1 w) := by
  refine Sm_of (lv0 := [(0, .ref 74), (1, .int a1)]) (by decide) rfl (fun _ => Nat.le_of_ble_eq_true rfl) rfl ?_
  unfold fX8_sizeOf
  refine tz_aload_n 0 rfl (zd DX8_sizeOf 0 rfl) ?_
  refine tz_getR 83 18 kz8 (zs_74) (by decide) (by decide) rfl wk_875 (zd DX8_sizeOf 1 rfl) ?_
  refine tz_iconst (2 : Int32) zk_iconst_2 (zd DX8_sizeOf 2 rfl) ?_
  refine tz_iload_n 1 rfl (zd DX8_sizeOf 3 rfl) ?_
  refine tz_imul (zd DX8_sizeOf 4 rfl) ?_
  refine tz_iald (zs_83.1) (zs_83.2) (zd DX8_sizeOf 5 rfl) ?_
  refine tz_aload_n 0 rfl (zd DX8_sizeOf 6 rfl) ?_
  refine tz_getR 83 18 kz8 (zs_74) (by decide) (by decide) rfl wk_875 (zd DX8_sizeOf 7 rfl) ?_
  refine tz_iconst (2 : Int32) zk_iconst_2 (zd DX8_sizeOf 8 rfl) ?_
  refine tz_iload_n 1 rfl (zd DX8_sizeOf 9 rfl) ?_
  refine tz_imul (zd DX8_sizeOf 10 rfl) ?_
  refine tz_iconst (1 : Int32) zk_iconst_1 (zd DX8_sizeOf 11 rfl) ?_
  refine tz_iadd (zd DX8_sizeOf 12 rfl) ?_
  refine tz_iald (zs_83.1) (zs_83.2) (zd DX8_sizeOf 13 rfl) ?_
  refine tz_iadd (zd DX8_sizeOf 14 rfl) ?_
  exact tz_iret rfl (zd DX8_sizeOf 15 rfl)
def QX8_place : List (Nat × Instr × Nat) := [(0, .bipush 64, 2), (2, .iload_n 0, 1), (3, .imul, 1), (4, .iload_n 1, 1), (5, .iadd, 1), (6, .ireturn, 1)]
set_option maxRecDepth 100000 in
theorem DX8_place : ∀ q ∈ QX8_place, decode cX8_place q.1 = .ok (q.2.1, q.2.2) := by decide +kernel
abbrev MX8_place : zM := (cX8_place, "EndSumsModel", 2, (some .int), { frames := 0, cells := 0, slots := 0, locals := 0 })
def fX8_place (a0 : Int32) (a1 : Int32) (w : zW) : Option (Int32 × zW) :=
  some ((((64 : Int32) * a0) + a1), w)
theorem YX8_place : zYS yX8_place MX8_place 2 := ⟨wk_1056, wk_9, wk_1055, ⟨by decide, by decide, by decide +kernel⟩, rfl, rfl⟩
set_option maxHeartbeats 4000000 in
set_option maxRecDepth 100000 in
theorem tX8_place (a0 : Int32) (a1 : Int32) (w : zW) : Sm yX8_place MX8_place zi [.int a0, .int a1] w (fX8_place a0 a1 w) := by
  refine Sm_of (lv0 := [(0, .int a0), (1, .int a1)]) (by decide) rfl (fun _ => Nat.le_of_ble_eq_true rfl) rfl ?_
  unfold fX8_place
  refine tz_bipush (64 : Int32) zk_bipush_64 (zd DX8_place 0 rfl) ?_
  refine tz_iload_n 0 rfl (zd DX8_place 1 rfl) ?_
  refine tz_imul (zd DX8_place 2 rfl) ?_
  refine tz_iload_n 1 rfl (zd DX8_place 3 rfl) ?_
  refine tz_iadd (zd DX8_place 4 rfl) ?_
  exact tz_iret rfl (zd DX8_place 5 rfl)
def QX8_placeOf : List (Nat × Instr × Nat) := [(0, .aload_n 0, 1), (1, .getfield 66, 3), (4, .iconst 2, 1), (5, .iload_n 1, 1), (6, .imul, 1), (7, .iaload, 1), (8, .istore_n 3, 1), (9, .iload_n 2, 1), (10, .iload_n 3, 1), (11, .if_icmp .ge 17, 3), (14, .iconst 2, 1), (15, .iload_n 1, 1), (16, .imul, 1), (17, .iload_n 3, 1), (18, .iconst 1, 1), (19, .isub, 1), (20, .iload_n 2, 1), (21, .isub, 1), (22, .invokestatic 178, 3), (25, .goto 14, 3), (28, .iconst 2, 1), (29, .iload_n 1, 1), (30, .imul, 1), (31, .iconst 1, 1), (32, .iadd, 1), (33, .iload_n 2, 1), (34, .iload_n 3, 1), (35, .isub, 1), (36, .invokestatic 178, 3), (39, .ireturn, 1)]
set_option maxRecDepth 100000 in
theorem DX8_placeOf : ∀ q ∈ QX8_placeOf, decode cX8_placeOf q.1 = .ok (q.2.1, q.2.2) := by decide +kernel
abbrev MX8_placeOf : zM := (cX8_placeOf, "EndSumsModel", 4, (some .int), { frames := 1, cells := 0, slots := 0, locals := 21 })
def fX8_placeOf (a1 : Int32) (a2 : Int32) (w : zW) : Option (Int32 × zW) :=
  zg (zin ((2 : Int32) * a1) 10) <|
  lt (zI w 83 ((2 : Int32) * a1).toNatClampNeg) fun v1 =>
  if v1 ≤ a2 then
    bd (fX8_place (((2 : Int32) * a1) + (1 : Int32)) (a2 - v1) w) fun v5 w3 =>
    some (v5, w3)
  else
  bd (fX8_place ((2 : Int32) * a1) ((v1 - (1 : Int32)) - a2) w) fun v8 w6 =>
  some (v8, w6)
theorem YX8_placeOf : zYV yX8_placeOf MX8_placeOf 2 := ⟨wk_1053, wk_9, ⟨wk_1052, ws_89⟩, ⟨by decide, by decide, by decide +kernel⟩, rfl, rfl⟩
set_option maxHeartbeats 4000000 in
set_option maxRecDepth 100000 in
theorem tX8_placeOf (a1 : Int32) (a2 : Int32) (w : zW) : Sm yX8_placeOf MX8_placeOf zi [.ref 74, .int a1, .int a2] w (fX8_placeOf a1 a2 w) := by
  refine Sm_of (lv0 := [(0, .ref 74), (1, .int a1), (2, .int a2)]) (by decide) rfl (fun _ => Nat.le_of_ble_eq_true rfl) rfl ?_
  unfold fX8_placeOf
  refine tz_aload_n 0 rfl (zd DX8_placeOf 0 rfl) ?_
  refine tz_getR 83 18 kz8 (zs_74) (by decide) (by decide) rfl wk_875 (zd DX8_placeOf 1 rfl) ?_
  refine tz_iconst (2 : Int32) zk_iconst_2 (zd DX8_placeOf 2 rfl) ?_
  refine tz_iload_n 1 rfl (zd DX8_placeOf 3 rfl) ?_
  refine tz_imul (zd DX8_placeOf 4 rfl) ?_
  refine tz_iald (zs_83.1) (zs_83.2) (zd DX8_placeOf 5 rfl) ?_
  refine tz_lti (fun v1 => ?_)
  refine tz_istore_n [(3, .int v1), (0, .ref 74), (1, .int a1), (2, .int a2)] (Nat.le_of_ble_eq_true rfl) rfl (zd DX8_placeOf 6 rfl) ?_
  refine tz_iload_n 3 rfl (zd DX8_placeOf 7 rfl) ?_
  refine tz_iload_n 0 rfl (zd DX8_placeOf 8 rfl) ?_
  refine tz_icmp_ge 28 (zd DX8_placeOf 9 rfl) rfl (fun q2 => ?_) (fun q2 => ?_)
  · refine tz_iconst (2 : Int32) zk_iconst_2 (zd DX8_placeOf 20 rfl) ?_
    refine tz_iload_n 2 rfl (zd DX8_placeOf 21 rfl) ?_
    refine tz_imul (zd DX8_placeOf 22 rfl) ?_
    refine tz_iconst (1 : Int32) zk_iconst_1 (zd DX8_placeOf 23 rfl) ?_
    refine tz_iadd (zd DX8_placeOf 24 rfl) ?_
    refine tz_iload_n 3 rfl (zd DX8_placeOf 25 rfl) ?_
    refine tz_iload_n 0 rfl (zd DX8_placeOf 26 rfl) ?_
    refine tz_isub (zd DX8_placeOf 27 rfl) ?_
    refine tz_cS_i (rest := []) (YX8_place) wk_1054 (tX8_place (((2 : Int32) * a1) + (1 : Int32)) (a2 - v1) w) rfl rfl (Nat.le_of_ble_eq_true rfl) ⟨Nat.le_of_ble_eq_true rfl, Nat.le_of_ble_eq_true rfl⟩ (zd DX8_placeOf 28 rfl) (fun v5 w3 e4 => ?_)
    exact tz_iret rfl (zd DX8_placeOf 29 rfl)
  refine tz_iconst (2 : Int32) zk_iconst_2 (zd DX8_placeOf 10 rfl) ?_
  refine tz_iload_n 2 rfl (zd DX8_placeOf 11 rfl) ?_
  refine tz_imul (zd DX8_placeOf 12 rfl) ?_
  refine tz_iload_n 0 rfl (zd DX8_placeOf 13 rfl) ?_
  refine tz_iconst (1 : Int32) zk_iconst_1 (zd DX8_placeOf 14 rfl) ?_
  refine tz_isub (zd DX8_placeOf 15 rfl) ?_
  refine tz_iload_n 3 rfl (zd DX8_placeOf 16 rfl) ?_
  refine tz_isub (zd DX8_placeOf 17 rfl) ?_
  refine tz_cS_i (rest := []) (YX8_place) wk_1054 (tX8_place ((2 : Int32) * a1) ((v1 - (1 : Int32)) - a2) w) rfl rfl (Nat.le_of_ble_eq_true rfl) ⟨Nat.le_of_ble_eq_true rfl, Nat.le_of_ble_eq_true rfl⟩ (zd DX8_placeOf 18 rfl) (fun v8 w6 e7 => ?_)
  refine tz_goto 39 (zd DX8_placeOf 19 rfl) rfl ?_
  exact tz_iret rfl (zd DX8_placeOf 29 rfl)
def QX8_itemAt : List (Nat × Instr × Nat) := [(0, .aload_n 0, 1), (1, .getfield 72, 3), (4, .aload_n 0, 1), (5, .iload_n 1, 1), (6, .iload_n 2, 1), (7, .invokevirtual 181, 3), (10, .iaload, 1), (11, .ireturn, 1)]
set_option maxRecDepth 100000 in
theorem DX8_itemAt : ∀ q ∈ QX8_itemAt, decode cX8_itemAt q.1 = .ok (q.2.1, q.2.2) := by decide +kernel
abbrev MX8_itemAt : zM := (cX8_itemAt, "EndSumsModel", 3, (some .int), { frames := 2, cells := 0, slots := 0, locals := 44 })
def fX8_itemAt (a1 : Int32) (a2 : Int32) (w : zW) : Option (Int32 × zW) :=
  bd (fX8_placeOf a1 a2 w) fun v3 w1 =>
  zg (zin v3 640) <|
  some ((zI w1 85 v3.toNatClampNeg), w1)
theorem YX8_itemAt : zYV yX8_itemAt MX8_itemAt 2 := ⟨wk_1049, wk_9, ⟨wk_1048, ws_88⟩, ⟨by decide, by decide, by decide +kernel⟩, rfl, rfl⟩
set_option maxHeartbeats 4000000 in
set_option maxRecDepth 100000 in
theorem tX8_itemAt (a1 : Int32) (a2 : Int32) (w : zW) : Sm yX8_itemAt MX8_itemAt zi [.ref 74, .int a1, .int a2] w (fX8_itemAt a1 a2 w) := by
  refine Sm_of (lv0 := [(0, .ref 74), (1, .int a1), (2, .int a2)]) (by decide) rfl (fun _ => Nat.le_of_ble_eq_true rfl) rfl ?_
  unfold fX8_itemAt
  refine tz_aload_n 0 rfl (zd DX8_itemAt 0 rfl) ?_
  refine tz_getR 85 20 kz8 (zs_74) (by decide) (by decide) rfl wk_877 (zd DX8_itemAt 1 rfl) ?_
  refine tz_aload_n 0 rfl (zd DX8_itemAt 2 rfl) ?_
  refine tz_iload_n 1 rfl (zd DX8_itemAt 3 rfl) ?_
  refine tz_iload_n 2 rfl (zd DX8_itemAt 4 rfl) ?_
  refine tz_cV_i kz8 (zs_74) rfl (rest := [.ref 85]) (YX8_placeOf) wk_1050 (tX8_placeOf a1 a2 w) rfl rfl (Nat.le_of_ble_eq_true rfl) ⟨Nat.le_of_ble_eq_true rfl, Nat.le_of_ble_eq_true rfl⟩ (zd DX8_itemAt 5 rfl) (fun v3 w1 e2 => ?_)
  refine tz_iald (zs_85.1) (zs_85.2) (zd DX8_itemAt 6 rfl) ?_
  exact tz_iret rfl (zd DX8_itemAt 7 rfl)
def QX8_makes : List (Nat × Instr × Nat) := [(0, .iload_n 1, 1), (1, .aload_n 0, 1), (2, .getfield 66, 3), (5, .iload_n 1, 1), (6, .iaload, 1), (7, .invokestatic 178, 3), (10, .istore_n 3, 1), (11, .aload_n 0, 1), (12, .iload_n 2, 1), (13, .invokevirtual 148, 3), (16, .aload_n 0, 1), (17, .getfield 66, 3), (20, .iload_n 1, 1), (21, .iaload, 1), (22, .ifCond .le 64, 3), (25, .aload_n 0, 1), (26, .getfield 75, 3), (29, .iload_n 3, 1), (30, .iconst 1, 1), (31, .isub, 1), (32, .laload, 1), (33, .lstore 4, 2), (35, .aload_n 0, 1), (36, .getfield 78, 3), (39, .iload_n 3, 1), (40, .iconst 1, 1), (41, .isub, 1), (42, .laload, 1), (43, .lstore 6, 2), (45, .iload_n 1, 1), (46, .iconst 2, 1), (47, .irem, 1), (48, .ifCond .ne 22, 3), (51, .aload_n 0, 1), (52, .aload_n 0, 1), (53, .getfield 96, 3), (56, .aload_n 0, 1), (57, .getfield 100, 3), (60, .lload 4, 2), (62, .lload 6, 2), (64, .invokevirtual 152, 3), (67, .goto 19, 3), (70, .aload_n 0, 1), (71, .lload 4, 2), (73, .lload 6, 2), (75, .aload_n 0, 1), (76, .getfield 96, 3), (79, .aload_n 0, 1), (80, .getfield 100, 3), (83, .invokevirtual 152, 3), (86, .aload_n 0, 1), (87, .getfield 72, 3), (90, .iload_n 3, 1), (91, .iload_n 2, 1), (92, .iastore, 1), (93, .aload_n 0, 1), (94, .getfield 75, 3), (97, .iload_n 3, 1), (98, .aload_n 0, 1), (99, .getfield 96, 3), (102, .lastore, 1), (103, .aload_n 0, 1), (104, .getfield 78, 3), (107, .iload_n 3, 1), (108, .aload_n 0, 1), (109, .getfield 100, 3), (112, .lastore, 1), (113, .aload_n 0, 1), (114, .getfield 69, 3), (117, .iload_n 3, 1), (118, .aload_n 0, 1), (119, .getfield 184, 3), (122, .iastore, 1), (123, .aload_n 0, 1), (124, .dup, 1), (125, .getfield 184, 3), (128, .iconst 1, 1), (129, .iadd, 1), (130, .putfield 184, 3), (133, .aload_n 0, 1), (134, .getfield 66, 3), (137, .iload_n 1, 1), (138, .dup2, 1), (139, .iaload, 1), (140, .iconst 1, 1), (141, .iadd, 1), (142, .iastore, 1), (143, .return_, 1)]
set_option maxRecDepth 100000 in
theorem DX8_makes : ∀ q ∈ QX8_makes, decode cX8_makes q.1 = .ok (q.2.1, q.2.2) := by decide +kernel
abbrev MX8_makes : zM := (cX8_makes, "EndSumsModel", 8, none, { frames := 4, cells := 0, slots := 0, locals := 100 })
def fX8_makes (a1 : Int32) (a2 : Int32) (w : zW) : Option (Unit × zW) :=
  zg (zin a1 10) <|
  bd (fX8_place a1 (zI w 83 a1.toNatClampNeg) w) fun v3 w1 =>
  bd (fX8_element a2 w1) fun _ w4 =>
  zg (zin a1 10) <|
  lt (fun (w7 : zW) =>
    zg (zin v3 640) <| lt (zsI w7 85 v3.toNatClampNeg a2) fun w8 =>
    zg (zin v3 640) <| lt (zsL w8 86 v3.toNatClampNeg (zL w8 74 11)) fun w9 =>
    zg (zin v3 640) <| lt (zsL w9 87 v3.toNatClampNeg (zL w9 74 12)) fun w10 =>
    zg (zin v3 640) <| lt (zsI w10 84 v3.toNatClampNeg (zI w10 74 23)) fun w11 =>
    lt (zsI w11 74 23 ((zI w11 74 23) + (1 : Int32))) fun w12 =>
    zg (zin a1 10) <|
    zg (zin a1 10) <| lt (zsI w12 83 a1.toNatClampNeg ((zI w12 83 a1.toNatClampNeg) + (1 : Int32))) fun w13 =>
    some ((), w13)) fun j7 =>
  if (zI w4 83 a1.toNatClampNeg) ≤ (0 : Int32) then
    j7 w4
  else
  zg (zin (v3 - (1 : Int32)) 640) <|
  lt (zL w4 86 (v3 - (1 : Int32)).toNatClampNeg) fun v15 =>
  zg (zin (v3 - (1 : Int32)) 640) <|
  lt (zL w4 87 (v3 - (1 : Int32)).toNatClampNeg) fun v16 =>
  if ¬ (a1 - a1 / (2 : Int32) * (2 : Int32)) = (0 : Int32) then
    bd (fX8_join v15 v16 (zL w4 74 11) (zL w4 74 12) w4) fun _ w18 =>
    j7 w18
  else
  bd (fX8_join (zL w4 74 11) (zL w4 74 12) v15 v16 w4) fun _ w21 =>
  j7 w21
theorem YX8_makes : zYV yX8_makes MX8_makes 2 := ⟨wk_1064, wk_9, ⟨wk_1063, ws_91⟩, ⟨by decide, by decide, by decide +kernel⟩, rfl, rfl⟩
set_option maxHeartbeats 4000000 in
set_option maxRecDepth 100000 in
theorem tX8_makes (a1 : Int32) (a2 : Int32) (w : zW) : Sm yX8_makes MX8_makes zn [.ref 74, .int a1, .int a2] w (fX8_makes a1 a2 w) := by
  refine Sm_of (lv0 := [(0, .ref 74), (1, .int a1), (2, .int a2)]) (by decide) rfl (fun _ => Nat.le_of_ble_eq_true rfl) rfl ?_
  unfold fX8_makes
  refine tz_iload_n 1 rfl (zd DX8_makes 0 rfl) ?_
  refine tz_aload_n 0 rfl (zd DX8_makes 1 rfl) ?_
  refine tz_getR 83 18 kz8 (zs_74) (by decide) (by decide) rfl wk_875 (zd DX8_makes 2 rfl) ?_
  refine tz_iload_n 1 rfl (zd DX8_makes 3 rfl) ?_
  refine tz_iald (zs_83.1) (zs_83.2) (zd DX8_makes 4 rfl) ?_
  refine tz_cS_i (rest := []) (YX8_place) wk_1054 (tX8_place a1 (zI w 83 a1.toNatClampNeg) w) rfl rfl (Nat.le_of_ble_eq_true rfl) ⟨Nat.le_of_ble_eq_true rfl, Nat.le_of_ble_eq_true rfl⟩ (zd DX8_makes 5 rfl) (fun v3 w1 e2 => ?_)
  refine tz_istore_n [(3, .int v3), (0, .ref 74), (1, .int a1), (2, .int a2)] (Nat.le_of_ble_eq_true rfl) rfl (zd DX8_makes 6 rfl) ?_
  refine tz_aload_n 1 rfl (zd DX8_makes 7 rfl) ?_
  refine tz_iload_n 3 rfl (zd DX8_makes 8 rfl) ?_
  refine tz_cV_n kz8 (zs_74) rfl (rest := []) (YX8_element) wk_966 (tX8_element a2 w1) rfl rfl (Nat.le_of_ble_eq_true rfl) ⟨Nat.le_of_ble_eq_true rfl, Nat.le_of_ble_eq_true rfl⟩ (zd DX8_makes 9 rfl) (fun v6 w4 e5 => ?_)
  refine tz_aload_n 1 rfl (zd DX8_makes 10 rfl) ?_
  refine tz_getR 83 18 kz8 (zs_74) (by decide) (by decide) rfl wk_875 (zd DX8_makes 11 rfl) ?_
  refine tz_iload_n 2 rfl (zd DX8_makes 12 rfl) ?_
  refine tz_iald (zs_83.1) (zs_83.2) (zd DX8_makes 13 rfl) ?_
  refine tz_jp (P := fun j => ∀ (w7 : zW), Tz MX8_makes (zRet zn) (j w7) 86 [(0, .ref 74), (1, .int a1), (2, .int a2), (3, .int v3)] [] w7) ?_ (fun j7 hj7 => ?_)
  · intro w7
    refine tz_aload_n 0 rfl (zd DX8_makes 50 rfl) ?_
    refine tz_getR 85 20 kz8 (zs_74) (by decide) (by decide) rfl wk_877 (zd DX8_makes 51 rfl) ?_
    refine tz_iload_n 3 rfl (zd DX8_makes 52 rfl) ?_
    refine tz_iload_n 2 rfl (zd DX8_makes 53 rfl) ?_
    refine tz_iast (zs_85.1) (zs_85.2) (zd DX8_makes 54 rfl) (fun w8 => ?_)
    refine tz_aload_n 0 rfl (zd DX8_makes 55 rfl) ?_
    refine tz_getR 86 21 kz8 (zs_74) (by decide) (by decide) rfl wk_878 (zd DX8_makes 56 rfl) ?_
    refine tz_iload_n 3 rfl (zd DX8_makes 57 rfl) ?_
    refine tz_aload_n 0 rfl (zd DX8_makes 58 rfl) ?_
    refine tz_getJ 11 kz8 (zs_74) (by decide) rfl wk_868 (zd DX8_makes 59 rfl) ?_
    refine tz_last (zs_86.1) (zs_86.2) (zd DX8_makes 60 rfl) (fun w9 => ?_)
    refine tz_aload_n 0 rfl (zd DX8_makes 61 rfl) ?_
    refine tz_getR 87 22 kz8 (zs_74) (by decide) (by decide) rfl wk_879 (zd DX8_makes 62 rfl) ?_
    refine tz_iload_n 3 rfl (zd DX8_makes 63 rfl) ?_
    refine tz_aload_n 0 rfl (zd DX8_makes 64 rfl) ?_
    refine tz_getJ 12 kz8 (zs_74) (by decide) rfl wk_869 (zd DX8_makes 65 rfl) ?_
    refine tz_last (zs_87.1) (zs_87.2) (zd DX8_makes 66 rfl) (fun w10 => ?_)
    refine tz_aload_n 0 rfl (zd DX8_makes 67 rfl) ?_
    refine tz_getR 84 19 kz8 (zs_74) (by decide) (by decide) rfl wk_876 (zd DX8_makes 68 rfl) ?_
    refine tz_iload_n 3 rfl (zd DX8_makes 69 rfl) ?_
    refine tz_aload_n 0 rfl (zd DX8_makes 70 rfl) ?_
    refine tz_getI 23 kz8 (zs_74) (by decide) rfl wk_880 (zd DX8_makes 71 rfl) ?_
    refine tz_iast (zs_84.1) (zs_84.2) (zd DX8_makes 72 rfl) (fun w11 => ?_)
    refine tz_aload_n 0 rfl (zd DX8_makes 73 rfl) ?_
    refine tz_dupa (zd DX8_makes 74 rfl) ?_
    refine tz_getI 23 kz8 (zs_74) (by decide) rfl wk_880 (zd DX8_makes 75 rfl) ?_
    refine tz_iconst (1 : Int32) zk_iconst_1 (zd DX8_makes 76 rfl) ?_
    refine tz_iadd (zd DX8_makes 77 rfl) ?_
    refine tz_putI 23 kz8 (zs_74) (by decide) rfl rfl wk_880 (zd DX8_makes 78 rfl) (fun w12 => ?_)
    refine tz_aload_n 0 rfl (zd DX8_makes 79 rfl) ?_
    refine tz_getR 83 18 kz8 (zs_74) (by decide) (by decide) rfl wk_875 (zd DX8_makes 80 rfl) ?_
    refine tz_iload_n 1 rfl (zd DX8_makes 81 rfl) ?_
    refine tz_dup2 (zd DX8_makes 82 rfl) ?_
    refine tz_iald (zs_83.1) (zs_83.2) (zd DX8_makes 83 rfl) ?_
    refine tz_iconst (1 : Int32) zk_iconst_1 (zd DX8_makes 84 rfl) ?_
    refine tz_iadd (zd DX8_makes 85 rfl) ?_
    refine tz_iast (zs_83.1) (zs_83.2) (zd DX8_makes 86 rfl) (fun w13 => ?_)
    exact tz_vret rfl (zd DX8_makes 87 rfl)
  refine tz_if_le 86 (zd DX8_makes 14 rfl) rfl (fun q14 => ?_) (fun q14 => ?_)
  · refine tz_lv (lv2 := [(0, .ref 74), (1, .int a1), (2, .int a2), (3, .int v3)]) [1, 2, 3, 0] rfl ?_
    exact hj7 w4
  refine tz_aload_n 1 rfl (zd DX8_makes 15 rfl) ?_
  refine tz_getR 86 21 kz8 (zs_74) (by decide) (by decide) rfl wk_878 (zd DX8_makes 16 rfl) ?_
  refine tz_iload_n 0 rfl (zd DX8_makes 17 rfl) ?_
  refine tz_iconst (1 : Int32) zk_iconst_1 (zd DX8_makes 18 rfl) ?_
  refine tz_isub (zd DX8_makes 19 rfl) ?_
  refine tz_lald (zs_86.1) (zs_86.2) (zd DX8_makes 20 rfl) ?_
  refine tz_ltl (fun v15 => ?_)
  refine tz_lstore [(4, .long v15), (3, .int v3), (0, .ref 74), (1, .int a1), (2, .int a2)] (Nat.le_of_ble_eq_true rfl) rfl (zd DX8_makes 21 rfl) ?_
  refine tz_aload_n 2 rfl (zd DX8_makes 22 rfl) ?_
  refine tz_getR 87 22 kz8 (zs_74) (by decide) (by decide) rfl wk_879 (zd DX8_makes 23 rfl) ?_
  refine tz_iload_n 1 rfl (zd DX8_makes 24 rfl) ?_
  refine tz_iconst (1 : Int32) zk_iconst_1 (zd DX8_makes 25 rfl) ?_
  refine tz_isub (zd DX8_makes 26 rfl) ?_
  refine tz_lald (zs_87.1) (zs_87.2) (zd DX8_makes 27 rfl) ?_
  refine tz_ltl (fun v16 => ?_)
  refine tz_lstore [(6, .long v16), (4, .long v15), (3, .int v3), (0, .ref 74), (1, .int a1), (2, .int a2)] (Nat.le_of_ble_eq_true rfl) rfl (zd DX8_makes 28 rfl) ?_
  refine tz_iload_n 4 rfl (zd DX8_makes 29 rfl) ?_
  refine tz_iconst (2 : Int32) zk_iconst_2 (zd DX8_makes 30 rfl) ?_
  refine tz_irem (by decide) (zd DX8_makes 31 rfl) ?_
  refine tz_if_ne 70 (zd DX8_makes 32 rfl) rfl (fun q17 => ?_) (fun q17 => ?_)
  · refine tz_aload_n 3 rfl (zd DX8_makes 42 rfl) ?_
    refine tz_lload 1 rfl (zd DX8_makes 43 rfl) ?_
    refine tz_lload 0 rfl (zd DX8_makes 44 rfl) ?_
    refine tz_aload_n 3 rfl (zd DX8_makes 45 rfl) ?_
    refine tz_getJ 11 kz8 (zs_74) (by decide) rfl wk_868 (zd DX8_makes 46 rfl) ?_
    refine tz_aload_n 3 rfl (zd DX8_makes 47 rfl) ?_
    refine tz_getJ 12 kz8 (zs_74) (by decide) rfl wk_869 (zd DX8_makes 48 rfl) ?_
    refine tz_cV_n kz8 (zs_74) rfl (rest := []) (YX8_join) wk_984 (tX8_join v15 v16 (zL w4 74 11) (zL w4 74 12) w4) rfl rfl (Nat.le_of_ble_eq_true rfl) ⟨Nat.le_of_ble_eq_true rfl, Nat.le_of_ble_eq_true rfl⟩ (zd DX8_makes 49 rfl) (fun v20 w18 e19 => ?_)
    refine tz_lv (lv2 := [(0, .ref 74), (1, .int a1), (2, .int a2), (3, .int v3)]) [3, 4, 5, 2] rfl ?_
    exact hj7 w18
  refine tz_aload_n 3 rfl (zd DX8_makes 33 rfl) ?_
  refine tz_aload_n 3 rfl (zd DX8_makes 34 rfl) ?_
  refine tz_getJ 11 kz8 (zs_74) (by decide) rfl wk_868 (zd DX8_makes 35 rfl) ?_
  refine tz_aload_n 3 rfl (zd DX8_makes 36 rfl) ?_
  refine tz_getJ 12 kz8 (zs_74) (by decide) rfl wk_869 (zd DX8_makes 37 rfl) ?_
  refine tz_lload 1 rfl (zd DX8_makes 38 rfl) ?_
  refine tz_lload 0 rfl (zd DX8_makes 39 rfl) ?_
  refine tz_cV_n kz8 (zs_74) rfl (rest := []) (YX8_join) wk_984 (tX8_join (zL w4 74 11) (zL w4 74 12) v15 v16 w4) rfl rfl (Nat.le_of_ble_eq_true rfl) ⟨Nat.le_of_ble_eq_true rfl, Nat.le_of_ble_eq_true rfl⟩ (zd DX8_makes 40 rfl) (fun v23 w21 e22 => ?_)
  refine tz_goto 86 (zd DX8_makes 41 rfl) rfl ?_
  refine tz_lv (lv2 := [(0, .ref 74), (1, .int a1), (2, .int a2), (3, .int v3)]) [3, 4, 5, 2] rfl ?_
  exact hj7 w21
def QX8_takesItems : List (Nat × Instr × Nat) := [(0, .aload_n 0, 1), (1, .iload_n 1, 1), (2, .invokevirtual 187, 3), (5, .istore_n 2, 1), (6, .iconst 0, 1), (7, .istore_n 3, 1), (8, .iload_n 3, 1), (9, .iload_n 2, 1), (10, .if_icmp .ge 21, 3), (13, .aload_n 0, 1), (14, .getfield 81, 3), (17, .iload_n 3, 1), (18, .aload_n 0, 1), (19, .iload_n 1, 1), (20, .iload_n 3, 1), (21, .invokevirtual 190, 3), (24, .iastore, 1), (25, .iinc 3 1, 3), (28, .goto (-20), 3), (31, .iload_n 2, 1), (32, .ireturn, 1)]
set_option maxRecDepth 100000 in
theorem DX8_takesItems : ∀ q ∈ QX8_takesItems, decode cX8_takesItems q.1 = .ok (q.2.1, q.2.2) := by decide +kernel
abbrev MX8_takesItems : zM := (cX8_takesItems, "EndSumsModel", 4, (some .int), { frames := 3, cells := 0, slots := 0, locals := 66 })
def fX8_takesItems_L8 (x1 : Int32) (x2 : Int32) : Nat → Int32 → zW → Option (Int32 × zW)
  | 0, _, _ => none
  | n + 1, x3, w =>
    if x2 ≤ x3 then
      some (x2, w)
    else
    bd (fX8_itemAt x1 x3 w) fun v7 w5 =>
    zg (zin x3 65) <| lt (zsI w5 88 x3.toNatClampNeg v7) fun w8 =>
    fX8_takesItems_L8 x1 x2 n (x3 + (1 : Int32)) w8
def fX8_takesItems (a1 : Int32) (w : zW) : Option (Int32 × zW) :=
  bd (fX8_sizeOf a1 w) fun v3 w1 =>
  fX8_takesItems_L8 a1 v3 zFU (0 : Int32) w1
theorem YX8_takesItems : zYV yX8_takesItems MX8_takesItems 1 := ⟨wk_1041, wk_9, ⟨wk_1040, ws_86⟩, ⟨by decide, by decide, by decide +kernel⟩, rfl, rfl⟩
set_option maxHeartbeats 4000000 in
set_option maxRecDepth 100000 in
theorem lX8_takesItems_L8 (x1 : Int32) (x2 : Int32) : ∀ (n : Nat) (x3 : Int32) (w : zW), Tz MX8_takesItems (zRet zi) (fX8_takesItems_L8 x1 x2 n x3 w) 8 [(0, .ref 74), (1, .int x1), (2, .int x2), (3, .int x3)] [] w := by
  intro n
  induction n with
  | zero => intro x3 w; exact tz_eq (fX8_takesItems_L8.eq_1 _ _ _ _) tz_none
  | succ n ih =>
    intro x3 w
    refine tz_eq (fX8_takesItems_L8.eq_2 _ _ _ _ _) ?_
    refine tz_iload_n 3 rfl (zd DX8_takesItems 6 rfl) ?_
    refine tz_iload_n 2 rfl (zd DX8_takesItems 7 rfl) ?_
    refine tz_icmp_ge 31 (zd DX8_takesItems 8 rfl) rfl (fun q4 => ?_) (fun q4 => ?_)
    · refine tz_iload_n 2 rfl (zd DX8_takesItems 19 rfl) ?_
      exact tz_iret rfl (zd DX8_takesItems 20 rfl)
    refine tz_aload_n 0 rfl (zd DX8_takesItems 9 rfl) ?_
    refine tz_getR 88 25 kz8 (zs_74) (by decide) (by decide) rfl wk_882 (zd DX8_takesItems 10 rfl) ?_
    refine tz_iload_n 3 rfl (zd DX8_takesItems 11 rfl) ?_
    refine tz_aload_n 0 rfl (zd DX8_takesItems 12 rfl) ?_
    refine tz_iload_n 1 rfl (zd DX8_takesItems 13 rfl) ?_
    refine tz_iload_n 3 rfl (zd DX8_takesItems 14 rfl) ?_
    refine tz_cV_i kz8 (zs_74) rfl (rest := [.int x3, .ref 88]) (YX8_itemAt) wk_1046 (tX8_itemAt x1 x3 w) rfl rfl (Nat.le_of_ble_eq_true rfl) ⟨Nat.le_of_ble_eq_true rfl, Nat.le_of_ble_eq_true rfl⟩ (zd DX8_takesItems 15 rfl) (fun v7 w5 e6 => ?_)
    refine tz_iast (zs_88.1) (zs_88.2) (zd DX8_takesItems 16 rfl) (fun w8 => ?_)
    refine tz_iinc 3 (1 : Int32) [(3, .int (x3 + (1 : Int32))), (0, .ref 74), (1, .int x1), (2, .int x2)] rfl zk_iconst_1 (Nat.le_of_ble_eq_true rfl) rfl (zd DX8_takesItems 17 rfl) ?_
    refine tz_goto 8 (zd DX8_takesItems 18 rfl) rfl ?_
    refine tz_lv (lv2 := [(0, .ref 74), (1, .int x1), (2, .int x2), (3, .int (x3 + (1 : Int32)))]) [1, 2, 3, 0] rfl ?_
    exact ih (x3 + (1 : Int32)) w8
set_option maxHeartbeats 4000000 in
set_option maxRecDepth 100000 in
theorem tX8_takesItems (a1 : Int32) (w : zW) : Sm yX8_takesItems MX8_takesItems zi [.ref 74, .int a1] w (fX8_takesItems a1 w) := by
  refine Sm_of (lv0 := [(0, .ref 74), (1, .int a1)]) (by decide) rfl (fun _ => Nat.le_of_ble_eq_true rfl) rfl ?_
  unfold fX8_takesItems
  refine tz_aload_n 0 rfl (zd DX8_takesItems 0 rfl) ?_
  refine tz_iload_n 1 rfl (zd DX8_takesItems 1 rfl) ?_
  refine tz_cV_i kz8 (zs_74) rfl (rest := []) (YX8_sizeOf) wk_1042 (tX8_sizeOf a1 w) rfl rfl (Nat.le_of_ble_eq_true rfl) ⟨Nat.le_of_ble_eq_true rfl, Nat.le_of_ble_eq_true rfl⟩ (zd DX8_takesItems 2 rfl) (fun v3 w1 e2 => ?_)
  refine tz_istore_n [(2, .int v3), (0, .ref 74), (1, .int a1)] (Nat.le_of_ble_eq_true rfl) rfl (zd DX8_takesItems 3 rfl) ?_
  refine tz_iconst (0 : Int32) zk_iconst_0 (zd DX8_takesItems 4 rfl) ?_
  refine tz_istore_n [(3, .int (0 : Int32)), (2, .int v3), (0, .ref 74), (1, .int a1)] (Nat.le_of_ble_eq_true rfl) rfl (zd DX8_takesItems 5 rfl) ?_
  refine tz_lv (lv2 := [(0, .ref 74), (1, .int a1), (2, .int v3), (3, .int (0 : Int32))]) [2, 3, 1, 0] rfl ?_
  exact lX8_takesItems_L8 a1 v3 zFU (0 : Int32) w1
def QX8_lays_ : List (Nat × Instr × Nat) := [(0, .aload_n 0, 1), (1, .getfield 66, 3), (4, .iconst 2, 1), (5, .iload_n 1, 1), (6, .imul, 1), (7, .iconst 0, 1), (8, .iastore, 1), (9, .aload_n 0, 1), (10, .getfield 66, 3), (13, .iconst 2, 1), (14, .iload_n 1, 1), (15, .imul, 1), (16, .iconst 1, 1), (17, .iadd, 1), (18, .iconst 0, 1), (19, .iastore, 1), (20, .iload 4, 2), (22, .iconst 1, 1), (23, .isub, 1), (24, .istore 5, 2), (26, .iload 5, 2), (28, .ifCond .lt 25, 3), (31, .aload_n 0, 1), (32, .iconst 2, 1), (33, .iload_n 1, 1), (34, .imul, 1), (35, .aload_n 0, 1), (36, .getfield 81, 3), (39, .iload_n 2, 1), (40, .iload 5, 2), (42, .iadd, 1), (43, .iaload, 1), (44, .invokevirtual 193, 3), (47, .iinc 5 (-1), 3), (50, .goto (-24), 3), (53, .iload 4, 2), (55, .istore 5, 2), (57, .iload 5, 2), (59, .iload_n 3, 1), (60, .if_icmp .ge 27, 3), (63, .aload_n 0, 1), (64, .iconst 2, 1), (65, .iload_n 1, 1), (66, .imul, 1), (67, .iconst 1, 1), (68, .iadd, 1), (69, .aload_n 0, 1), (70, .getfield 81, 3), (73, .iload_n 2, 1), (74, .iload 5, 2), (76, .iadd, 1), (77, .iaload, 1), (78, .invokevirtual 193, 3), (81, .iinc 5 1, 3), (84, .goto (-27), 3), (87, .return_, 1)]
set_option maxRecDepth 100000 in
theorem DX8_lays_ : ∀ q ∈ QX8_lays_, decode cX8_lays_ q.1 = .ok (q.2.1, q.2.2) := by decide +kernel
abbrev MX8_lays_ : zM := (cX8_lays_, "EndSumsModel", 6, none, { frames := 5, cells := 0, slots := 0, locals := 127 })
def fX8_lays__L57 (x1 : Int32) (x2 : Int32) (x3 : Int32) : Nat → Int32 → zW → Option (Unit × zW)
  | 0, _, _ => none
  | n + 1, x5, w =>
    if x3 ≤ x5 then
      some ((), w)
    else
    zg (zin (x2 + x5) 65) <|
    bd (fX8_makes (((2 : Int32) * x1) + (1 : Int32)) (zI w 88 (x2 + x5).toNatClampNeg) w) fun _ w6 =>
    fX8_lays__L57 x1 x2 x3 n (x5 + (1 : Int32)) w6
def fX8_lays__L26 (x1 : Int32) (x2 : Int32) (x3 : Int32) (x4 : Int32) : Nat → Int32 → zW → Option (Unit × zW)
  | 0, _, _ => none
  | n + 1, x5, w =>
    if x5 < (0 : Int32) then
      fX8_lays__L57 x1 x2 x3 zFU x4 w
    else
    zg (zin (x2 + x5) 65) <|
    bd (fX8_makes ((2 : Int32) * x1) (zI w 88 (x2 + x5).toNatClampNeg) w) fun _ w9 =>
    fX8_lays__L26 x1 x2 x3 x4 n (x5 + (-1 : Int32)) w9
def fX8_lays_ (a1 : Int32) (a2 : Int32) (a3 : Int32) (a4 : Int32) (w : zW) : Option (Unit × zW) :=
  zg (zin ((2 : Int32) * a1) 10) <| lt (zsI w 83 ((2 : Int32) * a1).toNatClampNeg (0 : Int32)) fun w1 =>
  zg (zin (((2 : Int32) * a1) + (1 : Int32)) 10) <| lt (zsI w1 83 (((2 : Int32) * a1) + (1 : Int32)).toNatClampNeg (0 : Int32)) fun w2 =>
  lt (a4 - (1 : Int32)) fun v3 =>
  fX8_lays__L26 a1 a2 a3 a4 zFU v3 w2
theorem YX8_lays_ : zYV yX8_lays_ MX8_lays_ 4 := ⟨wk_1060, wk_9, ⟨wk_1059, ws_90⟩, ⟨by decide, by decide, by decide +kernel⟩, rfl, rfl⟩
set_option maxHeartbeats 4000000 in
set_option maxRecDepth 100000 in
theorem lX8_lays__L57 (x1 : Int32) (x2 : Int32) (x3 : Int32) : ∀ (n : Nat) (x5 : Int32) (w : zW), Tz MX8_lays_ (zRet zn) (fX8_lays__L57 x1 x2 x3 n x5 w) 57 [(0, .ref 74), (1, .int x1), (2, .int x2), (3, .int x3), (5, .int x5)] [] w := by
  intro n
  induction n with
  | zero => intro x5 w; exact tz_eq (fX8_lays__L57.eq_1 _ _ _ _ _) tz_none
  | succ n ih =>
    intro x5 w
    refine tz_eq (fX8_lays__L57.eq_2 _ _ _ _ _ _) ?_
    refine tz_iload 4 rfl (zd DX8_lays_ 37 rfl) ?_
    refine tz_iload_n 3 rfl (zd DX8_lays_ 38 rfl) ?_
    refine tz_icmp_ge 87 (zd DX8_lays_ 39 rfl) rfl (fun q5 => ?_) (fun q5 => ?_)
    · exact tz_vret rfl (zd DX8_lays_ 55 rfl)
    refine tz_aload_n 0 rfl (zd DX8_lays_ 40 rfl) ?_
    refine tz_iconst (2 : Int32) zk_iconst_2 (zd DX8_lays_ 41 rfl) ?_
    refine tz_iload_n 1 rfl (zd DX8_lays_ 42 rfl) ?_
    refine tz_imul (zd DX8_lays_ 43 rfl) ?_
    refine tz_iconst (1 : Int32) zk_iconst_1 (zd DX8_lays_ 44 rfl) ?_
    refine tz_iadd (zd DX8_lays_ 45 rfl) ?_
    refine tz_aload_n 0 rfl (zd DX8_lays_ 46 rfl) ?_
    refine tz_getR 88 25 kz8 (zs_74) (by decide) (by decide) rfl wk_882 (zd DX8_lays_ 47 rfl) ?_
    refine tz_iload_n 2 rfl (zd DX8_lays_ 48 rfl) ?_
    refine tz_iload 4 rfl (zd DX8_lays_ 49 rfl) ?_
    refine tz_iadd (zd DX8_lays_ 50 rfl) ?_
    refine tz_iald (zs_88.1) (zs_88.2) (zd DX8_lays_ 51 rfl) ?_
    refine tz_cV_n kz8 (zs_74) rfl (rest := []) (YX8_makes) wk_1061 (tX8_makes (((2 : Int32) * x1) + (1 : Int32)) (zI w 88 (x2 + x5).toNatClampNeg) w) rfl rfl (Nat.le_of_ble_eq_true rfl) ⟨Nat.le_of_ble_eq_true rfl, Nat.le_of_ble_eq_true rfl⟩ (zd DX8_lays_ 52 rfl) (fun v8 w6 e7 => ?_)
    refine tz_iinc 4 (1 : Int32) [(5, .int (x5 + (1 : Int32))), (0, .ref 74), (1, .int x1), (2, .int x2), (3, .int x3)] rfl zk_iconst_1 (Nat.le_of_ble_eq_true rfl) rfl (zd DX8_lays_ 53 rfl) ?_
    refine tz_goto 57 (zd DX8_lays_ 54 rfl) rfl ?_
    refine tz_lv (lv2 := [(0, .ref 74), (1, .int x1), (2, .int x2), (3, .int x3), (5, .int (x5 + (1 : Int32)))]) [1, 2, 3, 4, 0] rfl ?_
    exact ih (x5 + (1 : Int32)) w6
set_option maxHeartbeats 4000000 in
set_option maxRecDepth 100000 in
theorem lX8_lays__L26 (x1 : Int32) (x2 : Int32) (x3 : Int32) (x4 : Int32) : ∀ (n : Nat) (x5 : Int32) (w : zW), Tz MX8_lays_ (zRet zn) (fX8_lays__L26 x1 x2 x3 x4 n x5 w) 26 [(0, .ref 74), (1, .int x1), (2, .int x2), (3, .int x3), (4, .int x4), (5, .int x5)] [] w := by
  intro n
  induction n with
  | zero => intro x5 w; exact tz_eq (fX8_lays__L26.eq_1 _ _ _ _ _ _) tz_none
  | succ n ih =>
    intro x5 w
    refine tz_eq (fX8_lays__L26.eq_2 _ _ _ _ _ _ _) ?_
    refine tz_iload 5 rfl (zd DX8_lays_ 20 rfl) ?_
    refine tz_if_lt 53 (zd DX8_lays_ 21 rfl) rfl (fun q4 => ?_) (fun q4 => ?_)
    · refine tz_iload 4 rfl (zd DX8_lays_ 35 rfl) ?_
      refine tz_istore [(5, .int x4), (0, .ref 74), (1, .int x1), (2, .int x2), (3, .int x3), (4, .int x4)] (Nat.le_of_ble_eq_true rfl) rfl (zd DX8_lays_ 36 rfl) ?_
      refine tz_lv (lv2 := [(0, .ref 74), (1, .int x1), (2, .int x2), (3, .int x3), (5, .int x4)]) [1, 2, 3, 4, 0] rfl ?_
      exact lX8_lays__L57 x1 x2 x3 zFU x4 w
    refine tz_aload_n 0 rfl (zd DX8_lays_ 22 rfl) ?_
    refine tz_iconst (2 : Int32) zk_iconst_2 (zd DX8_lays_ 23 rfl) ?_
    refine tz_iload_n 1 rfl (zd DX8_lays_ 24 rfl) ?_
    refine tz_imul (zd DX8_lays_ 25 rfl) ?_
    refine tz_aload_n 0 rfl (zd DX8_lays_ 26 rfl) ?_
    refine tz_getR 88 25 kz8 (zs_74) (by decide) (by decide) rfl wk_882 (zd DX8_lays_ 27 rfl) ?_
    refine tz_iload_n 2 rfl (zd DX8_lays_ 28 rfl) ?_
    refine tz_iload 5 rfl (zd DX8_lays_ 29 rfl) ?_
    refine tz_iadd (zd DX8_lays_ 30 rfl) ?_
    refine tz_iald (zs_88.1) (zs_88.2) (zd DX8_lays_ 31 rfl) ?_
    refine tz_cV_n kz8 (zs_74) rfl (rest := []) (YX8_makes) wk_1061 (tX8_makes ((2 : Int32) * x1) (zI w 88 (x2 + x5).toNatClampNeg) w) rfl rfl (Nat.le_of_ble_eq_true rfl) ⟨Nat.le_of_ble_eq_true rfl, Nat.le_of_ble_eq_true rfl⟩ (zd DX8_lays_ 32 rfl) (fun v11 w9 e10 => ?_)
    refine tz_iinc 5 (-1 : Int32) [(5, .int (x5 + (-1 : Int32))), (0, .ref 74), (1, .int x1), (2, .int x2), (3, .int x3), (4, .int x4)] rfl zk_iconst_m1 (Nat.le_of_ble_eq_true rfl) rfl (zd DX8_lays_ 33 rfl) ?_
    refine tz_goto 26 (zd DX8_lays_ 34 rfl) rfl ?_
    refine tz_lv (lv2 := [(0, .ref 74), (1, .int x1), (2, .int x2), (3, .int x3), (4, .int x4), (5, .int (x5 + (-1 : Int32)))]) [1, 2, 3, 4, 5, 0] rfl ?_
    exact ih (x5 + (-1 : Int32)) w9
set_option maxHeartbeats 4000000 in
set_option maxRecDepth 100000 in
theorem tX8_lays_ (a1 : Int32) (a2 : Int32) (a3 : Int32) (a4 : Int32) (w : zW) : Sm yX8_lays_ MX8_lays_ zn [.ref 74, .int a1, .int a2, .int a3, .int a4] w (fX8_lays_ a1 a2 a3 a4 w) := by
  refine Sm_of (lv0 := [(0, .ref 74), (1, .int a1), (2, .int a2), (3, .int a3), (4, .int a4)]) (by decide) rfl (fun _ => Nat.le_of_ble_eq_true rfl) rfl ?_
  unfold fX8_lays_
  refine tz_aload_n 0 rfl (zd DX8_lays_ 0 rfl) ?_
  refine tz_getR 83 18 kz8 (zs_74) (by decide) (by decide) rfl wk_875 (zd DX8_lays_ 1 rfl) ?_
  refine tz_iconst (2 : Int32) zk_iconst_2 (zd DX8_lays_ 2 rfl) ?_
  refine tz_iload_n 1 rfl (zd DX8_lays_ 3 rfl) ?_
  refine tz_imul (zd DX8_lays_ 4 rfl) ?_
  refine tz_iconst (0 : Int32) zk_iconst_0 (zd DX8_lays_ 5 rfl) ?_
  refine tz_iast (zs_83.1) (zs_83.2) (zd DX8_lays_ 6 rfl) (fun w1 => ?_)
  refine tz_aload_n 0 rfl (zd DX8_lays_ 7 rfl) ?_
  refine tz_getR 83 18 kz8 (zs_74) (by decide) (by decide) rfl wk_875 (zd DX8_lays_ 8 rfl) ?_
  refine tz_iconst (2 : Int32) zk_iconst_2 (zd DX8_lays_ 9 rfl) ?_
  refine tz_iload_n 1 rfl (zd DX8_lays_ 10 rfl) ?_
  refine tz_imul (zd DX8_lays_ 11 rfl) ?_
  refine tz_iconst (1 : Int32) zk_iconst_1 (zd DX8_lays_ 12 rfl) ?_
  refine tz_iadd (zd DX8_lays_ 13 rfl) ?_
  refine tz_iconst (0 : Int32) zk_iconst_0 (zd DX8_lays_ 14 rfl) ?_
  refine tz_iast (zs_83.1) (zs_83.2) (zd DX8_lays_ 15 rfl) (fun w2 => ?_)
  refine tz_iload 4 rfl (zd DX8_lays_ 16 rfl) ?_
  refine tz_iconst (1 : Int32) zk_iconst_1 (zd DX8_lays_ 17 rfl) ?_
  refine tz_isub (zd DX8_lays_ 18 rfl) ?_
  refine tz_lti (fun v3 => ?_)
  refine tz_istore [(5, .int v3), (0, .ref 74), (1, .int a1), (2, .int a2), (3, .int a3), (4, .int a4)] (Nat.le_of_ble_eq_true rfl) rfl (zd DX8_lays_ 19 rfl) ?_
  refine tz_lv (lv2 := [(0, .ref 74), (1, .int a1), (2, .int a2), (3, .int a3), (4, .int a4), (5, .int v3)]) [1, 2, 3, 4, 5, 0] rfl ?_
  exact lX8_lays__L26 a1 a2 a3 a4 zFU v3 w2
def QX8_laysAll : List (Nat × Instr × Nat) := [(0, .iconst 0, 1), (1, .istore_n 1, 1), (2, .iload_n 1, 1), (3, .iconst 4, 1), (4, .if_icmp .ge 32, 3), (7, .aload_n 0, 1), (8, .getfield 66, 3), (11, .iconst 2, 1), (12, .iload_n 1, 1), (13, .imul, 1), (14, .iaload, 1), (15, .istore_n 2, 1), (16, .aload_n 0, 1), (17, .iload_n 1, 1), (18, .invokevirtual 196, 3), (21, .istore_n 3, 1), (22, .aload_n 0, 1), (23, .iload_n 1, 1), (24, .iconst 0, 1), (25, .iload_n 3, 1), (26, .iload_n 2, 1), (27, .invokevirtual 199, 3), (30, .iinc 1 1, 3), (33, .goto (-31), 3), (36, .return_, 1)]
set_option maxRecDepth 100000 in
theorem DX8_laysAll : ∀ q ∈ QX8_laysAll, decode cX8_laysAll q.1 = .ok (q.2.1, q.2.2) := by decide +kernel
abbrev MX8_laysAll : zM := (cX8_laysAll, "EndSumsModel", 4, none, { frames := 6, cells := 0, slots := 0, locals := 152 })
def fX8_laysAll_L2  : Nat → Int32 → zW → Option (Unit × zW)
  | 0, _, _ => none
  | n + 1, x1, w =>
    if (4 : Int32) ≤ x1 then
      some ((), w)
    else
    zg (zin ((2 : Int32) * x1) 10) <|
    lt (zI w 83 ((2 : Int32) * x1).toNatClampNeg) fun v2 =>
    bd (fX8_takesItems x1 w) fun v5 w3 =>
    bd (fX8_lays_ x1 (0 : Int32) v5 v2 w3) fun _ w6 =>
    fX8_laysAll_L2 n (x1 + (1 : Int32)) w6
def fX8_laysAll  (w : zW) : Option (Unit × zW) :=
  fX8_laysAll_L2 zFU (0 : Int32) w
theorem YX8_laysAll : zYV yX8_laysAll MX8_laysAll 0 := ⟨wk_1037, wk_9, ⟨wk_1036, ws_85⟩, ⟨by decide, by decide, by decide +kernel⟩, rfl, rfl⟩
set_option maxHeartbeats 4000000 in
set_option maxRecDepth 100000 in
theorem lX8_laysAll_L2  : ∀ (n : Nat) (x1 : Int32) (w : zW), Tz MX8_laysAll (zRet zn) (fX8_laysAll_L2 n x1 w) 2 [(0, .ref 74), (1, .int x1)] [] w := by
  intro n
  induction n with
  | zero => intro x1 w; exact tz_eq (fX8_laysAll_L2.eq_1 _ _) tz_none
  | succ n ih =>
    intro x1 w
    refine tz_eq (fX8_laysAll_L2.eq_2 _ _ _) ?_
    refine tz_iload_n 1 rfl (zd DX8_laysAll 2 rfl) ?_
    refine tz_iconst (4 : Int32) zk_iconst_4 (zd DX8_laysAll 3 rfl) ?_
    refine tz_icmp_ge 36 (zd DX8_laysAll 4 rfl) rfl (fun q1 => ?_) (fun q1 => ?_)
    · exact tz_vret rfl (zd DX8_laysAll 24 rfl)
    refine tz_aload_n 0 rfl (zd DX8_laysAll 5 rfl) ?_
    refine tz_getR 83 18 kz8 (zs_74) (by decide) (by decide) rfl wk_875 (zd DX8_laysAll 6 rfl) ?_
    refine tz_iconst (2 : Int32) zk_iconst_2 (zd DX8_laysAll 7 rfl) ?_
    refine tz_iload_n 1 rfl (zd DX8_laysAll 8 rfl) ?_
    refine tz_imul (zd DX8_laysAll 9 rfl) ?_
    refine tz_iald (zs_83.1) (zs_83.2) (zd DX8_laysAll 10 rfl) ?_
    refine tz_lti (fun v2 => ?_)
    refine tz_istore_n [(2, .int v2), (0, .ref 74), (1, .int x1)] (Nat.le_of_ble_eq_true rfl) rfl (zd DX8_laysAll 11 rfl) ?_
    refine tz_aload_n 1 rfl (zd DX8_laysAll 12 rfl) ?_
    refine tz_iload_n 2 rfl (zd DX8_laysAll 13 rfl) ?_
    refine tz_cV_i kz8 (zs_74) rfl (rest := []) (YX8_takesItems) wk_1038 (tX8_takesItems x1 w) rfl rfl (Nat.le_of_ble_eq_true rfl) ⟨Nat.le_of_ble_eq_true rfl, Nat.le_of_ble_eq_true rfl⟩ (zd DX8_laysAll 14 rfl) (fun v5 w3 e4 => ?_)
    refine tz_istore_n [(3, .int v5), (2, .int v2), (0, .ref 74), (1, .int x1)] (Nat.le_of_ble_eq_true rfl) rfl (zd DX8_laysAll 15 rfl) ?_
    refine tz_aload_n 2 rfl (zd DX8_laysAll 16 rfl) ?_
    refine tz_iload_n 3 rfl (zd DX8_laysAll 17 rfl) ?_
    refine tz_iconst (0 : Int32) zk_iconst_0 (zd DX8_laysAll 18 rfl) ?_
    refine tz_iload_n 0 rfl (zd DX8_laysAll 19 rfl) ?_
    refine tz_iload_n 1 rfl (zd DX8_laysAll 20 rfl) ?_
    refine tz_cV_n kz8 (zs_74) rfl (rest := []) (YX8_lays_) wk_1057 (tX8_lays_ x1 (0 : Int32) v5 v2 w3) rfl rfl (Nat.le_of_ble_eq_true rfl) ⟨Nat.le_of_ble_eq_true rfl, Nat.le_of_ble_eq_true rfl⟩ (zd DX8_laysAll 21 rfl) (fun v8 w6 e7 => ?_)
    refine tz_iinc 3 (1 : Int32) [(1, .int (x1 + (1 : Int32))), (3, .int v5), (2, .int v2), (0, .ref 74)] rfl zk_iconst_1 (Nat.le_of_ble_eq_true rfl) rfl (zd DX8_laysAll 22 rfl) ?_
    refine tz_goto 2 (zd DX8_laysAll 23 rfl) rfl ?_
    refine tz_lv (lv2 := [(0, .ref 74), (1, .int (x1 + (1 : Int32)))]) [3, 0] rfl ?_
    exact ih (x1 + (1 : Int32)) w6
set_option maxHeartbeats 4000000 in
set_option maxRecDepth 100000 in
theorem tX8_laysAll  (w : zW) : Sm yX8_laysAll MX8_laysAll zn [.ref 74] w (fX8_laysAll w) := by
  refine Sm_of (lv0 := [(0, .ref 74)]) (by decide) rfl (fun _ => Nat.le_of_ble_eq_true rfl) rfl ?_
  unfold fX8_laysAll
  refine tz_iconst (0 : Int32) zk_iconst_0 (zd DX8_laysAll 0 rfl) ?_
  refine tz_istore_n [(1, .int (0 : Int32)), (0, .ref 74)] (Nat.le_of_ble_eq_true rfl) rfl (zd DX8_laysAll 1 rfl) ?_
  refine tz_lv (lv2 := [(0, .ref 74), (1, .int (0 : Int32))]) [1, 0] rfl ?_
  exact lX8_laysAll_L2 zFU (0 : Int32) w
def QX8_takesOne : List (Nat × Instr × Nat) := [(0, .iconst 2, 1), (1, .iload_n 1, 1), (2, .imul, 1), (3, .iload_n 2, 1), (4, .iadd, 1), (5, .istore_n 3, 1), (6, .aload_n 0, 1), (7, .getfield 66, 3), (10, .iload_n 3, 1), (11, .iaload, 1), (12, .ifCond .ne 50, 3), (15, .aload_n 0, 1), (16, .iload_n 1, 1), (17, .invokevirtual 196, 3), (20, .istore 4, 2), (22, .iload 4, 2), (24, .iconst 1, 1), (25, .iadd, 1), (26, .iconst 2, 1), (27, .idiv, 1), (28, .istore 5, 2), (30, .aload_n 0, 1), (31, .iload_n 1, 1), (32, .iconst 0, 1), (33, .iload 4, 2), (35, .iload_n 2, 1), (36, .ifCond .ne 8, 3), (39, .iload 5, 2), (41, .goto 8, 3), (44, .iload 4, 2), (46, .iload 5, 2), (48, .isub, 1), (49, .invokevirtual 199, 3), (52, .aload_n 0, 1), (53, .dup, 1), (54, .getfield 202, 3), (57, .iconst 1, 1), (58, .iadd, 1), (59, .putfield 202, 3), (62, .aload_n 0, 1), (63, .getfield 66, 3), (66, .iload_n 3, 1), (67, .dup2, 1), (68, .iaload, 1), (69, .iconst 1, 1), (70, .isub, 1), (71, .iastore, 1), (72, .aload_n 0, 1), (73, .getfield 72, 3), (76, .iload_n 3, 1), (77, .aload_n 0, 1), (78, .getfield 66, 3), (81, .iload_n 3, 1), (82, .iaload, 1), (83, .invokestatic 178, 3), (86, .iaload, 1), (87, .ireturn, 1)]
set_option maxRecDepth 100000 in
theorem DX8_takesOne : ∀ q ∈ QX8_takesOne, decode cX8_takesOne q.1 = .ok (q.2.1, q.2.2) := by decide +kernel
abbrev MX8_takesOne : zM := (cX8_takesOne, "EndSumsModel", 6, (some .int), { frames := 6, cells := 0, slots := 0, locals := 152 })
def fX8_takesOne (a1 : Int32) (a2 : Int32) (w : zW) : Option (Int32 × zW) :=
  lt (((2 : Int32) * a1) + a2) fun v1 =>
  zg (zin v1 10) <|
  lt (fun (w2 : zW) =>
    zg (zin v1 10) <|
    zg (zin v1 10) <| lt (zsI w2 83 v1.toNatClampNeg ((zI w2 83 v1.toNatClampNeg) - (1 : Int32))) fun w3 =>
    zg (zin v1 10) <|
    bd (fX8_place v1 (zI w3 83 v1.toNatClampNeg) w3) fun v6 w4 =>
    zg (zin v6 640) <|
    some ((zI w4 85 v6.toNatClampNeg), w4)) fun j2 =>
  if ¬ (zI w 83 v1.toNatClampNeg) = (0 : Int32) then
    j2 w
  else
  bd (fX8_takesItems a1 w) fun v10 w8 =>
  lt ((v10 + (1 : Int32)) / (2 : Int32)) fun v11 =>
  lt (if ¬ a2 = (0 : Int32) then (v10 - v11) else v11) fun v13 =>
  bd (fX8_lays_ a1 (0 : Int32) v10 v13 w8) fun _ w14 =>
  lt (zsI w14 74 24 ((zI w14 74 24) + (1 : Int32))) fun w17 =>
  j2 w17
theorem YX8_takesOne : zYV yX8_takesOne MX8_takesOne 2 := ⟨wk_1118, wk_9, ⟨wk_1117, ws_99⟩, ⟨by decide, by decide, by decide +kernel⟩, rfl, rfl⟩
set_option maxHeartbeats 4000000 in
set_option maxRecDepth 100000 in
theorem tX8_takesOne (a1 : Int32) (a2 : Int32) (w : zW) : Sm yX8_takesOne MX8_takesOne zi [.ref 74, .int a1, .int a2] w (fX8_takesOne a1 a2 w) := by
  refine Sm_of (lv0 := [(0, .ref 74), (1, .int a1), (2, .int a2)]) (by decide) rfl (fun _ => Nat.le_of_ble_eq_true rfl) rfl ?_
  unfold fX8_takesOne
  refine tz_iconst (2 : Int32) zk_iconst_2 (zd DX8_takesOne 0 rfl) ?_
  refine tz_iload_n 1 rfl (zd DX8_takesOne 1 rfl) ?_
  refine tz_imul (zd DX8_takesOne 2 rfl) ?_
  refine tz_iload_n 2 rfl (zd DX8_takesOne 3 rfl) ?_
  refine tz_iadd (zd DX8_takesOne 4 rfl) ?_
  refine tz_lti (fun v1 => ?_)
  refine tz_istore_n [(3, .int v1), (0, .ref 74), (1, .int a1), (2, .int a2)] (Nat.le_of_ble_eq_true rfl) rfl (zd DX8_takesOne 5 rfl) ?_
  refine tz_aload_n 1 rfl (zd DX8_takesOne 6 rfl) ?_
  refine tz_getR 83 18 kz8 (zs_74) (by decide) (by decide) rfl wk_875 (zd DX8_takesOne 7 rfl) ?_
  refine tz_iload_n 0 rfl (zd DX8_takesOne 8 rfl) ?_
  refine tz_iald (zs_83.1) (zs_83.2) (zd DX8_takesOne 9 rfl) ?_
  refine tz_jp (P := fun j => ∀ (w2 : zW), Tz MX8_takesOne (zRet zi) (j w2) 62 [(0, .ref 74), (3, .int v1)] [] w2) ?_ (fun j2 hj2 => ?_)
  · intro w2
    refine tz_aload_n 0 rfl (zd DX8_takesOne 39 rfl) ?_
    refine tz_getR 83 18 kz8 (zs_74) (by decide) (by decide) rfl wk_875 (zd DX8_takesOne 40 rfl) ?_
    refine tz_iload_n 1 rfl (zd DX8_takesOne 41 rfl) ?_
    refine tz_dup2 (zd DX8_takesOne 42 rfl) ?_
    refine tz_iald (zs_83.1) (zs_83.2) (zd DX8_takesOne 43 rfl) ?_
    refine tz_iconst (1 : Int32) zk_iconst_1 (zd DX8_takesOne 44 rfl) ?_
    refine tz_isub (zd DX8_takesOne 45 rfl) ?_
    refine tz_iast (zs_83.1) (zs_83.2) (zd DX8_takesOne 46 rfl) (fun w3 => ?_)
    refine tz_aload_n 0 rfl (zd DX8_takesOne 47 rfl) ?_
    refine tz_getR 85 20 kz8 (zs_74) (by decide) (by decide) rfl wk_877 (zd DX8_takesOne 48 rfl) ?_
    refine tz_iload_n 1 rfl (zd DX8_takesOne 49 rfl) ?_
    refine tz_aload_n 0 rfl (zd DX8_takesOne 50 rfl) ?_
    refine tz_getR 83 18 kz8 (zs_74) (by decide) (by decide) rfl wk_875 (zd DX8_takesOne 51 rfl) ?_
    refine tz_iload_n 1 rfl (zd DX8_takesOne 52 rfl) ?_
    refine tz_iald (zs_83.1) (zs_83.2) (zd DX8_takesOne 53 rfl) ?_
    refine tz_cS_i (rest := [.ref 85]) (YX8_place) wk_1054 (tX8_place v1 (zI w3 83 v1.toNatClampNeg) w3) rfl rfl (Nat.le_of_ble_eq_true rfl) ⟨Nat.le_of_ble_eq_true rfl, Nat.le_of_ble_eq_true rfl⟩ (zd DX8_takesOne 54 rfl) (fun v6 w4 e5 => ?_)
    refine tz_iald (zs_85.1) (zs_85.2) (zd DX8_takesOne 55 rfl) ?_
    exact tz_iret rfl (zd DX8_takesOne 56 rfl)
  refine tz_if_ne 62 (zd DX8_takesOne 10 rfl) rfl (fun q7 => ?_) (fun q7 => ?_)
  · refine tz_lv (lv2 := [(0, .ref 74), (3, .int v1)]) [1, 0] rfl ?_
    exact hj2 w
  refine tz_aload_n 1 rfl (zd DX8_takesOne 11 rfl) ?_
  refine tz_iload_n 2 rfl (zd DX8_takesOne 12 rfl) ?_
  refine tz_cV_i kz8 (zs_74) rfl (rest := []) (YX8_takesItems) wk_1038 (tX8_takesItems a1 w) rfl rfl (Nat.le_of_ble_eq_true rfl) ⟨Nat.le_of_ble_eq_true rfl, Nat.le_of_ble_eq_true rfl⟩ (zd DX8_takesOne 13 rfl) (fun v10 w8 e9 => ?_)
  refine tz_istore [(4, .int v10), (3, .int v1), (0, .ref 74), (1, .int a1), (2, .int a2)] (Nat.le_of_ble_eq_true rfl) rfl (zd DX8_takesOne 14 rfl) ?_
  refine tz_iload 0 rfl (zd DX8_takesOne 15 rfl) ?_
  refine tz_iconst (1 : Int32) zk_iconst_1 (zd DX8_takesOne 16 rfl) ?_
  refine tz_iadd (zd DX8_takesOne 17 rfl) ?_
  refine tz_iconst (2 : Int32) zk_iconst_2 (zd DX8_takesOne 18 rfl) ?_
  refine tz_idiv (by decide) (zd DX8_takesOne 19 rfl) ?_
  refine tz_lti (fun v11 => ?_)
  refine tz_istore [(5, .int v11), (4, .int v10), (3, .int v1), (0, .ref 74), (1, .int a1), (2, .int a2)] (Nat.le_of_ble_eq_true rfl) rfl (zd DX8_takesOne 20 rfl) ?_
  refine tz_aload_n 3 rfl (zd DX8_takesOne 21 rfl) ?_
  refine tz_iload_n 4 rfl (zd DX8_takesOne 22 rfl) ?_
  refine tz_iconst (0 : Int32) zk_iconst_0 (zd DX8_takesOne 23 rfl) ?_
  refine tz_iload 1 rfl (zd DX8_takesOne 24 rfl) ?_
  refine tz_iload_n 5 rfl (zd DX8_takesOne 25 rfl) ?_
  refine tz_dia (P := fun F => ∀ v : Int32, Tz MX8_takesOne (zRet zi) (F v) 49 [(5, .int v11), (4, .int v10), (3, .int v1), (0, .ref 74), (1, .int a1), (2, .int a2)] (.int v :: [.int v10, .int (0 : Int32), .int a1, .ref 74]) w8) ?_ (fun _ hJ49 => ?_)
  · intro v13
    refine tz_cV_n kz8 (zs_74) rfl (rest := []) (YX8_lays_) wk_1057 (tX8_lays_ a1 (0 : Int32) v10 v13 w8) rfl rfl (Nat.le_of_ble_eq_true rfl) ⟨Nat.le_of_ble_eq_true rfl, Nat.le_of_ble_eq_true rfl⟩ (zd DX8_takesOne 32 rfl) (fun v16 w14 e15 => ?_)
    refine tz_aload_n 3 rfl (zd DX8_takesOne 33 rfl) ?_
    refine tz_dupa (zd DX8_takesOne 34 rfl) ?_
    refine tz_getI 24 kz8 (zs_74) (by decide) rfl wk_881 (zd DX8_takesOne 35 rfl) ?_
    refine tz_iconst (1 : Int32) zk_iconst_1 (zd DX8_takesOne 36 rfl) ?_
    refine tz_iadd (zd DX8_takesOne 37 rfl) ?_
    refine tz_putI 24 kz8 (zs_74) (by decide) rfl rfl wk_881 (zd DX8_takesOne 38 rfl) (fun w17 => ?_)
    refine tz_lv (lv2 := [(0, .ref 74), (3, .int v1)]) [3, 2] rfl ?_
    exact hj2 w17
  refine tz_ite ?_
  refine tz_if_ne 44 (zd DX8_takesOne 26 rfl) rfl (fun q12 => ?_) (fun q12 => ?_)
  · refine tz_iload 1 rfl (zd DX8_takesOne 29 rfl) ?_
    refine tz_iload 0 rfl (zd DX8_takesOne 30 rfl) ?_
    refine tz_isub (zd DX8_takesOne 31 rfl) ?_
    exact hJ49 (v10 - v11)
  refine tz_iload 0 rfl (zd DX8_takesOne 27 rfl) ?_
  refine tz_goto 49 (zd DX8_takesOne 28 rfl) rfl ?_
  exact hJ49 v11
def QX8_copiesTo : List (Nat × Instr × Nat) := [(0, .iconst 0, 1), (1, .istore_n 3, 1), (2, .iload_n 3, 1), (3, .iconst 2, 1), (4, .if_icmp .ge 133, 3), (7, .aload_n 0, 1), (8, .getfield 66, 3), (11, .iconst 2, 1), (12, .iload_n 2, 1), (13, .imul, 1), (14, .iload_n 3, 1), (15, .iadd, 1), (16, .aload_n 0, 1), (17, .getfield 66, 3), (20, .iconst 2, 1), (21, .iload_n 1, 1), (22, .imul, 1), (23, .iload_n 3, 1), (24, .iadd, 1), (25, .iaload, 1), (26, .iastore, 1), (27, .iconst 0, 1), (28, .istore 4, 2), (30, .iload 4, 2), (32, .aload_n 0, 1), (33, .getfield 66, 3), (36, .iconst 2, 1), (37, .iload_n 1, 1), (38, .imul, 1), (39, .iload_n 3, 1), (40, .iadd, 1), (41, .iaload, 1), (42, .if_icmp .ge 89, 3), (45, .iconst 2, 1), (46, .iload_n 1, 1), (47, .imul, 1), (48, .iload_n 3, 1), (49, .iadd, 1), (50, .iload 4, 2), (52, .invokestatic 178, 3), (55, .istore 5, 2), (57, .iconst 2, 1), (58, .iload_n 2, 1), (59, .imul, 1), (60, .iload_n 3, 1), (61, .iadd, 1), (62, .iload 4, 2), (64, .invokestatic 178, 3), (67, .istore 6, 2), (69, .aload_n 0, 1), (70, .getfield 69, 3), (73, .iload 6, 2), (75, .aload_n 0, 1), (76, .getfield 69, 3), (79, .iload 5, 2), (81, .iaload, 1), (82, .iastore, 1), (83, .aload_n 0, 1), (84, .getfield 72, 3), (87, .iload 6, 2), (89, .aload_n 0, 1), (90, .getfield 72, 3), (93, .iload 5, 2), (95, .iaload, 1), (96, .iastore, 1), (97, .aload_n 0, 1), (98, .getfield 75, 3), (101, .iload 6, 2), (103, .aload_n 0, 1), (104, .getfield 75, 3), (107, .iload 5, 2), (109, .laload, 1), (110, .lastore, 1), (111, .aload_n 0, 1), (112, .getfield 78, 3), (115, .iload 6, 2), (117, .aload_n 0, 1), (118, .getfield 78, 3), (121, .iload 5, 2), (123, .laload, 1), (124, .lastore, 1), (125, .iinc 4 1, 3), (128, .goto (-98), 3), (131, .iinc 3 1, 3), (134, .goto (-132), 3), (137, .return_, 1)]
set_option maxRecDepth 100000 in
theorem DX8_copiesTo : ∀ q ∈ QX8_copiesTo, decode cX8_copiesTo q.1 = .ok (q.2.1, q.2.2) := by decide +kernel
abbrev MX8_copiesTo : zM := (cX8_copiesTo, "EndSumsModel", 7, none, { frames := 1, cells := 0, slots := 0, locals := 21 })
def fX8_copiesTo_L30 (x1 : Int32) (x2 : Int32) (x3 : Int32) (j2 : Int32 → zW → Option (Unit × zW)) : Nat → Int32 → zW → Option (Unit × zW)
  | 0, _, _ => none
  | n + 1, x4, w =>
    zg (zin (((2 : Int32) * x1) + x3) 10) <|
    if (zI w 83 (((2 : Int32) * x1) + x3).toNatClampNeg) ≤ x4 then
      j2 (x3 + (1 : Int32)) w
    else
    bd (fX8_place (((2 : Int32) * x1) + x3) x4 w) fun v6 w4 =>
    bd (fX8_place (((2 : Int32) * x2) + x3) x4 w4) fun v9 w7 =>
    zg (zin v6 640) <|
    zg (zin v9 640) <| lt (zsI w7 84 v9.toNatClampNeg (zI w7 84 v6.toNatClampNeg)) fun w10 =>
    zg (zin v6 640) <|
    zg (zin v9 640) <| lt (zsI w10 85 v9.toNatClampNeg (zI w10 85 v6.toNatClampNeg)) fun w11 =>
    zg (zin v6 640) <|
    zg (zin v9 640) <| lt (zsL w11 86 v9.toNatClampNeg (zL w11 86 v6.toNatClampNeg)) fun w12 =>
    zg (zin v6 640) <|
    zg (zin v9 640) <| lt (zsL w12 87 v9.toNatClampNeg (zL w12 87 v6.toNatClampNeg)) fun w13 =>
    fX8_copiesTo_L30 x1 x2 x3 j2 n (x4 + (1 : Int32)) w13
def fX8_copiesTo_L2 (x1 : Int32) (x2 : Int32) : Nat → Int32 → zW → Option (Unit × zW)
  | 0, _, _ => none
  | n + 1, x3, w =>
    if (2 : Int32) ≤ x3 then
      some ((), w)
    else
    zg (zin (((2 : Int32) * x1) + x3) 10) <|
    zg (zin (((2 : Int32) * x2) + x3) 10) <| lt (zsI w 83 (((2 : Int32) * x2) + x3).toNatClampNeg (zI w 83 (((2 : Int32) * x1) + x3).toNatClampNeg)) fun w2 =>
    fX8_copiesTo_L30 x1 x2 x3 (fX8_copiesTo_L2 x1 x2 n) zFU (0 : Int32) w2
def fX8_copiesTo (a1 : Int32) (a2 : Int32) (w : zW) : Option (Unit × zW) :=
  fX8_copiesTo_L2 a1 a2 zFU (0 : Int32) w
theorem YX8_copiesTo : zYV yX8_copiesTo MX8_copiesTo 2 := ⟨wk_1130, wk_9, ⟨wk_1129, ws_101⟩, ⟨by decide, by decide, by decide +kernel⟩, rfl, rfl⟩
set_option maxHeartbeats 4000000 in
set_option maxRecDepth 100000 in
theorem lX8_copiesTo_L30 (x1 : Int32) (x2 : Int32) (x3 : Int32) (j2 : Int32 → zW → Option (Unit × zW)) (hj2 : ∀ (y3 : Int32) (w : zW), Tz MX8_copiesTo (zRet zn) (j2 y3 w) 2 [(0, .ref 74), (1, .int x1), (2, .int x2), (3, .int y3)] [] w) : ∀ (n : Nat) (x4 : Int32) (w : zW), Tz MX8_copiesTo (zRet zn) (fX8_copiesTo_L30 x1 x2 x3 j2 n x4 w) 30 [(0, .ref 74), (1, .int x1), (2, .int x2), (3, .int x3), (4, .int x4)] [] w := by
  intro n
  induction n with
  | zero => intro x4 w; exact tz_eq (fX8_copiesTo_L30.eq_1 _ _ _ _ _ _) tz_none
  | succ n ih =>
    intro x4 w
    refine tz_eq (fX8_copiesTo_L30.eq_2 _ _ _ _ _ _ _) ?_
    refine tz_iload 4 rfl (zd DX8_copiesTo 23 rfl) ?_
    refine tz_aload_n 0 rfl (zd DX8_copiesTo 24 rfl) ?_
    refine tz_getR 83 18 kz8 (zs_74) (by decide) (by decide) rfl wk_875 (zd DX8_copiesTo 25 rfl) ?_
    refine tz_iconst (2 : Int32) zk_iconst_2 (zd DX8_copiesTo 26 rfl) ?_
    refine tz_iload_n 1 rfl (zd DX8_copiesTo 27 rfl) ?_
    refine tz_imul (zd DX8_copiesTo 28 rfl) ?_
    refine tz_iload_n 3 rfl (zd DX8_copiesTo 29 rfl) ?_
    refine tz_iadd (zd DX8_copiesTo 30 rfl) ?_
    refine tz_iald (zs_83.1) (zs_83.2) (zd DX8_copiesTo 31 rfl) ?_
    refine tz_icmp_ge 131 (zd DX8_copiesTo 32 rfl) rfl (fun q3 => ?_) (fun q3 => ?_)
    · refine tz_iinc 3 (1 : Int32) [(3, .int (x3 + (1 : Int32))), (0, .ref 74), (1, .int x1), (2, .int x2), (4, .int x4)] rfl zk_iconst_1 (Nat.le_of_ble_eq_true rfl) rfl (zd DX8_copiesTo 83 rfl) ?_
      refine tz_goto 2 (zd DX8_copiesTo 84 rfl) rfl ?_
      refine tz_lv (lv2 := [(0, .ref 74), (1, .int x1), (2, .int x2), (3, .int (x3 + (1 : Int32)))]) [1, 2, 3, 0] rfl ?_
      exact hj2 (x3 + (1 : Int32)) w
    refine tz_iconst (2 : Int32) zk_iconst_2 (zd DX8_copiesTo 33 rfl) ?_
    refine tz_iload_n 1 rfl (zd DX8_copiesTo 34 rfl) ?_
    refine tz_imul (zd DX8_copiesTo 35 rfl) ?_
    refine tz_iload_n 3 rfl (zd DX8_copiesTo 36 rfl) ?_
    refine tz_iadd (zd DX8_copiesTo 37 rfl) ?_
    refine tz_iload 4 rfl (zd DX8_copiesTo 38 rfl) ?_
    refine tz_cS_i (rest := []) (YX8_place) wk_1054 (tX8_place (((2 : Int32) * x1) + x3) x4 w) rfl rfl (Nat.le_of_ble_eq_true rfl) ⟨Nat.le_of_ble_eq_true rfl, Nat.le_of_ble_eq_true rfl⟩ (zd DX8_copiesTo 39 rfl) (fun v6 w4 e5 => ?_)
    refine tz_istore [(5, .int v6), (0, .ref 74), (1, .int x1), (2, .int x2), (3, .int x3), (4, .int x4)] (Nat.le_of_ble_eq_true rfl) rfl (zd DX8_copiesTo 40 rfl) ?_
    refine tz_iconst (2 : Int32) zk_iconst_2 (zd DX8_copiesTo 41 rfl) ?_
    refine tz_iload_n 3 rfl (zd DX8_copiesTo 42 rfl) ?_
    refine tz_imul (zd DX8_copiesTo 43 rfl) ?_
    refine tz_iload_n 4 rfl (zd DX8_copiesTo 44 rfl) ?_
    refine tz_iadd (zd DX8_copiesTo 45 rfl) ?_
    refine tz_iload 5 rfl (zd DX8_copiesTo 46 rfl) ?_
    refine tz_cS_i (rest := []) (YX8_place) wk_1054 (tX8_place (((2 : Int32) * x2) + x3) x4 w4) rfl rfl (Nat.le_of_ble_eq_true rfl) ⟨Nat.le_of_ble_eq_true rfl, Nat.le_of_ble_eq_true rfl⟩ (zd DX8_copiesTo 47 rfl) (fun v9 w7 e8 => ?_)
    refine tz_istore [(6, .int v9), (5, .int v6), (0, .ref 74), (1, .int x1), (2, .int x2), (3, .int x3), (4, .int x4)] (Nat.le_of_ble_eq_true rfl) rfl (zd DX8_copiesTo 48 rfl) ?_
    refine tz_aload_n 2 rfl (zd DX8_copiesTo 49 rfl) ?_
    refine tz_getR 84 19 kz8 (zs_74) (by decide) (by decide) rfl wk_876 (zd DX8_copiesTo 50 rfl) ?_
    refine tz_iload 0 rfl (zd DX8_copiesTo 51 rfl) ?_
    refine tz_aload_n 2 rfl (zd DX8_copiesTo 52 rfl) ?_
    refine tz_getR 84 19 kz8 (zs_74) (by decide) (by decide) rfl wk_876 (zd DX8_copiesTo 53 rfl) ?_
    refine tz_iload 1 rfl (zd DX8_copiesTo 54 rfl) ?_
    refine tz_iald (zs_84.1) (zs_84.2) (zd DX8_copiesTo 55 rfl) ?_
    refine tz_iast (zs_84.1) (zs_84.2) (zd DX8_copiesTo 56 rfl) (fun w10 => ?_)
    refine tz_aload_n 2 rfl (zd DX8_copiesTo 57 rfl) ?_
    refine tz_getR 85 20 kz8 (zs_74) (by decide) (by decide) rfl wk_877 (zd DX8_copiesTo 58 rfl) ?_
    refine tz_iload 0 rfl (zd DX8_copiesTo 59 rfl) ?_
    refine tz_aload_n 2 rfl (zd DX8_copiesTo 60 rfl) ?_
    refine tz_getR 85 20 kz8 (zs_74) (by decide) (by decide) rfl wk_877 (zd DX8_copiesTo 61 rfl) ?_
    refine tz_iload 1 rfl (zd DX8_copiesTo 62 rfl) ?_
    refine tz_iald (zs_85.1) (zs_85.2) (zd DX8_copiesTo 63 rfl) ?_
    refine tz_iast (zs_85.1) (zs_85.2) (zd DX8_copiesTo 64 rfl) (fun w11 => ?_)
    refine tz_aload_n 2 rfl (zd DX8_copiesTo 65 rfl) ?_
    refine tz_getR 86 21 kz8 (zs_74) (by decide) (by decide) rfl wk_878 (zd DX8_copiesTo 66 rfl) ?_
    refine tz_iload 0 rfl (zd DX8_copiesTo 67 rfl) ?_
    refine tz_aload_n 2 rfl (zd DX8_copiesTo 68 rfl) ?_
    refine tz_getR 86 21 kz8 (zs_74) (by decide) (by decide) rfl wk_878 (zd DX8_copiesTo 69 rfl) ?_
    refine tz_iload 1 rfl (zd DX8_copiesTo 70 rfl) ?_
    refine tz_lald (zs_86.1) (zs_86.2) (zd DX8_copiesTo 71 rfl) ?_
    refine tz_last (zs_86.1) (zs_86.2) (zd DX8_copiesTo 72 rfl) (fun w12 => ?_)
    refine tz_aload_n 2 rfl (zd DX8_copiesTo 73 rfl) ?_
    refine tz_getR 87 22 kz8 (zs_74) (by decide) (by decide) rfl wk_879 (zd DX8_copiesTo 74 rfl) ?_
    refine tz_iload 0 rfl (zd DX8_copiesTo 75 rfl) ?_
    refine tz_aload_n 2 rfl (zd DX8_copiesTo 76 rfl) ?_
    refine tz_getR 87 22 kz8 (zs_74) (by decide) (by decide) rfl wk_879 (zd DX8_copiesTo 77 rfl) ?_
    refine tz_iload 1 rfl (zd DX8_copiesTo 78 rfl) ?_
    refine tz_lald (zs_87.1) (zs_87.2) (zd DX8_copiesTo 79 rfl) ?_
    refine tz_last (zs_87.1) (zs_87.2) (zd DX8_copiesTo 80 rfl) (fun w13 => ?_)
    refine tz_iinc 6 (1 : Int32) [(4, .int (x4 + (1 : Int32))), (6, .int v9), (5, .int v6), (0, .ref 74), (1, .int x1), (2, .int x2), (3, .int x3)] rfl zk_iconst_1 (Nat.le_of_ble_eq_true rfl) rfl (zd DX8_copiesTo 81 rfl) ?_
    refine tz_goto 30 (zd DX8_copiesTo 82 rfl) rfl ?_
    refine tz_lv (lv2 := [(0, .ref 74), (1, .int x1), (2, .int x2), (3, .int x3), (4, .int (x4 + (1 : Int32)))]) [3, 4, 5, 6, 0] rfl ?_
    exact ih (x4 + (1 : Int32)) w13
set_option maxHeartbeats 4000000 in
set_option maxRecDepth 100000 in
theorem lX8_copiesTo_L2 (x1 : Int32) (x2 : Int32) : ∀ (n : Nat) (x3 : Int32) (w : zW), Tz MX8_copiesTo (zRet zn) (fX8_copiesTo_L2 x1 x2 n x3 w) 2 [(0, .ref 74), (1, .int x1), (2, .int x2), (3, .int x3)] [] w := by
  intro n
  induction n with
  | zero => intro x3 w; exact tz_eq (fX8_copiesTo_L2.eq_1 _ _ _ _) tz_none
  | succ n ih =>
    intro x3 w
    refine tz_eq (fX8_copiesTo_L2.eq_2 _ _ _ _ _) ?_
    refine tz_iload_n 3 rfl (zd DX8_copiesTo 2 rfl) ?_
    refine tz_iconst (2 : Int32) zk_iconst_2 (zd DX8_copiesTo 3 rfl) ?_
    refine tz_icmp_ge 137 (zd DX8_copiesTo 4 rfl) rfl (fun q1 => ?_) (fun q1 => ?_)
    · exact tz_vret rfl (zd DX8_copiesTo 85 rfl)
    refine tz_aload_n 0 rfl (zd DX8_copiesTo 5 rfl) ?_
    refine tz_getR 83 18 kz8 (zs_74) (by decide) (by decide) rfl wk_875 (zd DX8_copiesTo 6 rfl) ?_
    refine tz_iconst (2 : Int32) zk_iconst_2 (zd DX8_copiesTo 7 rfl) ?_
    refine tz_iload_n 2 rfl (zd DX8_copiesTo 8 rfl) ?_
    refine tz_imul (zd DX8_copiesTo 9 rfl) ?_
    refine tz_iload_n 3 rfl (zd DX8_copiesTo 10 rfl) ?_
    refine tz_iadd (zd DX8_copiesTo 11 rfl) ?_
    refine tz_aload_n 0 rfl (zd DX8_copiesTo 12 rfl) ?_
    refine tz_getR 83 18 kz8 (zs_74) (by decide) (by decide) rfl wk_875 (zd DX8_copiesTo 13 rfl) ?_
    refine tz_iconst (2 : Int32) zk_iconst_2 (zd DX8_copiesTo 14 rfl) ?_
    refine tz_iload_n 1 rfl (zd DX8_copiesTo 15 rfl) ?_
    refine tz_imul (zd DX8_copiesTo 16 rfl) ?_
    refine tz_iload_n 3 rfl (zd DX8_copiesTo 17 rfl) ?_
    refine tz_iadd (zd DX8_copiesTo 18 rfl) ?_
    refine tz_iald (zs_83.1) (zs_83.2) (zd DX8_copiesTo 19 rfl) ?_
    refine tz_iast (zs_83.1) (zs_83.2) (zd DX8_copiesTo 20 rfl) (fun w2 => ?_)
    refine tz_iconst (0 : Int32) zk_iconst_0 (zd DX8_copiesTo 21 rfl) ?_
    refine tz_istore [(4, .int (0 : Int32)), (0, .ref 74), (1, .int x1), (2, .int x2), (3, .int x3)] (Nat.le_of_ble_eq_true rfl) rfl (zd DX8_copiesTo 22 rfl) ?_
    refine tz_lv (lv2 := [(0, .ref 74), (1, .int x1), (2, .int x2), (3, .int x3), (4, .int (0 : Int32))]) [1, 2, 3, 4, 0] rfl ?_
    exact lX8_copiesTo_L30 x1 x2 x3 _ ih zFU (0 : Int32) w2
set_option maxHeartbeats 4000000 in
set_option maxRecDepth 100000 in
theorem tX8_copiesTo (a1 : Int32) (a2 : Int32) (w : zW) : Sm yX8_copiesTo MX8_copiesTo zn [.ref 74, .int a1, .int a2] w (fX8_copiesTo a1 a2 w) := by
  refine Sm_of (lv0 := [(0, .ref 74), (1, .int a1), (2, .int a2)]) (by decide) rfl (fun _ => Nat.le_of_ble_eq_true rfl) rfl ?_
  unfold fX8_copiesTo
  refine tz_iconst (0 : Int32) zk_iconst_0 (zd DX8_copiesTo 0 rfl) ?_
  refine tz_istore_n [(3, .int (0 : Int32)), (0, .ref 74), (1, .int a1), (2, .int a2)] (Nat.le_of_ble_eq_true rfl) rfl (zd DX8_copiesTo 1 rfl) ?_
  refine tz_lv (lv2 := [(0, .ref 74), (1, .int a1), (2, .int a2), (3, .int (0 : Int32))]) [1, 2, 3, 0] rfl ?_
  exact lX8_copiesTo_L2 a1 a2 zFU (0 : Int32) w
