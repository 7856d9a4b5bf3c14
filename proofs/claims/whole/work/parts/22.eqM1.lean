/-! PRINTED by wip/whole/gen6.py -/
theorem i_Mo_flow_0 : ix_nx mMo_flow 0 = some (0, .aload_n 0, 1, none, [], 0) := rfl
theorem i_Mo_flow_1 : ix_nx mMo_flow 1 = some (0, .iconst 1, 2, none, [], 0) := rfl
theorem i_Mo_flow_2 : ix_nx mMo_flow 2 = some (0, .iconst 2, 3, none, [], 0) := rfl
theorem i_Mo_flow_3 : ix_nx mMo_flow 3 = some (3, .invokevirtual 206, 6, none, [0, 181, 195], 0) := rfl
theorem i_Mo_flow_6 : ix_nx mMo_flow 6 = some (4, .ireturn, 7, none, [], 0) := rfl
set_option maxRecDepth 20000 in
set_option maxHeartbeats 1000000 in
theorem e_Mo_flow (a0 : Nat) (h : ixH) : ix_D mMo_flow 0 [some (.ref a0)] [] h = (ix_M mMo_layFlow [.ref a0, .int 1, .int 2] h).bind fun r => ix_kI r fun v2 h1 => some ([.int v2], h1) := by
  refine ix_K_px kq_Mo_flow i_Mo_flow_0 rfl rfl ?_
  refine ix_K_ci kq_Mo_flow i_Mo_flow_1 rfl kci_1 ?_
  refine ix_K_ci kq_Mo_flow i_Mo_flow_2 rfl kci_2 ?_
  refine ix_K_callI (as := [.ref a0, .int 1, .int 2]) (rest := []) kq_Mo_flow i_Mo_flow_3 rfl kq_Mo_layFlow (by decide) rfl (Or.inl rfl) (fun v2 h1 => ?_)
  exact ix_D_ret kq_Mo_flow i_Mo_flow_6 (ix_rtI rfl _)
theorem x_Mo_flow {a0 : Nat} {h h1 : ixH} {v : Int32} (hr : ix_rc h a0 = some 11) (hd : ix_D mMo_flow 0 [some (.ref a0)] [] h = some ([.int v], h1)) : ix_M mMo_flow [.ref a0] h = some ([.int v], h1) := ix_M_of (ix_ent_i kq_Mo_flow rfl hr rfl (Nat.le_of_ble_eq_true rfl) rfl) hd (ix_okrI (Or.inl rfl) v)
theorem i_Mo_layFlow_0 : ix_nx mMo_layFlow 0 = some (0, .aload_n 0, 1, none, [], 0) := rfl
theorem i_Mo_layFlow_1 : ix_nx mMo_layFlow 1 = some (0, .iload_n 1, 2, none, [], 0) := rfl
theorem i_Mo_layFlow_2 : ix_nx mMo_layFlow 2 = some (2, .putfield 172, 5, none, [11, 12, 0, 102], 0) := rfl
theorem i_Mo_layFlow_5 : ix_nx mMo_layFlow 5 = some (0, .aload_n 0, 6, none, [], 0) := rfl
theorem i_Mo_layFlow_6 : ix_nx mMo_layFlow 6 = some (0, .iload_n 2, 7, none, [], 0) := rfl
theorem i_Mo_layFlow_7 : ix_nx mMo_layFlow 7 = some (2, .putfield 185, 10, none, [11, 13, 0, 103], 0) := rfl
theorem i_Mo_layFlow_10 : ix_nx mMo_layFlow 10 = some (0, .iconst 0, 11, none, [], 0) := rfl
theorem i_Mo_layFlow_11 : ix_nx mMo_layFlow 11 = some (0, .istore_n 3, 12, none, [], 0) := rfl
theorem i_Mo_layFlow_12 : ix_nx mMo_layFlow 12 = some (0, .iload_n 3, 13, some [true, false, false, true, false], [], 0) := rfl
theorem i_Mo_layFlow_13 : ix_nx mMo_layFlow 13 = some (0, .bipush 64, 15, none, [], 0) := rfl
theorem i_Mo_layFlow_15 : ix_nx mMo_layFlow 15 = some (0, .if_icmp .ge 25, 18, none, [], 0) := rfl
theorem i_Mo_layFlow_18 : ix_nx mMo_layFlow 18 = some (0, .aload_n 0, 19, none, [], 0) := rfl
theorem i_Mo_layFlow_19 : ix_nx mMo_layFlow 19 = some (1, .getfield 39, 22, none, [11, 9, 2, 99], 0) := rfl
theorem i_Mo_layFlow_22 : ix_nx mMo_layFlow 22 = some (0, .iload_n 3, 23, none, [], 0) := rfl
theorem i_Mo_layFlow_23 : ix_nx mMo_layFlow 23 = some (0, .bipush (-6), 25, none, [], 0) := rfl
theorem i_Mo_layFlow_25 : ix_nx mMo_layFlow 25 = some (2, .iastore, 26, none, [], 0) := rfl
theorem i_Mo_layFlow_26 : ix_nx mMo_layFlow 26 = some (0, .aload_n 0, 27, none, [], 0) := rfl
theorem i_Mo_layFlow_27 : ix_nx mMo_layFlow 27 = some (1, .getfield 42, 30, none, [11, 10, 2, 100], 0) := rfl
theorem i_Mo_layFlow_30 : ix_nx mMo_layFlow 30 = some (0, .iload_n 3, 31, none, [], 0) := rfl
theorem i_Mo_layFlow_31 : ix_nx mMo_layFlow 31 = some (0, .bipush (-6), 33, none, [], 0) := rfl
theorem i_Mo_layFlow_33 : ix_nx mMo_layFlow 33 = some (2, .iastore, 34, none, [], 0) := rfl
theorem i_Mo_layFlow_34 : ix_nx mMo_layFlow 34 = some (0, .iinc 3 1, 37, none, [], 0) := rfl
theorem i_Mo_layFlow_37 : ix_nx mMo_layFlow 37 = some (0, .goto (-25), 40, none, [], 0) := rfl
theorem i_Mo_layFlow_40 : ix_nx mMo_layFlow 40 = some (0, .iconst 0, 41, none, [], 0) := rfl
theorem i_Mo_layFlow_41 : ix_nx mMo_layFlow 41 = some (0, .istore_n 3, 42, none, [], 0) := rfl
theorem i_Mo_layFlow_42 : ix_nx mMo_layFlow 42 = some (0, .aload_n 0, 43, none, [], 0) := rfl
theorem i_Mo_layFlow_43 : ix_nx mMo_layFlow 43 = some (3, .invokevirtual 200, 46, none, [0, 182, 196], 0) := rfl
theorem i_Mo_layFlow_46 : ix_nx mMo_layFlow 46 = some (0, .istore 4, 48, none, [], 0) := rfl
theorem i_Mo_layFlow_48 : ix_nx mMo_layFlow 48 = some (0, .iload 4, 50, some [true, false, false, true, true], [], 0) := rfl
theorem i_Mo_layFlow_50 : ix_nx mMo_layFlow 50 = some (0, .ifCond .lt 21, 53, none, [], 0) := rfl
theorem i_Mo_layFlow_53 : ix_nx mMo_layFlow 53 = some (0, .aload_n 0, 54, none, [], 0) := rfl
theorem i_Mo_layFlow_54 : ix_nx mMo_layFlow 54 = some (0, .iload 4, 56, none, [], 0) := rfl
theorem i_Mo_layFlow_56 : ix_nx mMo_layFlow 56 = some (3, .invokevirtual 203, 59, none, [0, 188, 197], 0) := rfl
theorem i_Mo_layFlow_59 : ix_nx mMo_layFlow 59 = some (0, .iinc 3 1, 62, none, [], 0) := rfl
theorem i_Mo_layFlow_62 : ix_nx mMo_layFlow 62 = some (0, .aload_n 0, 63, none, [], 0) := rfl
theorem i_Mo_layFlow_63 : ix_nx mMo_layFlow 63 = some (3, .invokevirtual 200, 66, none, [0, 182, 196], 0) := rfl
theorem i_Mo_layFlow_66 : ix_nx mMo_layFlow 66 = some (0, .istore 4, 68, none, [], 0) := rfl
theorem i_Mo_layFlow_68 : ix_nx mMo_layFlow 68 = some (0, .goto (-20), 71, none, [], 0) := rfl
theorem i_Mo_layFlow_71 : ix_nx mMo_layFlow 71 = some (0, .iload_n 3, 72, none, [], 0) := rfl
theorem i_Mo_layFlow_72 : ix_nx mMo_layFlow 72 = some (4, .ireturn, 73, none, [], 0) := rfl
noncomputable def l_Mo_layFlow_12 (a0 : Nat) (x3 : Int32) (h : ixH) : Option (List Value × ixH) := ix_D mMo_layFlow 12 [some (.ref a0), none, none, some (.int x3), none] [] h
noncomputable def l_Mo_layFlow_48 (a0 : Nat) (x3 : Int32) (x4 : Int32) (h : ixH) : Option (List Value × ixH) := ix_D mMo_layFlow 48 [some (.ref a0), none, none, some (.int x3), some (.int x4)] [] h
set_option maxRecDepth 20000 in
set_option maxHeartbeats 1000000 in
theorem e_Mo_layFlow_12 (a0 : Nat) (x3 : Int32) (h : ixH) : l_Mo_layFlow_12 a0 x3 h = if 64 ≤ x3 then (ix_M mMo_search [.ref a0] h).bind fun r => ix_kI r fun v2 h1 => l_Mo_layFlow_48 a0 0 v2 h1 else (ix_gr h a0 11 9).bind fun v3 => (ix_si h v3 x3 (-6)).bind fun h4 => (ix_gr h4 a0 11 10).bind fun v5 => (ix_si h4 v5 x3 (-6)).bind fun h6 => l_Mo_layFlow_12 a0 (x3 + 1) h6 := by
  unfold l_Mo_layFlow_12
  refine ix_K_px kq_Mo_layFlow i_Mo_layFlow_12 rfl rfl ?_
  refine ix_K_cb kq_Mo_layFlow i_Mo_layFlow_13 rfl kcb_64 ?_
  refine ix_K_ic_ge (tgt := 40) kq_Mo_layFlow i_Mo_layFlow_15 rfl (by decide) ?_ ?_
  · refine ix_K_ci kq_Mo_layFlow i_Mo_layFlow_40 rfl kci_0 ?_
    refine ix_K_si (L2 := [some (.ref a0), none, none, some (.int 0), none]) kq_Mo_layFlow i_Mo_layFlow_41 rfl (Or.inr ⟨_, rfl, rfl⟩) (Nat.le_of_ble_eq_true rfl) rfl ?_
    refine ix_K_px kq_Mo_layFlow i_Mo_layFlow_42 rfl rfl ?_
    refine ix_K_callI (as := [.ref a0]) (rest := []) kq_Mo_layFlow i_Mo_layFlow_43 rfl kq_Mo_search (by decide) rfl (Or.inl rfl) (fun v2 h1 => ?_)
    refine ix_K_si (L2 := [some (.ref a0), none, none, some (.int 0), some (.int v2)]) kq_Mo_layFlow i_Mo_layFlow_46 rfl (Or.inl rfl) (Nat.le_of_ble_eq_true rfl) rfl ?_
    exact ix_D_cut i_Mo_layFlow_48 rfl
  · refine ix_K_px kq_Mo_layFlow i_Mo_layFlow_18 rfl rfl ?_
    refine ix_K_gr kq_Mo_layFlow i_Mo_layFlow_19 rfl (fun v3 => ?_)
    refine ix_K_px kq_Mo_layFlow i_Mo_layFlow_22 rfl rfl ?_
    refine ix_K_cb kq_Mo_layFlow i_Mo_layFlow_23 rfl kcb_m6 ?_
    refine ix_K_ti kq_Mo_layFlow i_Mo_layFlow_25 rfl (fun h4 => ?_)
    refine ix_K_px kq_Mo_layFlow i_Mo_layFlow_26 rfl rfl ?_
    refine ix_K_gr kq_Mo_layFlow i_Mo_layFlow_27 rfl (fun v5 => ?_)
    refine ix_K_px kq_Mo_layFlow i_Mo_layFlow_30 rfl rfl ?_
    refine ix_K_cb kq_Mo_layFlow i_Mo_layFlow_31 rfl kcb_m6 ?_
    refine ix_K_ti kq_Mo_layFlow i_Mo_layFlow_33 rfl (fun h6 => ?_)
    refine ix_K_inc (L2 := [some (.ref a0), none, none, some (.int (x3 + 1)), none]) kq_Mo_layFlow i_Mo_layFlow_34 rfl rfl (Nat.le_of_ble_eq_true rfl) kci_1 rfl ?_
    refine ix_K_goto (tgt := 12) kq_Mo_layFlow i_Mo_layFlow_37 rfl (by decide) ?_
    exact ix_D_cut i_Mo_layFlow_12 rfl
set_option maxRecDepth 20000 in
set_option maxHeartbeats 1000000 in
theorem e_Mo_layFlow_48 (a0 : Nat) (x3 : Int32) (x4 : Int32) (h : ixH) : l_Mo_layFlow_48 a0 x3 x4 h = if x4 < 0 then some ([.int x3], h) else (ix_M mMo_turnWay [.ref a0, .int x4] h).bind fun r => ix_kV r fun h1 => (ix_M mMo_search [.ref a0] h1).bind fun r => ix_kI r fun v3 h2 => l_Mo_layFlow_48 a0 (x3 + 1) v3 h2 := by
  unfold l_Mo_layFlow_48
  refine ix_K_px kq_Mo_layFlow i_Mo_layFlow_48 rfl rfl ?_
  refine ix_K_if_lt (tgt := 71) kq_Mo_layFlow i_Mo_layFlow_50 rfl (by decide) ?_ ?_
  · refine ix_K_px kq_Mo_layFlow i_Mo_layFlow_71 rfl rfl ?_
    exact ix_D_ret kq_Mo_layFlow i_Mo_layFlow_72 (ix_rtI rfl _)
  · refine ix_K_px kq_Mo_layFlow i_Mo_layFlow_53 rfl rfl ?_
    refine ix_K_px kq_Mo_layFlow i_Mo_layFlow_54 rfl rfl ?_
    refine ix_K_callV (as := [.ref a0, .int x4]) (rest := []) kq_Mo_layFlow i_Mo_layFlow_56 rfl kq_Mo_turnWay (by decide) rfl rfl (fun h1 => ?_)
    refine ix_K_inc (L2 := [some (.ref a0), none, none, some (.int (x3 + 1)), some (.int x4)]) kq_Mo_layFlow i_Mo_layFlow_59 rfl rfl (Nat.le_of_ble_eq_true rfl) kci_1 rfl ?_
    refine ix_K_px kq_Mo_layFlow i_Mo_layFlow_62 rfl rfl ?_
    refine ix_K_callI (as := [.ref a0]) (rest := []) kq_Mo_layFlow i_Mo_layFlow_63 rfl kq_Mo_search (by decide) rfl (Or.inl rfl) (fun v3 h2 => ?_)
    refine ix_K_si (L2 := [some (.ref a0), none, none, some (.int (x3 + 1)), some (.int v3)]) kq_Mo_layFlow i_Mo_layFlow_66 rfl (Or.inl rfl) (Nat.le_of_ble_eq_true rfl) rfl ?_
    refine ix_K_goto (tgt := 48) kq_Mo_layFlow i_Mo_layFlow_68 rfl (by decide) ?_
    exact ix_D_cut i_Mo_layFlow_48 rfl
set_option maxRecDepth 20000 in
set_option maxHeartbeats 1000000 in
theorem e_Mo_layFlow (a0 : Nat) (x1 : Int32) (x2 : Int32) (h : ixH) : ix_D mMo_layFlow 0 [some (.ref a0), some (.int x1), some (.int x2), none, none] [] h = (ix_pf h a0 11 12 (.int x1)).bind fun h1 => (ix_pf h1 a0 11 13 (.int x2)).bind fun h2 => l_Mo_layFlow_12 a0 0 h2 := by
  refine ix_K_px kq_Mo_layFlow i_Mo_layFlow_0 rfl rfl ?_
  refine ix_K_px kq_Mo_layFlow i_Mo_layFlow_1 rfl rfl ?_
  refine ix_K_pf kq_Mo_layFlow i_Mo_layFlow_2 rfl rfl (fun h1 => ?_)
  refine ix_K_px kq_Mo_layFlow i_Mo_layFlow_5 rfl rfl ?_
  refine ix_K_px kq_Mo_layFlow i_Mo_layFlow_6 rfl rfl ?_
  refine ix_K_pf kq_Mo_layFlow i_Mo_layFlow_7 rfl rfl (fun h2 => ?_)
  refine ix_K_ci kq_Mo_layFlow i_Mo_layFlow_10 rfl kci_0 ?_
  refine ix_K_si (L2 := [some (.ref a0), some (.int x1), some (.int x2), some (.int 0), none]) kq_Mo_layFlow i_Mo_layFlow_11 rfl (Or.inr ⟨_, rfl, rfl⟩) (Nat.le_of_ble_eq_true rfl) rfl ?_
  exact ix_D_cut i_Mo_layFlow_12 rfl
theorem x_Mo_layFlow {a0 : Nat} {x1 : Int32} {x2 : Int32} {h h1 : ixH} {v : Int32} (hr : ix_rc h a0 = some 11) (hd : ix_D mMo_layFlow 0 [some (.ref a0), some (.int x1), some (.int x2), none, none] [] h = some ([.int v], h1)) : ix_M mMo_layFlow [.ref a0, .int x1, .int x2] h = some ([.int v], h1) := ix_M_of (ix_ent_i kq_Mo_layFlow rfl hr rfl (Nat.le_of_ble_eq_true rfl) rfl) hd (ix_okrI (Or.inl rfl) v)
theorem i_Mo_search_0 : ix_nx mMo_search 0 = some (0, .iconst 0, 1, none, [], 0) := rfl
theorem i_Mo_search_1 : ix_nx mMo_search 1 = some (0, .istore_n 1, 2, none, [], 0) := rfl
theorem i_Mo_search_2 : ix_nx mMo_search 2 = some (0, .iload_n 1, 3, some [true, true, false, false, false], [], 0) := rfl
theorem i_Mo_search_3 : ix_nx mMo_search 3 = some (0, .sipush 128, 6, none, [], 0) := rfl
theorem i_Mo_search_6 : ix_nx mMo_search 6 = some (0, .if_icmp .ge 17, 9, none, [], 0) := rfl
theorem i_Mo_search_9 : ix_nx mMo_search 9 = some (0, .aload_n 0, 10, none, [], 0) := rfl
theorem i_Mo_search_10 : ix_nx mMo_search 10 = some (1, .getfield 45, 13, none, [11, 11, 2, 101], 0) := rfl
theorem i_Mo_search_13 : ix_nx mMo_search 13 = some (0, .iload_n 1, 14, none, [], 0) := rfl
theorem i_Mo_search_14 : ix_nx mMo_search 14 = some (0, .bipush (-6), 16, none, [], 0) := rfl
theorem i_Mo_search_16 : ix_nx mMo_search 16 = some (2, .iastore, 17, none, [], 0) := rfl
theorem i_Mo_search_17 : ix_nx mMo_search 17 = some (0, .iinc 1 1, 20, none, [], 0) := rfl
theorem i_Mo_search_20 : ix_nx mMo_search 20 = some (0, .goto (-18), 23, none, [], 0) := rfl
theorem i_Mo_search_23 : ix_nx mMo_search 23 = some (0, .aload_n 0, 24, none, [], 0) := rfl
theorem i_Mo_search_24 : ix_nx mMo_search 24 = some (0, .iconst 0, 25, none, [], 0) := rfl
theorem i_Mo_search_25 : ix_nx mMo_search 25 = some (2, .putfield 168, 28, none, [11, 14, 0, 104], 0) := rfl
theorem i_Mo_search_28 : ix_nx mMo_search 28 = some (0, .iconst 0, 29, none, [], 0) := rfl
theorem i_Mo_search_29 : ix_nx mMo_search 29 = some (0, .istore_n 1, 30, none, [], 0) := rfl
theorem i_Mo_search_30 : ix_nx mMo_search 30 = some (0, .iload_n 1, 31, some [true, true, false, false, false], [], 0) := rfl
theorem i_Mo_search_31 : ix_nx mMo_search 31 = some (0, .aload_n 0, 32, none, [], 0) := rfl
theorem i_Mo_search_32 : ix_nx mMo_search 32 = some (3, .invokevirtual 94, 35, none, [0, 149, 175], 0) := rfl
theorem i_Mo_search_35 : ix_nx mMo_search 35 = some (0, .if_icmp .ge 29, 38, none, [], 0) := rfl
theorem i_Mo_search_38 : ix_nx mMo_search 38 = some (0, .aload_n 0, 39, none, [], 0) := rfl
theorem i_Mo_search_39 : ix_nx mMo_search 39 = some (0, .iload_n 1, 40, none, [], 0) := rfl
theorem i_Mo_search_40 : ix_nx mMo_search 40 = some (0, .aload_n 0, 41, none, [], 0) := rfl
theorem i_Mo_search_41 : ix_nx mMo_search 41 = some (1, .getfield 172, 44, none, [11, 12, 0, 102], 0) := rfl
theorem i_Mo_search_44 : ix_nx mMo_search 44 = some (3, .invokevirtual 175, 47, none, [0, 183, 198], 0) := rfl
theorem i_Mo_search_47 : ix_nx mMo_search 47 = some (0, .ifCond .eq 11, 50, none, [], 0) := rfl
theorem i_Mo_search_50 : ix_nx mMo_search 50 = some (0, .aload_n 0, 51, none, [], 0) := rfl
theorem i_Mo_search_51 : ix_nx mMo_search 51 = some (0, .iload_n 1, 52, none, [], 0) := rfl
theorem i_Mo_search_52 : ix_nx mMo_search 52 = some (0, .sipush 200, 55, none, [], 0) := rfl
theorem i_Mo_search_55 : ix_nx mMo_search 55 = some (3, .invokevirtual 179, 58, none, [0, 184, 199], 0) := rfl
theorem i_Mo_search_58 : ix_nx mMo_search 58 = some (0, .iinc 1 1, 61, none, [], 0) := rfl
theorem i_Mo_search_61 : ix_nx mMo_search 61 = some (0, .goto (-31), 64, none, [], 0) := rfl
theorem i_Mo_search_64 : ix_nx mMo_search 64 = some (0, .bipush (-6), 66, none, [], 0) := rfl
theorem i_Mo_search_66 : ix_nx mMo_search 66 = some (0, .istore_n 1, 67, none, [], 0) := rfl
theorem i_Mo_search_67 : ix_nx mMo_search 67 = some (0, .iconst 0, 68, none, [], 0) := rfl
theorem i_Mo_search_68 : ix_nx mMo_search 68 = some (0, .istore_n 2, 69, none, [], 0) := rfl
theorem i_Mo_search_69 : ix_nx mMo_search 69 = some (0, .iload_n 2, 70, some [true, true, true, false, false], [], 0) := rfl
theorem i_Mo_search_70 : ix_nx mMo_search 70 = some (0, .aload_n 0, 71, none, [], 0) := rfl
theorem i_Mo_search_71 : ix_nx mMo_search 71 = some (1, .getfield 168, 74, none, [11, 14, 0, 104], 0) := rfl
theorem i_Mo_search_74 : ix_nx mMo_search 74 = some (0, .if_icmp .ge 74, 77, none, [], 0) := rfl
theorem i_Mo_search_77 : ix_nx mMo_search 77 = some (0, .aload_n 0, 78, none, [], 0) := rfl
theorem i_Mo_search_78 : ix_nx mMo_search 78 = some (1, .getfield 36, 81, none, [11, 8, 2, 98], 0) := rfl
theorem i_Mo_search_81 : ix_nx mMo_search 81 = some (0, .iload_n 2, 82, none, [], 0) := rfl
theorem i_Mo_search_82 : ix_nx mMo_search 82 = some (1, .iaload, 83, none, [], 0) := rfl
theorem i_Mo_search_83 : ix_nx mMo_search 83 = some (0, .istore_n 3, 84, none, [], 0) := rfl
theorem i_Mo_search_84 : ix_nx mMo_search 84 = some (0, .iload_n 3, 85, none, [], 0) := rfl
theorem i_Mo_search_85 : ix_nx mMo_search 85 = some (0, .bipush 64, 87, none, [], 0) := rfl
theorem i_Mo_search_87 : ix_nx mMo_search 87 = some (0, .irem, 88, none, [], 0) := rfl
theorem i_Mo_search_88 : ix_nx mMo_search 88 = some (0, .istore 4, 90, none, [], 0) := rfl
theorem i_Mo_search_90 : ix_nx mMo_search 90 = some (0, .iload_n 3, 91, none, [], 0) := rfl
theorem i_Mo_search_91 : ix_nx mMo_search 91 = some (0, .bipush 64, 93, none, [], 0) := rfl
theorem i_Mo_search_93 : ix_nx mMo_search 93 = some (0, .if_icmp .ge 12, 96, none, [], 0) := rfl
theorem i_Mo_search_96 : ix_nx mMo_search 96 = some (0, .aload_n 0, 97, none, [], 0) := rfl
theorem i_Mo_search_97 : ix_nx mMo_search 97 = some (0, .iload 4, 99, none, [], 0) := rfl
theorem i_Mo_search_99 : ix_nx mMo_search 99 = some (3, .invokevirtual 182, 102, none, [0, 185, 200], 0) := rfl
theorem i_Mo_search_102 : ix_nx mMo_search 102 = some (0, .goto 40, 105, none, [], 0) := rfl
theorem i_Mo_search_105 : ix_nx mMo_search 105 = some (0, .iload_n 1, 106, none, [], 0) := rfl
theorem i_Mo_search_106 : ix_nx mMo_search 106 = some (0, .ifCond .ge 30, 109, none, [], 0) := rfl
theorem i_Mo_search_109 : ix_nx mMo_search 109 = some (0, .aload_n 0, 110, none, [], 0) := rfl
theorem i_Mo_search_110 : ix_nx mMo_search 110 = some (0, .iload 4, 112, none, [], 0) := rfl
theorem i_Mo_search_112 : ix_nx mMo_search 112 = some (0, .aload_n 0, 113, none, [], 0) := rfl
theorem i_Mo_search_113 : ix_nx mMo_search 113 = some (1, .getfield 185, 116, none, [11, 13, 0, 103], 0) := rfl
theorem i_Mo_search_116 : ix_nx mMo_search 116 = some (3, .invokevirtual 175, 119, none, [0, 183, 198], 0) := rfl
theorem i_Mo_search_119 : ix_nx mMo_search 119 = some (0, .ifCond .eq 17, 122, none, [], 0) := rfl
theorem i_Mo_search_122 : ix_nx mMo_search 122 = some (0, .aload_n 0, 123, none, [], 0) := rfl
theorem i_Mo_search_123 : ix_nx mMo_search 123 = some (1, .getfield 39, 126, none, [11, 9, 2, 99], 0) := rfl
theorem i_Mo_search_126 : ix_nx mMo_search 126 = some (0, .iload 4, 128, none, [], 0) := rfl
theorem i_Mo_search_128 : ix_nx mMo_search 128 = some (1, .iaload, 129, none, [], 0) := rfl
theorem i_Mo_search_129 : ix_nx mMo_search 129 = some (0, .iconst 4, 130, none, [], 0) := rfl
theorem i_Mo_search_130 : ix_nx mMo_search 130 = some (0, .if_icmp .eq 6, 133, none, [], 0) := rfl
theorem i_Mo_search_133 : ix_nx mMo_search 133 = some (0, .iload 4, 135, none, [], 0) := rfl
theorem i_Mo_search_135 : ix_nx mMo_search 135 = some (0, .istore_n 1, 136, none, [], 0) := rfl
theorem i_Mo_search_136 : ix_nx mMo_search 136 = some (0, .aload_n 0, 137, none, [], 0) := rfl
theorem i_Mo_search_137 : ix_nx mMo_search 137 = some (0, .iload 4, 139, none, [], 0) := rfl
theorem i_Mo_search_139 : ix_nx mMo_search 139 = some (3, .invokevirtual 188, 142, none, [0, 186, 201], 0) := rfl
theorem i_Mo_search_142 : ix_nx mMo_search 142 = some (0, .iinc 2 1, 145, none, [], 0) := rfl
theorem i_Mo_search_145 : ix_nx mMo_search 145 = some (0, .goto (-76), 148, none, [], 0) := rfl
theorem i_Mo_search_148 : ix_nx mMo_search 148 = some (0, .iload_n 1, 149, none, [], 0) := rfl
theorem i_Mo_search_149 : ix_nx mMo_search 149 = some (4, .ireturn, 150, none, [], 0) := rfl
noncomputable def l_Mo_search_2 (a0 : Nat) (x1 : Int32) (h : ixH) : Option (List Value × ixH) := ix_D mMo_search 2 [some (.ref a0), some (.int x1), none, none, none] [] h
noncomputable def l_Mo_search_30 (a0 : Nat) (x1 : Int32) (h : ixH) : Option (List Value × ixH) := ix_D mMo_search 30 [some (.ref a0), some (.int x1), none, none, none] [] h
noncomputable def l_Mo_search_69 (a0 : Nat) (x1 : Int32) (x2 : Int32) (h : ixH) : Option (List Value × ixH) := ix_D mMo_search 69 [some (.ref a0), some (.int x1), some (.int x2), none, none] [] h
set_option maxRecDepth 20000 in
set_option maxHeartbeats 1000000 in
theorem e_Mo_search_2 (a0 : Nat) (x1 : Int32) (h : ixH) : l_Mo_search_2 a0 x1 h = if 128 ≤ x1 then (ix_pf h a0 11 14 (.int 0)).bind fun h1 => l_Mo_search_30 a0 0 h1 else (ix_gr h a0 11 11).bind fun v2 => (ix_si h v2 x1 (-6)).bind fun h3 => l_Mo_search_2 a0 (x1 + 1) h3 := by
  unfold l_Mo_search_2
  refine ix_K_px kq_Mo_search i_Mo_search_2 rfl rfl ?_
  refine ix_K_cs kq_Mo_search i_Mo_search_3 rfl kcs_128 ?_
  refine ix_K_ic_ge (tgt := 23) kq_Mo_search i_Mo_search_6 rfl (by decide) ?_ ?_
  · refine ix_K_px kq_Mo_search i_Mo_search_23 rfl rfl ?_
    refine ix_K_ci kq_Mo_search i_Mo_search_24 rfl kci_0 ?_
    refine ix_K_pf kq_Mo_search i_Mo_search_25 rfl rfl (fun h1 => ?_)
    refine ix_K_ci kq_Mo_search i_Mo_search_28 rfl kci_0 ?_
    refine ix_K_si (L2 := [some (.ref a0), some (.int 0), none, none, none]) kq_Mo_search i_Mo_search_29 rfl (Or.inr ⟨_, rfl, rfl⟩) (Nat.le_of_ble_eq_true rfl) rfl ?_
    exact ix_D_cut i_Mo_search_30 rfl
  · refine ix_K_px kq_Mo_search i_Mo_search_9 rfl rfl ?_
    refine ix_K_gr kq_Mo_search i_Mo_search_10 rfl (fun v2 => ?_)
    refine ix_K_px kq_Mo_search i_Mo_search_13 rfl rfl ?_
    refine ix_K_cb kq_Mo_search i_Mo_search_14 rfl kcb_m6 ?_
    refine ix_K_ti kq_Mo_search i_Mo_search_16 rfl (fun h3 => ?_)
    refine ix_K_inc (L2 := [some (.ref a0), some (.int (x1 + 1)), none, none, none]) kq_Mo_search i_Mo_search_17 rfl rfl (Nat.le_of_ble_eq_true rfl) kci_1 rfl ?_
    refine ix_K_goto (tgt := 2) kq_Mo_search i_Mo_search_20 rfl (by decide) ?_
    exact ix_D_cut i_Mo_search_2 rfl
set_option maxRecDepth 20000 in
set_option maxHeartbeats 1000000 in
theorem e_Mo_search_30 (a0 : Nat) (x1 : Int32) (h : ixH) : l_Mo_search_30 a0 x1 h = (ix_M mMo_cells [.ref a0] h).bind fun r => ix_kI r fun v2 h1 => if v2 ≤ x1 then l_Mo_search_69 a0 (-6) 0 h1 else (ix_gi h1 a0 11 12).bind fun v3 => (ix_M mMo_has [.ref a0, .int x1, .int v3] h1).bind fun r => ix_kZ r fun v5 h4 => if v5 = true then (ix_M mMo_reach [.ref a0, .int x1, .int 200] h4).bind fun r => ix_kV r fun h6 => l_Mo_search_30 a0 (x1 + 1) h6 else l_Mo_search_30 a0 (x1 + 1) h4 := by
  unfold l_Mo_search_30
  refine ix_K_px kq_Mo_search i_Mo_search_30 rfl rfl ?_
  refine ix_K_px kq_Mo_search i_Mo_search_31 rfl rfl ?_
  refine ix_K_callI (as := [.ref a0]) (rest := [.int x1]) kq_Mo_search i_Mo_search_32 rfl kq_Mo_cells (by decide) rfl (Or.inl rfl) (fun v2 h1 => ?_)
  refine ix_K_ic_ge (tgt := 64) kq_Mo_search i_Mo_search_35 rfl (by decide) ?_ ?_
  · refine ix_K_cb kq_Mo_search i_Mo_search_64 rfl kcb_m6 ?_
    refine ix_K_si (L2 := [some (.ref a0), some (.int (-6)), none, none, none]) kq_Mo_search i_Mo_search_66 rfl (Or.inr ⟨_, rfl, rfl⟩) (Nat.le_of_ble_eq_true rfl) rfl ?_
    refine ix_K_ci kq_Mo_search i_Mo_search_67 rfl kci_0 ?_
    refine ix_K_si (L2 := [some (.ref a0), some (.int (-6)), some (.int 0), none, none]) kq_Mo_search i_Mo_search_68 rfl (Or.inr ⟨_, rfl, rfl⟩) (Nat.le_of_ble_eq_true rfl) rfl ?_
    exact ix_D_cut i_Mo_search_69 rfl
  · refine ix_K_px kq_Mo_search i_Mo_search_38 rfl rfl ?_
    refine ix_K_px kq_Mo_search i_Mo_search_39 rfl rfl ?_
    refine ix_K_px kq_Mo_search i_Mo_search_40 rfl rfl ?_
    refine ix_K_gi kq_Mo_search i_Mo_search_41 rfl (fun v3 => ?_)
    refine ix_K_callZ (as := [.ref a0, .int x1, .int v3]) (rest := []) kq_Mo_search i_Mo_search_44 rfl kq_Mo_has (by decide) rfl rfl (fun v5 h4 => ?_)
    refine ix_K_bz_eq (tgt := 58) kq_Mo_search i_Mo_search_47 rfl (by decide) ?_ ?_
    · refine ix_K_px kq_Mo_search i_Mo_search_50 rfl rfl ?_
      refine ix_K_px kq_Mo_search i_Mo_search_51 rfl rfl ?_
      refine ix_K_cs kq_Mo_search i_Mo_search_52 rfl kcs_200 ?_
      refine ix_K_callV (as := [.ref a0, .int x1, .int 200]) (rest := []) kq_Mo_search i_Mo_search_55 rfl kq_Mo_reach (by decide) rfl rfl (fun h6 => ?_)
      refine ix_K_inc (L2 := [some (.ref a0), some (.int (x1 + 1)), none, none, none]) kq_Mo_search i_Mo_search_58 rfl rfl (Nat.le_of_ble_eq_true rfl) kci_1 rfl ?_
      refine ix_K_goto (tgt := 30) kq_Mo_search i_Mo_search_61 rfl (by decide) ?_
      exact ix_D_cut i_Mo_search_30 rfl
    · refine ix_K_inc (L2 := [some (.ref a0), some (.int (x1 + 1)), none, none, none]) kq_Mo_search i_Mo_search_58 rfl rfl (Nat.le_of_ble_eq_true rfl) kci_1 rfl ?_
      refine ix_K_goto (tgt := 30) kq_Mo_search i_Mo_search_61 rfl (by decide) ?_
      exact ix_D_cut i_Mo_search_30 rfl
set_option maxRecDepth 20000 in
set_option maxHeartbeats 1000000 in
theorem e_Mo_search_69 (a0 : Nat) (x1 : Int32) (x2 : Int32) (h : ixH) : l_Mo_search_69 a0 x1 x2 h = (ix_gi h a0 11 14).bind fun v1 => if v1 ≤ x2 then some ([.int x1], h) else (ix_gr h a0 11 8).bind fun v2 => (ix_ai h v2 x2).bind fun v3 => if 64 = 0 then none else if 64 ≤ v3 then if 0 ≤ x1 then (ix_M mMo_reachOut [.ref a0, .int (ix_rem v3 64)] h).bind fun r => ix_kV r fun h4 => l_Mo_search_69 a0 x1 (x2 + 1) h4 else (ix_gi h a0 11 13).bind fun v5 => (ix_M mMo_has [.ref a0, .int (ix_rem v3 64), .int v5] h).bind fun r => ix_kZ r fun v7 h6 => if v7 = true then (ix_gr h6 a0 11 9).bind fun v8 => (ix_ai h6 v8 (ix_rem v3 64)).bind fun v9 => if v9 = 4 then (ix_M mMo_reachOut [.ref a0, .int (ix_rem v3 64)] h6).bind fun r => ix_kV r fun h10 => l_Mo_search_69 a0 x1 (x2 + 1) h10 else (ix_M mMo_reachOut [.ref a0, .int (ix_rem v3 64)] h6).bind fun r => ix_kV r fun h11 => l_Mo_search_69 a0 (ix_rem v3 64) (x2 + 1) h11 else (ix_M mMo_reachOut [.ref a0, .int (ix_rem v3 64)] h6).bind fun r => ix_kV r fun h12 => l_Mo_search_69 a0 x1 (x2 + 1) h12 else (ix_M mMo_reachIn [.ref a0, .int (ix_rem v3 64)] h).bind fun r => ix_kV r fun h13 => l_Mo_search_69 a0 x1 (x2 + 1) h13 := by
  unfold l_Mo_search_69
  refine ix_K_px kq_Mo_search i_Mo_search_69 rfl rfl ?_
  refine ix_K_px kq_Mo_search i_Mo_search_70 rfl rfl ?_
  refine ix_K_gi kq_Mo_search i_Mo_search_71 rfl (fun v1 => ?_)
  refine ix_K_ic_ge (tgt := 148) kq_Mo_search i_Mo_search_74 rfl (by decide) ?_ ?_
  · refine ix_K_px kq_Mo_search i_Mo_search_148 rfl rfl ?_
    exact ix_D_ret kq_Mo_search i_Mo_search_149 (ix_rtI rfl _)
  · refine ix_K_px kq_Mo_search i_Mo_search_77 rfl rfl ?_
    refine ix_K_gr kq_Mo_search i_Mo_search_78 rfl (fun v2 => ?_)
    refine ix_K_px kq_Mo_search i_Mo_search_81 rfl rfl ?_
    refine ix_K_ai kq_Mo_search i_Mo_search_82 rfl (fun v3 => ?_)
    refine ix_K_si (L2 := [some (.ref a0), some (.int x1), some (.int x2), some (.int v3), none]) kq_Mo_search i_Mo_search_83 rfl (Or.inr ⟨_, rfl, rfl⟩) (Nat.le_of_ble_eq_true rfl) rfl ?_
    refine ix_K_px kq_Mo_search i_Mo_search_84 rfl rfl ?_
    refine ix_K_cb kq_Mo_search i_Mo_search_85 rfl kcb_64 ?_
    refine ix_K_rem kq_Mo_search i_Mo_search_87 rfl ?_
    refine ix_K_si (L2 := [some (.ref a0), some (.int x1), some (.int x2), some (.int v3), some (.int (ix_rem v3 64))]) kq_Mo_search i_Mo_search_88 rfl (Or.inl rfl) (Nat.le_of_ble_eq_true rfl) rfl ?_
    refine ix_K_px kq_Mo_search i_Mo_search_90 rfl rfl ?_
    refine ix_K_cb kq_Mo_search i_Mo_search_91 rfl kcb_64 ?_
    refine ix_K_ic_ge (tgt := 105) kq_Mo_search i_Mo_search_93 rfl (by decide) ?_ ?_
    · refine ix_K_px kq_Mo_search i_Mo_search_105 rfl rfl ?_
      refine ix_K_if_ge (tgt := 136) kq_Mo_search i_Mo_search_106 rfl (by decide) ?_ ?_
      · refine ix_K_px kq_Mo_search i_Mo_search_136 rfl rfl ?_
        refine ix_K_px kq_Mo_search i_Mo_search_137 rfl rfl ?_
        refine ix_K_callV (as := [.ref a0, .int (ix_rem v3 64)]) (rest := []) kq_Mo_search i_Mo_search_139 rfl kq_Mo_reachOut (by decide) rfl rfl (fun h4 => ?_)
        refine ix_K_inc (L2 := [some (.ref a0), some (.int x1), some (.int (x2 + 1)), some (.int v3), some (.int (ix_rem v3 64))]) kq_Mo_search i_Mo_search_142 rfl rfl (Nat.le_of_ble_eq_true rfl) kci_1 rfl ?_
        refine ix_K_goto (tgt := 69) kq_Mo_search i_Mo_search_145 rfl (by decide) ?_
        exact ix_D_cut i_Mo_search_69 rfl
      · refine ix_K_px kq_Mo_search i_Mo_search_109 rfl rfl ?_
        refine ix_K_px kq_Mo_search i_Mo_search_110 rfl rfl ?_
        refine ix_K_px kq_Mo_search i_Mo_search_112 rfl rfl ?_
        refine ix_K_gi kq_Mo_search i_Mo_search_113 rfl (fun v5 => ?_)
        refine ix_K_callZ (as := [.ref a0, .int (ix_rem v3 64), .int v5]) (rest := []) kq_Mo_search i_Mo_search_116 rfl kq_Mo_has (by decide) rfl rfl (fun v7 h6 => ?_)
        refine ix_K_bz_eq (tgt := 136) kq_Mo_search i_Mo_search_119 rfl (by decide) ?_ ?_
        · refine ix_K_px kq_Mo_search i_Mo_search_122 rfl rfl ?_
          refine ix_K_gr kq_Mo_search i_Mo_search_123 rfl (fun v8 => ?_)
          refine ix_K_px kq_Mo_search i_Mo_search_126 rfl rfl ?_
          refine ix_K_ai kq_Mo_search i_Mo_search_128 rfl (fun v9 => ?_)
          refine ix_K_ci kq_Mo_search i_Mo_search_129 rfl kci_4 ?_
          refine ix_K_ic_eq (tgt := 136) kq_Mo_search i_Mo_search_130 rfl (by decide) ?_ ?_
          · refine ix_K_px kq_Mo_search i_Mo_search_136 rfl rfl ?_
            refine ix_K_px kq_Mo_search i_Mo_search_137 rfl rfl ?_
            refine ix_K_callV (as := [.ref a0, .int (ix_rem v3 64)]) (rest := []) kq_Mo_search i_Mo_search_139 rfl kq_Mo_reachOut (by decide) rfl rfl (fun h10 => ?_)
            refine ix_K_inc (L2 := [some (.ref a0), some (.int x1), some (.int (x2 + 1)), some (.int v3), some (.int (ix_rem v3 64))]) kq_Mo_search i_Mo_search_142 rfl rfl (Nat.le_of_ble_eq_true rfl) kci_1 rfl ?_
            refine ix_K_goto (tgt := 69) kq_Mo_search i_Mo_search_145 rfl (by decide) ?_
            exact ix_D_cut i_Mo_search_69 rfl
          · refine ix_K_px kq_Mo_search i_Mo_search_133 rfl rfl ?_
            refine ix_K_si (L2 := [some (.ref a0), some (.int (ix_rem v3 64)), some (.int x2), some (.int v3), some (.int (ix_rem v3 64))]) kq_Mo_search i_Mo_search_135 rfl (Or.inr ⟨_, rfl, rfl⟩) (Nat.le_of_ble_eq_true rfl) rfl ?_
            refine ix_K_px kq_Mo_search i_Mo_search_136 rfl rfl ?_
            refine ix_K_px kq_Mo_search i_Mo_search_137 rfl rfl ?_
            refine ix_K_callV (as := [.ref a0, .int (ix_rem v3 64)]) (rest := []) kq_Mo_search i_Mo_search_139 rfl kq_Mo_reachOut (by decide) rfl rfl (fun h11 => ?_)
            refine ix_K_inc (L2 := [some (.ref a0), some (.int (ix_rem v3 64)), some (.int (x2 + 1)), some (.int v3), some (.int (ix_rem v3 64))]) kq_Mo_search i_Mo_search_142 rfl rfl (Nat.le_of_ble_eq_true rfl) kci_1 rfl ?_
            refine ix_K_goto (tgt := 69) kq_Mo_search i_Mo_search_145 rfl (by decide) ?_
            exact ix_D_cut i_Mo_search_69 rfl
        · refine ix_K_px kq_Mo_search i_Mo_search_136 rfl rfl ?_
          refine ix_K_px kq_Mo_search i_Mo_search_137 rfl rfl ?_
          refine ix_K_callV (as := [.ref a0, .int (ix_rem v3 64)]) (rest := []) kq_Mo_search i_Mo_search_139 rfl kq_Mo_reachOut (by decide) rfl rfl (fun h12 => ?_)
          refine ix_K_inc (L2 := [some (.ref a0), some (.int x1), some (.int (x2 + 1)), some (.int v3), some (.int (ix_rem v3 64))]) kq_Mo_search i_Mo_search_142 rfl rfl (Nat.le_of_ble_eq_true rfl) kci_1 rfl ?_
          refine ix_K_goto (tgt := 69) kq_Mo_search i_Mo_search_145 rfl (by decide) ?_
          exact ix_D_cut i_Mo_search_69 rfl
    · refine ix_K_px kq_Mo_search i_Mo_search_96 rfl rfl ?_
      refine ix_K_px kq_Mo_search i_Mo_search_97 rfl rfl ?_
      refine ix_K_callV (as := [.ref a0, .int (ix_rem v3 64)]) (rest := []) kq_Mo_search i_Mo_search_99 rfl kq_Mo_reachIn (by decide) rfl rfl (fun h13 => ?_)
      refine ix_K_goto (tgt := 142) kq_Mo_search i_Mo_search_102 rfl (by decide) ?_
      refine ix_K_inc (L2 := [some (.ref a0), some (.int x1), some (.int (x2 + 1)), some (.int v3), some (.int (ix_rem v3 64))]) kq_Mo_search i_Mo_search_142 rfl rfl (Nat.le_of_ble_eq_true rfl) kci_1 rfl ?_
      refine ix_K_goto (tgt := 69) kq_Mo_search i_Mo_search_145 rfl (by decide) ?_
      exact ix_D_cut i_Mo_search_69 rfl
set_option maxRecDepth 20000 in
set_option maxHeartbeats 1000000 in
theorem e_Mo_search (a0 : Nat) (h : ixH) : ix_D mMo_search 0 [some (.ref a0), none, none, none, none] [] h = l_Mo_search_2 a0 0 h := by
  refine ix_K_ci kq_Mo_search i_Mo_search_0 rfl kci_0 ?_
  refine ix_K_si (L2 := [some (.ref a0), some (.int 0), none, none, none]) kq_Mo_search i_Mo_search_1 rfl (Or.inr ⟨_, rfl, rfl⟩) (Nat.le_of_ble_eq_true rfl) rfl ?_
  exact ix_D_cut i_Mo_search_2 rfl
theorem x_Mo_search {a0 : Nat} {h h1 : ixH} {v : Int32} (hr : ix_rc h a0 = some 11) (hd : ix_D mMo_search 0 [some (.ref a0), none, none, none, none] [] h = some ([.int v], h1)) : ix_M mMo_search [.ref a0] h = some ([.int v], h1) := ix_M_of (ix_ent_i kq_Mo_search rfl hr rfl (Nat.le_of_ble_eq_true rfl) rfl) hd (ix_okrI (Or.inl rfl) v)
theorem i_Mo_has_0 : ix_nx mMo_has 0 = some (0, .aload_n 0, 1, none, [], 0) := rfl
theorem i_Mo_has_1 : ix_nx mMo_has 1 = some (0, .iload_n 1, 2, none, [], 0) := rfl
theorem i_Mo_has_2 : ix_nx mMo_has 2 = some (3, .invokevirtual 102, 5, none, [0, 160, 181], 0) := rfl
theorem i_Mo_has_5 : ix_nx mMo_has 5 = some (0, .ifCond .eq 20, 8, none, [], 0) := rfl
theorem i_Mo_has_8 : ix_nx mMo_has 8 = some (0, .aload_n 0, 9, none, [], 0) := rfl
theorem i_Mo_has_9 : ix_nx mMo_has 9 = some (1, .getfield 7, 12, none, [11, 0, 2, 90], 0) := rfl
theorem i_Mo_has_12 : ix_nx mMo_has 12 = some (0, .bipush 66, 14, none, [], 0) := rfl
theorem i_Mo_has_14 : ix_nx mMo_has 14 = some (0, .iload_n 1, 15, none, [], 0) := rfl
theorem i_Mo_has_15 : ix_nx mMo_has 15 = some (0, .iadd, 16, none, [], 0) := rfl
theorem i_Mo_has_16 : ix_nx mMo_has 16 = some (1, .iaload, 17, none, [], 0) := rfl
theorem i_Mo_has_17 : ix_nx mMo_has 17 = some (0, .iload_n 2, 18, none, [], 0) := rfl
theorem i_Mo_has_18 : ix_nx mMo_has 18 = some (0, .if_icmp .ne 7, 21, none, [], 0) := rfl
theorem i_Mo_has_21 : ix_nx mMo_has 21 = some (0, .iconst 1, 22, none, [], 0) := rfl
theorem i_Mo_has_22 : ix_nx mMo_has 22 = some (0, .goto 4, 25, none, [], 0) := rfl
theorem i_Mo_has_25 : ix_nx mMo_has 25 = some (0, .iconst 0, 26, none, [], 0) := rfl
theorem i_Mo_has_26 : ix_nx mMo_has 26 = some (4, .ireturn, 27, none, [], 0) := rfl
set_option maxRecDepth 20000 in
set_option maxHeartbeats 1000000 in
theorem e_Mo_has (a0 : Nat) (x1 : Int32) (x2 : Int32) (h : ixH) : ix_D mMo_has 0 [some (.ref a0), some (.int x1), some (.int x2)] [] h = (ix_M mMo_isOpen [.ref a0, .int x1] h).bind fun r => ix_kZ r fun v2 h1 => if v2 = true then (ix_gr h1 a0 11 0).bind fun v3 => (ix_ai h1 v3 (66 + x1)).bind fun v4 => if ¬ v4 = x2 then some ([.int (ix_bi false)], h1) else some ([.int (ix_bi true)], h1) else some ([.int (ix_bi false)], h1) := by
  refine ix_K_px kq_Mo_has i_Mo_has_0 rfl rfl ?_
  refine ix_K_px kq_Mo_has i_Mo_has_1 rfl rfl ?_
  refine ix_K_callZ (as := [.ref a0, .int x1]) (rest := []) kq_Mo_has i_Mo_has_2 rfl kq_Mo_isOpen (by decide) rfl rfl (fun v2 h1 => ?_)
  refine ix_K_bz_eq (tgt := 25) kq_Mo_has i_Mo_has_5 rfl (by decide) ?_ ?_
  · refine ix_K_px kq_Mo_has i_Mo_has_8 rfl rfl ?_
    refine ix_K_gr kq_Mo_has i_Mo_has_9 rfl (fun v3 => ?_)
    refine ix_K_cb kq_Mo_has i_Mo_has_12 rfl kcb_66 ?_
    refine ix_K_px kq_Mo_has i_Mo_has_14 rfl rfl ?_
    refine ix_K_px kq_Mo_has i_Mo_has_15 rfl rfl ?_
    refine ix_K_ai kq_Mo_has i_Mo_has_16 rfl (fun v4 => ?_)
    refine ix_K_px kq_Mo_has i_Mo_has_17 rfl rfl ?_
    refine ix_K_ic_ne (tgt := 25) kq_Mo_has i_Mo_has_18 rfl (by decide) ?_ ?_
    · refine ix_K_ci kq_Mo_has i_Mo_has_25 rfl kci_0 ?_
      exact ix_D_ret kq_Mo_has i_Mo_has_26 (ix_rtZ rfl false)
    · refine ix_K_ci kq_Mo_has i_Mo_has_21 rfl kci_1 ?_
      refine ix_K_goto (tgt := 26) kq_Mo_has i_Mo_has_22 rfl (by decide) ?_
      exact ix_D_ret kq_Mo_has i_Mo_has_26 (ix_rtZ rfl true)
  · refine ix_K_ci kq_Mo_has i_Mo_has_25 rfl kci_0 ?_
    exact ix_D_ret kq_Mo_has i_Mo_has_26 (ix_rtZ rfl false)
theorem x_Mo_has {a0 : Nat} {x1 : Int32} {x2 : Int32} {h h1 : ixH} {v : Bool} (hr : ix_rc h a0 = some 11) (hd : ix_D mMo_has 0 [some (.ref a0), some (.int x1), some (.int x2)] [] h = some ([.int (ix_bi v)], h1)) : ix_M mMo_has [.ref a0, .int x1, .int x2] h = some ([.int (ix_bi v)], h1) := ix_M_of (ix_ent_i kq_Mo_has rfl hr rfl (Nat.le_of_ble_eq_true rfl) rfl) hd (ix_okrZ rfl v)
theorem i_Mo_reach_0 : ix_nx mMo_reach 0 = some (0, .aload_n 0, 1, none, [], 0) := rfl
theorem i_Mo_reach_1 : ix_nx mMo_reach 1 = some (1, .getfield 45, 4, none, [11, 11, 2, 101], 0) := rfl
theorem i_Mo_reach_4 : ix_nx mMo_reach 4 = some (0, .iload_n 1, 5, none, [], 0) := rfl
theorem i_Mo_reach_5 : ix_nx mMo_reach 5 = some (1, .iaload, 6, none, [], 0) := rfl
theorem i_Mo_reach_6 : ix_nx mMo_reach 6 = some (0, .bipush (-6), 8, none, [], 0) := rfl
theorem i_Mo_reach_8 : ix_nx mMo_reach 8 = some (0, .if_icmp .ne 30, 11, none, [], 0) := rfl
theorem i_Mo_reach_11 : ix_nx mMo_reach 11 = some (0, .aload_n 0, 12, none, [], 0) := rfl
theorem i_Mo_reach_12 : ix_nx mMo_reach 12 = some (1, .getfield 45, 15, none, [11, 11, 2, 101], 0) := rfl
theorem i_Mo_reach_15 : ix_nx mMo_reach 15 = some (0, .iload_n 1, 16, none, [], 0) := rfl
theorem i_Mo_reach_16 : ix_nx mMo_reach 16 = some (0, .iload_n 2, 17, none, [], 0) := rfl
theorem i_Mo_reach_17 : ix_nx mMo_reach 17 = some (2, .iastore, 18, none, [], 0) := rfl
theorem i_Mo_reach_18 : ix_nx mMo_reach 18 = some (0, .aload_n 0, 19, none, [], 0) := rfl
theorem i_Mo_reach_19 : ix_nx mMo_reach 19 = some (1, .getfield 36, 22, none, [11, 8, 2, 98], 0) := rfl
theorem i_Mo_reach_22 : ix_nx mMo_reach 22 = some (0, .aload_n 0, 23, none, [], 0) := rfl
theorem i_Mo_reach_23 : ix_nx mMo_reach 23 = some (1, .getfield 168, 26, none, [11, 14, 0, 104], 0) := rfl
theorem i_Mo_reach_26 : ix_nx mMo_reach 26 = some (0, .iload_n 1, 27, none, [], 0) := rfl
theorem i_Mo_reach_27 : ix_nx mMo_reach 27 = some (2, .iastore, 28, none, [], 0) := rfl
theorem i_Mo_reach_28 : ix_nx mMo_reach 28 = some (0, .aload_n 0, 29, none, [], 0) := rfl
theorem i_Mo_reach_29 : ix_nx mMo_reach 29 = some (0, .dup, 30, none, [], 0) := rfl
theorem i_Mo_reach_30 : ix_nx mMo_reach 30 = some (1, .getfield 168, 33, none, [11, 14, 0, 104], 0) := rfl
theorem i_Mo_reach_33 : ix_nx mMo_reach 33 = some (0, .iconst 1, 34, none, [], 0) := rfl
theorem i_Mo_reach_34 : ix_nx mMo_reach 34 = some (0, .iadd, 35, none, [], 0) := rfl
theorem i_Mo_reach_35 : ix_nx mMo_reach 35 = some (2, .putfield 168, 38, none, [11, 14, 0, 104], 0) := rfl
theorem i_Mo_reach_38 : ix_nx mMo_reach 38 = some (4, .return_, 39, none, [], 0) := rfl
set_option maxRecDepth 20000 in
set_option maxHeartbeats 1000000 in
theorem e_Mo_reach (a0 : Nat) (x1 : Int32) (x2 : Int32) (h : ixH) : ix_D mMo_reach 0 [some (.ref a0), some (.int x1), some (.int x2)] [] h = (ix_gr h a0 11 11).bind fun v1 => (ix_ai h v1 x1).bind fun v2 => if ¬ v2 = (-6) then some ([], h) else (ix_gr h a0 11 11).bind fun v3 => (ix_si h v3 x1 x2).bind fun h4 => (ix_gr h4 a0 11 8).bind fun v5 => (ix_gi h4 a0 11 14).bind fun v6 => (ix_si h4 v5 v6 x1).bind fun h7 => (ix_gi h7 a0 11 14).bind fun v8 => (ix_pf h7 a0 11 14 (.int (v8 + 1))).bind fun h9 => some ([], h9) := by
  refine ix_K_px kq_Mo_reach i_Mo_reach_0 rfl rfl ?_
  refine ix_K_gr kq_Mo_reach i_Mo_reach_1 rfl (fun v1 => ?_)
  refine ix_K_px kq_Mo_reach i_Mo_reach_4 rfl rfl ?_
  refine ix_K_ai kq_Mo_reach i_Mo_reach_5 rfl (fun v2 => ?_)
  refine ix_K_cb kq_Mo_reach i_Mo_reach_6 rfl kcb_m6 ?_
  refine ix_K_ic_ne (tgt := 38) kq_Mo_reach i_Mo_reach_8 rfl (by decide) ?_ ?_
  · exact ix_D_ret kq_Mo_reach i_Mo_reach_38 (ix_rtV rfl)
  · refine ix_K_px kq_Mo_reach i_Mo_reach_11 rfl rfl ?_
    refine ix_K_gr kq_Mo_reach i_Mo_reach_12 rfl (fun v3 => ?_)
    refine ix_K_px kq_Mo_reach i_Mo_reach_15 rfl rfl ?_
    refine ix_K_px kq_Mo_reach i_Mo_reach_16 rfl rfl ?_
    refine ix_K_ti kq_Mo_reach i_Mo_reach_17 rfl (fun h4 => ?_)
    refine ix_K_px kq_Mo_reach i_Mo_reach_18 rfl rfl ?_
    refine ix_K_gr kq_Mo_reach i_Mo_reach_19 rfl (fun v5 => ?_)
    refine ix_K_px kq_Mo_reach i_Mo_reach_22 rfl rfl ?_
    refine ix_K_gi kq_Mo_reach i_Mo_reach_23 rfl (fun v6 => ?_)
    refine ix_K_px kq_Mo_reach i_Mo_reach_26 rfl rfl ?_
    refine ix_K_ti kq_Mo_reach i_Mo_reach_27 rfl (fun h7 => ?_)
    refine ix_K_px kq_Mo_reach i_Mo_reach_28 rfl rfl ?_
    refine ix_K_px kq_Mo_reach i_Mo_reach_29 rfl rfl ?_
    refine ix_K_gi kq_Mo_reach i_Mo_reach_30 rfl (fun v8 => ?_)
    refine ix_K_ci kq_Mo_reach i_Mo_reach_33 rfl kci_1 ?_
    refine ix_K_px kq_Mo_reach i_Mo_reach_34 rfl rfl ?_
    refine ix_K_pf kq_Mo_reach i_Mo_reach_35 rfl rfl (fun h9 => ?_)
    exact ix_D_ret kq_Mo_reach i_Mo_reach_38 (ix_rtV rfl)
theorem x_Mo_reach {a0 : Nat} {x1 : Int32} {x2 : Int32} {h h1 : ixH} (hr : ix_rc h a0 = some 11) (hd : ix_D mMo_reach 0 [some (.ref a0), some (.int x1), some (.int x2)] [] h = some ([], h1)) : ix_M mMo_reach [.ref a0, .int x1, .int x2] h = some ([], h1) := ix_M_of (ix_ent_i kq_Mo_reach rfl hr rfl (Nat.le_of_ble_eq_true rfl) rfl) hd (ix_okrV rfl)
theorem i_Mo_reachIn_0 : ix_nx mMo_reachIn 0 = some (0, .aload_n 0, 1, none, [], 0) := rfl
theorem i_Mo_reachIn_1 : ix_nx mMo_reachIn 1 = some (1, .getfield 42, 4, none, [11, 10, 2, 100], 0) := rfl
theorem i_Mo_reachIn_4 : ix_nx mMo_reachIn 4 = some (0, .iload_n 1, 5, none, [], 0) := rfl
theorem i_Mo_reachIn_5 : ix_nx mMo_reachIn 5 = some (1, .iaload, 6, none, [], 0) := rfl
theorem i_Mo_reachIn_6 : ix_nx mMo_reachIn 6 = some (0, .bipush (-6), 8, none, [], 0) := rfl
theorem i_Mo_reachIn_8 : ix_nx mMo_reachIn 8 = some (0, .if_icmp .ne 15, 11, none, [], 0) := rfl
theorem i_Mo_reachIn_11 : ix_nx mMo_reachIn 11 = some (0, .aload_n 0, 12, none, [], 0) := rfl
theorem i_Mo_reachIn_12 : ix_nx mMo_reachIn 12 = some (0, .bipush 64, 14, none, [], 0) := rfl
theorem i_Mo_reachIn_14 : ix_nx mMo_reachIn 14 = some (0, .iload_n 1, 15, none, [], 0) := rfl
theorem i_Mo_reachIn_15 : ix_nx mMo_reachIn 15 = some (0, .iadd, 16, none, [], 0) := rfl
theorem i_Mo_reachIn_16 : ix_nx mMo_reachIn 16 = some (0, .iload_n 1, 17, none, [], 0) := rfl
theorem i_Mo_reachIn_17 : ix_nx mMo_reachIn 17 = some (3, .invokevirtual 179, 20, none, [0, 184, 199], 0) := rfl
theorem i_Mo_reachIn_20 : ix_nx mMo_reachIn 20 = some (0, .goto 32, 23, none, [], 0) := rfl
theorem i_Mo_reachIn_23 : ix_nx mMo_reachIn 23 = some (0, .aload_n 0, 24, none, [], 0) := rfl
theorem i_Mo_reachIn_24 : ix_nx mMo_reachIn 24 = some (1, .getfield 42, 27, none, [11, 10, 2, 100], 0) := rfl
theorem i_Mo_reachIn_27 : ix_nx mMo_reachIn 27 = some (0, .iload_n 1, 28, none, [], 0) := rfl
theorem i_Mo_reachIn_28 : ix_nx mMo_reachIn 28 = some (1, .iaload, 29, none, [], 0) := rfl
theorem i_Mo_reachIn_29 : ix_nx mMo_reachIn 29 = some (0, .iconst 4, 30, none, [], 0) := rfl
theorem i_Mo_reachIn_30 : ix_nx mMo_reachIn 30 = some (0, .if_icmp .ge 22, 33, none, [], 0) := rfl
theorem i_Mo_reachIn_33 : ix_nx mMo_reachIn 33 = some (0, .aload_n 0, 34, none, [], 0) := rfl
theorem i_Mo_reachIn_34 : ix_nx mMo_reachIn 34 = some (0, .bipush 64, 36, none, [], 0) := rfl
theorem i_Mo_reachIn_36 : ix_nx mMo_reachIn 36 = some (0, .aload_n 0, 37, none, [], 0) := rfl
theorem i_Mo_reachIn_37 : ix_nx mMo_reachIn 37 = some (0, .iload_n 1, 38, none, [], 0) := rfl
theorem i_Mo_reachIn_38 : ix_nx mMo_reachIn 38 = some (0, .aload_n 0, 39, none, [], 0) := rfl
theorem i_Mo_reachIn_39 : ix_nx mMo_reachIn 39 = some (1, .getfield 42, 42, none, [11, 10, 2, 100], 0) := rfl
theorem i_Mo_reachIn_42 : ix_nx mMo_reachIn 42 = some (0, .iload_n 1, 43, none, [], 0) := rfl
theorem i_Mo_reachIn_43 : ix_nx mMo_reachIn 43 = some (1, .iaload, 44, none, [], 0) := rfl
theorem i_Mo_reachIn_44 : ix_nx mMo_reachIn 44 = some (3, .invokevirtual 113, 47, none, [0, 178, 194], 0) := rfl
theorem i_Mo_reachIn_47 : ix_nx mMo_reachIn 47 = some (0, .iadd, 48, none, [], 0) := rfl
theorem i_Mo_reachIn_48 : ix_nx mMo_reachIn 48 = some (0, .iload_n 1, 49, none, [], 0) := rfl
theorem i_Mo_reachIn_49 : ix_nx mMo_reachIn 49 = some (3, .invokevirtual 179, 52, none, [0, 184, 199], 0) := rfl
theorem i_Mo_reachIn_52 : ix_nx mMo_reachIn 52 = some (4, .return_, 53, none, [], 0) := rfl
set_option maxRecDepth 20000 in
set_option maxHeartbeats 1000000 in
theorem e_Mo_reachIn (a0 : Nat) (x1 : Int32) (h : ixH) : ix_D mMo_reachIn 0 [some (.ref a0), some (.int x1)] [] h = (ix_gr h a0 11 10).bind fun v1 => (ix_ai h v1 x1).bind fun v2 => if ¬ v2 = (-6) then (ix_gr h a0 11 10).bind fun v3 => (ix_ai h v3 x1).bind fun v4 => if 4 ≤ v4 then some ([], h) else (ix_gr h a0 11 10).bind fun v5 => (ix_ai h v5 x1).bind fun v6 => (ix_M mMo_beside [.ref a0, .int x1, .int v6] h).bind fun r => ix_kI r fun v8 h7 => (ix_M mMo_reach [.ref a0, .int (64 + v8), .int x1] h7).bind fun r => ix_kV r fun h9 => some ([], h9) else (ix_M mMo_reach [.ref a0, .int (64 + x1), .int x1] h).bind fun r => ix_kV r fun h10 => some ([], h10) := by
  refine ix_K_px kq_Mo_reachIn i_Mo_reachIn_0 rfl rfl ?_
  refine ix_K_gr kq_Mo_reachIn i_Mo_reachIn_1 rfl (fun v1 => ?_)
  refine ix_K_px kq_Mo_reachIn i_Mo_reachIn_4 rfl rfl ?_
  refine ix_K_ai kq_Mo_reachIn i_Mo_reachIn_5 rfl (fun v2 => ?_)
  refine ix_K_cb kq_Mo_reachIn i_Mo_reachIn_6 rfl kcb_m6 ?_
  refine ix_K_ic_ne (tgt := 23) kq_Mo_reachIn i_Mo_reachIn_8 rfl (by decide) ?_ ?_
  · refine ix_K_px kq_Mo_reachIn i_Mo_reachIn_23 rfl rfl ?_
    refine ix_K_gr kq_Mo_reachIn i_Mo_reachIn_24 rfl (fun v3 => ?_)
    refine ix_K_px kq_Mo_reachIn i_Mo_reachIn_27 rfl rfl ?_
    refine ix_K_ai kq_Mo_reachIn i_Mo_reachIn_28 rfl (fun v4 => ?_)
    refine ix_K_ci kq_Mo_reachIn i_Mo_reachIn_29 rfl kci_4 ?_
    refine ix_K_ic_ge (tgt := 52) kq_Mo_reachIn i_Mo_reachIn_30 rfl (by decide) ?_ ?_
    · exact ix_D_ret kq_Mo_reachIn i_Mo_reachIn_52 (ix_rtV rfl)
    · refine ix_K_px kq_Mo_reachIn i_Mo_reachIn_33 rfl rfl ?_
      refine ix_K_cb kq_Mo_reachIn i_Mo_reachIn_34 rfl kcb_64 ?_
      refine ix_K_px kq_Mo_reachIn i_Mo_reachIn_36 rfl rfl ?_
      refine ix_K_px kq_Mo_reachIn i_Mo_reachIn_37 rfl rfl ?_
      refine ix_K_px kq_Mo_reachIn i_Mo_reachIn_38 rfl rfl ?_
      refine ix_K_gr kq_Mo_reachIn i_Mo_reachIn_39 rfl (fun v5 => ?_)
      refine ix_K_px kq_Mo_reachIn i_Mo_reachIn_42 rfl rfl ?_
      refine ix_K_ai kq_Mo_reachIn i_Mo_reachIn_43 rfl (fun v6 => ?_)
      refine ix_K_callI (as := [.ref a0, .int x1, .int v6]) (rest := [.int 64, .ref a0]) kq_Mo_reachIn i_Mo_reachIn_44 rfl kq_Mo_beside (by decide) rfl (Or.inl rfl) (fun v8 h7 => ?_)
      refine ix_K_px kq_Mo_reachIn i_Mo_reachIn_47 rfl rfl ?_
      refine ix_K_px kq_Mo_reachIn i_Mo_reachIn_48 rfl rfl ?_
      refine ix_K_callV (as := [.ref a0, .int (64 + v8), .int x1]) (rest := []) kq_Mo_reachIn i_Mo_reachIn_49 rfl kq_Mo_reach (by decide) rfl rfl (fun h9 => ?_)
      exact ix_D_ret kq_Mo_reachIn i_Mo_reachIn_52 (ix_rtV rfl)
  · refine ix_K_px kq_Mo_reachIn i_Mo_reachIn_11 rfl rfl ?_
    refine ix_K_cb kq_Mo_reachIn i_Mo_reachIn_12 rfl kcb_64 ?_
    refine ix_K_px kq_Mo_reachIn i_Mo_reachIn_14 rfl rfl ?_
    refine ix_K_px kq_Mo_reachIn i_Mo_reachIn_15 rfl rfl ?_
    refine ix_K_px kq_Mo_reachIn i_Mo_reachIn_16 rfl rfl ?_
    refine ix_K_callV (as := [.ref a0, .int (64 + x1), .int x1]) (rest := []) kq_Mo_reachIn i_Mo_reachIn_17 rfl kq_Mo_reach (by decide) rfl rfl (fun h10 => ?_)
    refine ix_K_goto (tgt := 52) kq_Mo_reachIn i_Mo_reachIn_20 rfl (by decide) ?_
    exact ix_D_ret kq_Mo_reachIn i_Mo_reachIn_52 (ix_rtV rfl)
theorem x_Mo_reachIn {a0 : Nat} {x1 : Int32} {h h1 : ixH} (hr : ix_rc h a0 = some 11) (hd : ix_D mMo_reachIn 0 [some (.ref a0), some (.int x1)] [] h = some ([], h1)) : ix_M mMo_reachIn [.ref a0, .int x1] h = some ([], h1) := ix_M_of (ix_ent_i kq_Mo_reachIn rfl hr rfl (Nat.le_of_ble_eq_true rfl) rfl) hd (ix_okrV rfl)
theorem i_Mo_reachOut_0 : ix_nx mMo_reachOut 0 = some (0, .iconst 0, 1, none, [], 0) := rfl
theorem i_Mo_reachOut_1 : ix_nx mMo_reachOut 1 = some (0, .istore_n 2, 2, none, [], 0) := rfl
theorem i_Mo_reachOut_2 : ix_nx mMo_reachOut 2 = some (0, .iload_n 2, 3, some [true, true, true], [], 0) := rfl
theorem i_Mo_reachOut_3 : ix_nx mMo_reachOut 3 = some (0, .iconst 4, 4, none, [], 0) := rfl
theorem i_Mo_reachOut_4 : ix_nx mMo_reachOut 4 = some (0, .if_icmp .ge 42, 7, none, [], 0) := rfl
theorem i_Mo_reachOut_7 : ix_nx mMo_reachOut 7 = some (0, .aload_n 0, 8, none, [], 0) := rfl
theorem i_Mo_reachOut_8 : ix_nx mMo_reachOut 8 = some (0, .iload_n 1, 9, none, [], 0) := rfl
theorem i_Mo_reachOut_9 : ix_nx mMo_reachOut 9 = some (0, .iload_n 2, 10, none, [], 0) := rfl
theorem i_Mo_reachOut_10 : ix_nx mMo_reachOut 10 = some (3, .invokevirtual 191, 13, none, [0, 187, 202], 0) := rfl
theorem i_Mo_reachOut_13 : ix_nx mMo_reachOut 13 = some (0, .ifCond .eq 27, 16, none, [], 0) := rfl
theorem i_Mo_reachOut_16 : ix_nx mMo_reachOut 16 = some (0, .aload_n 0, 17, none, [], 0) := rfl
theorem i_Mo_reachOut_17 : ix_nx mMo_reachOut 17 = some (1, .getfield 39, 20, none, [11, 9, 2, 99], 0) := rfl
theorem i_Mo_reachOut_20 : ix_nx mMo_reachOut 20 = some (0, .iload_n 1, 21, none, [], 0) := rfl
theorem i_Mo_reachOut_21 : ix_nx mMo_reachOut 21 = some (1, .iaload, 22, none, [], 0) := rfl
theorem i_Mo_reachOut_22 : ix_nx mMo_reachOut 22 = some (0, .iload_n 2, 23, none, [], 0) := rfl
theorem i_Mo_reachOut_23 : ix_nx mMo_reachOut 23 = some (0, .if_icmp .eq 17, 26, none, [], 0) := rfl
theorem i_Mo_reachOut_26 : ix_nx mMo_reachOut 26 = some (0, .aload_n 0, 27, none, [], 0) := rfl
theorem i_Mo_reachOut_27 : ix_nx mMo_reachOut 27 = some (0, .aload_n 0, 28, none, [], 0) := rfl
theorem i_Mo_reachOut_28 : ix_nx mMo_reachOut 28 = some (0, .iload_n 1, 29, none, [], 0) := rfl
theorem i_Mo_reachOut_29 : ix_nx mMo_reachOut 29 = some (0, .iload_n 2, 30, none, [], 0) := rfl
theorem i_Mo_reachOut_30 : ix_nx mMo_reachOut 30 = some (3, .invokevirtual 113, 33, none, [0, 178, 194], 0) := rfl
theorem i_Mo_reachOut_33 : ix_nx mMo_reachOut 33 = some (0, .bipush 64, 35, none, [], 0) := rfl
theorem i_Mo_reachOut_35 : ix_nx mMo_reachOut 35 = some (0, .iload_n 1, 36, none, [], 0) := rfl
theorem i_Mo_reachOut_36 : ix_nx mMo_reachOut 36 = some (0, .iadd, 37, none, [], 0) := rfl
theorem i_Mo_reachOut_37 : ix_nx mMo_reachOut 37 = some (3, .invokevirtual 179, 40, none, [0, 184, 199], 0) := rfl
theorem i_Mo_reachOut_40 : ix_nx mMo_reachOut 40 = some (0, .iinc 2 1, 43, none, [], 0) := rfl
theorem i_Mo_reachOut_43 : ix_nx mMo_reachOut 43 = some (0, .goto (-41), 46, none, [], 0) := rfl
theorem i_Mo_reachOut_46 : ix_nx mMo_reachOut 46 = some (0, .aload_n 0, 47, none, [], 0) := rfl
theorem i_Mo_reachOut_47 : ix_nx mMo_reachOut 47 = some (1, .getfield 42, 50, none, [11, 10, 2, 100], 0) := rfl
theorem i_Mo_reachOut_50 : ix_nx mMo_reachOut 50 = some (0, .iload_n 1, 51, none, [], 0) := rfl
theorem i_Mo_reachOut_51 : ix_nx mMo_reachOut 51 = some (1, .iaload, 52, none, [], 0) := rfl
theorem i_Mo_reachOut_52 : ix_nx mMo_reachOut 52 = some (0, .bipush (-6), 54, none, [], 0) := rfl
theorem i_Mo_reachOut_54 : ix_nx mMo_reachOut 54 = some (0, .if_icmp .eq 12, 57, none, [], 0) := rfl
theorem i_Mo_reachOut_57 : ix_nx mMo_reachOut 57 = some (0, .aload_n 0, 58, none, [], 0) := rfl
theorem i_Mo_reachOut_58 : ix_nx mMo_reachOut 58 = some (0, .iload_n 1, 59, none, [], 0) := rfl
theorem i_Mo_reachOut_59 : ix_nx mMo_reachOut 59 = some (0, .bipush 64, 61, none, [], 0) := rfl
theorem i_Mo_reachOut_61 : ix_nx mMo_reachOut 61 = some (0, .iload_n 1, 62, none, [], 0) := rfl
theorem i_Mo_reachOut_62 : ix_nx mMo_reachOut 62 = some (0, .iadd, 63, none, [], 0) := rfl
theorem i_Mo_reachOut_63 : ix_nx mMo_reachOut 63 = some (3, .invokevirtual 179, 66, none, [0, 184, 199], 0) := rfl
theorem i_Mo_reachOut_66 : ix_nx mMo_reachOut 66 = some (4, .return_, 67, none, [], 0) := rfl
noncomputable def l_Mo_reachOut_2 (a0 : Nat) (x1 : Int32) (x2 : Int32) (h : ixH) : Option (List Value × ixH) := ix_D mMo_reachOut 2 [some (.ref a0), some (.int x1), some (.int x2)] [] h
set_option maxRecDepth 20000 in
set_option maxHeartbeats 1000000 in
theorem e_Mo_reachOut_2 (a0 : Nat) (x1 : Int32) (x2 : Int32) (h : ixH) : l_Mo_reachOut_2 a0 x1 x2 h = if 4 ≤ x2 then (ix_gr h a0 11 10).bind fun v1 => (ix_ai h v1 x1).bind fun v2 => if v2 = (-6) then some ([], h) else (ix_M mMo_reach [.ref a0, .int x1, .int (64 + x1)] h).bind fun r => ix_kV r fun h3 => some ([], h3) else (ix_M mMo_isOpenBeside [.ref a0, .int x1, .int x2] h).bind fun r => ix_kZ r fun v5 h4 => if v5 = true then (ix_gr h4 a0 11 9).bind fun v6 => (ix_ai h4 v6 x1).bind fun v7 => if v7 = x2 then l_Mo_reachOut_2 a0 x1 (x2 + 1) h4 else (ix_M mMo_beside [.ref a0, .int x1, .int x2] h4).bind fun r => ix_kI r fun v9 h8 => (ix_M mMo_reach [.ref a0, .int v9, .int (64 + x1)] h8).bind fun r => ix_kV r fun h10 => l_Mo_reachOut_2 a0 x1 (x2 + 1) h10 else l_Mo_reachOut_2 a0 x1 (x2 + 1) h4 := by
  unfold l_Mo_reachOut_2
  refine ix_K_px kq_Mo_reachOut i_Mo_reachOut_2 rfl rfl ?_
  refine ix_K_ci kq_Mo_reachOut i_Mo_reachOut_3 rfl kci_4 ?_
  refine ix_K_ic_ge (tgt := 46) kq_Mo_reachOut i_Mo_reachOut_4 rfl (by decide) ?_ ?_
  · refine ix_K_px kq_Mo_reachOut i_Mo_reachOut_46 rfl rfl ?_
    refine ix_K_gr kq_Mo_reachOut i_Mo_reachOut_47 rfl (fun v1 => ?_)
    refine ix_K_px kq_Mo_reachOut i_Mo_reachOut_50 rfl rfl ?_
    refine ix_K_ai kq_Mo_reachOut i_Mo_reachOut_51 rfl (fun v2 => ?_)
    refine ix_K_cb kq_Mo_reachOut i_Mo_reachOut_52 rfl kcb_m6 ?_
    refine ix_K_ic_eq (tgt := 66) kq_Mo_reachOut i_Mo_reachOut_54 rfl (by decide) ?_ ?_
    · exact ix_D_ret kq_Mo_reachOut i_Mo_reachOut_66 (ix_rtV rfl)
    · refine ix_K_px kq_Mo_reachOut i_Mo_reachOut_57 rfl rfl ?_
      refine ix_K_px kq_Mo_reachOut i_Mo_reachOut_58 rfl rfl ?_
      refine ix_K_cb kq_Mo_reachOut i_Mo_reachOut_59 rfl kcb_64 ?_
      refine ix_K_px kq_Mo_reachOut i_Mo_reachOut_61 rfl rfl ?_
      refine ix_K_px kq_Mo_reachOut i_Mo_reachOut_62 rfl rfl ?_
      refine ix_K_callV (as := [.ref a0, .int x1, .int (64 + x1)]) (rest := []) kq_Mo_reachOut i_Mo_reachOut_63 rfl kq_Mo_reach (by decide) rfl rfl (fun h3 => ?_)
      exact ix_D_ret kq_Mo_reachOut i_Mo_reachOut_66 (ix_rtV rfl)
  · refine ix_K_px kq_Mo_reachOut i_Mo_reachOut_7 rfl rfl ?_
    refine ix_K_px kq_Mo_reachOut i_Mo_reachOut_8 rfl rfl ?_
    refine ix_K_px kq_Mo_reachOut i_Mo_reachOut_9 rfl rfl ?_
    refine ix_K_callZ (as := [.ref a0, .int x1, .int x2]) (rest := []) kq_Mo_reachOut i_Mo_reachOut_10 rfl kq_Mo_isOpenBeside (by decide) rfl rfl (fun v5 h4 => ?_)
    refine ix_K_bz_eq (tgt := 40) kq_Mo_reachOut i_Mo_reachOut_13 rfl (by decide) ?_ ?_
    · refine ix_K_px kq_Mo_reachOut i_Mo_reachOut_16 rfl rfl ?_
      refine ix_K_gr kq_Mo_reachOut i_Mo_reachOut_17 rfl (fun v6 => ?_)
      refine ix_K_px kq_Mo_reachOut i_Mo_reachOut_20 rfl rfl ?_
      refine ix_K_ai kq_Mo_reachOut i_Mo_reachOut_21 rfl (fun v7 => ?_)
      refine ix_K_px kq_Mo_reachOut i_Mo_reachOut_22 rfl rfl ?_
      refine ix_K_ic_eq (tgt := 40) kq_Mo_reachOut i_Mo_reachOut_23 rfl (by decide) ?_ ?_
      · refine ix_K_inc (L2 := [some (.ref a0), some (.int x1), some (.int (x2 + 1))]) kq_Mo_reachOut i_Mo_reachOut_40 rfl rfl (Nat.le_of_ble_eq_true rfl) kci_1 rfl ?_
        refine ix_K_goto (tgt := 2) kq_Mo_reachOut i_Mo_reachOut_43 rfl (by decide) ?_
        exact ix_D_cut i_Mo_reachOut_2 rfl
      · refine ix_K_px kq_Mo_reachOut i_Mo_reachOut_26 rfl rfl ?_
        refine ix_K_px kq_Mo_reachOut i_Mo_reachOut_27 rfl rfl ?_
        refine ix_K_px kq_Mo_reachOut i_Mo_reachOut_28 rfl rfl ?_
        refine ix_K_px kq_Mo_reachOut i_Mo_reachOut_29 rfl rfl ?_
        refine ix_K_callI (as := [.ref a0, .int x1, .int x2]) (rest := [.ref a0]) kq_Mo_reachOut i_Mo_reachOut_30 rfl kq_Mo_beside (by decide) rfl (Or.inl rfl) (fun v9 h8 => ?_)
        refine ix_K_cb kq_Mo_reachOut i_Mo_reachOut_33 rfl kcb_64 ?_
        refine ix_K_px kq_Mo_reachOut i_Mo_reachOut_35 rfl rfl ?_
        refine ix_K_px kq_Mo_reachOut i_Mo_reachOut_36 rfl rfl ?_
        refine ix_K_callV (as := [.ref a0, .int v9, .int (64 + x1)]) (rest := []) kq_Mo_reachOut i_Mo_reachOut_37 rfl kq_Mo_reach (by decide) rfl rfl (fun h10 => ?_)
        refine ix_K_inc (L2 := [some (.ref a0), some (.int x1), some (.int (x2 + 1))]) kq_Mo_reachOut i_Mo_reachOut_40 rfl rfl (Nat.le_of_ble_eq_true rfl) kci_1 rfl ?_
        refine ix_K_goto (tgt := 2) kq_Mo_reachOut i_Mo_reachOut_43 rfl (by decide) ?_
        exact ix_D_cut i_Mo_reachOut_2 rfl
    · refine ix_K_inc (L2 := [some (.ref a0), some (.int x1), some (.int (x2 + 1))]) kq_Mo_reachOut i_Mo_reachOut_40 rfl rfl (Nat.le_of_ble_eq_true rfl) kci_1 rfl ?_
      refine ix_K_goto (tgt := 2) kq_Mo_reachOut i_Mo_reachOut_43 rfl (by decide) ?_
      exact ix_D_cut i_Mo_reachOut_2 rfl
set_option maxRecDepth 20000 in
set_option maxHeartbeats 1000000 in
theorem e_Mo_reachOut (a0 : Nat) (x1 : Int32) (h : ixH) : ix_D mMo_reachOut 0 [some (.ref a0), some (.int x1), none] [] h = l_Mo_reachOut_2 a0 x1 0 h := by
  refine ix_K_ci kq_Mo_reachOut i_Mo_reachOut_0 rfl kci_0 ?_
  refine ix_K_si (L2 := [some (.ref a0), some (.int x1), some (.int 0)]) kq_Mo_reachOut i_Mo_reachOut_1 rfl (Or.inr ⟨_, rfl, rfl⟩) (Nat.le_of_ble_eq_true rfl) rfl ?_
  exact ix_D_cut i_Mo_reachOut_2 rfl
theorem x_Mo_reachOut {a0 : Nat} {x1 : Int32} {h h1 : ixH} (hr : ix_rc h a0 = some 11) (hd : ix_D mMo_reachOut 0 [some (.ref a0), some (.int x1), none] [] h = some ([], h1)) : ix_M mMo_reachOut [.ref a0, .int x1] h = some ([], h1) := ix_M_of (ix_ent_i kq_Mo_reachOut rfl hr rfl (Nat.le_of_ble_eq_true rfl) rfl) hd (ix_okrV rfl)
theorem i_Mo_isOpenBeside_0 : ix_nx mMo_isOpenBeside 0 = some (0, .aload_n 0, 1, none, [], 0) := rfl
theorem i_Mo_isOpenBeside_1 : ix_nx mMo_isOpenBeside 1 = some (0, .iload_n 1, 2, none, [], 0) := rfl
theorem i_Mo_isOpenBeside_2 : ix_nx mMo_isOpenBeside 2 = some (0, .iload_n 2, 3, none, [], 0) := rfl
theorem i_Mo_isOpenBeside_3 : ix_nx mMo_isOpenBeside 3 = some (3, .invokevirtual 113, 6, none, [0, 178, 194], 0) := rfl
theorem i_Mo_isOpenBeside_6 : ix_nx mMo_isOpenBeside 6 = some (0, .istore_n 3, 7, none, [], 0) := rfl
theorem i_Mo_isOpenBeside_7 : ix_nx mMo_isOpenBeside 7 = some (0, .iload_n 3, 8, none, [], 0) := rfl
theorem i_Mo_isOpenBeside_8 : ix_nx mMo_isOpenBeside 8 = some (0, .ifCond .lt 15, 11, none, [], 0) := rfl
theorem i_Mo_isOpenBeside_11 : ix_nx mMo_isOpenBeside 11 = some (0, .aload_n 0, 12, none, [], 0) := rfl
theorem i_Mo_isOpenBeside_12 : ix_nx mMo_isOpenBeside 12 = some (0, .iload_n 3, 13, none, [], 0) := rfl
theorem i_Mo_isOpenBeside_13 : ix_nx mMo_isOpenBeside 13 = some (3, .invokevirtual 102, 16, none, [0, 160, 181], 0) := rfl
theorem i_Mo_isOpenBeside_16 : ix_nx mMo_isOpenBeside 16 = some (0, .ifCond .eq 7, 19, none, [], 0) := rfl
theorem i_Mo_isOpenBeside_19 : ix_nx mMo_isOpenBeside 19 = some (0, .iconst 1, 20, none, [], 0) := rfl
theorem i_Mo_isOpenBeside_20 : ix_nx mMo_isOpenBeside 20 = some (0, .goto 4, 23, none, [], 0) := rfl
theorem i_Mo_isOpenBeside_23 : ix_nx mMo_isOpenBeside 23 = some (0, .iconst 0, 24, none, [], 0) := rfl
theorem i_Mo_isOpenBeside_24 : ix_nx mMo_isOpenBeside 24 = some (4, .ireturn, 25, none, [], 0) := rfl
set_option maxRecDepth 20000 in
set_option maxHeartbeats 1000000 in
theorem e_Mo_isOpenBeside (a0 : Nat) (x1 : Int32) (x2 : Int32) (h : ixH) : ix_D mMo_isOpenBeside 0 [some (.ref a0), some (.int x1), some (.int x2), none] [] h = (ix_M mMo_beside [.ref a0, .int x1, .int x2] h).bind fun r => ix_kI r fun v2 h1 => if v2 < 0 then some ([.int (ix_bi false)], h1) else (ix_M mMo_isOpen [.ref a0, .int v2] h1).bind fun r => ix_kZ r fun v4 h3 => if v4 = true then some ([.int (ix_bi true)], h3) else some ([.int (ix_bi false)], h3) := by
  refine ix_K_px kq_Mo_isOpenBeside i_Mo_isOpenBeside_0 rfl rfl ?_
  refine ix_K_px kq_Mo_isOpenBeside i_Mo_isOpenBeside_1 rfl rfl ?_
  refine ix_K_px kq_Mo_isOpenBeside i_Mo_isOpenBeside_2 rfl rfl ?_
  refine ix_K_callI (as := [.ref a0, .int x1, .int x2]) (rest := []) kq_Mo_isOpenBeside i_Mo_isOpenBeside_3 rfl kq_Mo_beside (by decide) rfl (Or.inl rfl) (fun v2 h1 => ?_)
  refine ix_K_si (L2 := [some (.ref a0), some (.int x1), some (.int x2), some (.int v2)]) kq_Mo_isOpenBeside i_Mo_isOpenBeside_6 rfl (Or.inr ⟨_, rfl, rfl⟩) (Nat.le_of_ble_eq_true rfl) rfl ?_
  refine ix_K_px kq_Mo_isOpenBeside i_Mo_isOpenBeside_7 rfl rfl ?_
  refine ix_K_if_lt (tgt := 23) kq_Mo_isOpenBeside i_Mo_isOpenBeside_8 rfl (by decide) ?_ ?_
  · refine ix_K_ci kq_Mo_isOpenBeside i_Mo_isOpenBeside_23 rfl kci_0 ?_
    exact ix_D_ret kq_Mo_isOpenBeside i_Mo_isOpenBeside_24 (ix_rtZ rfl false)
  · refine ix_K_px kq_Mo_isOpenBeside i_Mo_isOpenBeside_11 rfl rfl ?_
    refine ix_K_px kq_Mo_isOpenBeside i_Mo_isOpenBeside_12 rfl rfl ?_
    refine ix_K_callZ (as := [.ref a0, .int v2]) (rest := []) kq_Mo_isOpenBeside i_Mo_isOpenBeside_13 rfl kq_Mo_isOpen (by decide) rfl rfl (fun v4 h3 => ?_)
    refine ix_K_bz_eq (tgt := 23) kq_Mo_isOpenBeside i_Mo_isOpenBeside_16 rfl (by decide) ?_ ?_
    · refine ix_K_ci kq_Mo_isOpenBeside i_Mo_isOpenBeside_19 rfl kci_1 ?_
      refine ix_K_goto (tgt := 24) kq_Mo_isOpenBeside i_Mo_isOpenBeside_20 rfl (by decide) ?_
      exact ix_D_ret kq_Mo_isOpenBeside i_Mo_isOpenBeside_24 (ix_rtZ rfl true)
    · refine ix_K_ci kq_Mo_isOpenBeside i_Mo_isOpenBeside_23 rfl kci_0 ?_
      exact ix_D_ret kq_Mo_isOpenBeside i_Mo_isOpenBeside_24 (ix_rtZ rfl false)
theorem x_Mo_isOpenBeside {a0 : Nat} {x1 : Int32} {x2 : Int32} {h h1 : ixH} {v : Bool} (hr : ix_rc h a0 = some 11) (hd : ix_D mMo_isOpenBeside 0 [some (.ref a0), some (.int x1), some (.int x2), none] [] h = some ([.int (ix_bi v)], h1)) : ix_M mMo_isOpenBeside [.ref a0, .int x1, .int x2] h = some ([.int (ix_bi v)], h1) := ix_M_of (ix_ent_i kq_Mo_isOpenBeside rfl hr rfl (Nat.le_of_ble_eq_true rfl) rfl) hd (ix_okrZ rfl v)
theorem i_Mo_turnWay_0 : ix_nx mMo_turnWay 0 = some (0, .iconst 0, 1, none, [], 0) := rfl
theorem i_Mo_turnWay_1 : ix_nx mMo_turnWay 1 = some (0, .istore_n 2, 2, none, [], 0) := rfl
theorem i_Mo_turnWay_2 : ix_nx mMo_turnWay 2 = some (0, .iload_n 2, 3, some [true, true, true, false, false, false], [], 0) := rfl
theorem i_Mo_turnWay_3 : ix_nx mMo_turnWay 3 = some (0, .aload_n 0, 4, none, [], 0) := rfl
theorem i_Mo_turnWay_4 : ix_nx mMo_turnWay 4 = some (3, .invokevirtual 94, 7, none, [0, 149, 175], 0) := rfl
theorem i_Mo_turnWay_7 : ix_nx mMo_turnWay 7 = some (0, .if_icmp .ge 89, 10, none, [], 0) := rfl
theorem i_Mo_turnWay_10 : ix_nx mMo_turnWay 10 = some (0, .aload_n 0, 11, none, [], 0) := rfl
theorem i_Mo_turnWay_11 : ix_nx mMo_turnWay 11 = some (1, .getfield 51, 14, none, [11, 16, 2, 106], 0) := rfl
theorem i_Mo_turnWay_14 : ix_nx mMo_turnWay 14 = some (0, .iload_n 2, 15, none, [], 0) := rfl
theorem i_Mo_turnWay_15 : ix_nx mMo_turnWay 15 = some (0, .aload_n 0, 16, none, [], 0) := rfl
theorem i_Mo_turnWay_16 : ix_nx mMo_turnWay 16 = some (1, .getfield 42, 19, none, [11, 10, 2, 100], 0) := rfl
theorem i_Mo_turnWay_19 : ix_nx mMo_turnWay 19 = some (0, .iload_n 2, 20, none, [], 0) := rfl
theorem i_Mo_turnWay_20 : ix_nx mMo_turnWay 20 = some (1, .iaload, 21, none, [], 0) := rfl
theorem i_Mo_turnWay_21 : ix_nx mMo_turnWay 21 = some (0, .iconst 4, 22, none, [], 0) := rfl
theorem i_Mo_turnWay_22 : ix_nx mMo_turnWay 22 = some (0, .if_icmp .ne 7, 25, none, [], 0) := rfl
theorem i_Mo_turnWay_25 : ix_nx mMo_turnWay 25 = some (0, .iconst 1, 26, none, [], 0) := rfl
theorem i_Mo_turnWay_26 : ix_nx mMo_turnWay 26 = some (0, .goto 4, 29, none, [], 0) := rfl
theorem i_Mo_turnWay_29 : ix_nx mMo_turnWay 29 = some (0, .iconst 0, 30, none, [], 0) := rfl
theorem i_Mo_turnWay_30 : ix_nx mMo_turnWay 30 = some (2, .iastore, 31, some [true, true, true, false, false, false], [], 0) := rfl
theorem i_Mo_turnWay_31 : ix_nx mMo_turnWay 31 = some (0, .aload_n 0, 32, none, [], 0) := rfl
theorem i_Mo_turnWay_32 : ix_nx mMo_turnWay 32 = some (1, .getfield 54, 35, none, [11, 17, 2, 107], 0) := rfl
theorem i_Mo_turnWay_35 : ix_nx mMo_turnWay 35 = some (0, .iload_n 2, 36, none, [], 0) := rfl
theorem i_Mo_turnWay_36 : ix_nx mMo_turnWay 36 = some (0, .aload_n 0, 37, none, [], 0) := rfl
theorem i_Mo_turnWay_37 : ix_nx mMo_turnWay 37 = some (1, .getfield 39, 40, none, [11, 9, 2, 99], 0) := rfl
theorem i_Mo_turnWay_40 : ix_nx mMo_turnWay 40 = some (0, .iload_n 2, 41, none, [], 0) := rfl
theorem i_Mo_turnWay_41 : ix_nx mMo_turnWay 41 = some (1, .iaload, 42, none, [], 0) := rfl
theorem i_Mo_turnWay_42 : ix_nx mMo_turnWay 42 = some (0, .iconst 4, 43, none, [], 0) := rfl
theorem i_Mo_turnWay_43 : ix_nx mMo_turnWay 43 = some (0, .if_icmp .ne 7, 46, none, [], 0) := rfl
theorem i_Mo_turnWay_46 : ix_nx mMo_turnWay 46 = some (0, .iconst 1, 47, none, [], 0) := rfl
theorem i_Mo_turnWay_47 : ix_nx mMo_turnWay 47 = some (0, .goto 4, 50, none, [], 0) := rfl
theorem i_Mo_turnWay_50 : ix_nx mMo_turnWay 50 = some (0, .iconst 0, 51, none, [], 0) := rfl
theorem i_Mo_turnWay_51 : ix_nx mMo_turnWay 51 = some (2, .iastore, 52, none, [], 0) := rfl
theorem i_Mo_turnWay_52 : ix_nx mMo_turnWay 52 = some (0, .iconst 0, 53, none, [], 0) := rfl
theorem i_Mo_turnWay_53 : ix_nx mMo_turnWay 53 = some (0, .istore_n 3, 54, none, [], 0) := rfl
theorem i_Mo_turnWay_54 : ix_nx mMo_turnWay 54 = some (0, .iload_n 3, 55, some [true, true, true, true, false, false], [], 0) := rfl
theorem i_Mo_turnWay_55 : ix_nx mMo_turnWay 55 = some (0, .iconst 4, 56, none, [], 0) := rfl
theorem i_Mo_turnWay_56 : ix_nx mMo_turnWay 56 = some (0, .if_icmp .ge 34, 59, none, [], 0) := rfl
theorem i_Mo_turnWay_59 : ix_nx mMo_turnWay 59 = some (0, .aload_n 0, 60, none, [], 0) := rfl
theorem i_Mo_turnWay_60 : ix_nx mMo_turnWay 60 = some (1, .getfield 48, 63, none, [11, 15, 2, 105], 0) := rfl
theorem i_Mo_turnWay_63 : ix_nx mMo_turnWay 63 = some (0, .iconst 4, 64, none, [], 0) := rfl
theorem i_Mo_turnWay_64 : ix_nx mMo_turnWay 64 = some (0, .iload_n 2, 65, none, [], 0) := rfl
theorem i_Mo_turnWay_65 : ix_nx mMo_turnWay 65 = some (0, .imul, 66, none, [], 0) := rfl
theorem i_Mo_turnWay_66 : ix_nx mMo_turnWay 66 = some (0, .iload_n 3, 67, none, [], 0) := rfl
theorem i_Mo_turnWay_67 : ix_nx mMo_turnWay 67 = some (0, .iadd, 68, none, [], 0) := rfl
theorem i_Mo_turnWay_68 : ix_nx mMo_turnWay 68 = some (0, .aload_n 0, 69, none, [], 0) := rfl
theorem i_Mo_turnWay_69 : ix_nx mMo_turnWay 69 = some (1, .getfield 39, 72, none, [11, 9, 2, 99], 0) := rfl
theorem i_Mo_turnWay_72 : ix_nx mMo_turnWay 72 = some (0, .iload_n 2, 73, none, [], 0) := rfl
theorem i_Mo_turnWay_73 : ix_nx mMo_turnWay 73 = some (1, .iaload, 74, none, [], 0) := rfl
theorem i_Mo_turnWay_74 : ix_nx mMo_turnWay 74 = some (0, .iload_n 3, 75, none, [], 0) := rfl
theorem i_Mo_turnWay_75 : ix_nx mMo_turnWay 75 = some (0, .if_icmp .ne 7, 78, none, [], 0) := rfl
theorem i_Mo_turnWay_78 : ix_nx mMo_turnWay 78 = some (0, .iconst 1, 79, none, [], 0) := rfl
theorem i_Mo_turnWay_79 : ix_nx mMo_turnWay 79 = some (0, .goto 4, 82, none, [], 0) := rfl
theorem i_Mo_turnWay_82 : ix_nx mMo_turnWay 82 = some (0, .iconst 0, 83, none, [], 0) := rfl
theorem i_Mo_turnWay_83 : ix_nx mMo_turnWay 83 = some (2, .iastore, 84, none, [], 0) := rfl
theorem i_Mo_turnWay_84 : ix_nx mMo_turnWay 84 = some (0, .iinc 3 1, 87, none, [], 0) := rfl
theorem i_Mo_turnWay_87 : ix_nx mMo_turnWay 87 = some (0, .goto (-33), 90, none, [], 0) := rfl
theorem i_Mo_turnWay_90 : ix_nx mMo_turnWay 90 = some (0, .iinc 2 1, 93, none, [], 0) := rfl
theorem i_Mo_turnWay_93 : ix_nx mMo_turnWay 93 = some (0, .goto (-91), 96, none, [], 0) := rfl
theorem i_Mo_turnWay_96 : ix_nx mMo_turnWay 96 = some (0, .aload_n 0, 97, none, [], 0) := rfl
theorem i_Mo_turnWay_97 : ix_nx mMo_turnWay 97 = some (1, .getfield 54, 100, none, [11, 17, 2, 107], 0) := rfl
theorem i_Mo_turnWay_100 : ix_nx mMo_turnWay 100 = some (0, .iload_n 1, 101, none, [], 0) := rfl
theorem i_Mo_turnWay_101 : ix_nx mMo_turnWay 101 = some (0, .iconst 1, 102, none, [], 0) := rfl
theorem i_Mo_turnWay_102 : ix_nx mMo_turnWay 102 = some (2, .iastore, 103, none, [], 0) := rfl
theorem i_Mo_turnWay_103 : ix_nx mMo_turnWay 103 = some (0, .bipush 64, 105, none, [], 0) := rfl
theorem i_Mo_turnWay_105 : ix_nx mMo_turnWay 105 = some (0, .iload_n 1, 106, none, [], 0) := rfl
theorem i_Mo_turnWay_106 : ix_nx mMo_turnWay 106 = some (0, .iadd, 107, none, [], 0) := rfl
theorem i_Mo_turnWay_107 : ix_nx mMo_turnWay 107 = some (0, .istore_n 2, 108, none, [], 0) := rfl
theorem i_Mo_turnWay_108 : ix_nx mMo_turnWay 108 = some (0, .aload_n 0, 109, some [true, false, true, false, false, false], [], 0) := rfl
theorem i_Mo_turnWay_109 : ix_nx mMo_turnWay 109 = some (1, .getfield 45, 112, none, [11, 11, 2, 101], 0) := rfl
theorem i_Mo_turnWay_112 : ix_nx mMo_turnWay 112 = some (0, .iload_n 2, 113, none, [], 0) := rfl
theorem i_Mo_turnWay_113 : ix_nx mMo_turnWay 113 = some (1, .iaload, 114, none, [], 0) := rfl
theorem i_Mo_turnWay_114 : ix_nx mMo_turnWay 114 = some (0, .sipush 200, 117, none, [], 0) := rfl
theorem i_Mo_turnWay_117 : ix_nx mMo_turnWay 117 = some (0, .if_icmp .eq 106, 120, none, [], 0) := rfl
theorem i_Mo_turnWay_120 : ix_nx mMo_turnWay 120 = some (0, .aload_n 0, 121, none, [], 0) := rfl
theorem i_Mo_turnWay_121 : ix_nx mMo_turnWay 121 = some (1, .getfield 45, 124, none, [11, 11, 2, 101], 0) := rfl
theorem i_Mo_turnWay_124 : ix_nx mMo_turnWay 124 = some (0, .iload_n 2, 125, none, [], 0) := rfl
theorem i_Mo_turnWay_125 : ix_nx mMo_turnWay 125 = some (1, .iaload, 126, none, [], 0) := rfl
theorem i_Mo_turnWay_126 : ix_nx mMo_turnWay 126 = some (0, .istore_n 3, 127, none, [], 0) := rfl
theorem i_Mo_turnWay_127 : ix_nx mMo_turnWay 127 = some (0, .iload_n 3, 128, none, [], 0) := rfl
theorem i_Mo_turnWay_128 : ix_nx mMo_turnWay 128 = some (0, .bipush 64, 130, none, [], 0) := rfl
theorem i_Mo_turnWay_130 : ix_nx mMo_turnWay 130 = some (0, .irem, 131, none, [], 0) := rfl
set_option maxRecDepth 50000 in
theorem i_Mo_turnWay_131 : ix_nx mMo_turnWay 131 = some (0, .istore 4, 133, none, [], 0) := rfl
set_option maxRecDepth 50000 in
theorem i_Mo_turnWay_133 : ix_nx mMo_turnWay 133 = some (0, .iload_n 2, 134, none, [], 0) := rfl
set_option maxRecDepth 50000 in
theorem i_Mo_turnWay_134 : ix_nx mMo_turnWay 134 = some (0, .bipush 64, 136, none, [], 0) := rfl
set_option maxRecDepth 50000 in
theorem i_Mo_turnWay_136 : ix_nx mMo_turnWay 136 = some (0, .irem, 137, none, [], 0) := rfl
set_option maxRecDepth 50000 in
theorem i_Mo_turnWay_137 : ix_nx mMo_turnWay 137 = some (0, .istore 5, 139, none, [], 0) := rfl
set_option maxRecDepth 50000 in
theorem i_Mo_turnWay_139 : ix_nx mMo_turnWay 139 = some (0, .iload_n 3, 140, none, [], 0) := rfl
set_option maxRecDepth 50000 in
theorem i_Mo_turnWay_140 : ix_nx mMo_turnWay 140 = some (0, .bipush 64, 142, none, [], 0) := rfl
set_option maxRecDepth 50000 in
theorem i_Mo_turnWay_142 : ix_nx mMo_turnWay 142 = some (0, .if_icmp .lt 38, 145, none, [], 0) := rfl
set_option maxRecDepth 50000 in
theorem i_Mo_turnWay_145 : ix_nx mMo_turnWay 145 = some (0, .iload_n 2, 146, none, [], 0) := rfl
set_option maxRecDepth 50000 in
theorem i_Mo_turnWay_146 : ix_nx mMo_turnWay 146 = some (0, .bipush 64, 148, none, [], 0) := rfl
set_option maxRecDepth 50000 in
theorem i_Mo_turnWay_148 : ix_nx mMo_turnWay 148 = some (0, .if_icmp .ge 32, 151, none, [], 0) := rfl
set_option maxRecDepth 50000 in
theorem i_Mo_turnWay_151 : ix_nx mMo_turnWay 151 = some (0, .iload 4, 153, none, [], 0) := rfl
set_option maxRecDepth 50000 in
theorem i_Mo_turnWay_153 : ix_nx mMo_turnWay 153 = some (0, .iload 5, 155, none, [], 0) := rfl
set_option maxRecDepth 50000 in
theorem i_Mo_turnWay_155 : ix_nx mMo_turnWay 155 = some (0, .if_icmp .eq 25, 158, none, [], 0) := rfl
set_option maxRecDepth 50000 in
theorem i_Mo_turnWay_158 : ix_nx mMo_turnWay 158 = some (0, .aload_n 0, 159, none, [], 0) := rfl
set_option maxRecDepth 50000 in
theorem i_Mo_turnWay_159 : ix_nx mMo_turnWay 159 = some (1, .getfield 48, 162, none, [11, 15, 2, 105], 0) := rfl
set_option maxRecDepth 50000 in
theorem i_Mo_turnWay_162 : ix_nx mMo_turnWay 162 = some (0, .iconst 4, 163, none, [], 0) := rfl
set_option maxRecDepth 50000 in
theorem i_Mo_turnWay_163 : ix_nx mMo_turnWay 163 = some (0, .iload 4, 165, none, [], 0) := rfl
set_option maxRecDepth 50000 in
theorem i_Mo_turnWay_165 : ix_nx mMo_turnWay 165 = some (0, .imul, 166, none, [], 0) := rfl
set_option maxRecDepth 50000 in
theorem i_Mo_turnWay_166 : ix_nx mMo_turnWay 166 = some (0, .aload_n 0, 167, none, [], 0) := rfl
set_option maxRecDepth 50000 in
theorem i_Mo_turnWay_167 : ix_nx mMo_turnWay 167 = some (0, .iload 4, 169, none, [], 0) := rfl
set_option maxRecDepth 50000 in
theorem i_Mo_turnWay_169 : ix_nx mMo_turnWay 169 = some (0, .iload 5, 171, none, [], 0) := rfl
set_option maxRecDepth 50000 in
theorem i_Mo_turnWay_171 : ix_nx mMo_turnWay 171 = some (3, .invokevirtual 194, 174, none, [0, 189, 203], 0) := rfl
set_option maxRecDepth 50000 in
theorem i_Mo_turnWay_174 : ix_nx mMo_turnWay 174 = some (0, .iadd, 175, none, [], 0) := rfl
set_option maxRecDepth 50000 in
theorem i_Mo_turnWay_175 : ix_nx mMo_turnWay 175 = some (0, .iconst 1, 176, none, [], 0) := rfl
set_option maxRecDepth 50000 in
theorem i_Mo_turnWay_176 : ix_nx mMo_turnWay 176 = some (2, .iastore, 177, none, [], 0) := rfl
set_option maxRecDepth 50000 in
theorem i_Mo_turnWay_177 : ix_nx mMo_turnWay 177 = some (0, .goto 41, 180, none, [], 0) := rfl
set_option maxRecDepth 50000 in
theorem i_Mo_turnWay_180 : ix_nx mMo_turnWay 180 = some (0, .iload_n 3, 181, some [true, false, true, true, true, true], [], 0) := rfl
set_option maxRecDepth 50000 in
theorem i_Mo_turnWay_181 : ix_nx mMo_turnWay 181 = some (0, .bipush 64, 183, none, [], 0) := rfl
set_option maxRecDepth 50000 in
theorem i_Mo_turnWay_183 : ix_nx mMo_turnWay 183 = some (0, .if_icmp .ge 35, 186, none, [], 0) := rfl
set_option maxRecDepth 50000 in
theorem i_Mo_turnWay_186 : ix_nx mMo_turnWay 186 = some (0, .iload_n 2, 187, none, [], 0) := rfl
set_option maxRecDepth 50000 in
theorem i_Mo_turnWay_187 : ix_nx mMo_turnWay 187 = some (0, .bipush 64, 189, none, [], 0) := rfl
set_option maxRecDepth 50000 in
theorem i_Mo_turnWay_189 : ix_nx mMo_turnWay 189 = some (0, .if_icmp .lt 29, 192, none, [], 0) := rfl
set_option maxRecDepth 50000 in
theorem i_Mo_turnWay_192 : ix_nx mMo_turnWay 192 = some (0, .iload 4, 194, none, [], 0) := rfl
set_option maxRecDepth 50000 in
theorem i_Mo_turnWay_194 : ix_nx mMo_turnWay 194 = some (0, .iload 5, 196, none, [], 0) := rfl
set_option maxRecDepth 50000 in
theorem i_Mo_turnWay_196 : ix_nx mMo_turnWay 196 = some (0, .if_icmp .eq 22, 199, none, [], 0) := rfl
set_option maxRecDepth 50000 in
theorem i_Mo_turnWay_199 : ix_nx mMo_turnWay 199 = some (0, .aload_n 0, 200, none, [], 0) := rfl
set_option maxRecDepth 50000 in
theorem i_Mo_turnWay_200 : ix_nx mMo_turnWay 200 = some (1, .getfield 48, 203, none, [11, 15, 2, 105], 0) := rfl
set_option maxRecDepth 50000 in
theorem i_Mo_turnWay_203 : ix_nx mMo_turnWay 203 = some (0, .iconst 4, 204, none, [], 0) := rfl
set_option maxRecDepth 50000 in
theorem i_Mo_turnWay_204 : ix_nx mMo_turnWay 204 = some (0, .iload 5, 206, none, [], 0) := rfl
set_option maxRecDepth 50000 in
theorem i_Mo_turnWay_206 : ix_nx mMo_turnWay 206 = some (0, .imul, 207, none, [], 0) := rfl
set_option maxRecDepth 50000 in
theorem i_Mo_turnWay_207 : ix_nx mMo_turnWay 207 = some (0, .aload_n 0, 208, none, [], 0) := rfl
set_option maxRecDepth 50000 in
theorem i_Mo_turnWay_208 : ix_nx mMo_turnWay 208 = some (0, .iload 5, 210, none, [], 0) := rfl
set_option maxRecDepth 50000 in
theorem i_Mo_turnWay_210 : ix_nx mMo_turnWay 210 = some (0, .iload 4, 212, none, [], 0) := rfl
set_option maxRecDepth 50000 in
theorem i_Mo_turnWay_212 : ix_nx mMo_turnWay 212 = some (3, .invokevirtual 194, 215, none, [0, 189, 203], 0) := rfl
set_option maxRecDepth 50000 in
theorem i_Mo_turnWay_215 : ix_nx mMo_turnWay 215 = some (0, .iadd, 216, none, [], 0) := rfl
set_option maxRecDepth 50000 in
theorem i_Mo_turnWay_216 : ix_nx mMo_turnWay 216 = some (0, .iconst 0, 217, none, [], 0) := rfl
set_option maxRecDepth 50000 in
theorem i_Mo_turnWay_217 : ix_nx mMo_turnWay 217 = some (2, .iastore, 218, none, [], 0) := rfl
set_option maxRecDepth 50000 in
theorem i_Mo_turnWay_218 : ix_nx mMo_turnWay 218 = some (0, .iload_n 3, 219, none, [], 0) := rfl
set_option maxRecDepth 50000 in
theorem i_Mo_turnWay_219 : ix_nx mMo_turnWay 219 = some (0, .istore_n 2, 220, none, [], 0) := rfl
set_option maxRecDepth 50000 in
theorem i_Mo_turnWay_220 : ix_nx mMo_turnWay 220 = some (0, .goto (-112), 223, none, [], 0) := rfl
set_option maxRecDepth 50000 in
theorem i_Mo_turnWay_223 : ix_nx mMo_turnWay 223 = some (0, .aload_n 0, 224, none, [], 0) := rfl
set_option maxRecDepth 50000 in
theorem i_Mo_turnWay_224 : ix_nx mMo_turnWay 224 = some (1, .getfield 51, 227, none, [11, 16, 2, 106], 0) := rfl
set_option maxRecDepth 50000 in
theorem i_Mo_turnWay_227 : ix_nx mMo_turnWay 227 = some (0, .iload_n 2, 228, none, [], 0) := rfl
set_option maxRecDepth 50000 in
theorem i_Mo_turnWay_228 : ix_nx mMo_turnWay 228 = some (0, .iconst 1, 229, none, [], 0) := rfl
set_option maxRecDepth 50000 in
theorem i_Mo_turnWay_229 : ix_nx mMo_turnWay 229 = some (2, .iastore, 230, none, [], 0) := rfl
set_option maxRecDepth 50000 in
theorem i_Mo_turnWay_230 : ix_nx mMo_turnWay 230 = some (0, .iconst 0, 231, none, [], 0) := rfl
set_option maxRecDepth 50000 in
theorem i_Mo_turnWay_231 : ix_nx mMo_turnWay 231 = some (0, .istore_n 3, 232, none, [], 0) := rfl
set_option maxRecDepth 50000 in
theorem i_Mo_turnWay_232 : ix_nx mMo_turnWay 232 = some (0, .iload_n 3, 233, some [true, false, false, true, false, false], [], 0) := rfl
set_option maxRecDepth 50000 in
theorem i_Mo_turnWay_233 : ix_nx mMo_turnWay 233 = some (0, .aload_n 0, 234, none, [], 0) := rfl
set_option maxRecDepth 50000 in
theorem i_Mo_turnWay_234 : ix_nx mMo_turnWay 234 = some (3, .invokevirtual 94, 237, none, [0, 149, 175], 0) := rfl
set_option maxRecDepth 50000 in
theorem i_Mo_turnWay_237 : ix_nx mMo_turnWay 237 = some (0, .if_icmp .ge 53, 240, none, [], 0) := rfl
set_option maxRecDepth 50000 in
theorem i_Mo_turnWay_240 : ix_nx mMo_turnWay 240 = some (0, .aload_n 0, 241, none, [], 0) := rfl
set_option maxRecDepth 50000 in
theorem i_Mo_turnWay_241 : ix_nx mMo_turnWay 241 = some (1, .getfield 39, 244, none, [11, 9, 2, 99], 0) := rfl
set_option maxRecDepth 50000 in
theorem i_Mo_turnWay_244 : ix_nx mMo_turnWay 244 = some (0, .iload_n 3, 245, none, [], 0) := rfl
set_option maxRecDepth 50000 in
theorem i_Mo_turnWay_245 : ix_nx mMo_turnWay 245 = some (0, .aload_n 0, 246, none, [], 0) := rfl
set_option maxRecDepth 50000 in
theorem i_Mo_turnWay_246 : ix_nx mMo_turnWay 246 = some (1, .getfield 54, 249, none, [11, 17, 2, 107], 0) := rfl
set_option maxRecDepth 50000 in
theorem i_Mo_turnWay_249 : ix_nx mMo_turnWay 249 = some (0, .iload_n 3, 250, none, [], 0) := rfl
set_option maxRecDepth 50000 in
theorem i_Mo_turnWay_250 : ix_nx mMo_turnWay 250 = some (1, .iaload, 251, none, [], 0) := rfl
set_option maxRecDepth 50000 in
theorem i_Mo_turnWay_251 : ix_nx mMo_turnWay 251 = some (0, .iconst 1, 252, none, [], 0) := rfl
set_option maxRecDepth 50000 in
theorem i_Mo_turnWay_252 : ix_nx mMo_turnWay 252 = some (0, .if_icmp .ne 7, 255, none, [], 0) := rfl
set_option maxRecDepth 50000 in
theorem i_Mo_turnWay_255 : ix_nx mMo_turnWay 255 = some (0, .iconst 4, 256, none, [], 0) := rfl
set_option maxRecDepth 50000 in
theorem i_Mo_turnWay_256 : ix_nx mMo_turnWay 256 = some (0, .goto 5, 259, none, [], 0) := rfl
set_option maxRecDepth 50000 in
theorem i_Mo_turnWay_259 : ix_nx mMo_turnWay 259 = some (0, .bipush (-6), 261, none, [], 0) := rfl
set_option maxRecDepth 50000 in
theorem i_Mo_turnWay_261 : ix_nx mMo_turnWay 261 = some (2, .iastore, 262, some [true, false, false, true, false, false], [], 0) := rfl
set_option maxRecDepth 50000 in
theorem i_Mo_turnWay_262 : ix_nx mMo_turnWay 262 = some (0, .aload_n 0, 263, none, [], 0) := rfl
set_option maxRecDepth 50000 in
theorem i_Mo_turnWay_263 : ix_nx mMo_turnWay 263 = some (1, .getfield 42, 266, none, [11, 10, 2, 100], 0) := rfl
set_option maxRecDepth 50000 in
theorem i_Mo_turnWay_266 : ix_nx mMo_turnWay 266 = some (0, .iload_n 3, 267, none, [], 0) := rfl
set_option maxRecDepth 50000 in
theorem i_Mo_turnWay_267 : ix_nx mMo_turnWay 267 = some (0, .aload_n 0, 268, none, [], 0) := rfl
set_option maxRecDepth 50000 in
theorem i_Mo_turnWay_268 : ix_nx mMo_turnWay 268 = some (1, .getfield 51, 271, none, [11, 16, 2, 106], 0) := rfl
set_option maxRecDepth 50000 in
theorem i_Mo_turnWay_271 : ix_nx mMo_turnWay 271 = some (0, .iload_n 3, 272, none, [], 0) := rfl
set_option maxRecDepth 50000 in
theorem i_Mo_turnWay_272 : ix_nx mMo_turnWay 272 = some (1, .iaload, 273, none, [], 0) := rfl
set_option maxRecDepth 50000 in
theorem i_Mo_turnWay_273 : ix_nx mMo_turnWay 273 = some (0, .iconst 1, 274, none, [], 0) := rfl
set_option maxRecDepth 50000 in
theorem i_Mo_turnWay_274 : ix_nx mMo_turnWay 274 = some (0, .if_icmp .ne 7, 277, none, [], 0) := rfl
set_option maxRecDepth 50000 in
theorem i_Mo_turnWay_277 : ix_nx mMo_turnWay 277 = some (0, .iconst 4, 278, none, [], 0) := rfl
set_option maxRecDepth 50000 in
theorem i_Mo_turnWay_278 : ix_nx mMo_turnWay 278 = some (0, .goto 5, 281, none, [], 0) := rfl
set_option maxRecDepth 50000 in
theorem i_Mo_turnWay_281 : ix_nx mMo_turnWay 281 = some (0, .bipush (-6), 283, none, [], 0) := rfl
set_option maxRecDepth 50000 in
theorem i_Mo_turnWay_283 : ix_nx mMo_turnWay 283 = some (2, .iastore, 284, none, [], 0) := rfl
set_option maxRecDepth 50000 in
theorem i_Mo_turnWay_284 : ix_nx mMo_turnWay 284 = some (0, .iinc 3 1, 287, none, [], 0) := rfl
set_option maxRecDepth 50000 in
theorem i_Mo_turnWay_287 : ix_nx mMo_turnWay 287 = some (0, .goto (-55), 290, none, [], 0) := rfl
set_option maxRecDepth 50000 in
theorem i_Mo_turnWay_290 : ix_nx mMo_turnWay 290 = some (0, .iconst 0, 291, none, [], 0) := rfl
set_option maxRecDepth 50000 in
theorem i_Mo_turnWay_291 : ix_nx mMo_turnWay 291 = some (0, .istore_n 3, 292, none, [], 0) := rfl
set_option maxRecDepth 50000 in
theorem i_Mo_turnWay_292 : ix_nx mMo_turnWay 292 = some (0, .iload_n 3, 293, some [true, false, false, true, false, false], [], 0) := rfl
set_option maxRecDepth 50000 in
theorem i_Mo_turnWay_293 : ix_nx mMo_turnWay 293 = some (0, .aload_n 0, 294, none, [], 0) := rfl
set_option maxRecDepth 50000 in
theorem i_Mo_turnWay_294 : ix_nx mMo_turnWay 294 = some (3, .invokevirtual 94, 297, none, [0, 149, 175], 0) := rfl
set_option maxRecDepth 50000 in
theorem i_Mo_turnWay_297 : ix_nx mMo_turnWay 297 = some (0, .if_icmp .ge 64, 300, none, [], 0) := rfl
set_option maxRecDepth 50000 in
theorem i_Mo_turnWay_300 : ix_nx mMo_turnWay 300 = some (0, .iconst 0, 301, none, [], 0) := rfl
set_option maxRecDepth 50000 in
theorem i_Mo_turnWay_301 : ix_nx mMo_turnWay 301 = some (0, .istore 4, 303, none, [], 0) := rfl
set_option maxRecDepth 50000 in
theorem i_Mo_turnWay_303 : ix_nx mMo_turnWay 303 = some (0, .iload 4, 305, some [true, false, false, true, true, false], [], 0) := rfl
set_option maxRecDepth 50000 in
theorem i_Mo_turnWay_305 : ix_nx mMo_turnWay 305 = some (0, .iconst 4, 306, none, [], 0) := rfl
set_option maxRecDepth 50000 in
theorem i_Mo_turnWay_306 : ix_nx mMo_turnWay 306 = some (0, .if_icmp .ge 49, 309, none, [], 0) := rfl
set_option maxRecDepth 50000 in
theorem i_Mo_turnWay_309 : ix_nx mMo_turnWay 309 = some (0, .aload_n 0, 310, none, [], 0) := rfl
set_option maxRecDepth 50000 in
theorem i_Mo_turnWay_310 : ix_nx mMo_turnWay 310 = some (1, .getfield 48, 313, none, [11, 15, 2, 105], 0) := rfl
set_option maxRecDepth 50000 in
theorem i_Mo_turnWay_313 : ix_nx mMo_turnWay 313 = some (0, .iconst 4, 314, none, [], 0) := rfl
set_option maxRecDepth 50000 in
theorem i_Mo_turnWay_314 : ix_nx mMo_turnWay 314 = some (0, .iload_n 3, 315, none, [], 0) := rfl
set_option maxRecDepth 50000 in
theorem i_Mo_turnWay_315 : ix_nx mMo_turnWay 315 = some (0, .imul, 316, none, [], 0) := rfl
set_option maxRecDepth 50000 in
theorem i_Mo_turnWay_316 : ix_nx mMo_turnWay 316 = some (0, .iload 4, 318, none, [], 0) := rfl
set_option maxRecDepth 50000 in
theorem i_Mo_turnWay_318 : ix_nx mMo_turnWay 318 = some (0, .iadd, 319, none, [], 0) := rfl
set_option maxRecDepth 50000 in
theorem i_Mo_turnWay_319 : ix_nx mMo_turnWay 319 = some (1, .iaload, 320, none, [], 0) := rfl
set_option maxRecDepth 50000 in
theorem i_Mo_turnWay_320 : ix_nx mMo_turnWay 320 = some (0, .iconst 1, 321, none, [], 0) := rfl
set_option maxRecDepth 50000 in
theorem i_Mo_turnWay_321 : ix_nx mMo_turnWay 321 = some (0, .if_icmp .ne 28, 324, none, [], 0) := rfl
set_option maxRecDepth 50000 in
theorem i_Mo_turnWay_324 : ix_nx mMo_turnWay 324 = some (0, .aload_n 0, 325, none, [], 0) := rfl
set_option maxRecDepth 50000 in
theorem i_Mo_turnWay_325 : ix_nx mMo_turnWay 325 = some (1, .getfield 39, 328, none, [11, 9, 2, 99], 0) := rfl
set_option maxRecDepth 50000 in
theorem i_Mo_turnWay_328 : ix_nx mMo_turnWay 328 = some (0, .iload_n 3, 329, none, [], 0) := rfl
set_option maxRecDepth 50000 in
theorem i_Mo_turnWay_329 : ix_nx mMo_turnWay 329 = some (0, .iload 4, 331, none, [], 0) := rfl
set_option maxRecDepth 50000 in
theorem i_Mo_turnWay_331 : ix_nx mMo_turnWay 331 = some (2, .iastore, 332, none, [], 0) := rfl
set_option maxRecDepth 50000 in
theorem i_Mo_turnWay_332 : ix_nx mMo_turnWay 332 = some (0, .aload_n 0, 333, none, [], 0) := rfl
set_option maxRecDepth 50000 in
theorem i_Mo_turnWay_333 : ix_nx mMo_turnWay 333 = some (1, .getfield 42, 336, none, [11, 10, 2, 100], 0) := rfl
set_option maxRecDepth 50000 in
theorem i_Mo_turnWay_336 : ix_nx mMo_turnWay 336 = some (0, .aload_n 0, 337, none, [], 0) := rfl
set_option maxRecDepth 50000 in
theorem i_Mo_turnWay_337 : ix_nx mMo_turnWay 337 = some (0, .iload_n 3, 338, none, [], 0) := rfl
set_option maxRecDepth 50000 in
theorem i_Mo_turnWay_338 : ix_nx mMo_turnWay 338 = some (0, .iload 4, 340, none, [], 0) := rfl
set_option maxRecDepth 50000 in
theorem i_Mo_turnWay_340 : ix_nx mMo_turnWay 340 = some (3, .invokevirtual 113, 343, none, [0, 178, 194], 0) := rfl
set_option maxRecDepth 50000 in
theorem i_Mo_turnWay_343 : ix_nx mMo_turnWay 343 = some (0, .iload 4, 345, none, [], 0) := rfl
set_option maxRecDepth 50000 in
theorem i_Mo_turnWay_345 : ix_nx mMo_turnWay 345 = some (3, .invokestatic 197, 348, none, [1, 190, 204], 0) := rfl
set_option maxRecDepth 50000 in
theorem i_Mo_turnWay_348 : ix_nx mMo_turnWay 348 = some (2, .iastore, 349, none, [], 0) := rfl
set_option maxRecDepth 50000 in
theorem i_Mo_turnWay_349 : ix_nx mMo_turnWay 349 = some (0, .iinc 4 1, 352, none, [], 0) := rfl
set_option maxRecDepth 50000 in
theorem i_Mo_turnWay_352 : ix_nx mMo_turnWay 352 = some (0, .goto (-49), 355, none, [], 0) := rfl
set_option maxRecDepth 50000 in
theorem i_Mo_turnWay_355 : ix_nx mMo_turnWay 355 = some (0, .iinc 3 1, 358, none, [], 0) := rfl
set_option maxRecDepth 50000 in
theorem i_Mo_turnWay_358 : ix_nx mMo_turnWay 358 = some (0, .goto (-66), 361, none, [], 0) := rfl
set_option maxRecDepth 50000 in
theorem i_Mo_turnWay_361 : ix_nx mMo_turnWay 361 = some (4, .return_, 362, none, [], 0) := rfl
noncomputable def l_Mo_turnWay_2 (a0 : Nat) (x1 : Int32) (x2 : Int32) (h : ixH) : Option (List Value × ixH) := ix_D mMo_turnWay 2 [some (.ref a0), some (.int x1), some (.int x2), none, none, none] [] h
noncomputable def l_Mo_turnWay_30 (a0 : Nat) (x1 : Int32) (x2 : Int32) (sa0 : Nat) (s1 : Int32) (sb2 : Bool) (h : ixH) : Option (List Value × ixH) := ix_D mMo_turnWay 30 [some (.ref a0), some (.int x1), some (.int x2), none, none, none] [.int (ix_bi sb2), .int s1, .ref sa0] h
noncomputable def l_Mo_turnWay_54 (a0 : Nat) (x1 : Int32) (x2 : Int32) (x3 : Int32) (h : ixH) : Option (List Value × ixH) := ix_D mMo_turnWay 54 [some (.ref a0), some (.int x1), some (.int x2), some (.int x3), none, none] [] h
noncomputable def l_Mo_turnWay_108 (a0 : Nat) (x2 : Int32) (h : ixH) : Option (List Value × ixH) := ix_D mMo_turnWay 108 [some (.ref a0), none, some (.int x2), none, none, none] [] h
noncomputable def l_Mo_turnWay_180 (a0 : Nat) (x2 : Int32) (x3 : Int32) (x4 : Int32) (x5 : Int32) (h : ixH) : Option (List Value × ixH) := ix_D mMo_turnWay 180 [some (.ref a0), none, some (.int x2), some (.int x3), some (.int x4), some (.int x5)] [] h
noncomputable def l_Mo_turnWay_232 (a0 : Nat) (x3 : Int32) (h : ixH) : Option (List Value × ixH) := ix_D mMo_turnWay 232 [some (.ref a0), none, none, some (.int x3), none, none] [] h
noncomputable def l_Mo_turnWay_261 (a0 : Nat) (x3 : Int32) (sa0 : Nat) (s1 : Int32) (s2 : Int32) (h : ixH) : Option (List Value × ixH) := ix_D mMo_turnWay 261 [some (.ref a0), none, none, some (.int x3), none, none] [.int s2, .int s1, .ref sa0] h
noncomputable def l_Mo_turnWay_292 (a0 : Nat) (x3 : Int32) (h : ixH) : Option (List Value × ixH) := ix_D mMo_turnWay 292 [some (.ref a0), none, none, some (.int x3), none, none] [] h
noncomputable def l_Mo_turnWay_303 (a0 : Nat) (x3 : Int32) (x4 : Int32) (h : ixH) : Option (List Value × ixH) := ix_D mMo_turnWay 303 [some (.ref a0), none, none, some (.int x3), some (.int x4), none] [] h
set_option maxRecDepth 20000 in
set_option maxHeartbeats 1000000 in
theorem e_Mo_turnWay_2 (a0 : Nat) (x1 : Int32) (x2 : Int32) (h : ixH) : l_Mo_turnWay_2 a0 x1 x2 h = (ix_M mMo_cells [.ref a0] h).bind fun r => ix_kI r fun v2 h1 => if v2 ≤ x2 then (ix_gr h1 a0 11 17).bind fun v3 => (ix_si h1 v3 x1 1).bind fun h4 => l_Mo_turnWay_108 a0 (64 + x1) h4 else (ix_gr h1 a0 11 16).bind fun v5 => (ix_gr h1 a0 11 10).bind fun v6 => (ix_ai h1 v6 x2).bind fun v7 => if ¬ v7 = 4 then l_Mo_turnWay_30 a0 x1 x2 v5 x2 false h1 else l_Mo_turnWay_30 a0 x1 x2 v5 x2 true h1 := by
  unfold l_Mo_turnWay_2
  refine ix_K_px kq_Mo_turnWay i_Mo_turnWay_2 rfl rfl ?_
  refine ix_K_px kq_Mo_turnWay i_Mo_turnWay_3 rfl rfl ?_
  refine ix_K_callI (as := [.ref a0]) (rest := [.int x2]) kq_Mo_turnWay i_Mo_turnWay_4 rfl kq_Mo_cells (by decide) rfl (Or.inl rfl) (fun v2 h1 => ?_)
  refine ix_K_ic_ge (tgt := 96) kq_Mo_turnWay i_Mo_turnWay_7 rfl (by decide) ?_ ?_
  · refine ix_K_px kq_Mo_turnWay i_Mo_turnWay_96 rfl rfl ?_
    refine ix_K_gr kq_Mo_turnWay i_Mo_turnWay_97 rfl (fun v3 => ?_)
    refine ix_K_px kq_Mo_turnWay i_Mo_turnWay_100 rfl rfl ?_
    refine ix_K_ci kq_Mo_turnWay i_Mo_turnWay_101 rfl kci_1 ?_
    refine ix_K_ti kq_Mo_turnWay i_Mo_turnWay_102 rfl (fun h4 => ?_)
    refine ix_K_cb kq_Mo_turnWay i_Mo_turnWay_103 rfl kcb_64 ?_
    refine ix_K_px kq_Mo_turnWay i_Mo_turnWay_105 rfl rfl ?_
    refine ix_K_px kq_Mo_turnWay i_Mo_turnWay_106 rfl rfl ?_
    refine ix_K_si (L2 := [some (.ref a0), some (.int x1), some (.int (64 + x1)), none, none, none]) kq_Mo_turnWay i_Mo_turnWay_107 rfl (Or.inr ⟨_, rfl, rfl⟩) (Nat.le_of_ble_eq_true rfl) rfl ?_
    exact ix_D_cut i_Mo_turnWay_108 rfl
  · refine ix_K_px kq_Mo_turnWay i_Mo_turnWay_10 rfl rfl ?_
    refine ix_K_gr kq_Mo_turnWay i_Mo_turnWay_11 rfl (fun v5 => ?_)
    refine ix_K_px kq_Mo_turnWay i_Mo_turnWay_14 rfl rfl ?_
    refine ix_K_px kq_Mo_turnWay i_Mo_turnWay_15 rfl rfl ?_
    refine ix_K_gr kq_Mo_turnWay i_Mo_turnWay_16 rfl (fun v6 => ?_)
    refine ix_K_px kq_Mo_turnWay i_Mo_turnWay_19 rfl rfl ?_
    refine ix_K_ai kq_Mo_turnWay i_Mo_turnWay_20 rfl (fun v7 => ?_)
    refine ix_K_ci kq_Mo_turnWay i_Mo_turnWay_21 rfl kci_4 ?_
    refine ix_K_ic_ne (tgt := 29) kq_Mo_turnWay i_Mo_turnWay_22 rfl (by decide) ?_ ?_
    · refine ix_K_ci kq_Mo_turnWay i_Mo_turnWay_29 rfl kci_0 ?_
      exact ix_D_cut i_Mo_turnWay_30 rfl
    · refine ix_K_ci kq_Mo_turnWay i_Mo_turnWay_25 rfl kci_1 ?_
      refine ix_K_goto (tgt := 30) kq_Mo_turnWay i_Mo_turnWay_26 rfl (by decide) ?_
      exact ix_D_cut i_Mo_turnWay_30 rfl
set_option maxRecDepth 20000 in
set_option maxHeartbeats 1000000 in
theorem e_Mo_turnWay_30 (a0 : Nat) (x1 : Int32) (x2 : Int32) (sa0 : Nat) (s1 : Int32) (sb2 : Bool) (h : ixH) : l_Mo_turnWay_30 a0 x1 x2 sa0 s1 sb2 h = (ix_si h sa0 s1 (ix_bi sb2)).bind fun h1 => (ix_gr h1 a0 11 17).bind fun v2 => (ix_gr h1 a0 11 9).bind fun v3 => (ix_ai h1 v3 x2).bind fun v4 => if ¬ v4 = 4 then (ix_si h1 v2 x2 0).bind fun h5 => l_Mo_turnWay_54 a0 x1 x2 0 h5 else (ix_si h1 v2 x2 1).bind fun h6 => l_Mo_turnWay_54 a0 x1 x2 0 h6 := by
  unfold l_Mo_turnWay_30
  refine ix_K_ti kq_Mo_turnWay i_Mo_turnWay_30 rfl (fun h1 => ?_)
  refine ix_K_px kq_Mo_turnWay i_Mo_turnWay_31 rfl rfl ?_
  refine ix_K_gr kq_Mo_turnWay i_Mo_turnWay_32 rfl (fun v2 => ?_)
  refine ix_K_px kq_Mo_turnWay i_Mo_turnWay_35 rfl rfl ?_
  refine ix_K_px kq_Mo_turnWay i_Mo_turnWay_36 rfl rfl ?_
  refine ix_K_gr kq_Mo_turnWay i_Mo_turnWay_37 rfl (fun v3 => ?_)
  refine ix_K_px kq_Mo_turnWay i_Mo_turnWay_40 rfl rfl ?_
  refine ix_K_ai kq_Mo_turnWay i_Mo_turnWay_41 rfl (fun v4 => ?_)
  refine ix_K_ci kq_Mo_turnWay i_Mo_turnWay_42 rfl kci_4 ?_
  refine ix_K_ic_ne (tgt := 50) kq_Mo_turnWay i_Mo_turnWay_43 rfl (by decide) ?_ ?_
  · refine ix_K_ci kq_Mo_turnWay i_Mo_turnWay_50 rfl kci_0 ?_
    refine ix_K_ti kq_Mo_turnWay i_Mo_turnWay_51 rfl (fun h5 => ?_)
    refine ix_K_ci kq_Mo_turnWay i_Mo_turnWay_52 rfl kci_0 ?_
    refine ix_K_si (L2 := [some (.ref a0), some (.int x1), some (.int x2), some (.int 0), none, none]) kq_Mo_turnWay i_Mo_turnWay_53 rfl (Or.inr ⟨_, rfl, rfl⟩) (Nat.le_of_ble_eq_true rfl) rfl ?_
    exact ix_D_cut i_Mo_turnWay_54 rfl
  · refine ix_K_ci kq_Mo_turnWay i_Mo_turnWay_46 rfl kci_1 ?_
    refine ix_K_goto (tgt := 51) kq_Mo_turnWay i_Mo_turnWay_47 rfl (by decide) ?_
    refine ix_K_ti kq_Mo_turnWay i_Mo_turnWay_51 rfl (fun h6 => ?_)
    refine ix_K_ci kq_Mo_turnWay i_Mo_turnWay_52 rfl kci_0 ?_
    refine ix_K_si (L2 := [some (.ref a0), some (.int x1), some (.int x2), some (.int 0), none, none]) kq_Mo_turnWay i_Mo_turnWay_53 rfl (Or.inr ⟨_, rfl, rfl⟩) (Nat.le_of_ble_eq_true rfl) rfl ?_
    exact ix_D_cut i_Mo_turnWay_54 rfl
set_option maxRecDepth 20000 in
set_option maxHeartbeats 1000000 in
theorem e_Mo_turnWay_54 (a0 : Nat) (x1 : Int32) (x2 : Int32) (x3 : Int32) (h : ixH) : l_Mo_turnWay_54 a0 x1 x2 x3 h = if 4 ≤ x3 then l_Mo_turnWay_2 a0 x1 (x2 + 1) h else (ix_gr h a0 11 15).bind fun v1 => (ix_gr h a0 11 9).bind fun v2 => (ix_ai h v2 x2).bind fun v3 => if ¬ v3 = x3 then (ix_si h v1 ((4 * x2) + x3) 0).bind fun h4 => l_Mo_turnWay_54 a0 x1 x2 (x3 + 1) h4 else (ix_si h v1 ((4 * x2) + x3) 1).bind fun h5 => l_Mo_turnWay_54 a0 x1 x2 (x3 + 1) h5 := by
  unfold l_Mo_turnWay_54
  refine ix_K_px kq_Mo_turnWay i_Mo_turnWay_54 rfl rfl ?_
  refine ix_K_ci kq_Mo_turnWay i_Mo_turnWay_55 rfl kci_4 ?_
  refine ix_K_ic_ge (tgt := 90) kq_Mo_turnWay i_Mo_turnWay_56 rfl (by decide) ?_ ?_
  · refine ix_K_inc (L2 := [some (.ref a0), some (.int x1), some (.int (x2 + 1)), some (.int x3), none, none]) kq_Mo_turnWay i_Mo_turnWay_90 rfl rfl (Nat.le_of_ble_eq_true rfl) kci_1 rfl ?_
    refine ix_K_goto (tgt := 2) kq_Mo_turnWay i_Mo_turnWay_93 rfl (by decide) ?_
    exact ix_D_cut i_Mo_turnWay_2 rfl
  · refine ix_K_px kq_Mo_turnWay i_Mo_turnWay_59 rfl rfl ?_
    refine ix_K_gr kq_Mo_turnWay i_Mo_turnWay_60 rfl (fun v1 => ?_)
    refine ix_K_ci kq_Mo_turnWay i_Mo_turnWay_63 rfl kci_4 ?_
    refine ix_K_px kq_Mo_turnWay i_Mo_turnWay_64 rfl rfl ?_
    refine ix_K_px kq_Mo_turnWay i_Mo_turnWay_65 rfl rfl ?_
    refine ix_K_px kq_Mo_turnWay i_Mo_turnWay_66 rfl rfl ?_
    refine ix_K_px kq_Mo_turnWay i_Mo_turnWay_67 rfl rfl ?_
    refine ix_K_px kq_Mo_turnWay i_Mo_turnWay_68 rfl rfl ?_
    refine ix_K_gr kq_Mo_turnWay i_Mo_turnWay_69 rfl (fun v2 => ?_)
    refine ix_K_px kq_Mo_turnWay i_Mo_turnWay_72 rfl rfl ?_
    refine ix_K_ai kq_Mo_turnWay i_Mo_turnWay_73 rfl (fun v3 => ?_)
    refine ix_K_px kq_Mo_turnWay i_Mo_turnWay_74 rfl rfl ?_
    refine ix_K_ic_ne (tgt := 82) kq_Mo_turnWay i_Mo_turnWay_75 rfl (by decide) ?_ ?_
    · refine ix_K_ci kq_Mo_turnWay i_Mo_turnWay_82 rfl kci_0 ?_
      refine ix_K_ti kq_Mo_turnWay i_Mo_turnWay_83 rfl (fun h4 => ?_)
      refine ix_K_inc (L2 := [some (.ref a0), some (.int x1), some (.int x2), some (.int (x3 + 1)), none, none]) kq_Mo_turnWay i_Mo_turnWay_84 rfl rfl (Nat.le_of_ble_eq_true rfl) kci_1 rfl ?_
      refine ix_K_goto (tgt := 54) kq_Mo_turnWay i_Mo_turnWay_87 rfl (by decide) ?_
      exact ix_D_cut i_Mo_turnWay_54 rfl
    · refine ix_K_ci kq_Mo_turnWay i_Mo_turnWay_78 rfl kci_1 ?_
      refine ix_K_goto (tgt := 83) kq_Mo_turnWay i_Mo_turnWay_79 rfl (by decide) ?_
      refine ix_K_ti kq_Mo_turnWay i_Mo_turnWay_83 rfl (fun h5 => ?_)
      refine ix_K_inc (L2 := [some (.ref a0), some (.int x1), some (.int x2), some (.int (x3 + 1)), none, none]) kq_Mo_turnWay i_Mo_turnWay_84 rfl rfl (Nat.le_of_ble_eq_true rfl) kci_1 rfl ?_
      refine ix_K_goto (tgt := 54) kq_Mo_turnWay i_Mo_turnWay_87 rfl (by decide) ?_
      exact ix_D_cut i_Mo_turnWay_54 rfl
set_option maxRecDepth 20000 in
set_option maxHeartbeats 1000000 in
theorem e_Mo_turnWay_108 (a0 : Nat) (x2 : Int32) (h : ixH) : l_Mo_turnWay_108 a0 x2 h = (ix_gr h a0 11 11).bind fun v1 => (ix_ai h v1 x2).bind fun v2 => if v2 = 200 then (ix_gr h a0 11 16).bind fun v3 => (ix_si h v3 x2 1).bind fun h4 => l_Mo_turnWay_232 a0 0 h4 else (ix_gr h a0 11 11).bind fun v5 => (ix_ai h v5 x2).bind fun v6 => if 64 = 0 then none else if 64 = 0 then none else if v6 < 64 then l_Mo_turnWay_180 a0 x2 v6 (ix_rem v6 64) (ix_rem x2 64) h else if 64 ≤ x2 then l_Mo_turnWay_180 a0 x2 v6 (ix_rem v6 64) (ix_rem x2 64) h else if (ix_rem v6 64) = (ix_rem x2 64) then l_Mo_turnWay_180 a0 x2 v6 (ix_rem v6 64) (ix_rem x2 64) h else (ix_gr h a0 11 15).bind fun v7 => (ix_M mMo_directionTo [.ref a0, .int (ix_rem v6 64), .int (ix_rem x2 64)] h).bind fun r => ix_kI r fun v9 h8 => (ix_si h8 v7 ((4 * (ix_rem v6 64)) + v9) 1).bind fun h10 => l_Mo_turnWay_108 a0 v6 h10 := by
  unfold l_Mo_turnWay_108
  refine ix_K_px kq_Mo_turnWay i_Mo_turnWay_108 rfl rfl ?_
  refine ix_K_gr kq_Mo_turnWay i_Mo_turnWay_109 rfl (fun v1 => ?_)
  refine ix_K_px kq_Mo_turnWay i_Mo_turnWay_112 rfl rfl ?_
  refine ix_K_ai kq_Mo_turnWay i_Mo_turnWay_113 rfl (fun v2 => ?_)
  refine ix_K_cs kq_Mo_turnWay i_Mo_turnWay_114 rfl kcs_200 ?_
  refine ix_K_ic_eq (tgt := 223) kq_Mo_turnWay i_Mo_turnWay_117 rfl (by decide) ?_ ?_
  · refine ix_K_px kq_Mo_turnWay i_Mo_turnWay_223 rfl rfl ?_
    refine ix_K_gr kq_Mo_turnWay i_Mo_turnWay_224 rfl (fun v3 => ?_)
    refine ix_K_px kq_Mo_turnWay i_Mo_turnWay_227 rfl rfl ?_
    refine ix_K_ci kq_Mo_turnWay i_Mo_turnWay_228 rfl kci_1 ?_
    refine ix_K_ti kq_Mo_turnWay i_Mo_turnWay_229 rfl (fun h4 => ?_)
    refine ix_K_ci kq_Mo_turnWay i_Mo_turnWay_230 rfl kci_0 ?_
    refine ix_K_si (L2 := [some (.ref a0), none, some (.int x2), some (.int 0), none, none]) kq_Mo_turnWay i_Mo_turnWay_231 rfl (Or.inr ⟨_, rfl, rfl⟩) (Nat.le_of_ble_eq_true rfl) rfl ?_
    exact ix_D_cut i_Mo_turnWay_232 rfl
  · refine ix_K_px kq_Mo_turnWay i_Mo_turnWay_120 rfl rfl ?_
    refine ix_K_gr kq_Mo_turnWay i_Mo_turnWay_121 rfl (fun v5 => ?_)
    refine ix_K_px kq_Mo_turnWay i_Mo_turnWay_124 rfl rfl ?_
    refine ix_K_ai kq_Mo_turnWay i_Mo_turnWay_125 rfl (fun v6 => ?_)
    refine ix_K_si (L2 := [some (.ref a0), none, some (.int x2), some (.int v6), none, none]) kq_Mo_turnWay i_Mo_turnWay_126 rfl (Or.inr ⟨_, rfl, rfl⟩) (Nat.le_of_ble_eq_true rfl) rfl ?_
    refine ix_K_px kq_Mo_turnWay i_Mo_turnWay_127 rfl rfl ?_
    refine ix_K_cb kq_Mo_turnWay i_Mo_turnWay_128 rfl kcb_64 ?_
    refine ix_K_rem kq_Mo_turnWay i_Mo_turnWay_130 rfl ?_
    refine ix_K_si (L2 := [some (.ref a0), none, some (.int x2), some (.int v6), some (.int (ix_rem v6 64)), none]) kq_Mo_turnWay i_Mo_turnWay_131 rfl (Or.inl rfl) (Nat.le_of_ble_eq_true rfl) rfl ?_
    refine ix_K_px kq_Mo_turnWay i_Mo_turnWay_133 rfl rfl ?_
    refine ix_K_cb kq_Mo_turnWay i_Mo_turnWay_134 rfl kcb_64 ?_
    refine ix_K_rem kq_Mo_turnWay i_Mo_turnWay_136 rfl ?_
    refine ix_K_si (L2 := [some (.ref a0), none, some (.int x2), some (.int v6), some (.int (ix_rem v6 64)), some (.int (ix_rem x2 64))]) kq_Mo_turnWay i_Mo_turnWay_137 rfl (Or.inl rfl) (Nat.le_of_ble_eq_true rfl) rfl ?_
    refine ix_K_px kq_Mo_turnWay i_Mo_turnWay_139 rfl rfl ?_
    refine ix_K_cb kq_Mo_turnWay i_Mo_turnWay_140 rfl kcb_64 ?_
    refine ix_K_ic_lt (tgt := 180) kq_Mo_turnWay i_Mo_turnWay_142 rfl (by decide) ?_ ?_
    · exact ix_D_cut i_Mo_turnWay_180 rfl
    · refine ix_K_px kq_Mo_turnWay i_Mo_turnWay_145 rfl rfl ?_
      refine ix_K_cb kq_Mo_turnWay i_Mo_turnWay_146 rfl kcb_64 ?_
      refine ix_K_ic_ge (tgt := 180) kq_Mo_turnWay i_Mo_turnWay_148 rfl (by decide) ?_ ?_
      · exact ix_D_cut i_Mo_turnWay_180 rfl
      · refine ix_K_px kq_Mo_turnWay i_Mo_turnWay_151 rfl rfl ?_
        refine ix_K_px kq_Mo_turnWay i_Mo_turnWay_153 rfl rfl ?_
        refine ix_K_ic_eq (tgt := 180) kq_Mo_turnWay i_Mo_turnWay_155 rfl (by decide) ?_ ?_
        · exact ix_D_cut i_Mo_turnWay_180 rfl
        · refine ix_K_px kq_Mo_turnWay i_Mo_turnWay_158 rfl rfl ?_
          refine ix_K_gr kq_Mo_turnWay i_Mo_turnWay_159 rfl (fun v7 => ?_)
          refine ix_K_ci kq_Mo_turnWay i_Mo_turnWay_162 rfl kci_4 ?_
          refine ix_K_px kq_Mo_turnWay i_Mo_turnWay_163 rfl rfl ?_
          refine ix_K_px kq_Mo_turnWay i_Mo_turnWay_165 rfl rfl ?_
          refine ix_K_px kq_Mo_turnWay i_Mo_turnWay_166 rfl rfl ?_
          refine ix_K_px kq_Mo_turnWay i_Mo_turnWay_167 rfl rfl ?_
          refine ix_K_px kq_Mo_turnWay i_Mo_turnWay_169 rfl rfl ?_
          refine ix_K_callI (as := [.ref a0, .int (ix_rem v6 64), .int (ix_rem x2 64)]) (rest := [.int (4 * (ix_rem v6 64)), .ref v7]) kq_Mo_turnWay i_Mo_turnWay_171 rfl kq_Mo_directionTo (by decide) rfl (Or.inl rfl) (fun v9 h8 => ?_)
          refine ix_K_px kq_Mo_turnWay i_Mo_turnWay_174 rfl rfl ?_
          refine ix_K_ci kq_Mo_turnWay i_Mo_turnWay_175 rfl kci_1 ?_
          refine ix_K_ti kq_Mo_turnWay i_Mo_turnWay_176 rfl (fun h10 => ?_)
          refine ix_K_goto (tgt := 218) kq_Mo_turnWay i_Mo_turnWay_177 rfl (by decide) ?_
          refine ix_K_px kq_Mo_turnWay i_Mo_turnWay_218 rfl rfl ?_
          refine ix_K_si (L2 := [some (.ref a0), none, some (.int v6), some (.int v6), some (.int (ix_rem v6 64)), some (.int (ix_rem x2 64))]) kq_Mo_turnWay i_Mo_turnWay_219 rfl (Or.inr ⟨_, rfl, rfl⟩) (Nat.le_of_ble_eq_true rfl) rfl ?_
          refine ix_K_goto (tgt := 108) kq_Mo_turnWay i_Mo_turnWay_220 rfl (by decide) ?_
          exact ix_D_cut i_Mo_turnWay_108 rfl
set_option maxRecDepth 20000 in
set_option maxHeartbeats 1000000 in
theorem e_Mo_turnWay_180 (a0 : Nat) (x2 : Int32) (x3 : Int32) (x4 : Int32) (x5 : Int32) (h : ixH) : l_Mo_turnWay_180 a0 x2 x3 x4 x5 h = if 64 ≤ x3 then l_Mo_turnWay_108 a0 x3 h else if x2 < 64 then l_Mo_turnWay_108 a0 x3 h else if x4 = x5 then l_Mo_turnWay_108 a0 x3 h else (ix_gr h a0 11 15).bind fun v1 => (ix_M mMo_directionTo [.ref a0, .int x5, .int x4] h).bind fun r => ix_kI r fun v3 h2 => (ix_si h2 v1 ((4 * x5) + v3) 0).bind fun h4 => l_Mo_turnWay_108 a0 x3 h4 := by
  unfold l_Mo_turnWay_180
  refine ix_K_px kq_Mo_turnWay i_Mo_turnWay_180 rfl rfl ?_
  refine ix_K_cb kq_Mo_turnWay i_Mo_turnWay_181 rfl kcb_64 ?_
  refine ix_K_ic_ge (tgt := 218) kq_Mo_turnWay i_Mo_turnWay_183 rfl (by decide) ?_ ?_
  · refine ix_K_px kq_Mo_turnWay i_Mo_turnWay_218 rfl rfl ?_
    refine ix_K_si (L2 := [some (.ref a0), none, some (.int x3), some (.int x3), some (.int x4), some (.int x5)]) kq_Mo_turnWay i_Mo_turnWay_219 rfl (Or.inr ⟨_, rfl, rfl⟩) (Nat.le_of_ble_eq_true rfl) rfl ?_
    refine ix_K_goto (tgt := 108) kq_Mo_turnWay i_Mo_turnWay_220 rfl (by decide) ?_
    exact ix_D_cut i_Mo_turnWay_108 rfl
  · refine ix_K_px kq_Mo_turnWay i_Mo_turnWay_186 rfl rfl ?_
    refine ix_K_cb kq_Mo_turnWay i_Mo_turnWay_187 rfl kcb_64 ?_
    refine ix_K_ic_lt (tgt := 218) kq_Mo_turnWay i_Mo_turnWay_189 rfl (by decide) ?_ ?_
    · refine ix_K_px kq_Mo_turnWay i_Mo_turnWay_218 rfl rfl ?_
      refine ix_K_si (L2 := [some (.ref a0), none, some (.int x3), some (.int x3), some (.int x4), some (.int x5)]) kq_Mo_turnWay i_Mo_turnWay_219 rfl (Or.inr ⟨_, rfl, rfl⟩) (Nat.le_of_ble_eq_true rfl) rfl ?_
      refine ix_K_goto (tgt := 108) kq_Mo_turnWay i_Mo_turnWay_220 rfl (by decide) ?_
      exact ix_D_cut i_Mo_turnWay_108 rfl
    · refine ix_K_px kq_Mo_turnWay i_Mo_turnWay_192 rfl rfl ?_
      refine ix_K_px kq_Mo_turnWay i_Mo_turnWay_194 rfl rfl ?_
      refine ix_K_ic_eq (tgt := 218) kq_Mo_turnWay i_Mo_turnWay_196 rfl (by decide) ?_ ?_
      · refine ix_K_px kq_Mo_turnWay i_Mo_turnWay_218 rfl rfl ?_
        refine ix_K_si (L2 := [some (.ref a0), none, some (.int x3), some (.int x3), some (.int x4), some (.int x5)]) kq_Mo_turnWay i_Mo_turnWay_219 rfl (Or.inr ⟨_, rfl, rfl⟩) (Nat.le_of_ble_eq_true rfl) rfl ?_
        refine ix_K_goto (tgt := 108) kq_Mo_turnWay i_Mo_turnWay_220 rfl (by decide) ?_
        exact ix_D_cut i_Mo_turnWay_108 rfl
      · refine ix_K_px kq_Mo_turnWay i_Mo_turnWay_199 rfl rfl ?_
        refine ix_K_gr kq_Mo_turnWay i_Mo_turnWay_200 rfl (fun v1 => ?_)
        refine ix_K_ci kq_Mo_turnWay i_Mo_turnWay_203 rfl kci_4 ?_
        refine ix_K_px kq_Mo_turnWay i_Mo_turnWay_204 rfl rfl ?_
        refine ix_K_px kq_Mo_turnWay i_Mo_turnWay_206 rfl rfl ?_
        refine ix_K_px kq_Mo_turnWay i_Mo_turnWay_207 rfl rfl ?_
        refine ix_K_px kq_Mo_turnWay i_Mo_turnWay_208 rfl rfl ?_
        refine ix_K_px kq_Mo_turnWay i_Mo_turnWay_210 rfl rfl ?_
        refine ix_K_callI (as := [.ref a0, .int x5, .int x4]) (rest := [.int (4 * x5), .ref v1]) kq_Mo_turnWay i_Mo_turnWay_212 rfl kq_Mo_directionTo (by decide) rfl (Or.inl rfl) (fun v3 h2 => ?_)
        refine ix_K_px kq_Mo_turnWay i_Mo_turnWay_215 rfl rfl ?_
        refine ix_K_ci kq_Mo_turnWay i_Mo_turnWay_216 rfl kci_0 ?_
        refine ix_K_ti kq_Mo_turnWay i_Mo_turnWay_217 rfl (fun h4 => ?_)
        refine ix_K_px kq_Mo_turnWay i_Mo_turnWay_218 rfl rfl ?_
        refine ix_K_si (L2 := [some (.ref a0), none, some (.int x3), some (.int x3), some (.int x4), some (.int x5)]) kq_Mo_turnWay i_Mo_turnWay_219 rfl (Or.inr ⟨_, rfl, rfl⟩) (Nat.le_of_ble_eq_true rfl) rfl ?_
        refine ix_K_goto (tgt := 108) kq_Mo_turnWay i_Mo_turnWay_220 rfl (by decide) ?_
        exact ix_D_cut i_Mo_turnWay_108 rfl
set_option maxRecDepth 20000 in
set_option maxHeartbeats 1000000 in
theorem e_Mo_turnWay_232 (a0 : Nat) (x3 : Int32) (h : ixH) : l_Mo_turnWay_232 a0 x3 h = (ix_M mMo_cells [.ref a0] h).bind fun r => ix_kI r fun v2 h1 => if v2 ≤ x3 then l_Mo_turnWay_292 a0 0 h1 else (ix_gr h1 a0 11 9).bind fun v3 => (ix_gr h1 a0 11 17).bind fun v4 => (ix_ai h1 v4 x3).bind fun v5 => if ¬ v5 = 1 then l_Mo_turnWay_261 a0 x3 v3 x3 (-6) h1 else l_Mo_turnWay_261 a0 x3 v3 x3 4 h1 := by
  unfold l_Mo_turnWay_232
  refine ix_K_px kq_Mo_turnWay i_Mo_turnWay_232 rfl rfl ?_
  refine ix_K_px kq_Mo_turnWay i_Mo_turnWay_233 rfl rfl ?_
  refine ix_K_callI (as := [.ref a0]) (rest := [.int x3]) kq_Mo_turnWay i_Mo_turnWay_234 rfl kq_Mo_cells (by decide) rfl (Or.inl rfl) (fun v2 h1 => ?_)
  refine ix_K_ic_ge (tgt := 290) kq_Mo_turnWay i_Mo_turnWay_237 rfl (by decide) ?_ ?_
  · refine ix_K_ci kq_Mo_turnWay i_Mo_turnWay_290 rfl kci_0 ?_
    refine ix_K_si (L2 := [some (.ref a0), none, none, some (.int 0), none, none]) kq_Mo_turnWay i_Mo_turnWay_291 rfl (Or.inr ⟨_, rfl, rfl⟩) (Nat.le_of_ble_eq_true rfl) rfl ?_
    exact ix_D_cut i_Mo_turnWay_292 rfl
  · refine ix_K_px kq_Mo_turnWay i_Mo_turnWay_240 rfl rfl ?_
    refine ix_K_gr kq_Mo_turnWay i_Mo_turnWay_241 rfl (fun v3 => ?_)
    refine ix_K_px kq_Mo_turnWay i_Mo_turnWay_244 rfl rfl ?_
    refine ix_K_px kq_Mo_turnWay i_Mo_turnWay_245 rfl rfl ?_
    refine ix_K_gr kq_Mo_turnWay i_Mo_turnWay_246 rfl (fun v4 => ?_)
    refine ix_K_px kq_Mo_turnWay i_Mo_turnWay_249 rfl rfl ?_
    refine ix_K_ai kq_Mo_turnWay i_Mo_turnWay_250 rfl (fun v5 => ?_)
    refine ix_K_ci kq_Mo_turnWay i_Mo_turnWay_251 rfl kci_1 ?_
    refine ix_K_ic_ne (tgt := 259) kq_Mo_turnWay i_Mo_turnWay_252 rfl (by decide) ?_ ?_
    · refine ix_K_cb kq_Mo_turnWay i_Mo_turnWay_259 rfl kcb_m6 ?_
      exact ix_D_cut i_Mo_turnWay_261 rfl
    · refine ix_K_ci kq_Mo_turnWay i_Mo_turnWay_255 rfl kci_4 ?_
      refine ix_K_goto (tgt := 261) kq_Mo_turnWay i_Mo_turnWay_256 rfl (by decide) ?_
      exact ix_D_cut i_Mo_turnWay_261 rfl
set_option maxRecDepth 20000 in
set_option maxHeartbeats 1000000 in
theorem e_Mo_turnWay_261 (a0 : Nat) (x3 : Int32) (sa0 : Nat) (s1 : Int32) (s2 : Int32) (h : ixH) : l_Mo_turnWay_261 a0 x3 sa0 s1 s2 h = (ix_si h sa0 s1 s2).bind fun h1 => (ix_gr h1 a0 11 10).bind fun v2 => (ix_gr h1 a0 11 16).bind fun v3 => (ix_ai h1 v3 x3).bind fun v4 => if ¬ v4 = 1 then (ix_si h1 v2 x3 (-6)).bind fun h5 => l_Mo_turnWay_232 a0 (x3 + 1) h5 else (ix_si h1 v2 x3 4).bind fun h6 => l_Mo_turnWay_232 a0 (x3 + 1) h6 := by
  unfold l_Mo_turnWay_261
  refine ix_K_ti kq_Mo_turnWay i_Mo_turnWay_261 rfl (fun h1 => ?_)
  refine ix_K_px kq_Mo_turnWay i_Mo_turnWay_262 rfl rfl ?_
  refine ix_K_gr kq_Mo_turnWay i_Mo_turnWay_263 rfl (fun v2 => ?_)
  refine ix_K_px kq_Mo_turnWay i_Mo_turnWay_266 rfl rfl ?_
  refine ix_K_px kq_Mo_turnWay i_Mo_turnWay_267 rfl rfl ?_
  refine ix_K_gr kq_Mo_turnWay i_Mo_turnWay_268 rfl (fun v3 => ?_)
  refine ix_K_px kq_Mo_turnWay i_Mo_turnWay_271 rfl rfl ?_
  refine ix_K_ai kq_Mo_turnWay i_Mo_turnWay_272 rfl (fun v4 => ?_)
  refine ix_K_ci kq_Mo_turnWay i_Mo_turnWay_273 rfl kci_1 ?_
  refine ix_K_ic_ne (tgt := 281) kq_Mo_turnWay i_Mo_turnWay_274 rfl (by decide) ?_ ?_
  · refine ix_K_cb kq_Mo_turnWay i_Mo_turnWay_281 rfl kcb_m6 ?_
    refine ix_K_ti kq_Mo_turnWay i_Mo_turnWay_283 rfl (fun h5 => ?_)
    refine ix_K_inc (L2 := [some (.ref a0), none, none, some (.int (x3 + 1)), none, none]) kq_Mo_turnWay i_Mo_turnWay_284 rfl rfl (Nat.le_of_ble_eq_true rfl) kci_1 rfl ?_
    refine ix_K_goto (tgt := 232) kq_Mo_turnWay i_Mo_turnWay_287 rfl (by decide) ?_
    exact ix_D_cut i_Mo_turnWay_232 rfl
  · refine ix_K_ci kq_Mo_turnWay i_Mo_turnWay_277 rfl kci_4 ?_
    refine ix_K_goto (tgt := 283) kq_Mo_turnWay i_Mo_turnWay_278 rfl (by decide) ?_
    refine ix_K_ti kq_Mo_turnWay i_Mo_turnWay_283 rfl (fun h6 => ?_)
    refine ix_K_inc (L2 := [some (.ref a0), none, none, some (.int (x3 + 1)), none, none]) kq_Mo_turnWay i_Mo_turnWay_284 rfl rfl (Nat.le_of_ble_eq_true rfl) kci_1 rfl ?_
    refine ix_K_goto (tgt := 232) kq_Mo_turnWay i_Mo_turnWay_287 rfl (by decide) ?_
    exact ix_D_cut i_Mo_turnWay_232 rfl
set_option maxRecDepth 20000 in
set_option maxHeartbeats 1000000 in
theorem e_Mo_turnWay_292 (a0 : Nat) (x3 : Int32) (h : ixH) : l_Mo_turnWay_292 a0 x3 h = (ix_M mMo_cells [.ref a0] h).bind fun r => ix_kI r fun v2 h1 => if v2 ≤ x3 then some ([], h1) else l_Mo_turnWay_303 a0 x3 0 h1 := by
  unfold l_Mo_turnWay_292
  refine ix_K_px kq_Mo_turnWay i_Mo_turnWay_292 rfl rfl ?_
  refine ix_K_px kq_Mo_turnWay i_Mo_turnWay_293 rfl rfl ?_
  refine ix_K_callI (as := [.ref a0]) (rest := [.int x3]) kq_Mo_turnWay i_Mo_turnWay_294 rfl kq_Mo_cells (by decide) rfl (Or.inl rfl) (fun v2 h1 => ?_)
  refine ix_K_ic_ge (tgt := 361) kq_Mo_turnWay i_Mo_turnWay_297 rfl (by decide) ?_ ?_
  · exact ix_D_ret kq_Mo_turnWay i_Mo_turnWay_361 (ix_rtV rfl)
  · refine ix_K_ci kq_Mo_turnWay i_Mo_turnWay_300 rfl kci_0 ?_
    refine ix_K_si (L2 := [some (.ref a0), none, none, some (.int x3), some (.int 0), none]) kq_Mo_turnWay i_Mo_turnWay_301 rfl (Or.inl rfl) (Nat.le_of_ble_eq_true rfl) rfl ?_
    exact ix_D_cut i_Mo_turnWay_303 rfl
set_option maxRecDepth 20000 in
set_option maxHeartbeats 1000000 in
theorem e_Mo_turnWay_303 (a0 : Nat) (x3 : Int32) (x4 : Int32) (h : ixH) : l_Mo_turnWay_303 a0 x3 x4 h = if 4 ≤ x4 then l_Mo_turnWay_292 a0 (x3 + 1) h else (ix_gr h a0 11 15).bind fun v1 => (ix_ai h v1 ((4 * x3) + x4)).bind fun v2 => if ¬ v2 = 1 then l_Mo_turnWay_303 a0 x3 (x4 + 1) h else (ix_gr h a0 11 9).bind fun v3 => (ix_si h v3 x3 x4).bind fun h4 => (ix_gr h4 a0 11 10).bind fun v5 => (ix_M mMo_beside [.ref a0, .int x3, .int x4] h4).bind fun r => ix_kI r fun v7 h6 => (ix_M mMo_opposite [.int x4] h6).bind fun r => ix_kI r fun v9 h8 => (ix_si h8 v5 v7 v9).bind fun h10 => l_Mo_turnWay_303 a0 x3 (x4 + 1) h10 := by
  unfold l_Mo_turnWay_303
  refine ix_K_px kq_Mo_turnWay i_Mo_turnWay_303 rfl rfl ?_
  refine ix_K_ci kq_Mo_turnWay i_Mo_turnWay_305 rfl kci_4 ?_
  refine ix_K_ic_ge (tgt := 355) kq_Mo_turnWay i_Mo_turnWay_306 rfl (by decide) ?_ ?_
  · refine ix_K_inc (L2 := [some (.ref a0), none, none, some (.int (x3 + 1)), some (.int x4), none]) kq_Mo_turnWay i_Mo_turnWay_355 rfl rfl (Nat.le_of_ble_eq_true rfl) kci_1 rfl ?_
    refine ix_K_goto (tgt := 292) kq_Mo_turnWay i_Mo_turnWay_358 rfl (by decide) ?_
    exact ix_D_cut i_Mo_turnWay_292 rfl
  · refine ix_K_px kq_Mo_turnWay i_Mo_turnWay_309 rfl rfl ?_
    refine ix_K_gr kq_Mo_turnWay i_Mo_turnWay_310 rfl (fun v1 => ?_)
    refine ix_K_ci kq_Mo_turnWay i_Mo_turnWay_313 rfl kci_4 ?_
    refine ix_K_px kq_Mo_turnWay i_Mo_turnWay_314 rfl rfl ?_
    refine ix_K_px kq_Mo_turnWay i_Mo_turnWay_315 rfl rfl ?_
    refine ix_K_px kq_Mo_turnWay i_Mo_turnWay_316 rfl rfl ?_
    refine ix_K_px kq_Mo_turnWay i_Mo_turnWay_318 rfl rfl ?_
    refine ix_K_ai kq_Mo_turnWay i_Mo_turnWay_319 rfl (fun v2 => ?_)
    refine ix_K_ci kq_Mo_turnWay i_Mo_turnWay_320 rfl kci_1 ?_
    refine ix_K_ic_ne (tgt := 349) kq_Mo_turnWay i_Mo_turnWay_321 rfl (by decide) ?_ ?_
    · refine ix_K_inc (L2 := [some (.ref a0), none, none, some (.int x3), some (.int (x4 + 1)), none]) kq_Mo_turnWay i_Mo_turnWay_349 rfl rfl (Nat.le_of_ble_eq_true rfl) kci_1 rfl ?_
      refine ix_K_goto (tgt := 303) kq_Mo_turnWay i_Mo_turnWay_352 rfl (by decide) ?_
      exact ix_D_cut i_Mo_turnWay_303 rfl
    · refine ix_K_px kq_Mo_turnWay i_Mo_turnWay_324 rfl rfl ?_
      refine ix_K_gr kq_Mo_turnWay i_Mo_turnWay_325 rfl (fun v3 => ?_)
      refine ix_K_px kq_Mo_turnWay i_Mo_turnWay_328 rfl rfl ?_
      refine ix_K_px kq_Mo_turnWay i_Mo_turnWay_329 rfl rfl ?_
      refine ix_K_ti kq_Mo_turnWay i_Mo_turnWay_331 rfl (fun h4 => ?_)
      refine ix_K_px kq_Mo_turnWay i_Mo_turnWay_332 rfl rfl ?_
      refine ix_K_gr kq_Mo_turnWay i_Mo_turnWay_333 rfl (fun v5 => ?_)
      refine ix_K_px kq_Mo_turnWay i_Mo_turnWay_336 rfl rfl ?_
      refine ix_K_px kq_Mo_turnWay i_Mo_turnWay_337 rfl rfl ?_
      refine ix_K_px kq_Mo_turnWay i_Mo_turnWay_338 rfl rfl ?_
      refine ix_K_callI (as := [.ref a0, .int x3, .int x4]) (rest := [.ref v5]) kq_Mo_turnWay i_Mo_turnWay_340 rfl kq_Mo_beside (by decide) rfl (Or.inl rfl) (fun v7 h6 => ?_)
      refine ix_K_px kq_Mo_turnWay i_Mo_turnWay_343 rfl rfl ?_
      refine ix_K_callI (as := [.int x4]) (rest := [.int v7, .ref v5]) kq_Mo_turnWay i_Mo_turnWay_345 rfl kq_Mo_opposite (by decide) rfl (Or.inl rfl) (fun v9 h8 => ?_)
      refine ix_K_ti kq_Mo_turnWay i_Mo_turnWay_348 rfl (fun h10 => ?_)
      refine ix_K_inc (L2 := [some (.ref a0), none, none, some (.int x3), some (.int (x4 + 1)), none]) kq_Mo_turnWay i_Mo_turnWay_349 rfl rfl (Nat.le_of_ble_eq_true rfl) kci_1 rfl ?_
      refine ix_K_goto (tgt := 303) kq_Mo_turnWay i_Mo_turnWay_352 rfl (by decide) ?_
      exact ix_D_cut i_Mo_turnWay_303 rfl
set_option maxRecDepth 20000 in
set_option maxHeartbeats 1000000 in
theorem e_Mo_turnWay (a0 : Nat) (x1 : Int32) (h : ixH) : ix_D mMo_turnWay 0 [some (.ref a0), some (.int x1), none, none, none, none] [] h = l_Mo_turnWay_2 a0 x1 0 h := by
  refine ix_K_ci kq_Mo_turnWay i_Mo_turnWay_0 rfl kci_0 ?_
  refine ix_K_si (L2 := [some (.ref a0), some (.int x1), some (.int 0), none, none, none]) kq_Mo_turnWay i_Mo_turnWay_1 rfl (Or.inr ⟨_, rfl, rfl⟩) (Nat.le_of_ble_eq_true rfl) rfl ?_
  exact ix_D_cut i_Mo_turnWay_2 rfl
theorem x_Mo_turnWay {a0 : Nat} {x1 : Int32} {h h1 : ixH} (hr : ix_rc h a0 = some 11) (hd : ix_D mMo_turnWay 0 [some (.ref a0), some (.int x1), none, none, none, none] [] h = some ([], h1)) : ix_M mMo_turnWay [.ref a0, .int x1] h = some ([], h1) := ix_M_of (ix_ent_i kq_Mo_turnWay rfl hr rfl (Nat.le_of_ble_eq_true rfl) rfl) hd (ix_okrV rfl)
theorem i_Mo_directionTo_0 : ix_nx mMo_directionTo 0 = some (0, .iconst 0, 1, none, [], 0) := rfl
theorem i_Mo_directionTo_1 : ix_nx mMo_directionTo 1 = some (0, .istore_n 3, 2, none, [], 0) := rfl
theorem i_Mo_directionTo_2 : ix_nx mMo_directionTo 2 = some (0, .aload_n 0, 3, some [true, true, true, true], [], 0) := rfl
theorem i_Mo_directionTo_3 : ix_nx mMo_directionTo 3 = some (0, .iload_n 1, 4, none, [], 0) := rfl
theorem i_Mo_directionTo_4 : ix_nx mMo_directionTo 4 = some (0, .iload_n 3, 5, none, [], 0) := rfl
theorem i_Mo_directionTo_5 : ix_nx mMo_directionTo 5 = some (3, .invokevirtual 113, 8, none, [0, 178, 194], 0) := rfl
theorem i_Mo_directionTo_8 : ix_nx mMo_directionTo 8 = some (0, .iload_n 2, 9, none, [], 0) := rfl
theorem i_Mo_directionTo_9 : ix_nx mMo_directionTo 9 = some (0, .if_icmp .eq 9, 12, none, [], 0) := rfl
theorem i_Mo_directionTo_12 : ix_nx mMo_directionTo 12 = some (0, .iinc 3 1, 15, none, [], 0) := rfl
theorem i_Mo_directionTo_15 : ix_nx mMo_directionTo 15 = some (0, .goto (-13), 18, none, [], 0) := rfl
theorem i_Mo_directionTo_18 : ix_nx mMo_directionTo 18 = some (0, .iload_n 3, 19, none, [], 0) := rfl
theorem i_Mo_directionTo_19 : ix_nx mMo_directionTo 19 = some (4, .ireturn, 20, none, [], 0) := rfl
noncomputable def l_Mo_directionTo_2 (a0 : Nat) (x1 : Int32) (x2 : Int32) (x3 : Int32) (h : ixH) : Option (List Value × ixH) := ix_D mMo_directionTo 2 [some (.ref a0), some (.int x1), some (.int x2), some (.int x3)] [] h
set_option maxRecDepth 20000 in
set_option maxHeartbeats 1000000 in
theorem e_Mo_directionTo_2 (a0 : Nat) (x1 : Int32) (x2 : Int32) (x3 : Int32) (h : ixH) : l_Mo_directionTo_2 a0 x1 x2 x3 h = (ix_M mMo_beside [.ref a0, .int x1, .int x3] h).bind fun r => ix_kI r fun v2 h1 => if v2 = x2 then some ([.int x3], h1) else l_Mo_directionTo_2 a0 x1 x2 (x3 + 1) h1 := by
  unfold l_Mo_directionTo_2
  refine ix_K_px kq_Mo_directionTo i_Mo_directionTo_2 rfl rfl ?_
  refine ix_K_px kq_Mo_directionTo i_Mo_directionTo_3 rfl rfl ?_
  refine ix_K_px kq_Mo_directionTo i_Mo_directionTo_4 rfl rfl ?_
  refine ix_K_callI (as := [.ref a0, .int x1, .int x3]) (rest := []) kq_Mo_directionTo i_Mo_directionTo_5 rfl kq_Mo_beside (by decide) rfl (Or.inl rfl) (fun v2 h1 => ?_)
  refine ix_K_px kq_Mo_directionTo i_Mo_directionTo_8 rfl rfl ?_
  refine ix_K_ic_eq (tgt := 18) kq_Mo_directionTo i_Mo_directionTo_9 rfl (by decide) ?_ ?_
  · refine ix_K_px kq_Mo_directionTo i_Mo_directionTo_18 rfl rfl ?_
    exact ix_D_ret kq_Mo_directionTo i_Mo_directionTo_19 (ix_rtI rfl _)
  · refine ix_K_inc (L2 := [some (.ref a0), some (.int x1), some (.int x2), some (.int (x3 + 1))]) kq_Mo_directionTo i_Mo_directionTo_12 rfl rfl (Nat.le_of_ble_eq_true rfl) kci_1 rfl ?_
    refine ix_K_goto (tgt := 2) kq_Mo_directionTo i_Mo_directionTo_15 rfl (by decide) ?_
    exact ix_D_cut i_Mo_directionTo_2 rfl
set_option maxRecDepth 20000 in
set_option maxHeartbeats 1000000 in
theorem e_Mo_directionTo (a0 : Nat) (x1 : Int32) (x2 : Int32) (h : ixH) : ix_D mMo_directionTo 0 [some (.ref a0), some (.int x1), some (.int x2), none] [] h = l_Mo_directionTo_2 a0 x1 x2 0 h := by
  refine ix_K_ci kq_Mo_directionTo i_Mo_directionTo_0 rfl kci_0 ?_
  refine ix_K_si (L2 := [some (.ref a0), some (.int x1), some (.int x2), some (.int 0)]) kq_Mo_directionTo i_Mo_directionTo_1 rfl (Or.inr ⟨_, rfl, rfl⟩) (Nat.le_of_ble_eq_true rfl) rfl ?_
  exact ix_D_cut i_Mo_directionTo_2 rfl
theorem x_Mo_directionTo {a0 : Nat} {x1 : Int32} {x2 : Int32} {h h1 : ixH} {v : Int32} (hr : ix_rc h a0 = some 11) (hd : ix_D mMo_directionTo 0 [some (.ref a0), some (.int x1), some (.int x2), none] [] h = some ([.int v], h1)) : ix_M mMo_directionTo [.ref a0, .int x1, .int x2] h = some ([.int v], h1) := ix_M_of (ix_ent_i kq_Mo_directionTo rfl hr rfl (Nat.le_of_ble_eq_true rfl) rfl) hd (ix_okrI (Or.inl rfl) v)
theorem i_Mo_opposite_0 : ix_nx mMo_opposite 0 = some (0, .iconst 3, 1, none, [], 0) := rfl
theorem i_Mo_opposite_1 : ix_nx mMo_opposite 1 = some (0, .iload_n 0, 2, none, [], 0) := rfl
theorem i_Mo_opposite_2 : ix_nx mMo_opposite 2 = some (0, .isub, 3, none, [], 0) := rfl
theorem i_Mo_opposite_3 : ix_nx mMo_opposite 3 = some (4, .ireturn, 4, none, [], 0) := rfl
set_option maxRecDepth 20000 in
set_option maxHeartbeats 1000000 in
theorem e_Mo_opposite (x0 : Int32) (h : ixH) : ix_D mMo_opposite 0 [some (.int x0)] [] h = some ([.int (3 - x0)], h) := by
  refine ix_K_ci kq_Mo_opposite i_Mo_opposite_0 rfl kci_3 ?_
  refine ix_K_px kq_Mo_opposite i_Mo_opposite_1 rfl rfl ?_
  refine ix_K_px kq_Mo_opposite i_Mo_opposite_2 rfl rfl ?_
  exact ix_D_ret kq_Mo_opposite i_Mo_opposite_3 (ix_rtI rfl _)
theorem x_Mo_opposite {x0 : Int32} {h h1 : ixH} {v : Int32} (hd : ix_D mMo_opposite 0 [some (.int x0)] [] h = some ([.int v], h1)) : ix_M mMo_opposite [.int x0] h = some ([.int v], h1) := ix_M_of (ix_ent_s kq_Mo_opposite rfl rfl (Nat.le_of_ble_eq_true rfl) rfl) hd (ix_okrI (Or.inl rfl) v)
theorem i_Mo_pass_0 : ix_nx mMo_pass 0 = some (0, .iload_n 1, 1, none, [], 0) := rfl
theorem i_Mo_pass_1 : ix_nx mMo_pass 1 = some (0, .iconst 0, 2, none, [], 0) := rfl
theorem i_Mo_pass_2 : ix_nx mMo_pass 2 = some (0, .iconst 1, 3, none, [], 0) := rfl
theorem i_Mo_pass_3 : ix_nx mMo_pass 3 = some (3, .invokestatic 98, 6, none, [1, 148, 174], 0) := rfl
theorem i_Mo_pass_6 : ix_nx mMo_pass 6 = some (0, .ifCond .ne 6, 9, none, [], 0) := rfl
theorem i_Mo_pass_9 : ix_nx mMo_pass 9 = some (0, .bipush (-2), 11, none, [], 0) := rfl
theorem i_Mo_pass_11 : ix_nx mMo_pass 11 = some (4, .ireturn, 12, none, [], 0) := rfl
theorem i_Mo_pass_12 : ix_nx mMo_pass 12 = some (0, .aload_n 0, 13, none, [], 0) := rfl
theorem i_Mo_pass_13 : ix_nx mMo_pass 13 = some (0, .iload_n 1, 14, none, [], 0) := rfl
theorem i_Mo_pass_14 : ix_nx mMo_pass 14 = some (3, .invokevirtual 209, 17, none, [0, 192, 205], 0) := rfl
theorem i_Mo_pass_17 : ix_nx mMo_pass 17 = some (0, .iconst 0, 18, none, [], 0) := rfl
theorem i_Mo_pass_18 : ix_nx mMo_pass 18 = some (0, .istore_n 3, 19, none, [], 0) := rfl
theorem i_Mo_pass_19 : ix_nx mMo_pass 19 = some (0, .iconst 0, 20, none, [], 0) := rfl
theorem i_Mo_pass_20 : ix_nx mMo_pass 20 = some (0, .istore 4, 22, none, [], 0) := rfl
theorem i_Mo_pass_22 : ix_nx mMo_pass 22 = some (0, .iload 4, 24, some [true, false, true, true, true], [], 0) := rfl
theorem i_Mo_pass_24 : ix_nx mMo_pass 24 = some (0, .aload_n 0, 25, none, [], 0) := rfl
theorem i_Mo_pass_25 : ix_nx mMo_pass 25 = some (3, .invokevirtual 94, 28, none, [0, 149, 175], 0) := rfl
theorem i_Mo_pass_28 : ix_nx mMo_pass 28 = some (0, .if_icmp .ge 30, 31, none, [], 0) := rfl
theorem i_Mo_pass_31 : ix_nx mMo_pass 31 = some (0, .aload_n 0, 32, none, [], 0) := rfl
theorem i_Mo_pass_32 : ix_nx mMo_pass 32 = some (1, .getfield 57, 35, none, [11, 18, 2, 108], 0) := rfl
theorem i_Mo_pass_35 : ix_nx mMo_pass 35 = some (0, .iload 4, 37, none, [], 0) := rfl
theorem i_Mo_pass_37 : ix_nx mMo_pass 37 = some (1, .baload, 38, none, [2], 0) := rfl
theorem i_Mo_pass_38 : ix_nx mMo_pass 38 = some (0, .ifCond .eq 14, 41, none, [], 0) := rfl
theorem i_Mo_pass_41 : ix_nx mMo_pass 41 = some (0, .iload_n 3, 42, none, [], 0) := rfl
theorem i_Mo_pass_42 : ix_nx mMo_pass 42 = some (0, .iload_n 2, 43, none, [], 0) := rfl
theorem i_Mo_pass_43 : ix_nx mMo_pass 43 = some (0, .if_icmp .ne 6, 46, none, [], 0) := rfl
theorem i_Mo_pass_46 : ix_nx mMo_pass 46 = some (0, .iload 4, 48, none, [], 0) := rfl
theorem i_Mo_pass_48 : ix_nx mMo_pass 48 = some (4, .ireturn, 49, none, [], 0) := rfl
theorem i_Mo_pass_49 : ix_nx mMo_pass 49 = some (0, .iinc 3 1, 52, none, [], 0) := rfl
theorem i_Mo_pass_52 : ix_nx mMo_pass 52 = some (0, .iinc 4 1, 55, none, [], 0) := rfl
theorem i_Mo_pass_55 : ix_nx mMo_pass 55 = some (0, .goto (-33), 58, none, [], 0) := rfl
theorem i_Mo_pass_58 : ix_nx mMo_pass 58 = some (0, .bipush (-6), 60, none, [], 0) := rfl
theorem i_Mo_pass_60 : ix_nx mMo_pass 60 = some (4, .ireturn, 61, none, [], 0) := rfl
noncomputable def l_Mo_pass_22 (a0 : Nat) (x2 : Int32) (x3 : Int32) (x4 : Int32) (h : ixH) : Option (List Value × ixH) := ix_D mMo_pass 22 [some (.ref a0), none, some (.int x2), some (.int x3), some (.int x4)] [] h
set_option maxRecDepth 20000 in
set_option maxHeartbeats 1000000 in
theorem e_Mo_pass_22 (a0 : Nat) (x2 : Int32) (x3 : Int32) (x4 : Int32) (h : ixH) : l_Mo_pass_22 a0 x2 x3 x4 h = (ix_M mMo_cells [.ref a0] h).bind fun r => ix_kI r fun v2 h1 => if v2 ≤ x4 then some ([.int (-6)], h1) else (ix_gr h1 a0 11 18).bind fun v3 => (ix_az h1 v3 x4).bind fun v4 => if v4 = 0 then l_Mo_pass_22 a0 x2 x3 (x4 + 1) h1 else if ¬ x3 = x2 then l_Mo_pass_22 a0 x2 (x3 + 1) (x4 + 1) h1 else some ([.int x4], h1) := by
  unfold l_Mo_pass_22
  refine ix_K_px kq_Mo_pass i_Mo_pass_22 rfl rfl ?_
  refine ix_K_px kq_Mo_pass i_Mo_pass_24 rfl rfl ?_
  refine ix_K_callI (as := [.ref a0]) (rest := [.int x4]) kq_Mo_pass i_Mo_pass_25 rfl kq_Mo_cells (by decide) rfl (Or.inl rfl) (fun v2 h1 => ?_)
  refine ix_K_ic_ge (tgt := 58) kq_Mo_pass i_Mo_pass_28 rfl (by decide) ?_ ?_
  · refine ix_K_cb kq_Mo_pass i_Mo_pass_58 rfl kcb_m6 ?_
    exact ix_D_ret kq_Mo_pass i_Mo_pass_60 (ix_rtI rfl _)
  · refine ix_K_px kq_Mo_pass i_Mo_pass_31 rfl rfl ?_
    refine ix_K_gr kq_Mo_pass i_Mo_pass_32 rfl (fun v3 => ?_)
    refine ix_K_px kq_Mo_pass i_Mo_pass_35 rfl rfl ?_
    refine ix_K_az kq_Mo_pass i_Mo_pass_37 rfl (fun v4 => ?_)
    refine ix_K_if_eq (tgt := 52) kq_Mo_pass i_Mo_pass_38 rfl (by decide) ?_ ?_
    · refine ix_K_inc (L2 := [some (.ref a0), none, some (.int x2), some (.int x3), some (.int (x4 + 1))]) kq_Mo_pass i_Mo_pass_52 rfl rfl (Nat.le_of_ble_eq_true rfl) kci_1 rfl ?_
      refine ix_K_goto (tgt := 22) kq_Mo_pass i_Mo_pass_55 rfl (by decide) ?_
      exact ix_D_cut i_Mo_pass_22 rfl
    · refine ix_K_px kq_Mo_pass i_Mo_pass_41 rfl rfl ?_
      refine ix_K_px kq_Mo_pass i_Mo_pass_42 rfl rfl ?_
      refine ix_K_ic_ne (tgt := 49) kq_Mo_pass i_Mo_pass_43 rfl (by decide) ?_ ?_
      · refine ix_K_inc (L2 := [some (.ref a0), none, some (.int x2), some (.int (x3 + 1)), some (.int x4)]) kq_Mo_pass i_Mo_pass_49 rfl rfl (Nat.le_of_ble_eq_true rfl) kci_1 rfl ?_
        refine ix_K_inc (L2 := [some (.ref a0), none, some (.int x2), some (.int (x3 + 1)), some (.int (x4 + 1))]) kq_Mo_pass i_Mo_pass_52 rfl rfl (Nat.le_of_ble_eq_true rfl) kci_1 rfl ?_
        refine ix_K_goto (tgt := 22) kq_Mo_pass i_Mo_pass_55 rfl (by decide) ?_
        exact ix_D_cut i_Mo_pass_22 rfl
      · refine ix_K_px kq_Mo_pass i_Mo_pass_46 rfl rfl ?_
        exact ix_D_ret kq_Mo_pass i_Mo_pass_48 (ix_rtI rfl _)
set_option maxRecDepth 20000 in
set_option maxHeartbeats 1000000 in
theorem e_Mo_pass (a0 : Nat) (x1 : Int32) (x2 : Int32) (h : ixH) : ix_D mMo_pass 0 [some (.ref a0), some (.int x1), some (.int x2), none, none] [] h = (ix_M mMo_in [.int x1, .int 0, .int 1] h).bind fun r => ix_kZ r fun v2 h1 => if v2 = true then (ix_M mMo_layPass [.ref a0, .int x1] h1).bind fun r => ix_kV r fun h3 => l_Mo_pass_22 a0 x2 0 0 h3 else some ([.int (-2)], h1) := by
  refine ix_K_px kq_Mo_pass i_Mo_pass_0 rfl rfl ?_
  refine ix_K_ci kq_Mo_pass i_Mo_pass_1 rfl kci_0 ?_
  refine ix_K_ci kq_Mo_pass i_Mo_pass_2 rfl kci_1 ?_
  refine ix_K_callZ (as := [.int x1, .int 0, .int 1]) (rest := []) kq_Mo_pass i_Mo_pass_3 rfl kq_Mo_in (by decide) rfl rfl (fun v2 h1 => ?_)
  refine ix_K_bz_ne (tgt := 12) kq_Mo_pass i_Mo_pass_6 rfl (by decide) ?_ ?_
  · refine ix_K_px kq_Mo_pass i_Mo_pass_12 rfl rfl ?_
    refine ix_K_px kq_Mo_pass i_Mo_pass_13 rfl rfl ?_
    refine ix_K_callV (as := [.ref a0, .int x1]) (rest := []) kq_Mo_pass i_Mo_pass_14 rfl kq_Mo_layPass (by decide) rfl rfl (fun h3 => ?_)
    refine ix_K_ci kq_Mo_pass i_Mo_pass_17 rfl kci_0 ?_
    refine ix_K_si (L2 := [some (.ref a0), some (.int x1), some (.int x2), some (.int 0), none]) kq_Mo_pass i_Mo_pass_18 rfl (Or.inr ⟨_, rfl, rfl⟩) (Nat.le_of_ble_eq_true rfl) rfl ?_
    refine ix_K_ci kq_Mo_pass i_Mo_pass_19 rfl kci_0 ?_
    refine ix_K_si (L2 := [some (.ref a0), some (.int x1), some (.int x2), some (.int 0), some (.int 0)]) kq_Mo_pass i_Mo_pass_20 rfl (Or.inl rfl) (Nat.le_of_ble_eq_true rfl) rfl ?_
    exact ix_D_cut i_Mo_pass_22 rfl
  · refine ix_K_cb kq_Mo_pass i_Mo_pass_9 rfl kcb_m2 ?_
    exact ix_D_ret kq_Mo_pass i_Mo_pass_11 (ix_rtI rfl _)
theorem x_Mo_pass {a0 : Nat} {x1 : Int32} {x2 : Int32} {h h1 : ixH} {v : Int32} (hr : ix_rc h a0 = some 11) (hd : ix_D mMo_pass 0 [some (.ref a0), some (.int x1), some (.int x2), none, none] [] h = some ([.int v], h1)) : ix_M mMo_pass [.ref a0, .int x1, .int x2] h = some ([.int v], h1) := ix_M_of (ix_ent_i kq_Mo_pass rfl hr rfl (Nat.le_of_ble_eq_true rfl) rfl) hd (ix_okrI (Or.inl rfl) v)
theorem i_Mo_layPass_0 : ix_nx mMo_layPass 0 = some (0, .aload_n 0, 1, none, [], 0) := rfl
theorem i_Mo_layPass_1 : ix_nx mMo_layPass 1 = some (0, .iload_n 1, 2, none, [], 0) := rfl
theorem i_Mo_layPass_2 : ix_nx mMo_layPass 2 = some (0, .ifCond .ne 7, 5, none, [], 0) := rfl
theorem i_Mo_layPass_5 : ix_nx mMo_layPass 5 = some (0, .iconst 1, 6, none, [], 0) := rfl
theorem i_Mo_layPass_6 : ix_nx mMo_layPass 6 = some (0, .goto 4, 9, none, [], 0) := rfl
theorem i_Mo_layPass_9 : ix_nx mMo_layPass 9 = some (0, .iconst 2, 10, none, [], 0) := rfl
theorem i_Mo_layPass_10 : ix_nx mMo_layPass 10 = some (0, .iload_n 1, 11, none, [], 0) := rfl
theorem i_Mo_layPass_11 : ix_nx mMo_layPass 11 = some (0, .ifCond .ne 7, 14, none, [], 0) := rfl
theorem i_Mo_layPass_14 : ix_nx mMo_layPass 14 = some (0, .iconst 2, 15, none, [], 0) := rfl
theorem i_Mo_layPass_15 : ix_nx mMo_layPass 15 = some (0, .goto 4, 18, none, [], 0) := rfl
theorem i_Mo_layPass_18 : ix_nx mMo_layPass 18 = some (0, .iconst 1, 19, none, [], 0) := rfl
theorem i_Mo_layPass_19 : ix_nx mMo_layPass 19 = some (3, .invokevirtual 206, 22, none, [0, 181, 195], 0) := rfl
theorem i_Mo_layPass_22 : ix_nx mMo_layPass 22 = some (0, .pop, 23, none, [], 0) := rfl
theorem i_Mo_layPass_23 : ix_nx mMo_layPass 23 = some (0, .iconst 0, 24, none, [], 0) := rfl
theorem i_Mo_layPass_24 : ix_nx mMo_layPass 24 = some (0, .istore_n 2, 25, none, [], 0) := rfl
theorem i_Mo_layPass_25 : ix_nx mMo_layPass 25 = some (0, .iload_n 2, 26, some [true, false, true], [], 0) := rfl
theorem i_Mo_layPass_26 : ix_nx mMo_layPass 26 = some (0, .aload_n 0, 27, none, [], 0) := rfl
theorem i_Mo_layPass_27 : ix_nx mMo_layPass 27 = some (3, .invokevirtual 94, 30, none, [0, 149, 175], 0) := rfl
theorem i_Mo_layPass_30 : ix_nx mMo_layPass 30 = some (0, .if_icmp .ge 45, 33, none, [], 0) := rfl
theorem i_Mo_layPass_33 : ix_nx mMo_layPass 33 = some (0, .aload_n 0, 34, none, [], 0) := rfl
theorem i_Mo_layPass_34 : ix_nx mMo_layPass 34 = some (1, .getfield 57, 37, none, [11, 18, 2, 108], 0) := rfl
theorem i_Mo_layPass_37 : ix_nx mMo_layPass 37 = some (0, .iload_n 2, 38, none, [], 0) := rfl
theorem i_Mo_layPass_38 : ix_nx mMo_layPass 38 = some (0, .aload_n 0, 39, none, [], 0) := rfl
theorem i_Mo_layPass_39 : ix_nx mMo_layPass 39 = some (1, .getfield 45, 42, none, [11, 11, 2, 101], 0) := rfl
theorem i_Mo_layPass_42 : ix_nx mMo_layPass 42 = some (0, .iload_n 2, 43, none, [], 0) := rfl
theorem i_Mo_layPass_43 : ix_nx mMo_layPass 43 = some (1, .iaload, 44, none, [], 0) := rfl
theorem i_Mo_layPass_44 : ix_nx mMo_layPass 44 = some (0, .bipush (-6), 46, none, [], 0) := rfl
theorem i_Mo_layPass_46 : ix_nx mMo_layPass 46 = some (0, .if_icmp .eq 21, 49, none, [], 0) := rfl
theorem i_Mo_layPass_49 : ix_nx mMo_layPass 49 = some (0, .aload_n 0, 50, none, [], 0) := rfl
theorem i_Mo_layPass_50 : ix_nx mMo_layPass 50 = some (1, .getfield 45, 53, none, [11, 11, 2, 101], 0) := rfl
theorem i_Mo_layPass_53 : ix_nx mMo_layPass 53 = some (0, .bipush 64, 55, none, [], 0) := rfl
theorem i_Mo_layPass_55 : ix_nx mMo_layPass 55 = some (0, .iload_n 2, 56, none, [], 0) := rfl
theorem i_Mo_layPass_56 : ix_nx mMo_layPass 56 = some (0, .iadd, 57, none, [], 0) := rfl
theorem i_Mo_layPass_57 : ix_nx mMo_layPass 57 = some (1, .iaload, 58, none, [], 0) := rfl
theorem i_Mo_layPass_58 : ix_nx mMo_layPass 58 = some (0, .bipush (-6), 60, none, [], 0) := rfl
theorem i_Mo_layPass_60 : ix_nx mMo_layPass 60 = some (0, .if_icmp .ne 7, 63, none, [], 0) := rfl
theorem i_Mo_layPass_63 : ix_nx mMo_layPass 63 = some (0, .iconst 1, 64, none, [], 0) := rfl
theorem i_Mo_layPass_64 : ix_nx mMo_layPass 64 = some (0, .goto 4, 67, none, [], 0) := rfl
theorem i_Mo_layPass_67 : ix_nx mMo_layPass 67 = some (0, .iconst 0, 68, none, [], 0) := rfl
theorem i_Mo_layPass_68 : ix_nx mMo_layPass 68 = some (2, .bastore, 69, none, [], 0) := rfl
theorem i_Mo_layPass_69 : ix_nx mMo_layPass 69 = some (0, .iinc 2 1, 72, none, [], 0) := rfl
theorem i_Mo_layPass_72 : ix_nx mMo_layPass 72 = some (0, .goto (-47), 75, none, [], 0) := rfl
theorem i_Mo_layPass_75 : ix_nx mMo_layPass 75 = some (4, .return_, 76, none, [], 0) := rfl
noncomputable def l_Mo_layPass_25 (a0 : Nat) (x2 : Int32) (h : ixH) : Option (List Value × ixH) := ix_D mMo_layPass 25 [some (.ref a0), none, some (.int x2)] [] h
set_option maxRecDepth 20000 in
set_option maxHeartbeats 1000000 in
theorem e_Mo_layPass_25 (a0 : Nat) (x2 : Int32) (h : ixH) : l_Mo_layPass_25 a0 x2 h = (ix_M mMo_cells [.ref a0] h).bind fun r => ix_kI r fun v2 h1 => if v2 ≤ x2 then some ([], h1) else (ix_gr h1 a0 11 18).bind fun v3 => (ix_gr h1 a0 11 11).bind fun v4 => (ix_ai h1 v4 x2).bind fun v5 => if v5 = (-6) then (ix_sz h1 v3 x2 0).bind fun h6 => l_Mo_layPass_25 a0 (x2 + 1) h6 else (ix_gr h1 a0 11 11).bind fun v7 => (ix_ai h1 v7 (64 + x2)).bind fun v8 => if ¬ v8 = (-6) then (ix_sz h1 v3 x2 0).bind fun h9 => l_Mo_layPass_25 a0 (x2 + 1) h9 else (ix_sz h1 v3 x2 1).bind fun h10 => l_Mo_layPass_25 a0 (x2 + 1) h10 := by
  unfold l_Mo_layPass_25
  refine ix_K_px kq_Mo_layPass i_Mo_layPass_25 rfl rfl ?_
  refine ix_K_px kq_Mo_layPass i_Mo_layPass_26 rfl rfl ?_
  refine ix_K_callI (as := [.ref a0]) (rest := [.int x2]) kq_Mo_layPass i_Mo_layPass_27 rfl kq_Mo_cells (by decide) rfl (Or.inl rfl) (fun v2 h1 => ?_)
  refine ix_K_ic_ge (tgt := 75) kq_Mo_layPass i_Mo_layPass_30 rfl (by decide) ?_ ?_
  · exact ix_D_ret kq_Mo_layPass i_Mo_layPass_75 (ix_rtV rfl)
  · refine ix_K_px kq_Mo_layPass i_Mo_layPass_33 rfl rfl ?_
    refine ix_K_gr kq_Mo_layPass i_Mo_layPass_34 rfl (fun v3 => ?_)
    refine ix_K_px kq_Mo_layPass i_Mo_layPass_37 rfl rfl ?_
    refine ix_K_px kq_Mo_layPass i_Mo_layPass_38 rfl rfl ?_
    refine ix_K_gr kq_Mo_layPass i_Mo_layPass_39 rfl (fun v4 => ?_)
    refine ix_K_px kq_Mo_layPass i_Mo_layPass_42 rfl rfl ?_
    refine ix_K_ai kq_Mo_layPass i_Mo_layPass_43 rfl (fun v5 => ?_)
    refine ix_K_cb kq_Mo_layPass i_Mo_layPass_44 rfl kcb_m6 ?_
    refine ix_K_ic_eq (tgt := 67) kq_Mo_layPass i_Mo_layPass_46 rfl (by decide) ?_ ?_
    · refine ix_K_ci kq_Mo_layPass i_Mo_layPass_67 rfl kci_0 ?_
      refine ix_K_tz kq_Mo_layPass i_Mo_layPass_68 rfl (fun h6 => ?_)
      refine ix_K_inc (L2 := [some (.ref a0), none, some (.int (x2 + 1))]) kq_Mo_layPass i_Mo_layPass_69 rfl rfl (Nat.le_of_ble_eq_true rfl) kci_1 rfl ?_
      refine ix_K_goto (tgt := 25) kq_Mo_layPass i_Mo_layPass_72 rfl (by decide) ?_
      exact ix_D_cut i_Mo_layPass_25 rfl
    · refine ix_K_px kq_Mo_layPass i_Mo_layPass_49 rfl rfl ?_
      refine ix_K_gr kq_Mo_layPass i_Mo_layPass_50 rfl (fun v7 => ?_)
      refine ix_K_cb kq_Mo_layPass i_Mo_layPass_53 rfl kcb_64 ?_
      refine ix_K_px kq_Mo_layPass i_Mo_layPass_55 rfl rfl ?_
      refine ix_K_px kq_Mo_layPass i_Mo_layPass_56 rfl rfl ?_
      refine ix_K_ai kq_Mo_layPass i_Mo_layPass_57 rfl (fun v8 => ?_)
      refine ix_K_cb kq_Mo_layPass i_Mo_layPass_58 rfl kcb_m6 ?_
      refine ix_K_ic_ne (tgt := 67) kq_Mo_layPass i_Mo_layPass_60 rfl (by decide) ?_ ?_
      · refine ix_K_ci kq_Mo_layPass i_Mo_layPass_67 rfl kci_0 ?_
        refine ix_K_tz kq_Mo_layPass i_Mo_layPass_68 rfl (fun h9 => ?_)
        refine ix_K_inc (L2 := [some (.ref a0), none, some (.int (x2 + 1))]) kq_Mo_layPass i_Mo_layPass_69 rfl rfl (Nat.le_of_ble_eq_true rfl) kci_1 rfl ?_
        refine ix_K_goto (tgt := 25) kq_Mo_layPass i_Mo_layPass_72 rfl (by decide) ?_
        exact ix_D_cut i_Mo_layPass_25 rfl
      · refine ix_K_ci kq_Mo_layPass i_Mo_layPass_63 rfl kci_1 ?_
        refine ix_K_goto (tgt := 68) kq_Mo_layPass i_Mo_layPass_64 rfl (by decide) ?_
        refine ix_K_tz kq_Mo_layPass i_Mo_layPass_68 rfl (fun h10 => ?_)
        refine ix_K_inc (L2 := [some (.ref a0), none, some (.int (x2 + 1))]) kq_Mo_layPass i_Mo_layPass_69 rfl rfl (Nat.le_of_ble_eq_true rfl) kci_1 rfl ?_
        refine ix_K_goto (tgt := 25) kq_Mo_layPass i_Mo_layPass_72 rfl (by decide) ?_
        exact ix_D_cut i_Mo_layPass_25 rfl
set_option maxRecDepth 20000 in
set_option maxHeartbeats 1000000 in
theorem e_Mo_layPass (a0 : Nat) (x1 : Int32) (h : ixH) : ix_D mMo_layPass 0 [some (.ref a0), some (.int x1), none] [] h = if ¬ x1 = 0 then if ¬ x1 = 0 then (ix_M mMo_layFlow [.ref a0, .int 2, .int 1] h).bind fun r => ix_kI r fun v2 h1 => l_Mo_layPass_25 a0 0 h1 else (ix_M mMo_layFlow [.ref a0, .int 2, .int 2] h).bind fun r => ix_kI r fun v4 h3 => l_Mo_layPass_25 a0 0 h3 else if ¬ x1 = 0 then (ix_M mMo_layFlow [.ref a0, .int 1, .int 1] h).bind fun r => ix_kI r fun v6 h5 => l_Mo_layPass_25 a0 0 h5 else (ix_M mMo_layFlow [.ref a0, .int 1, .int 2] h).bind fun r => ix_kI r fun v8 h7 => l_Mo_layPass_25 a0 0 h7 := by
  refine ix_K_px kq_Mo_layPass i_Mo_layPass_0 rfl rfl ?_
  refine ix_K_px kq_Mo_layPass i_Mo_layPass_1 rfl rfl ?_
  refine ix_K_if_ne (tgt := 9) kq_Mo_layPass i_Mo_layPass_2 rfl (by decide) ?_ ?_
  · refine ix_K_ci kq_Mo_layPass i_Mo_layPass_9 rfl kci_2 ?_
    refine ix_K_px kq_Mo_layPass i_Mo_layPass_10 rfl rfl ?_
    refine ix_K_if_ne (tgt := 18) kq_Mo_layPass i_Mo_layPass_11 rfl (by decide) ?_ ?_
    · refine ix_K_ci kq_Mo_layPass i_Mo_layPass_18 rfl kci_1 ?_
      refine ix_K_callI (as := [.ref a0, .int 2, .int 1]) (rest := []) kq_Mo_layPass i_Mo_layPass_19 rfl kq_Mo_layFlow (by decide) rfl (Or.inl rfl) (fun v2 h1 => ?_)
      refine ix_K_px kq_Mo_layPass i_Mo_layPass_22 rfl rfl ?_
      refine ix_K_ci kq_Mo_layPass i_Mo_layPass_23 rfl kci_0 ?_
      refine ix_K_si (L2 := [some (.ref a0), some (.int x1), some (.int 0)]) kq_Mo_layPass i_Mo_layPass_24 rfl (Or.inr ⟨_, rfl, rfl⟩) (Nat.le_of_ble_eq_true rfl) rfl ?_
      exact ix_D_cut i_Mo_layPass_25 rfl
    · refine ix_K_ci kq_Mo_layPass i_Mo_layPass_14 rfl kci_2 ?_
      refine ix_K_goto (tgt := 19) kq_Mo_layPass i_Mo_layPass_15 rfl (by decide) ?_
      refine ix_K_callI (as := [.ref a0, .int 2, .int 2]) (rest := []) kq_Mo_layPass i_Mo_layPass_19 rfl kq_Mo_layFlow (by decide) rfl (Or.inl rfl) (fun v4 h3 => ?_)
      refine ix_K_px kq_Mo_layPass i_Mo_layPass_22 rfl rfl ?_
      refine ix_K_ci kq_Mo_layPass i_Mo_layPass_23 rfl kci_0 ?_
      refine ix_K_si (L2 := [some (.ref a0), some (.int x1), some (.int 0)]) kq_Mo_layPass i_Mo_layPass_24 rfl (Or.inr ⟨_, rfl, rfl⟩) (Nat.le_of_ble_eq_true rfl) rfl ?_
      exact ix_D_cut i_Mo_layPass_25 rfl
  · refine ix_K_ci kq_Mo_layPass i_Mo_layPass_5 rfl kci_1 ?_
    refine ix_K_goto (tgt := 10) kq_Mo_layPass i_Mo_layPass_6 rfl (by decide) ?_
    refine ix_K_px kq_Mo_layPass i_Mo_layPass_10 rfl rfl ?_
    refine ix_K_if_ne (tgt := 18) kq_Mo_layPass i_Mo_layPass_11 rfl (by decide) ?_ ?_
    · refine ix_K_ci kq_Mo_layPass i_Mo_layPass_18 rfl kci_1 ?_
      refine ix_K_callI (as := [.ref a0, .int 1, .int 1]) (rest := []) kq_Mo_layPass i_Mo_layPass_19 rfl kq_Mo_layFlow (by decide) rfl (Or.inl rfl) (fun v6 h5 => ?_)
      refine ix_K_px kq_Mo_layPass i_Mo_layPass_22 rfl rfl ?_
      refine ix_K_ci kq_Mo_layPass i_Mo_layPass_23 rfl kci_0 ?_
      refine ix_K_si (L2 := [some (.ref a0), some (.int x1), some (.int 0)]) kq_Mo_layPass i_Mo_layPass_24 rfl (Or.inr ⟨_, rfl, rfl⟩) (Nat.le_of_ble_eq_true rfl) rfl ?_
      exact ix_D_cut i_Mo_layPass_25 rfl
    · refine ix_K_ci kq_Mo_layPass i_Mo_layPass_14 rfl kci_2 ?_
      refine ix_K_goto (tgt := 19) kq_Mo_layPass i_Mo_layPass_15 rfl (by decide) ?_
      refine ix_K_callI (as := [.ref a0, .int 1, .int 2]) (rest := []) kq_Mo_layPass i_Mo_layPass_19 rfl kq_Mo_layFlow (by decide) rfl (Or.inl rfl) (fun v8 h7 => ?_)
      refine ix_K_px kq_Mo_layPass i_Mo_layPass_22 rfl rfl ?_
      refine ix_K_ci kq_Mo_layPass i_Mo_layPass_23 rfl kci_0 ?_
      refine ix_K_si (L2 := [some (.ref a0), some (.int x1), some (.int 0)]) kq_Mo_layPass i_Mo_layPass_24 rfl (Or.inr ⟨_, rfl, rfl⟩) (Nat.le_of_ble_eq_true rfl) rfl ?_
      exact ix_D_cut i_Mo_layPass_25 rfl
theorem x_Mo_layPass {a0 : Nat} {x1 : Int32} {h h1 : ixH} (hr : ix_rc h a0 = some 11) (hd : ix_D mMo_layPass 0 [some (.ref a0), some (.int x1), none] [] h = some ([], h1)) : ix_M mMo_layPass [.ref a0, .int x1] h = some ([], h1) := ix_M_of (ix_ent_i kq_Mo_layPass rfl hr rfl (Nat.le_of_ble_eq_true rfl) rfl) hd (ix_okrV rfl)
theorem i_Mo_changed_0 : ix_nx mMo_changed 0 = some (0, .aload_n 0, 1, none, [], 0) := rfl
theorem i_Mo_changed_1 : ix_nx mMo_changed 1 = some (0, .iload_n 1, 2, none, [], 0) := rfl
theorem i_Mo_changed_2 : ix_nx mMo_changed 2 = some (3, .invokevirtual 117, 5, none, [0, 151, 176], 0) := rfl
theorem i_Mo_changed_5 : ix_nx mMo_changed 5 = some (0, .ifCond .ne 5, 8, none, [], 0) := rfl
theorem i_Mo_changed_8 : ix_nx mMo_changed 8 = some (0, .iconst (-1), 9, none, [], 0) := rfl
theorem i_Mo_changed_9 : ix_nx mMo_changed 9 = some (4, .ireturn, 10, none, [], 0) := rfl
theorem i_Mo_changed_10 : ix_nx mMo_changed 10 = some (0, .aload_n 0, 11, none, [], 0) := rfl
theorem i_Mo_changed_11 : ix_nx mMo_changed 11 = some (1, .getfield 7, 14, none, [11, 0, 2, 90], 0) := rfl
theorem i_Mo_changed_14 : ix_nx mMo_changed 14 = some (0, .iconst 2, 15, none, [], 0) := rfl
theorem i_Mo_changed_15 : ix_nx mMo_changed 15 = some (0, .iload_n 1, 16, none, [], 0) := rfl
theorem i_Mo_changed_16 : ix_nx mMo_changed 16 = some (0, .iadd, 17, none, [], 0) := rfl
theorem i_Mo_changed_17 : ix_nx mMo_changed 17 = some (0, .dup2, 18, none, [], 0) := rfl
theorem i_Mo_changed_18 : ix_nx mMo_changed 18 = some (1, .iaload, 19, none, [], 0) := rfl
theorem i_Mo_changed_19 : ix_nx mMo_changed 19 = some (0, .iconst 1, 20, none, [], 0) := rfl
theorem i_Mo_changed_20 : ix_nx mMo_changed 20 = some (0, .ixor, 21, none, [], 0) := rfl
theorem i_Mo_changed_21 : ix_nx mMo_changed 21 = some (2, .iastore, 22, none, [], 0) := rfl
theorem i_Mo_changed_22 : ix_nx mMo_changed 22 = some (0, .aload_n 0, 23, none, [], 0) := rfl
theorem i_Mo_changed_23 : ix_nx mMo_changed 23 = some (3, .invokevirtual 212, 26, none, [0, 180, 206], 0) := rfl
theorem i_Mo_changed_26 : ix_nx mMo_changed 26 = some (0, .istore_n 2, 27, none, [], 0) := rfl
theorem i_Mo_changed_27 : ix_nx mMo_changed 27 = some (0, .aload_n 0, 28, none, [], 0) := rfl
theorem i_Mo_changed_28 : ix_nx mMo_changed 28 = some (1, .getfield 7, 31, none, [11, 0, 2, 90], 0) := rfl
theorem i_Mo_changed_31 : ix_nx mMo_changed 31 = some (0, .iconst 2, 32, none, [], 0) := rfl
theorem i_Mo_changed_32 : ix_nx mMo_changed 32 = some (0, .iload_n 1, 33, none, [], 0) := rfl
theorem i_Mo_changed_33 : ix_nx mMo_changed 33 = some (0, .iadd, 34, none, [], 0) := rfl
theorem i_Mo_changed_34 : ix_nx mMo_changed 34 = some (0, .dup2, 35, none, [], 0) := rfl
theorem i_Mo_changed_35 : ix_nx mMo_changed 35 = some (1, .iaload, 36, none, [], 0) := rfl
theorem i_Mo_changed_36 : ix_nx mMo_changed 36 = some (0, .iconst 1, 37, none, [], 0) := rfl
theorem i_Mo_changed_37 : ix_nx mMo_changed 37 = some (0, .ixor, 38, none, [], 0) := rfl
theorem i_Mo_changed_38 : ix_nx mMo_changed 38 = some (2, .iastore, 39, none, [], 0) := rfl
theorem i_Mo_changed_39 : ix_nx mMo_changed 39 = some (0, .iload_n 2, 40, none, [], 0) := rfl
theorem i_Mo_changed_40 : ix_nx mMo_changed 40 = some (4, .ireturn, 41, none, [], 0) := rfl
set_option maxRecDepth 20000 in
set_option maxHeartbeats 1000000 in
theorem e_Mo_changed (a0 : Nat) (x1 : Int32) (h : ixH) : ix_D mMo_changed 0 [some (.ref a0), some (.int x1), none] [] h = (ix_M mMo_isCell [.ref a0, .int x1] h).bind fun r => ix_kZ r fun v2 h1 => if v2 = true then (ix_gr h1 a0 11 0).bind fun v3 => (ix_ai h1 v3 (2 + x1)).bind fun v4 => (ix_si h1 v3 (2 + x1) (v4 ^^^ 1)).bind fun h5 => (ix_M mMo_flow [.ref a0] h5).bind fun r => ix_kI r fun v7 h6 => (ix_gr h6 a0 11 0).bind fun v8 => (ix_ai h6 v8 (2 + x1)).bind fun v9 => (ix_si h6 v8 (2 + x1) (v9 ^^^ 1)).bind fun h10 => some ([.int v7], h10) else some ([.int (-1)], h1) := by
  refine ix_K_px kq_Mo_changed i_Mo_changed_0 rfl rfl ?_
  refine ix_K_px kq_Mo_changed i_Mo_changed_1 rfl rfl ?_
  refine ix_K_callZ (as := [.ref a0, .int x1]) (rest := []) kq_Mo_changed i_Mo_changed_2 rfl kq_Mo_isCell (by decide) rfl rfl (fun v2 h1 => ?_)
  refine ix_K_bz_ne (tgt := 10) kq_Mo_changed i_Mo_changed_5 rfl (by decide) ?_ ?_
  · refine ix_K_px kq_Mo_changed i_Mo_changed_10 rfl rfl ?_
    refine ix_K_gr kq_Mo_changed i_Mo_changed_11 rfl (fun v3 => ?_)
    refine ix_K_ci kq_Mo_changed i_Mo_changed_14 rfl kci_2 ?_
    refine ix_K_px kq_Mo_changed i_Mo_changed_15 rfl rfl ?_
    refine ix_K_px kq_Mo_changed i_Mo_changed_16 rfl rfl ?_
    refine ix_K_px kq_Mo_changed i_Mo_changed_17 rfl rfl ?_
    refine ix_K_ai kq_Mo_changed i_Mo_changed_18 rfl (fun v4 => ?_)
    refine ix_K_ci kq_Mo_changed i_Mo_changed_19 rfl kci_1 ?_
    refine ix_K_px kq_Mo_changed i_Mo_changed_20 rfl rfl ?_
    refine ix_K_ti kq_Mo_changed i_Mo_changed_21 rfl (fun h5 => ?_)
    refine ix_K_px kq_Mo_changed i_Mo_changed_22 rfl rfl ?_
    refine ix_K_callI (as := [.ref a0]) (rest := []) kq_Mo_changed i_Mo_changed_23 rfl kq_Mo_flow (by decide) rfl (Or.inl rfl) (fun v7 h6 => ?_)
    refine ix_K_si (L2 := [some (.ref a0), some (.int x1), some (.int v7)]) kq_Mo_changed i_Mo_changed_26 rfl (Or.inr ⟨_, rfl, rfl⟩) (Nat.le_of_ble_eq_true rfl) rfl ?_
    refine ix_K_px kq_Mo_changed i_Mo_changed_27 rfl rfl ?_
    refine ix_K_gr kq_Mo_changed i_Mo_changed_28 rfl (fun v8 => ?_)
    refine ix_K_ci kq_Mo_changed i_Mo_changed_31 rfl kci_2 ?_
    refine ix_K_px kq_Mo_changed i_Mo_changed_32 rfl rfl ?_
    refine ix_K_px kq_Mo_changed i_Mo_changed_33 rfl rfl ?_
    refine ix_K_px kq_Mo_changed i_Mo_changed_34 rfl rfl ?_
    refine ix_K_ai kq_Mo_changed i_Mo_changed_35 rfl (fun v9 => ?_)
    refine ix_K_ci kq_Mo_changed i_Mo_changed_36 rfl kci_1 ?_
    refine ix_K_px kq_Mo_changed i_Mo_changed_37 rfl rfl ?_
    refine ix_K_ti kq_Mo_changed i_Mo_changed_38 rfl (fun h10 => ?_)
    refine ix_K_px kq_Mo_changed i_Mo_changed_39 rfl rfl ?_
    exact ix_D_ret kq_Mo_changed i_Mo_changed_40 (ix_rtI rfl _)
  · refine ix_K_ci kq_Mo_changed i_Mo_changed_8 rfl kci_m1 ?_
    exact ix_D_ret kq_Mo_changed i_Mo_changed_9 (ix_rtI rfl _)
theorem x_Mo_changed {a0 : Nat} {x1 : Int32} {h h1 : ixH} {v : Int32} (hr : ix_rc h a0 = some 11) (hd : ix_D mMo_changed 0 [some (.ref a0), some (.int x1), none] [] h = some ([.int v], h1)) : ix_M mMo_changed [.ref a0, .int x1] h = some ([.int v], h1) := ix_M_of (ix_ent_i kq_Mo_changed rfl hr rfl (Nat.le_of_ble_eq_true rfl) rfl) hd (ix_okrI (Or.inl rfl) v)
theorem i_Mo_bestTurns_0 : ix_nx mMo_bestTurns 0 = some (0, .iload_n 1, 1, none, [], 0) := rfl
theorem i_Mo_bestTurns_1 : ix_nx mMo_bestTurns 1 = some (0, .iconst 0, 2, none, [], 0) := rfl
theorem i_Mo_bestTurns_2 : ix_nx mMo_bestTurns 2 = some (0, .iconst 1, 3, none, [], 0) := rfl
theorem i_Mo_bestTurns_3 : ix_nx mMo_bestTurns 3 = some (3, .invokestatic 98, 6, none, [1, 148, 174], 0) := rfl
theorem i_Mo_bestTurns_6 : ix_nx mMo_bestTurns 6 = some (0, .ifCond .ne 6, 9, none, [], 0) := rfl
theorem i_Mo_bestTurns_9 : ix_nx mMo_bestTurns 9 = some (0, .bipush (-2), 11, none, [], 0) := rfl
theorem i_Mo_bestTurns_11 : ix_nx mMo_bestTurns 11 = some (4, .ireturn, 12, none, [], 0) := rfl
theorem i_Mo_bestTurns_12 : ix_nx mMo_bestTurns 12 = some (0, .iconst 0, 13, none, [], 0) := rfl
theorem i_Mo_bestTurns_13 : ix_nx mMo_bestTurns 13 = some (0, .istore_n 2, 14, none, [], 0) := rfl
theorem i_Mo_bestTurns_14 : ix_nx mMo_bestTurns 14 = some (0, .iconst (-1), 15, none, [], 0) := rfl
theorem i_Mo_bestTurns_15 : ix_nx mMo_bestTurns 15 = some (0, .istore_n 3, 16, none, [], 0) := rfl
theorem i_Mo_bestTurns_16 : ix_nx mMo_bestTurns 16 = some (0, .iconst 0, 17, none, [], 0) := rfl
theorem i_Mo_bestTurns_17 : ix_nx mMo_bestTurns 17 = some (0, .istore 4, 19, none, [], 0) := rfl
theorem i_Mo_bestTurns_19 : ix_nx mMo_bestTurns 19 = some (0, .iload 4, 21, some [true, true, true, true, true, false], [], 0) := rfl
theorem i_Mo_bestTurns_21 : ix_nx mMo_bestTurns 21 = some (0, .bipush 16, 23, none, [], 0) := rfl
theorem i_Mo_bestTurns_23 : ix_nx mMo_bestTurns 23 = some (0, .if_icmp .ge 57, 26, none, [], 0) := rfl
theorem i_Mo_bestTurns_26 : ix_nx mMo_bestTurns 26 = some (0, .aload_n 0, 27, none, [], 0) := rfl
theorem i_Mo_bestTurns_27 : ix_nx mMo_bestTurns 27 = some (0, .iload 4, 29, none, [], 0) := rfl
theorem i_Mo_bestTurns_29 : ix_nx mMo_bestTurns 29 = some (3, .invokevirtual 215, 32, none, [0, 195, 207], 0) := rfl
theorem i_Mo_bestTurns_32 : ix_nx mMo_bestTurns 32 = some (0, .aload_n 0, 33, none, [], 0) := rfl
theorem i_Mo_bestTurns_33 : ix_nx mMo_bestTurns 33 = some (3, .invokevirtual 212, 36, none, [0, 180, 206], 0) := rfl
theorem i_Mo_bestTurns_36 : ix_nx mMo_bestTurns 36 = some (0, .istore 5, 38, none, [], 0) := rfl
theorem i_Mo_bestTurns_38 : ix_nx mMo_bestTurns 38 = some (0, .aload_n 0, 39, none, [], 0) := rfl
theorem i_Mo_bestTurns_39 : ix_nx mMo_bestTurns 39 = some (0, .iload 4, 41, none, [], 0) := rfl
theorem i_Mo_bestTurns_41 : ix_nx mMo_bestTurns 41 = some (3, .invokevirtual 215, 44, none, [0, 195, 207], 0) := rfl
theorem i_Mo_bestTurns_44 : ix_nx mMo_bestTurns 44 = some (0, .iload 5, 46, none, [], 0) := rfl
theorem i_Mo_bestTurns_46 : ix_nx mMo_bestTurns 46 = some (0, .iload_n 3, 47, none, [], 0) := rfl
theorem i_Mo_bestTurns_47 : ix_nx mMo_bestTurns 47 = some (0, .if_icmp .gt 21, 50, none, [], 0) := rfl
theorem i_Mo_bestTurns_50 : ix_nx mMo_bestTurns 50 = some (0, .iload 5, 52, none, [], 0) := rfl
theorem i_Mo_bestTurns_52 : ix_nx mMo_bestTurns 52 = some (0, .iload_n 3, 53, none, [], 0) := rfl
theorem i_Mo_bestTurns_53 : ix_nx mMo_bestTurns 53 = some (0, .if_icmp .ne 21, 56, none, [], 0) := rfl
theorem i_Mo_bestTurns_56 : ix_nx mMo_bestTurns 56 = some (0, .iload 4, 58, none, [], 0) := rfl
theorem i_Mo_bestTurns_58 : ix_nx mMo_bestTurns 58 = some (3, .invokestatic 218, 61, none, [1, 196, 208], 0) := rfl
theorem i_Mo_bestTurns_61 : ix_nx mMo_bestTurns 61 = some (0, .iload_n 2, 62, none, [], 0) := rfl
theorem i_Mo_bestTurns_62 : ix_nx mMo_bestTurns 62 = some (3, .invokestatic 218, 65, none, [1, 196, 208], 0) := rfl
theorem i_Mo_bestTurns_65 : ix_nx mMo_bestTurns 65 = some (0, .if_icmp .ge 9, 68, none, [], 0) := rfl
theorem i_Mo_bestTurns_68 : ix_nx mMo_bestTurns 68 = some (0, .iload 5, 70, none, [], 0) := rfl
theorem i_Mo_bestTurns_70 : ix_nx mMo_bestTurns 70 = some (0, .istore_n 3, 71, none, [], 0) := rfl
theorem i_Mo_bestTurns_71 : ix_nx mMo_bestTurns 71 = some (0, .iload 4, 73, none, [], 0) := rfl
theorem i_Mo_bestTurns_73 : ix_nx mMo_bestTurns 73 = some (0, .istore_n 2, 74, none, [], 0) := rfl
theorem i_Mo_bestTurns_74 : ix_nx mMo_bestTurns 74 = some (0, .iinc 4 1, 77, none, [], 0) := rfl
theorem i_Mo_bestTurns_77 : ix_nx mMo_bestTurns 77 = some (0, .goto (-58), 80, none, [], 0) := rfl
theorem i_Mo_bestTurns_80 : ix_nx mMo_bestTurns 80 = some (0, .iload_n 1, 81, none, [], 0) := rfl
theorem i_Mo_bestTurns_81 : ix_nx mMo_bestTurns 81 = some (0, .ifCond .ne 7, 84, none, [], 0) := rfl
theorem i_Mo_bestTurns_84 : ix_nx mMo_bestTurns 84 = some (0, .iload_n 2, 85, none, [], 0) := rfl
theorem i_Mo_bestTurns_85 : ix_nx mMo_bestTurns 85 = some (0, .goto 4, 88, none, [], 0) := rfl
theorem i_Mo_bestTurns_88 : ix_nx mMo_bestTurns 88 = some (0, .iload_n 3, 89, none, [], 0) := rfl
theorem i_Mo_bestTurns_89 : ix_nx mMo_bestTurns 89 = some (4, .ireturn, 90, none, [], 0) := rfl
noncomputable def l_Mo_bestTurns_19 (a0 : Nat) (x1 : Int32) (x2 : Int32) (x3 : Int32) (x4 : Int32) (h : ixH) : Option (List Value × ixH) := ix_D mMo_bestTurns 19 [some (.ref a0), some (.int x1), some (.int x2), some (.int x3), some (.int x4), none] [] h
set_option maxRecDepth 20000 in
set_option maxHeartbeats 1000000 in
theorem e_Mo_bestTurns_19 (a0 : Nat) (x1 : Int32) (x2 : Int32) (x3 : Int32) (x4 : Int32) (h : ixH) : l_Mo_bestTurns_19 a0 x1 x2 x3 x4 h = if 16 ≤ x4 then if ¬ x1 = 0 then some ([.int x3], h) else some ([.int x2], h) else (ix_M mMo_turnAll [.ref a0, .int x4] h).bind fun r => ix_kV r fun h1 => (ix_M mMo_flow [.ref a0] h1).bind fun r => ix_kI r fun v3 h2 => (ix_M mMo_turnAll [.ref a0, .int x4] h2).bind fun r => ix_kV r fun h4 => if x3 < v3 then l_Mo_bestTurns_19 a0 x1 x4 v3 (x4 + 1) h4 else if ¬ v3 = x3 then l_Mo_bestTurns_19 a0 x1 x2 x3 (x4 + 1) h4 else (ix_M mMo_bits [.int x4] h4).bind fun r => ix_kI r fun v6 h5 => (ix_M mMo_bits [.int x2] h5).bind fun r => ix_kI r fun v8 h7 => if v8 ≤ v6 then l_Mo_bestTurns_19 a0 x1 x2 x3 (x4 + 1) h7 else l_Mo_bestTurns_19 a0 x1 x4 v3 (x4 + 1) h7 := by
  unfold l_Mo_bestTurns_19
  refine ix_K_px kq_Mo_bestTurns i_Mo_bestTurns_19 rfl rfl ?_
  refine ix_K_cb kq_Mo_bestTurns i_Mo_bestTurns_21 rfl kcb_16 ?_
  refine ix_K_ic_ge (tgt := 80) kq_Mo_bestTurns i_Mo_bestTurns_23 rfl (by decide) ?_ ?_
  · refine ix_K_px kq_Mo_bestTurns i_Mo_bestTurns_80 rfl rfl ?_
    refine ix_K_if_ne (tgt := 88) kq_Mo_bestTurns i_Mo_bestTurns_81 rfl (by decide) ?_ ?_
    · refine ix_K_px kq_Mo_bestTurns i_Mo_bestTurns_88 rfl rfl ?_
      exact ix_D_ret kq_Mo_bestTurns i_Mo_bestTurns_89 (ix_rtI rfl _)
    · refine ix_K_px kq_Mo_bestTurns i_Mo_bestTurns_84 rfl rfl ?_
      refine ix_K_goto (tgt := 89) kq_Mo_bestTurns i_Mo_bestTurns_85 rfl (by decide) ?_
      exact ix_D_ret kq_Mo_bestTurns i_Mo_bestTurns_89 (ix_rtI rfl _)
  · refine ix_K_px kq_Mo_bestTurns i_Mo_bestTurns_26 rfl rfl ?_
    refine ix_K_px kq_Mo_bestTurns i_Mo_bestTurns_27 rfl rfl ?_
    refine ix_K_callV (as := [.ref a0, .int x4]) (rest := []) kq_Mo_bestTurns i_Mo_bestTurns_29 rfl kq_Mo_turnAll (by decide) rfl rfl (fun h1 => ?_)
    refine ix_K_px kq_Mo_bestTurns i_Mo_bestTurns_32 rfl rfl ?_
    refine ix_K_callI (as := [.ref a0]) (rest := []) kq_Mo_bestTurns i_Mo_bestTurns_33 rfl kq_Mo_flow (by decide) rfl (Or.inl rfl) (fun v3 h2 => ?_)
    refine ix_K_si (L2 := [some (.ref a0), some (.int x1), some (.int x2), some (.int x3), some (.int x4), some (.int v3)]) kq_Mo_bestTurns i_Mo_bestTurns_36 rfl (Or.inl rfl) (Nat.le_of_ble_eq_true rfl) rfl ?_
    refine ix_K_px kq_Mo_bestTurns i_Mo_bestTurns_38 rfl rfl ?_
    refine ix_K_px kq_Mo_bestTurns i_Mo_bestTurns_39 rfl rfl ?_
    refine ix_K_callV (as := [.ref a0, .int x4]) (rest := []) kq_Mo_bestTurns i_Mo_bestTurns_41 rfl kq_Mo_turnAll (by decide) rfl rfl (fun h4 => ?_)
    refine ix_K_px kq_Mo_bestTurns i_Mo_bestTurns_44 rfl rfl ?_
    refine ix_K_px kq_Mo_bestTurns i_Mo_bestTurns_46 rfl rfl ?_
    refine ix_K_ic_gt (tgt := 68) kq_Mo_bestTurns i_Mo_bestTurns_47 rfl (by decide) ?_ ?_
    · refine ix_K_px kq_Mo_bestTurns i_Mo_bestTurns_68 rfl rfl ?_
      refine ix_K_si (L2 := [some (.ref a0), some (.int x1), some (.int x2), some (.int v3), some (.int x4), some (.int v3)]) kq_Mo_bestTurns i_Mo_bestTurns_70 rfl (Or.inr ⟨_, rfl, rfl⟩) (Nat.le_of_ble_eq_true rfl) rfl ?_
      refine ix_K_px kq_Mo_bestTurns i_Mo_bestTurns_71 rfl rfl ?_
      refine ix_K_si (L2 := [some (.ref a0), some (.int x1), some (.int x4), some (.int v3), some (.int x4), some (.int v3)]) kq_Mo_bestTurns i_Mo_bestTurns_73 rfl (Or.inr ⟨_, rfl, rfl⟩) (Nat.le_of_ble_eq_true rfl) rfl ?_
      refine ix_K_inc (L2 := [some (.ref a0), some (.int x1), some (.int x4), some (.int v3), some (.int (x4 + 1)), some (.int v3)]) kq_Mo_bestTurns i_Mo_bestTurns_74 rfl rfl (Nat.le_of_ble_eq_true rfl) kci_1 rfl ?_
      refine ix_K_goto (tgt := 19) kq_Mo_bestTurns i_Mo_bestTurns_77 rfl (by decide) ?_
      exact ix_D_cut i_Mo_bestTurns_19 rfl
    · refine ix_K_px kq_Mo_bestTurns i_Mo_bestTurns_50 rfl rfl ?_
      refine ix_K_px kq_Mo_bestTurns i_Mo_bestTurns_52 rfl rfl ?_
      refine ix_K_ic_ne (tgt := 74) kq_Mo_bestTurns i_Mo_bestTurns_53 rfl (by decide) ?_ ?_
      · refine ix_K_inc (L2 := [some (.ref a0), some (.int x1), some (.int x2), some (.int x3), some (.int (x4 + 1)), some (.int v3)]) kq_Mo_bestTurns i_Mo_bestTurns_74 rfl rfl (Nat.le_of_ble_eq_true rfl) kci_1 rfl ?_
        refine ix_K_goto (tgt := 19) kq_Mo_bestTurns i_Mo_bestTurns_77 rfl (by decide) ?_
        exact ix_D_cut i_Mo_bestTurns_19 rfl
      · refine ix_K_px kq_Mo_bestTurns i_Mo_bestTurns_56 rfl rfl ?_
        refine ix_K_callI (as := [.int x4]) (rest := []) kq_Mo_bestTurns i_Mo_bestTurns_58 rfl kq_Mo_bits (by decide) rfl (Or.inl rfl) (fun v6 h5 => ?_)
        refine ix_K_px kq_Mo_bestTurns i_Mo_bestTurns_61 rfl rfl ?_
        refine ix_K_callI (as := [.int x2]) (rest := [.int v6]) kq_Mo_bestTurns i_Mo_bestTurns_62 rfl kq_Mo_bits (by decide) rfl (Or.inl rfl) (fun v8 h7 => ?_)
        refine ix_K_ic_ge (tgt := 74) kq_Mo_bestTurns i_Mo_bestTurns_65 rfl (by decide) ?_ ?_
        · refine ix_K_inc (L2 := [some (.ref a0), some (.int x1), some (.int x2), some (.int x3), some (.int (x4 + 1)), some (.int v3)]) kq_Mo_bestTurns i_Mo_bestTurns_74 rfl rfl (Nat.le_of_ble_eq_true rfl) kci_1 rfl ?_
          refine ix_K_goto (tgt := 19) kq_Mo_bestTurns i_Mo_bestTurns_77 rfl (by decide) ?_
          exact ix_D_cut i_Mo_bestTurns_19 rfl
        · refine ix_K_px kq_Mo_bestTurns i_Mo_bestTurns_68 rfl rfl ?_
          refine ix_K_si (L2 := [some (.ref a0), some (.int x1), some (.int x2), some (.int v3), some (.int x4), some (.int v3)]) kq_Mo_bestTurns i_Mo_bestTurns_70 rfl (Or.inr ⟨_, rfl, rfl⟩) (Nat.le_of_ble_eq_true rfl) rfl ?_
          refine ix_K_px kq_Mo_bestTurns i_Mo_bestTurns_71 rfl rfl ?_
          refine ix_K_si (L2 := [some (.ref a0), some (.int x1), some (.int x4), some (.int v3), some (.int x4), some (.int v3)]) kq_Mo_bestTurns i_Mo_bestTurns_73 rfl (Or.inr ⟨_, rfl, rfl⟩) (Nat.le_of_ble_eq_true rfl) rfl ?_
          refine ix_K_inc (L2 := [some (.ref a0), some (.int x1), some (.int x4), some (.int v3), some (.int (x4 + 1)), some (.int v3)]) kq_Mo_bestTurns i_Mo_bestTurns_74 rfl rfl (Nat.le_of_ble_eq_true rfl) kci_1 rfl ?_
          refine ix_K_goto (tgt := 19) kq_Mo_bestTurns i_Mo_bestTurns_77 rfl (by decide) ?_
          exact ix_D_cut i_Mo_bestTurns_19 rfl
set_option maxRecDepth 20000 in
set_option maxHeartbeats 1000000 in
theorem e_Mo_bestTurns (a0 : Nat) (x1 : Int32) (h : ixH) : ix_D mMo_bestTurns 0 [some (.ref a0), some (.int x1), none, none, none, none] [] h = (ix_M mMo_in [.int x1, .int 0, .int 1] h).bind fun r => ix_kZ r fun v2 h1 => if v2 = true then l_Mo_bestTurns_19 a0 x1 0 (-1) 0 h1 else some ([.int (-2)], h1) := by
  refine ix_K_px kq_Mo_bestTurns i_Mo_bestTurns_0 rfl rfl ?_
  refine ix_K_ci kq_Mo_bestTurns i_Mo_bestTurns_1 rfl kci_0 ?_
  refine ix_K_ci kq_Mo_bestTurns i_Mo_bestTurns_2 rfl kci_1 ?_
  refine ix_K_callZ (as := [.int x1, .int 0, .int 1]) (rest := []) kq_Mo_bestTurns i_Mo_bestTurns_3 rfl kq_Mo_in (by decide) rfl rfl (fun v2 h1 => ?_)
  refine ix_K_bz_ne (tgt := 12) kq_Mo_bestTurns i_Mo_bestTurns_6 rfl (by decide) ?_ ?_
  · refine ix_K_ci kq_Mo_bestTurns i_Mo_bestTurns_12 rfl kci_0 ?_
    refine ix_K_si (L2 := [some (.ref a0), some (.int x1), some (.int 0), none, none, none]) kq_Mo_bestTurns i_Mo_bestTurns_13 rfl (Or.inr ⟨_, rfl, rfl⟩) (Nat.le_of_ble_eq_true rfl) rfl ?_
    refine ix_K_ci kq_Mo_bestTurns i_Mo_bestTurns_14 rfl kci_m1 ?_
    refine ix_K_si (L2 := [some (.ref a0), some (.int x1), some (.int 0), some (.int (-1)), none, none]) kq_Mo_bestTurns i_Mo_bestTurns_15 rfl (Or.inr ⟨_, rfl, rfl⟩) (Nat.le_of_ble_eq_true rfl) rfl ?_
    refine ix_K_ci kq_Mo_bestTurns i_Mo_bestTurns_16 rfl kci_0 ?_
    refine ix_K_si (L2 := [some (.ref a0), some (.int x1), some (.int 0), some (.int (-1)), some (.int 0), none]) kq_Mo_bestTurns i_Mo_bestTurns_17 rfl (Or.inl rfl) (Nat.le_of_ble_eq_true rfl) rfl ?_
    exact ix_D_cut i_Mo_bestTurns_19 rfl
  · refine ix_K_cb kq_Mo_bestTurns i_Mo_bestTurns_9 rfl kcb_m2 ?_
    exact ix_D_ret kq_Mo_bestTurns i_Mo_bestTurns_11 (ix_rtI rfl _)
theorem x_Mo_bestTurns {a0 : Nat} {x1 : Int32} {h h1 : ixH} {v : Int32} (hr : ix_rc h a0 = some 11) (hd : ix_D mMo_bestTurns 0 [some (.ref a0), some (.int x1), none, none, none, none] [] h = some ([.int v], h1)) : ix_M mMo_bestTurns [.ref a0, .int x1] h = some ([.int v], h1) := ix_M_of (ix_ent_i kq_Mo_bestTurns rfl hr rfl (Nat.le_of_ble_eq_true rfl) rfl) hd (ix_okrI (Or.inl rfl) v)
theorem i_Mo_turnAll_0 : ix_nx mMo_turnAll 0 = some (0, .iconst 0, 1, none, [], 0) := rfl
theorem i_Mo_turnAll_1 : ix_nx mMo_turnAll 1 = some (0, .istore_n 2, 2, none, [], 0) := rfl
theorem i_Mo_turnAll_2 : ix_nx mMo_turnAll 2 = some (0, .iload_n 2, 3, some [true, true, true], [], 0) := rfl
theorem i_Mo_turnAll_3 : ix_nx mMo_turnAll 3 = some (0, .iconst 4, 4, none, [], 0) := rfl
theorem i_Mo_turnAll_4 : ix_nx mMo_turnAll 4 = some (0, .if_icmp .ge 23, 7, none, [], 0) := rfl
theorem i_Mo_turnAll_7 : ix_nx mMo_turnAll 7 = some (0, .iload_n 1, 8, none, [], 0) := rfl
theorem i_Mo_turnAll_8 : ix_nx mMo_turnAll 8 = some (0, .iload_n 2, 9, none, [], 0) := rfl
theorem i_Mo_turnAll_9 : ix_nx mMo_turnAll 9 = some (0, .ishr, 10, none, [], 0) := rfl
theorem i_Mo_turnAll_10 : ix_nx mMo_turnAll 10 = some (0, .iconst 1, 11, none, [], 0) := rfl
theorem i_Mo_turnAll_11 : ix_nx mMo_turnAll 11 = some (0, .iand, 12, none, [], 0) := rfl
theorem i_Mo_turnAll_12 : ix_nx mMo_turnAll 12 = some (0, .iconst 1, 13, none, [], 0) := rfl
theorem i_Mo_turnAll_13 : ix_nx mMo_turnAll 13 = some (0, .if_icmp .ne 8, 16, none, [], 0) := rfl
theorem i_Mo_turnAll_16 : ix_nx mMo_turnAll 16 = some (0, .aload_n 0, 17, none, [], 0) := rfl
theorem i_Mo_turnAll_17 : ix_nx mMo_turnAll 17 = some (0, .iload_n 2, 18, none, [], 0) := rfl
theorem i_Mo_turnAll_18 : ix_nx mMo_turnAll 18 = some (3, .invokevirtual 126, 21, none, [0, 157, 179], 0) := rfl
theorem i_Mo_turnAll_21 : ix_nx mMo_turnAll 21 = some (0, .iinc 2 1, 24, none, [], 0) := rfl
theorem i_Mo_turnAll_24 : ix_nx mMo_turnAll 24 = some (0, .goto (-22), 27, none, [], 0) := rfl
theorem i_Mo_turnAll_27 : ix_nx mMo_turnAll 27 = some (4, .return_, 28, none, [], 0) := rfl
noncomputable def l_Mo_turnAll_2 (a0 : Nat) (x1 : Int32) (x2 : Int32) (h : ixH) : Option (List Value × ixH) := ix_D mMo_turnAll 2 [some (.ref a0), some (.int x1), some (.int x2)] [] h
set_option maxRecDepth 20000 in
set_option maxHeartbeats 1000000 in
theorem e_Mo_turnAll_2 (a0 : Nat) (x1 : Int32) (x2 : Int32) (h : ixH) : l_Mo_turnAll_2 a0 x1 x2 h = if 4 ≤ x2 then some ([], h) else if ¬ ((ix_ishr x1 x2) &&& 1) = 1 then l_Mo_turnAll_2 a0 x1 (x2 + 1) h else (ix_M mMo_turnOne [.ref a0, .int x2] h).bind fun r => ix_kV r fun h1 => l_Mo_turnAll_2 a0 x1 (x2 + 1) h1 := by
  unfold l_Mo_turnAll_2
  refine ix_K_px kq_Mo_turnAll i_Mo_turnAll_2 rfl rfl ?_
  refine ix_K_ci kq_Mo_turnAll i_Mo_turnAll_3 rfl kci_4 ?_
  refine ix_K_ic_ge (tgt := 27) kq_Mo_turnAll i_Mo_turnAll_4 rfl (by decide) ?_ ?_
  · exact ix_D_ret kq_Mo_turnAll i_Mo_turnAll_27 (ix_rtV rfl)
  · refine ix_K_px kq_Mo_turnAll i_Mo_turnAll_7 rfl rfl ?_
    refine ix_K_px kq_Mo_turnAll i_Mo_turnAll_8 rfl rfl ?_
    refine ix_K_px kq_Mo_turnAll i_Mo_turnAll_9 rfl rfl ?_
    refine ix_K_ci kq_Mo_turnAll i_Mo_turnAll_10 rfl kci_1 ?_
    refine ix_K_px kq_Mo_turnAll i_Mo_turnAll_11 rfl rfl ?_
    refine ix_K_ci kq_Mo_turnAll i_Mo_turnAll_12 rfl kci_1 ?_
    refine ix_K_ic_ne (tgt := 21) kq_Mo_turnAll i_Mo_turnAll_13 rfl (by decide) ?_ ?_
    · refine ix_K_inc (L2 := [some (.ref a0), some (.int x1), some (.int (x2 + 1))]) kq_Mo_turnAll i_Mo_turnAll_21 rfl rfl (Nat.le_of_ble_eq_true rfl) kci_1 rfl ?_
      refine ix_K_goto (tgt := 2) kq_Mo_turnAll i_Mo_turnAll_24 rfl (by decide) ?_
      exact ix_D_cut i_Mo_turnAll_2 rfl
    · refine ix_K_px kq_Mo_turnAll i_Mo_turnAll_16 rfl rfl ?_
      refine ix_K_px kq_Mo_turnAll i_Mo_turnAll_17 rfl rfl ?_
      refine ix_K_callV (as := [.ref a0, .int x2]) (rest := []) kq_Mo_turnAll i_Mo_turnAll_18 rfl kq_Mo_turnOne (by decide) rfl rfl (fun h1 => ?_)
      refine ix_K_inc (L2 := [some (.ref a0), some (.int x1), some (.int (x2 + 1))]) kq_Mo_turnAll i_Mo_turnAll_21 rfl rfl (Nat.le_of_ble_eq_true rfl) kci_1 rfl ?_
      refine ix_K_goto (tgt := 2) kq_Mo_turnAll i_Mo_turnAll_24 rfl (by decide) ?_
      exact ix_D_cut i_Mo_turnAll_2 rfl
set_option maxRecDepth 20000 in
set_option maxHeartbeats 1000000 in
theorem e_Mo_turnAll (a0 : Nat) (x1 : Int32) (h : ixH) : ix_D mMo_turnAll 0 [some (.ref a0), some (.int x1), none] [] h = l_Mo_turnAll_2 a0 x1 0 h := by
  refine ix_K_ci kq_Mo_turnAll i_Mo_turnAll_0 rfl kci_0 ?_
  refine ix_K_si (L2 := [some (.ref a0), some (.int x1), some (.int 0)]) kq_Mo_turnAll i_Mo_turnAll_1 rfl (Or.inr ⟨_, rfl, rfl⟩) (Nat.le_of_ble_eq_true rfl) rfl ?_
  exact ix_D_cut i_Mo_turnAll_2 rfl
theorem x_Mo_turnAll {a0 : Nat} {x1 : Int32} {h h1 : ixH} (hr : ix_rc h a0 = some 11) (hd : ix_D mMo_turnAll 0 [some (.ref a0), some (.int x1), none] [] h = some ([], h1)) : ix_M mMo_turnAll [.ref a0, .int x1] h = some ([], h1) := ix_M_of (ix_ent_i kq_Mo_turnAll rfl hr rfl (Nat.le_of_ble_eq_true rfl) rfl) hd (ix_okrV rfl)
theorem i_Mo_bits_0 : ix_nx mMo_bits 0 = some (0, .iconst 0, 1, none, [], 0) := rfl
theorem i_Mo_bits_1 : ix_nx mMo_bits 1 = some (0, .istore_n 1, 2, none, [], 0) := rfl
theorem i_Mo_bits_2 : ix_nx mMo_bits 2 = some (0, .iconst 0, 3, none, [], 0) := rfl
theorem i_Mo_bits_3 : ix_nx mMo_bits 3 = some (0, .istore_n 2, 4, none, [], 0) := rfl
theorem i_Mo_bits_4 : ix_nx mMo_bits 4 = some (0, .iload_n 2, 5, some [true, true, true], [], 0) := rfl
theorem i_Mo_bits_5 : ix_nx mMo_bits 5 = some (0, .bipush 31, 7, none, [], 0) := rfl
theorem i_Mo_bits_7 : ix_nx mMo_bits 7 = some (0, .if_icmp .ge 17, 10, none, [], 0) := rfl
theorem i_Mo_bits_10 : ix_nx mMo_bits 10 = some (0, .iload_n 1, 11, none, [], 0) := rfl
theorem i_Mo_bits_11 : ix_nx mMo_bits 11 = some (0, .iload_n 0, 12, none, [], 0) := rfl
theorem i_Mo_bits_12 : ix_nx mMo_bits 12 = some (0, .iload_n 2, 13, none, [], 0) := rfl
theorem i_Mo_bits_13 : ix_nx mMo_bits 13 = some (0, .ishr, 14, none, [], 0) := rfl
theorem i_Mo_bits_14 : ix_nx mMo_bits 14 = some (0, .iconst 1, 15, none, [], 0) := rfl
theorem i_Mo_bits_15 : ix_nx mMo_bits 15 = some (0, .iand, 16, none, [], 0) := rfl
theorem i_Mo_bits_16 : ix_nx mMo_bits 16 = some (0, .iadd, 17, none, [], 0) := rfl
theorem i_Mo_bits_17 : ix_nx mMo_bits 17 = some (0, .istore_n 1, 18, none, [], 0) := rfl
theorem i_Mo_bits_18 : ix_nx mMo_bits 18 = some (0, .iinc 2 1, 21, none, [], 0) := rfl
theorem i_Mo_bits_21 : ix_nx mMo_bits 21 = some (0, .goto (-17), 24, none, [], 0) := rfl
theorem i_Mo_bits_24 : ix_nx mMo_bits 24 = some (0, .iload_n 1, 25, none, [], 0) := rfl
theorem i_Mo_bits_25 : ix_nx mMo_bits 25 = some (4, .ireturn, 26, none, [], 0) := rfl
noncomputable def l_Mo_bits_4 (x0 : Int32) (x1 : Int32) (x2 : Int32) (h : ixH) : Option (List Value × ixH) := ix_D mMo_bits 4 [some (.int x0), some (.int x1), some (.int x2)] [] h
set_option maxRecDepth 20000 in
set_option maxHeartbeats 1000000 in
theorem e_Mo_bits_4 (x0 : Int32) (x1 : Int32) (x2 : Int32) (h : ixH) : l_Mo_bits_4 x0 x1 x2 h = if 31 ≤ x2 then some ([.int x1], h) else l_Mo_bits_4 x0 (x1 + ((ix_ishr x0 x2) &&& 1)) (x2 + 1) h := by
  unfold l_Mo_bits_4
  refine ix_K_px kq_Mo_bits i_Mo_bits_4 rfl rfl ?_
  refine ix_K_cb kq_Mo_bits i_Mo_bits_5 rfl kcb_31 ?_
  refine ix_K_ic_ge (tgt := 24) kq_Mo_bits i_Mo_bits_7 rfl (by decide) ?_ ?_
  · refine ix_K_px kq_Mo_bits i_Mo_bits_24 rfl rfl ?_
    exact ix_D_ret kq_Mo_bits i_Mo_bits_25 (ix_rtI rfl _)
  · refine ix_K_px kq_Mo_bits i_Mo_bits_10 rfl rfl ?_
    refine ix_K_px kq_Mo_bits i_Mo_bits_11 rfl rfl ?_
    refine ix_K_px kq_Mo_bits i_Mo_bits_12 rfl rfl ?_
    refine ix_K_px kq_Mo_bits i_Mo_bits_13 rfl rfl ?_
    refine ix_K_ci kq_Mo_bits i_Mo_bits_14 rfl kci_1 ?_
    refine ix_K_px kq_Mo_bits i_Mo_bits_15 rfl rfl ?_
    refine ix_K_px kq_Mo_bits i_Mo_bits_16 rfl rfl ?_
    refine ix_K_si (L2 := [some (.int x0), some (.int (x1 + ((ix_ishr x0 x2) &&& 1))), some (.int x2)]) kq_Mo_bits i_Mo_bits_17 rfl (Or.inr ⟨_, rfl, rfl⟩) (Nat.le_of_ble_eq_true rfl) rfl ?_
    refine ix_K_inc (L2 := [some (.int x0), some (.int (x1 + ((ix_ishr x0 x2) &&& 1))), some (.int (x2 + 1))]) kq_Mo_bits i_Mo_bits_18 rfl rfl (Nat.le_of_ble_eq_true rfl) kci_1 rfl ?_
    refine ix_K_goto (tgt := 4) kq_Mo_bits i_Mo_bits_21 rfl (by decide) ?_
    exact ix_D_cut i_Mo_bits_4 rfl
set_option maxRecDepth 20000 in
set_option maxHeartbeats 1000000 in
theorem e_Mo_bits (x0 : Int32) (h : ixH) : ix_D mMo_bits 0 [some (.int x0), none, none] [] h = l_Mo_bits_4 x0 0 0 h := by
  refine ix_K_ci kq_Mo_bits i_Mo_bits_0 rfl kci_0 ?_
  refine ix_K_si (L2 := [some (.int x0), some (.int 0), none]) kq_Mo_bits i_Mo_bits_1 rfl (Or.inr ⟨_, rfl, rfl⟩) (Nat.le_of_ble_eq_true rfl) rfl ?_
  refine ix_K_ci kq_Mo_bits i_Mo_bits_2 rfl kci_0 ?_
  refine ix_K_si (L2 := [some (.int x0), some (.int 0), some (.int 0)]) kq_Mo_bits i_Mo_bits_3 rfl (Or.inr ⟨_, rfl, rfl⟩) (Nat.le_of_ble_eq_true rfl) rfl ?_
  exact ix_D_cut i_Mo_bits_4 rfl
theorem x_Mo_bits {x0 : Int32} {h h1 : ixH} {v : Int32} (hd : ix_D mMo_bits 0 [some (.int x0), none, none] [] h = some ([.int v], h1)) : ix_M mMo_bits [.int x0] h = some ([.int v], h1) := ix_M_of (ix_ent_s kq_Mo_bits rfl rfl (Nat.le_of_ble_eq_true rfl) rfl) hd (ix_okrI (Or.inl rfl) v)
theorem i_Mo_cover_0 : ix_nx mMo_cover 0 = some (0, .aload_n 0, 1, none, [], 0) := rfl
theorem i_Mo_cover_1 : ix_nx mMo_cover 1 = some (3, .invokevirtual 236, 4, none, [0, 198, 209], 0) := rfl
theorem i_Mo_cover_4 : ix_nx mMo_cover 4 = some (4, .ireturn, 5, none, [], 0) := rfl
set_option maxRecDepth 20000 in
set_option maxHeartbeats 1000000 in
theorem e_Mo_cover (a0 : Nat) (h : ixH) : ix_D mMo_cover 0 [some (.ref a0)] [] h = (ix_M mMo_wholeCover [.ref a0] h).bind fun r => ix_kI r fun v2 h1 => some ([.int v2], h1) := by
  refine ix_K_px kq_Mo_cover i_Mo_cover_0 rfl rfl ?_
  refine ix_K_callI (as := [.ref a0]) (rest := []) kq_Mo_cover i_Mo_cover_1 rfl kq_Mo_wholeCover (by decide) rfl (Or.inl rfl) (fun v2 h1 => ?_)
  exact ix_D_ret kq_Mo_cover i_Mo_cover_4 (ix_rtI rfl _)
theorem x_Mo_cover {a0 : Nat} {h h1 : ixH} {v : Int32} (hr : ix_rc h a0 = some 11) (hd : ix_D mMo_cover 0 [some (.ref a0)] [] h = some ([.int v], h1)) : ix_M mMo_cover [.ref a0] h = some ([.int v], h1) := ix_M_of (ix_ent_i kq_Mo_cover rfl hr rfl (Nat.le_of_ble_eq_true rfl) rfl) hd (ix_okrI (Or.inl rfl) v)
theorem i_Mo_wholeCover_0 : ix_nx mMo_wholeCover 0 = some (0, .aload_n 0, 1, none, [], 0) := rfl
theorem i_Mo_wholeCover_1 : ix_nx mMo_wholeCover 1 = some (3, .invokevirtual 230, 4, none, [0, 199, 210], 0) := rfl
theorem i_Mo_wholeCover_4 : ix_nx mMo_wholeCover 4 = some (0, .iconst 0, 5, none, [], 0) := rfl
theorem i_Mo_wholeCover_5 : ix_nx mMo_wholeCover 5 = some (0, .istore_n 1, 6, none, [], 0) := rfl
theorem i_Mo_wholeCover_6 : ix_nx mMo_wholeCover 6 = some (0, .iload_n 1, 7, some [true, true], [], 0) := rfl
theorem i_Mo_wholeCover_7 : ix_nx mMo_wholeCover 7 = some (0, .aload_n 0, 8, none, [], 0) := rfl
theorem i_Mo_wholeCover_8 : ix_nx mMo_wholeCover 8 = some (1, .getfield 221, 11, none, [11, 20, 0, 110], 0) := rfl
theorem i_Mo_wholeCover_11 : ix_nx mMo_wholeCover 11 = some (0, .if_icmp .ge 16, 14, none, [], 0) := rfl
theorem i_Mo_wholeCover_14 : ix_nx mMo_wholeCover 14 = some (0, .aload_n 0, 15, none, [], 0) := rfl
theorem i_Mo_wholeCover_15 : ix_nx mMo_wholeCover 15 = some (1, .getfield 66, 18, none, [11, 22, 2, 112], 0) := rfl
theorem i_Mo_wholeCover_18 : ix_nx mMo_wholeCover 18 = some (0, .iload_n 1, 19, none, [], 0) := rfl
theorem i_Mo_wholeCover_19 : ix_nx mMo_wholeCover 19 = some (0, .iconst 1, 20, none, [], 0) := rfl
theorem i_Mo_wholeCover_20 : ix_nx mMo_wholeCover 20 = some (2, .bastore, 21, none, [], 0) := rfl
theorem i_Mo_wholeCover_21 : ix_nx mMo_wholeCover 21 = some (0, .iinc 1 1, 24, none, [], 0) := rfl
theorem i_Mo_wholeCover_24 : ix_nx mMo_wholeCover 24 = some (0, .goto (-18), 27, none, [], 0) := rfl
theorem i_Mo_wholeCover_27 : ix_nx mMo_wholeCover 27 = some (0, .aload_n 0, 28, none, [], 0) := rfl
theorem i_Mo_wholeCover_28 : ix_nx mMo_wholeCover 28 = some (3, .invokevirtual 233, 31, none, [0, 200, 211], 0) := rfl
theorem i_Mo_wholeCover_31 : ix_nx mMo_wholeCover 31 = some (4, .ireturn, 32, none, [], 0) := rfl
noncomputable def l_Mo_wholeCover_6 (a0 : Nat) (x1 : Int32) (h : ixH) : Option (List Value × ixH) := ix_D mMo_wholeCover 6 [some (.ref a0), some (.int x1)] [] h
set_option maxRecDepth 20000 in
set_option maxHeartbeats 1000000 in
theorem e_Mo_wholeCover_6 (a0 : Nat) (x1 : Int32) (h : ixH) : l_Mo_wholeCover_6 a0 x1 h = (ix_gi h a0 11 20).bind fun v1 => if v1 ≤ x1 then (ix_M mMo_widest [.ref a0] h).bind fun r => ix_kI r fun v3 h2 => some ([.int v3], h2) else (ix_gr h a0 11 22).bind fun v4 => (ix_sz h v4 x1 1).bind fun h5 => l_Mo_wholeCover_6 a0 (x1 + 1) h5 := by
  unfold l_Mo_wholeCover_6
  refine ix_K_px kq_Mo_wholeCover i_Mo_wholeCover_6 rfl rfl ?_
  refine ix_K_px kq_Mo_wholeCover i_Mo_wholeCover_7 rfl rfl ?_
  refine ix_K_gi kq_Mo_wholeCover i_Mo_wholeCover_8 rfl (fun v1 => ?_)
  refine ix_K_ic_ge (tgt := 27) kq_Mo_wholeCover i_Mo_wholeCover_11 rfl (by decide) ?_ ?_
  · refine ix_K_px kq_Mo_wholeCover i_Mo_wholeCover_27 rfl rfl ?_
    refine ix_K_callI (as := [.ref a0]) (rest := []) kq_Mo_wholeCover i_Mo_wholeCover_28 rfl kq_Mo_widest (by decide) rfl (Or.inl rfl) (fun v3 h2 => ?_)
    exact ix_D_ret kq_Mo_wholeCover i_Mo_wholeCover_31 (ix_rtI rfl _)
  · refine ix_K_px kq_Mo_wholeCover i_Mo_wholeCover_14 rfl rfl ?_
    refine ix_K_gr kq_Mo_wholeCover i_Mo_wholeCover_15 rfl (fun v4 => ?_)
    refine ix_K_px kq_Mo_wholeCover i_Mo_wholeCover_18 rfl rfl ?_
    refine ix_K_ci kq_Mo_wholeCover i_Mo_wholeCover_19 rfl kci_1 ?_
    refine ix_K_tz kq_Mo_wholeCover i_Mo_wholeCover_20 rfl (fun h5 => ?_)
    refine ix_K_inc (L2 := [some (.ref a0), some (.int (x1 + 1))]) kq_Mo_wholeCover i_Mo_wholeCover_21 rfl rfl (Nat.le_of_ble_eq_true rfl) kci_1 rfl ?_
    refine ix_K_goto (tgt := 6) kq_Mo_wholeCover i_Mo_wholeCover_24 rfl (by decide) ?_
    exact ix_D_cut i_Mo_wholeCover_6 rfl
set_option maxRecDepth 20000 in
set_option maxHeartbeats 1000000 in
theorem e_Mo_wholeCover (a0 : Nat) (h : ixH) : ix_D mMo_wholeCover 0 [some (.ref a0), none] [] h = (ix_M mMo_layMarked [.ref a0] h).bind fun r => ix_kV r fun h1 => l_Mo_wholeCover_6 a0 0 h1 := by
  refine ix_K_px kq_Mo_wholeCover i_Mo_wholeCover_0 rfl rfl ?_
  refine ix_K_callV (as := [.ref a0]) (rest := []) kq_Mo_wholeCover i_Mo_wholeCover_1 rfl kq_Mo_layMarked (by decide) rfl rfl (fun h1 => ?_)
  refine ix_K_ci kq_Mo_wholeCover i_Mo_wholeCover_4 rfl kci_0 ?_
  refine ix_K_si (L2 := [some (.ref a0), some (.int 0)]) kq_Mo_wholeCover i_Mo_wholeCover_5 rfl (Or.inr ⟨_, rfl, rfl⟩) (Nat.le_of_ble_eq_true rfl) rfl ?_
  exact ix_D_cut i_Mo_wholeCover_6 rfl
theorem x_Mo_wholeCover {a0 : Nat} {h h1 : ixH} {v : Int32} (hr : ix_rc h a0 = some 11) (hd : ix_D mMo_wholeCover 0 [some (.ref a0), none] [] h = some ([.int v], h1)) : ix_M mMo_wholeCover [.ref a0] h = some ([.int v], h1) := ix_M_of (ix_ent_i kq_Mo_wholeCover rfl hr rfl (Nat.le_of_ble_eq_true rfl) rfl) hd (ix_okrI (Or.inl rfl) v)
theorem i_Mo_layMarked_0 : ix_nx mMo_layMarked 0 = some (0, .aload_n 0, 1, none, [], 0) := rfl
theorem i_Mo_layMarked_1 : ix_nx mMo_layMarked 1 = some (0, .iconst 0, 2, none, [], 0) := rfl
theorem i_Mo_layMarked_2 : ix_nx mMo_layMarked 2 = some (2, .putfield 221, 5, none, [11, 20, 0, 110], 0) := rfl
theorem i_Mo_layMarked_5 : ix_nx mMo_layMarked 5 = some (0, .iconst 0, 6, none, [], 0) := rfl
theorem i_Mo_layMarked_6 : ix_nx mMo_layMarked 6 = some (0, .istore_n 1, 7, none, [], 0) := rfl
theorem i_Mo_layMarked_7 : ix_nx mMo_layMarked 7 = some (0, .iload_n 1, 8, some [true, true, false], [], 0) := rfl
theorem i_Mo_layMarked_8 : ix_nx mMo_layMarked 8 = some (0, .aload_n 0, 9, none, [], 0) := rfl
theorem i_Mo_layMarked_9 : ix_nx mMo_layMarked 9 = some (3, .invokevirtual 94, 12, none, [0, 149, 175], 0) := rfl
theorem i_Mo_layMarked_12 : ix_nx mMo_layMarked 12 = some (0, .if_icmp .ge 38, 15, none, [], 0) := rfl
theorem i_Mo_layMarked_15 : ix_nx mMo_layMarked 15 = some (0, .aload_n 0, 16, none, [], 0) := rfl
theorem i_Mo_layMarked_16 : ix_nx mMo_layMarked 16 = some (0, .iload_n 1, 17, none, [], 0) := rfl
theorem i_Mo_layMarked_17 : ix_nx mMo_layMarked 17 = some (0, .iconst 3, 18, none, [], 0) := rfl
theorem i_Mo_layMarked_18 : ix_nx mMo_layMarked 18 = some (3, .invokevirtual 175, 21, none, [0, 183, 198], 0) := rfl
theorem i_Mo_layMarked_21 : ix_nx mMo_layMarked 21 = some (0, .ifCond .eq 23, 24, none, [], 0) := rfl
theorem i_Mo_layMarked_24 : ix_nx mMo_layMarked 24 = some (0, .aload_n 0, 25, none, [], 0) := rfl
theorem i_Mo_layMarked_25 : ix_nx mMo_layMarked 25 = some (1, .getfield 60, 28, none, [11, 19, 2, 109], 0) := rfl
theorem i_Mo_layMarked_28 : ix_nx mMo_layMarked 28 = some (0, .aload_n 0, 29, none, [], 0) := rfl
theorem i_Mo_layMarked_29 : ix_nx mMo_layMarked 29 = some (1, .getfield 221, 32, none, [11, 20, 0, 110], 0) := rfl
theorem i_Mo_layMarked_32 : ix_nx mMo_layMarked 32 = some (0, .iload_n 1, 33, none, [], 0) := rfl
theorem i_Mo_layMarked_33 : ix_nx mMo_layMarked 33 = some (2, .iastore, 34, none, [], 0) := rfl
theorem i_Mo_layMarked_34 : ix_nx mMo_layMarked 34 = some (0, .aload_n 0, 35, none, [], 0) := rfl
theorem i_Mo_layMarked_35 : ix_nx mMo_layMarked 35 = some (0, .dup, 36, none, [], 0) := rfl
theorem i_Mo_layMarked_36 : ix_nx mMo_layMarked 36 = some (1, .getfield 221, 39, none, [11, 20, 0, 110], 0) := rfl
theorem i_Mo_layMarked_39 : ix_nx mMo_layMarked 39 = some (0, .iconst 1, 40, none, [], 0) := rfl
theorem i_Mo_layMarked_40 : ix_nx mMo_layMarked 40 = some (0, .iadd, 41, none, [], 0) := rfl
theorem i_Mo_layMarked_41 : ix_nx mMo_layMarked 41 = some (2, .putfield 221, 44, none, [11, 20, 0, 110], 0) := rfl
theorem i_Mo_layMarked_44 : ix_nx mMo_layMarked 44 = some (0, .iinc 1 1, 47, none, [], 0) := rfl
theorem i_Mo_layMarked_47 : ix_nx mMo_layMarked 47 = some (0, .goto (-40), 50, none, [], 0) := rfl
theorem i_Mo_layMarked_50 : ix_nx mMo_layMarked 50 = some (0, .iconst 0, 51, none, [], 0) := rfl
theorem i_Mo_layMarked_51 : ix_nx mMo_layMarked 51 = some (0, .istore_n 1, 52, none, [], 0) := rfl
theorem i_Mo_layMarked_52 : ix_nx mMo_layMarked 52 = some (0, .iload_n 1, 53, some [true, true, false], [], 0) := rfl
theorem i_Mo_layMarked_53 : ix_nx mMo_layMarked 53 = some (0, .aload_n 0, 54, none, [], 0) := rfl
theorem i_Mo_layMarked_54 : ix_nx mMo_layMarked 54 = some (1, .getfield 221, 57, none, [11, 20, 0, 110], 0) := rfl
theorem i_Mo_layMarked_57 : ix_nx mMo_layMarked 57 = some (0, .if_icmp .ge 72, 60, none, [], 0) := rfl
theorem i_Mo_layMarked_60 : ix_nx mMo_layMarked 60 = some (0, .aload_n 0, 61, none, [], 0) := rfl
theorem i_Mo_layMarked_61 : ix_nx mMo_layMarked 61 = some (0, .aload_n 0, 62, none, [], 0) := rfl
theorem i_Mo_layMarked_62 : ix_nx mMo_layMarked 62 = some (1, .getfield 60, 65, none, [11, 19, 2, 109], 0) := rfl
theorem i_Mo_layMarked_65 : ix_nx mMo_layMarked 65 = some (0, .iload_n 1, 66, none, [], 0) := rfl
theorem i_Mo_layMarked_66 : ix_nx mMo_layMarked 66 = some (1, .iaload, 67, none, [], 0) := rfl
theorem i_Mo_layMarked_67 : ix_nx mMo_layMarked 67 = some (3, .invokevirtual 132, 70, none, [0, 159, 180], 0) := rfl
theorem i_Mo_layMarked_70 : ix_nx mMo_layMarked 70 = some (0, .iconst 0, 71, none, [], 0) := rfl
theorem i_Mo_layMarked_71 : ix_nx mMo_layMarked 71 = some (0, .istore_n 2, 72, none, [], 0) := rfl
theorem i_Mo_layMarked_72 : ix_nx mMo_layMarked 72 = some (0, .iload_n 2, 73, some [true, true, true], [], 0) := rfl
theorem i_Mo_layMarked_73 : ix_nx mMo_layMarked 73 = some (0, .aload_n 0, 74, none, [], 0) := rfl
theorem i_Mo_layMarked_74 : ix_nx mMo_layMarked 74 = some (1, .getfield 221, 77, none, [11, 20, 0, 110], 0) := rfl
theorem i_Mo_layMarked_77 : ix_nx mMo_layMarked 77 = some (0, .if_icmp .ge 46, 80, none, [], 0) := rfl
theorem i_Mo_layMarked_80 : ix_nx mMo_layMarked 80 = some (0, .aload_n 0, 81, none, [], 0) := rfl
theorem i_Mo_layMarked_81 : ix_nx mMo_layMarked 81 = some (1, .getfield 63, 84, none, [11, 21, 2, 111], 0) := rfl
theorem i_Mo_layMarked_84 : ix_nx mMo_layMarked 84 = some (0, .bipush 64, 86, none, [], 0) := rfl
theorem i_Mo_layMarked_86 : ix_nx mMo_layMarked 86 = some (0, .iload_n 1, 87, none, [], 0) := rfl
theorem i_Mo_layMarked_87 : ix_nx mMo_layMarked 87 = some (0, .imul, 88, none, [], 0) := rfl
theorem i_Mo_layMarked_88 : ix_nx mMo_layMarked 88 = some (0, .iload_n 2, 89, none, [], 0) := rfl
theorem i_Mo_layMarked_89 : ix_nx mMo_layMarked 89 = some (0, .iadd, 90, none, [], 0) := rfl
theorem i_Mo_layMarked_90 : ix_nx mMo_layMarked 90 = some (0, .iload_n 1, 91, none, [], 0) := rfl
theorem i_Mo_layMarked_91 : ix_nx mMo_layMarked 91 = some (0, .iload_n 2, 92, none, [], 0) := rfl
theorem i_Mo_layMarked_92 : ix_nx mMo_layMarked 92 = some (0, .if_icmp .eq 23, 95, none, [], 0) := rfl
theorem i_Mo_layMarked_95 : ix_nx mMo_layMarked 95 = some (0, .aload_n 0, 96, none, [], 0) := rfl
theorem i_Mo_layMarked_96 : ix_nx mMo_layMarked 96 = some (1, .getfield 20, 99, none, [11, 3, 2, 93], 0) := rfl
theorem i_Mo_layMarked_99 : ix_nx mMo_layMarked 99 = some (0, .aload_n 0, 100, none, [], 0) := rfl
theorem i_Mo_layMarked_100 : ix_nx mMo_layMarked 100 = some (1, .getfield 60, 103, none, [11, 19, 2, 109], 0) := rfl
theorem i_Mo_layMarked_103 : ix_nx mMo_layMarked 103 = some (0, .iload_n 2, 104, none, [], 0) := rfl
theorem i_Mo_layMarked_104 : ix_nx mMo_layMarked 104 = some (1, .iaload, 105, none, [], 0) := rfl
theorem i_Mo_layMarked_105 : ix_nx mMo_layMarked 105 = some (1, .laload, 106, none, [], 0) := rfl
theorem i_Mo_layMarked_106 : ix_nx mMo_layMarked 106 = some (0, .lconst 0, 107, none, [], 0) := rfl
theorem i_Mo_layMarked_107 : ix_nx mMo_layMarked 107 = some (0, .lcmp, 108, none, [], 0) := rfl
theorem i_Mo_layMarked_108 : ix_nx mMo_layMarked 108 = some (0, .ifCond .le 7, 111, none, [], 0) := rfl
theorem i_Mo_layMarked_111 : ix_nx mMo_layMarked 111 = some (0, .iconst 1, 112, none, [], 0) := rfl
theorem i_Mo_layMarked_112 : ix_nx mMo_layMarked 112 = some (0, .goto 4, 115, none, [], 0) := rfl
theorem i_Mo_layMarked_115 : ix_nx mMo_layMarked 115 = some (0, .iconst 0, 116, none, [], 0) := rfl
theorem i_Mo_layMarked_116 : ix_nx mMo_layMarked 116 = some (2, .bastore, 117, none, [], 0) := rfl
theorem i_Mo_layMarked_117 : ix_nx mMo_layMarked 117 = some (0, .iinc 2 1, 120, none, [], 0) := rfl
theorem i_Mo_layMarked_120 : ix_nx mMo_layMarked 120 = some (0, .goto (-48), 123, none, [], 0) := rfl
theorem i_Mo_layMarked_123 : ix_nx mMo_layMarked 123 = some (0, .iinc 1 1, 126, none, [], 0) := rfl
theorem i_Mo_layMarked_126 : ix_nx mMo_layMarked 126 = some (0, .goto (-74), 129, none, [], 0) := rfl
theorem i_Mo_layMarked_129 : ix_nx mMo_layMarked 129 = some (4, .return_, 130, none, [], 0) := rfl
noncomputable def l_Mo_layMarked_7 (a0 : Nat) (x1 : Int32) (h : ixH) : Option (List Value × ixH) := ix_D mMo_layMarked 7 [some (.ref a0), some (.int x1), none] [] h
noncomputable def l_Mo_layMarked_52 (a0 : Nat) (x1 : Int32) (h : ixH) : Option (List Value × ixH) := ix_D mMo_layMarked 52 [some (.ref a0), some (.int x1), none] [] h
noncomputable def l_Mo_layMarked_72 (a0 : Nat) (x1 : Int32) (x2 : Int32) (h : ixH) : Option (List Value × ixH) := ix_D mMo_layMarked 72 [some (.ref a0), some (.int x1), some (.int x2)] [] h
set_option maxRecDepth 20000 in
set_option maxHeartbeats 1000000 in
theorem e_Mo_layMarked_7 (a0 : Nat) (x1 : Int32) (h : ixH) : l_Mo_layMarked_7 a0 x1 h = (ix_M mMo_cells [.ref a0] h).bind fun r => ix_kI r fun v2 h1 => if v2 ≤ x1 then l_Mo_layMarked_52 a0 0 h1 else (ix_M mMo_has [.ref a0, .int x1, .int 3] h1).bind fun r => ix_kZ r fun v4 h3 => if v4 = true then (ix_gr h3 a0 11 19).bind fun v5 => (ix_gi h3 a0 11 20).bind fun v6 => (ix_si h3 v5 v6 x1).bind fun h7 => (ix_gi h7 a0 11 20).bind fun v8 => (ix_pf h7 a0 11 20 (.int (v8 + 1))).bind fun h9 => l_Mo_layMarked_7 a0 (x1 + 1) h9 else l_Mo_layMarked_7 a0 (x1 + 1) h3 := by
  unfold l_Mo_layMarked_7
  refine ix_K_px kq_Mo_layMarked i_Mo_layMarked_7 rfl rfl ?_
  refine ix_K_px kq_Mo_layMarked i_Mo_layMarked_8 rfl rfl ?_
  refine ix_K_callI (as := [.ref a0]) (rest := [.int x1]) kq_Mo_layMarked i_Mo_layMarked_9 rfl kq_Mo_cells (by decide) rfl (Or.inl rfl) (fun v2 h1 => ?_)
  refine ix_K_ic_ge (tgt := 50) kq_Mo_layMarked i_Mo_layMarked_12 rfl (by decide) ?_ ?_
  · refine ix_K_ci kq_Mo_layMarked i_Mo_layMarked_50 rfl kci_0 ?_
    refine ix_K_si (L2 := [some (.ref a0), some (.int 0), none]) kq_Mo_layMarked i_Mo_layMarked_51 rfl (Or.inr ⟨_, rfl, rfl⟩) (Nat.le_of_ble_eq_true rfl) rfl ?_
    exact ix_D_cut i_Mo_layMarked_52 rfl
  · refine ix_K_px kq_Mo_layMarked i_Mo_layMarked_15 rfl rfl ?_
    refine ix_K_px kq_Mo_layMarked i_Mo_layMarked_16 rfl rfl ?_
    refine ix_K_ci kq_Mo_layMarked i_Mo_layMarked_17 rfl kci_3 ?_
    refine ix_K_callZ (as := [.ref a0, .int x1, .int 3]) (rest := []) kq_Mo_layMarked i_Mo_layMarked_18 rfl kq_Mo_has (by decide) rfl rfl (fun v4 h3 => ?_)
    refine ix_K_bz_eq (tgt := 44) kq_Mo_layMarked i_Mo_layMarked_21 rfl (by decide) ?_ ?_
    · refine ix_K_px kq_Mo_layMarked i_Mo_layMarked_24 rfl rfl ?_
      refine ix_K_gr kq_Mo_layMarked i_Mo_layMarked_25 rfl (fun v5 => ?_)
      refine ix_K_px kq_Mo_layMarked i_Mo_layMarked_28 rfl rfl ?_
      refine ix_K_gi kq_Mo_layMarked i_Mo_layMarked_29 rfl (fun v6 => ?_)
      refine ix_K_px kq_Mo_layMarked i_Mo_layMarked_32 rfl rfl ?_
      refine ix_K_ti kq_Mo_layMarked i_Mo_layMarked_33 rfl (fun h7 => ?_)
      refine ix_K_px kq_Mo_layMarked i_Mo_layMarked_34 rfl rfl ?_
      refine ix_K_px kq_Mo_layMarked i_Mo_layMarked_35 rfl rfl ?_
      refine ix_K_gi kq_Mo_layMarked i_Mo_layMarked_36 rfl (fun v8 => ?_)
      refine ix_K_ci kq_Mo_layMarked i_Mo_layMarked_39 rfl kci_1 ?_
      refine ix_K_px kq_Mo_layMarked i_Mo_layMarked_40 rfl rfl ?_
      refine ix_K_pf kq_Mo_layMarked i_Mo_layMarked_41 rfl rfl (fun h9 => ?_)
      refine ix_K_inc (L2 := [some (.ref a0), some (.int (x1 + 1)), none]) kq_Mo_layMarked i_Mo_layMarked_44 rfl rfl (Nat.le_of_ble_eq_true rfl) kci_1 rfl ?_
      refine ix_K_goto (tgt := 7) kq_Mo_layMarked i_Mo_layMarked_47 rfl (by decide) ?_
      exact ix_D_cut i_Mo_layMarked_7 rfl
    · refine ix_K_inc (L2 := [some (.ref a0), some (.int (x1 + 1)), none]) kq_Mo_layMarked i_Mo_layMarked_44 rfl rfl (Nat.le_of_ble_eq_true rfl) kci_1 rfl ?_
      refine ix_K_goto (tgt := 7) kq_Mo_layMarked i_Mo_layMarked_47 rfl (by decide) ?_
      exact ix_D_cut i_Mo_layMarked_7 rfl
set_option maxRecDepth 20000 in
set_option maxHeartbeats 1000000 in
theorem e_Mo_layMarked_52 (a0 : Nat) (x1 : Int32) (h : ixH) : l_Mo_layMarked_52 a0 x1 h = (ix_gi h a0 11 20).bind fun v1 => if v1 ≤ x1 then some ([], h) else (ix_gr h a0 11 19).bind fun v2 => (ix_ai h v2 x1).bind fun v3 => (ix_M mMo_layFalls [.ref a0, .int v3] h).bind fun r => ix_kV r fun h4 => l_Mo_layMarked_72 a0 x1 0 h4 := by
  unfold l_Mo_layMarked_52
  refine ix_K_px kq_Mo_layMarked i_Mo_layMarked_52 rfl rfl ?_
  refine ix_K_px kq_Mo_layMarked i_Mo_layMarked_53 rfl rfl ?_
  refine ix_K_gi kq_Mo_layMarked i_Mo_layMarked_54 rfl (fun v1 => ?_)
  refine ix_K_ic_ge (tgt := 129) kq_Mo_layMarked i_Mo_layMarked_57 rfl (by decide) ?_ ?_
  · exact ix_D_ret kq_Mo_layMarked i_Mo_layMarked_129 (ix_rtV rfl)
  · refine ix_K_px kq_Mo_layMarked i_Mo_layMarked_60 rfl rfl ?_
    refine ix_K_px kq_Mo_layMarked i_Mo_layMarked_61 rfl rfl ?_
    refine ix_K_gr kq_Mo_layMarked i_Mo_layMarked_62 rfl (fun v2 => ?_)
    refine ix_K_px kq_Mo_layMarked i_Mo_layMarked_65 rfl rfl ?_
    refine ix_K_ai kq_Mo_layMarked i_Mo_layMarked_66 rfl (fun v3 => ?_)
    refine ix_K_callV (as := [.ref a0, .int v3]) (rest := []) kq_Mo_layMarked i_Mo_layMarked_67 rfl kq_Mo_layFalls (by decide) rfl rfl (fun h4 => ?_)
    refine ix_K_ci kq_Mo_layMarked i_Mo_layMarked_70 rfl kci_0 ?_
    refine ix_K_si (L2 := [some (.ref a0), some (.int x1), some (.int 0)]) kq_Mo_layMarked i_Mo_layMarked_71 rfl (Or.inr ⟨_, rfl, rfl⟩) (Nat.le_of_ble_eq_true rfl) rfl ?_
    exact ix_D_cut i_Mo_layMarked_72 rfl
set_option maxRecDepth 20000 in
set_option maxHeartbeats 1000000 in
theorem e_Mo_layMarked_72 (a0 : Nat) (x1 : Int32) (x2 : Int32) (h : ixH) : l_Mo_layMarked_72 a0 x1 x2 h = (ix_gi h a0 11 20).bind fun v1 => if v1 ≤ x2 then l_Mo_layMarked_52 a0 (x1 + 1) h else (ix_gr h a0 11 21).bind fun v2 => if x1 = x2 then (ix_sz h v2 ((64 * x1) + x2) 0).bind fun h3 => l_Mo_layMarked_72 a0 x1 (x2 + 1) h3 else (ix_gr h a0 11 3).bind fun v4 => (ix_gr h a0 11 19).bind fun v5 => (ix_ai h v5 x2).bind fun v6 => (ix_al h v4 v6).bind fun v7 => if v7 ≤ 0 then (ix_sz h v2 ((64 * x1) + x2) 0).bind fun h8 => l_Mo_layMarked_72 a0 x1 (x2 + 1) h8 else (ix_sz h v2 ((64 * x1) + x2) 1).bind fun h9 => l_Mo_layMarked_72 a0 x1 (x2 + 1) h9 := by
  unfold l_Mo_layMarked_72
  refine ix_K_px kq_Mo_layMarked i_Mo_layMarked_72 rfl rfl ?_
  refine ix_K_px kq_Mo_layMarked i_Mo_layMarked_73 rfl rfl ?_
  refine ix_K_gi kq_Mo_layMarked i_Mo_layMarked_74 rfl (fun v1 => ?_)
  refine ix_K_ic_ge (tgt := 123) kq_Mo_layMarked i_Mo_layMarked_77 rfl (by decide) ?_ ?_
  · refine ix_K_inc (L2 := [some (.ref a0), some (.int (x1 + 1)), some (.int x2)]) kq_Mo_layMarked i_Mo_layMarked_123 rfl rfl (Nat.le_of_ble_eq_true rfl) kci_1 rfl ?_
    refine ix_K_goto (tgt := 52) kq_Mo_layMarked i_Mo_layMarked_126 rfl (by decide) ?_
    exact ix_D_cut i_Mo_layMarked_52 rfl
  · refine ix_K_px kq_Mo_layMarked i_Mo_layMarked_80 rfl rfl ?_
    refine ix_K_gr kq_Mo_layMarked i_Mo_layMarked_81 rfl (fun v2 => ?_)
    refine ix_K_cb kq_Mo_layMarked i_Mo_layMarked_84 rfl kcb_64 ?_
    refine ix_K_px kq_Mo_layMarked i_Mo_layMarked_86 rfl rfl ?_
    refine ix_K_px kq_Mo_layMarked i_Mo_layMarked_87 rfl rfl ?_
    refine ix_K_px kq_Mo_layMarked i_Mo_layMarked_88 rfl rfl ?_
    refine ix_K_px kq_Mo_layMarked i_Mo_layMarked_89 rfl rfl ?_
    refine ix_K_px kq_Mo_layMarked i_Mo_layMarked_90 rfl rfl ?_
    refine ix_K_px kq_Mo_layMarked i_Mo_layMarked_91 rfl rfl ?_
    refine ix_K_ic_eq (tgt := 115) kq_Mo_layMarked i_Mo_layMarked_92 rfl (by decide) ?_ ?_
    · refine ix_K_ci kq_Mo_layMarked i_Mo_layMarked_115 rfl kci_0 ?_
      refine ix_K_tz kq_Mo_layMarked i_Mo_layMarked_116 rfl (fun h3 => ?_)
      refine ix_K_inc (L2 := [some (.ref a0), some (.int x1), some (.int (x2 + 1))]) kq_Mo_layMarked i_Mo_layMarked_117 rfl rfl (Nat.le_of_ble_eq_true rfl) kci_1 rfl ?_
      refine ix_K_goto (tgt := 72) kq_Mo_layMarked i_Mo_layMarked_120 rfl (by decide) ?_
      exact ix_D_cut i_Mo_layMarked_72 rfl
    · refine ix_K_px kq_Mo_layMarked i_Mo_layMarked_95 rfl rfl ?_
      refine ix_K_gr kq_Mo_layMarked i_Mo_layMarked_96 rfl (fun v4 => ?_)
      refine ix_K_px kq_Mo_layMarked i_Mo_layMarked_99 rfl rfl ?_
      refine ix_K_gr kq_Mo_layMarked i_Mo_layMarked_100 rfl (fun v5 => ?_)
      refine ix_K_px kq_Mo_layMarked i_Mo_layMarked_103 rfl rfl ?_
      refine ix_K_ai kq_Mo_layMarked i_Mo_layMarked_104 rfl (fun v6 => ?_)
      refine ix_K_al kq_Mo_layMarked i_Mo_layMarked_105 rfl (fun v7 => ?_)
      refine ix_K_cl kq_Mo_layMarked i_Mo_layMarked_106 rfl kcl_0 ?_
      refine ix_K_px kq_Mo_layMarked i_Mo_layMarked_107 rfl rfl ?_
      refine ix_K_lc_le (tgt := 115) kq_Mo_layMarked i_Mo_layMarked_108 rfl (by decide) ?_ ?_
      · refine ix_K_ci kq_Mo_layMarked i_Mo_layMarked_115 rfl kci_0 ?_
        refine ix_K_tz kq_Mo_layMarked i_Mo_layMarked_116 rfl (fun h8 => ?_)
        refine ix_K_inc (L2 := [some (.ref a0), some (.int x1), some (.int (x2 + 1))]) kq_Mo_layMarked i_Mo_layMarked_117 rfl rfl (Nat.le_of_ble_eq_true rfl) kci_1 rfl ?_
        refine ix_K_goto (tgt := 72) kq_Mo_layMarked i_Mo_layMarked_120 rfl (by decide) ?_
        exact ix_D_cut i_Mo_layMarked_72 rfl
      · refine ix_K_ci kq_Mo_layMarked i_Mo_layMarked_111 rfl kci_1 ?_
        refine ix_K_goto (tgt := 116) kq_Mo_layMarked i_Mo_layMarked_112 rfl (by decide) ?_
        refine ix_K_tz kq_Mo_layMarked i_Mo_layMarked_116 rfl (fun h9 => ?_)
        refine ix_K_inc (L2 := [some (.ref a0), some (.int x1), some (.int (x2 + 1))]) kq_Mo_layMarked i_Mo_layMarked_117 rfl rfl (Nat.le_of_ble_eq_true rfl) kci_1 rfl ?_
        refine ix_K_goto (tgt := 72) kq_Mo_layMarked i_Mo_layMarked_120 rfl (by decide) ?_
        exact ix_D_cut i_Mo_layMarked_72 rfl
set_option maxRecDepth 20000 in
set_option maxHeartbeats 1000000 in
theorem e_Mo_layMarked (a0 : Nat) (h : ixH) : ix_D mMo_layMarked 0 [some (.ref a0), none, none] [] h = (ix_pf h a0 11 20 (.int 0)).bind fun h1 => l_Mo_layMarked_7 a0 0 h1 := by
  refine ix_K_px kq_Mo_layMarked i_Mo_layMarked_0 rfl rfl ?_
  refine ix_K_ci kq_Mo_layMarked i_Mo_layMarked_1 rfl kci_0 ?_
  refine ix_K_pf kq_Mo_layMarked i_Mo_layMarked_2 rfl rfl (fun h1 => ?_)
  refine ix_K_ci kq_Mo_layMarked i_Mo_layMarked_5 rfl kci_0 ?_
  refine ix_K_si (L2 := [some (.ref a0), some (.int 0), none]) kq_Mo_layMarked i_Mo_layMarked_6 rfl (Or.inr ⟨_, rfl, rfl⟩) (Nat.le_of_ble_eq_true rfl) rfl ?_
  exact ix_D_cut i_Mo_layMarked_7 rfl
theorem x_Mo_layMarked {a0 : Nat} {h h1 : ixH} (hr : ix_rc h a0 = some 11) (hd : ix_D mMo_layMarked 0 [some (.ref a0), none, none] [] h = some ([], h1)) : ix_M mMo_layMarked [.ref a0] h = some ([], h1) := ix_M_of (ix_ent_i kq_Mo_layMarked rfl hr rfl (Nat.le_of_ble_eq_true rfl) rfl) hd (ix_okrV rfl)
theorem i_Mo_widest_0 : ix_nx mMo_widest 0 = some (0, .iconst 0, 1, none, [], 0) := rfl
theorem i_Mo_widest_1 : ix_nx mMo_widest 1 = some (0, .istore_n 1, 2, none, [], 0) := rfl
theorem i_Mo_widest_2 : ix_nx mMo_widest 2 = some (0, .iconst 0, 3, none, [], 0) := rfl
theorem i_Mo_widest_3 : ix_nx mMo_widest 3 = some (0, .istore_n 2, 4, none, [], 0) := rfl
theorem i_Mo_widest_4 : ix_nx mMo_widest 4 = some (0, .iload_n 2, 5, some [true, true, true], [], 0) := rfl
theorem i_Mo_widest_5 : ix_nx mMo_widest 5 = some (0, .aload_n 0, 6, none, [], 0) := rfl
theorem i_Mo_widest_6 : ix_nx mMo_widest 6 = some (1, .getfield 221, 9, none, [11, 20, 0, 110], 0) := rfl
theorem i_Mo_widest_9 : ix_nx mMo_widest 9 = some (0, .if_icmp .ge 42, 12, none, [], 0) := rfl
theorem i_Mo_widest_12 : ix_nx mMo_widest 12 = some (0, .aload_n 0, 13, none, [], 0) := rfl
theorem i_Mo_widest_13 : ix_nx mMo_widest 13 = some (1, .getfield 69, 16, none, [11, 23, 2, 113], 0) := rfl
theorem i_Mo_widest_16 : ix_nx mMo_widest 16 = some (0, .iload_n 2, 17, none, [], 0) := rfl
theorem i_Mo_widest_17 : ix_nx mMo_widest 17 = some (0, .bipush (-6), 19, none, [], 0) := rfl
theorem i_Mo_widest_19 : ix_nx mMo_widest 19 = some (2, .iastore, 20, none, [], 0) := rfl
theorem i_Mo_widest_20 : ix_nx mMo_widest 20 = some (0, .aload_n 0, 21, none, [], 0) := rfl
theorem i_Mo_widest_21 : ix_nx mMo_widest 21 = some (1, .getfield 72, 24, none, [11, 24, 2, 114], 0) := rfl
theorem i_Mo_widest_24 : ix_nx mMo_widest 24 = some (0, .iload_n 2, 25, none, [], 0) := rfl
theorem i_Mo_widest_25 : ix_nx mMo_widest 25 = some (0, .bipush (-6), 27, none, [], 0) := rfl
theorem i_Mo_widest_27 : ix_nx mMo_widest 27 = some (2, .iastore, 28, none, [], 0) := rfl
theorem i_Mo_widest_28 : ix_nx mMo_widest 28 = some (0, .iload_n 1, 29, none, [], 0) := rfl
theorem i_Mo_widest_29 : ix_nx mMo_widest 29 = some (0, .aload_n 0, 30, none, [], 0) := rfl
theorem i_Mo_widest_30 : ix_nx mMo_widest 30 = some (1, .getfield 66, 33, none, [11, 22, 2, 112], 0) := rfl
theorem i_Mo_widest_33 : ix_nx mMo_widest 33 = some (0, .iload_n 2, 34, none, [], 0) := rfl
theorem i_Mo_widest_34 : ix_nx mMo_widest 34 = some (1, .baload, 35, none, [2], 0) := rfl
theorem i_Mo_widest_35 : ix_nx mMo_widest 35 = some (0, .ifCond .eq 7, 38, none, [], 0) := rfl
theorem i_Mo_widest_38 : ix_nx mMo_widest 38 = some (0, .iconst 1, 39, none, [], 0) := rfl
theorem i_Mo_widest_39 : ix_nx mMo_widest 39 = some (0, .goto 4, 42, none, [], 0) := rfl
theorem i_Mo_widest_42 : ix_nx mMo_widest 42 = some (0, .iconst 0, 43, none, [], 0) := rfl
theorem i_Mo_widest_43 : ix_nx mMo_widest 43 = some (0, .iadd, 44, none, [], 0) := rfl
theorem i_Mo_widest_44 : ix_nx mMo_widest 44 = some (0, .istore_n 1, 45, none, [], 0) := rfl
theorem i_Mo_widest_45 : ix_nx mMo_widest 45 = some (0, .iinc 2 1, 48, none, [], 0) := rfl
theorem i_Mo_widest_48 : ix_nx mMo_widest 48 = some (0, .goto (-44), 51, none, [], 0) := rfl
theorem i_Mo_widest_51 : ix_nx mMo_widest 51 = some (0, .iconst 0, 52, none, [], 0) := rfl
theorem i_Mo_widest_52 : ix_nx mMo_widest 52 = some (0, .istore_n 2, 53, none, [], 0) := rfl
theorem i_Mo_widest_53 : ix_nx mMo_widest 53 = some (0, .iload_n 2, 54, some [true, true, true], [], 0) := rfl
theorem i_Mo_widest_54 : ix_nx mMo_widest 54 = some (0, .aload_n 0, 55, none, [], 0) := rfl
theorem i_Mo_widest_55 : ix_nx mMo_widest 55 = some (1, .getfield 221, 58, none, [11, 20, 0, 110], 0) := rfl
theorem i_Mo_widest_58 : ix_nx mMo_widest 58 = some (0, .if_icmp .ge 34, 61, none, [], 0) := rfl
theorem i_Mo_widest_61 : ix_nx mMo_widest 61 = some (0, .iload_n 1, 62, none, [], 0) := rfl
theorem i_Mo_widest_62 : ix_nx mMo_widest 62 = some (0, .aload_n 0, 63, none, [], 0) := rfl
theorem i_Mo_widest_63 : ix_nx mMo_widest 63 = some (1, .getfield 66, 66, none, [11, 22, 2, 112], 0) := rfl
theorem i_Mo_widest_66 : ix_nx mMo_widest 66 = some (0, .iload_n 2, 67, none, [], 0) := rfl
theorem i_Mo_widest_67 : ix_nx mMo_widest 67 = some (1, .baload, 68, none, [2], 0) := rfl
theorem i_Mo_widest_68 : ix_nx mMo_widest 68 = some (0, .ifCond .eq 15, 71, none, [], 0) := rfl
theorem i_Mo_widest_71 : ix_nx mMo_widest 71 = some (0, .aload_n 0, 72, none, [], 0) := rfl
theorem i_Mo_widest_72 : ix_nx mMo_widest 72 = some (0, .iload_n 2, 73, none, [], 0) := rfl
theorem i_Mo_widest_73 : ix_nx mMo_widest 73 = some (3, .invokevirtual 227, 76, none, [0, 201, 212], 0) := rfl
theorem i_Mo_widest_76 : ix_nx mMo_widest 76 = some (0, .ifCond .eq 7, 79, none, [], 0) := rfl
theorem i_Mo_widest_79 : ix_nx mMo_widest 79 = some (0, .iconst 1, 80, none, [], 0) := rfl
theorem i_Mo_widest_80 : ix_nx mMo_widest 80 = some (0, .goto 4, 83, none, [], 0) := rfl
theorem i_Mo_widest_83 : ix_nx mMo_widest 83 = some (0, .iconst 0, 84, none, [], 0) := rfl
theorem i_Mo_widest_84 : ix_nx mMo_widest 84 = some (0, .isub, 85, none, [], 0) := rfl
theorem i_Mo_widest_85 : ix_nx mMo_widest 85 = some (0, .istore_n 1, 86, none, [], 0) := rfl
theorem i_Mo_widest_86 : ix_nx mMo_widest 86 = some (0, .iinc 2 1, 89, none, [], 0) := rfl
theorem i_Mo_widest_89 : ix_nx mMo_widest 89 = some (0, .goto (-36), 92, none, [], 0) := rfl
theorem i_Mo_widest_92 : ix_nx mMo_widest 92 = some (0, .iload_n 1, 93, none, [], 0) := rfl
theorem i_Mo_widest_93 : ix_nx mMo_widest 93 = some (4, .ireturn, 94, none, [], 0) := rfl
noncomputable def l_Mo_widest_4 (a0 : Nat) (x1 : Int32) (x2 : Int32) (h : ixH) : Option (List Value × ixH) := ix_D mMo_widest 4 [some (.ref a0), some (.int x1), some (.int x2)] [] h
noncomputable def l_Mo_widest_53 (a0 : Nat) (x1 : Int32) (x2 : Int32) (h : ixH) : Option (List Value × ixH) := ix_D mMo_widest 53 [some (.ref a0), some (.int x1), some (.int x2)] [] h
set_option maxRecDepth 20000 in
set_option maxHeartbeats 1000000 in
theorem e_Mo_widest_4 (a0 : Nat) (x1 : Int32) (x2 : Int32) (h : ixH) : l_Mo_widest_4 a0 x1 x2 h = (ix_gi h a0 11 20).bind fun v1 => if v1 ≤ x2 then l_Mo_widest_53 a0 x1 0 h else (ix_gr h a0 11 23).bind fun v2 => (ix_si h v2 x2 (-6)).bind fun h3 => (ix_gr h3 a0 11 24).bind fun v4 => (ix_si h3 v4 x2 (-6)).bind fun h5 => (ix_gr h5 a0 11 22).bind fun v6 => (ix_az h5 v6 x2).bind fun v7 => if v7 = 0 then l_Mo_widest_4 a0 (x1 + 0) (x2 + 1) h5 else l_Mo_widest_4 a0 (x1 + 1) (x2 + 1) h5 := by
  unfold l_Mo_widest_4
  refine ix_K_px kq_Mo_widest i_Mo_widest_4 rfl rfl ?_
  refine ix_K_px kq_Mo_widest i_Mo_widest_5 rfl rfl ?_
  refine ix_K_gi kq_Mo_widest i_Mo_widest_6 rfl (fun v1 => ?_)
  refine ix_K_ic_ge (tgt := 51) kq_Mo_widest i_Mo_widest_9 rfl (by decide) ?_ ?_
  · refine ix_K_ci kq_Mo_widest i_Mo_widest_51 rfl kci_0 ?_
    refine ix_K_si (L2 := [some (.ref a0), some (.int x1), some (.int 0)]) kq_Mo_widest i_Mo_widest_52 rfl (Or.inr ⟨_, rfl, rfl⟩) (Nat.le_of_ble_eq_true rfl) rfl ?_
    exact ix_D_cut i_Mo_widest_53 rfl
  · refine ix_K_px kq_Mo_widest i_Mo_widest_12 rfl rfl ?_
    refine ix_K_gr kq_Mo_widest i_Mo_widest_13 rfl (fun v2 => ?_)
    refine ix_K_px kq_Mo_widest i_Mo_widest_16 rfl rfl ?_
    refine ix_K_cb kq_Mo_widest i_Mo_widest_17 rfl kcb_m6 ?_
    refine ix_K_ti kq_Mo_widest i_Mo_widest_19 rfl (fun h3 => ?_)
    refine ix_K_px kq_Mo_widest i_Mo_widest_20 rfl rfl ?_
    refine ix_K_gr kq_Mo_widest i_Mo_widest_21 rfl (fun v4 => ?_)
    refine ix_K_px kq_Mo_widest i_Mo_widest_24 rfl rfl ?_
    refine ix_K_cb kq_Mo_widest i_Mo_widest_25 rfl kcb_m6 ?_
    refine ix_K_ti kq_Mo_widest i_Mo_widest_27 rfl (fun h5 => ?_)
    refine ix_K_px kq_Mo_widest i_Mo_widest_28 rfl rfl ?_
    refine ix_K_px kq_Mo_widest i_Mo_widest_29 rfl rfl ?_
    refine ix_K_gr kq_Mo_widest i_Mo_widest_30 rfl (fun v6 => ?_)
    refine ix_K_px kq_Mo_widest i_Mo_widest_33 rfl rfl ?_
    refine ix_K_az kq_Mo_widest i_Mo_widest_34 rfl (fun v7 => ?_)
    refine ix_K_if_eq (tgt := 42) kq_Mo_widest i_Mo_widest_35 rfl (by decide) ?_ ?_
    · refine ix_K_ci kq_Mo_widest i_Mo_widest_42 rfl kci_0 ?_
      refine ix_K_px kq_Mo_widest i_Mo_widest_43 rfl rfl ?_
      refine ix_K_si (L2 := [some (.ref a0), some (.int (x1 + 0)), some (.int x2)]) kq_Mo_widest i_Mo_widest_44 rfl (Or.inr ⟨_, rfl, rfl⟩) (Nat.le_of_ble_eq_true rfl) rfl ?_
      refine ix_K_inc (L2 := [some (.ref a0), some (.int (x1 + 0)), some (.int (x2 + 1))]) kq_Mo_widest i_Mo_widest_45 rfl rfl (Nat.le_of_ble_eq_true rfl) kci_1 rfl ?_
      refine ix_K_goto (tgt := 4) kq_Mo_widest i_Mo_widest_48 rfl (by decide) ?_
      exact ix_D_cut i_Mo_widest_4 rfl
    · refine ix_K_ci kq_Mo_widest i_Mo_widest_38 rfl kci_1 ?_
      refine ix_K_goto (tgt := 43) kq_Mo_widest i_Mo_widest_39 rfl (by decide) ?_
      refine ix_K_px kq_Mo_widest i_Mo_widest_43 rfl rfl ?_
      refine ix_K_si (L2 := [some (.ref a0), some (.int (x1 + 1)), some (.int x2)]) kq_Mo_widest i_Mo_widest_44 rfl (Or.inr ⟨_, rfl, rfl⟩) (Nat.le_of_ble_eq_true rfl) rfl ?_
      refine ix_K_inc (L2 := [some (.ref a0), some (.int (x1 + 1)), some (.int (x2 + 1))]) kq_Mo_widest i_Mo_widest_45 rfl rfl (Nat.le_of_ble_eq_true rfl) kci_1 rfl ?_
      refine ix_K_goto (tgt := 4) kq_Mo_widest i_Mo_widest_48 rfl (by decide) ?_
      exact ix_D_cut i_Mo_widest_4 rfl
set_option maxRecDepth 20000 in
set_option maxHeartbeats 1000000 in
theorem e_Mo_widest_53 (a0 : Nat) (x1 : Int32) (x2 : Int32) (h : ixH) : l_Mo_widest_53 a0 x1 x2 h = (ix_gi h a0 11 20).bind fun v1 => if v1 ≤ x2 then some ([.int x1], h) else (ix_gr h a0 11 22).bind fun v2 => (ix_az h v2 x2).bind fun v3 => if v3 = 0 then l_Mo_widest_53 a0 (x1 - 0) (x2 + 1) h else (ix_M mMo_findsPair [.ref a0, .int x2] h).bind fun r => ix_kZ r fun v5 h4 => if v5 = true then l_Mo_widest_53 a0 (x1 - 1) (x2 + 1) h4 else l_Mo_widest_53 a0 (x1 - 0) (x2 + 1) h4 := by
  unfold l_Mo_widest_53
  refine ix_K_px kq_Mo_widest i_Mo_widest_53 rfl rfl ?_
  refine ix_K_px kq_Mo_widest i_Mo_widest_54 rfl rfl ?_
  refine ix_K_gi kq_Mo_widest i_Mo_widest_55 rfl (fun v1 => ?_)
  refine ix_K_ic_ge (tgt := 92) kq_Mo_widest i_Mo_widest_58 rfl (by decide) ?_ ?_
  · refine ix_K_px kq_Mo_widest i_Mo_widest_92 rfl rfl ?_
    exact ix_D_ret kq_Mo_widest i_Mo_widest_93 (ix_rtI rfl _)
  · refine ix_K_px kq_Mo_widest i_Mo_widest_61 rfl rfl ?_
    refine ix_K_px kq_Mo_widest i_Mo_widest_62 rfl rfl ?_
    refine ix_K_gr kq_Mo_widest i_Mo_widest_63 rfl (fun v2 => ?_)
    refine ix_K_px kq_Mo_widest i_Mo_widest_66 rfl rfl ?_
    refine ix_K_az kq_Mo_widest i_Mo_widest_67 rfl (fun v3 => ?_)
    refine ix_K_if_eq (tgt := 83) kq_Mo_widest i_Mo_widest_68 rfl (by decide) ?_ ?_
    · refine ix_K_ci kq_Mo_widest i_Mo_widest_83 rfl kci_0 ?_
      refine ix_K_px kq_Mo_widest i_Mo_widest_84 rfl rfl ?_
      refine ix_K_si (L2 := [some (.ref a0), some (.int (x1 - 0)), some (.int x2)]) kq_Mo_widest i_Mo_widest_85 rfl (Or.inr ⟨_, rfl, rfl⟩) (Nat.le_of_ble_eq_true rfl) rfl ?_
      refine ix_K_inc (L2 := [some (.ref a0), some (.int (x1 - 0)), some (.int (x2 + 1))]) kq_Mo_widest i_Mo_widest_86 rfl rfl (Nat.le_of_ble_eq_true rfl) kci_1 rfl ?_
      refine ix_K_goto (tgt := 53) kq_Mo_widest i_Mo_widest_89 rfl (by decide) ?_
      exact ix_D_cut i_Mo_widest_53 rfl
    · refine ix_K_px kq_Mo_widest i_Mo_widest_71 rfl rfl ?_
      refine ix_K_px kq_Mo_widest i_Mo_widest_72 rfl rfl ?_
      refine ix_K_callZ (as := [.ref a0, .int x2]) (rest := [.int x1]) kq_Mo_widest i_Mo_widest_73 rfl kq_Mo_findsPair (by decide) rfl rfl (fun v5 h4 => ?_)
      refine ix_K_bz_eq (tgt := 83) kq_Mo_widest i_Mo_widest_76 rfl (by decide) ?_ ?_
      · refine ix_K_ci kq_Mo_widest i_Mo_widest_79 rfl kci_1 ?_
        refine ix_K_goto (tgt := 84) kq_Mo_widest i_Mo_widest_80 rfl (by decide) ?_
        refine ix_K_px kq_Mo_widest i_Mo_widest_84 rfl rfl ?_
        refine ix_K_si (L2 := [some (.ref a0), some (.int (x1 - 1)), some (.int x2)]) kq_Mo_widest i_Mo_widest_85 rfl (Or.inr ⟨_, rfl, rfl⟩) (Nat.le_of_ble_eq_true rfl) rfl ?_
        refine ix_K_inc (L2 := [some (.ref a0), some (.int (x1 - 1)), some (.int (x2 + 1))]) kq_Mo_widest i_Mo_widest_86 rfl rfl (Nat.le_of_ble_eq_true rfl) kci_1 rfl ?_
        refine ix_K_goto (tgt := 53) kq_Mo_widest i_Mo_widest_89 rfl (by decide) ?_
        exact ix_D_cut i_Mo_widest_53 rfl
      · refine ix_K_ci kq_Mo_widest i_Mo_widest_83 rfl kci_0 ?_
        refine ix_K_px kq_Mo_widest i_Mo_widest_84 rfl rfl ?_
        refine ix_K_si (L2 := [some (.ref a0), some (.int (x1 - 0)), some (.int x2)]) kq_Mo_widest i_Mo_widest_85 rfl (Or.inr ⟨_, rfl, rfl⟩) (Nat.le_of_ble_eq_true rfl) rfl ?_
        refine ix_K_inc (L2 := [some (.ref a0), some (.int (x1 - 0)), some (.int (x2 + 1))]) kq_Mo_widest i_Mo_widest_86 rfl rfl (Nat.le_of_ble_eq_true rfl) kci_1 rfl ?_
        refine ix_K_goto (tgt := 53) kq_Mo_widest i_Mo_widest_89 rfl (by decide) ?_
        exact ix_D_cut i_Mo_widest_53 rfl
set_option maxRecDepth 20000 in
set_option maxHeartbeats 1000000 in
theorem e_Mo_widest (a0 : Nat) (h : ixH) : ix_D mMo_widest 0 [some (.ref a0), none, none] [] h = l_Mo_widest_4 a0 0 0 h := by
  refine ix_K_ci kq_Mo_widest i_Mo_widest_0 rfl kci_0 ?_
  refine ix_K_si (L2 := [some (.ref a0), some (.int 0), none]) kq_Mo_widest i_Mo_widest_1 rfl (Or.inr ⟨_, rfl, rfl⟩) (Nat.le_of_ble_eq_true rfl) rfl ?_
  refine ix_K_ci kq_Mo_widest i_Mo_widest_2 rfl kci_0 ?_
  refine ix_K_si (L2 := [some (.ref a0), some (.int 0), some (.int 0)]) kq_Mo_widest i_Mo_widest_3 rfl (Or.inr ⟨_, rfl, rfl⟩) (Nat.le_of_ble_eq_true rfl) rfl ?_
  exact ix_D_cut i_Mo_widest_4 rfl
theorem x_Mo_widest {a0 : Nat} {h h1 : ixH} {v : Int32} (hr : ix_rc h a0 = some 11) (hd : ix_D mMo_widest 0 [some (.ref a0), none, none] [] h = some ([.int v], h1)) : ix_M mMo_widest [.ref a0] h = some ([.int v], h1) := ix_M_of (ix_ent_i kq_Mo_widest rfl hr rfl (Nat.le_of_ble_eq_true rfl) rfl) hd (ix_okrI (Or.inl rfl) v)
theorem i_Mo_findsPair_0 : ix_nx mMo_findsPair 0 = some (0, .iconst 0, 1, none, [], 0) := rfl
theorem i_Mo_findsPair_1 : ix_nx mMo_findsPair 1 = some (0, .istore_n 2, 2, none, [], 0) := rfl
theorem i_Mo_findsPair_2 : ix_nx mMo_findsPair 2 = some (0, .iload_n 2, 3, some [true, true, true, false, false], [], 0) := rfl
theorem i_Mo_findsPair_3 : ix_nx mMo_findsPair 3 = some (0, .aload_n 0, 4, none, [], 0) := rfl
theorem i_Mo_findsPair_4 : ix_nx mMo_findsPair 4 = some (1, .getfield 221, 7, none, [11, 20, 0, 110], 0) := rfl
theorem i_Mo_findsPair_7 : ix_nx mMo_findsPair 7 = some (0, .if_icmp .ge 17, 10, none, [], 0) := rfl
theorem i_Mo_findsPair_10 : ix_nx mMo_findsPair 10 = some (0, .aload_n 0, 11, none, [], 0) := rfl
theorem i_Mo_findsPair_11 : ix_nx mMo_findsPair 11 = some (1, .getfield 75, 14, none, [11, 25, 2, 115], 0) := rfl
theorem i_Mo_findsPair_14 : ix_nx mMo_findsPair 14 = some (0, .iload_n 2, 15, none, [], 0) := rfl
theorem i_Mo_findsPair_15 : ix_nx mMo_findsPair 15 = some (0, .bipush (-6), 17, none, [], 0) := rfl
theorem i_Mo_findsPair_17 : ix_nx mMo_findsPair 17 = some (2, .iastore, 18, none, [], 0) := rfl
theorem i_Mo_findsPair_18 : ix_nx mMo_findsPair 18 = some (0, .iinc 2 1, 21, none, [], 0) := rfl
theorem i_Mo_findsPair_21 : ix_nx mMo_findsPair 21 = some (0, .goto (-19), 24, none, [], 0) := rfl
theorem i_Mo_findsPair_24 : ix_nx mMo_findsPair 24 = some (0, .aload_n 0, 25, none, [], 0) := rfl
theorem i_Mo_findsPair_25 : ix_nx mMo_findsPair 25 = some (0, .iconst 0, 26, none, [], 0) := rfl
theorem i_Mo_findsPair_26 : ix_nx mMo_findsPair 26 = some (2, .putfield 168, 29, none, [11, 14, 0, 104], 0) := rfl
theorem i_Mo_findsPair_29 : ix_nx mMo_findsPair 29 = some (0, .aload_n 0, 30, none, [], 0) := rfl
theorem i_Mo_findsPair_30 : ix_nx mMo_findsPair 30 = some (1, .getfield 36, 33, none, [11, 8, 2, 98], 0) := rfl
theorem i_Mo_findsPair_33 : ix_nx mMo_findsPair 33 = some (0, .iconst 0, 34, none, [], 0) := rfl
theorem i_Mo_findsPair_34 : ix_nx mMo_findsPair 34 = some (0, .iload_n 1, 35, none, [], 0) := rfl
theorem i_Mo_findsPair_35 : ix_nx mMo_findsPair 35 = some (2, .iastore, 36, none, [], 0) := rfl
theorem i_Mo_findsPair_36 : ix_nx mMo_findsPair 36 = some (0, .aload_n 0, 37, none, [], 0) := rfl
theorem i_Mo_findsPair_37 : ix_nx mMo_findsPair 37 = some (0, .iconst 1, 38, none, [], 0) := rfl
theorem i_Mo_findsPair_38 : ix_nx mMo_findsPair 38 = some (2, .putfield 168, 41, none, [11, 14, 0, 104], 0) := rfl
theorem i_Mo_findsPair_41 : ix_nx mMo_findsPair 41 = some (0, .iconst 0, 42, none, [], 0) := rfl
theorem i_Mo_findsPair_42 : ix_nx mMo_findsPair 42 = some (0, .istore_n 2, 43, none, [], 0) := rfl
theorem i_Mo_findsPair_43 : ix_nx mMo_findsPair 43 = some (0, .iload_n 2, 44, some [true, false, true, false, false], [], 0) := rfl
theorem i_Mo_findsPair_44 : ix_nx mMo_findsPair 44 = some (0, .aload_n 0, 45, none, [], 0) := rfl
theorem i_Mo_findsPair_45 : ix_nx mMo_findsPair 45 = some (1, .getfield 168, 48, none, [11, 14, 0, 104], 0) := rfl
theorem i_Mo_findsPair_48 : ix_nx mMo_findsPair 48 = some (0, .if_icmp .ge 123, 51, none, [], 0) := rfl
theorem i_Mo_findsPair_51 : ix_nx mMo_findsPair 51 = some (0, .aload_n 0, 52, none, [], 0) := rfl
theorem i_Mo_findsPair_52 : ix_nx mMo_findsPair 52 = some (1, .getfield 36, 55, none, [11, 8, 2, 98], 0) := rfl
theorem i_Mo_findsPair_55 : ix_nx mMo_findsPair 55 = some (0, .iload_n 2, 56, none, [], 0) := rfl
theorem i_Mo_findsPair_56 : ix_nx mMo_findsPair 56 = some (1, .iaload, 57, none, [], 0) := rfl
theorem i_Mo_findsPair_57 : ix_nx mMo_findsPair 57 = some (0, .istore_n 3, 58, none, [], 0) := rfl
theorem i_Mo_findsPair_58 : ix_nx mMo_findsPair 58 = some (0, .iconst 0, 59, none, [], 0) := rfl
theorem i_Mo_findsPair_59 : ix_nx mMo_findsPair 59 = some (0, .istore 4, 61, none, [], 0) := rfl
theorem i_Mo_findsPair_61 : ix_nx mMo_findsPair 61 = some (0, .iload 4, 63, some [true, false, true, true, true], [], 0) := rfl
theorem i_Mo_findsPair_63 : ix_nx mMo_findsPair 63 = some (0, .aload_n 0, 64, none, [], 0) := rfl
theorem i_Mo_findsPair_64 : ix_nx mMo_findsPair 64 = some (1, .getfield 221, 67, none, [11, 20, 0, 110], 0) := rfl
theorem i_Mo_findsPair_67 : ix_nx mMo_findsPair 67 = some (0, .if_icmp .ge 98, 70, none, [], 0) := rfl
theorem i_Mo_findsPair_70 : ix_nx mMo_findsPair 70 = some (0, .aload_n 0, 71, none, [], 0) := rfl
theorem i_Mo_findsPair_71 : ix_nx mMo_findsPair 71 = some (1, .getfield 66, 74, none, [11, 22, 2, 112], 0) := rfl
theorem i_Mo_findsPair_74 : ix_nx mMo_findsPair 74 = some (0, .iload 4, 76, none, [], 0) := rfl
theorem i_Mo_findsPair_76 : ix_nx mMo_findsPair 76 = some (1, .baload, 77, none, [2], 0) := rfl
theorem i_Mo_findsPair_77 : ix_nx mMo_findsPair 77 = some (0, .ifCond .eq 82, 80, none, [], 0) := rfl
theorem i_Mo_findsPair_80 : ix_nx mMo_findsPair 80 = some (0, .aload_n 0, 81, none, [], 0) := rfl
theorem i_Mo_findsPair_81 : ix_nx mMo_findsPair 81 = some (1, .getfield 63, 84, none, [11, 21, 2, 111], 0) := rfl
theorem i_Mo_findsPair_84 : ix_nx mMo_findsPair 84 = some (0, .bipush 64, 86, none, [], 0) := rfl
theorem i_Mo_findsPair_86 : ix_nx mMo_findsPair 86 = some (0, .iload_n 3, 87, none, [], 0) := rfl
theorem i_Mo_findsPair_87 : ix_nx mMo_findsPair 87 = some (0, .imul, 88, none, [], 0) := rfl
theorem i_Mo_findsPair_88 : ix_nx mMo_findsPair 88 = some (0, .iload 4, 90, none, [], 0) := rfl
theorem i_Mo_findsPair_90 : ix_nx mMo_findsPair 90 = some (0, .iadd, 91, none, [], 0) := rfl
theorem i_Mo_findsPair_91 : ix_nx mMo_findsPair 91 = some (1, .baload, 92, none, [2], 0) := rfl
theorem i_Mo_findsPair_92 : ix_nx mMo_findsPair 92 = some (0, .ifCond .eq 67, 95, none, [], 0) := rfl
theorem i_Mo_findsPair_95 : ix_nx mMo_findsPair 95 = some (0, .aload_n 0, 96, none, [], 0) := rfl
theorem i_Mo_findsPair_96 : ix_nx mMo_findsPair 96 = some (1, .getfield 75, 99, none, [11, 25, 2, 115], 0) := rfl
theorem i_Mo_findsPair_99 : ix_nx mMo_findsPair 99 = some (0, .iload 4, 101, none, [], 0) := rfl
theorem i_Mo_findsPair_101 : ix_nx mMo_findsPair 101 = some (1, .iaload, 102, none, [], 0) := rfl
theorem i_Mo_findsPair_102 : ix_nx mMo_findsPair 102 = some (0, .bipush (-6), 104, none, [], 0) := rfl
theorem i_Mo_findsPair_104 : ix_nx mMo_findsPair 104 = some (0, .if_icmp .ne 55, 107, none, [], 0) := rfl
theorem i_Mo_findsPair_107 : ix_nx mMo_findsPair 107 = some (0, .aload_n 0, 108, none, [], 0) := rfl
theorem i_Mo_findsPair_108 : ix_nx mMo_findsPair 108 = some (1, .getfield 75, 111, none, [11, 25, 2, 115], 0) := rfl
theorem i_Mo_findsPair_111 : ix_nx mMo_findsPair 111 = some (0, .iload 4, 113, none, [], 0) := rfl
theorem i_Mo_findsPair_113 : ix_nx mMo_findsPair 113 = some (0, .iload_n 3, 114, none, [], 0) := rfl
theorem i_Mo_findsPair_114 : ix_nx mMo_findsPair 114 = some (2, .iastore, 115, none, [], 0) := rfl
theorem i_Mo_findsPair_115 : ix_nx mMo_findsPair 115 = some (0, .aload_n 0, 116, none, [], 0) := rfl
theorem i_Mo_findsPair_116 : ix_nx mMo_findsPair 116 = some (1, .getfield 72, 119, none, [11, 24, 2, 114], 0) := rfl
theorem i_Mo_findsPair_119 : ix_nx mMo_findsPair 119 = some (0, .iload 4, 121, none, [], 0) := rfl
theorem i_Mo_findsPair_121 : ix_nx mMo_findsPair 121 = some (1, .iaload, 122, none, [], 0) := rfl
theorem i_Mo_findsPair_122 : ix_nx mMo_findsPair 122 = some (0, .ifCond .ge 11, 125, none, [], 0) := rfl
theorem i_Mo_findsPair_125 : ix_nx mMo_findsPair 125 = some (0, .aload_n 0, 126, none, [], 0) := rfl
theorem i_Mo_findsPair_126 : ix_nx mMo_findsPair 126 = some (0, .iload 4, 128, none, [], 0) := rfl
theorem i_Mo_findsPair_128 : ix_nx mMo_findsPair 128 = some (3, .invokevirtual 224, 131, none, [0, 202, 213], 0) := rfl
theorem i_Mo_findsPair_131 : ix_nx mMo_findsPair 131 = some (0, .iconst 1, 132, none, [], 0) := rfl
theorem i_Mo_findsPair_132 : ix_nx mMo_findsPair 132 = some (4, .ireturn, 133, none, [], 0) := rfl
theorem i_Mo_findsPair_133 : ix_nx mMo_findsPair 133 = some (0, .aload_n 0, 134, none, [], 0) := rfl
theorem i_Mo_findsPair_134 : ix_nx mMo_findsPair 134 = some (1, .getfield 36, 137, none, [11, 8, 2, 98], 0) := rfl
theorem i_Mo_findsPair_137 : ix_nx mMo_findsPair 137 = some (0, .aload_n 0, 138, none, [], 0) := rfl
theorem i_Mo_findsPair_138 : ix_nx mMo_findsPair 138 = some (1, .getfield 168, 141, none, [11, 14, 0, 104], 0) := rfl
theorem i_Mo_findsPair_141 : ix_nx mMo_findsPair 141 = some (0, .aload_n 0, 142, none, [], 0) := rfl
set_option maxRecDepth 50000 in
theorem i_Mo_findsPair_142 : ix_nx mMo_findsPair 142 = some (1, .getfield 72, 145, none, [11, 24, 2, 114], 0) := rfl
set_option maxRecDepth 50000 in
theorem i_Mo_findsPair_145 : ix_nx mMo_findsPair 145 = some (0, .iload 4, 147, none, [], 0) := rfl
set_option maxRecDepth 50000 in
theorem i_Mo_findsPair_147 : ix_nx mMo_findsPair 147 = some (1, .iaload, 148, none, [], 0) := rfl
set_option maxRecDepth 50000 in
theorem i_Mo_findsPair_148 : ix_nx mMo_findsPair 148 = some (2, .iastore, 149, none, [], 0) := rfl
set_option maxRecDepth 50000 in
theorem i_Mo_findsPair_149 : ix_nx mMo_findsPair 149 = some (0, .aload_n 0, 150, none, [], 0) := rfl
set_option maxRecDepth 50000 in
theorem i_Mo_findsPair_150 : ix_nx mMo_findsPair 150 = some (0, .dup, 151, none, [], 0) := rfl
set_option maxRecDepth 50000 in
theorem i_Mo_findsPair_151 : ix_nx mMo_findsPair 151 = some (1, .getfield 168, 154, none, [11, 14, 0, 104], 0) := rfl
set_option maxRecDepth 50000 in
theorem i_Mo_findsPair_154 : ix_nx mMo_findsPair 154 = some (0, .iconst 1, 155, none, [], 0) := rfl
set_option maxRecDepth 50000 in
theorem i_Mo_findsPair_155 : ix_nx mMo_findsPair 155 = some (0, .iadd, 156, none, [], 0) := rfl
set_option maxRecDepth 50000 in
theorem i_Mo_findsPair_156 : ix_nx mMo_findsPair 156 = some (2, .putfield 168, 159, none, [11, 14, 0, 104], 0) := rfl
set_option maxRecDepth 50000 in
theorem i_Mo_findsPair_159 : ix_nx mMo_findsPair 159 = some (0, .iinc 4 1, 162, none, [], 0) := rfl
set_option maxRecDepth 50000 in
theorem i_Mo_findsPair_162 : ix_nx mMo_findsPair 162 = some (0, .goto (-101), 165, none, [], 0) := rfl
set_option maxRecDepth 50000 in
theorem i_Mo_findsPair_165 : ix_nx mMo_findsPair 165 = some (0, .iinc 2 1, 168, none, [], 0) := rfl
set_option maxRecDepth 50000 in
theorem i_Mo_findsPair_168 : ix_nx mMo_findsPair 168 = some (0, .goto (-125), 171, none, [], 0) := rfl
set_option maxRecDepth 50000 in
theorem i_Mo_findsPair_171 : ix_nx mMo_findsPair 171 = some (0, .iconst 0, 172, none, [], 0) := rfl
set_option maxRecDepth 50000 in
theorem i_Mo_findsPair_172 : ix_nx mMo_findsPair 172 = some (4, .ireturn, 173, none, [], 0) := rfl
noncomputable def l_Mo_findsPair_2 (a0 : Nat) (x1 : Int32) (x2 : Int32) (h : ixH) : Option (List Value × ixH) := ix_D mMo_findsPair 2 [some (.ref a0), some (.int x1), some (.int x2), none, none] [] h
noncomputable def l_Mo_findsPair_43 (a0 : Nat) (x2 : Int32) (h : ixH) : Option (List Value × ixH) := ix_D mMo_findsPair 43 [some (.ref a0), none, some (.int x2), none, none] [] h
noncomputable def l_Mo_findsPair_61 (a0 : Nat) (x2 : Int32) (x3 : Int32) (x4 : Int32) (h : ixH) : Option (List Value × ixH) := ix_D mMo_findsPair 61 [some (.ref a0), none, some (.int x2), some (.int x3), some (.int x4)] [] h
set_option maxRecDepth 20000 in
set_option maxHeartbeats 1000000 in
theorem e_Mo_findsPair_2 (a0 : Nat) (x1 : Int32) (x2 : Int32) (h : ixH) : l_Mo_findsPair_2 a0 x1 x2 h = (ix_gi h a0 11 20).bind fun v1 => if v1 ≤ x2 then (ix_pf h a0 11 14 (.int 0)).bind fun h2 => (ix_gr h2 a0 11 8).bind fun v3 => (ix_si h2 v3 0 x1).bind fun h4 => (ix_pf h4 a0 11 14 (.int 1)).bind fun h5 => l_Mo_findsPair_43 a0 0 h5 else (ix_gr h a0 11 25).bind fun v6 => (ix_si h v6 x2 (-6)).bind fun h7 => l_Mo_findsPair_2 a0 x1 (x2 + 1) h7 := by
  unfold l_Mo_findsPair_2
  refine ix_K_px kq_Mo_findsPair i_Mo_findsPair_2 rfl rfl ?_
  refine ix_K_px kq_Mo_findsPair i_Mo_findsPair_3 rfl rfl ?_
  refine ix_K_gi kq_Mo_findsPair i_Mo_findsPair_4 rfl (fun v1 => ?_)
  refine ix_K_ic_ge (tgt := 24) kq_Mo_findsPair i_Mo_findsPair_7 rfl (by decide) ?_ ?_
  · refine ix_K_px kq_Mo_findsPair i_Mo_findsPair_24 rfl rfl ?_
    refine ix_K_ci kq_Mo_findsPair i_Mo_findsPair_25 rfl kci_0 ?_
    refine ix_K_pf kq_Mo_findsPair i_Mo_findsPair_26 rfl rfl (fun h2 => ?_)
    refine ix_K_px kq_Mo_findsPair i_Mo_findsPair_29 rfl rfl ?_
    refine ix_K_gr kq_Mo_findsPair i_Mo_findsPair_30 rfl (fun v3 => ?_)
    refine ix_K_ci kq_Mo_findsPair i_Mo_findsPair_33 rfl kci_0 ?_
    refine ix_K_px kq_Mo_findsPair i_Mo_findsPair_34 rfl rfl ?_
    refine ix_K_ti kq_Mo_findsPair i_Mo_findsPair_35 rfl (fun h4 => ?_)
    refine ix_K_px kq_Mo_findsPair i_Mo_findsPair_36 rfl rfl ?_
    refine ix_K_ci kq_Mo_findsPair i_Mo_findsPair_37 rfl kci_1 ?_
    refine ix_K_pf kq_Mo_findsPair i_Mo_findsPair_38 rfl rfl (fun h5 => ?_)
    refine ix_K_ci kq_Mo_findsPair i_Mo_findsPair_41 rfl kci_0 ?_
    refine ix_K_si (L2 := [some (.ref a0), some (.int x1), some (.int 0), none, none]) kq_Mo_findsPair i_Mo_findsPair_42 rfl (Or.inr ⟨_, rfl, rfl⟩) (Nat.le_of_ble_eq_true rfl) rfl ?_
    exact ix_D_cut i_Mo_findsPair_43 rfl
  · refine ix_K_px kq_Mo_findsPair i_Mo_findsPair_10 rfl rfl ?_
    refine ix_K_gr kq_Mo_findsPair i_Mo_findsPair_11 rfl (fun v6 => ?_)
    refine ix_K_px kq_Mo_findsPair i_Mo_findsPair_14 rfl rfl ?_
    refine ix_K_cb kq_Mo_findsPair i_Mo_findsPair_15 rfl kcb_m6 ?_
    refine ix_K_ti kq_Mo_findsPair i_Mo_findsPair_17 rfl (fun h7 => ?_)
    refine ix_K_inc (L2 := [some (.ref a0), some (.int x1), some (.int (x2 + 1)), none, none]) kq_Mo_findsPair i_Mo_findsPair_18 rfl rfl (Nat.le_of_ble_eq_true rfl) kci_1 rfl ?_
    refine ix_K_goto (tgt := 2) kq_Mo_findsPair i_Mo_findsPair_21 rfl (by decide) ?_
    exact ix_D_cut i_Mo_findsPair_2 rfl
set_option maxRecDepth 20000 in
set_option maxHeartbeats 1000000 in
theorem e_Mo_findsPair_43 (a0 : Nat) (x2 : Int32) (h : ixH) : l_Mo_findsPair_43 a0 x2 h = (ix_gi h a0 11 14).bind fun v1 => if v1 ≤ x2 then some ([.int (ix_bi false)], h) else (ix_gr h a0 11 8).bind fun v2 => (ix_ai h v2 x2).bind fun v3 => l_Mo_findsPair_61 a0 x2 v3 0 h := by
  unfold l_Mo_findsPair_43
  refine ix_K_px kq_Mo_findsPair i_Mo_findsPair_43 rfl rfl ?_
  refine ix_K_px kq_Mo_findsPair i_Mo_findsPair_44 rfl rfl ?_
  refine ix_K_gi kq_Mo_findsPair i_Mo_findsPair_45 rfl (fun v1 => ?_)
  refine ix_K_ic_ge (tgt := 171) kq_Mo_findsPair i_Mo_findsPair_48 rfl (by decide) ?_ ?_
  · refine ix_K_ci kq_Mo_findsPair i_Mo_findsPair_171 rfl kci_0 ?_
    exact ix_D_ret kq_Mo_findsPair i_Mo_findsPair_172 (ix_rtZ rfl false)
  · refine ix_K_px kq_Mo_findsPair i_Mo_findsPair_51 rfl rfl ?_
    refine ix_K_gr kq_Mo_findsPair i_Mo_findsPair_52 rfl (fun v2 => ?_)
    refine ix_K_px kq_Mo_findsPair i_Mo_findsPair_55 rfl rfl ?_
    refine ix_K_ai kq_Mo_findsPair i_Mo_findsPair_56 rfl (fun v3 => ?_)
    refine ix_K_si (L2 := [some (.ref a0), none, some (.int x2), some (.int v3), none]) kq_Mo_findsPair i_Mo_findsPair_57 rfl (Or.inr ⟨_, rfl, rfl⟩) (Nat.le_of_ble_eq_true rfl) rfl ?_
    refine ix_K_ci kq_Mo_findsPair i_Mo_findsPair_58 rfl kci_0 ?_
    refine ix_K_si (L2 := [some (.ref a0), none, some (.int x2), some (.int v3), some (.int 0)]) kq_Mo_findsPair i_Mo_findsPair_59 rfl (Or.inl rfl) (Nat.le_of_ble_eq_true rfl) rfl ?_
    exact ix_D_cut i_Mo_findsPair_61 rfl
set_option maxRecDepth 20000 in
set_option maxHeartbeats 1000000 in
theorem e_Mo_findsPair_61 (a0 : Nat) (x2 : Int32) (x3 : Int32) (x4 : Int32) (h : ixH) : l_Mo_findsPair_61 a0 x2 x3 x4 h = (ix_gi h a0 11 20).bind fun v1 => if v1 ≤ x4 then l_Mo_findsPair_43 a0 (x2 + 1) h else (ix_gr h a0 11 22).bind fun v2 => (ix_az h v2 x4).bind fun v3 => if v3 = 0 then l_Mo_findsPair_61 a0 x2 x3 (x4 + 1) h else (ix_gr h a0 11 21).bind fun v4 => (ix_az h v4 ((64 * x3) + x4)).bind fun v5 => if v5 = 0 then l_Mo_findsPair_61 a0 x2 x3 (x4 + 1) h else (ix_gr h a0 11 25).bind fun v6 => (ix_ai h v6 x4).bind fun v7 => if ¬ v7 = (-6) then l_Mo_findsPair_61 a0 x2 x3 (x4 + 1) h else (ix_gr h a0 11 25).bind fun v8 => (ix_si h v8 x4 x3).bind fun h9 => (ix_gr h9 a0 11 24).bind fun v10 => (ix_ai h9 v10 x4).bind fun v11 => if 0 ≤ v11 then (ix_gr h9 a0 11 8).bind fun v12 => (ix_gi h9 a0 11 14).bind fun v13 => (ix_gr h9 a0 11 24).bind fun v14 => (ix_ai h9 v14 x4).bind fun v15 => (ix_si h9 v12 v13 v15).bind fun h16 => (ix_gi h16 a0 11 14).bind fun v17 => (ix_pf h16 a0 11 14 (.int (v17 + 1))).bind fun h18 => l_Mo_findsPair_61 a0 x2 x3 (x4 + 1) h18 else (ix_M mMo_turnPairs [.ref a0, .int x4] h9).bind fun r => ix_kV r fun h19 => some ([.int (ix_bi true)], h19) := by
  unfold l_Mo_findsPair_61
  refine ix_K_px kq_Mo_findsPair i_Mo_findsPair_61 rfl rfl ?_
  refine ix_K_px kq_Mo_findsPair i_Mo_findsPair_63 rfl rfl ?_
  refine ix_K_gi kq_Mo_findsPair i_Mo_findsPair_64 rfl (fun v1 => ?_)
  refine ix_K_ic_ge (tgt := 165) kq_Mo_findsPair i_Mo_findsPair_67 rfl (by decide) ?_ ?_
  · refine ix_K_inc (L2 := [some (.ref a0), none, some (.int (x2 + 1)), some (.int x3), some (.int x4)]) kq_Mo_findsPair i_Mo_findsPair_165 rfl rfl (Nat.le_of_ble_eq_true rfl) kci_1 rfl ?_
    refine ix_K_goto (tgt := 43) kq_Mo_findsPair i_Mo_findsPair_168 rfl (by decide) ?_
    exact ix_D_cut i_Mo_findsPair_43 rfl
  · refine ix_K_px kq_Mo_findsPair i_Mo_findsPair_70 rfl rfl ?_
    refine ix_K_gr kq_Mo_findsPair i_Mo_findsPair_71 rfl (fun v2 => ?_)
    refine ix_K_px kq_Mo_findsPair i_Mo_findsPair_74 rfl rfl ?_
    refine ix_K_az kq_Mo_findsPair i_Mo_findsPair_76 rfl (fun v3 => ?_)
    refine ix_K_if_eq (tgt := 159) kq_Mo_findsPair i_Mo_findsPair_77 rfl (by decide) ?_ ?_
    · refine ix_K_inc (L2 := [some (.ref a0), none, some (.int x2), some (.int x3), some (.int (x4 + 1))]) kq_Mo_findsPair i_Mo_findsPair_159 rfl rfl (Nat.le_of_ble_eq_true rfl) kci_1 rfl ?_
      refine ix_K_goto (tgt := 61) kq_Mo_findsPair i_Mo_findsPair_162 rfl (by decide) ?_
      exact ix_D_cut i_Mo_findsPair_61 rfl
    · refine ix_K_px kq_Mo_findsPair i_Mo_findsPair_80 rfl rfl ?_
      refine ix_K_gr kq_Mo_findsPair i_Mo_findsPair_81 rfl (fun v4 => ?_)
      refine ix_K_cb kq_Mo_findsPair i_Mo_findsPair_84 rfl kcb_64 ?_
      refine ix_K_px kq_Mo_findsPair i_Mo_findsPair_86 rfl rfl ?_
      refine ix_K_px kq_Mo_findsPair i_Mo_findsPair_87 rfl rfl ?_
      refine ix_K_px kq_Mo_findsPair i_Mo_findsPair_88 rfl rfl ?_
      refine ix_K_px kq_Mo_findsPair i_Mo_findsPair_90 rfl rfl ?_
      refine ix_K_az kq_Mo_findsPair i_Mo_findsPair_91 rfl (fun v5 => ?_)
      refine ix_K_if_eq (tgt := 159) kq_Mo_findsPair i_Mo_findsPair_92 rfl (by decide) ?_ ?_
      · refine ix_K_inc (L2 := [some (.ref a0), none, some (.int x2), some (.int x3), some (.int (x4 + 1))]) kq_Mo_findsPair i_Mo_findsPair_159 rfl rfl (Nat.le_of_ble_eq_true rfl) kci_1 rfl ?_
        refine ix_K_goto (tgt := 61) kq_Mo_findsPair i_Mo_findsPair_162 rfl (by decide) ?_
        exact ix_D_cut i_Mo_findsPair_61 rfl
      · refine ix_K_px kq_Mo_findsPair i_Mo_findsPair_95 rfl rfl ?_
        refine ix_K_gr kq_Mo_findsPair i_Mo_findsPair_96 rfl (fun v6 => ?_)
        refine ix_K_px kq_Mo_findsPair i_Mo_findsPair_99 rfl rfl ?_
        refine ix_K_ai kq_Mo_findsPair i_Mo_findsPair_101 rfl (fun v7 => ?_)
        refine ix_K_cb kq_Mo_findsPair i_Mo_findsPair_102 rfl kcb_m6 ?_
        refine ix_K_ic_ne (tgt := 159) kq_Mo_findsPair i_Mo_findsPair_104 rfl (by decide) ?_ ?_
        · refine ix_K_inc (L2 := [some (.ref a0), none, some (.int x2), some (.int x3), some (.int (x4 + 1))]) kq_Mo_findsPair i_Mo_findsPair_159 rfl rfl (Nat.le_of_ble_eq_true rfl) kci_1 rfl ?_
          refine ix_K_goto (tgt := 61) kq_Mo_findsPair i_Mo_findsPair_162 rfl (by decide) ?_
          exact ix_D_cut i_Mo_findsPair_61 rfl
        · refine ix_K_px kq_Mo_findsPair i_Mo_findsPair_107 rfl rfl ?_
          refine ix_K_gr kq_Mo_findsPair i_Mo_findsPair_108 rfl (fun v8 => ?_)
          refine ix_K_px kq_Mo_findsPair i_Mo_findsPair_111 rfl rfl ?_
          refine ix_K_px kq_Mo_findsPair i_Mo_findsPair_113 rfl rfl ?_
          refine ix_K_ti kq_Mo_findsPair i_Mo_findsPair_114 rfl (fun h9 => ?_)
          refine ix_K_px kq_Mo_findsPair i_Mo_findsPair_115 rfl rfl ?_
          refine ix_K_gr kq_Mo_findsPair i_Mo_findsPair_116 rfl (fun v10 => ?_)
          refine ix_K_px kq_Mo_findsPair i_Mo_findsPair_119 rfl rfl ?_
          refine ix_K_ai kq_Mo_findsPair i_Mo_findsPair_121 rfl (fun v11 => ?_)
          refine ix_K_if_ge (tgt := 133) kq_Mo_findsPair i_Mo_findsPair_122 rfl (by decide) ?_ ?_
          · refine ix_K_px kq_Mo_findsPair i_Mo_findsPair_133 rfl rfl ?_
            refine ix_K_gr kq_Mo_findsPair i_Mo_findsPair_134 rfl (fun v12 => ?_)
            refine ix_K_px kq_Mo_findsPair i_Mo_findsPair_137 rfl rfl ?_
            refine ix_K_gi kq_Mo_findsPair i_Mo_findsPair_138 rfl (fun v13 => ?_)
            refine ix_K_px kq_Mo_findsPair i_Mo_findsPair_141 rfl rfl ?_
            refine ix_K_gr kq_Mo_findsPair i_Mo_findsPair_142 rfl (fun v14 => ?_)
            refine ix_K_px kq_Mo_findsPair i_Mo_findsPair_145 rfl rfl ?_
            refine ix_K_ai kq_Mo_findsPair i_Mo_findsPair_147 rfl (fun v15 => ?_)
            refine ix_K_ti kq_Mo_findsPair i_Mo_findsPair_148 rfl (fun h16 => ?_)
            refine ix_K_px kq_Mo_findsPair i_Mo_findsPair_149 rfl rfl ?_
            refine ix_K_px kq_Mo_findsPair i_Mo_findsPair_150 rfl rfl ?_
            refine ix_K_gi kq_Mo_findsPair i_Mo_findsPair_151 rfl (fun v17 => ?_)
            refine ix_K_ci kq_Mo_findsPair i_Mo_findsPair_154 rfl kci_1 ?_
            refine ix_K_px kq_Mo_findsPair i_Mo_findsPair_155 rfl rfl ?_
            refine ix_K_pf kq_Mo_findsPair i_Mo_findsPair_156 rfl rfl (fun h18 => ?_)
            refine ix_K_inc (L2 := [some (.ref a0), none, some (.int x2), some (.int x3), some (.int (x4 + 1))]) kq_Mo_findsPair i_Mo_findsPair_159 rfl rfl (Nat.le_of_ble_eq_true rfl) kci_1 rfl ?_
            refine ix_K_goto (tgt := 61) kq_Mo_findsPair i_Mo_findsPair_162 rfl (by decide) ?_
            exact ix_D_cut i_Mo_findsPair_61 rfl
          · refine ix_K_px kq_Mo_findsPair i_Mo_findsPair_125 rfl rfl ?_
            refine ix_K_px kq_Mo_findsPair i_Mo_findsPair_126 rfl rfl ?_
            refine ix_K_callV (as := [.ref a0, .int x4]) (rest := []) kq_Mo_findsPair i_Mo_findsPair_128 rfl kq_Mo_turnPairs (by decide) rfl rfl (fun h19 => ?_)
            refine ix_K_ci kq_Mo_findsPair i_Mo_findsPair_131 rfl kci_1 ?_
            exact ix_D_ret kq_Mo_findsPair i_Mo_findsPair_132 (ix_rtZ rfl true)
set_option maxRecDepth 20000 in
set_option maxHeartbeats 1000000 in
theorem e_Mo_findsPair (a0 : Nat) (x1 : Int32) (h : ixH) : ix_D mMo_findsPair 0 [some (.ref a0), some (.int x1), none, none, none] [] h = l_Mo_findsPair_2 a0 x1 0 h := by
  refine ix_K_ci kq_Mo_findsPair i_Mo_findsPair_0 rfl kci_0 ?_
  refine ix_K_si (L2 := [some (.ref a0), some (.int x1), some (.int 0), none, none]) kq_Mo_findsPair i_Mo_findsPair_1 rfl (Or.inr ⟨_, rfl, rfl⟩) (Nat.le_of_ble_eq_true rfl) rfl ?_
  exact ix_D_cut i_Mo_findsPair_2 rfl
theorem x_Mo_findsPair {a0 : Nat} {x1 : Int32} {h h1 : ixH} {v : Bool} (hr : ix_rc h a0 = some 11) (hd : ix_D mMo_findsPair 0 [some (.ref a0), some (.int x1), none, none, none] [] h = some ([.int (ix_bi v)], h1)) : ix_M mMo_findsPair [.ref a0, .int x1] h = some ([.int (ix_bi v)], h1) := ix_M_of (ix_ent_i kq_Mo_findsPair rfl hr rfl (Nat.le_of_ble_eq_true rfl) rfl) hd (ix_okrZ rfl v)
theorem i_Mo_turnPairs_0 : ix_nx mMo_turnPairs 0 = some (0, .iload_n 1, 1, none, [], 0) := rfl
theorem i_Mo_turnPairs_1 : ix_nx mMo_turnPairs 1 = some (0, .istore_n 2, 2, none, [], 0) := rfl
theorem i_Mo_turnPairs_2 : ix_nx mMo_turnPairs 2 = some (0, .iload_n 2, 3, some [true, false, true, false, false], [], 0) := rfl
theorem i_Mo_turnPairs_3 : ix_nx mMo_turnPairs 3 = some (0, .ifCond .lt 38, 6, none, [], 0) := rfl
theorem i_Mo_turnPairs_6 : ix_nx mMo_turnPairs 6 = some (0, .aload_n 0, 7, none, [], 0) := rfl
theorem i_Mo_turnPairs_7 : ix_nx mMo_turnPairs 7 = some (1, .getfield 75, 10, none, [11, 25, 2, 115], 0) := rfl
theorem i_Mo_turnPairs_10 : ix_nx mMo_turnPairs 10 = some (0, .iload_n 2, 11, none, [], 0) := rfl
theorem i_Mo_turnPairs_11 : ix_nx mMo_turnPairs 11 = some (1, .iaload, 12, none, [], 0) := rfl
theorem i_Mo_turnPairs_12 : ix_nx mMo_turnPairs 12 = some (0, .istore_n 3, 13, none, [], 0) := rfl
theorem i_Mo_turnPairs_13 : ix_nx mMo_turnPairs 13 = some (0, .aload_n 0, 14, none, [], 0) := rfl
theorem i_Mo_turnPairs_14 : ix_nx mMo_turnPairs 14 = some (1, .getfield 69, 17, none, [11, 23, 2, 113], 0) := rfl
theorem i_Mo_turnPairs_17 : ix_nx mMo_turnPairs 17 = some (0, .iload_n 3, 18, none, [], 0) := rfl
theorem i_Mo_turnPairs_18 : ix_nx mMo_turnPairs 18 = some (1, .iaload, 19, none, [], 0) := rfl
theorem i_Mo_turnPairs_19 : ix_nx mMo_turnPairs 19 = some (0, .istore 4, 21, none, [], 0) := rfl
theorem i_Mo_turnPairs_21 : ix_nx mMo_turnPairs 21 = some (0, .aload_n 0, 22, none, [], 0) := rfl
theorem i_Mo_turnPairs_22 : ix_nx mMo_turnPairs 22 = some (1, .getfield 69, 25, none, [11, 23, 2, 113], 0) := rfl
theorem i_Mo_turnPairs_25 : ix_nx mMo_turnPairs 25 = some (0, .iload_n 3, 26, none, [], 0) := rfl
theorem i_Mo_turnPairs_26 : ix_nx mMo_turnPairs 26 = some (0, .iload_n 2, 27, none, [], 0) := rfl
theorem i_Mo_turnPairs_27 : ix_nx mMo_turnPairs 27 = some (2, .iastore, 28, none, [], 0) := rfl
theorem i_Mo_turnPairs_28 : ix_nx mMo_turnPairs 28 = some (0, .aload_n 0, 29, none, [], 0) := rfl
theorem i_Mo_turnPairs_29 : ix_nx mMo_turnPairs 29 = some (1, .getfield 72, 32, none, [11, 24, 2, 114], 0) := rfl
theorem i_Mo_turnPairs_32 : ix_nx mMo_turnPairs 32 = some (0, .iload_n 2, 33, none, [], 0) := rfl
theorem i_Mo_turnPairs_33 : ix_nx mMo_turnPairs 33 = some (0, .iload_n 3, 34, none, [], 0) := rfl
theorem i_Mo_turnPairs_34 : ix_nx mMo_turnPairs 34 = some (2, .iastore, 35, none, [], 0) := rfl
theorem i_Mo_turnPairs_35 : ix_nx mMo_turnPairs 35 = some (0, .iload 4, 37, none, [], 0) := rfl
theorem i_Mo_turnPairs_37 : ix_nx mMo_turnPairs 37 = some (0, .istore_n 2, 38, none, [], 0) := rfl
theorem i_Mo_turnPairs_38 : ix_nx mMo_turnPairs 38 = some (0, .goto (-36), 41, none, [], 0) := rfl
theorem i_Mo_turnPairs_41 : ix_nx mMo_turnPairs 41 = some (4, .return_, 42, none, [], 0) := rfl
noncomputable def l_Mo_turnPairs_2 (a0 : Nat) (x2 : Int32) (h : ixH) : Option (List Value × ixH) := ix_D mMo_turnPairs 2 [some (.ref a0), none, some (.int x2), none, none] [] h
set_option maxRecDepth 20000 in
set_option maxHeartbeats 1000000 in
theorem e_Mo_turnPairs_2 (a0 : Nat) (x2 : Int32) (h : ixH) : l_Mo_turnPairs_2 a0 x2 h = if x2 < 0 then some ([], h) else (ix_gr h a0 11 25).bind fun v1 => (ix_ai h v1 x2).bind fun v2 => (ix_gr h a0 11 23).bind fun v3 => (ix_ai h v3 v2).bind fun v4 => (ix_gr h a0 11 23).bind fun v5 => (ix_si h v5 v2 x2).bind fun h6 => (ix_gr h6 a0 11 24).bind fun v7 => (ix_si h6 v7 x2 v2).bind fun h8 => l_Mo_turnPairs_2 a0 v4 h8 := by
  unfold l_Mo_turnPairs_2
  refine ix_K_px kq_Mo_turnPairs i_Mo_turnPairs_2 rfl rfl ?_
  refine ix_K_if_lt (tgt := 41) kq_Mo_turnPairs i_Mo_turnPairs_3 rfl (by decide) ?_ ?_
  · exact ix_D_ret kq_Mo_turnPairs i_Mo_turnPairs_41 (ix_rtV rfl)
  · refine ix_K_px kq_Mo_turnPairs i_Mo_turnPairs_6 rfl rfl ?_
    refine ix_K_gr kq_Mo_turnPairs i_Mo_turnPairs_7 rfl (fun v1 => ?_)
    refine ix_K_px kq_Mo_turnPairs i_Mo_turnPairs_10 rfl rfl ?_
    refine ix_K_ai kq_Mo_turnPairs i_Mo_turnPairs_11 rfl (fun v2 => ?_)
    refine ix_K_si (L2 := [some (.ref a0), none, some (.int x2), some (.int v2), none]) kq_Mo_turnPairs i_Mo_turnPairs_12 rfl (Or.inr ⟨_, rfl, rfl⟩) (Nat.le_of_ble_eq_true rfl) rfl ?_
    refine ix_K_px kq_Mo_turnPairs i_Mo_turnPairs_13 rfl rfl ?_
    refine ix_K_gr kq_Mo_turnPairs i_Mo_turnPairs_14 rfl (fun v3 => ?_)
    refine ix_K_px kq_Mo_turnPairs i_Mo_turnPairs_17 rfl rfl ?_
    refine ix_K_ai kq_Mo_turnPairs i_Mo_turnPairs_18 rfl (fun v4 => ?_)
    refine ix_K_si (L2 := [some (.ref a0), none, some (.int x2), some (.int v2), some (.int v4)]) kq_Mo_turnPairs i_Mo_turnPairs_19 rfl (Or.inl rfl) (Nat.le_of_ble_eq_true rfl) rfl ?_
    refine ix_K_px kq_Mo_turnPairs i_Mo_turnPairs_21 rfl rfl ?_
    refine ix_K_gr kq_Mo_turnPairs i_Mo_turnPairs_22 rfl (fun v5 => ?_)
    refine ix_K_px kq_Mo_turnPairs i_Mo_turnPairs_25 rfl rfl ?_
    refine ix_K_px kq_Mo_turnPairs i_Mo_turnPairs_26 rfl rfl ?_
    refine ix_K_ti kq_Mo_turnPairs i_Mo_turnPairs_27 rfl (fun h6 => ?_)
    refine ix_K_px kq_Mo_turnPairs i_Mo_turnPairs_28 rfl rfl ?_
    refine ix_K_gr kq_Mo_turnPairs i_Mo_turnPairs_29 rfl (fun v7 => ?_)
    refine ix_K_px kq_Mo_turnPairs i_Mo_turnPairs_32 rfl rfl ?_
    refine ix_K_px kq_Mo_turnPairs i_Mo_turnPairs_33 rfl rfl ?_
    refine ix_K_ti kq_Mo_turnPairs i_Mo_turnPairs_34 rfl (fun h8 => ?_)
    refine ix_K_px kq_Mo_turnPairs i_Mo_turnPairs_35 rfl rfl ?_
    refine ix_K_si (L2 := [some (.ref a0), none, some (.int v4), some (.int v2), some (.int v4)]) kq_Mo_turnPairs i_Mo_turnPairs_37 rfl (Or.inr ⟨_, rfl, rfl⟩) (Nat.le_of_ble_eq_true rfl) rfl ?_
    refine ix_K_goto (tgt := 2) kq_Mo_turnPairs i_Mo_turnPairs_38 rfl (by decide) ?_
    exact ix_D_cut i_Mo_turnPairs_2 rfl
set_option maxRecDepth 20000 in
set_option maxHeartbeats 1000000 in
theorem e_Mo_turnPairs (a0 : Nat) (x1 : Int32) (h : ixH) : ix_D mMo_turnPairs 0 [some (.ref a0), some (.int x1), none, none, none] [] h = l_Mo_turnPairs_2 a0 x1 h := by
  refine ix_K_px kq_Mo_turnPairs i_Mo_turnPairs_0 rfl rfl ?_
  refine ix_K_si (L2 := [some (.ref a0), some (.int x1), some (.int x1), none, none]) kq_Mo_turnPairs i_Mo_turnPairs_1 rfl (Or.inr ⟨_, rfl, rfl⟩) (Nat.le_of_ble_eq_true rfl) rfl ?_
  exact ix_D_cut i_Mo_turnPairs_2 rfl
theorem x_Mo_turnPairs {a0 : Nat} {x1 : Int32} {h h1 : ixH} (hr : ix_rc h a0 = some 11) (hd : ix_D mMo_turnPairs 0 [some (.ref a0), some (.int x1), none, none, none] [] h = some ([], h1)) : ix_M mMo_turnPairs [.ref a0, .int x1] h = some ([], h1) := ix_M_of (ix_ent_i kq_Mo_turnPairs rfl hr rfl (Nat.le_of_ble_eq_true rfl) rfl) hd (ix_okrV rfl)
theorem i_Mo_group_0 : ix_nx mMo_group 0 = some (0, .aload_n 0, 1, none, [], 0) := rfl
theorem i_Mo_group_1 : ix_nx mMo_group 1 = some (3, .invokevirtual 248, 4, none, [0, 204, 214], 0) := rfl
theorem i_Mo_group_4 : ix_nx mMo_group 4 = some (0, .iload_n 1, 5, none, [], 0) := rfl
theorem i_Mo_group_5 : ix_nx mMo_group 5 = some (0, .iconst 0, 6, none, [], 0) := rfl
theorem i_Mo_group_6 : ix_nx mMo_group 6 = some (0, .aload_n 0, 7, none, [], 0) := rfl
theorem i_Mo_group_7 : ix_nx mMo_group 7 = some (1, .getfield 242, 10, none, [11, 27, 0, 117], 0) := rfl
theorem i_Mo_group_10 : ix_nx mMo_group 10 = some (0, .iconst 1, 11, none, [], 0) := rfl
theorem i_Mo_group_11 : ix_nx mMo_group 11 = some (0, .isub, 12, none, [], 0) := rfl
theorem i_Mo_group_12 : ix_nx mMo_group 12 = some (3, .invokestatic 98, 15, none, [1, 148, 174], 0) := rfl
theorem i_Mo_group_15 : ix_nx mMo_group 15 = some (0, .ifCond .eq 17, 18, none, [], 0) := rfl
theorem i_Mo_group_18 : ix_nx mMo_group 18 = some (0, .aload_n 0, 19, none, [], 0) := rfl
theorem i_Mo_group_19 : ix_nx mMo_group 19 = some (1, .getfield 60, 22, none, [11, 19, 2, 109], 0) := rfl
theorem i_Mo_group_22 : ix_nx mMo_group 22 = some (0, .aload_n 0, 23, none, [], 0) := rfl
theorem i_Mo_group_23 : ix_nx mMo_group 23 = some (1, .getfield 78, 26, none, [11, 26, 2, 116], 0) := rfl
theorem i_Mo_group_26 : ix_nx mMo_group 26 = some (0, .iload_n 1, 27, none, [], 0) := rfl
theorem i_Mo_group_27 : ix_nx mMo_group 27 = some (1, .iaload, 28, none, [], 0) := rfl
theorem i_Mo_group_28 : ix_nx mMo_group 28 = some (1, .iaload, 29, none, [], 0) := rfl
theorem i_Mo_group_29 : ix_nx mMo_group 29 = some (0, .goto 5, 32, none, [], 0) := rfl
theorem i_Mo_group_32 : ix_nx mMo_group 32 = some (0, .bipush (-6), 34, none, [], 0) := rfl
theorem i_Mo_group_34 : ix_nx mMo_group 34 = some (4, .ireturn, 35, none, [], 0) := rfl
set_option maxRecDepth 20000 in
set_option maxHeartbeats 1000000 in
theorem e_Mo_group (a0 : Nat) (x1 : Int32) (h : ixH) : ix_D mMo_group 0 [some (.ref a0), some (.int x1)] [] h = (ix_M mMo_layGroup [.ref a0] h).bind fun r => ix_kV r fun h1 => (ix_gi h1 a0 11 27).bind fun v2 => (ix_M mMo_in [.int x1, .int 0, .int (v2 - 1)] h1).bind fun r => ix_kZ r fun v4 h3 => if v4 = true then (ix_gr h3 a0 11 19).bind fun v5 => (ix_gr h3 a0 11 26).bind fun v6 => (ix_ai h3 v6 x1).bind fun v7 => (ix_ai h3 v5 v7).bind fun v8 => some ([.int v8], h3) else some ([.int (-6)], h3) := by
  refine ix_K_px kq_Mo_group i_Mo_group_0 rfl rfl ?_
  refine ix_K_callV (as := [.ref a0]) (rest := []) kq_Mo_group i_Mo_group_1 rfl kq_Mo_layGroup (by decide) rfl rfl (fun h1 => ?_)
  refine ix_K_px kq_Mo_group i_Mo_group_4 rfl rfl ?_
  refine ix_K_ci kq_Mo_group i_Mo_group_5 rfl kci_0 ?_
  refine ix_K_px kq_Mo_group i_Mo_group_6 rfl rfl ?_
  refine ix_K_gi kq_Mo_group i_Mo_group_7 rfl (fun v2 => ?_)
  refine ix_K_ci kq_Mo_group i_Mo_group_10 rfl kci_1 ?_
  refine ix_K_px kq_Mo_group i_Mo_group_11 rfl rfl ?_
  refine ix_K_callZ (as := [.int x1, .int 0, .int (v2 - 1)]) (rest := []) kq_Mo_group i_Mo_group_12 rfl kq_Mo_in (by decide) rfl rfl (fun v4 h3 => ?_)
  refine ix_K_bz_eq (tgt := 32) kq_Mo_group i_Mo_group_15 rfl (by decide) ?_ ?_
  · refine ix_K_px kq_Mo_group i_Mo_group_18 rfl rfl ?_
    refine ix_K_gr kq_Mo_group i_Mo_group_19 rfl (fun v5 => ?_)
    refine ix_K_px kq_Mo_group i_Mo_group_22 rfl rfl ?_
    refine ix_K_gr kq_Mo_group i_Mo_group_23 rfl (fun v6 => ?_)
    refine ix_K_px kq_Mo_group i_Mo_group_26 rfl rfl ?_
    refine ix_K_ai kq_Mo_group i_Mo_group_27 rfl (fun v7 => ?_)
    refine ix_K_ai kq_Mo_group i_Mo_group_28 rfl (fun v8 => ?_)
    refine ix_K_goto (tgt := 34) kq_Mo_group i_Mo_group_29 rfl (by decide) ?_
    exact ix_D_ret kq_Mo_group i_Mo_group_34 (ix_rtI rfl _)
  · refine ix_K_cb kq_Mo_group i_Mo_group_32 rfl kcb_m6 ?_
    exact ix_D_ret kq_Mo_group i_Mo_group_34 (ix_rtI rfl _)
theorem x_Mo_group {a0 : Nat} {x1 : Int32} {h h1 : ixH} {v : Int32} (hr : ix_rc h a0 = some 11) (hd : ix_D mMo_group 0 [some (.ref a0), some (.int x1)] [] h = some ([.int v], h1)) : ix_M mMo_group [.ref a0, .int x1] h = some ([.int v], h1) := ix_M_of (ix_ent_i kq_Mo_group rfl hr rfl (Nat.le_of_ble_eq_true rfl) rfl) hd (ix_okrI (Or.inl rfl) v)
theorem i_Mo_layGroup_0 : ix_nx mMo_layGroup 0 = some (0, .aload_n 0, 1, none, [], 0) := rfl
theorem i_Mo_layGroup_1 : ix_nx mMo_layGroup 1 = some (3, .invokevirtual 236, 4, none, [0, 198, 209], 0) := rfl
theorem i_Mo_layGroup_4 : ix_nx mMo_layGroup 4 = some (0, .istore_n 1, 5, none, [], 0) := rfl
theorem i_Mo_layGroup_5 : ix_nx mMo_layGroup 5 = some (0, .aload_n 0, 6, none, [], 0) := rfl
theorem i_Mo_layGroup_6 : ix_nx mMo_layGroup 6 = some (0, .iconst 0, 7, none, [], 0) := rfl
theorem i_Mo_layGroup_7 : ix_nx mMo_layGroup 7 = some (2, .putfield 242, 10, none, [11, 27, 0, 117], 0) := rfl
theorem i_Mo_layGroup_10 : ix_nx mMo_layGroup 10 = some (0, .iconst 0, 11, none, [], 0) := rfl
theorem i_Mo_layGroup_11 : ix_nx mMo_layGroup 11 = some (0, .istore_n 2, 12, none, [], 0) := rfl
theorem i_Mo_layGroup_12 : ix_nx mMo_layGroup 12 = some (0, .iload_n 2, 13, some [true, true, true, false, false], [], 0) := rfl
theorem i_Mo_layGroup_13 : ix_nx mMo_layGroup 13 = some (0, .aload_n 0, 14, none, [], 0) := rfl
theorem i_Mo_layGroup_14 : ix_nx mMo_layGroup 14 = some (1, .getfield 221, 17, none, [11, 20, 0, 110], 0) := rfl
theorem i_Mo_layGroup_17 : ix_nx mMo_layGroup 17 = some (0, .if_icmp .ge 110, 20, none, [], 0) := rfl
theorem i_Mo_layGroup_20 : ix_nx mMo_layGroup 20 = some (0, .aload_n 0, 21, none, [], 0) := rfl
theorem i_Mo_layGroup_21 : ix_nx mMo_layGroup 21 = some (1, .getfield 242, 24, none, [11, 27, 0, 117], 0) := rfl
theorem i_Mo_layGroup_24 : ix_nx mMo_layGroup 24 = some (0, .iload_n 1, 25, none, [], 0) := rfl
theorem i_Mo_layGroup_25 : ix_nx mMo_layGroup 25 = some (0, .if_icmp .ge 7, 28, none, [], 0) := rfl
theorem i_Mo_layGroup_28 : ix_nx mMo_layGroup 28 = some (0, .iconst 1, 29, none, [], 0) := rfl
theorem i_Mo_layGroup_29 : ix_nx mMo_layGroup 29 = some (0, .goto 4, 32, none, [], 0) := rfl
theorem i_Mo_layGroup_32 : ix_nx mMo_layGroup 32 = some (0, .iconst 0, 33, none, [], 0) := rfl
theorem i_Mo_layGroup_33 : ix_nx mMo_layGroup 33 = some (0, .istore_n 3, 34, none, [], 0) := rfl
theorem i_Mo_layGroup_34 : ix_nx mMo_layGroup 34 = some (0, .iconst 0, 35, none, [], 0) := rfl
theorem i_Mo_layGroup_35 : ix_nx mMo_layGroup 35 = some (0, .istore 4, 37, none, [], 0) := rfl
theorem i_Mo_layGroup_37 : ix_nx mMo_layGroup 37 = some (0, .iload 4, 39, some [true, true, true, true, true], [], 0) := rfl
theorem i_Mo_layGroup_39 : ix_nx mMo_layGroup 39 = some (0, .aload_n 0, 40, none, [], 0) := rfl
theorem i_Mo_layGroup_40 : ix_nx mMo_layGroup 40 = some (1, .getfield 242, 43, none, [11, 27, 0, 117], 0) := rfl
theorem i_Mo_layGroup_43 : ix_nx mMo_layGroup 43 = some (0, .if_icmp .ge 34, 46, none, [], 0) := rfl
theorem i_Mo_layGroup_46 : ix_nx mMo_layGroup 46 = some (0, .iload_n 3, 47, none, [], 0) := rfl
theorem i_Mo_layGroup_47 : ix_nx mMo_layGroup 47 = some (0, .ifCond .eq 22, 50, none, [], 0) := rfl
theorem i_Mo_layGroup_50 : ix_nx mMo_layGroup 50 = some (0, .aload_n 0, 51, none, [], 0) := rfl
theorem i_Mo_layGroup_51 : ix_nx mMo_layGroup 51 = some (0, .aload_n 0, 52, none, [], 0) := rfl
theorem i_Mo_layGroup_52 : ix_nx mMo_layGroup 52 = some (1, .getfield 78, 55, none, [11, 26, 2, 116], 0) := rfl
theorem i_Mo_layGroup_55 : ix_nx mMo_layGroup 55 = some (0, .iload 4, 57, none, [], 0) := rfl
theorem i_Mo_layGroup_57 : ix_nx mMo_layGroup 57 = some (1, .iaload, 58, none, [], 0) := rfl
theorem i_Mo_layGroup_58 : ix_nx mMo_layGroup 58 = some (0, .iload_n 2, 59, none, [], 0) := rfl
theorem i_Mo_layGroup_59 : ix_nx mMo_layGroup 59 = some (3, .invokevirtual 239, 62, none, [0, 205, 215], 0) := rfl
theorem i_Mo_layGroup_62 : ix_nx mMo_layGroup 62 = some (0, .ifCond .ne 7, 65, none, [], 0) := rfl
theorem i_Mo_layGroup_65 : ix_nx mMo_layGroup 65 = some (0, .iconst 1, 66, none, [], 0) := rfl
theorem i_Mo_layGroup_66 : ix_nx mMo_layGroup 66 = some (0, .goto 4, 69, none, [], 0) := rfl
theorem i_Mo_layGroup_69 : ix_nx mMo_layGroup 69 = some (0, .iconst 0, 70, none, [], 0) := rfl
theorem i_Mo_layGroup_70 : ix_nx mMo_layGroup 70 = some (0, .istore_n 3, 71, none, [], 0) := rfl
theorem i_Mo_layGroup_71 : ix_nx mMo_layGroup 71 = some (0, .iinc 4 1, 74, none, [], 0) := rfl
theorem i_Mo_layGroup_74 : ix_nx mMo_layGroup 74 = some (0, .goto (-37), 77, none, [], 0) := rfl
theorem i_Mo_layGroup_77 : ix_nx mMo_layGroup 77 = some (0, .iload_n 3, 78, none, [], 0) := rfl
theorem i_Mo_layGroup_78 : ix_nx mMo_layGroup 78 = some (0, .ifCond .eq 43, 81, none, [], 0) := rfl
theorem i_Mo_layGroup_81 : ix_nx mMo_layGroup 81 = some (0, .aload_n 0, 82, none, [], 0) := rfl
theorem i_Mo_layGroup_82 : ix_nx mMo_layGroup 82 = some (0, .iload_n 2, 83, none, [], 0) := rfl
theorem i_Mo_layGroup_83 : ix_nx mMo_layGroup 83 = some (3, .invokevirtual 245, 86, none, [0, 206, 216], 0) := rfl
theorem i_Mo_layGroup_86 : ix_nx mMo_layGroup 86 = some (0, .aload_n 0, 87, none, [], 0) := rfl
theorem i_Mo_layGroup_87 : ix_nx mMo_layGroup 87 = some (1, .getfield 242, 90, none, [11, 27, 0, 117], 0) := rfl
theorem i_Mo_layGroup_90 : ix_nx mMo_layGroup 90 = some (0, .iconst 1, 91, none, [], 0) := rfl
theorem i_Mo_layGroup_91 : ix_nx mMo_layGroup 91 = some (0, .iadd, 92, none, [], 0) := rfl
theorem i_Mo_layGroup_92 : ix_nx mMo_layGroup 92 = some (0, .aload_n 0, 93, none, [], 0) := rfl
theorem i_Mo_layGroup_93 : ix_nx mMo_layGroup 93 = some (3, .invokevirtual 233, 96, none, [0, 200, 211], 0) := rfl
theorem i_Mo_layGroup_96 : ix_nx mMo_layGroup 96 = some (0, .iadd, 97, none, [], 0) := rfl
theorem i_Mo_layGroup_97 : ix_nx mMo_layGroup 97 = some (0, .iload_n 1, 98, none, [], 0) := rfl
theorem i_Mo_layGroup_98 : ix_nx mMo_layGroup 98 = some (0, .if_icmp .ne 23, 101, none, [], 0) := rfl
theorem i_Mo_layGroup_101 : ix_nx mMo_layGroup 101 = some (0, .aload_n 0, 102, none, [], 0) := rfl
theorem i_Mo_layGroup_102 : ix_nx mMo_layGroup 102 = some (1, .getfield 78, 105, none, [11, 26, 2, 116], 0) := rfl
theorem i_Mo_layGroup_105 : ix_nx mMo_layGroup 105 = some (0, .aload_n 0, 106, none, [], 0) := rfl
theorem i_Mo_layGroup_106 : ix_nx mMo_layGroup 106 = some (1, .getfield 242, 109, none, [11, 27, 0, 117], 0) := rfl
theorem i_Mo_layGroup_109 : ix_nx mMo_layGroup 109 = some (0, .iload_n 2, 110, none, [], 0) := rfl
theorem i_Mo_layGroup_110 : ix_nx mMo_layGroup 110 = some (2, .iastore, 111, none, [], 0) := rfl
theorem i_Mo_layGroup_111 : ix_nx mMo_layGroup 111 = some (0, .aload_n 0, 112, none, [], 0) := rfl
theorem i_Mo_layGroup_112 : ix_nx mMo_layGroup 112 = some (0, .dup, 113, none, [], 0) := rfl
theorem i_Mo_layGroup_113 : ix_nx mMo_layGroup 113 = some (1, .getfield 242, 116, none, [11, 27, 0, 117], 0) := rfl
theorem i_Mo_layGroup_116 : ix_nx mMo_layGroup 116 = some (0, .iconst 1, 117, none, [], 0) := rfl
theorem i_Mo_layGroup_117 : ix_nx mMo_layGroup 117 = some (0, .iadd, 118, none, [], 0) := rfl
theorem i_Mo_layGroup_118 : ix_nx mMo_layGroup 118 = some (2, .putfield 242, 121, none, [11, 27, 0, 117], 0) := rfl
theorem i_Mo_layGroup_121 : ix_nx mMo_layGroup 121 = some (0, .iinc 2 1, 124, none, [], 0) := rfl
theorem i_Mo_layGroup_124 : ix_nx mMo_layGroup 124 = some (0, .goto (-112), 127, none, [], 0) := rfl
theorem i_Mo_layGroup_127 : ix_nx mMo_layGroup 127 = some (4, .return_, 128, none, [], 0) := rfl
noncomputable def l_Mo_layGroup_12 (a0 : Nat) (x1 : Int32) (x2 : Int32) (h : ixH) : Option (List Value × ixH) := ix_D mMo_layGroup 12 [some (.ref a0), some (.int x1), some (.int x2), none, none] [] h
noncomputable def l_Mo_layGroup_37 (a0 : Nat) (x1 : Int32) (x2 : Int32) (b3 : Bool) (x4 : Int32) (h : ixH) : Option (List Value × ixH) := ix_D mMo_layGroup 37 [some (.ref a0), some (.int x1), some (.int x2), some (.int (ix_bi b3)), some (.int x4)] [] h
set_option maxRecDepth 20000 in
set_option maxHeartbeats 1000000 in
theorem e_Mo_layGroup_12 (a0 : Nat) (x1 : Int32) (x2 : Int32) (h : ixH) : l_Mo_layGroup_12 a0 x1 x2 h = (ix_gi h a0 11 20).bind fun v1 => if v1 ≤ x2 then some ([], h) else (ix_gi h a0 11 27).bind fun v2 => if x1 ≤ v2 then l_Mo_layGroup_37 a0 x1 x2 false 0 h else l_Mo_layGroup_37 a0 x1 x2 true 0 h := by
  unfold l_Mo_layGroup_12
  refine ix_K_px kq_Mo_layGroup i_Mo_layGroup_12 rfl rfl ?_
  refine ix_K_px kq_Mo_layGroup i_Mo_layGroup_13 rfl rfl ?_
  refine ix_K_gi kq_Mo_layGroup i_Mo_layGroup_14 rfl (fun v1 => ?_)
  refine ix_K_ic_ge (tgt := 127) kq_Mo_layGroup i_Mo_layGroup_17 rfl (by decide) ?_ ?_
  · exact ix_D_ret kq_Mo_layGroup i_Mo_layGroup_127 (ix_rtV rfl)
  · refine ix_K_px kq_Mo_layGroup i_Mo_layGroup_20 rfl rfl ?_
    refine ix_K_gi kq_Mo_layGroup i_Mo_layGroup_21 rfl (fun v2 => ?_)
    refine ix_K_px kq_Mo_layGroup i_Mo_layGroup_24 rfl rfl ?_
    refine ix_K_ic_ge (tgt := 32) kq_Mo_layGroup i_Mo_layGroup_25 rfl (by decide) ?_ ?_
    · refine ix_K_ci kq_Mo_layGroup i_Mo_layGroup_32 rfl kci_0 ?_
      refine ix_K_si (L2 := [some (.ref a0), some (.int x1), some (.int x2), some (.int 0), none]) kq_Mo_layGroup i_Mo_layGroup_33 rfl (Or.inr ⟨_, rfl, rfl⟩) (Nat.le_of_ble_eq_true rfl) rfl ?_
      refine ix_K_ci kq_Mo_layGroup i_Mo_layGroup_34 rfl kci_0 ?_
      refine ix_K_si (L2 := [some (.ref a0), some (.int x1), some (.int x2), some (.int 0), some (.int 0)]) kq_Mo_layGroup i_Mo_layGroup_35 rfl (Or.inl rfl) (Nat.le_of_ble_eq_true rfl) rfl ?_
      exact ix_D_cut i_Mo_layGroup_37 rfl
    · refine ix_K_ci kq_Mo_layGroup i_Mo_layGroup_28 rfl kci_1 ?_
      refine ix_K_goto (tgt := 33) kq_Mo_layGroup i_Mo_layGroup_29 rfl (by decide) ?_
      refine ix_K_si (L2 := [some (.ref a0), some (.int x1), some (.int x2), some (.int 1), none]) kq_Mo_layGroup i_Mo_layGroup_33 rfl (Or.inr ⟨_, rfl, rfl⟩) (Nat.le_of_ble_eq_true rfl) rfl ?_
      refine ix_K_ci kq_Mo_layGroup i_Mo_layGroup_34 rfl kci_0 ?_
      refine ix_K_si (L2 := [some (.ref a0), some (.int x1), some (.int x2), some (.int 1), some (.int 0)]) kq_Mo_layGroup i_Mo_layGroup_35 rfl (Or.inl rfl) (Nat.le_of_ble_eq_true rfl) rfl ?_
      exact ix_D_cut i_Mo_layGroup_37 rfl
set_option maxRecDepth 20000 in
set_option maxHeartbeats 1000000 in
theorem e_Mo_layGroup_37 (a0 : Nat) (x1 : Int32) (x2 : Int32) (b3 : Bool) (x4 : Int32) (h : ixH) : l_Mo_layGroup_37 a0 x1 x2 b3 x4 h = (ix_gi h a0 11 27).bind fun v1 => if v1 ≤ x4 then if b3 = true then (ix_M mMo_lookBehind [.ref a0, .int x2] h).bind fun r => ix_kV r fun h2 => (ix_gi h2 a0 11 27).bind fun v3 => (ix_M mMo_widest [.ref a0] h2).bind fun r => ix_kI r fun v5 h4 => if ¬ ((v3 + 1) + v5) = x1 then l_Mo_layGroup_12 a0 x1 (x2 + 1) h4 else (ix_gr h4 a0 11 26).bind fun v6 => (ix_gi h4 a0 11 27).bind fun v7 => (ix_si h4 v6 v7 x2).bind fun h8 => (ix_gi h8 a0 11 27).bind fun v9 => (ix_pf h8 a0 11 27 (.int (v9 + 1))).bind fun h10 => l_Mo_layGroup_12 a0 x1 (x2 + 1) h10 else l_Mo_layGroup_12 a0 x1 (x2 + 1) h else if b3 = true then (ix_gr h a0 11 26).bind fun v11 => (ix_ai h v11 x4).bind fun v12 => (ix_M mMo_areComparable [.ref a0, .int v12, .int x2] h).bind fun r => ix_kZ r fun v14 h13 => if v14 = true then l_Mo_layGroup_37 a0 x1 x2 false (x4 + 1) h13 else l_Mo_layGroup_37 a0 x1 x2 true (x4 + 1) h13 else l_Mo_layGroup_37 a0 x1 x2 false (x4 + 1) h := by
  unfold l_Mo_layGroup_37
  refine ix_K_px kq_Mo_layGroup i_Mo_layGroup_37 rfl rfl ?_
  refine ix_K_px kq_Mo_layGroup i_Mo_layGroup_39 rfl rfl ?_
  refine ix_K_gi kq_Mo_layGroup i_Mo_layGroup_40 rfl (fun v1 => ?_)
  refine ix_K_ic_ge (tgt := 77) kq_Mo_layGroup i_Mo_layGroup_43 rfl (by decide) ?_ ?_
  · refine ix_K_px kq_Mo_layGroup i_Mo_layGroup_77 rfl rfl ?_
    refine ix_K_bz_eq (tgt := 121) kq_Mo_layGroup i_Mo_layGroup_78 rfl (by decide) ?_ ?_
    · refine ix_K_px kq_Mo_layGroup i_Mo_layGroup_81 rfl rfl ?_
      refine ix_K_px kq_Mo_layGroup i_Mo_layGroup_82 rfl rfl ?_
      refine ix_K_callV (as := [.ref a0, .int x2]) (rest := []) kq_Mo_layGroup i_Mo_layGroup_83 rfl kq_Mo_lookBehind (by decide) rfl rfl (fun h2 => ?_)
      refine ix_K_px kq_Mo_layGroup i_Mo_layGroup_86 rfl rfl ?_
      refine ix_K_gi kq_Mo_layGroup i_Mo_layGroup_87 rfl (fun v3 => ?_)
      refine ix_K_ci kq_Mo_layGroup i_Mo_layGroup_90 rfl kci_1 ?_
      refine ix_K_px kq_Mo_layGroup i_Mo_layGroup_91 rfl rfl ?_
      refine ix_K_px kq_Mo_layGroup i_Mo_layGroup_92 rfl rfl ?_
      refine ix_K_callI (as := [.ref a0]) (rest := [.int (v3 + 1)]) kq_Mo_layGroup i_Mo_layGroup_93 rfl kq_Mo_widest (by decide) rfl (Or.inl rfl) (fun v5 h4 => ?_)
      refine ix_K_px kq_Mo_layGroup i_Mo_layGroup_96 rfl rfl ?_
      refine ix_K_px kq_Mo_layGroup i_Mo_layGroup_97 rfl rfl ?_
      refine ix_K_ic_ne (tgt := 121) kq_Mo_layGroup i_Mo_layGroup_98 rfl (by decide) ?_ ?_
      · refine ix_K_inc (L2 := [some (.ref a0), some (.int x1), some (.int (x2 + 1)), some (.int (ix_bi b3)), some (.int x4)]) kq_Mo_layGroup i_Mo_layGroup_121 rfl rfl (Nat.le_of_ble_eq_true rfl) kci_1 rfl ?_
        refine ix_K_goto (tgt := 12) kq_Mo_layGroup i_Mo_layGroup_124 rfl (by decide) ?_
        exact ix_D_cut i_Mo_layGroup_12 rfl
      · refine ix_K_px kq_Mo_layGroup i_Mo_layGroup_101 rfl rfl ?_
        refine ix_K_gr kq_Mo_layGroup i_Mo_layGroup_102 rfl (fun v6 => ?_)
        refine ix_K_px kq_Mo_layGroup i_Mo_layGroup_105 rfl rfl ?_
        refine ix_K_gi kq_Mo_layGroup i_Mo_layGroup_106 rfl (fun v7 => ?_)
        refine ix_K_px kq_Mo_layGroup i_Mo_layGroup_109 rfl rfl ?_
        refine ix_K_ti kq_Mo_layGroup i_Mo_layGroup_110 rfl (fun h8 => ?_)
        refine ix_K_px kq_Mo_layGroup i_Mo_layGroup_111 rfl rfl ?_
        refine ix_K_px kq_Mo_layGroup i_Mo_layGroup_112 rfl rfl ?_
        refine ix_K_gi kq_Mo_layGroup i_Mo_layGroup_113 rfl (fun v9 => ?_)
        refine ix_K_ci kq_Mo_layGroup i_Mo_layGroup_116 rfl kci_1 ?_
        refine ix_K_px kq_Mo_layGroup i_Mo_layGroup_117 rfl rfl ?_
        refine ix_K_pf kq_Mo_layGroup i_Mo_layGroup_118 rfl rfl (fun h10 => ?_)
        refine ix_K_inc (L2 := [some (.ref a0), some (.int x1), some (.int (x2 + 1)), some (.int (ix_bi b3)), some (.int x4)]) kq_Mo_layGroup i_Mo_layGroup_121 rfl rfl (Nat.le_of_ble_eq_true rfl) kci_1 rfl ?_
        refine ix_K_goto (tgt := 12) kq_Mo_layGroup i_Mo_layGroup_124 rfl (by decide) ?_
        exact ix_D_cut i_Mo_layGroup_12 rfl
    · refine ix_K_inc (L2 := [some (.ref a0), some (.int x1), some (.int (x2 + 1)), some (.int (ix_bi b3)), some (.int x4)]) kq_Mo_layGroup i_Mo_layGroup_121 rfl rfl (Nat.le_of_ble_eq_true rfl) kci_1 rfl ?_
      refine ix_K_goto (tgt := 12) kq_Mo_layGroup i_Mo_layGroup_124 rfl (by decide) ?_
      exact ix_D_cut i_Mo_layGroup_12 rfl
  · refine ix_K_px kq_Mo_layGroup i_Mo_layGroup_46 rfl rfl ?_
    refine ix_K_bz_eq (tgt := 69) kq_Mo_layGroup i_Mo_layGroup_47 rfl (by decide) ?_ ?_
    · refine ix_K_px kq_Mo_layGroup i_Mo_layGroup_50 rfl rfl ?_
      refine ix_K_px kq_Mo_layGroup i_Mo_layGroup_51 rfl rfl ?_
      refine ix_K_gr kq_Mo_layGroup i_Mo_layGroup_52 rfl (fun v11 => ?_)
      refine ix_K_px kq_Mo_layGroup i_Mo_layGroup_55 rfl rfl ?_
      refine ix_K_ai kq_Mo_layGroup i_Mo_layGroup_57 rfl (fun v12 => ?_)
      refine ix_K_px kq_Mo_layGroup i_Mo_layGroup_58 rfl rfl ?_
      refine ix_K_callZ (as := [.ref a0, .int v12, .int x2]) (rest := []) kq_Mo_layGroup i_Mo_layGroup_59 rfl kq_Mo_areComparable (by decide) rfl rfl (fun v14 h13 => ?_)
      refine ix_K_bz_ne (tgt := 69) kq_Mo_layGroup i_Mo_layGroup_62 rfl (by decide) ?_ ?_
      · refine ix_K_ci kq_Mo_layGroup i_Mo_layGroup_69 rfl kci_0 ?_
        refine ix_K_si (L2 := [some (.ref a0), some (.int x1), some (.int x2), some (.int 0), some (.int x4)]) kq_Mo_layGroup i_Mo_layGroup_70 rfl (Or.inr ⟨_, rfl, rfl⟩) (Nat.le_of_ble_eq_true rfl) rfl ?_
        refine ix_K_inc (L2 := [some (.ref a0), some (.int x1), some (.int x2), some (.int 0), some (.int (x4 + 1))]) kq_Mo_layGroup i_Mo_layGroup_71 rfl rfl (Nat.le_of_ble_eq_true rfl) kci_1 rfl ?_
        refine ix_K_goto (tgt := 37) kq_Mo_layGroup i_Mo_layGroup_74 rfl (by decide) ?_
        exact ix_D_cut i_Mo_layGroup_37 rfl
      · refine ix_K_ci kq_Mo_layGroup i_Mo_layGroup_65 rfl kci_1 ?_
        refine ix_K_goto (tgt := 70) kq_Mo_layGroup i_Mo_layGroup_66 rfl (by decide) ?_
        refine ix_K_si (L2 := [some (.ref a0), some (.int x1), some (.int x2), some (.int 1), some (.int x4)]) kq_Mo_layGroup i_Mo_layGroup_70 rfl (Or.inr ⟨_, rfl, rfl⟩) (Nat.le_of_ble_eq_true rfl) rfl ?_
        refine ix_K_inc (L2 := [some (.ref a0), some (.int x1), some (.int x2), some (.int 1), some (.int (x4 + 1))]) kq_Mo_layGroup i_Mo_layGroup_71 rfl rfl (Nat.le_of_ble_eq_true rfl) kci_1 rfl ?_
        refine ix_K_goto (tgt := 37) kq_Mo_layGroup i_Mo_layGroup_74 rfl (by decide) ?_
        exact ix_D_cut i_Mo_layGroup_37 rfl
    · refine ix_K_ci kq_Mo_layGroup i_Mo_layGroup_69 rfl kci_0 ?_
      refine ix_K_si (L2 := [some (.ref a0), some (.int x1), some (.int x2), some (.int 0), some (.int x4)]) kq_Mo_layGroup i_Mo_layGroup_70 rfl (Or.inr ⟨_, rfl, rfl⟩) (Nat.le_of_ble_eq_true rfl) rfl ?_
      refine ix_K_inc (L2 := [some (.ref a0), some (.int x1), some (.int x2), some (.int 0), some (.int (x4 + 1))]) kq_Mo_layGroup i_Mo_layGroup_71 rfl rfl (Nat.le_of_ble_eq_true rfl) kci_1 rfl ?_
      refine ix_K_goto (tgt := 37) kq_Mo_layGroup i_Mo_layGroup_74 rfl (by decide) ?_
      exact ix_D_cut i_Mo_layGroup_37 rfl
set_option maxRecDepth 20000 in
set_option maxHeartbeats 1000000 in
theorem e_Mo_layGroup (a0 : Nat) (h : ixH) : ix_D mMo_layGroup 0 [some (.ref a0), none, none, none, none] [] h = (ix_M mMo_wholeCover [.ref a0] h).bind fun r => ix_kI r fun v2 h1 => (ix_pf h1 a0 11 27 (.int 0)).bind fun h3 => l_Mo_layGroup_12 a0 v2 0 h3 := by
  refine ix_K_px kq_Mo_layGroup i_Mo_layGroup_0 rfl rfl ?_
  refine ix_K_callI (as := [.ref a0]) (rest := []) kq_Mo_layGroup i_Mo_layGroup_1 rfl kq_Mo_wholeCover (by decide) rfl (Or.inl rfl) (fun v2 h1 => ?_)
  refine ix_K_si (L2 := [some (.ref a0), some (.int v2), none, none, none]) kq_Mo_layGroup i_Mo_layGroup_4 rfl (Or.inr ⟨_, rfl, rfl⟩) (Nat.le_of_ble_eq_true rfl) rfl ?_
  refine ix_K_px kq_Mo_layGroup i_Mo_layGroup_5 rfl rfl ?_
  refine ix_K_ci kq_Mo_layGroup i_Mo_layGroup_6 rfl kci_0 ?_
  refine ix_K_pf kq_Mo_layGroup i_Mo_layGroup_7 rfl rfl (fun h3 => ?_)
  refine ix_K_ci kq_Mo_layGroup i_Mo_layGroup_10 rfl kci_0 ?_
  refine ix_K_si (L2 := [some (.ref a0), some (.int v2), some (.int 0), none, none]) kq_Mo_layGroup i_Mo_layGroup_11 rfl (Or.inr ⟨_, rfl, rfl⟩) (Nat.le_of_ble_eq_true rfl) rfl ?_
  exact ix_D_cut i_Mo_layGroup_12 rfl
theorem x_Mo_layGroup {a0 : Nat} {h h1 : ixH} (hr : ix_rc h a0 = some 11) (hd : ix_D mMo_layGroup 0 [some (.ref a0), none, none, none, none] [] h = some ([], h1)) : ix_M mMo_layGroup [.ref a0] h = some ([], h1) := ix_M_of (ix_ent_i kq_Mo_layGroup rfl hr rfl (Nat.le_of_ble_eq_true rfl) rfl) hd (ix_okrV rfl)
