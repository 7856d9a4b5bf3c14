/-! PRINTED by wip/whole/gen6.py -/
theorem i_Bd_init_0 : ix_nx mBd_init 0 = some (0, .aload_n 0, 1, none, [], 0) := rfl
theorem i_Bd_init_1 : ix_nx mBd_init 1 = some (3, .invokespecial 3, 4, none, [6, 0, 75], 0) := rfl
theorem i_Bd_init_4 : ix_nx mBd_init 4 = some (0, .aload_n 0, 5, none, [], 0) := rfl
theorem i_Bd_init_5 : ix_nx mBd_init 5 = some (2, .new 9, 8, none, [2, 2], 0) := rfl
theorem i_Bd_init_8 : ix_nx mBd_init 8 = some (0, .dup, 9, none, [], 0) := rfl
theorem i_Bd_init_9 : ix_nx mBd_init 9 = some (3, .invokespecial 11, 12, none, [4, 60, 76], 0) := rfl
theorem i_Bd_init_12 : ix_nx mBd_init 12 = some (2, .putfield 12, 15, none, [1, 0, 2, 30], 0) := rfl
theorem i_Bd_init_15 : ix_nx mBd_init 15 = some (0, .aload_n 0, 16, none, [], 0) := rfl
theorem i_Bd_init_16 : ix_nx mBd_init 16 = some (0, .iconst 5, 17, none, [], 0) := rfl
theorem i_Bd_init_17 : ix_nx mBd_init 17 = some (2, .anewarray 18, 20, none, [4, 3], 0) := rfl
theorem i_Bd_init_20 : ix_nx mBd_init 20 = some (0, .dup, 21, none, [], 0) := rfl
theorem i_Bd_init_21 : ix_nx mBd_init 21 = some (0, .iconst 0, 22, none, [], 0) := rfl
theorem i_Bd_init_22 : ix_nx mBd_init 22 = some (2, .new 18, 25, none, [3, 3], 0) := rfl
theorem i_Bd_init_25 : ix_nx mBd_init 25 = some (0, .dup, 26, none, [], 0) := rfl
theorem i_Bd_init_26 : ix_nx mBd_init 26 = some (3, .invokespecial 20, 29, none, [4, 79, 77], 0) := rfl
theorem i_Bd_init_29 : ix_nx mBd_init 29 = some (2, .aastore, 30, none, [4], 0) := rfl
theorem i_Bd_init_30 : ix_nx mBd_init 30 = some (0, .dup, 31, none, [], 0) := rfl
theorem i_Bd_init_31 : ix_nx mBd_init 31 = some (0, .iconst 1, 32, none, [], 0) := rfl
theorem i_Bd_init_32 : ix_nx mBd_init 32 = some (2, .new 18, 35, none, [3, 3], 0) := rfl
theorem i_Bd_init_35 : ix_nx mBd_init 35 = some (0, .dup, 36, none, [], 0) := rfl
theorem i_Bd_init_36 : ix_nx mBd_init 36 = some (3, .invokespecial 20, 39, none, [4, 79, 77], 0) := rfl
theorem i_Bd_init_39 : ix_nx mBd_init 39 = some (2, .aastore, 40, none, [4], 0) := rfl
theorem i_Bd_init_40 : ix_nx mBd_init 40 = some (0, .dup, 41, none, [], 0) := rfl
theorem i_Bd_init_41 : ix_nx mBd_init 41 = some (0, .iconst 2, 42, none, [], 0) := rfl
theorem i_Bd_init_42 : ix_nx mBd_init 42 = some (2, .new 18, 45, none, [3, 3], 0) := rfl
theorem i_Bd_init_45 : ix_nx mBd_init 45 = some (0, .dup, 46, none, [], 0) := rfl
theorem i_Bd_init_46 : ix_nx mBd_init 46 = some (3, .invokespecial 20, 49, none, [4, 79, 77], 0) := rfl
theorem i_Bd_init_49 : ix_nx mBd_init 49 = some (2, .aastore, 50, none, [4], 0) := rfl
theorem i_Bd_init_50 : ix_nx mBd_init 50 = some (0, .dup, 51, none, [], 0) := rfl
theorem i_Bd_init_51 : ix_nx mBd_init 51 = some (0, .iconst 3, 52, none, [], 0) := rfl
theorem i_Bd_init_52 : ix_nx mBd_init 52 = some (2, .new 18, 55, none, [3, 3], 0) := rfl
theorem i_Bd_init_55 : ix_nx mBd_init 55 = some (0, .dup, 56, none, [], 0) := rfl
theorem i_Bd_init_56 : ix_nx mBd_init 56 = some (3, .invokespecial 20, 59, none, [4, 79, 77], 0) := rfl
theorem i_Bd_init_59 : ix_nx mBd_init 59 = some (2, .aastore, 60, none, [4], 0) := rfl
theorem i_Bd_init_60 : ix_nx mBd_init 60 = some (0, .dup, 61, none, [], 0) := rfl
theorem i_Bd_init_61 : ix_nx mBd_init 61 = some (0, .iconst 4, 62, none, [], 0) := rfl
theorem i_Bd_init_62 : ix_nx mBd_init 62 = some (2, .new 18, 65, none, [3, 3], 0) := rfl
theorem i_Bd_init_65 : ix_nx mBd_init 65 = some (0, .dup, 66, none, [], 0) := rfl
theorem i_Bd_init_66 : ix_nx mBd_init 66 = some (3, .invokespecial 20, 69, none, [4, 79, 77], 0) := rfl
theorem i_Bd_init_69 : ix_nx mBd_init 69 = some (2, .aastore, 70, none, [4], 0) := rfl
theorem i_Bd_init_70 : ix_nx mBd_init 70 = some (2, .putfield 21, 73, none, [1, 1, 2, 34], 0) := rfl
theorem i_Bd_init_73 : ix_nx mBd_init 73 = some (0, .aload_n 0, 74, none, [], 0) := rfl
theorem i_Bd_init_74 : ix_nx mBd_init 74 = some (0, .iconst 4, 75, none, [], 0) := rfl
theorem i_Bd_init_75 : ix_nx mBd_init 75 = some (2, .newarray .int, 77, none, [], 0) := rfl
theorem i_Bd_init_77 : ix_nx mBd_init 77 = some (2, .putfield 25, 80, none, [1, 2, 2, 36], 0) := rfl
theorem i_Bd_init_80 : ix_nx mBd_init 80 = some (0, .aload_n 0, 81, none, [], 0) := rfl
theorem i_Bd_init_81 : ix_nx mBd_init 81 = some (0, .iconst 4, 82, none, [], 0) := rfl
theorem i_Bd_init_82 : ix_nx mBd_init 82 = some (2, .newarray .int, 84, none, [], 0) := rfl
theorem i_Bd_init_84 : ix_nx mBd_init 84 = some (2, .putfield 29, 87, none, [1, 3, 2, 39], 0) := rfl
theorem i_Bd_init_87 : ix_nx mBd_init 87 = some (0, .aload_n 0, 88, none, [], 0) := rfl
theorem i_Bd_init_88 : ix_nx mBd_init 88 = some (0, .iconst 0, 89, none, [], 0) := rfl
theorem i_Bd_init_89 : ix_nx mBd_init 89 = some (2, .putfield 32, 92, none, [1, 4, 0, 42], 0) := rfl
theorem i_Bd_init_92 : ix_nx mBd_init 92 = some (4, .return_, 93, none, [], 0) := rfl
set_option maxRecDepth 20000 in
set_option maxHeartbeats 1000000 in
theorem e_Bd_init (a0 : Nat) (h : ixH) : ix_D mBd_init 0 [some (.ref a0)] [] h = (ix_M mGr_init [.ref h.1] (ix_nw h (.inr (2, ix_df 2)) (ix_N 2))).bind fun r => ix_kV r fun h1 => (ix_pf h1 a0 1 0 (.ref h.1)).bind fun h2 => (ix_M mRt_init [.ref (ix_nw h2 (.inl (4, 5, .inr (.inr (.inr (.inr fun _ => none))))) 5).1] (ix_nw (ix_nw h2 (.inl (4, 5, .inr (.inr (.inr (.inr fun _ => none))))) 5) (.inr (3, ix_df 3)) (ix_N 3))).bind fun r => ix_kV r fun h3 => (ix_sq h3 4 h2.1 0 (ix_nw h2 (.inl (4, 5, .inr (.inr (.inr (.inr fun _ => none))))) 5).1).bind fun h4 => (ix_M mRt_init [.ref h4.1] (ix_nw h4 (.inr (3, ix_df 3)) (ix_N 3))).bind fun r => ix_kV r fun h5 => (ix_sq h5 4 h2.1 1 h4.1).bind fun h6 => (ix_M mRt_init [.ref h6.1] (ix_nw h6 (.inr (3, ix_df 3)) (ix_N 3))).bind fun r => ix_kV r fun h7 => (ix_sq h7 4 h2.1 2 h6.1).bind fun h8 => (ix_M mRt_init [.ref h8.1] (ix_nw h8 (.inr (3, ix_df 3)) (ix_N 3))).bind fun r => ix_kV r fun h9 => (ix_sq h9 4 h2.1 3 h8.1).bind fun h10 => (ix_M mRt_init [.ref h10.1] (ix_nw h10 (.inr (3, ix_df 3)) (ix_N 3))).bind fun r => ix_kV r fun h11 => (ix_sq h11 4 h2.1 4 h10.1).bind fun h12 => (ix_pf h12 a0 1 1 (.ref h2.1)).bind fun h13 => (ix_pf (ix_nw h13 (.inl (0, 4, .inl fun _ => 0)) 4) a0 1 2 (.ref h13.1)).bind fun h14 => (ix_pf (ix_nw h14 (.inl (0, 4, .inl fun _ => 0)) 4) a0 1 3 (.ref h14.1)).bind fun h15 => (ix_pf h15 a0 1 4 (.int 0)).bind fun h16 => some ([], h16) := by
  refine ix_K_px kq_Bd_init i_Bd_init_0 rfl rfl ?_
  refine ix_K_obj kq_Bd_init i_Bd_init_1 rfl (Nat.le_of_ble_eq_true rfl) ?_
  refine ix_K_px kq_Bd_init i_Bd_init_4 rfl rfl ?_
  refine ix_K_nw kq_Bd_init i_Bd_init_5 rfl rfl ?_
  refine ix_K_px kq_Bd_init i_Bd_init_8 rfl rfl ?_
  refine ix_K_callV (as := [.ref h.1]) (rest := [.ref h.1, .ref a0]) kq_Bd_init i_Bd_init_9 rfl kq_Gr_init (by decide) rfl rfl (fun h1 => ?_)
  refine ix_K_pf kq_Bd_init i_Bd_init_12 rfl rfl (fun h2 => ?_)
  refine ix_K_px kq_Bd_init i_Bd_init_15 rfl rfl ?_
  refine ix_K_ci kq_Bd_init i_Bd_init_16 rfl kci_5 ?_
  refine ix_K_naQ kq_Bd_init i_Bd_init_17 rfl kna_5 knb_5 (by decide) ?_
  refine ix_K_px kq_Bd_init i_Bd_init_20 rfl rfl ?_
  refine ix_K_ci kq_Bd_init i_Bd_init_21 rfl kci_0 ?_
  refine ix_K_nw kq_Bd_init i_Bd_init_22 rfl rfl ?_
  refine ix_K_px kq_Bd_init i_Bd_init_25 rfl rfl ?_
  refine ix_K_callV (as := [.ref (ix_nw h2 (.inl (4, 5, .inr (.inr (.inr (.inr fun _ => none))))) 5).1]) (rest := [.ref (ix_nw h2 (.inl (4, 5, .inr (.inr (.inr (.inr fun _ => none))))) 5).1, .int 0, .ref h2.1, .ref h2.1, .ref a0]) kq_Bd_init i_Bd_init_26 rfl kq_Rt_init (by decide) rfl rfl (fun h3 => ?_)
  refine ix_K_tq kq_Bd_init i_Bd_init_29 rfl (fun h4 => ?_)
  refine ix_K_px kq_Bd_init i_Bd_init_30 rfl rfl ?_
  refine ix_K_ci kq_Bd_init i_Bd_init_31 rfl kci_1 ?_
  refine ix_K_nw kq_Bd_init i_Bd_init_32 rfl rfl ?_
  refine ix_K_px kq_Bd_init i_Bd_init_35 rfl rfl ?_
  refine ix_K_callV (as := [.ref h4.1]) (rest := [.ref h4.1, .int 1, .ref h2.1, .ref h2.1, .ref a0]) kq_Bd_init i_Bd_init_36 rfl kq_Rt_init (by decide) rfl rfl (fun h5 => ?_)
  refine ix_K_tq kq_Bd_init i_Bd_init_39 rfl (fun h6 => ?_)
  refine ix_K_px kq_Bd_init i_Bd_init_40 rfl rfl ?_
  refine ix_K_ci kq_Bd_init i_Bd_init_41 rfl kci_2 ?_
  refine ix_K_nw kq_Bd_init i_Bd_init_42 rfl rfl ?_
  refine ix_K_px kq_Bd_init i_Bd_init_45 rfl rfl ?_
  refine ix_K_callV (as := [.ref h6.1]) (rest := [.ref h6.1, .int 2, .ref h2.1, .ref h2.1, .ref a0]) kq_Bd_init i_Bd_init_46 rfl kq_Rt_init (by decide) rfl rfl (fun h7 => ?_)
  refine ix_K_tq kq_Bd_init i_Bd_init_49 rfl (fun h8 => ?_)
  refine ix_K_px kq_Bd_init i_Bd_init_50 rfl rfl ?_
  refine ix_K_ci kq_Bd_init i_Bd_init_51 rfl kci_3 ?_
  refine ix_K_nw kq_Bd_init i_Bd_init_52 rfl rfl ?_
  refine ix_K_px kq_Bd_init i_Bd_init_55 rfl rfl ?_
  refine ix_K_callV (as := [.ref h8.1]) (rest := [.ref h8.1, .int 3, .ref h2.1, .ref h2.1, .ref a0]) kq_Bd_init i_Bd_init_56 rfl kq_Rt_init (by decide) rfl rfl (fun h9 => ?_)
  refine ix_K_tq kq_Bd_init i_Bd_init_59 rfl (fun h10 => ?_)
  refine ix_K_px kq_Bd_init i_Bd_init_60 rfl rfl ?_
  refine ix_K_ci kq_Bd_init i_Bd_init_61 rfl kci_4 ?_
  refine ix_K_nw kq_Bd_init i_Bd_init_62 rfl rfl ?_
  refine ix_K_px kq_Bd_init i_Bd_init_65 rfl rfl ?_
  refine ix_K_callV (as := [.ref h10.1]) (rest := [.ref h10.1, .int 4, .ref h2.1, .ref h2.1, .ref a0]) kq_Bd_init i_Bd_init_66 rfl kq_Rt_init (by decide) rfl rfl (fun h11 => ?_)
  refine ix_K_tq kq_Bd_init i_Bd_init_69 rfl (fun h12 => ?_)
  refine ix_K_pf kq_Bd_init i_Bd_init_70 rfl rfl (fun h13 => ?_)
  refine ix_K_px kq_Bd_init i_Bd_init_73 rfl rfl ?_
  refine ix_K_ci kq_Bd_init i_Bd_init_74 rfl kci_4 ?_
  refine ix_K_naI kq_Bd_init i_Bd_init_75 rfl kna_4 knb_4 (by decide) ?_
  refine ix_K_pf kq_Bd_init i_Bd_init_77 rfl rfl (fun h14 => ?_)
  refine ix_K_px kq_Bd_init i_Bd_init_80 rfl rfl ?_
  refine ix_K_ci kq_Bd_init i_Bd_init_81 rfl kci_4 ?_
  refine ix_K_naI kq_Bd_init i_Bd_init_82 rfl kna_4 knb_4 (by decide) ?_
  refine ix_K_pf kq_Bd_init i_Bd_init_84 rfl rfl (fun h15 => ?_)
  refine ix_K_px kq_Bd_init i_Bd_init_87 rfl rfl ?_
  refine ix_K_ci kq_Bd_init i_Bd_init_88 rfl kci_0 ?_
  refine ix_K_pf kq_Bd_init i_Bd_init_89 rfl rfl (fun h16 => ?_)
  exact ix_D_ret kq_Bd_init i_Bd_init_92 (ix_rtV rfl)
theorem x_Bd_init {a0 : Nat} {h h1 : ixH} (hd : ix_D mBd_init 0 [some (.ref a0)] [] h = some ([], h1)) : ix_M mBd_init [.ref a0] h = some ([], h1) := ix_M_of (ix_ent_c kq_Bd_init rfl rfl (Nat.le_of_ble_eq_true rfl) rfl) hd (ix_okrV rfl)
theorem i_Bd_begin_0 : ix_nx mBd_begin 0 = some (0, .aload_n 0, 1, none, [], 0) := rfl
theorem i_Bd_begin_1 : ix_nx mBd_begin 1 = some (1, .getfield 12, 4, none, [1, 0, 2, 30], 0) := rfl
theorem i_Bd_begin_4 : ix_nx mBd_begin 4 = some (0, .iload_n 1, 5, none, [], 0) := rfl
theorem i_Bd_begin_5 : ix_nx mBd_begin 5 = some (0, .iload_n 2, 6, none, [], 0) := rfl
theorem i_Bd_begin_6 : ix_nx mBd_begin 6 = some (3, .invokevirtual 36, 9, none, [0, 61, 78], 0) := rfl
theorem i_Bd_begin_9 : ix_nx mBd_begin 9 = some (0, .aload_n 0, 10, none, [], 0) := rfl
theorem i_Bd_begin_10 : ix_nx mBd_begin 10 = some (0, .iconst 0, 11, none, [], 0) := rfl
theorem i_Bd_begin_11 : ix_nx mBd_begin 11 = some (2, .putfield 32, 14, none, [1, 4, 0, 42], 0) := rfl
theorem i_Bd_begin_14 : ix_nx mBd_begin 14 = some (0, .iconst 0, 15, none, [], 0) := rfl
theorem i_Bd_begin_15 : ix_nx mBd_begin 15 = some (0, .istore_n 3, 16, none, [], 0) := rfl
theorem i_Bd_begin_16 : ix_nx mBd_begin 16 = some (0, .iload_n 3, 17, some [true, false, false, true], [], 0) := rfl
theorem i_Bd_begin_17 : ix_nx mBd_begin 17 = some (0, .iconst 5, 18, none, [], 0) := rfl
theorem i_Bd_begin_18 : ix_nx mBd_begin 18 = some (0, .if_icmp .ge 19, 21, none, [], 0) := rfl
theorem i_Bd_begin_21 : ix_nx mBd_begin 21 = some (0, .aload_n 0, 22, none, [], 0) := rfl
theorem i_Bd_begin_22 : ix_nx mBd_begin 22 = some (1, .getfield 21, 25, none, [1, 1, 2, 34], 0) := rfl
theorem i_Bd_begin_25 : ix_nx mBd_begin 25 = some (0, .iload_n 3, 26, none, [], 0) := rfl
theorem i_Bd_begin_26 : ix_nx mBd_begin 26 = some (1, .aaload, 27, none, [4], 0) := rfl
theorem i_Bd_begin_27 : ix_nx mBd_begin 27 = some (0, .iconst 0, 28, none, [], 0) := rfl
theorem i_Bd_begin_28 : ix_nx mBd_begin 28 = some (3, .invokevirtual 40, 31, none, [0, 80, 79], 0) := rfl
theorem i_Bd_begin_31 : ix_nx mBd_begin 31 = some (0, .iinc 3 1, 34, none, [], 0) := rfl
theorem i_Bd_begin_34 : ix_nx mBd_begin 34 = some (0, .goto (-18), 37, none, [], 0) := rfl
theorem i_Bd_begin_37 : ix_nx mBd_begin 37 = some (4, .return_, 38, none, [], 0) := rfl
noncomputable def l_Bd_begin_16 (a0 : Nat) (x3 : Int32) (h : ixH) : Option (List Value × ixH) := ix_D mBd_begin 16 [some (.ref a0), none, none, some (.int x3)] [] h
set_option maxRecDepth 20000 in
set_option maxHeartbeats 1000000 in
theorem e_Bd_begin_16 (a0 : Nat) (x3 : Int32) (h : ixH) : l_Bd_begin_16 a0 x3 h = if 5 ≤ x3 then some ([], h) else (ix_gr h a0 1 1).bind fun v1 => (ix_aq h 4 v1 x3).bind fun v2 => (ix_M mRt_keep [.ref v2, .int 0] h).bind fun r => ix_kV r fun h3 => l_Bd_begin_16 a0 (x3 + 1) h3 := by
  unfold l_Bd_begin_16
  refine ix_K_px kq_Bd_begin i_Bd_begin_16 rfl rfl ?_
  refine ix_K_ci kq_Bd_begin i_Bd_begin_17 rfl kci_5 ?_
  refine ix_K_ic_ge (tgt := 37) kq_Bd_begin i_Bd_begin_18 rfl (by decide) ?_ ?_
  · exact ix_D_ret kq_Bd_begin i_Bd_begin_37 (ix_rtV rfl)
  · refine ix_K_px kq_Bd_begin i_Bd_begin_21 rfl rfl ?_
    refine ix_K_gr kq_Bd_begin i_Bd_begin_22 rfl (fun v1 => ?_)
    refine ix_K_px kq_Bd_begin i_Bd_begin_25 rfl rfl ?_
    refine ix_K_aq kq_Bd_begin i_Bd_begin_26 rfl (fun v2 => ?_)
    refine ix_K_ci kq_Bd_begin i_Bd_begin_27 rfl kci_0 ?_
    refine ix_K_callV (as := [.ref v2, .int 0]) (rest := []) kq_Bd_begin i_Bd_begin_28 rfl kq_Rt_keep (by decide) rfl rfl (fun h3 => ?_)
    refine ix_K_inc (L2 := [some (.ref a0), none, none, some (.int (x3 + 1))]) kq_Bd_begin i_Bd_begin_31 rfl rfl (Nat.le_of_ble_eq_true rfl) kci_1 rfl ?_
    refine ix_K_goto (tgt := 16) kq_Bd_begin i_Bd_begin_34 rfl (by decide) ?_
    exact ix_D_cut i_Bd_begin_16 rfl
set_option maxRecDepth 20000 in
set_option maxHeartbeats 1000000 in
theorem e_Bd_begin (a0 : Nat) (x1 : Int32) (x2 : Int32) (h : ixH) : ix_D mBd_begin 0 [some (.ref a0), some (.int x1), some (.int x2), none] [] h = (ix_gr h a0 1 0).bind fun v1 => (ix_M mGr_shape [.ref v1, .int x1, .int x2] h).bind fun r => ix_kV r fun h2 => (ix_pf h2 a0 1 4 (.int 0)).bind fun h3 => l_Bd_begin_16 a0 0 h3 := by
  refine ix_K_px kq_Bd_begin i_Bd_begin_0 rfl rfl ?_
  refine ix_K_gr kq_Bd_begin i_Bd_begin_1 rfl (fun v1 => ?_)
  refine ix_K_px kq_Bd_begin i_Bd_begin_4 rfl rfl ?_
  refine ix_K_px kq_Bd_begin i_Bd_begin_5 rfl rfl ?_
  refine ix_K_callV (as := [.ref v1, .int x1, .int x2]) (rest := []) kq_Bd_begin i_Bd_begin_6 rfl kq_Gr_shape (by decide) rfl rfl (fun h2 => ?_)
  refine ix_K_px kq_Bd_begin i_Bd_begin_9 rfl rfl ?_
  refine ix_K_ci kq_Bd_begin i_Bd_begin_10 rfl kci_0 ?_
  refine ix_K_pf kq_Bd_begin i_Bd_begin_11 rfl rfl (fun h3 => ?_)
  refine ix_K_ci kq_Bd_begin i_Bd_begin_14 rfl kci_0 ?_
  refine ix_K_si (L2 := [some (.ref a0), some (.int x1), some (.int x2), some (.int 0)]) kq_Bd_begin i_Bd_begin_15 rfl (Or.inr ⟨_, rfl, rfl⟩) (Nat.le_of_ble_eq_true rfl) rfl ?_
  exact ix_D_cut i_Bd_begin_16 rfl
theorem x_Bd_begin {a0 : Nat} {x1 : Int32} {x2 : Int32} {h h1 : ixH} (hr : ix_rc h a0 = some 1) (hd : ix_D mBd_begin 0 [some (.ref a0), some (.int x1), some (.int x2), none] [] h = some ([], h1)) : ix_M mBd_begin [.ref a0, .int x1, .int x2] h = some ([], h1) := ix_M_of (ix_ent_i kq_Bd_begin rfl hr rfl (Nat.le_of_ble_eq_true rfl) rfl) hd (ix_okrV rfl)
theorem i_Bd_addPair_0 : ix_nx mBd_addPair 0 = some (0, .aload_n 0, 1, none, [], 0) := rfl
theorem i_Bd_addPair_1 : ix_nx mBd_addPair 1 = some (1, .getfield 32, 4, none, [1, 4, 0, 42], 0) := rfl
theorem i_Bd_addPair_4 : ix_nx mBd_addPair 4 = some (0, .ifCond .lt 11, 7, none, [], 0) := rfl
theorem i_Bd_addPair_7 : ix_nx mBd_addPair 7 = some (0, .aload_n 0, 8, none, [], 0) := rfl
theorem i_Bd_addPair_8 : ix_nx mBd_addPair 8 = some (1, .getfield 32, 11, none, [1, 4, 0, 42], 0) := rfl
theorem i_Bd_addPair_11 : ix_nx mBd_addPair 11 = some (0, .iconst 4, 12, none, [], 0) := rfl
theorem i_Bd_addPair_12 : ix_nx mBd_addPair 12 = some (0, .if_icmp .lt 5, 15, none, [], 0) := rfl
theorem i_Bd_addPair_15 : ix_nx mBd_addPair 15 = some (0, .iconst 0, 16, none, [], 0) := rfl
theorem i_Bd_addPair_16 : ix_nx mBd_addPair 16 = some (4, .ireturn, 17, none, [], 0) := rfl
theorem i_Bd_addPair_17 : ix_nx mBd_addPair 17 = some (0, .aload_n 0, 18, none, [], 0) := rfl
theorem i_Bd_addPair_18 : ix_nx mBd_addPair 18 = some (1, .getfield 25, 21, none, [1, 2, 2, 36], 0) := rfl
theorem i_Bd_addPair_21 : ix_nx mBd_addPair 21 = some (0, .aload_n 0, 22, none, [], 0) := rfl
theorem i_Bd_addPair_22 : ix_nx mBd_addPair 22 = some (1, .getfield 32, 25, none, [1, 4, 0, 42], 0) := rfl
theorem i_Bd_addPair_25 : ix_nx mBd_addPair 25 = some (0, .iload_n 1, 26, none, [], 0) := rfl
theorem i_Bd_addPair_26 : ix_nx mBd_addPair 26 = some (2, .iastore, 27, none, [], 0) := rfl
theorem i_Bd_addPair_27 : ix_nx mBd_addPair 27 = some (0, .aload_n 0, 28, none, [], 0) := rfl
theorem i_Bd_addPair_28 : ix_nx mBd_addPair 28 = some (1, .getfield 29, 31, none, [1, 3, 2, 39], 0) := rfl
theorem i_Bd_addPair_31 : ix_nx mBd_addPair 31 = some (0, .aload_n 0, 32, none, [], 0) := rfl
theorem i_Bd_addPair_32 : ix_nx mBd_addPair 32 = some (1, .getfield 32, 35, none, [1, 4, 0, 42], 0) := rfl
theorem i_Bd_addPair_35 : ix_nx mBd_addPair 35 = some (0, .iload_n 2, 36, none, [], 0) := rfl
theorem i_Bd_addPair_36 : ix_nx mBd_addPair 36 = some (2, .iastore, 37, none, [], 0) := rfl
theorem i_Bd_addPair_37 : ix_nx mBd_addPair 37 = some (0, .aload_n 0, 38, none, [], 0) := rfl
theorem i_Bd_addPair_38 : ix_nx mBd_addPair 38 = some (0, .dup, 39, none, [], 0) := rfl
theorem i_Bd_addPair_39 : ix_nx mBd_addPair 39 = some (1, .getfield 32, 42, none, [1, 4, 0, 42], 0) := rfl
theorem i_Bd_addPair_42 : ix_nx mBd_addPair 42 = some (0, .iconst 1, 43, none, [], 0) := rfl
theorem i_Bd_addPair_43 : ix_nx mBd_addPair 43 = some (0, .iadd, 44, none, [], 0) := rfl
theorem i_Bd_addPair_44 : ix_nx mBd_addPair 44 = some (2, .putfield 32, 47, none, [1, 4, 0, 42], 0) := rfl
theorem i_Bd_addPair_47 : ix_nx mBd_addPair 47 = some (0, .iconst 1, 48, none, [], 0) := rfl
theorem i_Bd_addPair_48 : ix_nx mBd_addPair 48 = some (4, .ireturn, 49, none, [], 0) := rfl
set_option maxRecDepth 20000 in
set_option maxHeartbeats 1000000 in
theorem e_Bd_addPair (a0 : Nat) (x1 : Int32) (x2 : Int32) (h : ixH) : ix_D mBd_addPair 0 [some (.ref a0), some (.int x1), some (.int x2)] [] h = (ix_gi h a0 1 4).bind fun v1 => if v1 < 0 then some ([.int (ix_bi false)], h) else (ix_gi h a0 1 4).bind fun v2 => if v2 < 4 then (ix_gr h a0 1 2).bind fun v3 => (ix_gi h a0 1 4).bind fun v4 => (ix_si h v3 v4 x1).bind fun h5 => (ix_gr h5 a0 1 3).bind fun v6 => (ix_gi h5 a0 1 4).bind fun v7 => (ix_si h5 v6 v7 x2).bind fun h8 => (ix_gi h8 a0 1 4).bind fun v9 => (ix_pf h8 a0 1 4 (.int (v9 + 1))).bind fun h10 => some ([.int (ix_bi true)], h10) else some ([.int (ix_bi false)], h) := by
  refine ix_K_px kq_Bd_addPair i_Bd_addPair_0 rfl rfl ?_
  refine ix_K_gi kq_Bd_addPair i_Bd_addPair_1 rfl (fun v1 => ?_)
  refine ix_K_if_lt (tgt := 15) kq_Bd_addPair i_Bd_addPair_4 rfl (by decide) ?_ ?_
  · refine ix_K_ci kq_Bd_addPair i_Bd_addPair_15 rfl kci_0 ?_
    exact ix_D_ret kq_Bd_addPair i_Bd_addPair_16 (ix_rtZ rfl false)
  · refine ix_K_px kq_Bd_addPair i_Bd_addPair_7 rfl rfl ?_
    refine ix_K_gi kq_Bd_addPair i_Bd_addPair_8 rfl (fun v2 => ?_)
    refine ix_K_ci kq_Bd_addPair i_Bd_addPair_11 rfl kci_4 ?_
    refine ix_K_ic_lt (tgt := 17) kq_Bd_addPair i_Bd_addPair_12 rfl (by decide) ?_ ?_
    · refine ix_K_px kq_Bd_addPair i_Bd_addPair_17 rfl rfl ?_
      refine ix_K_gr kq_Bd_addPair i_Bd_addPair_18 rfl (fun v3 => ?_)
      refine ix_K_px kq_Bd_addPair i_Bd_addPair_21 rfl rfl ?_
      refine ix_K_gi kq_Bd_addPair i_Bd_addPair_22 rfl (fun v4 => ?_)
      refine ix_K_px kq_Bd_addPair i_Bd_addPair_25 rfl rfl ?_
      refine ix_K_ti kq_Bd_addPair i_Bd_addPair_26 rfl (fun h5 => ?_)
      refine ix_K_px kq_Bd_addPair i_Bd_addPair_27 rfl rfl ?_
      refine ix_K_gr kq_Bd_addPair i_Bd_addPair_28 rfl (fun v6 => ?_)
      refine ix_K_px kq_Bd_addPair i_Bd_addPair_31 rfl rfl ?_
      refine ix_K_gi kq_Bd_addPair i_Bd_addPair_32 rfl (fun v7 => ?_)
      refine ix_K_px kq_Bd_addPair i_Bd_addPair_35 rfl rfl ?_
      refine ix_K_ti kq_Bd_addPair i_Bd_addPair_36 rfl (fun h8 => ?_)
      refine ix_K_px kq_Bd_addPair i_Bd_addPair_37 rfl rfl ?_
      refine ix_K_px kq_Bd_addPair i_Bd_addPair_38 rfl rfl ?_
      refine ix_K_gi kq_Bd_addPair i_Bd_addPair_39 rfl (fun v9 => ?_)
      refine ix_K_ci kq_Bd_addPair i_Bd_addPair_42 rfl kci_1 ?_
      refine ix_K_px kq_Bd_addPair i_Bd_addPair_43 rfl rfl ?_
      refine ix_K_pf kq_Bd_addPair i_Bd_addPair_44 rfl rfl (fun h10 => ?_)
      refine ix_K_ci kq_Bd_addPair i_Bd_addPair_47 rfl kci_1 ?_
      exact ix_D_ret kq_Bd_addPair i_Bd_addPair_48 (ix_rtZ rfl true)
    · refine ix_K_ci kq_Bd_addPair i_Bd_addPair_15 rfl kci_0 ?_
      exact ix_D_ret kq_Bd_addPair i_Bd_addPair_16 (ix_rtZ rfl false)
theorem x_Bd_addPair {a0 : Nat} {x1 : Int32} {x2 : Int32} {h h1 : ixH} {v : Bool} (hr : ix_rc h a0 = some 1) (hd : ix_D mBd_addPair 0 [some (.ref a0), some (.int x1), some (.int x2)] [] h = some ([.int (ix_bi v)], h1)) : ix_M mBd_addPair [.ref a0, .int x1, .int x2] h = some ([.int (ix_bi v)], h1) := ix_M_of (ix_ent_i kq_Bd_addPair rfl hr rfl (Nat.le_of_ble_eq_true rfl) rfl) hd (ix_okrZ rfl v)
theorem i_Bd_slotsInUse_0 : ix_nx mBd_slotsInUse 0 = some (0, .iconst 0, 1, none, [], 0) := rfl
theorem i_Bd_slotsInUse_1 : ix_nx mBd_slotsInUse 1 = some (0, .istore_n 1, 2, none, [], 0) := rfl
theorem i_Bd_slotsInUse_2 : ix_nx mBd_slotsInUse 2 = some (0, .iconst 0, 3, none, [], 0) := rfl
theorem i_Bd_slotsInUse_3 : ix_nx mBd_slotsInUse 3 = some (0, .istore_n 2, 4, none, [], 0) := rfl
theorem i_Bd_slotsInUse_4 : ix_nx mBd_slotsInUse 4 = some (0, .iload_n 2, 5, some [true, true, true], [], 0) := rfl
theorem i_Bd_slotsInUse_5 : ix_nx mBd_slotsInUse 5 = some (0, .iconst 5, 6, none, [], 0) := rfl
theorem i_Bd_slotsInUse_6 : ix_nx mBd_slotsInUse 6 = some (0, .if_icmp .ge 27, 9, none, [], 0) := rfl
theorem i_Bd_slotsInUse_9 : ix_nx mBd_slotsInUse 9 = some (0, .aload_n 0, 10, none, [], 0) := rfl
theorem i_Bd_slotsInUse_10 : ix_nx mBd_slotsInUse 10 = some (1, .getfield 21, 13, none, [1, 1, 2, 34], 0) := rfl
theorem i_Bd_slotsInUse_13 : ix_nx mBd_slotsInUse 13 = some (0, .iload_n 2, 14, none, [], 0) := rfl
theorem i_Bd_slotsInUse_14 : ix_nx mBd_slotsInUse 14 = some (1, .aaload, 15, none, [4], 0) := rfl
theorem i_Bd_slotsInUse_15 : ix_nx mBd_slotsInUse 15 = some (1, .getfield 44, 18, none, [3, 1, 0, 26], 0) := rfl
theorem i_Bd_slotsInUse_18 : ix_nx mBd_slotsInUse 18 = some (0, .ifCond .le 9, 21, none, [], 0) := rfl
theorem i_Bd_slotsInUse_21 : ix_nx mBd_slotsInUse 21 = some (0, .iload_n 1, 22, none, [], 0) := rfl
theorem i_Bd_slotsInUse_22 : ix_nx mBd_slotsInUse 22 = some (0, .iconst 1, 23, none, [], 0) := rfl
theorem i_Bd_slotsInUse_23 : ix_nx mBd_slotsInUse 23 = some (0, .iload_n 2, 24, none, [], 0) := rfl
theorem i_Bd_slotsInUse_24 : ix_nx mBd_slotsInUse 24 = some (0, .ishl, 25, none, [], 0) := rfl
theorem i_Bd_slotsInUse_25 : ix_nx mBd_slotsInUse 25 = some (0, .ior, 26, none, [], 0) := rfl
theorem i_Bd_slotsInUse_26 : ix_nx mBd_slotsInUse 26 = some (0, .istore_n 1, 27, none, [], 0) := rfl
theorem i_Bd_slotsInUse_27 : ix_nx mBd_slotsInUse 27 = some (0, .iinc 2 1, 30, none, [], 0) := rfl
theorem i_Bd_slotsInUse_30 : ix_nx mBd_slotsInUse 30 = some (0, .goto (-26), 33, none, [], 0) := rfl
theorem i_Bd_slotsInUse_33 : ix_nx mBd_slotsInUse 33 = some (0, .iload_n 1, 34, none, [], 0) := rfl
theorem i_Bd_slotsInUse_34 : ix_nx mBd_slotsInUse 34 = some (4, .ireturn, 35, none, [], 0) := rfl
noncomputable def l_Bd_slotsInUse_4 (a0 : Nat) (x1 : Int32) (x2 : Int32) (h : ixH) : Option (List Value × ixH) := ix_D mBd_slotsInUse 4 [some (.ref a0), some (.int x1), some (.int x2)] [] h
set_option maxRecDepth 20000 in
set_option maxHeartbeats 1000000 in
theorem e_Bd_slotsInUse_4 (a0 : Nat) (x1 : Int32) (x2 : Int32) (h : ixH) : l_Bd_slotsInUse_4 a0 x1 x2 h = if 5 ≤ x2 then some ([.int x1], h) else (ix_gr h a0 1 1).bind fun v1 => (ix_aq h 4 v1 x2).bind fun v2 => (ix_gi h v2 3 1).bind fun v3 => if v3 ≤ 0 then l_Bd_slotsInUse_4 a0 x1 (x2 + 1) h else l_Bd_slotsInUse_4 a0 (x1 ||| (ix_ishl 1 x2)) (x2 + 1) h := by
  unfold l_Bd_slotsInUse_4
  refine ix_K_px kq_Bd_slotsInUse i_Bd_slotsInUse_4 rfl rfl ?_
  refine ix_K_ci kq_Bd_slotsInUse i_Bd_slotsInUse_5 rfl kci_5 ?_
  refine ix_K_ic_ge (tgt := 33) kq_Bd_slotsInUse i_Bd_slotsInUse_6 rfl (by decide) ?_ ?_
  · refine ix_K_px kq_Bd_slotsInUse i_Bd_slotsInUse_33 rfl rfl ?_
    exact ix_D_ret kq_Bd_slotsInUse i_Bd_slotsInUse_34 (ix_rtI rfl _)
  · refine ix_K_px kq_Bd_slotsInUse i_Bd_slotsInUse_9 rfl rfl ?_
    refine ix_K_gr kq_Bd_slotsInUse i_Bd_slotsInUse_10 rfl (fun v1 => ?_)
    refine ix_K_px kq_Bd_slotsInUse i_Bd_slotsInUse_13 rfl rfl ?_
    refine ix_K_aq kq_Bd_slotsInUse i_Bd_slotsInUse_14 rfl (fun v2 => ?_)
    refine ix_K_gi kq_Bd_slotsInUse i_Bd_slotsInUse_15 rfl (fun v3 => ?_)
    refine ix_K_if_le (tgt := 27) kq_Bd_slotsInUse i_Bd_slotsInUse_18 rfl (by decide) ?_ ?_
    · refine ix_K_inc (L2 := [some (.ref a0), some (.int x1), some (.int (x2 + 1))]) kq_Bd_slotsInUse i_Bd_slotsInUse_27 rfl rfl (Nat.le_of_ble_eq_true rfl) kci_1 rfl ?_
      refine ix_K_goto (tgt := 4) kq_Bd_slotsInUse i_Bd_slotsInUse_30 rfl (by decide) ?_
      exact ix_D_cut i_Bd_slotsInUse_4 rfl
    · refine ix_K_px kq_Bd_slotsInUse i_Bd_slotsInUse_21 rfl rfl ?_
      refine ix_K_ci kq_Bd_slotsInUse i_Bd_slotsInUse_22 rfl kci_1 ?_
      refine ix_K_px kq_Bd_slotsInUse i_Bd_slotsInUse_23 rfl rfl ?_
      refine ix_K_px kq_Bd_slotsInUse i_Bd_slotsInUse_24 rfl rfl ?_
      refine ix_K_px kq_Bd_slotsInUse i_Bd_slotsInUse_25 rfl rfl ?_
      refine ix_K_si (L2 := [some (.ref a0), some (.int (x1 ||| (ix_ishl 1 x2))), some (.int x2)]) kq_Bd_slotsInUse i_Bd_slotsInUse_26 rfl (Or.inr ⟨_, rfl, rfl⟩) (Nat.le_of_ble_eq_true rfl) rfl ?_
      refine ix_K_inc (L2 := [some (.ref a0), some (.int (x1 ||| (ix_ishl 1 x2))), some (.int (x2 + 1))]) kq_Bd_slotsInUse i_Bd_slotsInUse_27 rfl rfl (Nat.le_of_ble_eq_true rfl) kci_1 rfl ?_
      refine ix_K_goto (tgt := 4) kq_Bd_slotsInUse i_Bd_slotsInUse_30 rfl (by decide) ?_
      exact ix_D_cut i_Bd_slotsInUse_4 rfl
set_option maxRecDepth 20000 in
set_option maxHeartbeats 1000000 in
theorem e_Bd_slotsInUse (a0 : Nat) (h : ixH) : ix_D mBd_slotsInUse 0 [some (.ref a0), none, none] [] h = l_Bd_slotsInUse_4 a0 0 0 h := by
  refine ix_K_ci kq_Bd_slotsInUse i_Bd_slotsInUse_0 rfl kci_0 ?_
  refine ix_K_si (L2 := [some (.ref a0), some (.int 0), none]) kq_Bd_slotsInUse i_Bd_slotsInUse_1 rfl (Or.inr ⟨_, rfl, rfl⟩) (Nat.le_of_ble_eq_true rfl) rfl ?_
  refine ix_K_ci kq_Bd_slotsInUse i_Bd_slotsInUse_2 rfl kci_0 ?_
  refine ix_K_si (L2 := [some (.ref a0), some (.int 0), some (.int 0)]) kq_Bd_slotsInUse i_Bd_slotsInUse_3 rfl (Or.inr ⟨_, rfl, rfl⟩) (Nat.le_of_ble_eq_true rfl) rfl ?_
  exact ix_D_cut i_Bd_slotsInUse_4 rfl
theorem x_Bd_slotsInUse {a0 : Nat} {h h1 : ixH} {v : Int32} (hr : ix_rc h a0 = some 1) (hd : ix_D mBd_slotsInUse 0 [some (.ref a0), none, none] [] h = some ([.int v], h1)) : ix_M mBd_slotsInUse [.ref a0] h = some ([.int v], h1) := ix_M_of (ix_ent_i kq_Bd_slotsInUse rfl hr rfl (Nat.le_of_ble_eq_true rfl) rfl) hd (ix_okrI (Or.inl rfl) v)
theorem i_Bd_copyFrom_0 : ix_nx mBd_copyFrom 0 = some (0, .aload_n 0, 1, none, [], 0) := rfl
theorem i_Bd_copyFrom_1 : ix_nx mBd_copyFrom 1 = some (1, .getfield 12, 4, none, [1, 0, 2, 30], 0) := rfl
theorem i_Bd_copyFrom_4 : ix_nx mBd_copyFrom 4 = some (0, .aload_n 1, 5, none, [], 0) := rfl
theorem i_Bd_copyFrom_5 : ix_nx mBd_copyFrom 5 = some (1, .getfield 12, 8, none, [1, 0, 2, 30], 0) := rfl
theorem i_Bd_copyFrom_8 : ix_nx mBd_copyFrom 8 = some (3, .invokevirtual 47, 11, none, [0, 78, 80], 0) := rfl
theorem i_Bd_copyFrom_11 : ix_nx mBd_copyFrom 11 = some (0, .aload_n 1, 12, none, [], 0) := rfl
theorem i_Bd_copyFrom_12 : ix_nx mBd_copyFrom 12 = some (1, .getfield 25, 15, none, [1, 2, 2, 36], 0) := rfl
theorem i_Bd_copyFrom_15 : ix_nx mBd_copyFrom 15 = some (0, .iconst 0, 16, none, [], 0) := rfl
theorem i_Bd_copyFrom_16 : ix_nx mBd_copyFrom 16 = some (0, .aload_n 0, 17, none, [], 0) := rfl
theorem i_Bd_copyFrom_17 : ix_nx mBd_copyFrom 17 = some (1, .getfield 25, 20, none, [1, 2, 2, 36], 0) := rfl
theorem i_Bd_copyFrom_20 : ix_nx mBd_copyFrom 20 = some (0, .iconst 0, 21, none, [], 0) := rfl
theorem i_Bd_copyFrom_21 : ix_nx mBd_copyFrom 21 = some (0, .iconst 4, 22, none, [], 0) := rfl
theorem i_Bd_copyFrom_22 : ix_nx mBd_copyFrom 22 = some (5, .invokestatic 51, 25, none, [7, 81], 0) := rfl
theorem i_Bd_copyFrom_25 : ix_nx mBd_copyFrom 25 = some (0, .aload_n 1, 26, none, [], 0) := rfl
theorem i_Bd_copyFrom_26 : ix_nx mBd_copyFrom 26 = some (1, .getfield 29, 29, none, [1, 3, 2, 39], 0) := rfl
theorem i_Bd_copyFrom_29 : ix_nx mBd_copyFrom 29 = some (0, .iconst 0, 30, none, [], 0) := rfl
theorem i_Bd_copyFrom_30 : ix_nx mBd_copyFrom 30 = some (0, .aload_n 0, 31, none, [], 0) := rfl
theorem i_Bd_copyFrom_31 : ix_nx mBd_copyFrom 31 = some (1, .getfield 29, 34, none, [1, 3, 2, 39], 0) := rfl
theorem i_Bd_copyFrom_34 : ix_nx mBd_copyFrom 34 = some (0, .iconst 0, 35, none, [], 0) := rfl
theorem i_Bd_copyFrom_35 : ix_nx mBd_copyFrom 35 = some (0, .iconst 4, 36, none, [], 0) := rfl
theorem i_Bd_copyFrom_36 : ix_nx mBd_copyFrom 36 = some (5, .invokestatic 51, 39, none, [7, 81], 0) := rfl
theorem i_Bd_copyFrom_39 : ix_nx mBd_copyFrom 39 = some (0, .aload_n 0, 40, none, [], 0) := rfl
theorem i_Bd_copyFrom_40 : ix_nx mBd_copyFrom 40 = some (0, .aload_n 1, 41, none, [], 0) := rfl
theorem i_Bd_copyFrom_41 : ix_nx mBd_copyFrom 41 = some (1, .getfield 32, 44, none, [1, 4, 0, 42], 0) := rfl
theorem i_Bd_copyFrom_44 : ix_nx mBd_copyFrom 44 = some (2, .putfield 32, 47, none, [1, 4, 0, 42], 0) := rfl
theorem i_Bd_copyFrom_47 : ix_nx mBd_copyFrom 47 = some (0, .iconst 0, 48, none, [], 0) := rfl
theorem i_Bd_copyFrom_48 : ix_nx mBd_copyFrom 48 = some (0, .istore_n 2, 49, none, [], 0) := rfl
theorem i_Bd_copyFrom_49 : ix_nx mBd_copyFrom 49 = some (0, .iload_n 2, 50, some [true, true, true], [], 0) := rfl
theorem i_Bd_copyFrom_50 : ix_nx mBd_copyFrom 50 = some (0, .iconst 5, 51, none, [], 0) := rfl
theorem i_Bd_copyFrom_51 : ix_nx mBd_copyFrom 51 = some (0, .if_icmp .ge 24, 54, none, [], 0) := rfl
theorem i_Bd_copyFrom_54 : ix_nx mBd_copyFrom 54 = some (0, .aload_n 0, 55, none, [], 0) := rfl
theorem i_Bd_copyFrom_55 : ix_nx mBd_copyFrom 55 = some (1, .getfield 21, 58, none, [1, 1, 2, 34], 0) := rfl
theorem i_Bd_copyFrom_58 : ix_nx mBd_copyFrom 58 = some (0, .iload_n 2, 59, none, [], 0) := rfl
theorem i_Bd_copyFrom_59 : ix_nx mBd_copyFrom 59 = some (1, .aaload, 60, none, [4], 0) := rfl
theorem i_Bd_copyFrom_60 : ix_nx mBd_copyFrom 60 = some (0, .aload_n 1, 61, none, [], 0) := rfl
theorem i_Bd_copyFrom_61 : ix_nx mBd_copyFrom 61 = some (1, .getfield 21, 64, none, [1, 1, 2, 34], 0) := rfl
theorem i_Bd_copyFrom_64 : ix_nx mBd_copyFrom 64 = some (0, .iload_n 2, 65, none, [], 0) := rfl
theorem i_Bd_copyFrom_65 : ix_nx mBd_copyFrom 65 = some (1, .aaload, 66, none, [4], 0) := rfl
theorem i_Bd_copyFrom_66 : ix_nx mBd_copyFrom 66 = some (3, .invokevirtual 57, 69, none, [0, 87, 82], 0) := rfl
theorem i_Bd_copyFrom_69 : ix_nx mBd_copyFrom 69 = some (0, .iinc 2 1, 72, none, [], 0) := rfl
theorem i_Bd_copyFrom_72 : ix_nx mBd_copyFrom 72 = some (0, .goto (-23), 75, none, [], 0) := rfl
theorem i_Bd_copyFrom_75 : ix_nx mBd_copyFrom 75 = some (4, .return_, 76, none, [], 0) := rfl
noncomputable def l_Bd_copyFrom_49 (a0 : Nat) (a1 : Nat) (x2 : Int32) (h : ixH) : Option (List Value × ixH) := ix_D mBd_copyFrom 49 [some (.ref a0), some (.ref a1), some (.int x2)] [] h
set_option maxRecDepth 20000 in
set_option maxHeartbeats 1000000 in
theorem e_Bd_copyFrom_49 (a0 : Nat) (a1 : Nat) (x2 : Int32) (h : ixH) : l_Bd_copyFrom_49 a0 a1 x2 h = if 5 ≤ x2 then some ([], h) else (ix_gr h a0 1 1).bind fun v1 => (ix_aq h 4 v1 x2).bind fun v2 => (ix_gr h a1 1 1).bind fun v3 => (ix_aq h 4 v3 x2).bind fun v4 => (ix_M mRt_copyFrom [.ref v2, .ref v4] h).bind fun r => ix_kV r fun h5 => l_Bd_copyFrom_49 a0 a1 (x2 + 1) h5 := by
  unfold l_Bd_copyFrom_49
  refine ix_K_px kq_Bd_copyFrom i_Bd_copyFrom_49 rfl rfl ?_
  refine ix_K_ci kq_Bd_copyFrom i_Bd_copyFrom_50 rfl kci_5 ?_
  refine ix_K_ic_ge (tgt := 75) kq_Bd_copyFrom i_Bd_copyFrom_51 rfl (by decide) ?_ ?_
  · exact ix_D_ret kq_Bd_copyFrom i_Bd_copyFrom_75 (ix_rtV rfl)
  · refine ix_K_px kq_Bd_copyFrom i_Bd_copyFrom_54 rfl rfl ?_
    refine ix_K_gr kq_Bd_copyFrom i_Bd_copyFrom_55 rfl (fun v1 => ?_)
    refine ix_K_px kq_Bd_copyFrom i_Bd_copyFrom_58 rfl rfl ?_
    refine ix_K_aq kq_Bd_copyFrom i_Bd_copyFrom_59 rfl (fun v2 => ?_)
    refine ix_K_px kq_Bd_copyFrom i_Bd_copyFrom_60 rfl rfl ?_
    refine ix_K_gr kq_Bd_copyFrom i_Bd_copyFrom_61 rfl (fun v3 => ?_)
    refine ix_K_px kq_Bd_copyFrom i_Bd_copyFrom_64 rfl rfl ?_
    refine ix_K_aq kq_Bd_copyFrom i_Bd_copyFrom_65 rfl (fun v4 => ?_)
    refine ix_K_callV (as := [.ref v2, .ref v4]) (rest := []) kq_Bd_copyFrom i_Bd_copyFrom_66 rfl kq_Rt_copyFrom (by decide) rfl rfl (fun h5 => ?_)
    refine ix_K_inc (L2 := [some (.ref a0), some (.ref a1), some (.int (x2 + 1))]) kq_Bd_copyFrom i_Bd_copyFrom_69 rfl rfl (Nat.le_of_ble_eq_true rfl) kci_1 rfl ?_
    refine ix_K_goto (tgt := 49) kq_Bd_copyFrom i_Bd_copyFrom_72 rfl (by decide) ?_
    exact ix_D_cut i_Bd_copyFrom_49 rfl
set_option maxRecDepth 20000 in
set_option maxHeartbeats 1000000 in
theorem e_Bd_copyFrom (a0 : Nat) (a1 : Nat) (h : ixH) : ix_D mBd_copyFrom 0 [some (.ref a0), some (.ref a1), none] [] h = (ix_gr h a0 1 0).bind fun v1 => (ix_gr h a1 1 0).bind fun v2 => (ix_M mGr_copyFrom [.ref v1, .ref v2] h).bind fun r => ix_kV r fun h3 => (ix_gr h3 a1 1 2).bind fun v4 => (ix_gr h3 a0 1 2).bind fun v5 => (ix_cp h3 v4 0 v5 0 4).bind fun h6 => (ix_gr h6 a1 1 3).bind fun v7 => (ix_gr h6 a0 1 3).bind fun v8 => (ix_cp h6 v7 0 v8 0 4).bind fun h9 => (ix_gi h9 a1 1 4).bind fun v10 => (ix_pf h9 a0 1 4 (.int v10)).bind fun h11 => l_Bd_copyFrom_49 a0 a1 0 h11 := by
  refine ix_K_px kq_Bd_copyFrom i_Bd_copyFrom_0 rfl rfl ?_
  refine ix_K_gr kq_Bd_copyFrom i_Bd_copyFrom_1 rfl (fun v1 => ?_)
  refine ix_K_px kq_Bd_copyFrom i_Bd_copyFrom_4 rfl rfl ?_
  refine ix_K_gr kq_Bd_copyFrom i_Bd_copyFrom_5 rfl (fun v2 => ?_)
  refine ix_K_callV (as := [.ref v1, .ref v2]) (rest := []) kq_Bd_copyFrom i_Bd_copyFrom_8 rfl kq_Gr_copyFrom (by decide) rfl rfl (fun h3 => ?_)
  refine ix_K_px kq_Bd_copyFrom i_Bd_copyFrom_11 rfl rfl ?_
  refine ix_K_gr kq_Bd_copyFrom i_Bd_copyFrom_12 rfl (fun v4 => ?_)
  refine ix_K_ci kq_Bd_copyFrom i_Bd_copyFrom_15 rfl kci_0 ?_
  refine ix_K_px kq_Bd_copyFrom i_Bd_copyFrom_16 rfl rfl ?_
  refine ix_K_gr kq_Bd_copyFrom i_Bd_copyFrom_17 rfl (fun v5 => ?_)
  refine ix_K_ci kq_Bd_copyFrom i_Bd_copyFrom_20 rfl kci_0 ?_
  refine ix_K_ci kq_Bd_copyFrom i_Bd_copyFrom_21 rfl kci_4 ?_
  refine ix_K_cp kq_Bd_copyFrom i_Bd_copyFrom_22 rfl (Nat.le_of_ble_eq_true rfl) (fun h6 => ?_)
  refine ix_K_px kq_Bd_copyFrom i_Bd_copyFrom_25 rfl rfl ?_
  refine ix_K_gr kq_Bd_copyFrom i_Bd_copyFrom_26 rfl (fun v7 => ?_)
  refine ix_K_ci kq_Bd_copyFrom i_Bd_copyFrom_29 rfl kci_0 ?_
  refine ix_K_px kq_Bd_copyFrom i_Bd_copyFrom_30 rfl rfl ?_
  refine ix_K_gr kq_Bd_copyFrom i_Bd_copyFrom_31 rfl (fun v8 => ?_)
  refine ix_K_ci kq_Bd_copyFrom i_Bd_copyFrom_34 rfl kci_0 ?_
  refine ix_K_ci kq_Bd_copyFrom i_Bd_copyFrom_35 rfl kci_4 ?_
  refine ix_K_cp kq_Bd_copyFrom i_Bd_copyFrom_36 rfl (Nat.le_of_ble_eq_true rfl) (fun h9 => ?_)
  refine ix_K_px kq_Bd_copyFrom i_Bd_copyFrom_39 rfl rfl ?_
  refine ix_K_px kq_Bd_copyFrom i_Bd_copyFrom_40 rfl rfl ?_
  refine ix_K_gi kq_Bd_copyFrom i_Bd_copyFrom_41 rfl (fun v10 => ?_)
  refine ix_K_pf kq_Bd_copyFrom i_Bd_copyFrom_44 rfl rfl (fun h11 => ?_)
  refine ix_K_ci kq_Bd_copyFrom i_Bd_copyFrom_47 rfl kci_0 ?_
  refine ix_K_si (L2 := [some (.ref a0), some (.ref a1), some (.int 0)]) kq_Bd_copyFrom i_Bd_copyFrom_48 rfl (Or.inr ⟨_, rfl, rfl⟩) (Nat.le_of_ble_eq_true rfl) rfl ?_
  exact ix_D_cut i_Bd_copyFrom_49 rfl
theorem x_Bd_copyFrom {a0 : Nat} {a1 : Nat} {h h1 : ixH} (hr : ix_rc h a0 = some 1) (hd : ix_D mBd_copyFrom 0 [some (.ref a0), some (.ref a1), none] [] h = some ([], h1)) : ix_M mBd_copyFrom [.ref a0, .ref a1] h = some ([], h1) := ix_M_of (ix_ent_i kq_Bd_copyFrom rfl hr rfl (Nat.le_of_ble_eq_true rfl) rfl) hd (ix_okrV rfl)
theorem i_Pa_init_0 : ix_nx mPa_init 0 = some (0, .aload_n 0, 1, none, [], 0) := rfl
theorem i_Pa_init_1 : ix_nx mPa_init 1 = some (3, .invokespecial 3, 4, none, [6, 0, 98], 0) := rfl
theorem i_Pa_init_4 : ix_nx mPa_init 4 = some (0, .aload_n 0, 5, none, [], 0) := rfl
theorem i_Pa_init_5 : ix_nx mPa_init 5 = some (0, .bipush 80, 7, none, [], 0) := rfl
theorem i_Pa_init_7 : ix_nx mPa_init 7 = some (2, .newarray .int, 9, none, [], 0) := rfl
theorem i_Pa_init_9 : ix_nx mPa_init 9 = some (2, .putfield 11, 12, none, [4, 0, 2, 46], 0) := rfl
theorem i_Pa_init_12 : ix_nx mPa_init 12 = some (0, .aload_n 0, 13, none, [], 0) := rfl
theorem i_Pa_init_13 : ix_nx mPa_init 13 = some (0, .iconst 0, 14, none, [], 0) := rfl
theorem i_Pa_init_14 : ix_nx mPa_init 14 = some (2, .putfield 15, 17, none, [4, 1, 0, 47], 0) := rfl
theorem i_Pa_init_17 : ix_nx mPa_init 17 = some (4, .return_, 18, none, [], 0) := rfl
set_option maxRecDepth 20000 in
set_option maxHeartbeats 1000000 in
theorem e_Pa_init (a0 : Nat) (h : ixH) : ix_D mPa_init 0 [some (.ref a0)] [] h = (ix_pf (ix_nw h (.inl (0, 80, .inl fun _ => 0)) 80) a0 4 0 (.ref h.1)).bind fun h1 => (ix_pf h1 a0 4 1 (.int 0)).bind fun h2 => some ([], h2) := by
  refine ix_K_px kq_Pa_init i_Pa_init_0 rfl rfl ?_
  refine ix_K_obj kq_Pa_init i_Pa_init_1 rfl (Nat.le_of_ble_eq_true rfl) ?_
  refine ix_K_px kq_Pa_init i_Pa_init_4 rfl rfl ?_
  refine ix_K_cb kq_Pa_init i_Pa_init_5 rfl kcb_80 ?_
  refine ix_K_naI kq_Pa_init i_Pa_init_7 rfl kna_80 knb_80 (by decide) ?_
  refine ix_K_pf kq_Pa_init i_Pa_init_9 rfl rfl (fun h1 => ?_)
  refine ix_K_px kq_Pa_init i_Pa_init_12 rfl rfl ?_
  refine ix_K_ci kq_Pa_init i_Pa_init_13 rfl kci_0 ?_
  refine ix_K_pf kq_Pa_init i_Pa_init_14 rfl rfl (fun h2 => ?_)
  exact ix_D_ret kq_Pa_init i_Pa_init_17 (ix_rtV rfl)
theorem x_Pa_init {a0 : Nat} {h h1 : ixH} (hd : ix_D mPa_init 0 [some (.ref a0)] [] h = some ([], h1)) : ix_M mPa_init [.ref a0] h = some ([], h1) := ix_M_of (ix_ent_c kq_Pa_init rfl rfl (Nat.le_of_ble_eq_true rfl) rfl) hd (ix_okrV rfl)
theorem i_Pa_lengthOf_0 : ix_nx mPa_lengthOf 0 = some (0, .lload_n 0, 1, none, [], 0) := rfl
theorem i_Pa_lengthOf_1 : ix_nx mPa_lengthOf 1 = some (0, .lstore_n 2, 2, none, [], 0) := rfl
theorem i_Pa_lengthOf_2 : ix_nx mPa_lengthOf 2 = some (0, .iconst 0, 3, none, [], 0) := rfl
theorem i_Pa_lengthOf_3 : ix_nx mPa_lengthOf 3 = some (0, .istore 4, 5, none, [], 0) := rfl
theorem i_Pa_lengthOf_5 : ix_nx mPa_lengthOf 5 = some (0, .iconst 0, 6, none, [], 0) := rfl
theorem i_Pa_lengthOf_6 : ix_nx mPa_lengthOf 6 = some (0, .istore 5, 8, none, [], 0) := rfl
theorem i_Pa_lengthOf_8 : ix_nx mPa_lengthOf 8 = some (0, .iload 5, 10, some [false, false, true, false, true, true, false], [], 0) := rfl
theorem i_Pa_lengthOf_10 : ix_nx mPa_lengthOf 10 = some (0, .bipush 8, 12, none, [], 0) := rfl
theorem i_Pa_lengthOf_12 : ix_nx mPa_lengthOf 12 = some (0, .if_icmp .ge 47, 15, none, [], 0) := rfl
theorem i_Pa_lengthOf_15 : ix_nx mPa_lengthOf 15 = some (0, .lload_n 2, 16, none, [], 0) := rfl
theorem i_Pa_lengthOf_16 : ix_nx mPa_lengthOf 16 = some (0, .lconst 0, 17, none, [], 0) := rfl
theorem i_Pa_lengthOf_17 : ix_nx mPa_lengthOf 17 = some (0, .lcmp, 18, none, [], 0) := rfl
theorem i_Pa_lengthOf_18 : ix_nx mPa_lengthOf 18 = some (0, .ifCond .eq 41, 21, none, [], 0) := rfl
theorem i_Pa_lengthOf_21 : ix_nx mPa_lengthOf 21 = some (0, .lload_n 2, 22, none, [], 0) := rfl
theorem i_Pa_lengthOf_22 : ix_nx mPa_lengthOf 22 = some (0, .ldc2_w 19, 25, none, [7], 255) := rfl
theorem i_Pa_lengthOf_25 : ix_nx mPa_lengthOf 25 = some (0, .land, 26, none, [], 0) := rfl
theorem i_Pa_lengthOf_26 : ix_nx mPa_lengthOf 26 = some (0, .l2i, 27, none, [], 0) := rfl
theorem i_Pa_lengthOf_27 : ix_nx mPa_lengthOf 27 = some (0, .istore 6, 29, none, [], 0) := rfl
theorem i_Pa_lengthOf_29 : ix_nx mPa_lengthOf 29 = some (0, .iload 6, 31, none, [], 0) := rfl
theorem i_Pa_lengthOf_31 : ix_nx mPa_lengthOf 31 = some (0, .bipush 33, 33, none, [], 0) := rfl
theorem i_Pa_lengthOf_33 : ix_nx mPa_lengthOf 33 = some (0, .if_icmp .lt 10, 36, none, [], 0) := rfl
theorem i_Pa_lengthOf_36 : ix_nx mPa_lengthOf 36 = some (0, .iload 6, 38, none, [], 0) := rfl
theorem i_Pa_lengthOf_38 : ix_nx mPa_lengthOf 38 = some (0, .bipush 126, 40, none, [], 0) := rfl
theorem i_Pa_lengthOf_40 : ix_nx mPa_lengthOf 40 = some (0, .if_icmp .le 5, 43, none, [], 0) := rfl
theorem i_Pa_lengthOf_43 : ix_nx mPa_lengthOf 43 = some (0, .iconst 0, 44, none, [], 0) := rfl
theorem i_Pa_lengthOf_44 : ix_nx mPa_lengthOf 44 = some (4, .ireturn, 45, none, [], 0) := rfl
theorem i_Pa_lengthOf_45 : ix_nx mPa_lengthOf 45 = some (0, .lload_n 2, 46, none, [], 0) := rfl
theorem i_Pa_lengthOf_46 : ix_nx mPa_lengthOf 46 = some (0, .bipush 8, 48, none, [], 0) := rfl
theorem i_Pa_lengthOf_48 : ix_nx mPa_lengthOf 48 = some (0, .lushr, 49, none, [], 0) := rfl
theorem i_Pa_lengthOf_49 : ix_nx mPa_lengthOf 49 = some (0, .lstore_n 2, 50, none, [], 0) := rfl
theorem i_Pa_lengthOf_50 : ix_nx mPa_lengthOf 50 = some (0, .iinc 4 1, 53, none, [], 0) := rfl
theorem i_Pa_lengthOf_53 : ix_nx mPa_lengthOf 53 = some (0, .iinc 5 1, 56, none, [], 0) := rfl
theorem i_Pa_lengthOf_56 : ix_nx mPa_lengthOf 56 = some (0, .goto (-48), 59, none, [], 0) := rfl
theorem i_Pa_lengthOf_59 : ix_nx mPa_lengthOf 59 = some (0, .iload 4, 61, none, [], 0) := rfl
theorem i_Pa_lengthOf_61 : ix_nx mPa_lengthOf 61 = some (4, .ireturn, 62, none, [], 0) := rfl
noncomputable def l_Pa_lengthOf_8 (x2 : Int64) (x4 : Int32) (x5 : Int32) (h : ixH) : Option (List Value × ixH) := ix_D mPa_lengthOf 8 [none, none, some (.long x2), none, some (.int x4), some (.int x5), none] [] h
set_option maxRecDepth 20000 in
set_option maxHeartbeats 1000000 in
theorem e_Pa_lengthOf_8 (x2 : Int64) (x4 : Int32) (x5 : Int32) (h : ixH) : l_Pa_lengthOf_8 x2 x4 x5 h = if 8 ≤ x5 then some ([.int x4], h) else if x2 = 0 then some ([.int x4], h) else if (Int64.toInt32 (x2 &&& 255)) < 33 then some ([.int 0], h) else if (Int64.toInt32 (x2 &&& 255)) ≤ 126 then l_Pa_lengthOf_8 (ix_ush x2 8) (x4 + 1) (x5 + 1) h else some ([.int 0], h) := by
  unfold l_Pa_lengthOf_8
  refine ix_K_px kq_Pa_lengthOf i_Pa_lengthOf_8 rfl rfl ?_
  refine ix_K_cb kq_Pa_lengthOf i_Pa_lengthOf_10 rfl kcb_8 ?_
  refine ix_K_ic_ge (tgt := 59) kq_Pa_lengthOf i_Pa_lengthOf_12 rfl (by decide) ?_ ?_
  · refine ix_K_px kq_Pa_lengthOf i_Pa_lengthOf_59 rfl rfl ?_
    exact ix_D_ret kq_Pa_lengthOf i_Pa_lengthOf_61 (ix_rtI rfl _)
  · refine ix_K_px kq_Pa_lengthOf i_Pa_lengthOf_15 rfl rfl ?_
    refine ix_K_cl kq_Pa_lengthOf i_Pa_lengthOf_16 rfl kcl_0 ?_
    refine ix_K_px kq_Pa_lengthOf i_Pa_lengthOf_17 rfl rfl ?_
    refine ix_K_lc_eq (tgt := 59) kq_Pa_lengthOf i_Pa_lengthOf_18 rfl (by decide) ?_ ?_
    · refine ix_K_px kq_Pa_lengthOf i_Pa_lengthOf_59 rfl rfl ?_
      exact ix_D_ret kq_Pa_lengthOf i_Pa_lengthOf_61 (ix_rtI rfl _)
    · refine ix_K_px kq_Pa_lengthOf i_Pa_lengthOf_21 rfl rfl ?_
      refine ix_K_c2 kq_Pa_lengthOf i_Pa_lengthOf_22 rfl kc2_255 ?_
      refine ix_K_px kq_Pa_lengthOf i_Pa_lengthOf_25 rfl rfl ?_
      refine ix_K_px kq_Pa_lengthOf i_Pa_lengthOf_26 rfl rfl ?_
      refine ix_K_si (L2 := [none, none, some (.long x2), none, some (.int x4), some (.int x5), some (.int (Int64.toInt32 (x2 &&& 255)))]) kq_Pa_lengthOf i_Pa_lengthOf_27 rfl (Or.inl rfl) (Nat.le_of_ble_eq_true rfl) rfl ?_
      refine ix_K_px kq_Pa_lengthOf i_Pa_lengthOf_29 rfl rfl ?_
      refine ix_K_cb kq_Pa_lengthOf i_Pa_lengthOf_31 rfl kcb_33 ?_
      refine ix_K_ic_lt (tgt := 43) kq_Pa_lengthOf i_Pa_lengthOf_33 rfl (by decide) ?_ ?_
      · refine ix_K_ci kq_Pa_lengthOf i_Pa_lengthOf_43 rfl kci_0 ?_
        exact ix_D_ret kq_Pa_lengthOf i_Pa_lengthOf_44 (ix_rtI rfl _)
      · refine ix_K_px kq_Pa_lengthOf i_Pa_lengthOf_36 rfl rfl ?_
        refine ix_K_cb kq_Pa_lengthOf i_Pa_lengthOf_38 rfl kcb_126 ?_
        refine ix_K_ic_le (tgt := 45) kq_Pa_lengthOf i_Pa_lengthOf_40 rfl (by decide) ?_ ?_
        · refine ix_K_px kq_Pa_lengthOf i_Pa_lengthOf_45 rfl rfl ?_
          refine ix_K_cb kq_Pa_lengthOf i_Pa_lengthOf_46 rfl kcb_8 ?_
          refine ix_K_px kq_Pa_lengthOf i_Pa_lengthOf_48 rfl rfl ?_
          refine ix_K_sl (L2 := [none, none, some (.long (ix_ush x2 8)), none, some (.int x4), some (.int x5), some (.int (Int64.toInt32 (x2 &&& 255)))]) kq_Pa_lengthOf i_Pa_lengthOf_49 rfl (Or.inr ⟨_, rfl, rfl⟩) (Nat.le_of_ble_eq_true rfl) rfl ?_
          refine ix_K_inc (L2 := [none, none, some (.long (ix_ush x2 8)), none, some (.int (x4 + 1)), some (.int x5), some (.int (Int64.toInt32 (x2 &&& 255)))]) kq_Pa_lengthOf i_Pa_lengthOf_50 rfl rfl (Nat.le_of_ble_eq_true rfl) kci_1 rfl ?_
          refine ix_K_inc (L2 := [none, none, some (.long (ix_ush x2 8)), none, some (.int (x4 + 1)), some (.int (x5 + 1)), some (.int (Int64.toInt32 (x2 &&& 255)))]) kq_Pa_lengthOf i_Pa_lengthOf_53 rfl rfl (Nat.le_of_ble_eq_true rfl) kci_1 rfl ?_
          refine ix_K_goto (tgt := 8) kq_Pa_lengthOf i_Pa_lengthOf_56 rfl (by decide) ?_
          exact ix_D_cut i_Pa_lengthOf_8 rfl
        · refine ix_K_ci kq_Pa_lengthOf i_Pa_lengthOf_43 rfl kci_0 ?_
          exact ix_D_ret kq_Pa_lengthOf i_Pa_lengthOf_44 (ix_rtI rfl _)
set_option maxRecDepth 20000 in
set_option maxHeartbeats 1000000 in
theorem e_Pa_lengthOf (x0 : Int64) (h : ixH) : ix_D mPa_lengthOf 0 [some (.long x0), none, none, none, none, none, none] [] h = l_Pa_lengthOf_8 x0 0 0 h := by
  refine ix_K_px kq_Pa_lengthOf i_Pa_lengthOf_0 rfl rfl ?_
  refine ix_K_sl (L2 := [some (.long x0), none, some (.long x0), none, none, none, none]) kq_Pa_lengthOf i_Pa_lengthOf_1 rfl (Or.inr ⟨_, rfl, rfl⟩) (Nat.le_of_ble_eq_true rfl) rfl ?_
  refine ix_K_ci kq_Pa_lengthOf i_Pa_lengthOf_2 rfl kci_0 ?_
  refine ix_K_si (L2 := [some (.long x0), none, some (.long x0), none, some (.int 0), none, none]) kq_Pa_lengthOf i_Pa_lengthOf_3 rfl (Or.inl rfl) (Nat.le_of_ble_eq_true rfl) rfl ?_
  refine ix_K_ci kq_Pa_lengthOf i_Pa_lengthOf_5 rfl kci_0 ?_
  refine ix_K_si (L2 := [some (.long x0), none, some (.long x0), none, some (.int 0), some (.int 0), none]) kq_Pa_lengthOf i_Pa_lengthOf_6 rfl (Or.inl rfl) (Nat.le_of_ble_eq_true rfl) rfl ?_
  exact ix_D_cut i_Pa_lengthOf_8 rfl
theorem x_Pa_lengthOf {x0 : Int64} {h h1 : ixH} {v : Int32} (hd : ix_D mPa_lengthOf 0 [some (.long x0), none, none, none, none, none, none] [] h = some ([.int v], h1)) : ix_M mPa_lengthOf [.long x0] h = some ([.int v], h1) := ix_M_of (ix_ent_s kq_Pa_lengthOf rfl rfl (Nat.le_of_ble_eq_true rfl) rfl) hd (ix_okrI (Or.inl rfl) v)
theorem i_Pa_hasSpaceFor_0 : ix_nx mPa_hasSpaceFor 0 = some (0, .aload_n 0, 1, none, [], 0) := rfl
theorem i_Pa_hasSpaceFor_1 : ix_nx mPa_hasSpaceFor 1 = some (1, .getfield 15, 4, none, [4, 1, 0, 47], 0) := rfl
theorem i_Pa_hasSpaceFor_4 : ix_nx mPa_hasSpaceFor 4 = some (0, .iload_n 1, 5, none, [], 0) := rfl
theorem i_Pa_hasSpaceFor_5 : ix_nx mPa_hasSpaceFor 5 = some (0, .iadd, 6, none, [], 0) := rfl
theorem i_Pa_hasSpaceFor_6 : ix_nx mPa_hasSpaceFor 6 = some (0, .bipush 80, 8, none, [], 0) := rfl
theorem i_Pa_hasSpaceFor_8 : ix_nx mPa_hasSpaceFor 8 = some (0, .if_icmp .gt 7, 11, none, [], 0) := rfl
theorem i_Pa_hasSpaceFor_11 : ix_nx mPa_hasSpaceFor 11 = some (0, .iconst 1, 12, none, [], 0) := rfl
theorem i_Pa_hasSpaceFor_12 : ix_nx mPa_hasSpaceFor 12 = some (0, .goto 4, 15, none, [], 0) := rfl
theorem i_Pa_hasSpaceFor_15 : ix_nx mPa_hasSpaceFor 15 = some (0, .iconst 0, 16, none, [], 0) := rfl
theorem i_Pa_hasSpaceFor_16 : ix_nx mPa_hasSpaceFor 16 = some (4, .ireturn, 17, none, [], 0) := rfl
set_option maxRecDepth 20000 in
set_option maxHeartbeats 1000000 in
theorem e_Pa_hasSpaceFor (a0 : Nat) (x1 : Int32) (h : ixH) : ix_D mPa_hasSpaceFor 0 [some (.ref a0), some (.int x1)] [] h = (ix_gi h a0 4 1).bind fun v1 => if 80 < (v1 + x1) then some ([.int (ix_bi false)], h) else some ([.int (ix_bi true)], h) := by
  refine ix_K_px kq_Pa_hasSpaceFor i_Pa_hasSpaceFor_0 rfl rfl ?_
  refine ix_K_gi kq_Pa_hasSpaceFor i_Pa_hasSpaceFor_1 rfl (fun v1 => ?_)
  refine ix_K_px kq_Pa_hasSpaceFor i_Pa_hasSpaceFor_4 rfl rfl ?_
  refine ix_K_px kq_Pa_hasSpaceFor i_Pa_hasSpaceFor_5 rfl rfl ?_
  refine ix_K_cb kq_Pa_hasSpaceFor i_Pa_hasSpaceFor_6 rfl kcb_80 ?_
  refine ix_K_ic_gt (tgt := 15) kq_Pa_hasSpaceFor i_Pa_hasSpaceFor_8 rfl (by decide) ?_ ?_
  · refine ix_K_ci kq_Pa_hasSpaceFor i_Pa_hasSpaceFor_15 rfl kci_0 ?_
    exact ix_D_ret kq_Pa_hasSpaceFor i_Pa_hasSpaceFor_16 (ix_rtZ rfl false)
  · refine ix_K_ci kq_Pa_hasSpaceFor i_Pa_hasSpaceFor_11 rfl kci_1 ?_
    refine ix_K_goto (tgt := 16) kq_Pa_hasSpaceFor i_Pa_hasSpaceFor_12 rfl (by decide) ?_
    exact ix_D_ret kq_Pa_hasSpaceFor i_Pa_hasSpaceFor_16 (ix_rtZ rfl true)
theorem x_Pa_hasSpaceFor {a0 : Nat} {x1 : Int32} {h h1 : ixH} {v : Bool} (hr : ix_rc h a0 = some 4) (hd : ix_D mPa_hasSpaceFor 0 [some (.ref a0), some (.int x1)] [] h = some ([.int (ix_bi v)], h1)) : ix_M mPa_hasSpaceFor [.ref a0, .int x1] h = some ([.int (ix_bi v)], h1) := ix_M_of (ix_ent_i kq_Pa_hasSpaceFor rfl hr rfl (Nat.le_of_ble_eq_true rfl) rfl) hd (ix_okrZ rfl v)
theorem i_Pa_append_0 : ix_nx mPa_append 0 = some (0, .iload_n 3, 1, none, [], 0) := rfl
theorem i_Pa_append_1 : ix_nx mPa_append 1 = some (0, .iconst 1, 2, none, [], 0) := rfl
theorem i_Pa_append_2 : ix_nx mPa_append 2 = some (0, .isub, 3, none, [], 0) := rfl
theorem i_Pa_append_3 : ix_nx mPa_append 3 = some (0, .istore 4, 5, none, [], 0) := rfl
theorem i_Pa_append_5 : ix_nx mPa_append 5 = some (0, .iload 4, 7, some [true, true, false, false, true], [], 0) := rfl
theorem i_Pa_append_7 : ix_nx mPa_append 7 = some (0, .ifCond .lt 56, 10, none, [], 0) := rfl
theorem i_Pa_append_10 : ix_nx mPa_append 10 = some (0, .aload_n 0, 11, none, [], 0) := rfl
theorem i_Pa_append_11 : ix_nx mPa_append 11 = some (1, .getfield 15, 14, none, [4, 1, 0, 47], 0) := rfl
theorem i_Pa_append_14 : ix_nx mPa_append 14 = some (0, .ifCond .lt 43, 17, none, [], 0) := rfl
theorem i_Pa_append_17 : ix_nx mPa_append 17 = some (0, .aload_n 0, 18, none, [], 0) := rfl
theorem i_Pa_append_18 : ix_nx mPa_append 18 = some (1, .getfield 15, 21, none, [4, 1, 0, 47], 0) := rfl
theorem i_Pa_append_21 : ix_nx mPa_append 21 = some (0, .bipush 80, 23, none, [], 0) := rfl
theorem i_Pa_append_23 : ix_nx mPa_append 23 = some (0, .if_icmp .ge 34, 26, none, [], 0) := rfl
theorem i_Pa_append_26 : ix_nx mPa_append 26 = some (0, .aload_n 0, 27, none, [], 0) := rfl
theorem i_Pa_append_27 : ix_nx mPa_append 27 = some (1, .getfield 11, 30, none, [4, 0, 2, 46], 0) := rfl
theorem i_Pa_append_30 : ix_nx mPa_append 30 = some (0, .aload_n 0, 31, none, [], 0) := rfl
theorem i_Pa_append_31 : ix_nx mPa_append 31 = some (1, .getfield 15, 34, none, [4, 1, 0, 47], 0) := rfl
theorem i_Pa_append_34 : ix_nx mPa_append 34 = some (0, .lload_n 1, 35, none, [], 0) := rfl
theorem i_Pa_append_35 : ix_nx mPa_append 35 = some (0, .bipush 8, 37, none, [], 0) := rfl
theorem i_Pa_append_37 : ix_nx mPa_append 37 = some (0, .iload 4, 39, none, [], 0) := rfl
theorem i_Pa_append_39 : ix_nx mPa_append 39 = some (0, .imul, 40, none, [], 0) := rfl
theorem i_Pa_append_40 : ix_nx mPa_append 40 = some (0, .lushr, 41, none, [], 0) := rfl
theorem i_Pa_append_41 : ix_nx mPa_append 41 = some (0, .ldc2_w 19, 44, none, [7], 255) := rfl
theorem i_Pa_append_44 : ix_nx mPa_append 44 = some (0, .land, 45, none, [], 0) := rfl
theorem i_Pa_append_45 : ix_nx mPa_append 45 = some (0, .l2i, 46, none, [], 0) := rfl
theorem i_Pa_append_46 : ix_nx mPa_append 46 = some (2, .iastore, 47, none, [], 0) := rfl
theorem i_Pa_append_47 : ix_nx mPa_append 47 = some (0, .aload_n 0, 48, none, [], 0) := rfl
theorem i_Pa_append_48 : ix_nx mPa_append 48 = some (0, .dup, 49, none, [], 0) := rfl
theorem i_Pa_append_49 : ix_nx mPa_append 49 = some (1, .getfield 15, 52, none, [4, 1, 0, 47], 0) := rfl
theorem i_Pa_append_52 : ix_nx mPa_append 52 = some (0, .iconst 1, 53, none, [], 0) := rfl
theorem i_Pa_append_53 : ix_nx mPa_append 53 = some (0, .iadd, 54, none, [], 0) := rfl
theorem i_Pa_append_54 : ix_nx mPa_append 54 = some (2, .putfield 15, 57, none, [4, 1, 0, 47], 0) := rfl
theorem i_Pa_append_57 : ix_nx mPa_append 57 = some (0, .iinc 4 (-1), 60, none, [], 0) := rfl
theorem i_Pa_append_60 : ix_nx mPa_append 60 = some (0, .goto (-55), 63, none, [], 0) := rfl
theorem i_Pa_append_63 : ix_nx mPa_append 63 = some (4, .return_, 64, none, [], 0) := rfl
noncomputable def l_Pa_append_5 (a0 : Nat) (x1 : Int64) (x4 : Int32) (h : ixH) : Option (List Value × ixH) := ix_D mPa_append 5 [some (.ref a0), some (.long x1), none, none, some (.int x4)] [] h
set_option maxRecDepth 20000 in
set_option maxHeartbeats 1000000 in
theorem e_Pa_append_5 (a0 : Nat) (x1 : Int64) (x4 : Int32) (h : ixH) : l_Pa_append_5 a0 x1 x4 h = if x4 < 0 then some ([], h) else (ix_gi h a0 4 1).bind fun v1 => if v1 < 0 then l_Pa_append_5 a0 x1 (x4 + (-1)) h else (ix_gi h a0 4 1).bind fun v2 => if 80 ≤ v2 then l_Pa_append_5 a0 x1 (x4 + (-1)) h else (ix_gr h a0 4 0).bind fun v3 => (ix_gi h a0 4 1).bind fun v4 => (ix_si h v3 v4 (Int64.toInt32 ((ix_ush x1 (8 * x4)) &&& 255))).bind fun h5 => (ix_gi h5 a0 4 1).bind fun v6 => (ix_pf h5 a0 4 1 (.int (v6 + 1))).bind fun h7 => l_Pa_append_5 a0 x1 (x4 + (-1)) h7 := by
  unfold l_Pa_append_5
  refine ix_K_px kq_Pa_append i_Pa_append_5 rfl rfl ?_
  refine ix_K_if_lt (tgt := 63) kq_Pa_append i_Pa_append_7 rfl (by decide) ?_ ?_
  · exact ix_D_ret kq_Pa_append i_Pa_append_63 (ix_rtV rfl)
  · refine ix_K_px kq_Pa_append i_Pa_append_10 rfl rfl ?_
    refine ix_K_gi kq_Pa_append i_Pa_append_11 rfl (fun v1 => ?_)
    refine ix_K_if_lt (tgt := 57) kq_Pa_append i_Pa_append_14 rfl (by decide) ?_ ?_
    · refine ix_K_inc (L2 := [some (.ref a0), some (.long x1), none, none, some (.int (x4 + (-1)))]) kq_Pa_append i_Pa_append_57 rfl rfl (Nat.le_of_ble_eq_true rfl) kci_m1 rfl ?_
      refine ix_K_goto (tgt := 5) kq_Pa_append i_Pa_append_60 rfl (by decide) ?_
      exact ix_D_cut i_Pa_append_5 rfl
    · refine ix_K_px kq_Pa_append i_Pa_append_17 rfl rfl ?_
      refine ix_K_gi kq_Pa_append i_Pa_append_18 rfl (fun v2 => ?_)
      refine ix_K_cb kq_Pa_append i_Pa_append_21 rfl kcb_80 ?_
      refine ix_K_ic_ge (tgt := 57) kq_Pa_append i_Pa_append_23 rfl (by decide) ?_ ?_
      · refine ix_K_inc (L2 := [some (.ref a0), some (.long x1), none, none, some (.int (x4 + (-1)))]) kq_Pa_append i_Pa_append_57 rfl rfl (Nat.le_of_ble_eq_true rfl) kci_m1 rfl ?_
        refine ix_K_goto (tgt := 5) kq_Pa_append i_Pa_append_60 rfl (by decide) ?_
        exact ix_D_cut i_Pa_append_5 rfl
      · refine ix_K_px kq_Pa_append i_Pa_append_26 rfl rfl ?_
        refine ix_K_gr kq_Pa_append i_Pa_append_27 rfl (fun v3 => ?_)
        refine ix_K_px kq_Pa_append i_Pa_append_30 rfl rfl ?_
        refine ix_K_gi kq_Pa_append i_Pa_append_31 rfl (fun v4 => ?_)
        refine ix_K_px kq_Pa_append i_Pa_append_34 rfl rfl ?_
        refine ix_K_cb kq_Pa_append i_Pa_append_35 rfl kcb_8 ?_
        refine ix_K_px kq_Pa_append i_Pa_append_37 rfl rfl ?_
        refine ix_K_px kq_Pa_append i_Pa_append_39 rfl rfl ?_
        refine ix_K_px kq_Pa_append i_Pa_append_40 rfl rfl ?_
        refine ix_K_c2 kq_Pa_append i_Pa_append_41 rfl kc2_255 ?_
        refine ix_K_px kq_Pa_append i_Pa_append_44 rfl rfl ?_
        refine ix_K_px kq_Pa_append i_Pa_append_45 rfl rfl ?_
        refine ix_K_ti kq_Pa_append i_Pa_append_46 rfl (fun h5 => ?_)
        refine ix_K_px kq_Pa_append i_Pa_append_47 rfl rfl ?_
        refine ix_K_px kq_Pa_append i_Pa_append_48 rfl rfl ?_
        refine ix_K_gi kq_Pa_append i_Pa_append_49 rfl (fun v6 => ?_)
        refine ix_K_ci kq_Pa_append i_Pa_append_52 rfl kci_1 ?_
        refine ix_K_px kq_Pa_append i_Pa_append_53 rfl rfl ?_
        refine ix_K_pf kq_Pa_append i_Pa_append_54 rfl rfl (fun h7 => ?_)
        refine ix_K_inc (L2 := [some (.ref a0), some (.long x1), none, none, some (.int (x4 + (-1)))]) kq_Pa_append i_Pa_append_57 rfl rfl (Nat.le_of_ble_eq_true rfl) kci_m1 rfl ?_
        refine ix_K_goto (tgt := 5) kq_Pa_append i_Pa_append_60 rfl (by decide) ?_
        exact ix_D_cut i_Pa_append_5 rfl
set_option maxRecDepth 20000 in
set_option maxHeartbeats 1000000 in
theorem e_Pa_append (a0 : Nat) (x1 : Int64) (x3 : Int32) (h : ixH) : ix_D mPa_append 0 [some (.ref a0), some (.long x1), none, some (.int x3), none] [] h = l_Pa_append_5 a0 x1 (x3 - 1) h := by
  refine ix_K_px kq_Pa_append i_Pa_append_0 rfl rfl ?_
  refine ix_K_ci kq_Pa_append i_Pa_append_1 rfl kci_1 ?_
  refine ix_K_px kq_Pa_append i_Pa_append_2 rfl rfl ?_
  refine ix_K_si (L2 := [some (.ref a0), some (.long x1), none, some (.int x3), some (.int (x3 - 1))]) kq_Pa_append i_Pa_append_3 rfl (Or.inl rfl) (Nat.le_of_ble_eq_true rfl) rfl ?_
  exact ix_D_cut i_Pa_append_5 rfl
theorem x_Pa_append {a0 : Nat} {x1 : Int64} {x3 : Int32} {h h1 : ixH} (hr : ix_rc h a0 = some 4) (hd : ix_D mPa_append 0 [some (.ref a0), some (.long x1), none, some (.int x3), none] [] h = some ([], h1)) : ix_M mPa_append [.ref a0, .long x1, .int x3] h = some ([], h1) := ix_M_of (ix_ent_i kq_Pa_append rfl hr rfl (Nat.le_of_ble_eq_true rfl) rfl) hd (ix_okrV rfl)
theorem i_Pa_firstFault_0 : ix_nx mPa_firstFault 0 = some (0, .bipush 8, 2, none, [], 0) := rfl
theorem i_Pa_firstFault_2 : ix_nx mPa_firstFault 2 = some (0, .istore_n 1, 3, none, [], 0) := rfl
theorem i_Pa_firstFault_3 : ix_nx mPa_firstFault 3 = some (0, .iconst 1, 4, none, [], 0) := rfl
theorem i_Pa_firstFault_4 : ix_nx mPa_firstFault 4 = some (0, .istore_n 2, 5, none, [], 0) := rfl
theorem i_Pa_firstFault_5 : ix_nx mPa_firstFault 5 = some (0, .iconst 0, 6, none, [], 0) := rfl
theorem i_Pa_firstFault_6 : ix_nx mPa_firstFault 6 = some (0, .istore_n 3, 7, none, [], 0) := rfl
theorem i_Pa_firstFault_7 : ix_nx mPa_firstFault 7 = some (0, .iconst 0, 8, none, [], 0) := rfl
theorem i_Pa_firstFault_8 : ix_nx mPa_firstFault 8 = some (0, .istore 4, 10, none, [], 0) := rfl
theorem i_Pa_firstFault_10 : ix_nx mPa_firstFault 10 = some (0, .iload 4, 12, some [true, true, true, true, true, false], [], 0) := rfl
theorem i_Pa_firstFault_12 : ix_nx mPa_firstFault 12 = some (0, .aload_n 0, 13, none, [], 0) := rfl
theorem i_Pa_firstFault_13 : ix_nx mPa_firstFault 13 = some (1, .getfield 15, 16, none, [4, 1, 0, 47], 0) := rfl
theorem i_Pa_firstFault_16 : ix_nx mPa_firstFault 16 = some (0, .if_icmp .ge 103, 19, none, [], 0) := rfl
theorem i_Pa_firstFault_19 : ix_nx mPa_firstFault 19 = some (0, .aload_n 0, 20, none, [], 0) := rfl
theorem i_Pa_firstFault_20 : ix_nx mPa_firstFault 20 = some (0, .iload 4, 22, none, [], 0) := rfl
theorem i_Pa_firstFault_22 : ix_nx mPa_firstFault 22 = some (3, .invokevirtual 23, 25, none, [0, 94, 99], 0) := rfl
theorem i_Pa_firstFault_25 : ix_nx mPa_firstFault 25 = some (0, .bipush 47, 27, none, [], 0) := rfl
theorem i_Pa_firstFault_27 : ix_nx mPa_firstFault 27 = some (0, .if_icmp .ne 66, 30, none, [], 0) := rfl
theorem i_Pa_firstFault_30 : ix_nx mPa_firstFault 30 = some (0, .iload_n 2, 31, none, [], 0) := rfl
theorem i_Pa_firstFault_31 : ix_nx mPa_firstFault 31 = some (0, .iconst 1, 32, none, [], 0) := rfl
theorem i_Pa_firstFault_32 : ix_nx mPa_firstFault 32 = some (0, .if_icmp .ne 16, 35, none, [], 0) := rfl
theorem i_Pa_firstFault_35 : ix_nx mPa_firstFault 35 = some (0, .iload_n 3, 36, none, [], 0) := rfl
theorem i_Pa_firstFault_36 : ix_nx mPa_firstFault 36 = some (0, .iconst 2, 37, none, [], 0) := rfl
theorem i_Pa_firstFault_37 : ix_nx mPa_firstFault 37 = some (0, .if_icmp .lt 7, 40, none, [], 0) := rfl
theorem i_Pa_firstFault_40 : ix_nx mPa_firstFault 40 = some (0, .iconst 1, 41, none, [], 0) := rfl
theorem i_Pa_firstFault_41 : ix_nx mPa_firstFault 41 = some (0, .goto 17, 44, none, [], 0) := rfl
theorem i_Pa_firstFault_44 : ix_nx mPa_firstFault 44 = some (0, .iconst 0, 45, none, [], 0) := rfl
theorem i_Pa_firstFault_45 : ix_nx mPa_firstFault 45 = some (0, .goto 13, 48, none, [], 0) := rfl
theorem i_Pa_firstFault_48 : ix_nx mPa_firstFault 48 = some (0, .iload_n 3, 49, none, [], 0) := rfl
theorem i_Pa_firstFault_49 : ix_nx mPa_firstFault 49 = some (0, .iload_n 1, 50, none, [], 0) := rfl
theorem i_Pa_firstFault_50 : ix_nx mPa_firstFault 50 = some (0, .if_icmp .ne 7, 53, none, [], 0) := rfl
theorem i_Pa_firstFault_53 : ix_nx mPa_firstFault 53 = some (0, .iconst 1, 54, none, [], 0) := rfl
theorem i_Pa_firstFault_54 : ix_nx mPa_firstFault 54 = some (0, .goto 4, 57, none, [], 0) := rfl
theorem i_Pa_firstFault_57 : ix_nx mPa_firstFault 57 = some (0, .iconst 0, 58, none, [], 0) := rfl
theorem i_Pa_firstFault_58 : ix_nx mPa_firstFault 58 = some (0, .istore 5, 60, some [true, true, true, true, true, false], [], 0) := rfl
theorem i_Pa_firstFault_60 : ix_nx mPa_firstFault 60 = some (0, .iload 5, 62, none, [], 0) := rfl
theorem i_Pa_firstFault_62 : ix_nx mPa_firstFault 62 = some (0, .ifCond .eq 9, 65, none, [], 0) := rfl
theorem i_Pa_firstFault_65 : ix_nx mPa_firstFault 65 = some (0, .iload_n 2, 66, none, [], 0) := rfl
theorem i_Pa_firstFault_66 : ix_nx mPa_firstFault 66 = some (0, .bipush 8, 68, none, [], 0) := rfl
theorem i_Pa_firstFault_68 : ix_nx mPa_firstFault 68 = some (0, .if_icmp .ne 6, 71, none, [], 0) := rfl
theorem i_Pa_firstFault_71 : ix_nx mPa_firstFault 71 = some (0, .iload 4, 73, none, [], 0) := rfl
theorem i_Pa_firstFault_73 : ix_nx mPa_firstFault 73 = some (4, .ireturn, 74, none, [], 0) := rfl
theorem i_Pa_firstFault_74 : ix_nx mPa_firstFault 74 = some (0, .iload_n 2, 75, none, [], 0) := rfl
theorem i_Pa_firstFault_75 : ix_nx mPa_firstFault 75 = some (0, .iconst 1, 76, none, [], 0) := rfl
theorem i_Pa_firstFault_76 : ix_nx mPa_firstFault 76 = some (0, .if_icmp .ne 7, 79, none, [], 0) := rfl
theorem i_Pa_firstFault_79 : ix_nx mPa_firstFault 79 = some (0, .iload_n 3, 80, none, [], 0) := rfl
theorem i_Pa_firstFault_80 : ix_nx mPa_firstFault 80 = some (0, .goto 4, 83, none, [], 0) := rfl
theorem i_Pa_firstFault_83 : ix_nx mPa_firstFault 83 = some (0, .iload_n 1, 84, none, [], 0) := rfl
theorem i_Pa_firstFault_84 : ix_nx mPa_firstFault 84 = some (0, .istore_n 1, 85, none, [], 0) := rfl
theorem i_Pa_firstFault_85 : ix_nx mPa_firstFault 85 = some (0, .iinc 2 1, 88, none, [], 0) := rfl
theorem i_Pa_firstFault_88 : ix_nx mPa_firstFault 88 = some (0, .iconst 0, 89, none, [], 0) := rfl
theorem i_Pa_firstFault_89 : ix_nx mPa_firstFault 89 = some (0, .istore_n 3, 90, none, [], 0) := rfl
theorem i_Pa_firstFault_90 : ix_nx mPa_firstFault 90 = some (0, .goto 23, 93, none, [], 0) := rfl
theorem i_Pa_firstFault_93 : ix_nx mPa_firstFault 93 = some (0, .aload_n 0, 94, none, [], 0) := rfl
theorem i_Pa_firstFault_94 : ix_nx mPa_firstFault 94 = some (0, .iload 4, 96, none, [], 0) := rfl
theorem i_Pa_firstFault_96 : ix_nx mPa_firstFault 96 = some (3, .invokevirtual 32, 99, none, [0, 95, 100], 0) := rfl
theorem i_Pa_firstFault_99 : ix_nx mPa_firstFault 99 = some (0, .ifCond .lt 8, 102, none, [], 0) := rfl
theorem i_Pa_firstFault_102 : ix_nx mPa_firstFault 102 = some (0, .iload_n 3, 103, none, [], 0) := rfl
theorem i_Pa_firstFault_103 : ix_nx mPa_firstFault 103 = some (0, .iload_n 1, 104, none, [], 0) := rfl
theorem i_Pa_firstFault_104 : ix_nx mPa_firstFault 104 = some (0, .if_icmp .ne 6, 107, none, [], 0) := rfl
theorem i_Pa_firstFault_107 : ix_nx mPa_firstFault 107 = some (0, .iload 4, 109, none, [], 0) := rfl
theorem i_Pa_firstFault_109 : ix_nx mPa_firstFault 109 = some (4, .ireturn, 110, none, [], 0) := rfl
theorem i_Pa_firstFault_110 : ix_nx mPa_firstFault 110 = some (0, .iinc 3 1, 113, none, [], 0) := rfl
theorem i_Pa_firstFault_113 : ix_nx mPa_firstFault 113 = some (0, .iinc 4 1, 116, none, [], 0) := rfl
theorem i_Pa_firstFault_116 : ix_nx mPa_firstFault 116 = some (0, .goto (-106), 119, none, [], 0) := rfl
theorem i_Pa_firstFault_119 : ix_nx mPa_firstFault 119 = some (0, .iload_n 2, 120, none, [], 0) := rfl
theorem i_Pa_firstFault_120 : ix_nx mPa_firstFault 120 = some (0, .iconst 2, 121, none, [], 0) := rfl
theorem i_Pa_firstFault_121 : ix_nx mPa_firstFault 121 = some (0, .if_icmp .lt 8, 124, none, [], 0) := rfl
theorem i_Pa_firstFault_124 : ix_nx mPa_firstFault 124 = some (0, .iload_n 3, 125, none, [], 0) := rfl
theorem i_Pa_firstFault_125 : ix_nx mPa_firstFault 125 = some (0, .iload_n 1, 126, none, [], 0) := rfl
theorem i_Pa_firstFault_126 : ix_nx mPa_firstFault 126 = some (0, .if_icmp .ge 10, 129, none, [], 0) := rfl
theorem i_Pa_firstFault_129 : ix_nx mPa_firstFault 129 = some (0, .aload_n 0, 130, none, [], 0) := rfl
theorem i_Pa_firstFault_130 : ix_nx mPa_firstFault 130 = some (1, .getfield 15, 133, none, [4, 1, 0, 47], 0) := rfl
theorem i_Pa_firstFault_133 : ix_nx mPa_firstFault 133 = some (0, .goto 5, 136, none, [], 0) := rfl
theorem i_Pa_firstFault_136 : ix_nx mPa_firstFault 136 = some (0, .bipush (-6), 138, none, [], 0) := rfl
theorem i_Pa_firstFault_138 : ix_nx mPa_firstFault 138 = some (4, .ireturn, 139, none, [], 0) := rfl
noncomputable def l_Pa_firstFault_10 (a0 : Nat) (x1 : Int32) (x2 : Int32) (x3 : Int32) (x4 : Int32) (h : ixH) : Option (List Value × ixH) := ix_D mPa_firstFault 10 [some (.ref a0), some (.int x1), some (.int x2), some (.int x3), some (.int x4), none] [] h
noncomputable def l_Pa_firstFault_58 (a0 : Nat) (x1 : Int32) (x2 : Int32) (x3 : Int32) (x4 : Int32) (sb0 : Bool) (h : ixH) : Option (List Value × ixH) := ix_D mPa_firstFault 58 [some (.ref a0), some (.int x1), some (.int x2), some (.int x3), some (.int x4), none] [.int (ix_bi sb0)] h
set_option maxRecDepth 20000 in
set_option maxHeartbeats 1000000 in
theorem e_Pa_firstFault_10 (a0 : Nat) (x1 : Int32) (x2 : Int32) (x3 : Int32) (x4 : Int32) (h : ixH) : l_Pa_firstFault_10 a0 x1 x2 x3 x4 h = (ix_gi h a0 4 1).bind fun v1 => if v1 ≤ x4 then if x2 < 2 then (ix_gi h a0 4 1).bind fun v2 => some ([.int v2], h) else if x1 ≤ x3 then some ([.int (-6)], h) else (ix_gi h a0 4 1).bind fun v3 => some ([.int v3], h) else (ix_M mPa_codeAt [.ref a0, .int x4] h).bind fun r => ix_kI r fun v5 h4 => if ¬ v5 = 47 then (ix_M mPa_kindAt [.ref a0, .int x4] h4).bind fun r => ix_kI r fun v7 h6 => if v7 < 0 then some ([.int x4], h6) else if ¬ x3 = x1 then l_Pa_firstFault_10 a0 x1 x2 (x3 + 1) (x4 + 1) h6 else some ([.int x4], h6) else if ¬ x2 = 1 then if ¬ x3 = x1 then l_Pa_firstFault_58 a0 x1 x2 x3 x4 false h4 else l_Pa_firstFault_58 a0 x1 x2 x3 x4 true h4 else if x3 < 2 then l_Pa_firstFault_58 a0 x1 x2 x3 x4 false h4 else l_Pa_firstFault_58 a0 x1 x2 x3 x4 true h4 := by
  unfold l_Pa_firstFault_10
  refine ix_K_px kq_Pa_firstFault i_Pa_firstFault_10 rfl rfl ?_
  refine ix_K_px kq_Pa_firstFault i_Pa_firstFault_12 rfl rfl ?_
  refine ix_K_gi kq_Pa_firstFault i_Pa_firstFault_13 rfl (fun v1 => ?_)
  refine ix_K_ic_ge (tgt := 119) kq_Pa_firstFault i_Pa_firstFault_16 rfl (by decide) ?_ ?_
  · refine ix_K_px kq_Pa_firstFault i_Pa_firstFault_119 rfl rfl ?_
    refine ix_K_ci kq_Pa_firstFault i_Pa_firstFault_120 rfl kci_2 ?_
    refine ix_K_ic_lt (tgt := 129) kq_Pa_firstFault i_Pa_firstFault_121 rfl (by decide) ?_ ?_
    · refine ix_K_px kq_Pa_firstFault i_Pa_firstFault_129 rfl rfl ?_
      refine ix_K_gi kq_Pa_firstFault i_Pa_firstFault_130 rfl (fun v2 => ?_)
      refine ix_K_goto (tgt := 138) kq_Pa_firstFault i_Pa_firstFault_133 rfl (by decide) ?_
      exact ix_D_ret kq_Pa_firstFault i_Pa_firstFault_138 (ix_rtI rfl _)
    · refine ix_K_px kq_Pa_firstFault i_Pa_firstFault_124 rfl rfl ?_
      refine ix_K_px kq_Pa_firstFault i_Pa_firstFault_125 rfl rfl ?_
      refine ix_K_ic_ge (tgt := 136) kq_Pa_firstFault i_Pa_firstFault_126 rfl (by decide) ?_ ?_
      · refine ix_K_cb kq_Pa_firstFault i_Pa_firstFault_136 rfl kcb_m6 ?_
        exact ix_D_ret kq_Pa_firstFault i_Pa_firstFault_138 (ix_rtI rfl _)
      · refine ix_K_px kq_Pa_firstFault i_Pa_firstFault_129 rfl rfl ?_
        refine ix_K_gi kq_Pa_firstFault i_Pa_firstFault_130 rfl (fun v3 => ?_)
        refine ix_K_goto (tgt := 138) kq_Pa_firstFault i_Pa_firstFault_133 rfl (by decide) ?_
        exact ix_D_ret kq_Pa_firstFault i_Pa_firstFault_138 (ix_rtI rfl _)
  · refine ix_K_px kq_Pa_firstFault i_Pa_firstFault_19 rfl rfl ?_
    refine ix_K_px kq_Pa_firstFault i_Pa_firstFault_20 rfl rfl ?_
    refine ix_K_callI (as := [.ref a0, .int x4]) (rest := []) kq_Pa_firstFault i_Pa_firstFault_22 rfl kq_Pa_codeAt (by decide) rfl (Or.inl rfl) (fun v5 h4 => ?_)
    refine ix_K_cb kq_Pa_firstFault i_Pa_firstFault_25 rfl kcb_47 ?_
    refine ix_K_ic_ne (tgt := 93) kq_Pa_firstFault i_Pa_firstFault_27 rfl (by decide) ?_ ?_
    · refine ix_K_px kq_Pa_firstFault i_Pa_firstFault_93 rfl rfl ?_
      refine ix_K_px kq_Pa_firstFault i_Pa_firstFault_94 rfl rfl ?_
      refine ix_K_callI (as := [.ref a0, .int x4]) (rest := []) kq_Pa_firstFault i_Pa_firstFault_96 rfl kq_Pa_kindAt (by decide) rfl (Or.inl rfl) (fun v7 h6 => ?_)
      refine ix_K_if_lt (tgt := 107) kq_Pa_firstFault i_Pa_firstFault_99 rfl (by decide) ?_ ?_
      · refine ix_K_px kq_Pa_firstFault i_Pa_firstFault_107 rfl rfl ?_
        exact ix_D_ret kq_Pa_firstFault i_Pa_firstFault_109 (ix_rtI rfl _)
      · refine ix_K_px kq_Pa_firstFault i_Pa_firstFault_102 rfl rfl ?_
        refine ix_K_px kq_Pa_firstFault i_Pa_firstFault_103 rfl rfl ?_
        refine ix_K_ic_ne (tgt := 110) kq_Pa_firstFault i_Pa_firstFault_104 rfl (by decide) ?_ ?_
        · refine ix_K_inc (L2 := [some (.ref a0), some (.int x1), some (.int x2), some (.int (x3 + 1)), some (.int x4), none]) kq_Pa_firstFault i_Pa_firstFault_110 rfl rfl (Nat.le_of_ble_eq_true rfl) kci_1 rfl ?_
          refine ix_K_inc (L2 := [some (.ref a0), some (.int x1), some (.int x2), some (.int (x3 + 1)), some (.int (x4 + 1)), none]) kq_Pa_firstFault i_Pa_firstFault_113 rfl rfl (Nat.le_of_ble_eq_true rfl) kci_1 rfl ?_
          refine ix_K_goto (tgt := 10) kq_Pa_firstFault i_Pa_firstFault_116 rfl (by decide) ?_
          exact ix_D_cut i_Pa_firstFault_10 rfl
        · refine ix_K_px kq_Pa_firstFault i_Pa_firstFault_107 rfl rfl ?_
          exact ix_D_ret kq_Pa_firstFault i_Pa_firstFault_109 (ix_rtI rfl _)
    · refine ix_K_px kq_Pa_firstFault i_Pa_firstFault_30 rfl rfl ?_
      refine ix_K_ci kq_Pa_firstFault i_Pa_firstFault_31 rfl kci_1 ?_
      refine ix_K_ic_ne (tgt := 48) kq_Pa_firstFault i_Pa_firstFault_32 rfl (by decide) ?_ ?_
      · refine ix_K_px kq_Pa_firstFault i_Pa_firstFault_48 rfl rfl ?_
        refine ix_K_px kq_Pa_firstFault i_Pa_firstFault_49 rfl rfl ?_
        refine ix_K_ic_ne (tgt := 57) kq_Pa_firstFault i_Pa_firstFault_50 rfl (by decide) ?_ ?_
        · refine ix_K_ci kq_Pa_firstFault i_Pa_firstFault_57 rfl kci_0 ?_
          exact ix_D_cut i_Pa_firstFault_58 rfl
        · refine ix_K_ci kq_Pa_firstFault i_Pa_firstFault_53 rfl kci_1 ?_
          refine ix_K_goto (tgt := 58) kq_Pa_firstFault i_Pa_firstFault_54 rfl (by decide) ?_
          exact ix_D_cut i_Pa_firstFault_58 rfl
      · refine ix_K_px kq_Pa_firstFault i_Pa_firstFault_35 rfl rfl ?_
        refine ix_K_ci kq_Pa_firstFault i_Pa_firstFault_36 rfl kci_2 ?_
        refine ix_K_ic_lt (tgt := 44) kq_Pa_firstFault i_Pa_firstFault_37 rfl (by decide) ?_ ?_
        · refine ix_K_ci kq_Pa_firstFault i_Pa_firstFault_44 rfl kci_0 ?_
          refine ix_K_goto (tgt := 58) kq_Pa_firstFault i_Pa_firstFault_45 rfl (by decide) ?_
          exact ix_D_cut i_Pa_firstFault_58 rfl
        · refine ix_K_ci kq_Pa_firstFault i_Pa_firstFault_40 rfl kci_1 ?_
          refine ix_K_goto (tgt := 58) kq_Pa_firstFault i_Pa_firstFault_41 rfl (by decide) ?_
          exact ix_D_cut i_Pa_firstFault_58 rfl
set_option maxRecDepth 20000 in
set_option maxHeartbeats 1000000 in
theorem e_Pa_firstFault_58 (a0 : Nat) (x1 : Int32) (x2 : Int32) (x3 : Int32) (x4 : Int32) (sb0 : Bool) (h : ixH) : l_Pa_firstFault_58 a0 x1 x2 x3 x4 sb0 h = if sb0 = true then if ¬ x2 = 8 then if ¬ x2 = 1 then l_Pa_firstFault_10 a0 x1 (x2 + 1) 0 (x4 + 1) h else l_Pa_firstFault_10 a0 x3 (x2 + 1) 0 (x4 + 1) h else some ([.int x4], h) else some ([.int x4], h) := by
  unfold l_Pa_firstFault_58
  refine ix_K_si (L2 := [some (.ref a0), some (.int x1), some (.int x2), some (.int x3), some (.int x4), some (.int (ix_bi sb0))]) kq_Pa_firstFault i_Pa_firstFault_58 rfl (Or.inl rfl) (Nat.le_of_ble_eq_true rfl) rfl ?_
  refine ix_K_px kq_Pa_firstFault i_Pa_firstFault_60 rfl rfl ?_
  refine ix_K_bz_eq (tgt := 71) kq_Pa_firstFault i_Pa_firstFault_62 rfl (by decide) ?_ ?_
  · refine ix_K_px kq_Pa_firstFault i_Pa_firstFault_65 rfl rfl ?_
    refine ix_K_cb kq_Pa_firstFault i_Pa_firstFault_66 rfl kcb_8 ?_
    refine ix_K_ic_ne (tgt := 74) kq_Pa_firstFault i_Pa_firstFault_68 rfl (by decide) ?_ ?_
    · refine ix_K_px kq_Pa_firstFault i_Pa_firstFault_74 rfl rfl ?_
      refine ix_K_ci kq_Pa_firstFault i_Pa_firstFault_75 rfl kci_1 ?_
      refine ix_K_ic_ne (tgt := 83) kq_Pa_firstFault i_Pa_firstFault_76 rfl (by decide) ?_ ?_
      · refine ix_K_px kq_Pa_firstFault i_Pa_firstFault_83 rfl rfl ?_
        refine ix_K_si (L2 := [some (.ref a0), some (.int x1), some (.int x2), some (.int x3), some (.int x4), some (.int (ix_bi sb0))]) kq_Pa_firstFault i_Pa_firstFault_84 rfl (Or.inr ⟨_, rfl, rfl⟩) (Nat.le_of_ble_eq_true rfl) rfl ?_
        refine ix_K_inc (L2 := [some (.ref a0), some (.int x1), some (.int (x2 + 1)), some (.int x3), some (.int x4), some (.int (ix_bi sb0))]) kq_Pa_firstFault i_Pa_firstFault_85 rfl rfl (Nat.le_of_ble_eq_true rfl) kci_1 rfl ?_
        refine ix_K_ci kq_Pa_firstFault i_Pa_firstFault_88 rfl kci_0 ?_
        refine ix_K_si (L2 := [some (.ref a0), some (.int x1), some (.int (x2 + 1)), some (.int 0), some (.int x4), some (.int (ix_bi sb0))]) kq_Pa_firstFault i_Pa_firstFault_89 rfl (Or.inr ⟨_, rfl, rfl⟩) (Nat.le_of_ble_eq_true rfl) rfl ?_
        refine ix_K_goto (tgt := 113) kq_Pa_firstFault i_Pa_firstFault_90 rfl (by decide) ?_
        refine ix_K_inc (L2 := [some (.ref a0), some (.int x1), some (.int (x2 + 1)), some (.int 0), some (.int (x4 + 1)), some (.int (ix_bi sb0))]) kq_Pa_firstFault i_Pa_firstFault_113 rfl rfl (Nat.le_of_ble_eq_true rfl) kci_1 rfl ?_
        refine ix_K_goto (tgt := 10) kq_Pa_firstFault i_Pa_firstFault_116 rfl (by decide) ?_
        exact ix_D_cut i_Pa_firstFault_10 rfl
      · refine ix_K_px kq_Pa_firstFault i_Pa_firstFault_79 rfl rfl ?_
        refine ix_K_goto (tgt := 84) kq_Pa_firstFault i_Pa_firstFault_80 rfl (by decide) ?_
        refine ix_K_si (L2 := [some (.ref a0), some (.int x3), some (.int x2), some (.int x3), some (.int x4), some (.int (ix_bi sb0))]) kq_Pa_firstFault i_Pa_firstFault_84 rfl (Or.inr ⟨_, rfl, rfl⟩) (Nat.le_of_ble_eq_true rfl) rfl ?_
        refine ix_K_inc (L2 := [some (.ref a0), some (.int x3), some (.int (x2 + 1)), some (.int x3), some (.int x4), some (.int (ix_bi sb0))]) kq_Pa_firstFault i_Pa_firstFault_85 rfl rfl (Nat.le_of_ble_eq_true rfl) kci_1 rfl ?_
        refine ix_K_ci kq_Pa_firstFault i_Pa_firstFault_88 rfl kci_0 ?_
        refine ix_K_si (L2 := [some (.ref a0), some (.int x3), some (.int (x2 + 1)), some (.int 0), some (.int x4), some (.int (ix_bi sb0))]) kq_Pa_firstFault i_Pa_firstFault_89 rfl (Or.inr ⟨_, rfl, rfl⟩) (Nat.le_of_ble_eq_true rfl) rfl ?_
        refine ix_K_goto (tgt := 113) kq_Pa_firstFault i_Pa_firstFault_90 rfl (by decide) ?_
        refine ix_K_inc (L2 := [some (.ref a0), some (.int x3), some (.int (x2 + 1)), some (.int 0), some (.int (x4 + 1)), some (.int (ix_bi sb0))]) kq_Pa_firstFault i_Pa_firstFault_113 rfl rfl (Nat.le_of_ble_eq_true rfl) kci_1 rfl ?_
        refine ix_K_goto (tgt := 10) kq_Pa_firstFault i_Pa_firstFault_116 rfl (by decide) ?_
        exact ix_D_cut i_Pa_firstFault_10 rfl
    · refine ix_K_px kq_Pa_firstFault i_Pa_firstFault_71 rfl rfl ?_
      exact ix_D_ret kq_Pa_firstFault i_Pa_firstFault_73 (ix_rtI rfl _)
  · refine ix_K_px kq_Pa_firstFault i_Pa_firstFault_71 rfl rfl ?_
    exact ix_D_ret kq_Pa_firstFault i_Pa_firstFault_73 (ix_rtI rfl _)
set_option maxRecDepth 20000 in
set_option maxHeartbeats 1000000 in
theorem e_Pa_firstFault (a0 : Nat) (h : ixH) : ix_D mPa_firstFault 0 [some (.ref a0), none, none, none, none, none] [] h = l_Pa_firstFault_10 a0 8 1 0 0 h := by
  refine ix_K_cb kq_Pa_firstFault i_Pa_firstFault_0 rfl kcb_8 ?_
  refine ix_K_si (L2 := [some (.ref a0), some (.int 8), none, none, none, none]) kq_Pa_firstFault i_Pa_firstFault_2 rfl (Or.inr ⟨_, rfl, rfl⟩) (Nat.le_of_ble_eq_true rfl) rfl ?_
  refine ix_K_ci kq_Pa_firstFault i_Pa_firstFault_3 rfl kci_1 ?_
  refine ix_K_si (L2 := [some (.ref a0), some (.int 8), some (.int 1), none, none, none]) kq_Pa_firstFault i_Pa_firstFault_4 rfl (Or.inr ⟨_, rfl, rfl⟩) (Nat.le_of_ble_eq_true rfl) rfl ?_
  refine ix_K_ci kq_Pa_firstFault i_Pa_firstFault_5 rfl kci_0 ?_
  refine ix_K_si (L2 := [some (.ref a0), some (.int 8), some (.int 1), some (.int 0), none, none]) kq_Pa_firstFault i_Pa_firstFault_6 rfl (Or.inr ⟨_, rfl, rfl⟩) (Nat.le_of_ble_eq_true rfl) rfl ?_
  refine ix_K_ci kq_Pa_firstFault i_Pa_firstFault_7 rfl kci_0 ?_
  refine ix_K_si (L2 := [some (.ref a0), some (.int 8), some (.int 1), some (.int 0), some (.int 0), none]) kq_Pa_firstFault i_Pa_firstFault_8 rfl (Or.inl rfl) (Nat.le_of_ble_eq_true rfl) rfl ?_
  exact ix_D_cut i_Pa_firstFault_10 rfl
theorem x_Pa_firstFault {a0 : Nat} {h h1 : ixH} {v : Int32} (hr : ix_rc h a0 = some 4) (hd : ix_D mPa_firstFault 0 [some (.ref a0), none, none, none, none, none] [] h = some ([.int v], h1)) : ix_M mPa_firstFault [.ref a0] h = some ([.int v], h1) := ix_M_of (ix_ent_i kq_Pa_firstFault rfl hr rfl (Nat.le_of_ble_eq_true rfl) rfl) hd (ix_okrI (Or.inl rfl) v)
theorem i_Pa_codeAt_0 : ix_nx mPa_codeAt 0 = some (0, .iload_n 1, 1, none, [], 0) := rfl
theorem i_Pa_codeAt_1 : ix_nx mPa_codeAt 1 = some (0, .ifCond .lt 26, 4, none, [], 0) := rfl
theorem i_Pa_codeAt_4 : ix_nx mPa_codeAt 4 = some (0, .iload_n 1, 5, none, [], 0) := rfl
theorem i_Pa_codeAt_5 : ix_nx mPa_codeAt 5 = some (0, .aload_n 0, 6, none, [], 0) := rfl
theorem i_Pa_codeAt_6 : ix_nx mPa_codeAt 6 = some (1, .getfield 15, 9, none, [4, 1, 0, 47], 0) := rfl
theorem i_Pa_codeAt_9 : ix_nx mPa_codeAt 9 = some (0, .if_icmp .ge 18, 12, none, [], 0) := rfl
theorem i_Pa_codeAt_12 : ix_nx mPa_codeAt 12 = some (0, .iload_n 1, 13, none, [], 0) := rfl
theorem i_Pa_codeAt_13 : ix_nx mPa_codeAt 13 = some (0, .bipush 80, 15, none, [], 0) := rfl
theorem i_Pa_codeAt_15 : ix_nx mPa_codeAt 15 = some (0, .if_icmp .ge 12, 18, none, [], 0) := rfl
theorem i_Pa_codeAt_18 : ix_nx mPa_codeAt 18 = some (0, .aload_n 0, 19, none, [], 0) := rfl
theorem i_Pa_codeAt_19 : ix_nx mPa_codeAt 19 = some (1, .getfield 11, 22, none, [4, 0, 2, 46], 0) := rfl
theorem i_Pa_codeAt_22 : ix_nx mPa_codeAt 22 = some (0, .iload_n 1, 23, none, [], 0) := rfl
theorem i_Pa_codeAt_23 : ix_nx mPa_codeAt 23 = some (1, .iaload, 24, none, [], 0) := rfl
theorem i_Pa_codeAt_24 : ix_nx mPa_codeAt 24 = some (0, .goto 4, 27, none, [], 0) := rfl
theorem i_Pa_codeAt_27 : ix_nx mPa_codeAt 27 = some (0, .iconst 0, 28, none, [], 0) := rfl
theorem i_Pa_codeAt_28 : ix_nx mPa_codeAt 28 = some (4, .ireturn, 29, none, [], 0) := rfl
set_option maxRecDepth 20000 in
set_option maxHeartbeats 1000000 in
theorem e_Pa_codeAt (a0 : Nat) (x1 : Int32) (h : ixH) : ix_D mPa_codeAt 0 [some (.ref a0), some (.int x1)] [] h = if x1 < 0 then some ([.int 0], h) else (ix_gi h a0 4 1).bind fun v1 => if v1 ≤ x1 then some ([.int 0], h) else if 80 ≤ x1 then some ([.int 0], h) else (ix_gr h a0 4 0).bind fun v2 => (ix_ai h v2 x1).bind fun v3 => some ([.int v3], h) := by
  refine ix_K_px kq_Pa_codeAt i_Pa_codeAt_0 rfl rfl ?_
  refine ix_K_if_lt (tgt := 27) kq_Pa_codeAt i_Pa_codeAt_1 rfl (by decide) ?_ ?_
  · refine ix_K_ci kq_Pa_codeAt i_Pa_codeAt_27 rfl kci_0 ?_
    exact ix_D_ret kq_Pa_codeAt i_Pa_codeAt_28 (ix_rtI rfl _)
  · refine ix_K_px kq_Pa_codeAt i_Pa_codeAt_4 rfl rfl ?_
    refine ix_K_px kq_Pa_codeAt i_Pa_codeAt_5 rfl rfl ?_
    refine ix_K_gi kq_Pa_codeAt i_Pa_codeAt_6 rfl (fun v1 => ?_)
    refine ix_K_ic_ge (tgt := 27) kq_Pa_codeAt i_Pa_codeAt_9 rfl (by decide) ?_ ?_
    · refine ix_K_ci kq_Pa_codeAt i_Pa_codeAt_27 rfl kci_0 ?_
      exact ix_D_ret kq_Pa_codeAt i_Pa_codeAt_28 (ix_rtI rfl _)
    · refine ix_K_px kq_Pa_codeAt i_Pa_codeAt_12 rfl rfl ?_
      refine ix_K_cb kq_Pa_codeAt i_Pa_codeAt_13 rfl kcb_80 ?_
      refine ix_K_ic_ge (tgt := 27) kq_Pa_codeAt i_Pa_codeAt_15 rfl (by decide) ?_ ?_
      · refine ix_K_ci kq_Pa_codeAt i_Pa_codeAt_27 rfl kci_0 ?_
        exact ix_D_ret kq_Pa_codeAt i_Pa_codeAt_28 (ix_rtI rfl _)
      · refine ix_K_px kq_Pa_codeAt i_Pa_codeAt_18 rfl rfl ?_
        refine ix_K_gr kq_Pa_codeAt i_Pa_codeAt_19 rfl (fun v2 => ?_)
        refine ix_K_px kq_Pa_codeAt i_Pa_codeAt_22 rfl rfl ?_
        refine ix_K_ai kq_Pa_codeAt i_Pa_codeAt_23 rfl (fun v3 => ?_)
        refine ix_K_goto (tgt := 28) kq_Pa_codeAt i_Pa_codeAt_24 rfl (by decide) ?_
        exact ix_D_ret kq_Pa_codeAt i_Pa_codeAt_28 (ix_rtI rfl _)
theorem x_Pa_codeAt {a0 : Nat} {x1 : Int32} {h h1 : ixH} {v : Int32} (hr : ix_rc h a0 = some 4) (hd : ix_D mPa_codeAt 0 [some (.ref a0), some (.int x1)] [] h = some ([.int v], h1)) : ix_M mPa_codeAt [.ref a0, .int x1] h = some ([.int v], h1) := ix_M_of (ix_ent_i kq_Pa_codeAt rfl hr rfl (Nat.le_of_ble_eq_true rfl) rfl) hd (ix_okrI (Or.inl rfl) v)
theorem i_Pa_kindAt_0 : ix_nx mPa_kindAt 0 = some (1, .ldc 21, 2, none, [], 0) := rfl
theorem i_Pa_kindAt_2 : ix_nx mPa_kindAt 2 = some (0, .aload_n 0, 3, none, [], 0) := rfl
theorem i_Pa_kindAt_3 : ix_nx mPa_kindAt 3 = some (0, .iload_n 1, 4, none, [], 0) := rfl
theorem i_Pa_kindAt_4 : ix_nx mPa_kindAt 4 = some (3, .invokevirtual 23, 7, none, [0, 94, 99], 0) := rfl
theorem i_Pa_kindAt_7 : ix_nx mPa_kindAt 7 = some (0, .i2c, 8, none, [], 0) := rfl
theorem i_Pa_kindAt_8 : ix_nx mPa_kindAt 8 = some (3, .invokevirtual 27, 11, none, [0, 247, 101], 0) := rfl
theorem i_Pa_kindAt_11 : ix_nx mPa_kindAt 11 = some (4, .ireturn, 12, none, [], 0) := rfl
set_option maxRecDepth 20000 in
set_option maxHeartbeats 1000000 in
theorem e_Pa_kindAt (a0 : Nat) (x1 : Int32) (h : ixH) : ix_D mPa_kindAt 0 [some (.ref a0), some (.int x1)] [] h = (ix_M mPa_codeAt [.ref a0, .int x1] h).bind fun r => ix_kI r fun v2 h1 => (ix_M mJS_indexOf [.ref 1, .int (ix_i2c v2)] h1).bind fun r => ix_kI r fun v4 h3 => some ([.int v4], h3) := by
  refine ix_K_ls kq_Pa_kindAt i_Pa_kindAt_0 rfl ?_
  refine ix_K_px kq_Pa_kindAt i_Pa_kindAt_2 rfl rfl ?_
  refine ix_K_px kq_Pa_kindAt i_Pa_kindAt_3 rfl rfl ?_
  refine ix_K_callI (as := [.ref a0, .int x1]) (rest := [.ref 1]) kq_Pa_kindAt i_Pa_kindAt_4 rfl kq_Pa_codeAt (by decide) rfl (Or.inl rfl) (fun v2 h1 => ?_)
  refine ix_K_px kq_Pa_kindAt i_Pa_kindAt_7 rfl rfl ?_
  refine ix_K_callI (as := [.ref 1, .int (ix_i2c v2)]) (rest := []) kq_Pa_kindAt i_Pa_kindAt_8 rfl kq_JS_indexOf (by decide) rfl (Or.inl rfl) (fun v4 h3 => ?_)
  exact ix_D_ret kq_Pa_kindAt i_Pa_kindAt_11 (ix_rtI rfl _)
theorem x_Pa_kindAt {a0 : Nat} {x1 : Int32} {h h1 : ixH} {v : Int32} (hr : ix_rc h a0 = some 4) (hd : ix_D mPa_kindAt 0 [some (.ref a0), some (.int x1)] [] h = some ([.int v], h1)) : ix_M mPa_kindAt [.ref a0, .int x1] h = some ([.int v], h1) := ix_M_of (ix_ent_i kq_Pa_kindAt rfl hr rfl (Nat.le_of_ble_eq_true rfl) rfl) hd (ix_okrI (Or.inl rfl) v)
theorem i_Pa_gridWidth_0 : ix_nx mPa_gridWidth 0 = some (0, .iconst 0, 1, none, [], 0) := rfl
theorem i_Pa_gridWidth_1 : ix_nx mPa_gridWidth 1 = some (0, .istore_n 1, 2, none, [], 0) := rfl
theorem i_Pa_gridWidth_2 : ix_nx mPa_gridWidth 2 = some (0, .iload_n 1, 3, some [true, true], [], 0) := rfl
theorem i_Pa_gridWidth_3 : ix_nx mPa_gridWidth 3 = some (0, .aload_n 0, 4, none, [], 0) := rfl
theorem i_Pa_gridWidth_4 : ix_nx mPa_gridWidth 4 = some (1, .getfield 15, 7, none, [4, 1, 0, 47], 0) := rfl
theorem i_Pa_gridWidth_7 : ix_nx mPa_gridWidth 7 = some (0, .if_icmp .ge 19, 10, none, [], 0) := rfl
theorem i_Pa_gridWidth_10 : ix_nx mPa_gridWidth 10 = some (0, .aload_n 0, 11, none, [], 0) := rfl
theorem i_Pa_gridWidth_11 : ix_nx mPa_gridWidth 11 = some (0, .iload_n 1, 12, none, [], 0) := rfl
theorem i_Pa_gridWidth_12 : ix_nx mPa_gridWidth 12 = some (3, .invokevirtual 23, 15, none, [0, 94, 99], 0) := rfl
theorem i_Pa_gridWidth_15 : ix_nx mPa_gridWidth 15 = some (0, .bipush 47, 17, none, [], 0) := rfl
theorem i_Pa_gridWidth_17 : ix_nx mPa_gridWidth 17 = some (0, .if_icmp .eq 9, 20, none, [], 0) := rfl
theorem i_Pa_gridWidth_20 : ix_nx mPa_gridWidth 20 = some (0, .iinc 1 1, 23, none, [], 0) := rfl
theorem i_Pa_gridWidth_23 : ix_nx mPa_gridWidth 23 = some (0, .goto (-21), 26, none, [], 0) := rfl
theorem i_Pa_gridWidth_26 : ix_nx mPa_gridWidth 26 = some (0, .iload_n 1, 27, none, [], 0) := rfl
theorem i_Pa_gridWidth_27 : ix_nx mPa_gridWidth 27 = some (4, .ireturn, 28, none, [], 0) := rfl
noncomputable def l_Pa_gridWidth_2 (a0 : Nat) (x1 : Int32) (h : ixH) : Option (List Value × ixH) := ix_D mPa_gridWidth 2 [some (.ref a0), some (.int x1)] [] h
set_option maxRecDepth 20000 in
set_option maxHeartbeats 1000000 in
theorem e_Pa_gridWidth_2 (a0 : Nat) (x1 : Int32) (h : ixH) : l_Pa_gridWidth_2 a0 x1 h = (ix_gi h a0 4 1).bind fun v1 => if v1 ≤ x1 then some ([.int x1], h) else (ix_M mPa_codeAt [.ref a0, .int x1] h).bind fun r => ix_kI r fun v3 h2 => if v3 = 47 then some ([.int x1], h2) else l_Pa_gridWidth_2 a0 (x1 + 1) h2 := by
  unfold l_Pa_gridWidth_2
  refine ix_K_px kq_Pa_gridWidth i_Pa_gridWidth_2 rfl rfl ?_
  refine ix_K_px kq_Pa_gridWidth i_Pa_gridWidth_3 rfl rfl ?_
  refine ix_K_gi kq_Pa_gridWidth i_Pa_gridWidth_4 rfl (fun v1 => ?_)
  refine ix_K_ic_ge (tgt := 26) kq_Pa_gridWidth i_Pa_gridWidth_7 rfl (by decide) ?_ ?_
  · refine ix_K_px kq_Pa_gridWidth i_Pa_gridWidth_26 rfl rfl ?_
    exact ix_D_ret kq_Pa_gridWidth i_Pa_gridWidth_27 (ix_rtI rfl _)
  · refine ix_K_px kq_Pa_gridWidth i_Pa_gridWidth_10 rfl rfl ?_
    refine ix_K_px kq_Pa_gridWidth i_Pa_gridWidth_11 rfl rfl ?_
    refine ix_K_callI (as := [.ref a0, .int x1]) (rest := []) kq_Pa_gridWidth i_Pa_gridWidth_12 rfl kq_Pa_codeAt (by decide) rfl (Or.inl rfl) (fun v3 h2 => ?_)
    refine ix_K_cb kq_Pa_gridWidth i_Pa_gridWidth_15 rfl kcb_47 ?_
    refine ix_K_ic_eq (tgt := 26) kq_Pa_gridWidth i_Pa_gridWidth_17 rfl (by decide) ?_ ?_
    · refine ix_K_px kq_Pa_gridWidth i_Pa_gridWidth_26 rfl rfl ?_
      exact ix_D_ret kq_Pa_gridWidth i_Pa_gridWidth_27 (ix_rtI rfl _)
    · refine ix_K_inc (L2 := [some (.ref a0), some (.int (x1 + 1))]) kq_Pa_gridWidth i_Pa_gridWidth_20 rfl rfl (Nat.le_of_ble_eq_true rfl) kci_1 rfl ?_
      refine ix_K_goto (tgt := 2) kq_Pa_gridWidth i_Pa_gridWidth_23 rfl (by decide) ?_
      exact ix_D_cut i_Pa_gridWidth_2 rfl
set_option maxRecDepth 20000 in
set_option maxHeartbeats 1000000 in
theorem e_Pa_gridWidth (a0 : Nat) (h : ixH) : ix_D mPa_gridWidth 0 [some (.ref a0), none] [] h = l_Pa_gridWidth_2 a0 0 h := by
  refine ix_K_ci kq_Pa_gridWidth i_Pa_gridWidth_0 rfl kci_0 ?_
  refine ix_K_si (L2 := [some (.ref a0), some (.int 0)]) kq_Pa_gridWidth i_Pa_gridWidth_1 rfl (Or.inr ⟨_, rfl, rfl⟩) (Nat.le_of_ble_eq_true rfl) rfl ?_
  exact ix_D_cut i_Pa_gridWidth_2 rfl
theorem x_Pa_gridWidth {a0 : Nat} {h h1 : ixH} {v : Int32} (hr : ix_rc h a0 = some 4) (hd : ix_D mPa_gridWidth 0 [some (.ref a0), none] [] h = some ([.int v], h1)) : ix_M mPa_gridWidth [.ref a0] h = some ([.int v], h1) := ix_M_of (ix_ent_i kq_Pa_gridWidth rfl hr rfl (Nat.le_of_ble_eq_true rfl) rfl) hd (ix_okrI (Or.inl rfl) v)
theorem i_Pa_gridHeight_0 : ix_nx mPa_gridHeight 0 = some (0, .iconst 1, 1, none, [], 0) := rfl
theorem i_Pa_gridHeight_1 : ix_nx mPa_gridHeight 1 = some (0, .istore_n 1, 2, none, [], 0) := rfl
theorem i_Pa_gridHeight_2 : ix_nx mPa_gridHeight 2 = some (0, .iconst 0, 3, none, [], 0) := rfl
theorem i_Pa_gridHeight_3 : ix_nx mPa_gridHeight 3 = some (0, .istore_n 2, 4, none, [], 0) := rfl
theorem i_Pa_gridHeight_4 : ix_nx mPa_gridHeight 4 = some (0, .iload_n 2, 5, some [true, true, true], [], 0) := rfl
theorem i_Pa_gridHeight_5 : ix_nx mPa_gridHeight 5 = some (0, .aload_n 0, 6, none, [], 0) := rfl
theorem i_Pa_gridHeight_6 : ix_nx mPa_gridHeight 6 = some (1, .getfield 15, 9, none, [4, 1, 0, 47], 0) := rfl
theorem i_Pa_gridHeight_9 : ix_nx mPa_gridHeight 9 = some (0, .if_icmp .ge 22, 12, none, [], 0) := rfl
theorem i_Pa_gridHeight_12 : ix_nx mPa_gridHeight 12 = some (0, .aload_n 0, 13, none, [], 0) := rfl
theorem i_Pa_gridHeight_13 : ix_nx mPa_gridHeight 13 = some (0, .iload_n 2, 14, none, [], 0) := rfl
theorem i_Pa_gridHeight_14 : ix_nx mPa_gridHeight 14 = some (3, .invokevirtual 23, 17, none, [0, 94, 99], 0) := rfl
theorem i_Pa_gridHeight_17 : ix_nx mPa_gridHeight 17 = some (0, .bipush 47, 19, none, [], 0) := rfl
theorem i_Pa_gridHeight_19 : ix_nx mPa_gridHeight 19 = some (0, .if_icmp .ne 6, 22, none, [], 0) := rfl
theorem i_Pa_gridHeight_22 : ix_nx mPa_gridHeight 22 = some (0, .iinc 1 1, 25, none, [], 0) := rfl
theorem i_Pa_gridHeight_25 : ix_nx mPa_gridHeight 25 = some (0, .iinc 2 1, 28, none, [], 0) := rfl
theorem i_Pa_gridHeight_28 : ix_nx mPa_gridHeight 28 = some (0, .goto (-24), 31, none, [], 0) := rfl
theorem i_Pa_gridHeight_31 : ix_nx mPa_gridHeight 31 = some (0, .iload_n 1, 32, none, [], 0) := rfl
theorem i_Pa_gridHeight_32 : ix_nx mPa_gridHeight 32 = some (4, .ireturn, 33, none, [], 0) := rfl
noncomputable def l_Pa_gridHeight_4 (a0 : Nat) (x1 : Int32) (x2 : Int32) (h : ixH) : Option (List Value × ixH) := ix_D mPa_gridHeight 4 [some (.ref a0), some (.int x1), some (.int x2)] [] h
set_option maxRecDepth 20000 in
set_option maxHeartbeats 1000000 in
theorem e_Pa_gridHeight_4 (a0 : Nat) (x1 : Int32) (x2 : Int32) (h : ixH) : l_Pa_gridHeight_4 a0 x1 x2 h = (ix_gi h a0 4 1).bind fun v1 => if v1 ≤ x2 then some ([.int x1], h) else (ix_M mPa_codeAt [.ref a0, .int x2] h).bind fun r => ix_kI r fun v3 h2 => if ¬ v3 = 47 then l_Pa_gridHeight_4 a0 x1 (x2 + 1) h2 else l_Pa_gridHeight_4 a0 (x1 + 1) (x2 + 1) h2 := by
  unfold l_Pa_gridHeight_4
  refine ix_K_px kq_Pa_gridHeight i_Pa_gridHeight_4 rfl rfl ?_
  refine ix_K_px kq_Pa_gridHeight i_Pa_gridHeight_5 rfl rfl ?_
  refine ix_K_gi kq_Pa_gridHeight i_Pa_gridHeight_6 rfl (fun v1 => ?_)
  refine ix_K_ic_ge (tgt := 31) kq_Pa_gridHeight i_Pa_gridHeight_9 rfl (by decide) ?_ ?_
  · refine ix_K_px kq_Pa_gridHeight i_Pa_gridHeight_31 rfl rfl ?_
    exact ix_D_ret kq_Pa_gridHeight i_Pa_gridHeight_32 (ix_rtI rfl _)
  · refine ix_K_px kq_Pa_gridHeight i_Pa_gridHeight_12 rfl rfl ?_
    refine ix_K_px kq_Pa_gridHeight i_Pa_gridHeight_13 rfl rfl ?_
    refine ix_K_callI (as := [.ref a0, .int x2]) (rest := []) kq_Pa_gridHeight i_Pa_gridHeight_14 rfl kq_Pa_codeAt (by decide) rfl (Or.inl rfl) (fun v3 h2 => ?_)
    refine ix_K_cb kq_Pa_gridHeight i_Pa_gridHeight_17 rfl kcb_47 ?_
    refine ix_K_ic_ne (tgt := 25) kq_Pa_gridHeight i_Pa_gridHeight_19 rfl (by decide) ?_ ?_
    · refine ix_K_inc (L2 := [some (.ref a0), some (.int x1), some (.int (x2 + 1))]) kq_Pa_gridHeight i_Pa_gridHeight_25 rfl rfl (Nat.le_of_ble_eq_true rfl) kci_1 rfl ?_
      refine ix_K_goto (tgt := 4) kq_Pa_gridHeight i_Pa_gridHeight_28 rfl (by decide) ?_
      exact ix_D_cut i_Pa_gridHeight_4 rfl
    · refine ix_K_inc (L2 := [some (.ref a0), some (.int (x1 + 1)), some (.int x2)]) kq_Pa_gridHeight i_Pa_gridHeight_22 rfl rfl (Nat.le_of_ble_eq_true rfl) kci_1 rfl ?_
      refine ix_K_inc (L2 := [some (.ref a0), some (.int (x1 + 1)), some (.int (x2 + 1))]) kq_Pa_gridHeight i_Pa_gridHeight_25 rfl rfl (Nat.le_of_ble_eq_true rfl) kci_1 rfl ?_
      refine ix_K_goto (tgt := 4) kq_Pa_gridHeight i_Pa_gridHeight_28 rfl (by decide) ?_
      exact ix_D_cut i_Pa_gridHeight_4 rfl
set_option maxRecDepth 20000 in
set_option maxHeartbeats 1000000 in
theorem e_Pa_gridHeight (a0 : Nat) (h : ixH) : ix_D mPa_gridHeight 0 [some (.ref a0), none, none] [] h = l_Pa_gridHeight_4 a0 1 0 h := by
  refine ix_K_ci kq_Pa_gridHeight i_Pa_gridHeight_0 rfl kci_1 ?_
  refine ix_K_si (L2 := [some (.ref a0), some (.int 1), none]) kq_Pa_gridHeight i_Pa_gridHeight_1 rfl (Or.inr ⟨_, rfl, rfl⟩) (Nat.le_of_ble_eq_true rfl) rfl ?_
  refine ix_K_ci kq_Pa_gridHeight i_Pa_gridHeight_2 rfl kci_0 ?_
  refine ix_K_si (L2 := [some (.ref a0), some (.int 1), some (.int 0)]) kq_Pa_gridHeight i_Pa_gridHeight_3 rfl (Or.inr ⟨_, rfl, rfl⟩) (Nat.le_of_ble_eq_true rfl) rfl ?_
  exact ix_D_cut i_Pa_gridHeight_4 rfl
theorem x_Pa_gridHeight {a0 : Nat} {h h1 : ixH} {v : Int32} (hr : ix_rc h a0 = some 4) (hd : ix_D mPa_gridHeight 0 [some (.ref a0), none, none] [] h = some ([.int v], h1)) : ix_M mPa_gridHeight [.ref a0] h = some ([.int v], h1) := ix_M_of (ix_ent_i kq_Pa_gridHeight rfl hr rfl (Nat.le_of_ble_eq_true rfl) rfl) hd (ix_okrI (Or.inl rfl) v)
theorem i_Pa_fill_0 : ix_nx mPa_fill 0 = some (0, .iconst 0, 1, none, [], 0) := rfl
theorem i_Pa_fill_1 : ix_nx mPa_fill 1 = some (0, .istore_n 2, 2, none, [], 0) := rfl
theorem i_Pa_fill_2 : ix_nx mPa_fill 2 = some (0, .iconst 0, 3, none, [], 0) := rfl
theorem i_Pa_fill_3 : ix_nx mPa_fill 3 = some (0, .istore_n 3, 4, none, [], 0) := rfl
theorem i_Pa_fill_4 : ix_nx mPa_fill 4 = some (0, .iload_n 3, 5, some [true, true, true, true, false], [], 0) := rfl
theorem i_Pa_fill_5 : ix_nx mPa_fill 5 = some (0, .aload_n 0, 6, none, [], 0) := rfl
theorem i_Pa_fill_6 : ix_nx mPa_fill 6 = some (1, .getfield 15, 9, none, [4, 1, 0, 47], 0) := rfl
theorem i_Pa_fill_9 : ix_nx mPa_fill 9 = some (0, .if_icmp .ge 57, 12, none, [], 0) := rfl
theorem i_Pa_fill_12 : ix_nx mPa_fill 12 = some (0, .aload_n 0, 13, none, [], 0) := rfl
theorem i_Pa_fill_13 : ix_nx mPa_fill 13 = some (0, .iload_n 3, 14, none, [], 0) := rfl
theorem i_Pa_fill_14 : ix_nx mPa_fill 14 = some (3, .invokevirtual 32, 17, none, [0, 95, 100], 0) := rfl
theorem i_Pa_fill_17 : ix_nx mPa_fill 17 = some (0, .istore 4, 19, none, [], 0) := rfl
theorem i_Pa_fill_19 : ix_nx mPa_fill 19 = some (0, .iload 4, 21, none, [], 0) := rfl
theorem i_Pa_fill_21 : ix_nx mPa_fill 21 = some (0, .ifCond .ge 6, 24, none, [], 0) := rfl
theorem i_Pa_fill_24 : ix_nx mPa_fill 24 = some (0, .goto 36, 27, none, [], 0) := rfl
theorem i_Pa_fill_27 : ix_nx mPa_fill 27 = some (0, .aload_n 1, 28, none, [], 0) := rfl
theorem i_Pa_fill_28 : ix_nx mPa_fill 28 = some (0, .iload_n 2, 29, none, [], 0) := rfl
theorem i_Pa_fill_29 : ix_nx mPa_fill 29 = some (0, .iload 4, 31, none, [], 0) := rfl
theorem i_Pa_fill_31 : ix_nx mPa_fill 31 = some (0, .iconst 1, 32, none, [], 0) := rfl
theorem i_Pa_fill_32 : ix_nx mPa_fill 32 = some (0, .ishr, 33, none, [], 0) := rfl
theorem i_Pa_fill_33 : ix_nx mPa_fill 33 = some (3, .invokevirtual 35, 36, none, [0, 65, 102], 0) := rfl
theorem i_Pa_fill_36 : ix_nx mPa_fill 36 = some (0, .iload 4, 38, none, [], 0) := rfl
theorem i_Pa_fill_38 : ix_nx mPa_fill 38 = some (0, .iconst 1, 39, none, [], 0) := rfl
theorem i_Pa_fill_39 : ix_nx mPa_fill 39 = some (0, .iand, 40, none, [], 0) := rfl
theorem i_Pa_fill_40 : ix_nx mPa_fill 40 = some (0, .iconst 1, 41, none, [], 0) := rfl
theorem i_Pa_fill_41 : ix_nx mPa_fill 41 = some (0, .if_icmp .ne 16, 44, none, [], 0) := rfl
theorem i_Pa_fill_44 : ix_nx mPa_fill 44 = some (0, .aload_n 1, 45, none, [], 0) := rfl
theorem i_Pa_fill_45 : ix_nx mPa_fill 45 = some (0, .dup, 46, none, [], 0) := rfl
theorem i_Pa_fill_46 : ix_nx mPa_fill 46 = some (1, .getfield 41, 49, none, [2, 5, 1, 19], 0) := rfl
theorem i_Pa_fill_49 : ix_nx mPa_fill 49 = some (0, .iload_n 2, 50, none, [], 0) := rfl
theorem i_Pa_fill_50 : ix_nx mPa_fill 50 = some (3, .invokestatic 45, 53, none, [3, 1, 103], 0) := rfl
theorem i_Pa_fill_53 : ix_nx mPa_fill 53 = some (0, .lor, 54, none, [], 0) := rfl
theorem i_Pa_fill_54 : ix_nx mPa_fill 54 = some (2, .putfield 41, 57, none, [2, 5, 1, 19], 0) := rfl
theorem i_Pa_fill_57 : ix_nx mPa_fill 57 = some (0, .iinc 2 1, 60, none, [], 0) := rfl
theorem i_Pa_fill_60 : ix_nx mPa_fill 60 = some (0, .iinc 3 1, 63, none, [], 0) := rfl
theorem i_Pa_fill_63 : ix_nx mPa_fill 63 = some (0, .goto (-59), 66, none, [], 0) := rfl
theorem i_Pa_fill_66 : ix_nx mPa_fill 66 = some (4, .return_, 67, none, [], 0) := rfl
noncomputable def l_Pa_fill_4 (a0 : Nat) (a1 : Nat) (x2 : Int32) (x3 : Int32) (h : ixH) : Option (List Value × ixH) := ix_D mPa_fill 4 [some (.ref a0), some (.ref a1), some (.int x2), some (.int x3), none] [] h
set_option maxRecDepth 20000 in
set_option maxHeartbeats 1000000 in
theorem e_Pa_fill_4 (a0 : Nat) (a1 : Nat) (x2 : Int32) (x3 : Int32) (h : ixH) : l_Pa_fill_4 a0 a1 x2 x3 h = (ix_gi h a0 4 1).bind fun v1 => if v1 ≤ x3 then some ([], h) else (ix_M mPa_kindAt [.ref a0, .int x3] h).bind fun r => ix_kI r fun v3 h2 => if 0 ≤ v3 then (ix_M mGr_give [.ref a1, .int x2, .int (ix_ishr v3 1)] h2).bind fun r => ix_kV r fun h4 => if ¬ (v3 &&& 1) = 1 then l_Pa_fill_4 a0 a1 (x2 + 1) (x3 + 1) h4 else (ix_gl h4 a1 2 5).bind fun v5 => (ix_M mRP_bit [.int x2] h4).bind fun r => ix_kL r fun v7 h6 => (ix_pf h6 a1 2 5 (.long (v5 ||| v7))).bind fun h8 => l_Pa_fill_4 a0 a1 (x2 + 1) (x3 + 1) h8 else l_Pa_fill_4 a0 a1 x2 (x3 + 1) h2 := by
  unfold l_Pa_fill_4
  refine ix_K_px kq_Pa_fill i_Pa_fill_4 rfl rfl ?_
  refine ix_K_px kq_Pa_fill i_Pa_fill_5 rfl rfl ?_
  refine ix_K_gi kq_Pa_fill i_Pa_fill_6 rfl (fun v1 => ?_)
  refine ix_K_ic_ge (tgt := 66) kq_Pa_fill i_Pa_fill_9 rfl (by decide) ?_ ?_
  · exact ix_D_ret kq_Pa_fill i_Pa_fill_66 (ix_rtV rfl)
  · refine ix_K_px kq_Pa_fill i_Pa_fill_12 rfl rfl ?_
    refine ix_K_px kq_Pa_fill i_Pa_fill_13 rfl rfl ?_
    refine ix_K_callI (as := [.ref a0, .int x3]) (rest := []) kq_Pa_fill i_Pa_fill_14 rfl kq_Pa_kindAt (by decide) rfl (Or.inl rfl) (fun v3 h2 => ?_)
    refine ix_K_si (L2 := [some (.ref a0), some (.ref a1), some (.int x2), some (.int x3), some (.int v3)]) kq_Pa_fill i_Pa_fill_17 rfl (Or.inl rfl) (Nat.le_of_ble_eq_true rfl) rfl ?_
    refine ix_K_px kq_Pa_fill i_Pa_fill_19 rfl rfl ?_
    refine ix_K_if_ge (tgt := 27) kq_Pa_fill i_Pa_fill_21 rfl (by decide) ?_ ?_
    · refine ix_K_px kq_Pa_fill i_Pa_fill_27 rfl rfl ?_
      refine ix_K_px kq_Pa_fill i_Pa_fill_28 rfl rfl ?_
      refine ix_K_px kq_Pa_fill i_Pa_fill_29 rfl rfl ?_
      refine ix_K_ci kq_Pa_fill i_Pa_fill_31 rfl kci_1 ?_
      refine ix_K_px kq_Pa_fill i_Pa_fill_32 rfl rfl ?_
      refine ix_K_callV (as := [.ref a1, .int x2, .int (ix_ishr v3 1)]) (rest := []) kq_Pa_fill i_Pa_fill_33 rfl kq_Gr_give (by decide) rfl rfl (fun h4 => ?_)
      refine ix_K_px kq_Pa_fill i_Pa_fill_36 rfl rfl ?_
      refine ix_K_ci kq_Pa_fill i_Pa_fill_38 rfl kci_1 ?_
      refine ix_K_px kq_Pa_fill i_Pa_fill_39 rfl rfl ?_
      refine ix_K_ci kq_Pa_fill i_Pa_fill_40 rfl kci_1 ?_
      refine ix_K_ic_ne (tgt := 57) kq_Pa_fill i_Pa_fill_41 rfl (by decide) ?_ ?_
      · refine ix_K_inc (L2 := [some (.ref a0), some (.ref a1), some (.int (x2 + 1)), some (.int x3), some (.int v3)]) kq_Pa_fill i_Pa_fill_57 rfl rfl (Nat.le_of_ble_eq_true rfl) kci_1 rfl ?_
        refine ix_K_inc (L2 := [some (.ref a0), some (.ref a1), some (.int (x2 + 1)), some (.int (x3 + 1)), some (.int v3)]) kq_Pa_fill i_Pa_fill_60 rfl rfl (Nat.le_of_ble_eq_true rfl) kci_1 rfl ?_
        refine ix_K_goto (tgt := 4) kq_Pa_fill i_Pa_fill_63 rfl (by decide) ?_
        exact ix_D_cut i_Pa_fill_4 rfl
      · refine ix_K_px kq_Pa_fill i_Pa_fill_44 rfl rfl ?_
        refine ix_K_px kq_Pa_fill i_Pa_fill_45 rfl rfl ?_
        refine ix_K_gl kq_Pa_fill i_Pa_fill_46 rfl (fun v5 => ?_)
        refine ix_K_px kq_Pa_fill i_Pa_fill_49 rfl rfl ?_
        refine ix_K_callL (as := [.int x2]) (rest := [.long v5, .ref a1]) kq_Pa_fill i_Pa_fill_50 rfl kq_RP_bit (by decide) rfl rfl (fun v7 h6 => ?_)
        refine ix_K_px kq_Pa_fill i_Pa_fill_53 rfl rfl ?_
        refine ix_K_pf kq_Pa_fill i_Pa_fill_54 rfl rfl (fun h8 => ?_)
        refine ix_K_inc (L2 := [some (.ref a0), some (.ref a1), some (.int (x2 + 1)), some (.int x3), some (.int v3)]) kq_Pa_fill i_Pa_fill_57 rfl rfl (Nat.le_of_ble_eq_true rfl) kci_1 rfl ?_
        refine ix_K_inc (L2 := [some (.ref a0), some (.ref a1), some (.int (x2 + 1)), some (.int (x3 + 1)), some (.int v3)]) kq_Pa_fill i_Pa_fill_60 rfl rfl (Nat.le_of_ble_eq_true rfl) kci_1 rfl ?_
        refine ix_K_goto (tgt := 4) kq_Pa_fill i_Pa_fill_63 rfl (by decide) ?_
        exact ix_D_cut i_Pa_fill_4 rfl
    · refine ix_K_goto (tgt := 60) kq_Pa_fill i_Pa_fill_24 rfl (by decide) ?_
      refine ix_K_inc (L2 := [some (.ref a0), some (.ref a1), some (.int x2), some (.int (x3 + 1)), some (.int v3)]) kq_Pa_fill i_Pa_fill_60 rfl rfl (Nat.le_of_ble_eq_true rfl) kci_1 rfl ?_
      refine ix_K_goto (tgt := 4) kq_Pa_fill i_Pa_fill_63 rfl (by decide) ?_
      exact ix_D_cut i_Pa_fill_4 rfl
set_option maxRecDepth 20000 in
set_option maxHeartbeats 1000000 in
theorem e_Pa_fill (a0 : Nat) (a1 : Nat) (h : ixH) : ix_D mPa_fill 0 [some (.ref a0), some (.ref a1), none, none, none] [] h = l_Pa_fill_4 a0 a1 0 0 h := by
  refine ix_K_ci kq_Pa_fill i_Pa_fill_0 rfl kci_0 ?_
  refine ix_K_si (L2 := [some (.ref a0), some (.ref a1), some (.int 0), none, none]) kq_Pa_fill i_Pa_fill_1 rfl (Or.inr ⟨_, rfl, rfl⟩) (Nat.le_of_ble_eq_true rfl) rfl ?_
  refine ix_K_ci kq_Pa_fill i_Pa_fill_2 rfl kci_0 ?_
  refine ix_K_si (L2 := [some (.ref a0), some (.ref a1), some (.int 0), some (.int 0), none]) kq_Pa_fill i_Pa_fill_3 rfl (Or.inr ⟨_, rfl, rfl⟩) (Nat.le_of_ble_eq_true rfl) rfl ?_
  exact ix_D_cut i_Pa_fill_4 rfl
theorem x_Pa_fill {a0 : Nat} {a1 : Nat} {h h1 : ixH} (hr : ix_rc h a0 = some 4) (hd : ix_D mPa_fill 0 [some (.ref a0), some (.ref a1), none, none, none] [] h = some ([], h1)) : ix_M mPa_fill [.ref a0, .ref a1] h = some ([], h1) := ix_M_of (ix_ent_i kq_Pa_fill rfl hr rfl (Nat.le_of_ble_eq_true rfl) rfl) hd (ix_okrV rfl)
theorem i_De_init_0 : ix_nx mDe_init 0 = some (0, .aload_n 0, 1, none, [], 0) := rfl
theorem i_De_init_1 : ix_nx mDe_init 1 = some (3, .invokespecial 3, 4, none, [6, 0, 104], 0) := rfl
theorem i_De_init_4 : ix_nx mDe_init 4 = some (0, .aload_n 0, 5, none, [], 0) := rfl
theorem i_De_init_5 : ix_nx mDe_init 5 = some (0, .bipush 64, 7, none, [], 0) := rfl
theorem i_De_init_7 : ix_nx mDe_init 7 = some (2, .newarray .long, 9, none, [], 0) := rfl
theorem i_De_init_9 : ix_nx mDe_init 9 = some (2, .putfield 9, 12, none, [5, 0, 2, 49], 0) := rfl
theorem i_De_init_12 : ix_nx mDe_init 12 = some (0, .aload_n 0, 13, none, [], 0) := rfl
theorem i_De_init_13 : ix_nx mDe_init 13 = some (0, .bipush 16, 15, none, [], 0) := rfl
theorem i_De_init_15 : ix_nx mDe_init 15 = some (2, .newarray .long, 17, none, [], 0) := rfl
theorem i_De_init_17 : ix_nx mDe_init 17 = some (2, .putfield 15, 20, none, [5, 1, 2, 50], 0) := rfl
theorem i_De_init_20 : ix_nx mDe_init 20 = some (0, .aload_n 0, 21, none, [], 0) := rfl
theorem i_De_init_21 : ix_nx mDe_init 21 = some (0, .bipush 16, 23, none, [], 0) := rfl
theorem i_De_init_23 : ix_nx mDe_init 23 = some (2, .newarray .long, 25, none, [], 0) := rfl
theorem i_De_init_25 : ix_nx mDe_init 25 = some (2, .putfield 18, 28, none, [5, 2, 2, 51], 0) := rfl
theorem i_De_init_28 : ix_nx mDe_init 28 = some (4, .return_, 29, none, [], 0) := rfl
set_option maxRecDepth 20000 in
set_option maxHeartbeats 1000000 in
theorem e_De_init (a0 : Nat) (h : ixH) : ix_D mDe_init 0 [some (.ref a0)] [] h = (ix_pf (ix_nw h (.inl (1, 64, .inr (.inl fun _ => 0))) 64) a0 5 0 (.ref h.1)).bind fun h1 => (ix_pf (ix_nw h1 (.inl (1, 16, .inr (.inl fun _ => 0))) 16) a0 5 1 (.ref h1.1)).bind fun h2 => (ix_pf (ix_nw h2 (.inl (1, 16, .inr (.inl fun _ => 0))) 16) a0 5 2 (.ref h2.1)).bind fun h3 => some ([], h3) := by
  refine ix_K_px kq_De_init i_De_init_0 rfl rfl ?_
  refine ix_K_obj kq_De_init i_De_init_1 rfl (Nat.le_of_ble_eq_true rfl) ?_
  refine ix_K_px kq_De_init i_De_init_4 rfl rfl ?_
  refine ix_K_cb kq_De_init i_De_init_5 rfl kcb_64 ?_
  refine ix_K_naL kq_De_init i_De_init_7 rfl kna_64 knb_64 (by decide) ?_
  refine ix_K_pf kq_De_init i_De_init_9 rfl rfl (fun h1 => ?_)
  refine ix_K_px kq_De_init i_De_init_12 rfl rfl ?_
  refine ix_K_cb kq_De_init i_De_init_13 rfl kcb_16 ?_
  refine ix_K_naL kq_De_init i_De_init_15 rfl kna_16 knb_16 (by decide) ?_
  refine ix_K_pf kq_De_init i_De_init_17 rfl rfl (fun h2 => ?_)
  refine ix_K_px kq_De_init i_De_init_20 rfl rfl ?_
  refine ix_K_cb kq_De_init i_De_init_21 rfl kcb_16 ?_
  refine ix_K_naL kq_De_init i_De_init_23 rfl kna_16 knb_16 (by decide) ?_
  refine ix_K_pf kq_De_init i_De_init_25 rfl rfl (fun h3 => ?_)
  exact ix_D_ret kq_De_init i_De_init_28 (ix_rtV rfl)
theorem x_De_init {a0 : Nat} {h h1 : ixH} (hd : ix_D mDe_init 0 [some (.ref a0)] [] h = some ([], h1)) : ix_M mDe_init [.ref a0] h = some ([], h1) := ix_M_of (ix_ent_c kq_De_init rfl rfl (Nat.le_of_ble_eq_true rfl) rfl) hd (ix_okrV rfl)
theorem i_De_spread_0 : ix_nx mDe_spread 0 = some (0, .aload_n 1, 1, none, [], 0) := rfl
theorem i_De_spread_1 : ix_nx mDe_spread 1 = some (3, .invokevirtual 21, 4, none, [0, 62, 105], 0) := rfl
theorem i_De_spread_4 : ix_nx mDe_spread 4 = some (0, .bipush 64, 6, none, [], 0) := rfl
theorem i_De_spread_6 : ix_nx mDe_spread 6 = some (5, .invokestatic 27, 9, none, [9, 106], 0) := rfl
theorem i_De_spread_9 : ix_nx mDe_spread 9 = some (0, .istore_n 3, 10, none, [], 0) := rfl
theorem i_De_spread_10 : ix_nx mDe_spread 10 = some (0, .aload_n 1, 11, none, [], 0) := rfl
theorem i_De_spread_11 : ix_nx mDe_spread 11 = some (3, .invokevirtual 33, 14, none, [0, 70, 107], 0) := rfl
theorem i_De_spread_14 : ix_nx mDe_spread 14 = some (0, .lstore 4, 16, none, [], 0) := rfl
theorem i_De_spread_16 : ix_nx mDe_spread 16 = some (0, .iconst 0, 17, none, [], 0) := rfl
theorem i_De_spread_17 : ix_nx mDe_spread 17 = some (0, .istore 6, 19, none, [], 0) := rfl
theorem i_De_spread_19 : ix_nx mDe_spread 19 = some (0, .iload 6, 21, some [true, true, true, true, true, false, true, false, false], [], 0) := rfl
theorem i_De_spread_21 : ix_nx mDe_spread 21 = some (0, .iload_n 3, 22, none, [], 0) := rfl
theorem i_De_spread_22 : ix_nx mDe_spread 22 = some (0, .if_icmp .ge 86, 25, none, [], 0) := rfl
theorem i_De_spread_25 : ix_nx mDe_spread 25 = some (0, .iload 6, 27, none, [], 0) := rfl
theorem i_De_spread_27 : ix_nx mDe_spread 27 = some (0, .iload_n 2, 28, none, [], 0) := rfl
theorem i_De_spread_28 : ix_nx mDe_spread 28 = some (0, .if_icmp .ne 7, 31, none, [], 0) := rfl
theorem i_De_spread_31 : ix_nx mDe_spread 31 = some (0, .lconst 1, 32, none, [], 0) := rfl
theorem i_De_spread_32 : ix_nx mDe_spread 32 = some (0, .goto 4, 35, none, [], 0) := rfl
theorem i_De_spread_35 : ix_nx mDe_spread 35 = some (0, .lconst 0, 36, none, [], 0) := rfl
theorem i_De_spread_36 : ix_nx mDe_spread 36 = some (0, .lstore 7, 38, none, [], 0) := rfl
theorem i_De_spread_38 : ix_nx mDe_spread 38 = some (0, .aload_n 1, 39, none, [], 0) := rfl
theorem i_De_spread_39 : ix_nx mDe_spread 39 = some (1, .getfield 37, 42, none, [2, 3, 1, 12], 0) := rfl
theorem i_De_spread_42 : ix_nx mDe_spread 42 = some (0, .iload 6, 44, none, [], 0) := rfl
theorem i_De_spread_44 : ix_nx mDe_spread 44 = some (3, .invokestatic 41, 47, none, [3, 8, 108], 0) := rfl
theorem i_De_spread_47 : ix_nx mDe_spread 47 = some (0, .ifCond .eq 16, 50, none, [], 0) := rfl
theorem i_De_spread_50 : ix_nx mDe_spread 50 = some (0, .lload 7, 52, none, [], 0) := rfl
theorem i_De_spread_52 : ix_nx mDe_spread 52 = some (0, .aload_n 0, 53, none, [], 0) := rfl
theorem i_De_spread_53 : ix_nx mDe_spread 53 = some (0, .iload 6, 55, none, [], 0) := rfl
theorem i_De_spread_55 : ix_nx mDe_spread 55 = some (0, .iconst 1, 56, none, [], 0) := rfl
theorem i_De_spread_56 : ix_nx mDe_spread 56 = some (0, .isub, 57, none, [], 0) := rfl
theorem i_De_spread_57 : ix_nx mDe_spread 57 = some (3, .invokevirtual 45, 60, none, [0, 101, 109], 0) := rfl
theorem i_De_spread_60 : ix_nx mDe_spread 60 = some (0, .ladd, 61, none, [], 0) := rfl
theorem i_De_spread_61 : ix_nx mDe_spread 61 = some (0, .lstore 7, 63, none, [], 0) := rfl
theorem i_De_spread_63 : ix_nx mDe_spread 63 = some (0, .lload 7, 65, some [true, true, true, true, true, false, true, true, false], [], 0) := rfl
theorem i_De_spread_65 : ix_nx mDe_spread 65 = some (0, .aload_n 0, 66, none, [], 0) := rfl
theorem i_De_spread_66 : ix_nx mDe_spread 66 = some (0, .iload 6, 68, none, [], 0) := rfl
theorem i_De_spread_68 : ix_nx mDe_spread 68 = some (0, .aload_n 1, 69, none, [], 0) := rfl
theorem i_De_spread_69 : ix_nx mDe_spread 69 = some (1, .getfield 49, 72, none, [2, 0, 0, 2], 0) := rfl
theorem i_De_spread_72 : ix_nx mDe_spread 72 = some (0, .isub, 73, none, [], 0) := rfl
theorem i_De_spread_73 : ix_nx mDe_spread 73 = some (3, .invokevirtual 45, 76, none, [0, 101, 109], 0) := rfl
theorem i_De_spread_76 : ix_nx mDe_spread 76 = some (0, .ladd, 77, none, [], 0) := rfl
theorem i_De_spread_77 : ix_nx mDe_spread 77 = some (0, .lstore 7, 79, none, [], 0) := rfl
theorem i_De_spread_79 : ix_nx mDe_spread 79 = some (0, .aload_n 0, 80, none, [], 0) := rfl
theorem i_De_spread_80 : ix_nx mDe_spread 80 = some (1, .getfield 9, 83, none, [5, 0, 2, 49], 0) := rfl
theorem i_De_spread_83 : ix_nx mDe_spread 83 = some (0, .iload 6, 85, none, [], 0) := rfl
theorem i_De_spread_85 : ix_nx mDe_spread 85 = some (0, .lload 4, 87, none, [], 0) := rfl
theorem i_De_spread_87 : ix_nx mDe_spread 87 = some (0, .iload 6, 89, none, [], 0) := rfl
theorem i_De_spread_89 : ix_nx mDe_spread 89 = some (3, .invokestatic 41, 92, none, [3, 8, 108], 0) := rfl
theorem i_De_spread_92 : ix_nx mDe_spread 92 = some (0, .ifCond .eq 8, 95, none, [], 0) := rfl
theorem i_De_spread_95 : ix_nx mDe_spread 95 = some (0, .lload 7, 97, none, [], 0) := rfl
theorem i_De_spread_97 : ix_nx mDe_spread 97 = some (0, .goto 4, 100, none, [], 0) := rfl
theorem i_De_spread_100 : ix_nx mDe_spread 100 = some (0, .lconst 0, 101, none, [], 0) := rfl
theorem i_De_spread_101 : ix_nx mDe_spread 101 = some (2, .lastore, 102, none, [], 0) := rfl
theorem i_De_spread_102 : ix_nx mDe_spread 102 = some (0, .iinc 6 1, 105, none, [], 0) := rfl
theorem i_De_spread_105 : ix_nx mDe_spread 105 = some (0, .goto (-86), 108, none, [], 0) := rfl
theorem i_De_spread_108 : ix_nx mDe_spread 108 = some (4, .return_, 109, none, [], 0) := rfl
noncomputable def l_De_spread_19 (a0 : Nat) (a1 : Nat) (x2 : Int32) (x3 : Int32) (x4 : Int64) (x6 : Int32) (h : ixH) : Option (List Value × ixH) := ix_D mDe_spread 19 [some (.ref a0), some (.ref a1), some (.int x2), some (.int x3), some (.long x4), none, some (.int x6), none, none] [] h
noncomputable def l_De_spread_63 (a0 : Nat) (a1 : Nat) (x2 : Int32) (x3 : Int32) (x4 : Int64) (x6 : Int32) (x7 : Int64) (h : ixH) : Option (List Value × ixH) := ix_D mDe_spread 63 [some (.ref a0), some (.ref a1), some (.int x2), some (.int x3), some (.long x4), none, some (.int x6), some (.long x7), none] [] h
set_option maxRecDepth 20000 in
set_option maxHeartbeats 1000000 in
theorem e_De_spread_19 (a0 : Nat) (a1 : Nat) (x2 : Int32) (x3 : Int32) (x4 : Int64) (x6 : Int32) (h : ixH) : l_De_spread_19 a0 a1 x2 x3 x4 x6 h = if x3 ≤ x6 then some ([], h) else if ¬ x6 = x2 then (ix_gl h a1 2 3).bind fun v1 => (ix_M mRP_holds [.long v1, .int x6] h).bind fun r => ix_kZ r fun v3 h2 => if v3 = true then (ix_M mDe_waysTo [.ref a0, .int (x6 - 1)] h2).bind fun r => ix_kL r fun v5 h4 => l_De_spread_63 a0 a1 x2 x3 x4 x6 (0 + v5) h4 else l_De_spread_63 a0 a1 x2 x3 x4 x6 0 h2 else (ix_gl h a1 2 3).bind fun v6 => (ix_M mRP_holds [.long v6, .int x6] h).bind fun r => ix_kZ r fun v8 h7 => if v8 = true then (ix_M mDe_waysTo [.ref a0, .int (x6 - 1)] h7).bind fun r => ix_kL r fun v10 h9 => l_De_spread_63 a0 a1 x2 x3 x4 x6 (1 + v10) h9 else l_De_spread_63 a0 a1 x2 x3 x4 x6 1 h7 := by
  unfold l_De_spread_19
  refine ix_K_px kq_De_spread i_De_spread_19 rfl rfl ?_
  refine ix_K_px kq_De_spread i_De_spread_21 rfl rfl ?_
  refine ix_K_ic_ge (tgt := 108) kq_De_spread i_De_spread_22 rfl (by decide) ?_ ?_
  · exact ix_D_ret kq_De_spread i_De_spread_108 (ix_rtV rfl)
  · refine ix_K_px kq_De_spread i_De_spread_25 rfl rfl ?_
    refine ix_K_px kq_De_spread i_De_spread_27 rfl rfl ?_
    refine ix_K_ic_ne (tgt := 35) kq_De_spread i_De_spread_28 rfl (by decide) ?_ ?_
    · refine ix_K_cl kq_De_spread i_De_spread_35 rfl kcl_0 ?_
      refine ix_K_sl (L2 := [some (.ref a0), some (.ref a1), some (.int x2), some (.int x3), some (.long x4), none, some (.int x6), some (.long 0), none]) kq_De_spread i_De_spread_36 rfl (Or.inl rfl) (Nat.le_of_ble_eq_true rfl) rfl ?_
      refine ix_K_px kq_De_spread i_De_spread_38 rfl rfl ?_
      refine ix_K_gl kq_De_spread i_De_spread_39 rfl (fun v1 => ?_)
      refine ix_K_px kq_De_spread i_De_spread_42 rfl rfl ?_
      refine ix_K_callZ (as := [.long v1, .int x6]) (rest := []) kq_De_spread i_De_spread_44 rfl kq_RP_holds (by decide) rfl rfl (fun v3 h2 => ?_)
      refine ix_K_bz_eq (tgt := 63) kq_De_spread i_De_spread_47 rfl (by decide) ?_ ?_
      · refine ix_K_px kq_De_spread i_De_spread_50 rfl rfl ?_
        refine ix_K_px kq_De_spread i_De_spread_52 rfl rfl ?_
        refine ix_K_px kq_De_spread i_De_spread_53 rfl rfl ?_
        refine ix_K_ci kq_De_spread i_De_spread_55 rfl kci_1 ?_
        refine ix_K_px kq_De_spread i_De_spread_56 rfl rfl ?_
        refine ix_K_callL (as := [.ref a0, .int (x6 - 1)]) (rest := [.long 0]) kq_De_spread i_De_spread_57 rfl kq_De_waysTo (by decide) rfl rfl (fun v5 h4 => ?_)
        refine ix_K_px kq_De_spread i_De_spread_60 rfl rfl ?_
        refine ix_K_sl (L2 := [some (.ref a0), some (.ref a1), some (.int x2), some (.int x3), some (.long x4), none, some (.int x6), some (.long (0 + v5)), none]) kq_De_spread i_De_spread_61 rfl (Or.inl rfl) (Nat.le_of_ble_eq_true rfl) rfl ?_
        exact ix_D_cut i_De_spread_63 rfl
      · exact ix_D_cut i_De_spread_63 rfl
    · refine ix_K_cl kq_De_spread i_De_spread_31 rfl kcl_1 ?_
      refine ix_K_goto (tgt := 36) kq_De_spread i_De_spread_32 rfl (by decide) ?_
      refine ix_K_sl (L2 := [some (.ref a0), some (.ref a1), some (.int x2), some (.int x3), some (.long x4), none, some (.int x6), some (.long 1), none]) kq_De_spread i_De_spread_36 rfl (Or.inl rfl) (Nat.le_of_ble_eq_true rfl) rfl ?_
      refine ix_K_px kq_De_spread i_De_spread_38 rfl rfl ?_
      refine ix_K_gl kq_De_spread i_De_spread_39 rfl (fun v6 => ?_)
      refine ix_K_px kq_De_spread i_De_spread_42 rfl rfl ?_
      refine ix_K_callZ (as := [.long v6, .int x6]) (rest := []) kq_De_spread i_De_spread_44 rfl kq_RP_holds (by decide) rfl rfl (fun v8 h7 => ?_)
      refine ix_K_bz_eq (tgt := 63) kq_De_spread i_De_spread_47 rfl (by decide) ?_ ?_
      · refine ix_K_px kq_De_spread i_De_spread_50 rfl rfl ?_
        refine ix_K_px kq_De_spread i_De_spread_52 rfl rfl ?_
        refine ix_K_px kq_De_spread i_De_spread_53 rfl rfl ?_
        refine ix_K_ci kq_De_spread i_De_spread_55 rfl kci_1 ?_
        refine ix_K_px kq_De_spread i_De_spread_56 rfl rfl ?_
        refine ix_K_callL (as := [.ref a0, .int (x6 - 1)]) (rest := [.long 1]) kq_De_spread i_De_spread_57 rfl kq_De_waysTo (by decide) rfl rfl (fun v10 h9 => ?_)
        refine ix_K_px kq_De_spread i_De_spread_60 rfl rfl ?_
        refine ix_K_sl (L2 := [some (.ref a0), some (.ref a1), some (.int x2), some (.int x3), some (.long x4), none, some (.int x6), some (.long (1 + v10)), none]) kq_De_spread i_De_spread_61 rfl (Or.inl rfl) (Nat.le_of_ble_eq_true rfl) rfl ?_
        exact ix_D_cut i_De_spread_63 rfl
      · exact ix_D_cut i_De_spread_63 rfl
set_option maxRecDepth 20000 in
set_option maxHeartbeats 1000000 in
theorem e_De_spread_63 (a0 : Nat) (a1 : Nat) (x2 : Int32) (x3 : Int32) (x4 : Int64) (x6 : Int32) (x7 : Int64) (h : ixH) : l_De_spread_63 a0 a1 x2 x3 x4 x6 x7 h = (ix_gi h a1 2 0).bind fun v1 => (ix_M mDe_waysTo [.ref a0, .int (x6 - v1)] h).bind fun r => ix_kL r fun v3 h2 => (ix_gr h2 a0 5 0).bind fun v4 => (ix_M mRP_holds [.long x4, .int x6] h2).bind fun r => ix_kZ r fun v6 h5 => if v6 = true then (ix_sl h5 v4 x6 (x7 + v3)).bind fun h7 => l_De_spread_19 a0 a1 x2 x3 x4 (x6 + 1) h7 else (ix_sl h5 v4 x6 0).bind fun h8 => l_De_spread_19 a0 a1 x2 x3 x4 (x6 + 1) h8 := by
  unfold l_De_spread_63
  refine ix_K_px kq_De_spread i_De_spread_63 rfl rfl ?_
  refine ix_K_px kq_De_spread i_De_spread_65 rfl rfl ?_
  refine ix_K_px kq_De_spread i_De_spread_66 rfl rfl ?_
  refine ix_K_px kq_De_spread i_De_spread_68 rfl rfl ?_
  refine ix_K_gi kq_De_spread i_De_spread_69 rfl (fun v1 => ?_)
  refine ix_K_px kq_De_spread i_De_spread_72 rfl rfl ?_
  refine ix_K_callL (as := [.ref a0, .int (x6 - v1)]) (rest := [.long x7]) kq_De_spread i_De_spread_73 rfl kq_De_waysTo (by decide) rfl rfl (fun v3 h2 => ?_)
  refine ix_K_px kq_De_spread i_De_spread_76 rfl rfl ?_
  refine ix_K_sl (L2 := [some (.ref a0), some (.ref a1), some (.int x2), some (.int x3), some (.long x4), none, some (.int x6), some (.long (x7 + v3)), none]) kq_De_spread i_De_spread_77 rfl (Or.inl rfl) (Nat.le_of_ble_eq_true rfl) rfl ?_
  refine ix_K_px kq_De_spread i_De_spread_79 rfl rfl ?_
  refine ix_K_gr kq_De_spread i_De_spread_80 rfl (fun v4 => ?_)
  refine ix_K_px kq_De_spread i_De_spread_83 rfl rfl ?_
  refine ix_K_px kq_De_spread i_De_spread_85 rfl rfl ?_
  refine ix_K_px kq_De_spread i_De_spread_87 rfl rfl ?_
  refine ix_K_callZ (as := [.long x4, .int x6]) (rest := [.int x6, .ref v4]) kq_De_spread i_De_spread_89 rfl kq_RP_holds (by decide) rfl rfl (fun v6 h5 => ?_)
  refine ix_K_bz_eq (tgt := 100) kq_De_spread i_De_spread_92 rfl (by decide) ?_ ?_
  · refine ix_K_px kq_De_spread i_De_spread_95 rfl rfl ?_
    refine ix_K_goto (tgt := 101) kq_De_spread i_De_spread_97 rfl (by decide) ?_
    refine ix_K_tl kq_De_spread i_De_spread_101 rfl (fun h7 => ?_)
    refine ix_K_inc (L2 := [some (.ref a0), some (.ref a1), some (.int x2), some (.int x3), some (.long x4), none, some (.int (x6 + 1)), some (.long (x7 + v3)), none]) kq_De_spread i_De_spread_102 rfl rfl (Nat.le_of_ble_eq_true rfl) kci_1 rfl ?_
    refine ix_K_goto (tgt := 19) kq_De_spread i_De_spread_105 rfl (by decide) ?_
    exact ix_D_cut i_De_spread_19 rfl
  · refine ix_K_cl kq_De_spread i_De_spread_100 rfl kcl_0 ?_
    refine ix_K_tl kq_De_spread i_De_spread_101 rfl (fun h8 => ?_)
    refine ix_K_inc (L2 := [some (.ref a0), some (.ref a1), some (.int x2), some (.int x3), some (.long x4), none, some (.int (x6 + 1)), some (.long (x7 + v3)), none]) kq_De_spread i_De_spread_102 rfl rfl (Nat.le_of_ble_eq_true rfl) kci_1 rfl ?_
    refine ix_K_goto (tgt := 19) kq_De_spread i_De_spread_105 rfl (by decide) ?_
    exact ix_D_cut i_De_spread_19 rfl
set_option maxRecDepth 20000 in
set_option maxHeartbeats 1000000 in
theorem e_De_spread (a0 : Nat) (a1 : Nat) (x2 : Int32) (h : ixH) : ix_D mDe_spread 0 [some (.ref a0), some (.ref a1), some (.int x2), none, none, none, none, none, none] [] h = (ix_M mGr_size [.ref a1] h).bind fun r => ix_kI r fun v2 h1 => (ix_M mGr_open [.ref a1] h1).bind fun r => ix_kL r fun v4 h3 => l_De_spread_19 a0 a1 x2 (ix_mn v2 64) v4 0 h3 := by
  refine ix_K_px kq_De_spread i_De_spread_0 rfl rfl ?_
  refine ix_K_callI (as := [.ref a1]) (rest := []) kq_De_spread i_De_spread_1 rfl kq_Gr_size (by decide) rfl (Or.inl rfl) (fun v2 h1 => ?_)
  refine ix_K_cb kq_De_spread i_De_spread_4 rfl kcb_64 ?_
  refine ix_K_min kq_De_spread i_De_spread_6 rfl (Nat.le_of_ble_eq_true rfl) ?_
  refine ix_K_si (L2 := [some (.ref a0), some (.ref a1), some (.int x2), some (.int (ix_mn v2 64)), none, none, none, none, none]) kq_De_spread i_De_spread_9 rfl (Or.inr ⟨_, rfl, rfl⟩) (Nat.le_of_ble_eq_true rfl) rfl ?_
  refine ix_K_px kq_De_spread i_De_spread_10 rfl rfl ?_
  refine ix_K_callL (as := [.ref a1]) (rest := []) kq_De_spread i_De_spread_11 rfl kq_Gr_open (by decide) rfl rfl (fun v4 h3 => ?_)
  refine ix_K_sl (L2 := [some (.ref a0), some (.ref a1), some (.int x2), some (.int (ix_mn v2 64)), some (.long v4), none, none, none, none]) kq_De_spread i_De_spread_14 rfl (Or.inl rfl) (Nat.le_of_ble_eq_true rfl) rfl ?_
  refine ix_K_ci kq_De_spread i_De_spread_16 rfl kci_0 ?_
  refine ix_K_si (L2 := [some (.ref a0), some (.ref a1), some (.int x2), some (.int (ix_mn v2 64)), some (.long v4), none, some (.int 0), none, none]) kq_De_spread i_De_spread_17 rfl (Or.inl rfl) (Nat.le_of_ble_eq_true rfl) rfl ?_
  exact ix_D_cut i_De_spread_19 rfl
theorem x_De_spread {a0 : Nat} {a1 : Nat} {x2 : Int32} {h h1 : ixH} (hr : ix_rc h a0 = some 5) (hd : ix_D mDe_spread 0 [some (.ref a0), some (.ref a1), some (.int x2), none, none, none, none, none, none] [] h = some ([], h1)) : ix_M mDe_spread [.ref a0, .ref a1, .int x2] h = some ([], h1) := ix_M_of (ix_ent_i kq_De_spread rfl hr rfl (Nat.le_of_ble_eq_true rfl) rfl) hd (ix_okrV rfl)
theorem i_De_waysTo_0 : ix_nx mDe_waysTo 0 = some (0, .iload_n 1, 1, none, [], 0) := rfl
theorem i_De_waysTo_1 : ix_nx mDe_waysTo 1 = some (0, .ifCond .lt 18, 4, none, [], 0) := rfl
theorem i_De_waysTo_4 : ix_nx mDe_waysTo 4 = some (0, .iload_n 1, 5, none, [], 0) := rfl
theorem i_De_waysTo_5 : ix_nx mDe_waysTo 5 = some (0, .bipush 64, 7, none, [], 0) := rfl
theorem i_De_waysTo_7 : ix_nx mDe_waysTo 7 = some (0, .if_icmp .ge 12, 10, none, [], 0) := rfl
theorem i_De_waysTo_10 : ix_nx mDe_waysTo 10 = some (0, .aload_n 0, 11, none, [], 0) := rfl
theorem i_De_waysTo_11 : ix_nx mDe_waysTo 11 = some (1, .getfield 9, 14, none, [5, 0, 2, 49], 0) := rfl
theorem i_De_waysTo_14 : ix_nx mDe_waysTo 14 = some (0, .iload_n 1, 15, none, [], 0) := rfl
theorem i_De_waysTo_15 : ix_nx mDe_waysTo 15 = some (1, .laload, 16, none, [], 0) := rfl
theorem i_De_waysTo_16 : ix_nx mDe_waysTo 16 = some (0, .goto 4, 19, none, [], 0) := rfl
theorem i_De_waysTo_19 : ix_nx mDe_waysTo 19 = some (0, .lconst 0, 20, none, [], 0) := rfl
theorem i_De_waysTo_20 : ix_nx mDe_waysTo 20 = some (4, .lreturn, 21, none, [], 0) := rfl
set_option maxRecDepth 20000 in
set_option maxHeartbeats 1000000 in
theorem e_De_waysTo (a0 : Nat) (x1 : Int32) (h : ixH) : ix_D mDe_waysTo 0 [some (.ref a0), some (.int x1)] [] h = if x1 < 0 then some ([.long 0], h) else if 64 ≤ x1 then some ([.long 0], h) else (ix_gr h a0 5 0).bind fun v1 => (ix_al h v1 x1).bind fun v2 => some ([.long v2], h) := by
  refine ix_K_px kq_De_waysTo i_De_waysTo_0 rfl rfl ?_
  refine ix_K_if_lt (tgt := 19) kq_De_waysTo i_De_waysTo_1 rfl (by decide) ?_ ?_
  · refine ix_K_cl kq_De_waysTo i_De_waysTo_19 rfl kcl_0 ?_
    exact ix_D_ret kq_De_waysTo i_De_waysTo_20 (ix_rtL rfl _)
  · refine ix_K_px kq_De_waysTo i_De_waysTo_4 rfl rfl ?_
    refine ix_K_cb kq_De_waysTo i_De_waysTo_5 rfl kcb_64 ?_
    refine ix_K_ic_ge (tgt := 19) kq_De_waysTo i_De_waysTo_7 rfl (by decide) ?_ ?_
    · refine ix_K_cl kq_De_waysTo i_De_waysTo_19 rfl kcl_0 ?_
      exact ix_D_ret kq_De_waysTo i_De_waysTo_20 (ix_rtL rfl _)
    · refine ix_K_px kq_De_waysTo i_De_waysTo_10 rfl rfl ?_
      refine ix_K_gr kq_De_waysTo i_De_waysTo_11 rfl (fun v1 => ?_)
      refine ix_K_px kq_De_waysTo i_De_waysTo_14 rfl rfl ?_
      refine ix_K_al kq_De_waysTo i_De_waysTo_15 rfl (fun v2 => ?_)
      refine ix_K_goto (tgt := 20) kq_De_waysTo i_De_waysTo_16 rfl (by decide) ?_
      exact ix_D_ret kq_De_waysTo i_De_waysTo_20 (ix_rtL rfl _)
theorem x_De_waysTo {a0 : Nat} {x1 : Int32} {h h1 : ixH} {v : Int64} (hr : ix_rc h a0 = some 5) (hd : ix_D mDe_waysTo 0 [some (.ref a0), some (.int x1)] [] h = some ([.long v], h1)) : ix_M mDe_waysTo [.ref a0, .int x1] h = some ([.long v], h1) := ix_M_of (ix_ent_i kq_De_waysTo rfl hr rfl (Nat.le_of_ble_eq_true rfl) rfl) hd (ix_okrL rfl v)
theorem i_De_signedTally_0 : ix_nx mDe_signedTally 0 = some (0, .iconst 0, 1, none, [], 0) := rfl
theorem i_De_signedTally_1 : ix_nx mDe_signedTally 1 = some (0, .aload_n 1, 2, none, [], 0) := rfl
theorem i_De_signedTally_2 : ix_nx mDe_signedTally 2 = some (1, .getfield 53, 5, none, [1, 4, 0, 44], 0) := rfl
theorem i_De_signedTally_5 : ix_nx mDe_signedTally 5 = some (0, .iconst 4, 6, none, [], 0) := rfl
theorem i_De_signedTally_6 : ix_nx mDe_signedTally 6 = some (5, .invokestatic 27, 9, none, [9, 106], 0) := rfl
theorem i_De_signedTally_9 : ix_nx mDe_signedTally 9 = some (5, .invokestatic 58, 12, none, [8, 110], 0) := rfl
theorem i_De_signedTally_12 : ix_nx mDe_signedTally 12 = some (0, .istore_n 2, 13, none, [], 0) := rfl
theorem i_De_signedTally_13 : ix_nx mDe_signedTally 13 = some (0, .iconst 0, 14, none, [], 0) := rfl
theorem i_De_signedTally_14 : ix_nx mDe_signedTally 14 = some (0, .istore_n 3, 15, none, [], 0) := rfl
theorem i_De_signedTally_15 : ix_nx mDe_signedTally 15 = some (0, .iload_n 3, 16, some [true, true, true, true, false], [], 0) := rfl
theorem i_De_signedTally_16 : ix_nx mDe_signedTally 16 = some (0, .iload_n 2, 17, none, [], 0) := rfl
theorem i_De_signedTally_17 : ix_nx mDe_signedTally 17 = some (0, .if_icmp .ge 60, 20, none, [], 0) := rfl
theorem i_De_signedTally_20 : ix_nx mDe_signedTally 20 = some (0, .aload_n 0, 21, none, [], 0) := rfl
theorem i_De_signedTally_21 : ix_nx mDe_signedTally 21 = some (0, .aload_n 1, 22, none, [], 0) := rfl
theorem i_De_signedTally_22 : ix_nx mDe_signedTally 22 = some (1, .getfield 61, 25, none, [1, 0, 2, 33], 0) := rfl
theorem i_De_signedTally_25 : ix_nx mDe_signedTally 25 = some (0, .aload_n 1, 26, none, [], 0) := rfl
theorem i_De_signedTally_26 : ix_nx mDe_signedTally 26 = some (1, .getfield 65, 29, none, [1, 2, 2, 38], 0) := rfl
theorem i_De_signedTally_29 : ix_nx mDe_signedTally 29 = some (0, .iload_n 3, 30, none, [], 0) := rfl
theorem i_De_signedTally_30 : ix_nx mDe_signedTally 30 = some (1, .iaload, 31, none, [], 0) := rfl
theorem i_De_signedTally_31 : ix_nx mDe_signedTally 31 = some (3, .invokevirtual 69, 34, none, [0, 100, 111], 0) := rfl
theorem i_De_signedTally_34 : ix_nx mDe_signedTally 34 = some (0, .iconst 0, 35, none, [], 0) := rfl
theorem i_De_signedTally_35 : ix_nx mDe_signedTally 35 = some (0, .istore 4, 37, none, [], 0) := rfl
theorem i_De_signedTally_37 : ix_nx mDe_signedTally 37 = some (0, .iload 4, 39, some [true, true, true, true, true], [], 0) := rfl
theorem i_De_signedTally_39 : ix_nx mDe_signedTally 39 = some (0, .iload_n 2, 40, none, [], 0) := rfl
theorem i_De_signedTally_40 : ix_nx mDe_signedTally 40 = some (0, .if_icmp .ge 31, 43, none, [], 0) := rfl
theorem i_De_signedTally_43 : ix_nx mDe_signedTally 43 = some (0, .aload_n 0, 44, none, [], 0) := rfl
theorem i_De_signedTally_44 : ix_nx mDe_signedTally 44 = some (1, .getfield 15, 47, none, [5, 1, 2, 50], 0) := rfl
theorem i_De_signedTally_47 : ix_nx mDe_signedTally 47 = some (0, .iconst 4, 48, none, [], 0) := rfl
theorem i_De_signedTally_48 : ix_nx mDe_signedTally 48 = some (0, .iload_n 3, 49, none, [], 0) := rfl
theorem i_De_signedTally_49 : ix_nx mDe_signedTally 49 = some (0, .imul, 50, none, [], 0) := rfl
theorem i_De_signedTally_50 : ix_nx mDe_signedTally 50 = some (0, .iload 4, 52, none, [], 0) := rfl
theorem i_De_signedTally_52 : ix_nx mDe_signedTally 52 = some (0, .iadd, 53, none, [], 0) := rfl
theorem i_De_signedTally_53 : ix_nx mDe_signedTally 53 = some (0, .aload_n 0, 54, none, [], 0) := rfl
theorem i_De_signedTally_54 : ix_nx mDe_signedTally 54 = some (0, .aload_n 1, 55, none, [], 0) := rfl
theorem i_De_signedTally_55 : ix_nx mDe_signedTally 55 = some (1, .getfield 73, 58, none, [1, 3, 2, 41], 0) := rfl
theorem i_De_signedTally_58 : ix_nx mDe_signedTally 58 = some (0, .iload 4, 60, none, [], 0) := rfl
theorem i_De_signedTally_60 : ix_nx mDe_signedTally 60 = some (1, .iaload, 61, none, [], 0) := rfl
theorem i_De_signedTally_61 : ix_nx mDe_signedTally 61 = some (3, .invokevirtual 45, 64, none, [0, 101, 109], 0) := rfl
theorem i_De_signedTally_64 : ix_nx mDe_signedTally 64 = some (2, .lastore, 65, none, [], 0) := rfl
theorem i_De_signedTally_65 : ix_nx mDe_signedTally 65 = some (0, .iinc 4 1, 68, none, [], 0) := rfl
theorem i_De_signedTally_68 : ix_nx mDe_signedTally 68 = some (0, .goto (-31), 71, none, [], 0) := rfl
theorem i_De_signedTally_71 : ix_nx mDe_signedTally 71 = some (0, .iinc 3 1, 74, none, [], 0) := rfl
theorem i_De_signedTally_74 : ix_nx mDe_signedTally 74 = some (0, .goto (-59), 77, none, [], 0) := rfl
theorem i_De_signedTally_77 : ix_nx mDe_signedTally 77 = some (0, .aload_n 0, 78, none, [], 0) := rfl
theorem i_De_signedTally_78 : ix_nx mDe_signedTally 78 = some (1, .getfield 18, 81, none, [5, 2, 2, 51], 0) := rfl
theorem i_De_signedTally_81 : ix_nx mDe_signedTally 81 = some (0, .iconst 0, 82, none, [], 0) := rfl
theorem i_De_signedTally_82 : ix_nx mDe_signedTally 82 = some (0, .lconst 1, 83, none, [], 0) := rfl
theorem i_De_signedTally_83 : ix_nx mDe_signedTally 83 = some (2, .lastore, 84, none, [], 0) := rfl
theorem i_De_signedTally_84 : ix_nx mDe_signedTally 84 = some (0, .iconst 1, 85, none, [], 0) := rfl
theorem i_De_signedTally_85 : ix_nx mDe_signedTally 85 = some (0, .iload_n 2, 86, none, [], 0) := rfl
theorem i_De_signedTally_86 : ix_nx mDe_signedTally 86 = some (0, .ishl, 87, none, [], 0) := rfl
theorem i_De_signedTally_87 : ix_nx mDe_signedTally 87 = some (0, .iconst 1, 88, none, [], 0) := rfl
theorem i_De_signedTally_88 : ix_nx mDe_signedTally 88 = some (0, .isub, 89, none, [], 0) := rfl
theorem i_De_signedTally_89 : ix_nx mDe_signedTally 89 = some (0, .istore_n 3, 90, none, [], 0) := rfl
theorem i_De_signedTally_90 : ix_nx mDe_signedTally 90 = some (0, .iconst 1, 91, none, [], 0) := rfl
theorem i_De_signedTally_91 : ix_nx mDe_signedTally 91 = some (0, .istore 4, 93, none, [], 0) := rfl
theorem i_De_signedTally_93 : ix_nx mDe_signedTally 93 = some (0, .iload 4, 95, some [true, false, false, true, true], [], 0) := rfl
theorem i_De_signedTally_95 : ix_nx mDe_signedTally 95 = some (0, .iload_n 3, 96, none, [], 0) := rfl
theorem i_De_signedTally_96 : ix_nx mDe_signedTally 96 = some (0, .if_icmp .gt 22, 99, none, [], 0) := rfl
theorem i_De_signedTally_99 : ix_nx mDe_signedTally 99 = some (0, .aload_n 0, 100, none, [], 0) := rfl
theorem i_De_signedTally_100 : ix_nx mDe_signedTally 100 = some (1, .getfield 18, 103, none, [5, 2, 2, 51], 0) := rfl
theorem i_De_signedTally_103 : ix_nx mDe_signedTally 103 = some (0, .iload 4, 105, none, [], 0) := rfl
theorem i_De_signedTally_105 : ix_nx mDe_signedTally 105 = some (0, .aload_n 0, 106, none, [], 0) := rfl
theorem i_De_signedTally_106 : ix_nx mDe_signedTally 106 = some (0, .iload 4, 108, none, [], 0) := rfl
theorem i_De_signedTally_108 : ix_nx mDe_signedTally 108 = some (3, .invokevirtual 76, 111, none, [0, 103, 112], 0) := rfl
theorem i_De_signedTally_111 : ix_nx mDe_signedTally 111 = some (2, .lastore, 112, none, [], 0) := rfl
theorem i_De_signedTally_112 : ix_nx mDe_signedTally 112 = some (0, .iinc 4 1, 115, none, [], 0) := rfl
theorem i_De_signedTally_115 : ix_nx mDe_signedTally 115 = some (0, .goto (-22), 118, none, [], 0) := rfl
theorem i_De_signedTally_118 : ix_nx mDe_signedTally 118 = some (0, .aload_n 0, 119, none, [], 0) := rfl
theorem i_De_signedTally_119 : ix_nx mDe_signedTally 119 = some (1, .getfield 18, 122, none, [5, 2, 2, 51], 0) := rfl
theorem i_De_signedTally_122 : ix_nx mDe_signedTally 122 = some (0, .iload_n 3, 123, none, [], 0) := rfl
theorem i_De_signedTally_123 : ix_nx mDe_signedTally 123 = some (1, .laload, 124, none, [], 0) := rfl
theorem i_De_signedTally_124 : ix_nx mDe_signedTally 124 = some (4, .lreturn, 125, none, [], 0) := rfl
noncomputable def l_De_signedTally_15 (a0 : Nat) (a1 : Nat) (x2 : Int32) (x3 : Int32) (h : ixH) : Option (List Value × ixH) := ix_D mDe_signedTally 15 [some (.ref a0), some (.ref a1), some (.int x2), some (.int x3), none] [] h
noncomputable def l_De_signedTally_37 (a0 : Nat) (a1 : Nat) (x2 : Int32) (x3 : Int32) (x4 : Int32) (h : ixH) : Option (List Value × ixH) := ix_D mDe_signedTally 37 [some (.ref a0), some (.ref a1), some (.int x2), some (.int x3), some (.int x4)] [] h
noncomputable def l_De_signedTally_93 (a0 : Nat) (x3 : Int32) (x4 : Int32) (h : ixH) : Option (List Value × ixH) := ix_D mDe_signedTally 93 [some (.ref a0), none, none, some (.int x3), some (.int x4)] [] h
set_option maxRecDepth 20000 in
set_option maxHeartbeats 1000000 in
theorem e_De_signedTally_15 (a0 : Nat) (a1 : Nat) (x2 : Int32) (x3 : Int32) (h : ixH) : l_De_signedTally_15 a0 a1 x2 x3 h = if x2 ≤ x3 then (ix_gr h a0 5 2).bind fun v1 => (ix_sl h v1 0 1).bind fun h2 => l_De_signedTally_93 a0 ((ix_ishl 1 x2) - 1) 1 h2 else (ix_gr h a1 1 0).bind fun v3 => (ix_gr h a1 1 2).bind fun v4 => (ix_ai h v4 x3).bind fun v5 => (ix_M mDe_spread [.ref a0, .ref v3, .int v5] h).bind fun r => ix_kV r fun h6 => l_De_signedTally_37 a0 a1 x2 x3 0 h6 := by
  unfold l_De_signedTally_15
  refine ix_K_px kq_De_signedTally i_De_signedTally_15 rfl rfl ?_
  refine ix_K_px kq_De_signedTally i_De_signedTally_16 rfl rfl ?_
  refine ix_K_ic_ge (tgt := 77) kq_De_signedTally i_De_signedTally_17 rfl (by decide) ?_ ?_
  · refine ix_K_px kq_De_signedTally i_De_signedTally_77 rfl rfl ?_
    refine ix_K_gr kq_De_signedTally i_De_signedTally_78 rfl (fun v1 => ?_)
    refine ix_K_ci kq_De_signedTally i_De_signedTally_81 rfl kci_0 ?_
    refine ix_K_cl kq_De_signedTally i_De_signedTally_82 rfl kcl_1 ?_
    refine ix_K_tl kq_De_signedTally i_De_signedTally_83 rfl (fun h2 => ?_)
    refine ix_K_ci kq_De_signedTally i_De_signedTally_84 rfl kci_1 ?_
    refine ix_K_px kq_De_signedTally i_De_signedTally_85 rfl rfl ?_
    refine ix_K_px kq_De_signedTally i_De_signedTally_86 rfl rfl ?_
    refine ix_K_ci kq_De_signedTally i_De_signedTally_87 rfl kci_1 ?_
    refine ix_K_px kq_De_signedTally i_De_signedTally_88 rfl rfl ?_
    refine ix_K_si (L2 := [some (.ref a0), some (.ref a1), some (.int x2), some (.int ((ix_ishl 1 x2) - 1)), none]) kq_De_signedTally i_De_signedTally_89 rfl (Or.inr ⟨_, rfl, rfl⟩) (Nat.le_of_ble_eq_true rfl) rfl ?_
    refine ix_K_ci kq_De_signedTally i_De_signedTally_90 rfl kci_1 ?_
    refine ix_K_si (L2 := [some (.ref a0), some (.ref a1), some (.int x2), some (.int ((ix_ishl 1 x2) - 1)), some (.int 1)]) kq_De_signedTally i_De_signedTally_91 rfl (Or.inl rfl) (Nat.le_of_ble_eq_true rfl) rfl ?_
    exact ix_D_cut i_De_signedTally_93 rfl
  · refine ix_K_px kq_De_signedTally i_De_signedTally_20 rfl rfl ?_
    refine ix_K_px kq_De_signedTally i_De_signedTally_21 rfl rfl ?_
    refine ix_K_gr kq_De_signedTally i_De_signedTally_22 rfl (fun v3 => ?_)
    refine ix_K_px kq_De_signedTally i_De_signedTally_25 rfl rfl ?_
    refine ix_K_gr kq_De_signedTally i_De_signedTally_26 rfl (fun v4 => ?_)
    refine ix_K_px kq_De_signedTally i_De_signedTally_29 rfl rfl ?_
    refine ix_K_ai kq_De_signedTally i_De_signedTally_30 rfl (fun v5 => ?_)
    refine ix_K_callV (as := [.ref a0, .ref v3, .int v5]) (rest := []) kq_De_signedTally i_De_signedTally_31 rfl kq_De_spread (by decide) rfl rfl (fun h6 => ?_)
    refine ix_K_ci kq_De_signedTally i_De_signedTally_34 rfl kci_0 ?_
    refine ix_K_si (L2 := [some (.ref a0), some (.ref a1), some (.int x2), some (.int x3), some (.int 0)]) kq_De_signedTally i_De_signedTally_35 rfl (Or.inl rfl) (Nat.le_of_ble_eq_true rfl) rfl ?_
    exact ix_D_cut i_De_signedTally_37 rfl
set_option maxRecDepth 20000 in
set_option maxHeartbeats 1000000 in
theorem e_De_signedTally_37 (a0 : Nat) (a1 : Nat) (x2 : Int32) (x3 : Int32) (x4 : Int32) (h : ixH) : l_De_signedTally_37 a0 a1 x2 x3 x4 h = if x2 ≤ x4 then l_De_signedTally_15 a0 a1 x2 (x3 + 1) h else (ix_gr h a0 5 1).bind fun v1 => (ix_gr h a1 1 3).bind fun v2 => (ix_ai h v2 x4).bind fun v3 => (ix_M mDe_waysTo [.ref a0, .int v3] h).bind fun r => ix_kL r fun v5 h4 => (ix_sl h4 v1 ((4 * x3) + x4) v5).bind fun h6 => l_De_signedTally_37 a0 a1 x2 x3 (x4 + 1) h6 := by
  unfold l_De_signedTally_37
  refine ix_K_px kq_De_signedTally i_De_signedTally_37 rfl rfl ?_
  refine ix_K_px kq_De_signedTally i_De_signedTally_39 rfl rfl ?_
  refine ix_K_ic_ge (tgt := 71) kq_De_signedTally i_De_signedTally_40 rfl (by decide) ?_ ?_
  · refine ix_K_inc (L2 := [some (.ref a0), some (.ref a1), some (.int x2), some (.int (x3 + 1)), some (.int x4)]) kq_De_signedTally i_De_signedTally_71 rfl rfl (Nat.le_of_ble_eq_true rfl) kci_1 rfl ?_
    refine ix_K_goto (tgt := 15) kq_De_signedTally i_De_signedTally_74 rfl (by decide) ?_
    exact ix_D_cut i_De_signedTally_15 rfl
  · refine ix_K_px kq_De_signedTally i_De_signedTally_43 rfl rfl ?_
    refine ix_K_gr kq_De_signedTally i_De_signedTally_44 rfl (fun v1 => ?_)
    refine ix_K_ci kq_De_signedTally i_De_signedTally_47 rfl kci_4 ?_
    refine ix_K_px kq_De_signedTally i_De_signedTally_48 rfl rfl ?_
    refine ix_K_px kq_De_signedTally i_De_signedTally_49 rfl rfl ?_
    refine ix_K_px kq_De_signedTally i_De_signedTally_50 rfl rfl ?_
    refine ix_K_px kq_De_signedTally i_De_signedTally_52 rfl rfl ?_
    refine ix_K_px kq_De_signedTally i_De_signedTally_53 rfl rfl ?_
    refine ix_K_px kq_De_signedTally i_De_signedTally_54 rfl rfl ?_
    refine ix_K_gr kq_De_signedTally i_De_signedTally_55 rfl (fun v2 => ?_)
    refine ix_K_px kq_De_signedTally i_De_signedTally_58 rfl rfl ?_
    refine ix_K_ai kq_De_signedTally i_De_signedTally_60 rfl (fun v3 => ?_)
    refine ix_K_callL (as := [.ref a0, .int v3]) (rest := [.int ((4 * x3) + x4), .ref v1]) kq_De_signedTally i_De_signedTally_61 rfl kq_De_waysTo (by decide) rfl rfl (fun v5 h4 => ?_)
    refine ix_K_tl kq_De_signedTally i_De_signedTally_64 rfl (fun h6 => ?_)
    refine ix_K_inc (L2 := [some (.ref a0), some (.ref a1), some (.int x2), some (.int x3), some (.int (x4 + 1))]) kq_De_signedTally i_De_signedTally_65 rfl rfl (Nat.le_of_ble_eq_true rfl) kci_1 rfl ?_
    refine ix_K_goto (tgt := 37) kq_De_signedTally i_De_signedTally_68 rfl (by decide) ?_
    exact ix_D_cut i_De_signedTally_37 rfl
set_option maxRecDepth 20000 in
set_option maxHeartbeats 1000000 in
theorem e_De_signedTally_93 (a0 : Nat) (x3 : Int32) (x4 : Int32) (h : ixH) : l_De_signedTally_93 a0 x3 x4 h = if x3 < x4 then (ix_gr h a0 5 2).bind fun v1 => (ix_al h v1 x3).bind fun v2 => some ([.long v2], h) else (ix_gr h a0 5 2).bind fun v3 => (ix_M mDe_minor [.ref a0, .int x4] h).bind fun r => ix_kL r fun v5 h4 => (ix_sl h4 v3 x4 v5).bind fun h6 => l_De_signedTally_93 a0 x3 (x4 + 1) h6 := by
  unfold l_De_signedTally_93
  refine ix_K_px kq_De_signedTally i_De_signedTally_93 rfl rfl ?_
  refine ix_K_px kq_De_signedTally i_De_signedTally_95 rfl rfl ?_
  refine ix_K_ic_gt (tgt := 118) kq_De_signedTally i_De_signedTally_96 rfl (by decide) ?_ ?_
  · refine ix_K_px kq_De_signedTally i_De_signedTally_118 rfl rfl ?_
    refine ix_K_gr kq_De_signedTally i_De_signedTally_119 rfl (fun v1 => ?_)
    refine ix_K_px kq_De_signedTally i_De_signedTally_122 rfl rfl ?_
    refine ix_K_al kq_De_signedTally i_De_signedTally_123 rfl (fun v2 => ?_)
    exact ix_D_ret kq_De_signedTally i_De_signedTally_124 (ix_rtL rfl _)
  · refine ix_K_px kq_De_signedTally i_De_signedTally_99 rfl rfl ?_
    refine ix_K_gr kq_De_signedTally i_De_signedTally_100 rfl (fun v3 => ?_)
    refine ix_K_px kq_De_signedTally i_De_signedTally_103 rfl rfl ?_
    refine ix_K_px kq_De_signedTally i_De_signedTally_105 rfl rfl ?_
    refine ix_K_px kq_De_signedTally i_De_signedTally_106 rfl rfl ?_
    refine ix_K_callL (as := [.ref a0, .int x4]) (rest := [.int x4, .ref v3]) kq_De_signedTally i_De_signedTally_108 rfl kq_De_minor (by decide) rfl rfl (fun v5 h4 => ?_)
    refine ix_K_tl kq_De_signedTally i_De_signedTally_111 rfl (fun h6 => ?_)
    refine ix_K_inc (L2 := [some (.ref a0), none, none, some (.int x3), some (.int (x4 + 1))]) kq_De_signedTally i_De_signedTally_112 rfl rfl (Nat.le_of_ble_eq_true rfl) kci_1 rfl ?_
    refine ix_K_goto (tgt := 93) kq_De_signedTally i_De_signedTally_115 rfl (by decide) ?_
    exact ix_D_cut i_De_signedTally_93 rfl
set_option maxRecDepth 20000 in
set_option maxHeartbeats 1000000 in
theorem e_De_signedTally (a0 : Nat) (a1 : Nat) (h : ixH) : ix_D mDe_signedTally 0 [some (.ref a0), some (.ref a1), none, none, none] [] h = (ix_gi h a1 1 4).bind fun v1 => l_De_signedTally_15 a0 a1 (ix_mx 0 (ix_mn v1 4)) 0 h := by
  refine ix_K_ci kq_De_signedTally i_De_signedTally_0 rfl kci_0 ?_
  refine ix_K_px kq_De_signedTally i_De_signedTally_1 rfl rfl ?_
  refine ix_K_gi kq_De_signedTally i_De_signedTally_2 rfl (fun v1 => ?_)
  refine ix_K_ci kq_De_signedTally i_De_signedTally_5 rfl kci_4 ?_
  refine ix_K_min kq_De_signedTally i_De_signedTally_6 rfl (Nat.le_of_ble_eq_true rfl) ?_
  refine ix_K_max kq_De_signedTally i_De_signedTally_9 rfl (Nat.le_of_ble_eq_true rfl) ?_
  refine ix_K_si (L2 := [some (.ref a0), some (.ref a1), some (.int (ix_mx 0 (ix_mn v1 4))), none, none]) kq_De_signedTally i_De_signedTally_12 rfl (Or.inr ⟨_, rfl, rfl⟩) (Nat.le_of_ble_eq_true rfl) rfl ?_
  refine ix_K_ci kq_De_signedTally i_De_signedTally_13 rfl kci_0 ?_
  refine ix_K_si (L2 := [some (.ref a0), some (.ref a1), some (.int (ix_mx 0 (ix_mn v1 4))), some (.int 0), none]) kq_De_signedTally i_De_signedTally_14 rfl (Or.inr ⟨_, rfl, rfl⟩) (Nat.le_of_ble_eq_true rfl) rfl ?_
  exact ix_D_cut i_De_signedTally_15 rfl
theorem x_De_signedTally {a0 : Nat} {a1 : Nat} {h h1 : ixH} {v : Int64} (hr : ix_rc h a0 = some 5) (hd : ix_D mDe_signedTally 0 [some (.ref a0), some (.ref a1), none, none, none] [] h = some ([.long v], h1)) : ix_M mDe_signedTally [.ref a0, .ref a1] h = some ([.long v], h1) := ix_M_of (ix_ent_i kq_De_signedTally rfl hr rfl (Nat.le_of_ble_eq_true rfl) rfl) hd (ix_okrL rfl v)
theorem i_De_minor_0 : ix_nx mDe_minor 0 = some (0, .iload_n 1, 1, none, [], 0) := rfl
theorem i_De_minor_1 : ix_nx mDe_minor 1 = some (3, .invokestatic 79, 4, none, [1, 255, 113], 0) := rfl
theorem i_De_minor_4 : ix_nx mDe_minor 4 = some (0, .iconst 1, 5, none, [], 0) := rfl
theorem i_De_minor_5 : ix_nx mDe_minor 5 = some (0, .isub, 6, none, [], 0) := rfl
theorem i_De_minor_6 : ix_nx mDe_minor 6 = some (0, .istore_n 2, 7, none, [], 0) := rfl
theorem i_De_minor_7 : ix_nx mDe_minor 7 = some (0, .lconst 0, 8, none, [], 0) := rfl
theorem i_De_minor_8 : ix_nx mDe_minor 8 = some (0, .lstore_n 3, 9, none, [], 0) := rfl
theorem i_De_minor_9 : ix_nx mDe_minor 9 = some (0, .iconst 0, 10, none, [], 0) := rfl
theorem i_De_minor_10 : ix_nx mDe_minor 10 = some (0, .istore 5, 12, none, [], 0) := rfl
theorem i_De_minor_12 : ix_nx mDe_minor 12 = some (0, .iload 5, 14, some [true, true, true, true, false, true, false, false, false], [], 0) := rfl
theorem i_De_minor_14 : ix_nx mDe_minor 14 = some (0, .iconst 4, 15, none, [], 0) := rfl
theorem i_De_minor_15 : ix_nx mDe_minor 15 = some (0, .if_icmp .ge 84, 18, none, [], 0) := rfl
theorem i_De_minor_18 : ix_nx mDe_minor 18 = some (0, .iload_n 1, 19, none, [], 0) := rfl
theorem i_De_minor_19 : ix_nx mDe_minor 19 = some (0, .iload 5, 21, none, [], 0) := rfl
theorem i_De_minor_21 : ix_nx mDe_minor 21 = some (0, .ishr, 22, none, [], 0) := rfl
theorem i_De_minor_22 : ix_nx mDe_minor 22 = some (0, .iconst 1, 23, none, [], 0) := rfl
theorem i_De_minor_23 : ix_nx mDe_minor 23 = some (0, .iand, 24, none, [], 0) := rfl
theorem i_De_minor_24 : ix_nx mDe_minor 24 = some (0, .ifCond .ne 6, 27, none, [], 0) := rfl
theorem i_De_minor_27 : ix_nx mDe_minor 27 = some (0, .goto 66, 30, none, [], 0) := rfl
theorem i_De_minor_30 : ix_nx mDe_minor 30 = some (0, .aload_n 0, 31, none, [], 0) := rfl
theorem i_De_minor_31 : ix_nx mDe_minor 31 = some (1, .getfield 15, 34, none, [5, 1, 2, 50], 0) := rfl
theorem i_De_minor_34 : ix_nx mDe_minor 34 = some (0, .iconst 4, 35, none, [], 0) := rfl
theorem i_De_minor_35 : ix_nx mDe_minor 35 = some (0, .iload_n 2, 36, none, [], 0) := rfl
theorem i_De_minor_36 : ix_nx mDe_minor 36 = some (0, .imul, 37, none, [], 0) := rfl
theorem i_De_minor_37 : ix_nx mDe_minor 37 = some (0, .iload 5, 39, none, [], 0) := rfl
theorem i_De_minor_39 : ix_nx mDe_minor 39 = some (0, .iadd, 40, none, [], 0) := rfl
theorem i_De_minor_40 : ix_nx mDe_minor 40 = some (1, .laload, 41, none, [], 0) := rfl
theorem i_De_minor_41 : ix_nx mDe_minor 41 = some (0, .aload_n 0, 42, none, [], 0) := rfl
theorem i_De_minor_42 : ix_nx mDe_minor 42 = some (1, .getfield 18, 45, none, [5, 2, 2, 51], 0) := rfl
theorem i_De_minor_45 : ix_nx mDe_minor 45 = some (0, .iload_n 1, 46, none, [], 0) := rfl
theorem i_De_minor_46 : ix_nx mDe_minor 46 = some (0, .iconst 1, 47, none, [], 0) := rfl
theorem i_De_minor_47 : ix_nx mDe_minor 47 = some (0, .iload 5, 49, none, [], 0) := rfl
theorem i_De_minor_49 : ix_nx mDe_minor 49 = some (0, .ishl, 50, none, [], 0) := rfl
theorem i_De_minor_50 : ix_nx mDe_minor 50 = some (0, .ixor, 51, none, [], 0) := rfl
theorem i_De_minor_51 : ix_nx mDe_minor 51 = some (1, .laload, 52, none, [], 0) := rfl
theorem i_De_minor_52 : ix_nx mDe_minor 52 = some (0, .lmul, 53, none, [], 0) := rfl
theorem i_De_minor_53 : ix_nx mDe_minor 53 = some (0, .lstore 6, 55, none, [], 0) := rfl
theorem i_De_minor_55 : ix_nx mDe_minor 55 = some (0, .iload_n 1, 56, none, [], 0) := rfl
theorem i_De_minor_56 : ix_nx mDe_minor 56 = some (0, .iload 5, 58, none, [], 0) := rfl
theorem i_De_minor_58 : ix_nx mDe_minor 58 = some (0, .iconst 1, 59, none, [], 0) := rfl
theorem i_De_minor_59 : ix_nx mDe_minor 59 = some (0, .iadd, 60, none, [], 0) := rfl
theorem i_De_minor_60 : ix_nx mDe_minor 60 = some (0, .ishr, 61, none, [], 0) := rfl
theorem i_De_minor_61 : ix_nx mDe_minor 61 = some (3, .invokestatic 79, 64, none, [1, 255, 113], 0) := rfl
theorem i_De_minor_64 : ix_nx mDe_minor 64 = some (0, .iconst 1, 65, none, [], 0) := rfl
theorem i_De_minor_65 : ix_nx mDe_minor 65 = some (0, .iand, 66, none, [], 0) := rfl
theorem i_De_minor_66 : ix_nx mDe_minor 66 = some (0, .iconst 1, 67, none, [], 0) := rfl
theorem i_De_minor_67 : ix_nx mDe_minor 67 = some (0, .if_icmp .ne 7, 70, none, [], 0) := rfl
theorem i_De_minor_70 : ix_nx mDe_minor 70 = some (0, .iconst 1, 71, none, [], 0) := rfl
theorem i_De_minor_71 : ix_nx mDe_minor 71 = some (0, .goto 4, 74, none, [], 0) := rfl
theorem i_De_minor_74 : ix_nx mDe_minor 74 = some (0, .iconst 0, 75, none, [], 0) := rfl
theorem i_De_minor_75 : ix_nx mDe_minor 75 = some (0, .istore 8, 77, some [true, true, true, true, false, true, true, false, false], [], 0) := rfl
theorem i_De_minor_77 : ix_nx mDe_minor 77 = some (0, .lload_n 3, 78, none, [], 0) := rfl
theorem i_De_minor_78 : ix_nx mDe_minor 78 = some (0, .iload 8, 80, none, [], 0) := rfl
theorem i_De_minor_80 : ix_nx mDe_minor 80 = some (0, .ifCond .eq 9, 83, none, [], 0) := rfl
theorem i_De_minor_83 : ix_nx mDe_minor 83 = some (0, .lload 6, 85, none, [], 0) := rfl
theorem i_De_minor_85 : ix_nx mDe_minor 85 = some (0, .lneg, 86, none, [], 0) := rfl
theorem i_De_minor_86 : ix_nx mDe_minor 86 = some (0, .goto 5, 89, none, [], 0) := rfl
theorem i_De_minor_89 : ix_nx mDe_minor 89 = some (0, .lload 6, 91, none, [], 0) := rfl
theorem i_De_minor_91 : ix_nx mDe_minor 91 = some (0, .ladd, 92, none, [], 0) := rfl
theorem i_De_minor_92 : ix_nx mDe_minor 92 = some (0, .lstore_n 3, 93, none, [], 0) := rfl
theorem i_De_minor_93 : ix_nx mDe_minor 93 = some (0, .iinc 5 1, 96, none, [], 0) := rfl
theorem i_De_minor_96 : ix_nx mDe_minor 96 = some (0, .goto (-84), 99, none, [], 0) := rfl
theorem i_De_minor_99 : ix_nx mDe_minor 99 = some (0, .lload_n 3, 100, none, [], 0) := rfl
theorem i_De_minor_100 : ix_nx mDe_minor 100 = some (4, .lreturn, 101, none, [], 0) := rfl
noncomputable def l_De_minor_12 (a0 : Nat) (x1 : Int32) (x2 : Int32) (x3 : Int64) (x5 : Int32) (h : ixH) : Option (List Value × ixH) := ix_D mDe_minor 12 [some (.ref a0), some (.int x1), some (.int x2), some (.long x3), none, some (.int x5), none, none, none] [] h
noncomputable def l_De_minor_75 (a0 : Nat) (x1 : Int32) (x2 : Int32) (x3 : Int64) (x5 : Int32) (x6 : Int64) (sb0 : Bool) (h : ixH) : Option (List Value × ixH) := ix_D mDe_minor 75 [some (.ref a0), some (.int x1), some (.int x2), some (.long x3), none, some (.int x5), some (.long x6), none, none] [.int (ix_bi sb0)] h
set_option maxRecDepth 20000 in
set_option maxHeartbeats 1000000 in
theorem e_De_minor_12 (a0 : Nat) (x1 : Int32) (x2 : Int32) (x3 : Int64) (x5 : Int32) (h : ixH) : l_De_minor_12 a0 x1 x2 x3 x5 h = if 4 ≤ x5 then some ([.long x3], h) else if ¬ ((ix_ishr x1 x5) &&& 1) = 0 then (ix_gr h a0 5 1).bind fun v1 => (ix_al h v1 ((4 * x2) + x5)).bind fun v2 => (ix_gr h a0 5 2).bind fun v3 => (ix_al h v3 (x1 ^^^ (ix_ishl 1 x5))).bind fun v4 => (ix_M mJI_bitCount [.int (ix_ishr x1 (x5 + 1))] h).bind fun r => ix_kI r fun v6 h5 => if ¬ (v6 &&& 1) = 1 then l_De_minor_75 a0 x1 x2 x3 x5 (v2 * v4) false h5 else l_De_minor_75 a0 x1 x2 x3 x5 (v2 * v4) true h5 else l_De_minor_12 a0 x1 x2 x3 (x5 + 1) h := by
  unfold l_De_minor_12
  refine ix_K_px kq_De_minor i_De_minor_12 rfl rfl ?_
  refine ix_K_ci kq_De_minor i_De_minor_14 rfl kci_4 ?_
  refine ix_K_ic_ge (tgt := 99) kq_De_minor i_De_minor_15 rfl (by decide) ?_ ?_
  · refine ix_K_px kq_De_minor i_De_minor_99 rfl rfl ?_
    exact ix_D_ret kq_De_minor i_De_minor_100 (ix_rtL rfl _)
  · refine ix_K_px kq_De_minor i_De_minor_18 rfl rfl ?_
    refine ix_K_px kq_De_minor i_De_minor_19 rfl rfl ?_
    refine ix_K_px kq_De_minor i_De_minor_21 rfl rfl ?_
    refine ix_K_ci kq_De_minor i_De_minor_22 rfl kci_1 ?_
    refine ix_K_px kq_De_minor i_De_minor_23 rfl rfl ?_
    refine ix_K_if_ne (tgt := 30) kq_De_minor i_De_minor_24 rfl (by decide) ?_ ?_
    · refine ix_K_px kq_De_minor i_De_minor_30 rfl rfl ?_
      refine ix_K_gr kq_De_minor i_De_minor_31 rfl (fun v1 => ?_)
      refine ix_K_ci kq_De_minor i_De_minor_34 rfl kci_4 ?_
      refine ix_K_px kq_De_minor i_De_minor_35 rfl rfl ?_
      refine ix_K_px kq_De_minor i_De_minor_36 rfl rfl ?_
      refine ix_K_px kq_De_minor i_De_minor_37 rfl rfl ?_
      refine ix_K_px kq_De_minor i_De_minor_39 rfl rfl ?_
      refine ix_K_al kq_De_minor i_De_minor_40 rfl (fun v2 => ?_)
      refine ix_K_px kq_De_minor i_De_minor_41 rfl rfl ?_
      refine ix_K_gr kq_De_minor i_De_minor_42 rfl (fun v3 => ?_)
      refine ix_K_px kq_De_minor i_De_minor_45 rfl rfl ?_
      refine ix_K_ci kq_De_minor i_De_minor_46 rfl kci_1 ?_
      refine ix_K_px kq_De_minor i_De_minor_47 rfl rfl ?_
      refine ix_K_px kq_De_minor i_De_minor_49 rfl rfl ?_
      refine ix_K_px kq_De_minor i_De_minor_50 rfl rfl ?_
      refine ix_K_al kq_De_minor i_De_minor_51 rfl (fun v4 => ?_)
      refine ix_K_px kq_De_minor i_De_minor_52 rfl rfl ?_
      refine ix_K_sl (L2 := [some (.ref a0), some (.int x1), some (.int x2), some (.long x3), none, some (.int x5), some (.long (v2 * v4)), none, none]) kq_De_minor i_De_minor_53 rfl (Or.inl rfl) (Nat.le_of_ble_eq_true rfl) rfl ?_
      refine ix_K_px kq_De_minor i_De_minor_55 rfl rfl ?_
      refine ix_K_px kq_De_minor i_De_minor_56 rfl rfl ?_
      refine ix_K_ci kq_De_minor i_De_minor_58 rfl kci_1 ?_
      refine ix_K_px kq_De_minor i_De_minor_59 rfl rfl ?_
      refine ix_K_px kq_De_minor i_De_minor_60 rfl rfl ?_
      refine ix_K_callI (as := [.int (ix_ishr x1 (x5 + 1))]) (rest := []) kq_De_minor i_De_minor_61 rfl kq_JI_bitCount (by decide) rfl (Or.inl rfl) (fun v6 h5 => ?_)
      refine ix_K_ci kq_De_minor i_De_minor_64 rfl kci_1 ?_
      refine ix_K_px kq_De_minor i_De_minor_65 rfl rfl ?_
      refine ix_K_ci kq_De_minor i_De_minor_66 rfl kci_1 ?_
      refine ix_K_ic_ne (tgt := 74) kq_De_minor i_De_minor_67 rfl (by decide) ?_ ?_
      · refine ix_K_ci kq_De_minor i_De_minor_74 rfl kci_0 ?_
        exact ix_D_cut i_De_minor_75 rfl
      · refine ix_K_ci kq_De_minor i_De_minor_70 rfl kci_1 ?_
        refine ix_K_goto (tgt := 75) kq_De_minor i_De_minor_71 rfl (by decide) ?_
        exact ix_D_cut i_De_minor_75 rfl
    · refine ix_K_goto (tgt := 93) kq_De_minor i_De_minor_27 rfl (by decide) ?_
      refine ix_K_inc (L2 := [some (.ref a0), some (.int x1), some (.int x2), some (.long x3), none, some (.int (x5 + 1)), none, none, none]) kq_De_minor i_De_minor_93 rfl rfl (Nat.le_of_ble_eq_true rfl) kci_1 rfl ?_
      refine ix_K_goto (tgt := 12) kq_De_minor i_De_minor_96 rfl (by decide) ?_
      exact ix_D_cut i_De_minor_12 rfl
set_option maxRecDepth 20000 in
set_option maxHeartbeats 1000000 in
theorem e_De_minor_75 (a0 : Nat) (x1 : Int32) (x2 : Int32) (x3 : Int64) (x5 : Int32) (x6 : Int64) (sb0 : Bool) (h : ixH) : l_De_minor_75 a0 x1 x2 x3 x5 x6 sb0 h = if sb0 = true then l_De_minor_12 a0 x1 x2 (x3 + (-x6)) (x5 + 1) h else l_De_minor_12 a0 x1 x2 (x3 + x6) (x5 + 1) h := by
  unfold l_De_minor_75
  refine ix_K_si (L2 := [some (.ref a0), some (.int x1), some (.int x2), some (.long x3), none, some (.int x5), some (.long x6), none, some (.int (ix_bi sb0))]) kq_De_minor i_De_minor_75 rfl (Or.inl rfl) (Nat.le_of_ble_eq_true rfl) rfl ?_
  refine ix_K_px kq_De_minor i_De_minor_77 rfl rfl ?_
  refine ix_K_px kq_De_minor i_De_minor_78 rfl rfl ?_
  refine ix_K_bz_eq (tgt := 89) kq_De_minor i_De_minor_80 rfl (by decide) ?_ ?_
  · refine ix_K_px kq_De_minor i_De_minor_83 rfl rfl ?_
    refine ix_K_px kq_De_minor i_De_minor_85 rfl rfl ?_
    refine ix_K_goto (tgt := 91) kq_De_minor i_De_minor_86 rfl (by decide) ?_
    refine ix_K_px kq_De_minor i_De_minor_91 rfl rfl ?_
    refine ix_K_sl (L2 := [some (.ref a0), some (.int x1), some (.int x2), some (.long (x3 + (-x6))), none, some (.int x5), some (.long x6), none, some (.int (ix_bi sb0))]) kq_De_minor i_De_minor_92 rfl (Or.inr ⟨_, rfl, rfl⟩) (Nat.le_of_ble_eq_true rfl) rfl ?_
    refine ix_K_inc (L2 := [some (.ref a0), some (.int x1), some (.int x2), some (.long (x3 + (-x6))), none, some (.int (x5 + 1)), some (.long x6), none, some (.int (ix_bi sb0))]) kq_De_minor i_De_minor_93 rfl rfl (Nat.le_of_ble_eq_true rfl) kci_1 rfl ?_
    refine ix_K_goto (tgt := 12) kq_De_minor i_De_minor_96 rfl (by decide) ?_
    exact ix_D_cut i_De_minor_12 rfl
  · refine ix_K_px kq_De_minor i_De_minor_89 rfl rfl ?_
    refine ix_K_px kq_De_minor i_De_minor_91 rfl rfl ?_
    refine ix_K_sl (L2 := [some (.ref a0), some (.int x1), some (.int x2), some (.long (x3 + x6)), none, some (.int x5), some (.long x6), none, some (.int (ix_bi sb0))]) kq_De_minor i_De_minor_92 rfl (Or.inr ⟨_, rfl, rfl⟩) (Nat.le_of_ble_eq_true rfl) rfl ?_
    refine ix_K_inc (L2 := [some (.ref a0), some (.int x1), some (.int x2), some (.long (x3 + x6)), none, some (.int (x5 + 1)), some (.long x6), none, some (.int (ix_bi sb0))]) kq_De_minor i_De_minor_93 rfl rfl (Nat.le_of_ble_eq_true rfl) kci_1 rfl ?_
    refine ix_K_goto (tgt := 12) kq_De_minor i_De_minor_96 rfl (by decide) ?_
    exact ix_D_cut i_De_minor_12 rfl
set_option maxRecDepth 20000 in
set_option maxHeartbeats 1000000 in
theorem e_De_minor (a0 : Nat) (x1 : Int32) (h : ixH) : ix_D mDe_minor 0 [some (.ref a0), some (.int x1), none, none, none, none, none, none, none] [] h = (ix_M mJI_bitCount [.int x1] h).bind fun r => ix_kI r fun v2 h1 => l_De_minor_12 a0 x1 (v2 - 1) 0 0 h1 := by
  refine ix_K_px kq_De_minor i_De_minor_0 rfl rfl ?_
  refine ix_K_callI (as := [.int x1]) (rest := []) kq_De_minor i_De_minor_1 rfl kq_JI_bitCount (by decide) rfl (Or.inl rfl) (fun v2 h1 => ?_)
  refine ix_K_ci kq_De_minor i_De_minor_4 rfl kci_1 ?_
  refine ix_K_px kq_De_minor i_De_minor_5 rfl rfl ?_
  refine ix_K_si (L2 := [some (.ref a0), some (.int x1), some (.int (v2 - 1)), none, none, none, none, none, none]) kq_De_minor i_De_minor_6 rfl (Or.inr ⟨_, rfl, rfl⟩) (Nat.le_of_ble_eq_true rfl) rfl ?_
  refine ix_K_cl kq_De_minor i_De_minor_7 rfl kcl_0 ?_
  refine ix_K_sl (L2 := [some (.ref a0), some (.int x1), some (.int (v2 - 1)), some (.long 0), none, none, none, none, none]) kq_De_minor i_De_minor_8 rfl (Or.inr ⟨_, rfl, rfl⟩) (Nat.le_of_ble_eq_true rfl) rfl ?_
  refine ix_K_ci kq_De_minor i_De_minor_9 rfl kci_0 ?_
  refine ix_K_si (L2 := [some (.ref a0), some (.int x1), some (.int (v2 - 1)), some (.long 0), none, some (.int 0), none, none, none]) kq_De_minor i_De_minor_10 rfl (Or.inl rfl) (Nat.le_of_ble_eq_true rfl) rfl ?_
  exact ix_D_cut i_De_minor_12 rfl
theorem x_De_minor {a0 : Nat} {x1 : Int32} {h h1 : ixH} {v : Int64} (hr : ix_rc h a0 = some 5) (hd : ix_D mDe_minor 0 [some (.ref a0), some (.int x1), none, none, none, none, none, none, none] [] h = some ([.long v], h1)) : ix_M mDe_minor [.ref a0, .int x1] h = some ([.long v], h1) := ix_M_of (ix_ent_i kq_De_minor rfl hr rfl (Nat.le_of_ble_eq_true rfl) rfl) hd (ix_okrL rfl v)
theorem i_Wk_init_0 : ix_nx mWk_init 0 = some (0, .aload_n 0, 1, none, [], 0) := rfl
theorem i_Wk_init_1 : ix_nx mWk_init 1 = some (3, .invokespecial 3, 4, none, [6, 0, 114], 0) := rfl
theorem i_Wk_init_4 : ix_nx mWk_init 4 = some (0, .aload_n 0, 5, none, [], 0) := rfl
theorem i_Wk_init_5 : ix_nx mWk_init 5 = some (0, .bipush 64, 7, none, [], 0) := rfl
theorem i_Wk_init_7 : ix_nx mWk_init 7 = some (2, .newarray .long, 9, none, [], 0) := rfl
theorem i_Wk_init_9 : ix_nx mWk_init 9 = some (2, .putfield 9, 12, none, [6, 0, 2, 52], 0) := rfl
theorem i_Wk_init_12 : ix_nx mWk_init 12 = some (4, .return_, 13, none, [], 0) := rfl
set_option maxRecDepth 20000 in
set_option maxHeartbeats 1000000 in
theorem e_Wk_init (a0 : Nat) (h : ixH) : ix_D mWk_init 0 [some (.ref a0)] [] h = (ix_pf (ix_nw h (.inl (1, 64, .inr (.inl fun _ => 0))) 64) a0 6 0 (.ref h.1)).bind fun h1 => some ([], h1) := by
  refine ix_K_px kq_Wk_init i_Wk_init_0 rfl rfl ?_
  refine ix_K_obj kq_Wk_init i_Wk_init_1 rfl (Nat.le_of_ble_eq_true rfl) ?_
  refine ix_K_px kq_Wk_init i_Wk_init_4 rfl rfl ?_
  refine ix_K_cb kq_Wk_init i_Wk_init_5 rfl kcb_64 ?_
  refine ix_K_naL kq_Wk_init i_Wk_init_7 rfl kna_64 knb_64 (by decide) ?_
  refine ix_K_pf kq_Wk_init i_Wk_init_9 rfl rfl (fun h1 => ?_)
  exact ix_D_ret kq_Wk_init i_Wk_init_12 (ix_rtV rfl)
theorem x_Wk_init {a0 : Nat} {h h1 : ixH} (hd : ix_D mWk_init 0 [some (.ref a0)] [] h = some ([], h1)) : ix_M mWk_init [.ref a0] h = some ([], h1) := ix_M_of (ix_ent_c kq_Wk_init rfl rfl (Nat.le_of_ble_eq_true rfl) rfl) hd (ix_okrV rfl)
theorem i_Wk_measure_0 : ix_nx mWk_measure 0 = some (0, .aload_n 1, 1, none, [], 0) := rfl
theorem i_Wk_measure_1 : ix_nx mWk_measure 1 = some (3, .invokevirtual 15, 4, none, [0, 70, 115], 0) := rfl
theorem i_Wk_measure_4 : ix_nx mWk_measure 4 = some (0, .lstore 4, 6, none, [], 0) := rfl
theorem i_Wk_measure_6 : ix_nx mWk_measure 6 = some (0, .iload_n 3, 7, none, [], 0) := rfl
theorem i_Wk_measure_7 : ix_nx mWk_measure 7 = some (3, .invokestatic 21, 10, none, [3, 1, 116], 0) := rfl
theorem i_Wk_measure_10 : ix_nx mWk_measure 10 = some (0, .lload 4, 12, none, [], 0) := rfl
theorem i_Wk_measure_12 : ix_nx mWk_measure 12 = some (0, .land, 13, none, [], 0) := rfl
theorem i_Wk_measure_13 : ix_nx mWk_measure 13 = some (0, .lstore 6, 15, none, [], 0) := rfl
theorem i_Wk_measure_15 : ix_nx mWk_measure 15 = some (0, .lload 6, 17, none, [], 0) := rfl
theorem i_Wk_measure_17 : ix_nx mWk_measure 17 = some (0, .lstore 8, 19, none, [], 0) := rfl
theorem i_Wk_measure_19 : ix_nx mWk_measure 19 = some (0, .iconst 0, 20, none, [], 0) := rfl
theorem i_Wk_measure_20 : ix_nx mWk_measure 20 = some (0, .istore 10, 22, none, [], 0) := rfl
theorem i_Wk_measure_22 : ix_nx mWk_measure 22 = some (0, .iload 10, 24, some [true, true, true, false, true, false, true, false, true, false, true], [], 0) := rfl
theorem i_Wk_measure_24 : ix_nx mWk_measure 24 = some (0, .bipush 64, 26, none, [], 0) := rfl
theorem i_Wk_measure_26 : ix_nx mWk_measure 26 = some (0, .if_icmp .ge 62, 29, none, [], 0) := rfl
theorem i_Wk_measure_29 : ix_nx mWk_measure 29 = some (0, .lload 6, 31, none, [], 0) := rfl
theorem i_Wk_measure_31 : ix_nx mWk_measure 31 = some (0, .lconst 0, 32, none, [], 0) := rfl
theorem i_Wk_measure_32 : ix_nx mWk_measure 32 = some (0, .lcmp, 33, none, [], 0) := rfl
theorem i_Wk_measure_33 : ix_nx mWk_measure 33 = some (0, .ifCond .eq 55, 36, none, [], 0) := rfl
theorem i_Wk_measure_36 : ix_nx mWk_measure 36 = some (0, .aload_n 0, 37, none, [], 0) := rfl
theorem i_Wk_measure_37 : ix_nx mWk_measure 37 = some (1, .getfield 9, 40, none, [6, 0, 2, 52], 0) := rfl
theorem i_Wk_measure_40 : ix_nx mWk_measure 40 = some (0, .iload 10, 42, none, [], 0) := rfl
theorem i_Wk_measure_42 : ix_nx mWk_measure 42 = some (0, .lload 6, 44, none, [], 0) := rfl
theorem i_Wk_measure_44 : ix_nx mWk_measure 44 = some (2, .lastore, 45, none, [], 0) := rfl
theorem i_Wk_measure_45 : ix_nx mWk_measure 45 = some (0, .lload 6, 47, none, [], 0) := rfl
theorem i_Wk_measure_47 : ix_nx mWk_measure 47 = some (0, .iload_n 2, 48, none, [], 0) := rfl
theorem i_Wk_measure_48 : ix_nx mWk_measure 48 = some (3, .invokestatic 25, 51, none, [3, 8, 117], 0) := rfl
theorem i_Wk_measure_51 : ix_nx mWk_measure 51 = some (0, .ifCond .eq 6, 54, none, [], 0) := rfl
theorem i_Wk_measure_54 : ix_nx mWk_measure 54 = some (0, .iload 10, 56, none, [], 0) := rfl
theorem i_Wk_measure_56 : ix_nx mWk_measure 56 = some (4, .ireturn, 57, none, [], 0) := rfl
theorem i_Wk_measure_57 : ix_nx mWk_measure 57 = some (0, .aload_n 1, 58, none, [], 0) := rfl
theorem i_Wk_measure_58 : ix_nx mWk_measure 58 = some (0, .lload 6, 60, none, [], 0) := rfl
theorem i_Wk_measure_60 : ix_nx mWk_measure 60 = some (3, .invokevirtual 29, 63, none, [0, 67, 118], 0) := rfl
theorem i_Wk_measure_63 : ix_nx mWk_measure 63 = some (0, .lload 4, 65, none, [], 0) := rfl
theorem i_Wk_measure_65 : ix_nx mWk_measure 65 = some (0, .land, 66, none, [], 0) := rfl
theorem i_Wk_measure_66 : ix_nx mWk_measure 66 = some (0, .lload 8, 68, none, [], 0) := rfl
theorem i_Wk_measure_68 : ix_nx mWk_measure 68 = some (0, .ldc2_w 33, 71, none, [9], -1) := rfl
theorem i_Wk_measure_71 : ix_nx mWk_measure 71 = some (0, .lxor, 72, none, [], 0) := rfl
theorem i_Wk_measure_72 : ix_nx mWk_measure 72 = some (0, .land, 73, none, [], 0) := rfl
theorem i_Wk_measure_73 : ix_nx mWk_measure 73 = some (0, .lstore 6, 75, none, [], 0) := rfl
theorem i_Wk_measure_75 : ix_nx mWk_measure 75 = some (0, .lload 8, 77, none, [], 0) := rfl
theorem i_Wk_measure_77 : ix_nx mWk_measure 77 = some (0, .lload 6, 79, none, [], 0) := rfl
theorem i_Wk_measure_79 : ix_nx mWk_measure 79 = some (0, .lor, 80, none, [], 0) := rfl
theorem i_Wk_measure_80 : ix_nx mWk_measure 80 = some (0, .lstore 8, 82, none, [], 0) := rfl
theorem i_Wk_measure_82 : ix_nx mWk_measure 82 = some (0, .iinc 10 1, 85, none, [], 0) := rfl
theorem i_Wk_measure_85 : ix_nx mWk_measure 85 = some (0, .goto (-63), 88, none, [], 0) := rfl
theorem i_Wk_measure_88 : ix_nx mWk_measure 88 = some (0, .bipush (-6), 90, none, [], 0) := rfl
theorem i_Wk_measure_90 : ix_nx mWk_measure 90 = some (4, .ireturn, 91, none, [], 0) := rfl
noncomputable def l_Wk_measure_22 (a0 : Nat) (a1 : Nat) (x2 : Int32) (x4 : Int64) (x6 : Int64) (x8 : Int64) (x10 : Int32) (h : ixH) : Option (List Value × ixH) := ix_D mWk_measure 22 [some (.ref a0), some (.ref a1), some (.int x2), none, some (.long x4), none, some (.long x6), none, some (.long x8), none, some (.int x10)] [] h
set_option maxRecDepth 20000 in
set_option maxHeartbeats 1000000 in
theorem e_Wk_measure_22 (a0 : Nat) (a1 : Nat) (x2 : Int32) (x4 : Int64) (x6 : Int64) (x8 : Int64) (x10 : Int32) (h : ixH) : l_Wk_measure_22 a0 a1 x2 x4 x6 x8 x10 h = if 64 ≤ x10 then some ([.int (-6)], h) else if x6 = 0 then some ([.int (-6)], h) else (ix_gr h a0 6 0).bind fun v1 => (ix_sl h v1 x10 x6).bind fun h2 => (ix_M mRP_holds [.long x6, .int x2] h2).bind fun r => ix_kZ r fun v4 h3 => if v4 = true then some ([.int x10], h3) else (ix_M mGr_around [.ref a1, .long x6] h3).bind fun r => ix_kL r fun v6 h5 => l_Wk_measure_22 a0 a1 x2 x4 ((v6 &&& x4) &&& (x8 ^^^ (-1))) (x8 ||| ((v6 &&& x4) &&& (x8 ^^^ (-1)))) (x10 + 1) h5 := by
  unfold l_Wk_measure_22
  refine ix_K_px kq_Wk_measure i_Wk_measure_22 rfl rfl ?_
  refine ix_K_cb kq_Wk_measure i_Wk_measure_24 rfl kcb_64 ?_
  refine ix_K_ic_ge (tgt := 88) kq_Wk_measure i_Wk_measure_26 rfl (by decide) ?_ ?_
  · refine ix_K_cb kq_Wk_measure i_Wk_measure_88 rfl kcb_m6 ?_
    exact ix_D_ret kq_Wk_measure i_Wk_measure_90 (ix_rtI rfl _)
  · refine ix_K_px kq_Wk_measure i_Wk_measure_29 rfl rfl ?_
    refine ix_K_cl kq_Wk_measure i_Wk_measure_31 rfl kcl_0 ?_
    refine ix_K_px kq_Wk_measure i_Wk_measure_32 rfl rfl ?_
    refine ix_K_lc_eq (tgt := 88) kq_Wk_measure i_Wk_measure_33 rfl (by decide) ?_ ?_
    · refine ix_K_cb kq_Wk_measure i_Wk_measure_88 rfl kcb_m6 ?_
      exact ix_D_ret kq_Wk_measure i_Wk_measure_90 (ix_rtI rfl _)
    · refine ix_K_px kq_Wk_measure i_Wk_measure_36 rfl rfl ?_
      refine ix_K_gr kq_Wk_measure i_Wk_measure_37 rfl (fun v1 => ?_)
      refine ix_K_px kq_Wk_measure i_Wk_measure_40 rfl rfl ?_
      refine ix_K_px kq_Wk_measure i_Wk_measure_42 rfl rfl ?_
      refine ix_K_tl kq_Wk_measure i_Wk_measure_44 rfl (fun h2 => ?_)
      refine ix_K_px kq_Wk_measure i_Wk_measure_45 rfl rfl ?_
      refine ix_K_px kq_Wk_measure i_Wk_measure_47 rfl rfl ?_
      refine ix_K_callZ (as := [.long x6, .int x2]) (rest := []) kq_Wk_measure i_Wk_measure_48 rfl kq_RP_holds (by decide) rfl rfl (fun v4 h3 => ?_)
      refine ix_K_bz_eq (tgt := 57) kq_Wk_measure i_Wk_measure_51 rfl (by decide) ?_ ?_
      · refine ix_K_px kq_Wk_measure i_Wk_measure_54 rfl rfl ?_
        exact ix_D_ret kq_Wk_measure i_Wk_measure_56 (ix_rtI rfl _)
      · refine ix_K_px kq_Wk_measure i_Wk_measure_57 rfl rfl ?_
        refine ix_K_px kq_Wk_measure i_Wk_measure_58 rfl rfl ?_
        refine ix_K_callL (as := [.ref a1, .long x6]) (rest := []) kq_Wk_measure i_Wk_measure_60 rfl kq_Gr_around (by decide) rfl rfl (fun v6 h5 => ?_)
        refine ix_K_px kq_Wk_measure i_Wk_measure_63 rfl rfl ?_
        refine ix_K_px kq_Wk_measure i_Wk_measure_65 rfl rfl ?_
        refine ix_K_px kq_Wk_measure i_Wk_measure_66 rfl rfl ?_
        refine ix_K_c2 kq_Wk_measure i_Wk_measure_68 rfl kc2_m1 ?_
        refine ix_K_px kq_Wk_measure i_Wk_measure_71 rfl rfl ?_
        refine ix_K_px kq_Wk_measure i_Wk_measure_72 rfl rfl ?_
        refine ix_K_sl (L2 := [some (.ref a0), some (.ref a1), some (.int x2), none, some (.long x4), none, some (.long ((v6 &&& x4) &&& (x8 ^^^ (-1)))), none, some (.long x8), none, some (.int x10)]) kq_Wk_measure i_Wk_measure_73 rfl (Or.inl rfl) (Nat.le_of_ble_eq_true rfl) rfl ?_
        refine ix_K_px kq_Wk_measure i_Wk_measure_75 rfl rfl ?_
        refine ix_K_px kq_Wk_measure i_Wk_measure_77 rfl rfl ?_
        refine ix_K_px kq_Wk_measure i_Wk_measure_79 rfl rfl ?_
        refine ix_K_sl (L2 := [some (.ref a0), some (.ref a1), some (.int x2), none, some (.long x4), none, some (.long ((v6 &&& x4) &&& (x8 ^^^ (-1)))), none, some (.long (x8 ||| ((v6 &&& x4) &&& (x8 ^^^ (-1))))), none, some (.int x10)]) kq_Wk_measure i_Wk_measure_80 rfl (Or.inl rfl) (Nat.le_of_ble_eq_true rfl) rfl ?_
        refine ix_K_inc (L2 := [some (.ref a0), some (.ref a1), some (.int x2), none, some (.long x4), none, some (.long ((v6 &&& x4) &&& (x8 ^^^ (-1)))), none, some (.long (x8 ||| ((v6 &&& x4) &&& (x8 ^^^ (-1))))), none, some (.int (x10 + 1))]) kq_Wk_measure i_Wk_measure_82 rfl rfl (Nat.le_of_ble_eq_true rfl) kci_1 rfl ?_
        refine ix_K_goto (tgt := 22) kq_Wk_measure i_Wk_measure_85 rfl (by decide) ?_
        exact ix_D_cut i_Wk_measure_22 rfl
set_option maxRecDepth 20000 in
set_option maxHeartbeats 1000000 in
theorem e_Wk_measure (a0 : Nat) (a1 : Nat) (x2 : Int32) (x3 : Int32) (h : ixH) : ix_D mWk_measure 0 [some (.ref a0), some (.ref a1), some (.int x2), some (.int x3), none, none, none, none, none, none, none] [] h = (ix_M mGr_open [.ref a1] h).bind fun r => ix_kL r fun v2 h1 => (ix_M mRP_bit [.int x3] h1).bind fun r => ix_kL r fun v4 h3 => l_Wk_measure_22 a0 a1 x2 v2 (v4 &&& v2) (v4 &&& v2) 0 h3 := by
  refine ix_K_px kq_Wk_measure i_Wk_measure_0 rfl rfl ?_
  refine ix_K_callL (as := [.ref a1]) (rest := []) kq_Wk_measure i_Wk_measure_1 rfl kq_Gr_open (by decide) rfl rfl (fun v2 h1 => ?_)
  refine ix_K_sl (L2 := [some (.ref a0), some (.ref a1), some (.int x2), some (.int x3), some (.long v2), none, none, none, none, none, none]) kq_Wk_measure i_Wk_measure_4 rfl (Or.inl rfl) (Nat.le_of_ble_eq_true rfl) rfl ?_
  refine ix_K_px kq_Wk_measure i_Wk_measure_6 rfl rfl ?_
  refine ix_K_callL (as := [.int x3]) (rest := []) kq_Wk_measure i_Wk_measure_7 rfl kq_RP_bit (by decide) rfl rfl (fun v4 h3 => ?_)
  refine ix_K_px kq_Wk_measure i_Wk_measure_10 rfl rfl ?_
  refine ix_K_px kq_Wk_measure i_Wk_measure_12 rfl rfl ?_
  refine ix_K_sl (L2 := [some (.ref a0), some (.ref a1), some (.int x2), some (.int x3), some (.long v2), none, some (.long (v4 &&& v2)), none, none, none, none]) kq_Wk_measure i_Wk_measure_13 rfl (Or.inl rfl) (Nat.le_of_ble_eq_true rfl) rfl ?_
  refine ix_K_px kq_Wk_measure i_Wk_measure_15 rfl rfl ?_
  refine ix_K_sl (L2 := [some (.ref a0), some (.ref a1), some (.int x2), some (.int x3), some (.long v2), none, some (.long (v4 &&& v2)), none, some (.long (v4 &&& v2)), none, none]) kq_Wk_measure i_Wk_measure_17 rfl (Or.inl rfl) (Nat.le_of_ble_eq_true rfl) rfl ?_
  refine ix_K_ci kq_Wk_measure i_Wk_measure_19 rfl kci_0 ?_
  refine ix_K_si (L2 := [some (.ref a0), some (.ref a1), some (.int x2), some (.int x3), some (.long v2), none, some (.long (v4 &&& v2)), none, some (.long (v4 &&& v2)), none, some (.int 0)]) kq_Wk_measure i_Wk_measure_20 rfl (Or.inl rfl) (Nat.le_of_ble_eq_true rfl) rfl ?_
  exact ix_D_cut i_Wk_measure_22 rfl
theorem x_Wk_measure {a0 : Nat} {a1 : Nat} {x2 : Int32} {x3 : Int32} {h h1 : ixH} {v : Int32} (hr : ix_rc h a0 = some 6) (hd : ix_D mWk_measure 0 [some (.ref a0), some (.ref a1), some (.int x2), some (.int x3), none, none, none, none, none, none, none] [] h = some ([.int v], h1)) : ix_M mWk_measure [.ref a0, .ref a1, .int x2, .int x3] h = some ([.int v], h1) := ix_M_of (ix_ent_i kq_Wk_measure rfl hr rfl (Nat.le_of_ble_eq_true rfl) rfl) hd (ix_okrI (Or.inl rfl) v)
theorem i_Wk_follow_0 : ix_nx mWk_follow 0 = some (0, .iload_n 2, 1, none, [], 0) := rfl
theorem i_Wk_follow_1 : ix_nx mWk_follow 1 = some (3, .invokestatic 21, 4, none, [3, 1, 116], 0) := rfl
theorem i_Wk_follow_4 : ix_nx mWk_follow 4 = some (0, .lstore 5, 6, none, [], 0) := rfl
theorem i_Wk_follow_6 : ix_nx mWk_follow 6 = some (0, .iload_n 3, 7, none, [], 0) := rfl
theorem i_Wk_follow_7 : ix_nx mWk_follow 7 = some (0, .bipush 64, 9, none, [], 0) := rfl
theorem i_Wk_follow_9 : ix_nx mWk_follow 9 = some (5, .invokestatic 35, 12, none, [9, 119], 0) := rfl
theorem i_Wk_follow_12 : ix_nx mWk_follow 12 = some (0, .iconst 1, 13, none, [], 0) := rfl
theorem i_Wk_follow_13 : ix_nx mWk_follow 13 = some (0, .isub, 14, none, [], 0) := rfl
theorem i_Wk_follow_14 : ix_nx mWk_follow 14 = some (0, .istore 7, 16, none, [], 0) := rfl
theorem i_Wk_follow_16 : ix_nx mWk_follow 16 = some (0, .iload 7, 18, none, [], 0) := rfl
theorem i_Wk_follow_18 : ix_nx mWk_follow 18 = some (0, .istore 8, 20, none, [], 0) := rfl
theorem i_Wk_follow_20 : ix_nx mWk_follow 20 = some (0, .iload 8, 22, some [true, true, false, true, true, true, false, false, true, false, false], [], 0) := rfl
theorem i_Wk_follow_22 : ix_nx mWk_follow 22 = some (0, .ifCond .lt 42, 25, none, [], 0) := rfl
theorem i_Wk_follow_25 : ix_nx mWk_follow 25 = some (0, .iload 8, 27, none, [], 0) := rfl
theorem i_Wk_follow_27 : ix_nx mWk_follow 27 = some (0, .iload_n 3, 28, none, [], 0) := rfl
theorem i_Wk_follow_28 : ix_nx mWk_follow 28 = some (0, .iload 4, 30, none, [], 0) := rfl
theorem i_Wk_follow_30 : ix_nx mWk_follow 30 = some (0, .isub, 31, none, [], 0) := rfl
theorem i_Wk_follow_31 : ix_nx mWk_follow 31 = some (0, .if_icmp .lt 33, 34, none, [], 0) := rfl
theorem i_Wk_follow_34 : ix_nx mWk_follow 34 = some (0, .aload_n 1, 35, none, [], 0) := rfl
theorem i_Wk_follow_35 : ix_nx mWk_follow 35 = some (0, .lload 5, 37, none, [], 0) := rfl
theorem i_Wk_follow_37 : ix_nx mWk_follow 37 = some (3, .invokevirtual 29, 40, none, [0, 67, 118], 0) := rfl
theorem i_Wk_follow_40 : ix_nx mWk_follow 40 = some (0, .aload_n 0, 41, none, [], 0) := rfl
theorem i_Wk_follow_41 : ix_nx mWk_follow 41 = some (1, .getfield 9, 44, none, [6, 0, 2, 52], 0) := rfl
theorem i_Wk_follow_44 : ix_nx mWk_follow 44 = some (0, .iload 8, 46, none, [], 0) := rfl
theorem i_Wk_follow_46 : ix_nx mWk_follow 46 = some (1, .laload, 47, none, [], 0) := rfl
theorem i_Wk_follow_47 : ix_nx mWk_follow 47 = some (0, .land, 48, none, [], 0) := rfl
theorem i_Wk_follow_48 : ix_nx mWk_follow 48 = some (0, .lstore 9, 50, none, [], 0) := rfl
theorem i_Wk_follow_50 : ix_nx mWk_follow 50 = some (0, .lload 9, 52, none, [], 0) := rfl
theorem i_Wk_follow_52 : ix_nx mWk_follow 52 = some (0, .lload 9, 54, none, [], 0) := rfl
theorem i_Wk_follow_54 : ix_nx mWk_follow 54 = some (0, .lneg, 55, none, [], 0) := rfl
theorem i_Wk_follow_55 : ix_nx mWk_follow 55 = some (0, .land, 56, none, [], 0) := rfl
theorem i_Wk_follow_56 : ix_nx mWk_follow 56 = some (0, .lstore 5, 58, none, [], 0) := rfl
theorem i_Wk_follow_58 : ix_nx mWk_follow 58 = some (0, .iinc 8 (-1), 61, none, [], 0) := rfl
theorem i_Wk_follow_61 : ix_nx mWk_follow 61 = some (0, .goto (-41), 64, none, [], 0) := rfl
theorem i_Wk_follow_64 : ix_nx mWk_follow 64 = some (0, .lload 5, 66, none, [], 0) := rfl
theorem i_Wk_follow_66 : ix_nx mWk_follow 66 = some (3, .invokestatic 41, 69, none, [3, 16, 120], 0) := rfl
theorem i_Wk_follow_69 : ix_nx mWk_follow 69 = some (4, .ireturn, 70, none, [], 0) := rfl
noncomputable def l_Wk_follow_20 (a0 : Nat) (a1 : Nat) (x3 : Int32) (x4 : Int32) (x5 : Int64) (x8 : Int32) (h : ixH) : Option (List Value × ixH) := ix_D mWk_follow 20 [some (.ref a0), some (.ref a1), none, some (.int x3), some (.int x4), some (.long x5), none, none, some (.int x8), none, none] [] h
set_option maxRecDepth 20000 in
set_option maxHeartbeats 1000000 in
theorem e_Wk_follow_20 (a0 : Nat) (a1 : Nat) (x3 : Int32) (x4 : Int32) (x5 : Int64) (x8 : Int32) (h : ixH) : l_Wk_follow_20 a0 a1 x3 x4 x5 x8 h = if x8 < 0 then (ix_M mRP_lowest [.long x5] h).bind fun r => ix_kI r fun v2 h1 => some ([.int v2], h1) else if x8 < (x3 - x4) then (ix_M mRP_lowest [.long x5] h).bind fun r => ix_kI r fun v4 h3 => some ([.int v4], h3) else (ix_M mGr_around [.ref a1, .long x5] h).bind fun r => ix_kL r fun v6 h5 => (ix_gr h5 a0 6 0).bind fun v7 => (ix_al h5 v7 x8).bind fun v8 => l_Wk_follow_20 a0 a1 x3 x4 ((v6 &&& v8) &&& (-(v6 &&& v8))) (x8 + (-1)) h5 := by
  unfold l_Wk_follow_20
  refine ix_K_px kq_Wk_follow i_Wk_follow_20 rfl rfl ?_
  refine ix_K_if_lt (tgt := 64) kq_Wk_follow i_Wk_follow_22 rfl (by decide) ?_ ?_
  · refine ix_K_px kq_Wk_follow i_Wk_follow_64 rfl rfl ?_
    refine ix_K_callI (as := [.long x5]) (rest := []) kq_Wk_follow i_Wk_follow_66 rfl kq_RP_lowest (by decide) rfl (Or.inl rfl) (fun v2 h1 => ?_)
    exact ix_D_ret kq_Wk_follow i_Wk_follow_69 (ix_rtI rfl _)
  · refine ix_K_px kq_Wk_follow i_Wk_follow_25 rfl rfl ?_
    refine ix_K_px kq_Wk_follow i_Wk_follow_27 rfl rfl ?_
    refine ix_K_px kq_Wk_follow i_Wk_follow_28 rfl rfl ?_
    refine ix_K_px kq_Wk_follow i_Wk_follow_30 rfl rfl ?_
    refine ix_K_ic_lt (tgt := 64) kq_Wk_follow i_Wk_follow_31 rfl (by decide) ?_ ?_
    · refine ix_K_px kq_Wk_follow i_Wk_follow_64 rfl rfl ?_
      refine ix_K_callI (as := [.long x5]) (rest := []) kq_Wk_follow i_Wk_follow_66 rfl kq_RP_lowest (by decide) rfl (Or.inl rfl) (fun v4 h3 => ?_)
      exact ix_D_ret kq_Wk_follow i_Wk_follow_69 (ix_rtI rfl _)
    · refine ix_K_px kq_Wk_follow i_Wk_follow_34 rfl rfl ?_
      refine ix_K_px kq_Wk_follow i_Wk_follow_35 rfl rfl ?_
      refine ix_K_callL (as := [.ref a1, .long x5]) (rest := []) kq_Wk_follow i_Wk_follow_37 rfl kq_Gr_around (by decide) rfl rfl (fun v6 h5 => ?_)
      refine ix_K_px kq_Wk_follow i_Wk_follow_40 rfl rfl ?_
      refine ix_K_gr kq_Wk_follow i_Wk_follow_41 rfl (fun v7 => ?_)
      refine ix_K_px kq_Wk_follow i_Wk_follow_44 rfl rfl ?_
      refine ix_K_al kq_Wk_follow i_Wk_follow_46 rfl (fun v8 => ?_)
      refine ix_K_px kq_Wk_follow i_Wk_follow_47 rfl rfl ?_
      refine ix_K_sl (L2 := [some (.ref a0), some (.ref a1), none, some (.int x3), some (.int x4), some (.long x5), none, none, some (.int x8), some (.long (v6 &&& v8)), none]) kq_Wk_follow i_Wk_follow_48 rfl (Or.inl rfl) (Nat.le_of_ble_eq_true rfl) rfl ?_
      refine ix_K_px kq_Wk_follow i_Wk_follow_50 rfl rfl ?_
      refine ix_K_px kq_Wk_follow i_Wk_follow_52 rfl rfl ?_
      refine ix_K_px kq_Wk_follow i_Wk_follow_54 rfl rfl ?_
      refine ix_K_px kq_Wk_follow i_Wk_follow_55 rfl rfl ?_
      refine ix_K_sl (L2 := [some (.ref a0), some (.ref a1), none, some (.int x3), some (.int x4), some (.long ((v6 &&& v8) &&& (-(v6 &&& v8)))), none, none, some (.int x8), some (.long (v6 &&& v8)), none]) kq_Wk_follow i_Wk_follow_56 rfl (Or.inl rfl) (Nat.le_of_ble_eq_true rfl) rfl ?_
      refine ix_K_inc (L2 := [some (.ref a0), some (.ref a1), none, some (.int x3), some (.int x4), some (.long ((v6 &&& v8) &&& (-(v6 &&& v8)))), none, none, some (.int (x8 + (-1))), some (.long (v6 &&& v8)), none]) kq_Wk_follow i_Wk_follow_58 rfl rfl (Nat.le_of_ble_eq_true rfl) kci_m1 rfl ?_
      refine ix_K_goto (tgt := 20) kq_Wk_follow i_Wk_follow_61 rfl (by decide) ?_
      exact ix_D_cut i_Wk_follow_20 rfl
set_option maxRecDepth 20000 in
set_option maxHeartbeats 1000000 in
theorem e_Wk_follow (a0 : Nat) (a1 : Nat) (x2 : Int32) (x3 : Int32) (x4 : Int32) (h : ixH) : ix_D mWk_follow 0 [some (.ref a0), some (.ref a1), some (.int x2), some (.int x3), some (.int x4), none, none, none, none, none, none] [] h = (ix_M mRP_bit [.int x2] h).bind fun r => ix_kL r fun v2 h1 => l_Wk_follow_20 a0 a1 x3 x4 v2 ((ix_mn x3 64) - 1) h1 := by
  refine ix_K_px kq_Wk_follow i_Wk_follow_0 rfl rfl ?_
  refine ix_K_callL (as := [.int x2]) (rest := []) kq_Wk_follow i_Wk_follow_1 rfl kq_RP_bit (by decide) rfl rfl (fun v2 h1 => ?_)
  refine ix_K_sl (L2 := [some (.ref a0), some (.ref a1), some (.int x2), some (.int x3), some (.int x4), some (.long v2), none, none, none, none, none]) kq_Wk_follow i_Wk_follow_4 rfl (Or.inl rfl) (Nat.le_of_ble_eq_true rfl) rfl ?_
  refine ix_K_px kq_Wk_follow i_Wk_follow_6 rfl rfl ?_
  refine ix_K_cb kq_Wk_follow i_Wk_follow_7 rfl kcb_64 ?_
  refine ix_K_min kq_Wk_follow i_Wk_follow_9 rfl (Nat.le_of_ble_eq_true rfl) ?_
  refine ix_K_ci kq_Wk_follow i_Wk_follow_12 rfl kci_1 ?_
  refine ix_K_px kq_Wk_follow i_Wk_follow_13 rfl rfl ?_
  refine ix_K_si (L2 := [some (.ref a0), some (.ref a1), some (.int x2), some (.int x3), some (.int x4), some (.long v2), none, some (.int ((ix_mn x3 64) - 1)), none, none, none]) kq_Wk_follow i_Wk_follow_14 rfl (Or.inl rfl) (Nat.le_of_ble_eq_true rfl) rfl ?_
  refine ix_K_px kq_Wk_follow i_Wk_follow_16 rfl rfl ?_
  refine ix_K_si (L2 := [some (.ref a0), some (.ref a1), some (.int x2), some (.int x3), some (.int x4), some (.long v2), none, some (.int ((ix_mn x3 64) - 1)), some (.int ((ix_mn x3 64) - 1)), none, none]) kq_Wk_follow i_Wk_follow_18 rfl (Or.inl rfl) (Nat.le_of_ble_eq_true rfl) rfl ?_
  exact ix_D_cut i_Wk_follow_20 rfl
theorem x_Wk_follow {a0 : Nat} {a1 : Nat} {x2 : Int32} {x3 : Int32} {x4 : Int32} {h h1 : ixH} {v : Int32} (hr : ix_rc h a0 = some 6) (hd : ix_D mWk_follow 0 [some (.ref a0), some (.ref a1), some (.int x2), some (.int x3), some (.int x4), none, none, none, none, none, none] [] h = some ([.int v], h1)) : ix_M mWk_follow [.ref a0, .ref a1, .int x2, .int x3, .int x4] h = some ([.int v], h1) := ix_M_of (ix_ent_i kq_Wk_follow rfl hr rfl (Nat.le_of_ble_eq_true rfl) rfl) hd (ix_okrI (Or.inl rfl) v)
