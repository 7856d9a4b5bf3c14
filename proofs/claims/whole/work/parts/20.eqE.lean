/-! PRINTED by wip/whole/gen6.py -/
theorem i_RP_init_0 : ix_nx mRP_init 0 = some (0, .aload_n 0, 1, none, [], 0) := rfl
theorem i_RP_init_1 : ix_nx mRP_init 1 = some (3, .invokespecial 1, 4, none, [6, 0, 0], 0) := rfl
theorem i_RP_init_4 : ix_nx mRP_init 4 = some (0, .aload_n 0, 5, none, [], 0) := rfl
theorem i_RP_init_5 : ix_nx mRP_init 5 = some (2, .new 7, 8, none, [1, 1], 0) := rfl
theorem i_RP_init_8 : ix_nx mRP_init 8 = some (0, .dup, 9, none, [], 0) := rfl
theorem i_RP_init_9 : ix_nx mRP_init 9 = some (3, .invokespecial 9, 12, none, [4, 55, 1], 0) := rfl
theorem i_RP_init_12 : ix_nx mRP_init 12 = some (2, .putfield 10, 15, none, [0, 0, 2, 71], 0) := rfl
theorem i_RP_init_15 : ix_nx mRP_init 15 = some (0, .aload_n 0, 16, none, [], 0) := rfl
theorem i_RP_init_16 : ix_nx mRP_init 16 = some (0, .iconst 2, 17, none, [], 0) := rfl
theorem i_RP_init_17 : ix_nx mRP_init 17 = some (2, .anewarray 7, 20, none, [5, 1], 0) := rfl
theorem i_RP_init_20 : ix_nx mRP_init 20 = some (0, .dup, 21, none, [], 0) := rfl
theorem i_RP_init_21 : ix_nx mRP_init 21 = some (0, .iconst 0, 22, none, [], 0) := rfl
theorem i_RP_init_22 : ix_nx mRP_init 22 = some (2, .new 7, 25, none, [1, 1], 0) := rfl
theorem i_RP_init_25 : ix_nx mRP_init 25 = some (0, .dup, 26, none, [], 0) := rfl
theorem i_RP_init_26 : ix_nx mRP_init 26 = some (3, .invokespecial 9, 29, none, [4, 55, 1], 0) := rfl
theorem i_RP_init_29 : ix_nx mRP_init 29 = some (2, .aastore, 30, none, [5], 0) := rfl
theorem i_RP_init_30 : ix_nx mRP_init 30 = some (0, .dup, 31, none, [], 0) := rfl
theorem i_RP_init_31 : ix_nx mRP_init 31 = some (0, .iconst 1, 32, none, [], 0) := rfl
theorem i_RP_init_32 : ix_nx mRP_init 32 = some (2, .new 7, 35, none, [1, 1], 0) := rfl
theorem i_RP_init_35 : ix_nx mRP_init 35 = some (0, .dup, 36, none, [], 0) := rfl
theorem i_RP_init_36 : ix_nx mRP_init 36 = some (3, .invokespecial 9, 39, none, [4, 55, 1], 0) := rfl
theorem i_RP_init_39 : ix_nx mRP_init 39 = some (2, .aastore, 40, none, [5], 0) := rfl
theorem i_RP_init_40 : ix_nx mRP_init 40 = some (2, .putfield 16, 43, none, [0, 1, 2, 72], 0) := rfl
theorem i_RP_init_43 : ix_nx mRP_init 43 = some (0, .aload_n 0, 44, none, [], 0) := rfl
theorem i_RP_init_44 : ix_nx mRP_init 44 = some (0, .iconst 2, 45, none, [], 0) := rfl
theorem i_RP_init_45 : ix_nx mRP_init 45 = some (2, .newarray .boolean, 47, none, [], 0) := rfl
theorem i_RP_init_47 : ix_nx mRP_init 47 = some (2, .putfield 20, 50, none, [0, 2, 2, 73], 0) := rfl
theorem i_RP_init_50 : ix_nx mRP_init 50 = some (0, .aload_n 0, 51, none, [], 0) := rfl
theorem i_RP_init_51 : ix_nx mRP_init 51 = some (2, .new 24, 54, none, [4, 4], 0) := rfl
theorem i_RP_init_54 : ix_nx mRP_init 54 = some (0, .dup, 55, none, [], 0) := rfl
theorem i_RP_init_55 : ix_nx mRP_init 55 = some (3, .invokespecial 26, 58, none, [4, 89, 2], 0) := rfl
theorem i_RP_init_58 : ix_nx mRP_init 58 = some (2, .putfield 27, 61, none, [0, 3, 2, 74], 0) := rfl
theorem i_RP_init_61 : ix_nx mRP_init 61 = some (0, .aload_n 0, 62, none, [], 0) := rfl
theorem i_RP_init_62 : ix_nx mRP_init 62 = some (2, .new 31, 65, none, [5, 5], 0) := rfl
theorem i_RP_init_65 : ix_nx mRP_init 65 = some (0, .dup, 66, none, [], 0) := rfl
theorem i_RP_init_66 : ix_nx mRP_init 66 = some (3, .invokespecial 33, 69, none, [4, 99, 3], 0) := rfl
theorem i_RP_init_69 : ix_nx mRP_init 69 = some (2, .putfield 34, 72, none, [0, 4, 2, 75], 0) := rfl
theorem i_RP_init_72 : ix_nx mRP_init 72 = some (0, .aload_n 0, 73, none, [], 0) := rfl
theorem i_RP_init_73 : ix_nx mRP_init 73 = some (2, .new 38, 76, none, [6, 6], 0) := rfl
theorem i_RP_init_76 : ix_nx mRP_init 76 = some (0, .dup, 77, none, [], 0) := rfl
theorem i_RP_init_77 : ix_nx mRP_init 77 = some (3, .invokespecial 40, 80, none, [4, 104, 4], 0) := rfl
theorem i_RP_init_80 : ix_nx mRP_init 80 = some (2, .putfield 41, 83, none, [0, 5, 2, 76], 0) := rfl
theorem i_RP_init_83 : ix_nx mRP_init 83 = some (0, .aload_n 0, 84, none, [], 0) := rfl
theorem i_RP_init_84 : ix_nx mRP_init 84 = some (2, .new 45, 87, none, [7, 7], 0) := rfl
theorem i_RP_init_87 : ix_nx mRP_init 87 = some (0, .dup, 88, none, [], 0) := rfl
theorem i_RP_init_88 : ix_nx mRP_init 88 = some (3, .invokespecial 47, 91, none, [4, 107, 5], 0) := rfl
theorem i_RP_init_91 : ix_nx mRP_init 91 = some (2, .putfield 48, 94, none, [0, 6, 2, 77], 0) := rfl
theorem i_RP_init_94 : ix_nx mRP_init 94 = some (0, .aload_n 0, 95, none, [], 0) := rfl
theorem i_RP_init_95 : ix_nx mRP_init 95 = some (2, .new 52, 98, none, [8, 8], 0) := rfl
theorem i_RP_init_98 : ix_nx mRP_init 98 = some (0, .dup, 99, none, [], 0) := rfl
theorem i_RP_init_99 : ix_nx mRP_init 99 = some (3, .invokespecial 54, 102, none, [4, 117, 6], 0) := rfl
theorem i_RP_init_102 : ix_nx mRP_init 102 = some (2, .putfield 55, 105, none, [0, 7, 2, 78], 0) := rfl
theorem i_RP_init_105 : ix_nx mRP_init 105 = some (0, .aload_n 0, 106, none, [], 0) := rfl
theorem i_RP_init_106 : ix_nx mRP_init 106 = some (2, .new 59, 109, none, [3, 9], 0) := rfl
theorem i_RP_init_109 : ix_nx mRP_init 109 = some (0, .dup, 110, none, [], 0) := rfl
theorem i_RP_init_110 : ix_nx mRP_init 110 = some (3, .invokespecial 61, 113, none, [4, 79, 7], 0) := rfl
theorem i_RP_init_113 : ix_nx mRP_init 113 = some (2, .putfield 62, 116, none, [0, 8, 2, 79], 0) := rfl
theorem i_RP_init_116 : ix_nx mRP_init 116 = some (0, .aload_n 0, 117, none, [], 0) := rfl
theorem i_RP_init_117 : ix_nx mRP_init 117 = some (0, .aconst_null, 118, none, [], 0) := rfl
theorem i_RP_init_118 : ix_nx mRP_init 118 = some (2, .putfield 66, 121, none, [0, 9, 3, 80], 0) := rfl
theorem i_RP_init_121 : ix_nx mRP_init 121 = some (0, .aload_n 0, 122, none, [], 0) := rfl
theorem i_RP_init_122 : ix_nx mRP_init 122 = some (1, .getfield 10, 125, none, [0, 0, 2, 71], 0) := rfl
theorem i_RP_init_125 : ix_nx mRP_init 125 = some (0, .bipush 6, 127, none, [], 0) := rfl
theorem i_RP_init_127 : ix_nx mRP_init 127 = some (0, .bipush 6, 129, none, [], 0) := rfl
theorem i_RP_init_129 : ix_nx mRP_init 129 = some (3, .invokevirtual 70, 132, none, [0, 56, 8], 0) := rfl
theorem i_RP_init_132 : ix_nx mRP_init 132 = some (4, .return_, 133, none, [], 0) := rfl
set_option maxRecDepth 20000 in
set_option maxHeartbeats 1000000 in
theorem e_RP_init (a0 : Nat) (h : ixH) : ix_D mRP_init 0 [some (.ref a0)] [] h = (ix_M mBd_init [.ref h.1] (ix_nw h (.inr (1, ix_df 1)) (ix_N 1))).bind fun r => ix_kV r fun h1 => (ix_pf h1 a0 0 0 (.ref h.1)).bind fun h2 => (ix_M mBd_init [.ref (ix_nw h2 (.inl (5, 2, .inr (.inr (.inr (.inr fun _ => none))))) 2).1] (ix_nw (ix_nw h2 (.inl (5, 2, .inr (.inr (.inr (.inr fun _ => none))))) 2) (.inr (1, ix_df 1)) (ix_N 1))).bind fun r => ix_kV r fun h3 => (ix_sq h3 5 h2.1 0 (ix_nw h2 (.inl (5, 2, .inr (.inr (.inr (.inr fun _ => none))))) 2).1).bind fun h4 => (ix_M mBd_init [.ref h4.1] (ix_nw h4 (.inr (1, ix_df 1)) (ix_N 1))).bind fun r => ix_kV r fun h5 => (ix_sq h5 5 h2.1 1 h4.1).bind fun h6 => (ix_pf h6 a0 0 1 (.ref h2.1)).bind fun h7 => (ix_pf (ix_nw h7 (.inl (2, 2, .inl fun _ => 0)) 2) a0 0 2 (.ref h7.1)).bind fun h8 => (ix_M mPa_init [.ref h8.1] (ix_nw h8 (.inr (4, ix_df 4)) (ix_N 4))).bind fun r => ix_kV r fun h9 => (ix_pf h9 a0 0 3 (.ref h8.1)).bind fun h10 => (ix_M mDe_init [.ref h10.1] (ix_nw h10 (.inr (5, ix_df 5)) (ix_N 5))).bind fun r => ix_kV r fun h11 => (ix_pf h11 a0 0 4 (.ref h10.1)).bind fun h12 => (ix_M mWk_init [.ref h12.1] (ix_nw h12 (.inr (6, ix_df 6)) (ix_N 6))).bind fun r => ix_kV r fun h13 => (ix_pf h13 a0 0 5 (.ref h12.1)).bind fun h14 => (ix_M mSm_init [.ref h14.1] (ix_nw h14 (.inr (7, ix_df 7)) (ix_N 7))).bind fun r => ix_kV r fun h15 => (ix_pf h15 a0 0 6 (.ref h14.1)).bind fun h16 => (ix_M mCh_init [.ref h16.1] (ix_nw h16 (.inr (8, ix_df 8)) (ix_N 8))).bind fun r => ix_kV r fun h17 => (ix_pf h17 a0 0 7 (.ref h16.1)).bind fun h18 => (ix_M mRt_init [.ref h18.1] (ix_nw h18 (.inr (3, ix_df 3)) (ix_N 3))).bind fun r => ix_kV r fun h19 => (ix_pf h19 a0 0 8 (.ref h18.1)).bind fun h20 => (ix_pf h20 a0 0 9 (.null)).bind fun h21 => (ix_gr h21 a0 0 0).bind fun v22 => (ix_M mBd_begin [.ref v22, .int 6, .int 6] h21).bind fun r => ix_kV r fun h23 => some ([], h23) := by
  refine ix_K_px kq_RP_init i_RP_init_0 rfl rfl ?_
  refine ix_K_obj kq_RP_init i_RP_init_1 rfl (Nat.le_of_ble_eq_true rfl) ?_
  refine ix_K_px kq_RP_init i_RP_init_4 rfl rfl ?_
  refine ix_K_nw kq_RP_init i_RP_init_5 rfl rfl ?_
  refine ix_K_px kq_RP_init i_RP_init_8 rfl rfl ?_
  refine ix_K_callV (as := [.ref h.1]) (rest := [.ref h.1, .ref a0]) kq_RP_init i_RP_init_9 rfl kq_Bd_init (by decide) rfl rfl (fun h1 => ?_)
  refine ix_K_pf kq_RP_init i_RP_init_12 rfl rfl (fun h2 => ?_)
  refine ix_K_px kq_RP_init i_RP_init_15 rfl rfl ?_
  refine ix_K_ci kq_RP_init i_RP_init_16 rfl kci_2 ?_
  refine ix_K_naQ kq_RP_init i_RP_init_17 rfl kna_2 knb_2 (by decide) ?_
  refine ix_K_px kq_RP_init i_RP_init_20 rfl rfl ?_
  refine ix_K_ci kq_RP_init i_RP_init_21 rfl kci_0 ?_
  refine ix_K_nw kq_RP_init i_RP_init_22 rfl rfl ?_
  refine ix_K_px kq_RP_init i_RP_init_25 rfl rfl ?_
  refine ix_K_callV (as := [.ref (ix_nw h2 (.inl (5, 2, .inr (.inr (.inr (.inr fun _ => none))))) 2).1]) (rest := [.ref (ix_nw h2 (.inl (5, 2, .inr (.inr (.inr (.inr fun _ => none))))) 2).1, .int 0, .ref h2.1, .ref h2.1, .ref a0]) kq_RP_init i_RP_init_26 rfl kq_Bd_init (by decide) rfl rfl (fun h3 => ?_)
  refine ix_K_tq kq_RP_init i_RP_init_29 rfl (fun h4 => ?_)
  refine ix_K_px kq_RP_init i_RP_init_30 rfl rfl ?_
  refine ix_K_ci kq_RP_init i_RP_init_31 rfl kci_1 ?_
  refine ix_K_nw kq_RP_init i_RP_init_32 rfl rfl ?_
  refine ix_K_px kq_RP_init i_RP_init_35 rfl rfl ?_
  refine ix_K_callV (as := [.ref h4.1]) (rest := [.ref h4.1, .int 1, .ref h2.1, .ref h2.1, .ref a0]) kq_RP_init i_RP_init_36 rfl kq_Bd_init (by decide) rfl rfl (fun h5 => ?_)
  refine ix_K_tq kq_RP_init i_RP_init_39 rfl (fun h6 => ?_)
  refine ix_K_pf kq_RP_init i_RP_init_40 rfl rfl (fun h7 => ?_)
  refine ix_K_px kq_RP_init i_RP_init_43 rfl rfl ?_
  refine ix_K_ci kq_RP_init i_RP_init_44 rfl kci_2 ?_
  refine ix_K_naZ kq_RP_init i_RP_init_45 rfl kna_2 knb_2 (by decide) ?_
  refine ix_K_pf kq_RP_init i_RP_init_47 rfl rfl (fun h8 => ?_)
  refine ix_K_px kq_RP_init i_RP_init_50 rfl rfl ?_
  refine ix_K_nw kq_RP_init i_RP_init_51 rfl rfl ?_
  refine ix_K_px kq_RP_init i_RP_init_54 rfl rfl ?_
  refine ix_K_callV (as := [.ref h8.1]) (rest := [.ref h8.1, .ref a0]) kq_RP_init i_RP_init_55 rfl kq_Pa_init (by decide) rfl rfl (fun h9 => ?_)
  refine ix_K_pf kq_RP_init i_RP_init_58 rfl rfl (fun h10 => ?_)
  refine ix_K_px kq_RP_init i_RP_init_61 rfl rfl ?_
  refine ix_K_nw kq_RP_init i_RP_init_62 rfl rfl ?_
  refine ix_K_px kq_RP_init i_RP_init_65 rfl rfl ?_
  refine ix_K_callV (as := [.ref h10.1]) (rest := [.ref h10.1, .ref a0]) kq_RP_init i_RP_init_66 rfl kq_De_init (by decide) rfl rfl (fun h11 => ?_)
  refine ix_K_pf kq_RP_init i_RP_init_69 rfl rfl (fun h12 => ?_)
  refine ix_K_px kq_RP_init i_RP_init_72 rfl rfl ?_
  refine ix_K_nw kq_RP_init i_RP_init_73 rfl rfl ?_
  refine ix_K_px kq_RP_init i_RP_init_76 rfl rfl ?_
  refine ix_K_callV (as := [.ref h12.1]) (rest := [.ref h12.1, .ref a0]) kq_RP_init i_RP_init_77 rfl kq_Wk_init (by decide) rfl rfl (fun h13 => ?_)
  refine ix_K_pf kq_RP_init i_RP_init_80 rfl rfl (fun h14 => ?_)
  refine ix_K_px kq_RP_init i_RP_init_83 rfl rfl ?_
  refine ix_K_nw kq_RP_init i_RP_init_84 rfl rfl ?_
  refine ix_K_px kq_RP_init i_RP_init_87 rfl rfl ?_
  refine ix_K_callV (as := [.ref h14.1]) (rest := [.ref h14.1, .ref a0]) kq_RP_init i_RP_init_88 rfl kq_Sm_init (by decide) rfl rfl (fun h15 => ?_)
  refine ix_K_pf kq_RP_init i_RP_init_91 rfl rfl (fun h16 => ?_)
  refine ix_K_px kq_RP_init i_RP_init_94 rfl rfl ?_
  refine ix_K_nw kq_RP_init i_RP_init_95 rfl rfl ?_
  refine ix_K_px kq_RP_init i_RP_init_98 rfl rfl ?_
  refine ix_K_callV (as := [.ref h16.1]) (rest := [.ref h16.1, .ref a0]) kq_RP_init i_RP_init_99 rfl kq_Ch_init (by decide) rfl rfl (fun h17 => ?_)
  refine ix_K_pf kq_RP_init i_RP_init_102 rfl rfl (fun h18 => ?_)
  refine ix_K_px kq_RP_init i_RP_init_105 rfl rfl ?_
  refine ix_K_nw kq_RP_init i_RP_init_106 rfl rfl ?_
  refine ix_K_px kq_RP_init i_RP_init_109 rfl rfl ?_
  refine ix_K_callV (as := [.ref h18.1]) (rest := [.ref h18.1, .ref a0]) kq_RP_init i_RP_init_110 rfl kq_Rt_init (by decide) rfl rfl (fun h19 => ?_)
  refine ix_K_pf kq_RP_init i_RP_init_113 rfl rfl (fun h20 => ?_)
  refine ix_K_px kq_RP_init i_RP_init_116 rfl rfl ?_
  refine ix_K_px kq_RP_init i_RP_init_117 rfl rfl ?_
  refine ix_K_pf kq_RP_init i_RP_init_118 rfl rfl (fun h21 => ?_)
  refine ix_K_px kq_RP_init i_RP_init_121 rfl rfl ?_
  refine ix_K_gr kq_RP_init i_RP_init_122 rfl (fun v22 => ?_)
  refine ix_K_cb kq_RP_init i_RP_init_125 rfl kcb_6 ?_
  refine ix_K_cb kq_RP_init i_RP_init_127 rfl kcb_6 ?_
  refine ix_K_callV (as := [.ref v22, .int 6, .int 6]) (rest := []) kq_RP_init i_RP_init_129 rfl kq_Bd_begin (by decide) rfl rfl (fun h23 => ?_)
  exact ix_D_ret kq_RP_init i_RP_init_132 (ix_rtV rfl)
theorem x_RP_init {a0 : Nat} {h h1 : ixH} (hd : ix_D mRP_init 0 [some (.ref a0)] [] h = some ([], h1)) : ix_M mRP_init [.ref a0] h = some ([], h1) := ix_M_of (ix_ent_c kq_RP_init rfl rfl (Nat.le_of_ble_eq_true rfl) rfl) hd (ix_okrV rfl)
theorem i_RP_bit_0 : ix_nx mRP_bit 0 = some (0, .lconst 1, 1, none, [], 0) := rfl
theorem i_RP_bit_1 : ix_nx mRP_bit 1 = some (0, .iload_n 0, 2, none, [], 0) := rfl
theorem i_RP_bit_2 : ix_nx mRP_bit 2 = some (0, .lshl, 3, none, [], 0) := rfl
theorem i_RP_bit_3 : ix_nx mRP_bit 3 = some (4, .lreturn, 4, none, [], 0) := rfl
set_option maxRecDepth 20000 in
set_option maxHeartbeats 1000000 in
theorem e_RP_bit (x0 : Int32) (h : ixH) : ix_D mRP_bit 0 [some (.int x0)] [] h = some ([.long (ix_shl 1 x0)], h) := by
  refine ix_K_cl kq_RP_bit i_RP_bit_0 rfl kcl_1 ?_
  refine ix_K_px kq_RP_bit i_RP_bit_1 rfl rfl ?_
  refine ix_K_px kq_RP_bit i_RP_bit_2 rfl rfl ?_
  exact ix_D_ret kq_RP_bit i_RP_bit_3 (ix_rtL rfl _)
theorem x_RP_bit {x0 : Int32} {h h1 : ixH} {v : Int64} (hd : ix_D mRP_bit 0 [some (.int x0)] [] h = some ([.long v], h1)) : ix_M mRP_bit [.int x0] h = some ([.long v], h1) := ix_M_of (ix_ent_s kq_RP_bit rfl rfl (Nat.le_of_ble_eq_true rfl) rfl) hd (ix_okrL rfl v)
theorem i_RP_setUp_0 : ix_nx mRP_setUp 0 = some (0, .iload_n 1, 1, none, [], 0) := rfl
theorem i_RP_setUp_1 : ix_nx mRP_setUp 1 = some (3, .invokestatic 74, 4, none, [1, 3, 9], 0) := rfl
theorem i_RP_setUp_4 : ix_nx mRP_setUp 4 = some (0, .ifCond .eq 10, 7, none, [], 0) := rfl
theorem i_RP_setUp_7 : ix_nx mRP_setUp 7 = some (0, .iload_n 2, 8, none, [], 0) := rfl
theorem i_RP_setUp_8 : ix_nx mRP_setUp 8 = some (3, .invokestatic 74, 11, none, [1, 3, 9], 0) := rfl
theorem i_RP_setUp_11 : ix_nx mRP_setUp 11 = some (0, .ifCond .ne 6, 14, none, [], 0) := rfl
theorem i_RP_setUp_14 : ix_nx mRP_setUp 14 = some (0, .bipush (-2), 16, none, [], 0) := rfl
theorem i_RP_setUp_16 : ix_nx mRP_setUp 16 = some (4, .ireturn, 17, none, [], 0) := rfl
theorem i_RP_setUp_17 : ix_nx mRP_setUp 17 = some (0, .aload_n 0, 18, none, [], 0) := rfl
theorem i_RP_setUp_18 : ix_nx mRP_setUp 18 = some (1, .getfield 10, 21, none, [0, 0, 2, 71], 0) := rfl
theorem i_RP_setUp_21 : ix_nx mRP_setUp 21 = some (0, .iload_n 1, 22, none, [], 0) := rfl
theorem i_RP_setUp_22 : ix_nx mRP_setUp 22 = some (0, .iload_n 2, 23, none, [], 0) := rfl
theorem i_RP_setUp_23 : ix_nx mRP_setUp 23 = some (3, .invokevirtual 70, 26, none, [0, 56, 8], 0) := rfl
theorem i_RP_setUp_26 : ix_nx mRP_setUp 26 = some (0, .aload_n 0, 27, none, [], 0) := rfl
theorem i_RP_setUp_27 : ix_nx mRP_setUp 27 = some (1, .getfield 10, 30, none, [0, 0, 2, 71], 0) := rfl
theorem i_RP_setUp_30 : ix_nx mRP_setUp 30 = some (1, .getfield 78, 33, none, [1, 0, 2, 31], 0) := rfl
theorem i_RP_setUp_33 : ix_nx mRP_setUp 33 = some (3, .invokevirtual 82, 36, none, [0, 62, 10], 0) := rfl
theorem i_RP_setUp_36 : ix_nx mRP_setUp 36 = some (4, .ireturn, 37, none, [], 0) := rfl
set_option maxRecDepth 20000 in
set_option maxHeartbeats 1000000 in
theorem e_RP_setUp (a0 : Nat) (x1 : Int32) (x2 : Int32) (h : ixH) : ix_D mRP_setUp 0 [some (.ref a0), some (.int x1), some (.int x2)] [] h = (ix_M mRP_isSide [.int x1] h).bind fun r => ix_kZ r fun v2 h1 => if v2 = true then (ix_M mRP_isSide [.int x2] h1).bind fun r => ix_kZ r fun v4 h3 => if v4 = true then (ix_gr h3 a0 0 0).bind fun v5 => (ix_M mBd_begin [.ref v5, .int x1, .int x2] h3).bind fun r => ix_kV r fun h6 => (ix_gr h6 a0 0 0).bind fun v7 => (ix_gr h6 v7 1 0).bind fun v8 => (ix_M mGr_size [.ref v8] h6).bind fun r => ix_kI r fun v10 h9 => some ([.int v10], h9) else some ([.int (-2)], h3) else some ([.int (-2)], h1) := by
  refine ix_K_px kq_RP_setUp i_RP_setUp_0 rfl rfl ?_
  refine ix_K_callZ (as := [.int x1]) (rest := []) kq_RP_setUp i_RP_setUp_1 rfl kq_RP_isSide (by decide) rfl rfl (fun v2 h1 => ?_)
  refine ix_K_bz_eq (tgt := 14) kq_RP_setUp i_RP_setUp_4 rfl (by decide) ?_ ?_
  · refine ix_K_px kq_RP_setUp i_RP_setUp_7 rfl rfl ?_
    refine ix_K_callZ (as := [.int x2]) (rest := []) kq_RP_setUp i_RP_setUp_8 rfl kq_RP_isSide (by decide) rfl rfl (fun v4 h3 => ?_)
    refine ix_K_bz_ne (tgt := 17) kq_RP_setUp i_RP_setUp_11 rfl (by decide) ?_ ?_
    · refine ix_K_px kq_RP_setUp i_RP_setUp_17 rfl rfl ?_
      refine ix_K_gr kq_RP_setUp i_RP_setUp_18 rfl (fun v5 => ?_)
      refine ix_K_px kq_RP_setUp i_RP_setUp_21 rfl rfl ?_
      refine ix_K_px kq_RP_setUp i_RP_setUp_22 rfl rfl ?_
      refine ix_K_callV (as := [.ref v5, .int x1, .int x2]) (rest := []) kq_RP_setUp i_RP_setUp_23 rfl kq_Bd_begin (by decide) rfl rfl (fun h6 => ?_)
      refine ix_K_px kq_RP_setUp i_RP_setUp_26 rfl rfl ?_
      refine ix_K_gr kq_RP_setUp i_RP_setUp_27 rfl (fun v7 => ?_)
      refine ix_K_gr kq_RP_setUp i_RP_setUp_30 rfl (fun v8 => ?_)
      refine ix_K_callI (as := [.ref v8]) (rest := []) kq_RP_setUp i_RP_setUp_33 rfl kq_Gr_size (by decide) rfl (Or.inl rfl) (fun v10 h9 => ?_)
      exact ix_D_ret kq_RP_setUp i_RP_setUp_36 (ix_rtI rfl _)
    · refine ix_K_cb kq_RP_setUp i_RP_setUp_14 rfl kcb_m2 ?_
      exact ix_D_ret kq_RP_setUp i_RP_setUp_16 (ix_rtI rfl _)
  · refine ix_K_cb kq_RP_setUp i_RP_setUp_14 rfl kcb_m2 ?_
    exact ix_D_ret kq_RP_setUp i_RP_setUp_16 (ix_rtI rfl _)
theorem x_RP_setUp {a0 : Nat} {x1 : Int32} {x2 : Int32} {h h1 : ixH} {v : Int32} (hr : ix_rc h a0 = some 0) (hd : ix_D mRP_setUp 0 [some (.ref a0), some (.int x1), some (.int x2)] [] h = some ([.int v], h1)) : ix_M mRP_setUp [.ref a0, .int x1, .int x2] h = some ([.int v], h1) := ix_M_of (ix_ent_i kq_RP_setUp rfl hr rfl (Nat.le_of_ble_eq_true rfl) rfl) hd (ix_okrI (Or.inl rfl) v)
theorem i_RP_isSide_0 : ix_nx mRP_isSide 0 = some (0, .iload_n 0, 1, none, [], 0) := rfl
theorem i_RP_isSide_1 : ix_nx mRP_isSide 1 = some (0, .iconst 2, 2, none, [], 0) := rfl
theorem i_RP_isSide_2 : ix_nx mRP_isSide 2 = some (0, .if_icmp .lt 13, 5, none, [], 0) := rfl
theorem i_RP_isSide_5 : ix_nx mRP_isSide 5 = some (0, .iload_n 0, 6, none, [], 0) := rfl
theorem i_RP_isSide_6 : ix_nx mRP_isSide 6 = some (0, .bipush 8, 8, none, [], 0) := rfl
theorem i_RP_isSide_8 : ix_nx mRP_isSide 8 = some (0, .if_icmp .gt 7, 11, none, [], 0) := rfl
theorem i_RP_isSide_11 : ix_nx mRP_isSide 11 = some (0, .iconst 1, 12, none, [], 0) := rfl
theorem i_RP_isSide_12 : ix_nx mRP_isSide 12 = some (0, .goto 4, 15, none, [], 0) := rfl
theorem i_RP_isSide_15 : ix_nx mRP_isSide 15 = some (0, .iconst 0, 16, none, [], 0) := rfl
theorem i_RP_isSide_16 : ix_nx mRP_isSide 16 = some (4, .ireturn, 17, none, [], 0) := rfl
set_option maxRecDepth 20000 in
set_option maxHeartbeats 1000000 in
theorem e_RP_isSide (x0 : Int32) (h : ixH) : ix_D mRP_isSide 0 [some (.int x0)] [] h = if x0 < 2 then some ([.int (ix_bi false)], h) else if 8 < x0 then some ([.int (ix_bi false)], h) else some ([.int (ix_bi true)], h) := by
  refine ix_K_px kq_RP_isSide i_RP_isSide_0 rfl rfl ?_
  refine ix_K_ci kq_RP_isSide i_RP_isSide_1 rfl kci_2 ?_
  refine ix_K_ic_lt (tgt := 15) kq_RP_isSide i_RP_isSide_2 rfl (by decide) ?_ ?_
  · refine ix_K_ci kq_RP_isSide i_RP_isSide_15 rfl kci_0 ?_
    exact ix_D_ret kq_RP_isSide i_RP_isSide_16 (ix_rtZ rfl false)
  · refine ix_K_px kq_RP_isSide i_RP_isSide_5 rfl rfl ?_
    refine ix_K_cb kq_RP_isSide i_RP_isSide_6 rfl kcb_8 ?_
    refine ix_K_ic_gt (tgt := 15) kq_RP_isSide i_RP_isSide_8 rfl (by decide) ?_ ?_
    · refine ix_K_ci kq_RP_isSide i_RP_isSide_15 rfl kci_0 ?_
      exact ix_D_ret kq_RP_isSide i_RP_isSide_16 (ix_rtZ rfl false)
    · refine ix_K_ci kq_RP_isSide i_RP_isSide_11 rfl kci_1 ?_
      refine ix_K_goto (tgt := 16) kq_RP_isSide i_RP_isSide_12 rfl (by decide) ?_
      exact ix_D_ret kq_RP_isSide i_RP_isSide_16 (ix_rtZ rfl true)
theorem x_RP_isSide {x0 : Int32} {h h1 : ixH} {v : Bool} (hd : ix_D mRP_isSide 0 [some (.int x0)] [] h = some ([.int (ix_bi v)], h1)) : ix_M mRP_isSide [.int x0] h = some ([.int (ix_bi v)], h1) := ix_M_of (ix_ent_s kq_RP_isSide rfl rfl (Nat.le_of_ble_eq_true rfl) rfl) hd (ix_okrZ rfl v)
theorem i_RP_wall_0 : ix_nx mRP_wall 0 = some (0, .aload_n 0, 1, none, [], 0) := rfl
theorem i_RP_wall_1 : ix_nx mRP_wall 1 = some (1, .getfield 10, 4, none, [0, 0, 2, 71], 0) := rfl
theorem i_RP_wall_4 : ix_nx mRP_wall 4 = some (1, .getfield 78, 7, none, [1, 0, 2, 31], 0) := rfl
theorem i_RP_wall_7 : ix_nx mRP_wall 7 = some (0, .astore_n 3, 8, none, [], 0) := rfl
theorem i_RP_wall_8 : ix_nx mRP_wall 8 = some (0, .aload_n 3, 9, none, [], 0) := rfl
theorem i_RP_wall_9 : ix_nx mRP_wall 9 = some (0, .iload_n 1, 10, none, [], 0) := rfl
theorem i_RP_wall_10 : ix_nx mRP_wall 10 = some (3, .invokevirtual 88, 13, none, [0, 63, 11], 0) := rfl
theorem i_RP_wall_13 : ix_nx mRP_wall 13 = some (0, .ifCond .ne 5, 16, none, [], 0) := rfl
theorem i_RP_wall_16 : ix_nx mRP_wall 16 = some (0, .iconst (-1), 17, none, [], 0) := rfl
theorem i_RP_wall_17 : ix_nx mRP_wall 17 = some (4, .ireturn, 18, none, [], 0) := rfl
theorem i_RP_wall_18 : ix_nx mRP_wall 18 = some (0, .iload_n 2, 19, none, [], 0) := rfl
theorem i_RP_wall_19 : ix_nx mRP_wall 19 = some (3, .invokestatic 91, 22, none, [1, 5, 12], 0) := rfl
theorem i_RP_wall_22 : ix_nx mRP_wall 22 = some (0, .ifCond .ne 6, 25, none, [], 0) := rfl
theorem i_RP_wall_25 : ix_nx mRP_wall 25 = some (0, .bipush (-2), 27, none, [], 0) := rfl
theorem i_RP_wall_27 : ix_nx mRP_wall 27 = some (4, .ireturn, 28, none, [], 0) := rfl
theorem i_RP_wall_28 : ix_nx mRP_wall 28 = some (0, .aload_n 3, 29, none, [], 0) := rfl
theorem i_RP_wall_29 : ix_nx mRP_wall 29 = some (0, .iload_n 2, 30, none, [], 0) := rfl
theorem i_RP_wall_30 : ix_nx mRP_wall 30 = some (0, .iconst 1, 31, none, [], 0) := rfl
theorem i_RP_wall_31 : ix_nx mRP_wall 31 = some (0, .if_icmp .ne 15, 34, none, [], 0) := rfl
theorem i_RP_wall_34 : ix_nx mRP_wall 34 = some (0, .aload_n 3, 35, none, [], 0) := rfl
theorem i_RP_wall_35 : ix_nx mRP_wall 35 = some (1, .getfield 94, 38, none, [2, 5, 1, 18], 0) := rfl
theorem i_RP_wall_38 : ix_nx mRP_wall 38 = some (0, .iload_n 1, 39, none, [], 0) := rfl
theorem i_RP_wall_39 : ix_nx mRP_wall 39 = some (3, .invokestatic 98, 42, none, [1, 1, 13], 0) := rfl
theorem i_RP_wall_42 : ix_nx mRP_wall 42 = some (0, .lor, 43, none, [], 0) := rfl
theorem i_RP_wall_43 : ix_nx mRP_wall 43 = some (0, .goto 16, 46, none, [], 0) := rfl
theorem i_RP_wall_46 : ix_nx mRP_wall 46 = some (0, .aload_n 3, 47, none, [], 0) := rfl
theorem i_RP_wall_47 : ix_nx mRP_wall 47 = some (1, .getfield 94, 50, none, [2, 5, 1, 18], 0) := rfl
theorem i_RP_wall_50 : ix_nx mRP_wall 50 = some (0, .iload_n 1, 51, none, [], 0) := rfl
theorem i_RP_wall_51 : ix_nx mRP_wall 51 = some (3, .invokestatic 98, 54, none, [1, 1, 13], 0) := rfl
theorem i_RP_wall_54 : ix_nx mRP_wall 54 = some (0, .ldc2_w 102, 57, none, [1], -1) := rfl
theorem i_RP_wall_57 : ix_nx mRP_wall 57 = some (0, .lxor, 58, none, [], 0) := rfl
theorem i_RP_wall_58 : ix_nx mRP_wall 58 = some (0, .land, 59, none, [], 0) := rfl
theorem i_RP_wall_59 : ix_nx mRP_wall 59 = some (2, .putfield 94, 62, none, [2, 5, 1, 18], 0) := rfl
theorem i_RP_wall_62 : ix_nx mRP_wall 62 = some (0, .aload_n 3, 63, none, [], 0) := rfl
theorem i_RP_wall_63 : ix_nx mRP_wall 63 = some (1, .getfield 94, 66, none, [2, 5, 1, 18], 0) := rfl
theorem i_RP_wall_66 : ix_nx mRP_wall 66 = some (3, .invokestatic 104, 69, none, [1, 6, 14], 0) := rfl
theorem i_RP_wall_69 : ix_nx mRP_wall 69 = some (4, .ireturn, 70, none, [], 0) := rfl
set_option maxRecDepth 20000 in
set_option maxHeartbeats 1000000 in
theorem e_RP_wall (a0 : Nat) (x1 : Int32) (x2 : Int32) (h : ixH) : ix_D mRP_wall 0 [some (.ref a0), some (.int x1), some (.int x2), none] [] h = (ix_gr h a0 0 0).bind fun v1 => (ix_gr h v1 1 0).bind fun v2 => (ix_M mGr_has [.ref v2, .int x1] h).bind fun r => ix_kZ r fun v4 h3 => if v4 = true then (ix_M mRP_isFlag [.int x2] h3).bind fun r => ix_kZ r fun v6 h5 => if v6 = true then if ¬ x2 = 1 then (ix_gl h5 v2 2 5).bind fun v7 => (ix_M mRP_bit [.int x1] h5).bind fun r => ix_kL r fun v9 h8 => (ix_pf h8 v2 2 5 (.long (v7 &&& (v9 ^^^ (-1))))).bind fun h10 => (ix_gl h10 v2 2 5).bind fun v11 => (ix_M mRP_size [.long v11] h10).bind fun r => ix_kI r fun v13 h12 => some ([.int v13], h12) else (ix_gl h5 v2 2 5).bind fun v14 => (ix_M mRP_bit [.int x1] h5).bind fun r => ix_kL r fun v16 h15 => (ix_pf h15 v2 2 5 (.long (v14 ||| v16))).bind fun h17 => (ix_gl h17 v2 2 5).bind fun v18 => (ix_M mRP_size [.long v18] h17).bind fun r => ix_kI r fun v20 h19 => some ([.int v20], h19) else some ([.int (-2)], h5) else some ([.int (-1)], h3) := by
  refine ix_K_px kq_RP_wall i_RP_wall_0 rfl rfl ?_
  refine ix_K_gr kq_RP_wall i_RP_wall_1 rfl (fun v1 => ?_)
  refine ix_K_gr kq_RP_wall i_RP_wall_4 rfl (fun v2 => ?_)
  refine ix_K_sr (L2 := [some (.ref a0), some (.int x1), some (.int x2), some (.ref v2)]) kq_RP_wall i_RP_wall_7 rfl (Or.inr ⟨_, rfl, rfl⟩) (Nat.le_of_ble_eq_true rfl) rfl ?_
  refine ix_K_px kq_RP_wall i_RP_wall_8 rfl rfl ?_
  refine ix_K_px kq_RP_wall i_RP_wall_9 rfl rfl ?_
  refine ix_K_callZ (as := [.ref v2, .int x1]) (rest := []) kq_RP_wall i_RP_wall_10 rfl kq_Gr_has (by decide) rfl rfl (fun v4 h3 => ?_)
  refine ix_K_bz_ne (tgt := 18) kq_RP_wall i_RP_wall_13 rfl (by decide) ?_ ?_
  · refine ix_K_px kq_RP_wall i_RP_wall_18 rfl rfl ?_
    refine ix_K_callZ (as := [.int x2]) (rest := []) kq_RP_wall i_RP_wall_19 rfl kq_RP_isFlag (by decide) rfl rfl (fun v6 h5 => ?_)
    refine ix_K_bz_ne (tgt := 28) kq_RP_wall i_RP_wall_22 rfl (by decide) ?_ ?_
    · refine ix_K_px kq_RP_wall i_RP_wall_28 rfl rfl ?_
      refine ix_K_px kq_RP_wall i_RP_wall_29 rfl rfl ?_
      refine ix_K_ci kq_RP_wall i_RP_wall_30 rfl kci_1 ?_
      refine ix_K_ic_ne (tgt := 46) kq_RP_wall i_RP_wall_31 rfl (by decide) ?_ ?_
      · refine ix_K_px kq_RP_wall i_RP_wall_46 rfl rfl ?_
        refine ix_K_gl kq_RP_wall i_RP_wall_47 rfl (fun v7 => ?_)
        refine ix_K_px kq_RP_wall i_RP_wall_50 rfl rfl ?_
        refine ix_K_callL (as := [.int x1]) (rest := [.long v7, .ref v2]) kq_RP_wall i_RP_wall_51 rfl kq_RP_bit (by decide) rfl rfl (fun v9 h8 => ?_)
        refine ix_K_c2 kq_RP_wall i_RP_wall_54 rfl kc2_m1 ?_
        refine ix_K_px kq_RP_wall i_RP_wall_57 rfl rfl ?_
        refine ix_K_px kq_RP_wall i_RP_wall_58 rfl rfl ?_
        refine ix_K_pf kq_RP_wall i_RP_wall_59 rfl rfl (fun h10 => ?_)
        refine ix_K_px kq_RP_wall i_RP_wall_62 rfl rfl ?_
        refine ix_K_gl kq_RP_wall i_RP_wall_63 rfl (fun v11 => ?_)
        refine ix_K_callI (as := [.long v11]) (rest := []) kq_RP_wall i_RP_wall_66 rfl kq_RP_size (by decide) rfl (Or.inl rfl) (fun v13 h12 => ?_)
        exact ix_D_ret kq_RP_wall i_RP_wall_69 (ix_rtI rfl _)
      · refine ix_K_px kq_RP_wall i_RP_wall_34 rfl rfl ?_
        refine ix_K_gl kq_RP_wall i_RP_wall_35 rfl (fun v14 => ?_)
        refine ix_K_px kq_RP_wall i_RP_wall_38 rfl rfl ?_
        refine ix_K_callL (as := [.int x1]) (rest := [.long v14, .ref v2]) kq_RP_wall i_RP_wall_39 rfl kq_RP_bit (by decide) rfl rfl (fun v16 h15 => ?_)
        refine ix_K_px kq_RP_wall i_RP_wall_42 rfl rfl ?_
        refine ix_K_goto (tgt := 59) kq_RP_wall i_RP_wall_43 rfl (by decide) ?_
        refine ix_K_pf kq_RP_wall i_RP_wall_59 rfl rfl (fun h17 => ?_)
        refine ix_K_px kq_RP_wall i_RP_wall_62 rfl rfl ?_
        refine ix_K_gl kq_RP_wall i_RP_wall_63 rfl (fun v18 => ?_)
        refine ix_K_callI (as := [.long v18]) (rest := []) kq_RP_wall i_RP_wall_66 rfl kq_RP_size (by decide) rfl (Or.inl rfl) (fun v20 h19 => ?_)
        exact ix_D_ret kq_RP_wall i_RP_wall_69 (ix_rtI rfl _)
    · refine ix_K_cb kq_RP_wall i_RP_wall_25 rfl kcb_m2 ?_
      exact ix_D_ret kq_RP_wall i_RP_wall_27 (ix_rtI rfl _)
  · refine ix_K_ci kq_RP_wall i_RP_wall_16 rfl kci_m1 ?_
    exact ix_D_ret kq_RP_wall i_RP_wall_17 (ix_rtI rfl _)
theorem x_RP_wall {a0 : Nat} {x1 : Int32} {x2 : Int32} {h h1 : ixH} {v : Int32} (hr : ix_rc h a0 = some 0) (hd : ix_D mRP_wall 0 [some (.ref a0), some (.int x1), some (.int x2), none] [] h = some ([.int v], h1)) : ix_M mRP_wall [.ref a0, .int x1, .int x2] h = some ([.int v], h1) := ix_M_of (ix_ent_i kq_RP_wall rfl hr rfl (Nat.le_of_ble_eq_true rfl) rfl) hd (ix_okrI (Or.inl rfl) v)
theorem i_RP_isFlag_0 : ix_nx mRP_isFlag 0 = some (0, .iload_n 0, 1, none, [], 0) := rfl
theorem i_RP_isFlag_1 : ix_nx mRP_isFlag 1 = some (0, .ifCond .eq 8, 4, none, [], 0) := rfl
theorem i_RP_isFlag_4 : ix_nx mRP_isFlag 4 = some (0, .iload_n 0, 5, none, [], 0) := rfl
theorem i_RP_isFlag_5 : ix_nx mRP_isFlag 5 = some (0, .iconst 1, 6, none, [], 0) := rfl
theorem i_RP_isFlag_6 : ix_nx mRP_isFlag 6 = some (0, .if_icmp .ne 7, 9, none, [], 0) := rfl
theorem i_RP_isFlag_9 : ix_nx mRP_isFlag 9 = some (0, .iconst 1, 10, none, [], 0) := rfl
theorem i_RP_isFlag_10 : ix_nx mRP_isFlag 10 = some (0, .goto 4, 13, none, [], 0) := rfl
theorem i_RP_isFlag_13 : ix_nx mRP_isFlag 13 = some (0, .iconst 0, 14, none, [], 0) := rfl
theorem i_RP_isFlag_14 : ix_nx mRP_isFlag 14 = some (4, .ireturn, 15, none, [], 0) := rfl
set_option maxRecDepth 20000 in
set_option maxHeartbeats 1000000 in
theorem e_RP_isFlag (x0 : Int32) (h : ixH) : ix_D mRP_isFlag 0 [some (.int x0)] [] h = if x0 = 0 then some ([.int (ix_bi true)], h) else if ¬ x0 = 1 then some ([.int (ix_bi false)], h) else some ([.int (ix_bi true)], h) := by
  refine ix_K_px kq_RP_isFlag i_RP_isFlag_0 rfl rfl ?_
  refine ix_K_if_eq (tgt := 9) kq_RP_isFlag i_RP_isFlag_1 rfl (by decide) ?_ ?_
  · refine ix_K_ci kq_RP_isFlag i_RP_isFlag_9 rfl kci_1 ?_
    refine ix_K_goto (tgt := 14) kq_RP_isFlag i_RP_isFlag_10 rfl (by decide) ?_
    exact ix_D_ret kq_RP_isFlag i_RP_isFlag_14 (ix_rtZ rfl true)
  · refine ix_K_px kq_RP_isFlag i_RP_isFlag_4 rfl rfl ?_
    refine ix_K_ci kq_RP_isFlag i_RP_isFlag_5 rfl kci_1 ?_
    refine ix_K_ic_ne (tgt := 13) kq_RP_isFlag i_RP_isFlag_6 rfl (by decide) ?_ ?_
    · refine ix_K_ci kq_RP_isFlag i_RP_isFlag_13 rfl kci_0 ?_
      exact ix_D_ret kq_RP_isFlag i_RP_isFlag_14 (ix_rtZ rfl false)
    · refine ix_K_ci kq_RP_isFlag i_RP_isFlag_9 rfl kci_1 ?_
      refine ix_K_goto (tgt := 14) kq_RP_isFlag i_RP_isFlag_10 rfl (by decide) ?_
      exact ix_D_ret kq_RP_isFlag i_RP_isFlag_14 (ix_rtZ rfl true)
theorem x_RP_isFlag {x0 : Int32} {h h1 : ixH} {v : Bool} (hd : ix_D mRP_isFlag 0 [some (.int x0)] [] h = some ([.int (ix_bi v)], h1)) : ix_M mRP_isFlag [.int x0] h = some ([.int (ix_bi v)], h1) := ix_M_of (ix_ent_s kq_RP_isFlag rfl rfl (Nat.le_of_ble_eq_true rfl) rfl) hd (ix_okrZ rfl v)
theorem i_RP_size_0 : ix_nx mRP_size 0 = some (0, .lload_n 0, 1, none, [], 0) := rfl
theorem i_RP_size_1 : ix_nx mRP_size 1 = some (3, .invokestatic 304, 4, none, [1, 246, 15], 0) := rfl
theorem i_RP_size_4 : ix_nx mRP_size 4 = some (4, .ireturn, 5, none, [], 0) := rfl
set_option maxRecDepth 20000 in
set_option maxHeartbeats 1000000 in
theorem e_RP_size (x0 : Int64) (h : ixH) : ix_D mRP_size 0 [some (.long x0), none] [] h = (ix_M mJL_bitCount [.long x0] h).bind fun r => ix_kI r fun v2 h1 => some ([.int v2], h1) := by
  refine ix_K_px kq_RP_size i_RP_size_0 rfl rfl ?_
  refine ix_K_callI (as := [.long x0]) (rest := []) kq_RP_size i_RP_size_1 rfl kq_JL_bitCount (by decide) rfl (Or.inl rfl) (fun v2 h1 => ?_)
  exact ix_D_ret kq_RP_size i_RP_size_4 (ix_rtI rfl _)
theorem x_RP_size {x0 : Int64} {h h1 : ixH} {v : Int32} (hd : ix_D mRP_size 0 [some (.long x0), none] [] h = some ([.int v], h1)) : ix_M mRP_size [.long x0] h = some ([.int v], h1) := ix_M_of (ix_ent_s kq_RP_size rfl rfl (Nat.le_of_ble_eq_true rfl) rfl) hd (ix_okrI (Or.inl rfl) v)
theorem i_RP_role_0 : ix_nx mRP_role 0 = some (0, .aload_n 0, 1, none, [], 0) := rfl
theorem i_RP_role_1 : ix_nx mRP_role 1 = some (1, .getfield 10, 4, none, [0, 0, 2, 71], 0) := rfl
theorem i_RP_role_4 : ix_nx mRP_role 4 = some (1, .getfield 78, 7, none, [1, 0, 2, 31], 0) := rfl
theorem i_RP_role_7 : ix_nx mRP_role 7 = some (0, .astore_n 3, 8, none, [], 0) := rfl
theorem i_RP_role_8 : ix_nx mRP_role 8 = some (0, .aload_n 3, 9, none, [], 0) := rfl
theorem i_RP_role_9 : ix_nx mRP_role 9 = some (0, .iload_n 1, 10, none, [], 0) := rfl
theorem i_RP_role_10 : ix_nx mRP_role 10 = some (3, .invokevirtual 88, 13, none, [0, 63, 11], 0) := rfl
theorem i_RP_role_13 : ix_nx mRP_role 13 = some (0, .ifCond .ne 5, 16, none, [], 0) := rfl
theorem i_RP_role_16 : ix_nx mRP_role 16 = some (0, .iconst (-1), 17, none, [], 0) := rfl
theorem i_RP_role_17 : ix_nx mRP_role 17 = some (4, .ireturn, 18, none, [], 0) := rfl
theorem i_RP_role_18 : ix_nx mRP_role 18 = some (0, .iload_n 2, 19, none, [], 0) := rfl
theorem i_RP_role_19 : ix_nx mRP_role 19 = some (0, .ifCond .lt 8, 22, none, [], 0) := rfl
theorem i_RP_role_22 : ix_nx mRP_role 22 = some (0, .iload_n 2, 23, none, [], 0) := rfl
theorem i_RP_role_23 : ix_nx mRP_role 23 = some (0, .iconst 4, 24, none, [], 0) := rfl
theorem i_RP_role_24 : ix_nx mRP_role 24 = some (0, .if_icmp .lt 6, 27, none, [], 0) := rfl
theorem i_RP_role_27 : ix_nx mRP_role 27 = some (0, .bipush (-2), 29, none, [], 0) := rfl
theorem i_RP_role_29 : ix_nx mRP_role 29 = some (4, .ireturn, 30, none, [], 0) := rfl
theorem i_RP_role_30 : ix_nx mRP_role 30 = some (0, .aload_n 3, 31, none, [], 0) := rfl
theorem i_RP_role_31 : ix_nx mRP_role 31 = some (0, .iload_n 1, 32, none, [], 0) := rfl
theorem i_RP_role_32 : ix_nx mRP_role 32 = some (3, .invokevirtual 107, 35, none, [0, 64, 16], 0) := rfl
theorem i_RP_role_35 : ix_nx mRP_role 35 = some (0, .istore 4, 37, none, [], 0) := rfl
theorem i_RP_role_37 : ix_nx mRP_role 37 = some (0, .aload_n 3, 38, none, [], 0) := rfl
theorem i_RP_role_38 : ix_nx mRP_role 38 = some (0, .iload_n 1, 39, none, [], 0) := rfl
theorem i_RP_role_39 : ix_nx mRP_role 39 = some (0, .iload_n 2, 40, none, [], 0) := rfl
theorem i_RP_role_40 : ix_nx mRP_role 40 = some (3, .invokevirtual 111, 43, none, [0, 65, 17], 0) := rfl
theorem i_RP_role_43 : ix_nx mRP_role 43 = some (0, .iload 4, 45, none, [], 0) := rfl
theorem i_RP_role_45 : ix_nx mRP_role 45 = some (4, .ireturn, 46, none, [], 0) := rfl
set_option maxRecDepth 20000 in
set_option maxHeartbeats 1000000 in
theorem e_RP_role (a0 : Nat) (x1 : Int32) (x2 : Int32) (h : ixH) : ix_D mRP_role 0 [some (.ref a0), some (.int x1), some (.int x2), none, none] [] h = (ix_gr h a0 0 0).bind fun v1 => (ix_gr h v1 1 0).bind fun v2 => (ix_M mGr_has [.ref v2, .int x1] h).bind fun r => ix_kZ r fun v4 h3 => if v4 = true then if x2 < 0 then some ([.int (-2)], h3) else if x2 < 4 then (ix_M mGr_roleOf [.ref v2, .int x1] h3).bind fun r => ix_kI r fun v6 h5 => (ix_M mGr_give [.ref v2, .int x1, .int x2] h5).bind fun r => ix_kV r fun h7 => some ([.int v6], h7) else some ([.int (-2)], h3) else some ([.int (-1)], h3) := by
  refine ix_K_px kq_RP_role i_RP_role_0 rfl rfl ?_
  refine ix_K_gr kq_RP_role i_RP_role_1 rfl (fun v1 => ?_)
  refine ix_K_gr kq_RP_role i_RP_role_4 rfl (fun v2 => ?_)
  refine ix_K_sr (L2 := [some (.ref a0), some (.int x1), some (.int x2), some (.ref v2), none]) kq_RP_role i_RP_role_7 rfl (Or.inr ⟨_, rfl, rfl⟩) (Nat.le_of_ble_eq_true rfl) rfl ?_
  refine ix_K_px kq_RP_role i_RP_role_8 rfl rfl ?_
  refine ix_K_px kq_RP_role i_RP_role_9 rfl rfl ?_
  refine ix_K_callZ (as := [.ref v2, .int x1]) (rest := []) kq_RP_role i_RP_role_10 rfl kq_Gr_has (by decide) rfl rfl (fun v4 h3 => ?_)
  refine ix_K_bz_ne (tgt := 18) kq_RP_role i_RP_role_13 rfl (by decide) ?_ ?_
  · refine ix_K_px kq_RP_role i_RP_role_18 rfl rfl ?_
    refine ix_K_if_lt (tgt := 27) kq_RP_role i_RP_role_19 rfl (by decide) ?_ ?_
    · refine ix_K_cb kq_RP_role i_RP_role_27 rfl kcb_m2 ?_
      exact ix_D_ret kq_RP_role i_RP_role_29 (ix_rtI rfl _)
    · refine ix_K_px kq_RP_role i_RP_role_22 rfl rfl ?_
      refine ix_K_ci kq_RP_role i_RP_role_23 rfl kci_4 ?_
      refine ix_K_ic_lt (tgt := 30) kq_RP_role i_RP_role_24 rfl (by decide) ?_ ?_
      · refine ix_K_px kq_RP_role i_RP_role_30 rfl rfl ?_
        refine ix_K_px kq_RP_role i_RP_role_31 rfl rfl ?_
        refine ix_K_callI (as := [.ref v2, .int x1]) (rest := []) kq_RP_role i_RP_role_32 rfl kq_Gr_roleOf (by decide) rfl (Or.inl rfl) (fun v6 h5 => ?_)
        refine ix_K_si (L2 := [some (.ref a0), some (.int x1), some (.int x2), some (.ref v2), some (.int v6)]) kq_RP_role i_RP_role_35 rfl (Or.inl rfl) (Nat.le_of_ble_eq_true rfl) rfl ?_
        refine ix_K_px kq_RP_role i_RP_role_37 rfl rfl ?_
        refine ix_K_px kq_RP_role i_RP_role_38 rfl rfl ?_
        refine ix_K_px kq_RP_role i_RP_role_39 rfl rfl ?_
        refine ix_K_callV (as := [.ref v2, .int x1, .int x2]) (rest := []) kq_RP_role i_RP_role_40 rfl kq_Gr_give (by decide) rfl rfl (fun h7 => ?_)
        refine ix_K_px kq_RP_role i_RP_role_43 rfl rfl ?_
        exact ix_D_ret kq_RP_role i_RP_role_45 (ix_rtI rfl _)
      · refine ix_K_cb kq_RP_role i_RP_role_27 rfl kcb_m2 ?_
        exact ix_D_ret kq_RP_role i_RP_role_29 (ix_rtI rfl _)
  · refine ix_K_ci kq_RP_role i_RP_role_16 rfl kci_m1 ?_
    exact ix_D_ret kq_RP_role i_RP_role_17 (ix_rtI rfl _)
theorem x_RP_role {a0 : Nat} {x1 : Int32} {x2 : Int32} {h h1 : ixH} {v : Int32} (hr : ix_rc h a0 = some 0) (hd : ix_D mRP_role 0 [some (.ref a0), some (.int x1), some (.int x2), none, none] [] h = some ([.int v], h1)) : ix_M mRP_role [.ref a0, .int x1, .int x2] h = some ([.int v], h1) := ix_M_of (ix_ent_i kq_RP_role rfl hr rfl (Nat.le_of_ble_eq_true rfl) rfl) hd (ix_okrI (Or.inl rfl) v)
theorem i_RP_holds_0 : ix_nx mRP_holds 0 = some (0, .lload_n 0, 1, none, [], 0) := rfl
theorem i_RP_holds_1 : ix_nx mRP_holds 1 = some (0, .iload_n 2, 2, none, [], 0) := rfl
theorem i_RP_holds_2 : ix_nx mRP_holds 2 = some (3, .invokestatic 98, 5, none, [1, 1, 13], 0) := rfl
theorem i_RP_holds_5 : ix_nx mRP_holds 5 = some (0, .land, 6, none, [], 0) := rfl
theorem i_RP_holds_6 : ix_nx mRP_holds 6 = some (0, .lconst 0, 7, none, [], 0) := rfl
theorem i_RP_holds_7 : ix_nx mRP_holds 7 = some (0, .lcmp, 8, none, [], 0) := rfl
theorem i_RP_holds_8 : ix_nx mRP_holds 8 = some (0, .ifCond .eq 7, 11, none, [], 0) := rfl
theorem i_RP_holds_11 : ix_nx mRP_holds 11 = some (0, .iconst 1, 12, none, [], 0) := rfl
theorem i_RP_holds_12 : ix_nx mRP_holds 12 = some (0, .goto 4, 15, none, [], 0) := rfl
theorem i_RP_holds_15 : ix_nx mRP_holds 15 = some (0, .iconst 0, 16, none, [], 0) := rfl
theorem i_RP_holds_16 : ix_nx mRP_holds 16 = some (4, .ireturn, 17, none, [], 0) := rfl
set_option maxRecDepth 20000 in
set_option maxHeartbeats 1000000 in
theorem e_RP_holds (x0 : Int64) (x2 : Int32) (h : ixH) : ix_D mRP_holds 0 [some (.long x0), none, some (.int x2)] [] h = (ix_M mRP_bit [.int x2] h).bind fun r => ix_kL r fun v2 h1 => if (x0 &&& v2) = 0 then some ([.int (ix_bi false)], h1) else some ([.int (ix_bi true)], h1) := by
  refine ix_K_px kq_RP_holds i_RP_holds_0 rfl rfl ?_
  refine ix_K_px kq_RP_holds i_RP_holds_1 rfl rfl ?_
  refine ix_K_callL (as := [.int x2]) (rest := [.long x0]) kq_RP_holds i_RP_holds_2 rfl kq_RP_bit (by decide) rfl rfl (fun v2 h1 => ?_)
  refine ix_K_px kq_RP_holds i_RP_holds_5 rfl rfl ?_
  refine ix_K_cl kq_RP_holds i_RP_holds_6 rfl kcl_0 ?_
  refine ix_K_px kq_RP_holds i_RP_holds_7 rfl rfl ?_
  refine ix_K_lc_eq (tgt := 15) kq_RP_holds i_RP_holds_8 rfl (by decide) ?_ ?_
  · refine ix_K_ci kq_RP_holds i_RP_holds_15 rfl kci_0 ?_
    exact ix_D_ret kq_RP_holds i_RP_holds_16 (ix_rtZ rfl false)
  · refine ix_K_ci kq_RP_holds i_RP_holds_11 rfl kci_1 ?_
    refine ix_K_goto (tgt := 16) kq_RP_holds i_RP_holds_12 rfl (by decide) ?_
    exact ix_D_ret kq_RP_holds i_RP_holds_16 (ix_rtZ rfl true)
theorem x_RP_holds {x0 : Int64} {x2 : Int32} {h h1 : ixH} {v : Bool} (hd : ix_D mRP_holds 0 [some (.long x0), none, some (.int x2)] [] h = some ([.int (ix_bi v)], h1)) : ix_M mRP_holds [.long x0, .int x2] h = some ([.int (ix_bi v)], h1) := ix_M_of (ix_ent_s kq_RP_holds rfl rfl (Nat.le_of_ble_eq_true rfl) rfl) hd (ix_okrZ rfl v)
theorem i_RP_wire_0 : ix_nx mRP_wire 0 = some (0, .aload_n 0, 1, none, [], 0) := rfl
theorem i_RP_wire_1 : ix_nx mRP_wire 1 = some (1, .getfield 10, 4, none, [0, 0, 2, 71], 0) := rfl
theorem i_RP_wire_4 : ix_nx mRP_wire 4 = some (1, .getfield 78, 7, none, [1, 0, 2, 31], 0) := rfl
theorem i_RP_wire_7 : ix_nx mRP_wire 7 = some (0, .astore_n 3, 8, none, [], 0) := rfl
theorem i_RP_wire_8 : ix_nx mRP_wire 8 = some (0, .iload_n 1, 9, none, [], 0) := rfl
theorem i_RP_wire_9 : ix_nx mRP_wire 9 = some (3, .invokestatic 114, 12, none, [1, 10, 18], 0) := rfl
theorem i_RP_wire_12 : ix_nx mRP_wire 12 = some (0, .ifCond .eq 11, 15, none, [], 0) := rfl
theorem i_RP_wire_15 : ix_nx mRP_wire 15 = some (0, .aload_n 3, 16, none, [], 0) := rfl
theorem i_RP_wire_16 : ix_nx mRP_wire 16 = some (0, .iload_n 2, 17, none, [], 0) := rfl
theorem i_RP_wire_17 : ix_nx mRP_wire 17 = some (3, .invokevirtual 88, 20, none, [0, 63, 11], 0) := rfl
theorem i_RP_wire_20 : ix_nx mRP_wire 20 = some (0, .ifCond .ne 5, 23, none, [], 0) := rfl
theorem i_RP_wire_23 : ix_nx mRP_wire 23 = some (0, .iconst (-1), 24, none, [], 0) := rfl
theorem i_RP_wire_24 : ix_nx mRP_wire 24 = some (4, .ireturn, 25, none, [], 0) := rfl
theorem i_RP_wire_25 : ix_nx mRP_wire 25 = some (0, .aload_n 3, 26, none, [], 0) := rfl
theorem i_RP_wire_26 : ix_nx mRP_wire 26 = some (1, .getfield 117, 29, none, [2, 7, 2, 23], 0) := rfl
theorem i_RP_wire_29 : ix_nx mRP_wire 29 = some (0, .iload_n 1, 30, none, [], 0) := rfl
theorem i_RP_wire_30 : ix_nx mRP_wire 30 = some (0, .dup2, 31, none, [], 0) := rfl
theorem i_RP_wire_31 : ix_nx mRP_wire 31 = some (1, .laload, 32, none, [], 0) := rfl
theorem i_RP_wire_32 : ix_nx mRP_wire 32 = some (0, .iload_n 2, 33, none, [], 0) := rfl
theorem i_RP_wire_33 : ix_nx mRP_wire 33 = some (3, .invokestatic 98, 36, none, [1, 1, 13], 0) := rfl
theorem i_RP_wire_36 : ix_nx mRP_wire 36 = some (0, .lxor, 37, none, [], 0) := rfl
theorem i_RP_wire_37 : ix_nx mRP_wire 37 = some (2, .lastore, 38, none, [], 0) := rfl
theorem i_RP_wire_38 : ix_nx mRP_wire 38 = some (0, .aload_n 3, 39, none, [], 0) := rfl
theorem i_RP_wire_39 : ix_nx mRP_wire 39 = some (1, .getfield 117, 42, none, [2, 7, 2, 23], 0) := rfl
theorem i_RP_wire_42 : ix_nx mRP_wire 42 = some (0, .iload_n 1, 43, none, [], 0) := rfl
theorem i_RP_wire_43 : ix_nx mRP_wire 43 = some (1, .laload, 44, none, [], 0) := rfl
theorem i_RP_wire_44 : ix_nx mRP_wire 44 = some (3, .invokestatic 104, 47, none, [1, 6, 14], 0) := rfl
theorem i_RP_wire_47 : ix_nx mRP_wire 47 = some (4, .ireturn, 48, none, [], 0) := rfl
set_option maxRecDepth 20000 in
set_option maxHeartbeats 1000000 in
theorem e_RP_wire (a0 : Nat) (x1 : Int32) (x2 : Int32) (h : ixH) : ix_D mRP_wire 0 [some (.ref a0), some (.int x1), some (.int x2), none] [] h = (ix_gr h a0 0 0).bind fun v1 => (ix_gr h v1 1 0).bind fun v2 => (ix_M mRP_isLever [.int x1] h).bind fun r => ix_kZ r fun v4 h3 => if v4 = true then (ix_M mGr_has [.ref v2, .int x2] h3).bind fun r => ix_kZ r fun v6 h5 => if v6 = true then (ix_gr h5 v2 2 7).bind fun v7 => (ix_al h5 v7 x1).bind fun v8 => (ix_M mRP_bit [.int x2] h5).bind fun r => ix_kL r fun v10 h9 => (ix_sl h9 v7 x1 (v8 ^^^ v10)).bind fun h11 => (ix_gr h11 v2 2 7).bind fun v12 => (ix_al h11 v12 x1).bind fun v13 => (ix_M mRP_size [.long v13] h11).bind fun r => ix_kI r fun v15 h14 => some ([.int v15], h14) else some ([.int (-1)], h5) else some ([.int (-1)], h3) := by
  refine ix_K_px kq_RP_wire i_RP_wire_0 rfl rfl ?_
  refine ix_K_gr kq_RP_wire i_RP_wire_1 rfl (fun v1 => ?_)
  refine ix_K_gr kq_RP_wire i_RP_wire_4 rfl (fun v2 => ?_)
  refine ix_K_sr (L2 := [some (.ref a0), some (.int x1), some (.int x2), some (.ref v2)]) kq_RP_wire i_RP_wire_7 rfl (Or.inr ⟨_, rfl, rfl⟩) (Nat.le_of_ble_eq_true rfl) rfl ?_
  refine ix_K_px kq_RP_wire i_RP_wire_8 rfl rfl ?_
  refine ix_K_callZ (as := [.int x1]) (rest := []) kq_RP_wire i_RP_wire_9 rfl kq_RP_isLever (by decide) rfl rfl (fun v4 h3 => ?_)
  refine ix_K_bz_eq (tgt := 23) kq_RP_wire i_RP_wire_12 rfl (by decide) ?_ ?_
  · refine ix_K_px kq_RP_wire i_RP_wire_15 rfl rfl ?_
    refine ix_K_px kq_RP_wire i_RP_wire_16 rfl rfl ?_
    refine ix_K_callZ (as := [.ref v2, .int x2]) (rest := []) kq_RP_wire i_RP_wire_17 rfl kq_Gr_has (by decide) rfl rfl (fun v6 h5 => ?_)
    refine ix_K_bz_ne (tgt := 25) kq_RP_wire i_RP_wire_20 rfl (by decide) ?_ ?_
    · refine ix_K_px kq_RP_wire i_RP_wire_25 rfl rfl ?_
      refine ix_K_gr kq_RP_wire i_RP_wire_26 rfl (fun v7 => ?_)
      refine ix_K_px kq_RP_wire i_RP_wire_29 rfl rfl ?_
      refine ix_K_px kq_RP_wire i_RP_wire_30 rfl rfl ?_
      refine ix_K_al kq_RP_wire i_RP_wire_31 rfl (fun v8 => ?_)
      refine ix_K_px kq_RP_wire i_RP_wire_32 rfl rfl ?_
      refine ix_K_callL (as := [.int x2]) (rest := [.long v8, .int x1, .ref v7]) kq_RP_wire i_RP_wire_33 rfl kq_RP_bit (by decide) rfl rfl (fun v10 h9 => ?_)
      refine ix_K_px kq_RP_wire i_RP_wire_36 rfl rfl ?_
      refine ix_K_tl kq_RP_wire i_RP_wire_37 rfl (fun h11 => ?_)
      refine ix_K_px kq_RP_wire i_RP_wire_38 rfl rfl ?_
      refine ix_K_gr kq_RP_wire i_RP_wire_39 rfl (fun v12 => ?_)
      refine ix_K_px kq_RP_wire i_RP_wire_42 rfl rfl ?_
      refine ix_K_al kq_RP_wire i_RP_wire_43 rfl (fun v13 => ?_)
      refine ix_K_callI (as := [.long v13]) (rest := []) kq_RP_wire i_RP_wire_44 rfl kq_RP_size (by decide) rfl (Or.inl rfl) (fun v15 h14 => ?_)
      exact ix_D_ret kq_RP_wire i_RP_wire_47 (ix_rtI rfl _)
    · refine ix_K_ci kq_RP_wire i_RP_wire_23 rfl kci_m1 ?_
      exact ix_D_ret kq_RP_wire i_RP_wire_24 (ix_rtI rfl _)
  · refine ix_K_ci kq_RP_wire i_RP_wire_23 rfl kci_m1 ?_
    exact ix_D_ret kq_RP_wire i_RP_wire_24 (ix_rtI rfl _)
theorem x_RP_wire {a0 : Nat} {x1 : Int32} {x2 : Int32} {h h1 : ixH} {v : Int32} (hr : ix_rc h a0 = some 0) (hd : ix_D mRP_wire 0 [some (.ref a0), some (.int x1), some (.int x2), none] [] h = some ([.int v], h1)) : ix_M mRP_wire [.ref a0, .int x1, .int x2] h = some ([.int v], h1) := ix_M_of (ix_ent_i kq_RP_wire rfl hr rfl (Nat.le_of_ble_eq_true rfl) rfl) hd (ix_okrI (Or.inl rfl) v)
theorem i_RP_isLever_0 : ix_nx mRP_isLever 0 = some (0, .iload_n 0, 1, none, [], 0) := rfl
theorem i_RP_isLever_1 : ix_nx mRP_isLever 1 = some (0, .ifCond .lt 12, 4, none, [], 0) := rfl
theorem i_RP_isLever_4 : ix_nx mRP_isLever 4 = some (0, .iload_n 0, 5, none, [], 0) := rfl
theorem i_RP_isLever_5 : ix_nx mRP_isLever 5 = some (0, .iconst 4, 6, none, [], 0) := rfl
theorem i_RP_isLever_6 : ix_nx mRP_isLever 6 = some (0, .if_icmp .ge 7, 9, none, [], 0) := rfl
theorem i_RP_isLever_9 : ix_nx mRP_isLever 9 = some (0, .iconst 1, 10, none, [], 0) := rfl
theorem i_RP_isLever_10 : ix_nx mRP_isLever 10 = some (0, .goto 4, 13, none, [], 0) := rfl
theorem i_RP_isLever_13 : ix_nx mRP_isLever 13 = some (0, .iconst 0, 14, none, [], 0) := rfl
theorem i_RP_isLever_14 : ix_nx mRP_isLever 14 = some (4, .ireturn, 15, none, [], 0) := rfl
set_option maxRecDepth 20000 in
set_option maxHeartbeats 1000000 in
theorem e_RP_isLever (x0 : Int32) (h : ixH) : ix_D mRP_isLever 0 [some (.int x0)] [] h = if x0 < 0 then some ([.int (ix_bi false)], h) else if 4 ≤ x0 then some ([.int (ix_bi false)], h) else some ([.int (ix_bi true)], h) := by
  refine ix_K_px kq_RP_isLever i_RP_isLever_0 rfl rfl ?_
  refine ix_K_if_lt (tgt := 13) kq_RP_isLever i_RP_isLever_1 rfl (by decide) ?_ ?_
  · refine ix_K_ci kq_RP_isLever i_RP_isLever_13 rfl kci_0 ?_
    exact ix_D_ret kq_RP_isLever i_RP_isLever_14 (ix_rtZ rfl false)
  · refine ix_K_px kq_RP_isLever i_RP_isLever_4 rfl rfl ?_
    refine ix_K_ci kq_RP_isLever i_RP_isLever_5 rfl kci_4 ?_
    refine ix_K_ic_ge (tgt := 13) kq_RP_isLever i_RP_isLever_6 rfl (by decide) ?_ ?_
    · refine ix_K_ci kq_RP_isLever i_RP_isLever_13 rfl kci_0 ?_
      exact ix_D_ret kq_RP_isLever i_RP_isLever_14 (ix_rtZ rfl false)
    · refine ix_K_ci kq_RP_isLever i_RP_isLever_9 rfl kci_1 ?_
      refine ix_K_goto (tgt := 14) kq_RP_isLever i_RP_isLever_10 rfl (by decide) ?_
      exact ix_D_ret kq_RP_isLever i_RP_isLever_14 (ix_rtZ rfl true)
theorem x_RP_isLever {x0 : Int32} {h h1 : ixH} {v : Bool} (hd : ix_D mRP_isLever 0 [some (.int x0)] [] h = some ([.int (ix_bi v)], h1)) : ix_M mRP_isLever [.int x0] h = some ([.int (ix_bi v)], h1) := ix_M_of (ix_ent_s kq_RP_isLever rfl rfl (Nat.le_of_ble_eq_true rfl) rfl) hd (ix_okrZ rfl v)
theorem i_RP_turn_0 : ix_nx mRP_turn 0 = some (0, .iload_n 1, 1, none, [], 0) := rfl
theorem i_RP_turn_1 : ix_nx mRP_turn 1 = some (3, .invokestatic 114, 4, none, [1, 10, 18], 0) := rfl
theorem i_RP_turn_4 : ix_nx mRP_turn 4 = some (0, .ifCond .ne 5, 7, none, [], 0) := rfl
theorem i_RP_turn_7 : ix_nx mRP_turn 7 = some (0, .iconst (-1), 8, none, [], 0) := rfl
theorem i_RP_turn_8 : ix_nx mRP_turn 8 = some (4, .ireturn, 9, none, [], 0) := rfl
theorem i_RP_turn_9 : ix_nx mRP_turn 9 = some (0, .aload_n 0, 10, none, [], 0) := rfl
theorem i_RP_turn_10 : ix_nx mRP_turn 10 = some (1, .getfield 10, 13, none, [0, 0, 2, 71], 0) := rfl
theorem i_RP_turn_13 : ix_nx mRP_turn 13 = some (1, .getfield 78, 16, none, [1, 0, 2, 31], 0) := rfl
theorem i_RP_turn_16 : ix_nx mRP_turn 16 = some (0, .dup, 17, none, [], 0) := rfl
theorem i_RP_turn_17 : ix_nx mRP_turn 17 = some (1, .getfield 94, 20, none, [2, 5, 1, 18], 0) := rfl
theorem i_RP_turn_20 : ix_nx mRP_turn 20 = some (0, .aload_n 0, 21, none, [], 0) := rfl
theorem i_RP_turn_21 : ix_nx mRP_turn 21 = some (1, .getfield 10, 24, none, [0, 0, 2, 71], 0) := rfl
theorem i_RP_turn_24 : ix_nx mRP_turn 24 = some (1, .getfield 78, 27, none, [1, 0, 2, 31], 0) := rfl
theorem i_RP_turn_27 : ix_nx mRP_turn 27 = some (1, .getfield 117, 30, none, [2, 7, 2, 23], 0) := rfl
theorem i_RP_turn_30 : ix_nx mRP_turn 30 = some (0, .iload_n 1, 31, none, [], 0) := rfl
theorem i_RP_turn_31 : ix_nx mRP_turn 31 = some (1, .laload, 32, none, [], 0) := rfl
theorem i_RP_turn_32 : ix_nx mRP_turn 32 = some (0, .lxor, 33, none, [], 0) := rfl
theorem i_RP_turn_33 : ix_nx mRP_turn 33 = some (2, .putfield 94, 36, none, [2, 5, 1, 18], 0) := rfl
theorem i_RP_turn_36 : ix_nx mRP_turn 36 = some (0, .aload_n 0, 37, none, [], 0) := rfl
theorem i_RP_turn_37 : ix_nx mRP_turn 37 = some (1, .getfield 10, 40, none, [0, 0, 2, 71], 0) := rfl
theorem i_RP_turn_40 : ix_nx mRP_turn 40 = some (1, .getfield 78, 43, none, [1, 0, 2, 31], 0) := rfl
theorem i_RP_turn_43 : ix_nx mRP_turn 43 = some (1, .getfield 94, 46, none, [2, 5, 1, 18], 0) := rfl
theorem i_RP_turn_46 : ix_nx mRP_turn 46 = some (3, .invokestatic 104, 49, none, [1, 6, 14], 0) := rfl
theorem i_RP_turn_49 : ix_nx mRP_turn 49 = some (4, .ireturn, 50, none, [], 0) := rfl
set_option maxRecDepth 20000 in
set_option maxHeartbeats 1000000 in
theorem e_RP_turn (a0 : Nat) (x1 : Int32) (h : ixH) : ix_D mRP_turn 0 [some (.ref a0), some (.int x1)] [] h = (ix_M mRP_isLever [.int x1] h).bind fun r => ix_kZ r fun v2 h1 => if v2 = true then (ix_gr h1 a0 0 0).bind fun v3 => (ix_gr h1 v3 1 0).bind fun v4 => (ix_gl h1 v4 2 5).bind fun v5 => (ix_gr h1 a0 0 0).bind fun v6 => (ix_gr h1 v6 1 0).bind fun v7 => (ix_gr h1 v7 2 7).bind fun v8 => (ix_al h1 v8 x1).bind fun v9 => (ix_pf h1 v4 2 5 (.long (v5 ^^^ v9))).bind fun h10 => (ix_gr h10 a0 0 0).bind fun v11 => (ix_gr h10 v11 1 0).bind fun v12 => (ix_gl h10 v12 2 5).bind fun v13 => (ix_M mRP_size [.long v13] h10).bind fun r => ix_kI r fun v15 h14 => some ([.int v15], h14) else some ([.int (-1)], h1) := by
  refine ix_K_px kq_RP_turn i_RP_turn_0 rfl rfl ?_
  refine ix_K_callZ (as := [.int x1]) (rest := []) kq_RP_turn i_RP_turn_1 rfl kq_RP_isLever (by decide) rfl rfl (fun v2 h1 => ?_)
  refine ix_K_bz_ne (tgt := 9) kq_RP_turn i_RP_turn_4 rfl (by decide) ?_ ?_
  · refine ix_K_px kq_RP_turn i_RP_turn_9 rfl rfl ?_
    refine ix_K_gr kq_RP_turn i_RP_turn_10 rfl (fun v3 => ?_)
    refine ix_K_gr kq_RP_turn i_RP_turn_13 rfl (fun v4 => ?_)
    refine ix_K_px kq_RP_turn i_RP_turn_16 rfl rfl ?_
    refine ix_K_gl kq_RP_turn i_RP_turn_17 rfl (fun v5 => ?_)
    refine ix_K_px kq_RP_turn i_RP_turn_20 rfl rfl ?_
    refine ix_K_gr kq_RP_turn i_RP_turn_21 rfl (fun v6 => ?_)
    refine ix_K_gr kq_RP_turn i_RP_turn_24 rfl (fun v7 => ?_)
    refine ix_K_gr kq_RP_turn i_RP_turn_27 rfl (fun v8 => ?_)
    refine ix_K_px kq_RP_turn i_RP_turn_30 rfl rfl ?_
    refine ix_K_al kq_RP_turn i_RP_turn_31 rfl (fun v9 => ?_)
    refine ix_K_px kq_RP_turn i_RP_turn_32 rfl rfl ?_
    refine ix_K_pf kq_RP_turn i_RP_turn_33 rfl rfl (fun h10 => ?_)
    refine ix_K_px kq_RP_turn i_RP_turn_36 rfl rfl ?_
    refine ix_K_gr kq_RP_turn i_RP_turn_37 rfl (fun v11 => ?_)
    refine ix_K_gr kq_RP_turn i_RP_turn_40 rfl (fun v12 => ?_)
    refine ix_K_gl kq_RP_turn i_RP_turn_43 rfl (fun v13 => ?_)
    refine ix_K_callI (as := [.long v13]) (rest := []) kq_RP_turn i_RP_turn_46 rfl kq_RP_size (by decide) rfl (Or.inl rfl) (fun v15 h14 => ?_)
    exact ix_D_ret kq_RP_turn i_RP_turn_49 (ix_rtI rfl _)
  · refine ix_K_ci kq_RP_turn i_RP_turn_7 rfl kci_m1 ?_
    exact ix_D_ret kq_RP_turn i_RP_turn_8 (ix_rtI rfl _)
theorem x_RP_turn {a0 : Nat} {x1 : Int32} {h h1 : ixH} {v : Int32} (hr : ix_rc h a0 = some 0) (hd : ix_D mRP_turn 0 [some (.ref a0), some (.int x1)] [] h = some ([.int v], h1)) : ix_M mRP_turn [.ref a0, .int x1] h = some ([.int v], h1) := ix_M_of (ix_ent_i kq_RP_turn rfl hr rfl (Nat.le_of_ble_eq_true rfl) rfl) hd (ix_okrI (Or.inl rfl) v)
theorem i_RP_cell_0 : ix_nx mRP_cell 0 = some (0, .aload_n 0, 1, none, [], 0) := rfl
theorem i_RP_cell_1 : ix_nx mRP_cell 1 = some (1, .getfield 10, 4, none, [0, 0, 2, 71], 0) := rfl
theorem i_RP_cell_4 : ix_nx mRP_cell 4 = some (1, .getfield 78, 7, none, [1, 0, 2, 31], 0) := rfl
theorem i_RP_cell_7 : ix_nx mRP_cell 7 = some (0, .astore_n 3, 8, none, [], 0) := rfl
theorem i_RP_cell_8 : ix_nx mRP_cell 8 = some (0, .aload_n 3, 9, none, [], 0) := rfl
theorem i_RP_cell_9 : ix_nx mRP_cell 9 = some (0, .iload_n 1, 10, none, [], 0) := rfl
theorem i_RP_cell_10 : ix_nx mRP_cell 10 = some (3, .invokevirtual 88, 13, none, [0, 63, 11], 0) := rfl
theorem i_RP_cell_13 : ix_nx mRP_cell 13 = some (0, .ifCond .ne 5, 16, none, [], 0) := rfl
theorem i_RP_cell_16 : ix_nx mRP_cell 16 = some (0, .iconst (-1), 17, none, [], 0) := rfl
theorem i_RP_cell_17 : ix_nx mRP_cell 17 = some (4, .ireturn, 18, none, [], 0) := rfl
theorem i_RP_cell_18 : ix_nx mRP_cell 18 = some (0, .iload_n 2, 19, none, [], 0) := rfl
theorem i_RP_cell_19 : ix_nx mRP_cell 19 = some (0, .tableswitch 146 0 8 #[49, 61, 67, 73, 90, 99, 112, 125, 137], 68, none, [], 0) := rfl
theorem i_RP_cell_68 : ix_nx mRP_cell 68 = some (0, .aload_n 3, 69, none, [], 0) := rfl
theorem i_RP_cell_69 : ix_nx mRP_cell 69 = some (1, .getfield 94, 72, none, [2, 5, 1, 18], 0) := rfl
theorem i_RP_cell_72 : ix_nx mRP_cell 72 = some (0, .iload_n 1, 73, none, [], 0) := rfl
theorem i_RP_cell_73 : ix_nx mRP_cell 73 = some (3, .invokestatic 121, 76, none, [1, 8, 19], 0) := rfl
theorem i_RP_cell_76 : ix_nx mRP_cell 76 = some (3, .invokestatic 125, 79, none, [1, 13, 20], 0) := rfl
theorem i_RP_cell_79 : ix_nx mRP_cell 79 = some (4, .ireturn, 80, none, [], 0) := rfl
theorem i_RP_cell_80 : ix_nx mRP_cell 80 = some (0, .aload_n 3, 81, none, [], 0) := rfl
theorem i_RP_cell_81 : ix_nx mRP_cell 81 = some (0, .iload_n 1, 82, none, [], 0) := rfl
theorem i_RP_cell_82 : ix_nx mRP_cell 82 = some (3, .invokevirtual 107, 85, none, [0, 64, 16], 0) := rfl
theorem i_RP_cell_85 : ix_nx mRP_cell 85 = some (4, .ireturn, 86, none, [], 0) := rfl
theorem i_RP_cell_86 : ix_nx mRP_cell 86 = some (0, .aload_n 3, 87, none, [], 0) := rfl
theorem i_RP_cell_87 : ix_nx mRP_cell 87 = some (0, .iload_n 1, 88, none, [], 0) := rfl
theorem i_RP_cell_88 : ix_nx mRP_cell 88 = some (3, .invokevirtual 129, 91, none, [0, 66, 21], 0) := rfl
theorem i_RP_cell_91 : ix_nx mRP_cell 91 = some (4, .ireturn, 92, none, [], 0) := rfl
theorem i_RP_cell_92 : ix_nx mRP_cell 92 = some (0, .aload_n 3, 93, none, [], 0) := rfl
theorem i_RP_cell_93 : ix_nx mRP_cell 93 = some (0, .iload_n 1, 94, none, [], 0) := rfl
theorem i_RP_cell_94 : ix_nx mRP_cell 94 = some (3, .invokestatic 98, 97, none, [1, 1, 13], 0) := rfl
theorem i_RP_cell_97 : ix_nx mRP_cell 97 = some (3, .invokevirtual 132, 100, none, [0, 67, 22], 0) := rfl
theorem i_RP_cell_100 : ix_nx mRP_cell 100 = some (0, .aload_n 3, 101, none, [], 0) := rfl
theorem i_RP_cell_101 : ix_nx mRP_cell 101 = some (3, .invokevirtual 136, 104, none, [0, 70, 23], 0) := rfl
theorem i_RP_cell_104 : ix_nx mRP_cell 104 = some (0, .land, 105, none, [], 0) := rfl
theorem i_RP_cell_105 : ix_nx mRP_cell 105 = some (3, .invokestatic 104, 108, none, [1, 6, 14], 0) := rfl
theorem i_RP_cell_108 : ix_nx mRP_cell 108 = some (4, .ireturn, 109, none, [], 0) := rfl
theorem i_RP_cell_109 : ix_nx mRP_cell 109 = some (0, .aload_n 3, 110, none, [], 0) := rfl
theorem i_RP_cell_110 : ix_nx mRP_cell 110 = some (0, .iload_n 1, 111, none, [], 0) := rfl
theorem i_RP_cell_111 : ix_nx mRP_cell 111 = some (3, .invokevirtual 140, 114, none, [0, 71, 24], 0) := rfl
theorem i_RP_cell_114 : ix_nx mRP_cell 114 = some (3, .invokestatic 104, 117, none, [1, 6, 14], 0) := rfl
theorem i_RP_cell_117 : ix_nx mRP_cell 117 = some (4, .ireturn, 118, none, [], 0) := rfl
theorem i_RP_cell_118 : ix_nx mRP_cell 118 = some (0, .aload_n 0, 119, none, [], 0) := rfl
theorem i_RP_cell_119 : ix_nx mRP_cell 119 = some (0, .iconst 0, 120, none, [], 0) := rfl
theorem i_RP_cell_120 : ix_nx mRP_cell 120 = some (3, .invokevirtual 143, 123, none, [0, 14, 25], 0) := rfl
theorem i_RP_cell_123 : ix_nx mRP_cell 123 = some (0, .iload_n 1, 124, none, [], 0) := rfl
theorem i_RP_cell_124 : ix_nx mRP_cell 124 = some (3, .invokestatic 121, 127, none, [1, 8, 19], 0) := rfl
theorem i_RP_cell_127 : ix_nx mRP_cell 127 = some (3, .invokestatic 125, 130, none, [1, 13, 20], 0) := rfl
theorem i_RP_cell_130 : ix_nx mRP_cell 130 = some (4, .ireturn, 131, none, [], 0) := rfl
theorem i_RP_cell_131 : ix_nx mRP_cell 131 = some (0, .aload_n 0, 132, none, [], 0) := rfl
theorem i_RP_cell_132 : ix_nx mRP_cell 132 = some (0, .iconst 1, 133, none, [], 0) := rfl
theorem i_RP_cell_133 : ix_nx mRP_cell 133 = some (3, .invokevirtual 143, 136, none, [0, 14, 25], 0) := rfl
theorem i_RP_cell_136 : ix_nx mRP_cell 136 = some (0, .iload_n 1, 137, none, [], 0) := rfl
theorem i_RP_cell_137 : ix_nx mRP_cell 137 = some (3, .invokestatic 121, 140, none, [1, 8, 19], 0) := rfl
theorem i_RP_cell_140 : ix_nx mRP_cell 140 = some (3, .invokestatic 125, 143, none, [1, 13, 20], 0) := rfl
theorem i_RP_cell_143 : ix_nx mRP_cell 143 = some (4, .ireturn, 144, none, [], 0) := rfl
theorem i_RP_cell_144 : ix_nx mRP_cell 144 = some (0, .aload_n 0, 145, none, [], 0) := rfl
theorem i_RP_cell_145 : ix_nx mRP_cell 145 = some (3, .invokevirtual 147, 148, none, [0, 15, 26], 0) := rfl
theorem i_RP_cell_148 : ix_nx mRP_cell 148 = some (0, .iload_n 1, 149, none, [], 0) := rfl
theorem i_RP_cell_149 : ix_nx mRP_cell 149 = some (3, .invokestatic 121, 152, none, [1, 8, 19], 0) := rfl
theorem i_RP_cell_152 : ix_nx mRP_cell 152 = some (3, .invokestatic 125, 155, none, [1, 13, 20], 0) := rfl
theorem i_RP_cell_155 : ix_nx mRP_cell 155 = some (4, .ireturn, 156, none, [], 0) := rfl
theorem i_RP_cell_156 : ix_nx mRP_cell 156 = some (0, .aload_n 0, 157, none, [], 0) := rfl
theorem i_RP_cell_157 : ix_nx mRP_cell 157 = some (0, .iload_n 1, 158, none, [], 0) := rfl
theorem i_RP_cell_158 : ix_nx mRP_cell 158 = some (3, .invokevirtual 150, 161, none, [0, 17, 27], 0) := rfl
theorem i_RP_cell_161 : ix_nx mRP_cell 161 = some (3, .invokestatic 125, 164, none, [1, 13, 20], 0) := rfl
theorem i_RP_cell_164 : ix_nx mRP_cell 164 = some (4, .ireturn, 165, none, [], 0) := rfl
theorem i_RP_cell_165 : ix_nx mRP_cell 165 = some (0, .bipush (-2), 167, none, [], 0) := rfl
theorem i_RP_cell_167 : ix_nx mRP_cell 167 = some (4, .ireturn, 168, none, [], 0) := rfl
set_option maxRecDepth 20000 in
set_option maxHeartbeats 1000000 in
theorem e_RP_cell (a0 : Nat) (x1 : Int32) (x2 : Int32) (h : ixH) : ix_D mRP_cell 0 [some (.ref a0), some (.int x1), some (.int x2), none] [] h = (ix_gr h a0 0 0).bind fun v1 => (ix_gr h v1 1 0).bind fun v2 => (ix_M mGr_has [.ref v2, .int x1] h).bind fun r => ix_kZ r fun v4 h3 => if v4 = true then ix_sel x2 0 [(ix_gl h3 v2 2 5).bind fun v5 => (ix_M mRP_holds [.long v5, .int x1] h3).bind fun r => ix_kZ r fun v7 h6 => (ix_M mRP_flag [.int (ix_bi v7)] h6).bind fun r => ix_kI r fun v9 h8 => some ([.int v9], h8), (ix_M mGr_roleOf [.ref v2, .int x1] h3).bind fun r => ix_kI r fun v11 h10 => some ([.int v11], h10), (ix_M mGr_leversOf [.ref v2, .int x1] h3).bind fun r => ix_kI r fun v13 h12 => some ([.int v13], h12), (ix_M mRP_bit [.int x1] h3).bind fun r => ix_kL r fun v15 h14 => (ix_M mGr_around [.ref v2, .long v15] h14).bind fun r => ix_kL r fun v17 h16 => (ix_M mGr_open [.ref v2] h16).bind fun r => ix_kL r fun v19 h18 => (ix_M mRP_size [.long (v17 &&& v19)] h18).bind fun r => ix_kI r fun v21 h20 => some ([.int v21], h20), (ix_M mGr_behind [.ref v2, .int x1] h3).bind fun r => ix_kL r fun v23 h22 => (ix_M mRP_size [.long v23] h22).bind fun r => ix_kI r fun v25 h24 => some ([.int v25], h24), (ix_M mRP_smallestPass [.ref a0, .int 0] h3).bind fun r => ix_kL r fun v27 h26 => (ix_M mRP_holds [.long v27, .int x1] h26).bind fun r => ix_kZ r fun v29 h28 => (ix_M mRP_flag [.int (ix_bi v29)] h28).bind fun r => ix_kI r fun v31 h30 => some ([.int v31], h30), (ix_M mRP_smallestPass [.ref a0, .int 1] h3).bind fun r => ix_kL r fun v33 h32 => (ix_M mRP_holds [.long v33, .int x1] h32).bind fun r => ix_kZ r fun v35 h34 => (ix_M mRP_flag [.int (ix_bi v35)] h34).bind fun r => ix_kI r fun v37 h36 => some ([.int v37], h36), (ix_M mRP_firstGroup [.ref a0] h3).bind fun r => ix_kL r fun v39 h38 => (ix_M mRP_holds [.long v39, .int x1] h38).bind fun r => ix_kZ r fun v41 h40 => (ix_M mRP_flag [.int (ix_bi v41)] h40).bind fun r => ix_kI r fun v43 h42 => some ([.int v43], h42), (ix_M mRP_isInSomeGreatestGroup [.ref a0, .int x1] h3).bind fun r => ix_kZ r fun v45 h44 => (ix_M mRP_flag [.int (ix_bi v45)] h44).bind fun r => ix_kI r fun v47 h46 => some ([.int v47], h46)] (some ([.int (-2)], h3)) else some ([.int (-1)], h3) := by
  refine ix_K_px kq_RP_cell i_RP_cell_0 rfl rfl ?_
  refine ix_K_gr kq_RP_cell i_RP_cell_1 rfl (fun v1 => ?_)
  refine ix_K_gr kq_RP_cell i_RP_cell_4 rfl (fun v2 => ?_)
  refine ix_K_sr (L2 := [some (.ref a0), some (.int x1), some (.int x2), some (.ref v2)]) kq_RP_cell i_RP_cell_7 rfl (Or.inr ⟨_, rfl, rfl⟩) (Nat.le_of_ble_eq_true rfl) rfl ?_
  refine ix_K_px kq_RP_cell i_RP_cell_8 rfl rfl ?_
  refine ix_K_px kq_RP_cell i_RP_cell_9 rfl rfl ?_
  refine ix_K_callZ (as := [.ref v2, .int x1]) (rest := []) kq_RP_cell i_RP_cell_10 rfl kq_Gr_has (by decide) rfl rfl (fun v4 h3 => ?_)
  refine ix_K_bz_ne (tgt := 18) kq_RP_cell i_RP_cell_13 rfl (by decide) ?_ ?_
  · refine ix_K_px kq_RP_cell i_RP_cell_18 rfl rfl ?_
    refine ix_K_tsw (tg := [68, 80, 86, 92, 109, 118, 131, 144, 156]) (dt := 165) kq_RP_cell i_RP_cell_19 rfl (by decide) (by decide) (by decide) (by decide) (ix_lc ?_ (ix_lc ?_ (ix_lc ?_ (ix_lc ?_ (ix_lc ?_ (ix_lc ?_ (ix_lc ?_ (ix_lc ?_ (ix_lc ?_ rfl))))))))) ?_
    · refine ix_K_px kq_RP_cell i_RP_cell_68 rfl rfl ?_
      refine ix_K_gl kq_RP_cell i_RP_cell_69 rfl (fun v5 => ?_)
      refine ix_K_px kq_RP_cell i_RP_cell_72 rfl rfl ?_
      refine ix_K_callZ (as := [.long v5, .int x1]) (rest := []) kq_RP_cell i_RP_cell_73 rfl kq_RP_holds (by decide) rfl rfl (fun v7 h6 => ?_)
      refine ix_K_callI (as := [.int (ix_bi v7)]) (rest := []) kq_RP_cell i_RP_cell_76 rfl kq_RP_flag (by decide) rfl (Or.inl rfl) (fun v9 h8 => ?_)
      exact ix_D_ret kq_RP_cell i_RP_cell_79 (ix_rtI rfl _)
    · refine ix_K_px kq_RP_cell i_RP_cell_80 rfl rfl ?_
      refine ix_K_px kq_RP_cell i_RP_cell_81 rfl rfl ?_
      refine ix_K_callI (as := [.ref v2, .int x1]) (rest := []) kq_RP_cell i_RP_cell_82 rfl kq_Gr_roleOf (by decide) rfl (Or.inl rfl) (fun v11 h10 => ?_)
      exact ix_D_ret kq_RP_cell i_RP_cell_85 (ix_rtI rfl _)
    · refine ix_K_px kq_RP_cell i_RP_cell_86 rfl rfl ?_
      refine ix_K_px kq_RP_cell i_RP_cell_87 rfl rfl ?_
      refine ix_K_callI (as := [.ref v2, .int x1]) (rest := []) kq_RP_cell i_RP_cell_88 rfl kq_Gr_leversOf (by decide) rfl (Or.inl rfl) (fun v13 h12 => ?_)
      exact ix_D_ret kq_RP_cell i_RP_cell_91 (ix_rtI rfl _)
    · refine ix_K_px kq_RP_cell i_RP_cell_92 rfl rfl ?_
      refine ix_K_px kq_RP_cell i_RP_cell_93 rfl rfl ?_
      refine ix_K_callL (as := [.int x1]) (rest := [.ref v2]) kq_RP_cell i_RP_cell_94 rfl kq_RP_bit (by decide) rfl rfl (fun v15 h14 => ?_)
      refine ix_K_callL (as := [.ref v2, .long v15]) (rest := []) kq_RP_cell i_RP_cell_97 rfl kq_Gr_around (by decide) rfl rfl (fun v17 h16 => ?_)
      refine ix_K_px kq_RP_cell i_RP_cell_100 rfl rfl ?_
      refine ix_K_callL (as := [.ref v2]) (rest := [.long v17]) kq_RP_cell i_RP_cell_101 rfl kq_Gr_open (by decide) rfl rfl (fun v19 h18 => ?_)
      refine ix_K_px kq_RP_cell i_RP_cell_104 rfl rfl ?_
      refine ix_K_callI (as := [.long (v17 &&& v19)]) (rest := []) kq_RP_cell i_RP_cell_105 rfl kq_RP_size (by decide) rfl (Or.inl rfl) (fun v21 h20 => ?_)
      exact ix_D_ret kq_RP_cell i_RP_cell_108 (ix_rtI rfl _)
    · refine ix_K_px kq_RP_cell i_RP_cell_109 rfl rfl ?_
      refine ix_K_px kq_RP_cell i_RP_cell_110 rfl rfl ?_
      refine ix_K_callL (as := [.ref v2, .int x1]) (rest := []) kq_RP_cell i_RP_cell_111 rfl kq_Gr_behind (by decide) rfl rfl (fun v23 h22 => ?_)
      refine ix_K_callI (as := [.long v23]) (rest := []) kq_RP_cell i_RP_cell_114 rfl kq_RP_size (by decide) rfl (Or.inl rfl) (fun v25 h24 => ?_)
      exact ix_D_ret kq_RP_cell i_RP_cell_117 (ix_rtI rfl _)
    · refine ix_K_px kq_RP_cell i_RP_cell_118 rfl rfl ?_
      refine ix_K_ci kq_RP_cell i_RP_cell_119 rfl kci_0 ?_
      refine ix_K_callL (as := [.ref a0, .int 0]) (rest := []) kq_RP_cell i_RP_cell_120 rfl kq_RP_smallestPass (by decide) rfl rfl (fun v27 h26 => ?_)
      refine ix_K_px kq_RP_cell i_RP_cell_123 rfl rfl ?_
      refine ix_K_callZ (as := [.long v27, .int x1]) (rest := []) kq_RP_cell i_RP_cell_124 rfl kq_RP_holds (by decide) rfl rfl (fun v29 h28 => ?_)
      refine ix_K_callI (as := [.int (ix_bi v29)]) (rest := []) kq_RP_cell i_RP_cell_127 rfl kq_RP_flag (by decide) rfl (Or.inl rfl) (fun v31 h30 => ?_)
      exact ix_D_ret kq_RP_cell i_RP_cell_130 (ix_rtI rfl _)
    · refine ix_K_px kq_RP_cell i_RP_cell_131 rfl rfl ?_
      refine ix_K_ci kq_RP_cell i_RP_cell_132 rfl kci_1 ?_
      refine ix_K_callL (as := [.ref a0, .int 1]) (rest := []) kq_RP_cell i_RP_cell_133 rfl kq_RP_smallestPass (by decide) rfl rfl (fun v33 h32 => ?_)
      refine ix_K_px kq_RP_cell i_RP_cell_136 rfl rfl ?_
      refine ix_K_callZ (as := [.long v33, .int x1]) (rest := []) kq_RP_cell i_RP_cell_137 rfl kq_RP_holds (by decide) rfl rfl (fun v35 h34 => ?_)
      refine ix_K_callI (as := [.int (ix_bi v35)]) (rest := []) kq_RP_cell i_RP_cell_140 rfl kq_RP_flag (by decide) rfl (Or.inl rfl) (fun v37 h36 => ?_)
      exact ix_D_ret kq_RP_cell i_RP_cell_143 (ix_rtI rfl _)
    · refine ix_K_px kq_RP_cell i_RP_cell_144 rfl rfl ?_
      refine ix_K_callL (as := [.ref a0]) (rest := []) kq_RP_cell i_RP_cell_145 rfl kq_RP_firstGroup (by decide) rfl rfl (fun v39 h38 => ?_)
      refine ix_K_px kq_RP_cell i_RP_cell_148 rfl rfl ?_
      refine ix_K_callZ (as := [.long v39, .int x1]) (rest := []) kq_RP_cell i_RP_cell_149 rfl kq_RP_holds (by decide) rfl rfl (fun v41 h40 => ?_)
      refine ix_K_callI (as := [.int (ix_bi v41)]) (rest := []) kq_RP_cell i_RP_cell_152 rfl kq_RP_flag (by decide) rfl (Or.inl rfl) (fun v43 h42 => ?_)
      exact ix_D_ret kq_RP_cell i_RP_cell_155 (ix_rtI rfl _)
    · refine ix_K_px kq_RP_cell i_RP_cell_156 rfl rfl ?_
      refine ix_K_px kq_RP_cell i_RP_cell_157 rfl rfl ?_
      refine ix_K_callZ (as := [.ref a0, .int x1]) (rest := []) kq_RP_cell i_RP_cell_158 rfl kq_RP_isInSomeGreatestGroup (by decide) rfl rfl (fun v45 h44 => ?_)
      refine ix_K_callI (as := [.int (ix_bi v45)]) (rest := []) kq_RP_cell i_RP_cell_161 rfl kq_RP_flag (by decide) rfl (Or.inl rfl) (fun v47 h46 => ?_)
      exact ix_D_ret kq_RP_cell i_RP_cell_164 (ix_rtI rfl _)
    · refine ix_K_cb kq_RP_cell i_RP_cell_165 rfl kcb_m2 ?_
      exact ix_D_ret kq_RP_cell i_RP_cell_167 (ix_rtI rfl _)
  · refine ix_K_ci kq_RP_cell i_RP_cell_16 rfl kci_m1 ?_
    exact ix_D_ret kq_RP_cell i_RP_cell_17 (ix_rtI rfl _)
theorem x_RP_cell {a0 : Nat} {x1 : Int32} {x2 : Int32} {h h1 : ixH} {v : Int32} (hr : ix_rc h a0 = some 0) (hd : ix_D mRP_cell 0 [some (.ref a0), some (.int x1), some (.int x2), none] [] h = some ([.int v], h1)) : ix_M mRP_cell [.ref a0, .int x1, .int x2] h = some ([.int v], h1) := ix_M_of (ix_ent_i kq_RP_cell rfl hr rfl (Nat.le_of_ble_eq_true rfl) rfl) hd (ix_okrI (Or.inl rfl) v)
theorem i_RP_flag_0 : ix_nx mRP_flag 0 = some (0, .iload_n 0, 1, none, [], 0) := rfl
theorem i_RP_flag_1 : ix_nx mRP_flag 1 = some (0, .ifCond .eq 7, 4, none, [], 0) := rfl
theorem i_RP_flag_4 : ix_nx mRP_flag 4 = some (0, .iconst 1, 5, none, [], 0) := rfl
theorem i_RP_flag_5 : ix_nx mRP_flag 5 = some (0, .goto 4, 8, none, [], 0) := rfl
theorem i_RP_flag_8 : ix_nx mRP_flag 8 = some (0, .iconst 0, 9, none, [], 0) := rfl
theorem i_RP_flag_9 : ix_nx mRP_flag 9 = some (4, .ireturn, 10, none, [], 0) := rfl
set_option maxRecDepth 20000 in
set_option maxHeartbeats 1000000 in
theorem e_RP_flag (b0 : Bool) (h : ixH) : ix_D mRP_flag 0 [some (.int (ix_bi b0))] [] h = if b0 = true then some ([.int 1], h) else some ([.int 0], h) := by
  refine ix_K_px kq_RP_flag i_RP_flag_0 rfl rfl ?_
  refine ix_K_bz_eq (tgt := 8) kq_RP_flag i_RP_flag_1 rfl (by decide) ?_ ?_
  · refine ix_K_ci kq_RP_flag i_RP_flag_4 rfl kci_1 ?_
    refine ix_K_goto (tgt := 9) kq_RP_flag i_RP_flag_5 rfl (by decide) ?_
    exact ix_D_ret kq_RP_flag i_RP_flag_9 (ix_rtI rfl _)
  · refine ix_K_ci kq_RP_flag i_RP_flag_8 rfl kci_0 ?_
    exact ix_D_ret kq_RP_flag i_RP_flag_9 (ix_rtI rfl _)
theorem x_RP_flag {b0 : Bool} {h h1 : ixH} {v : Int32} (hd : ix_D mRP_flag 0 [some (.int (ix_bi b0))] [] h = some ([.int v], h1)) : ix_M mRP_flag [.int (ix_bi b0)] h = some ([.int v], h1) := ix_M_of (ix_ent_s kq_RP_flag rfl rfl (Nat.le_of_ble_eq_true rfl) rfl) hd (ix_okrI (Or.inl rfl) v)
theorem i_RP_smallestPass_0 : ix_nx mRP_smallestPass 0 = some (0, .aload_n 0, 1, none, [], 0) := rfl
theorem i_RP_smallestPass_1 : ix_nx mRP_smallestPass 1 = some (1, .getfield 48, 4, none, [0, 6, 2, 77], 0) := rfl
theorem i_RP_smallestPass_4 : ix_nx mRP_smallestPass 4 = some (0, .aload_n 0, 5, none, [], 0) := rfl
theorem i_RP_smallestPass_5 : ix_nx mRP_smallestPass 5 = some (1, .getfield 10, 8, none, [0, 0, 2, 71], 0) := rfl
theorem i_RP_smallestPass_8 : ix_nx mRP_smallestPass 8 = some (1, .getfield 78, 11, none, [1, 0, 2, 31], 0) := rfl
theorem i_RP_smallestPass_11 : ix_nx mRP_smallestPass 11 = some (0, .aload_n 0, 12, none, [], 0) := rfl
theorem i_RP_smallestPass_12 : ix_nx mRP_smallestPass 12 = some (1, .getfield 10, 15, none, [0, 0, 2, 71], 0) := rfl
theorem i_RP_smallestPass_15 : ix_nx mRP_smallestPass 15 = some (1, .getfield 78, 18, none, [1, 0, 2, 31], 0) := rfl
theorem i_RP_smallestPass_18 : ix_nx mRP_smallestPass 18 = some (1, .getfield 94, 21, none, [2, 5, 1, 18], 0) := rfl
theorem i_RP_smallestPass_21 : ix_nx mRP_smallestPass 21 = some (0, .iload_n 1, 22, none, [], 0) := rfl
theorem i_RP_smallestPass_22 : ix_nx mRP_smallestPass 22 = some (3, .invokevirtual 214, 25, none, [0, 108, 28], 0) := rfl
theorem i_RP_smallestPass_25 : ix_nx mRP_smallestPass 25 = some (0, .pop, 26, none, [], 0) := rfl
theorem i_RP_smallestPass_26 : ix_nx mRP_smallestPass 26 = some (0, .aload_n 0, 27, none, [], 0) := rfl
theorem i_RP_smallestPass_27 : ix_nx mRP_smallestPass 27 = some (1, .getfield 48, 30, none, [0, 6, 2, 77], 0) := rfl
theorem i_RP_smallestPass_30 : ix_nx mRP_smallestPass 30 = some (3, .invokevirtual 311, 33, none, [0, 116, 29], 0) := rfl
theorem i_RP_smallestPass_33 : ix_nx mRP_smallestPass 33 = some (4, .lreturn, 34, none, [], 0) := rfl
set_option maxRecDepth 20000 in
set_option maxHeartbeats 1000000 in
theorem e_RP_smallestPass (a0 : Nat) (b1 : Bool) (h : ixH) : ix_D mRP_smallestPass 0 [some (.ref a0), some (.int (ix_bi b1))] [] h = (ix_gr h a0 0 6).bind fun v1 => (ix_gr h a0 0 0).bind fun v2 => (ix_gr h v2 1 0).bind fun v3 => (ix_gr h a0 0 0).bind fun v4 => (ix_gr h v4 1 0).bind fun v5 => (ix_gl h v5 2 5).bind fun v6 => (ix_M mSm_widen [.ref v1, .ref v3, .long v6, .int (ix_bi b1)] h).bind fun r => ix_kI r fun v8 h7 => (ix_gr h7 a0 0 6).bind fun v9 => (ix_M mSm_narrowest [.ref v9] h7).bind fun r => ix_kL r fun v11 h10 => some ([.long v11], h10) := by
  refine ix_K_px kq_RP_smallestPass i_RP_smallestPass_0 rfl rfl ?_
  refine ix_K_gr kq_RP_smallestPass i_RP_smallestPass_1 rfl (fun v1 => ?_)
  refine ix_K_px kq_RP_smallestPass i_RP_smallestPass_4 rfl rfl ?_
  refine ix_K_gr kq_RP_smallestPass i_RP_smallestPass_5 rfl (fun v2 => ?_)
  refine ix_K_gr kq_RP_smallestPass i_RP_smallestPass_8 rfl (fun v3 => ?_)
  refine ix_K_px kq_RP_smallestPass i_RP_smallestPass_11 rfl rfl ?_
  refine ix_K_gr kq_RP_smallestPass i_RP_smallestPass_12 rfl (fun v4 => ?_)
  refine ix_K_gr kq_RP_smallestPass i_RP_smallestPass_15 rfl (fun v5 => ?_)
  refine ix_K_gl kq_RP_smallestPass i_RP_smallestPass_18 rfl (fun v6 => ?_)
  refine ix_K_px kq_RP_smallestPass i_RP_smallestPass_21 rfl rfl ?_
  refine ix_K_callI (as := [.ref v1, .ref v3, .long v6, .int (ix_bi b1)]) (rest := []) kq_RP_smallestPass i_RP_smallestPass_22 rfl kq_Sm_widen (by decide) rfl (Or.inl rfl) (fun v8 h7 => ?_)
  refine ix_K_px kq_RP_smallestPass i_RP_smallestPass_25 rfl rfl ?_
  refine ix_K_px kq_RP_smallestPass i_RP_smallestPass_26 rfl rfl ?_
  refine ix_K_gr kq_RP_smallestPass i_RP_smallestPass_27 rfl (fun v9 => ?_)
  refine ix_K_callL (as := [.ref v9]) (rest := []) kq_RP_smallestPass i_RP_smallestPass_30 rfl kq_Sm_narrowest (by decide) rfl rfl (fun v11 h10 => ?_)
  exact ix_D_ret kq_RP_smallestPass i_RP_smallestPass_33 (ix_rtL rfl _)
theorem x_RP_smallestPass {a0 : Nat} {b1 : Bool} {h h1 : ixH} {v : Int64} (hr : ix_rc h a0 = some 0) (hd : ix_D mRP_smallestPass 0 [some (.ref a0), some (.int (ix_bi b1))] [] h = some ([.long v], h1)) : ix_M mRP_smallestPass [.ref a0, .int (ix_bi b1)] h = some ([.long v], h1) := ix_M_of (ix_ent_i kq_RP_smallestPass rfl hr rfl (Nat.le_of_ble_eq_true rfl) rfl) hd (ix_okrL rfl v)
theorem i_RP_firstGroup_0 : ix_nx mRP_firstGroup 0 = some (0, .aload_n 0, 1, none, [], 0) := rfl
theorem i_RP_firstGroup_1 : ix_nx mRP_firstGroup 1 = some (1, .getfield 55, 4, none, [0, 7, 2, 78], 0) := rfl
theorem i_RP_firstGroup_4 : ix_nx mRP_firstGroup 4 = some (0, .aload_n 0, 5, none, [], 0) := rfl
theorem i_RP_firstGroup_5 : ix_nx mRP_firstGroup 5 = some (1, .getfield 10, 8, none, [0, 0, 2, 71], 0) := rfl
theorem i_RP_firstGroup_8 : ix_nx mRP_firstGroup 8 = some (1, .getfield 78, 11, none, [1, 0, 2, 31], 0) := rfl
theorem i_RP_firstGroup_11 : ix_nx mRP_firstGroup 11 = some (0, .aload_n 0, 12, none, [], 0) := rfl
theorem i_RP_firstGroup_12 : ix_nx mRP_firstGroup 12 = some (1, .getfield 10, 15, none, [0, 0, 2, 71], 0) := rfl
theorem i_RP_firstGroup_15 : ix_nx mRP_firstGroup 15 = some (1, .getfield 78, 18, none, [1, 0, 2, 31], 0) := rfl
theorem i_RP_firstGroup_18 : ix_nx mRP_firstGroup 18 = some (0, .iconst 3, 19, none, [], 0) := rfl
theorem i_RP_firstGroup_19 : ix_nx mRP_firstGroup 19 = some (3, .invokevirtual 230, 22, none, [0, 73, 30], 0) := rfl
theorem i_RP_firstGroup_22 : ix_nx mRP_firstGroup 22 = some (3, .invokevirtual 233, 25, none, [0, 118, 31], 0) := rfl
theorem i_RP_firstGroup_25 : ix_nx mRP_firstGroup 25 = some (0, .pop, 26, none, [], 0) := rfl
theorem i_RP_firstGroup_26 : ix_nx mRP_firstGroup 26 = some (0, .aload_n 0, 27, none, [], 0) := rfl
theorem i_RP_firstGroup_27 : ix_nx mRP_firstGroup 27 = some (1, .getfield 55, 30, none, [0, 7, 2, 78], 0) := rfl
theorem i_RP_firstGroup_30 : ix_nx mRP_firstGroup 30 = some (3, .invokevirtual 314, 33, none, [0, 126, 32], 0) := rfl
theorem i_RP_firstGroup_33 : ix_nx mRP_firstGroup 33 = some (4, .lreturn, 34, none, [], 0) := rfl
set_option maxRecDepth 20000 in
set_option maxHeartbeats 1000000 in
theorem e_RP_firstGroup (a0 : Nat) (h : ixH) : ix_D mRP_firstGroup 0 [some (.ref a0)] [] h = (ix_gr h a0 0 7).bind fun v1 => (ix_gr h a0 0 0).bind fun v2 => (ix_gr h v2 1 0).bind fun v3 => (ix_gr h a0 0 0).bind fun v4 => (ix_gr h v4 1 0).bind fun v5 => (ix_M mGr_openWith [.ref v5, .int 3] h).bind fun r => ix_kL r fun v7 h6 => (ix_M mCh_join [.ref v1, .ref v3, .long v7] h6).bind fun r => ix_kI r fun v9 h8 => (ix_gr h8 a0 0 7).bind fun v10 => (ix_M mCh_lowestGroup [.ref v10] h8).bind fun r => ix_kL r fun v12 h11 => some ([.long v12], h11) := by
  refine ix_K_px kq_RP_firstGroup i_RP_firstGroup_0 rfl rfl ?_
  refine ix_K_gr kq_RP_firstGroup i_RP_firstGroup_1 rfl (fun v1 => ?_)
  refine ix_K_px kq_RP_firstGroup i_RP_firstGroup_4 rfl rfl ?_
  refine ix_K_gr kq_RP_firstGroup i_RP_firstGroup_5 rfl (fun v2 => ?_)
  refine ix_K_gr kq_RP_firstGroup i_RP_firstGroup_8 rfl (fun v3 => ?_)
  refine ix_K_px kq_RP_firstGroup i_RP_firstGroup_11 rfl rfl ?_
  refine ix_K_gr kq_RP_firstGroup i_RP_firstGroup_12 rfl (fun v4 => ?_)
  refine ix_K_gr kq_RP_firstGroup i_RP_firstGroup_15 rfl (fun v5 => ?_)
  refine ix_K_ci kq_RP_firstGroup i_RP_firstGroup_18 rfl kci_3 ?_
  refine ix_K_callL (as := [.ref v5, .int 3]) (rest := [.ref v3, .ref v1]) kq_RP_firstGroup i_RP_firstGroup_19 rfl kq_Gr_openWith (by decide) rfl rfl (fun v7 h6 => ?_)
  refine ix_K_callI (as := [.ref v1, .ref v3, .long v7]) (rest := []) kq_RP_firstGroup i_RP_firstGroup_22 rfl kq_Ch_join (by decide) rfl (Or.inl rfl) (fun v9 h8 => ?_)
  refine ix_K_px kq_RP_firstGroup i_RP_firstGroup_25 rfl rfl ?_
  refine ix_K_px kq_RP_firstGroup i_RP_firstGroup_26 rfl rfl ?_
  refine ix_K_gr kq_RP_firstGroup i_RP_firstGroup_27 rfl (fun v10 => ?_)
  refine ix_K_callL (as := [.ref v10]) (rest := []) kq_RP_firstGroup i_RP_firstGroup_30 rfl kq_Ch_lowestGroup (by decide) rfl rfl (fun v12 h11 => ?_)
  exact ix_D_ret kq_RP_firstGroup i_RP_firstGroup_33 (ix_rtL rfl _)
theorem x_RP_firstGroup {a0 : Nat} {h h1 : ixH} {v : Int64} (hr : ix_rc h a0 = some 0) (hd : ix_D mRP_firstGroup 0 [some (.ref a0)] [] h = some ([.long v], h1)) : ix_M mRP_firstGroup [.ref a0] h = some ([.long v], h1) := ix_M_of (ix_ent_i kq_RP_firstGroup rfl hr rfl (Nat.le_of_ble_eq_true rfl) rfl) hd (ix_okrL rfl v)
theorem i_RP_lowest_0 : ix_nx mRP_lowest 0 = some (0, .lload_n 0, 1, none, [], 0) := rfl
theorem i_RP_lowest_1 : ix_nx mRP_lowest 1 = some (0, .lload_n 0, 2, none, [], 0) := rfl
theorem i_RP_lowest_2 : ix_nx mRP_lowest 2 = some (0, .lneg, 3, none, [], 0) := rfl
theorem i_RP_lowest_3 : ix_nx mRP_lowest 3 = some (0, .land, 4, none, [], 0) := rfl
theorem i_RP_lowest_4 : ix_nx mRP_lowest 4 = some (0, .lconst 1, 5, none, [], 0) := rfl
theorem i_RP_lowest_5 : ix_nx mRP_lowest 5 = some (0, .lsub, 6, none, [], 0) := rfl
theorem i_RP_lowest_6 : ix_nx mRP_lowest 6 = some (3, .invokestatic 304, 9, none, [1, 246, 15], 0) := rfl
theorem i_RP_lowest_9 : ix_nx mRP_lowest 9 = some (4, .ireturn, 10, none, [], 0) := rfl
set_option maxRecDepth 20000 in
set_option maxHeartbeats 1000000 in
theorem e_RP_lowest (x0 : Int64) (h : ixH) : ix_D mRP_lowest 0 [some (.long x0), none] [] h = (ix_M mJL_bitCount [.long ((x0 &&& (-x0)) - 1)] h).bind fun r => ix_kI r fun v2 h1 => some ([.int v2], h1) := by
  refine ix_K_px kq_RP_lowest i_RP_lowest_0 rfl rfl ?_
  refine ix_K_px kq_RP_lowest i_RP_lowest_1 rfl rfl ?_
  refine ix_K_px kq_RP_lowest i_RP_lowest_2 rfl rfl ?_
  refine ix_K_px kq_RP_lowest i_RP_lowest_3 rfl rfl ?_
  refine ix_K_cl kq_RP_lowest i_RP_lowest_4 rfl kcl_1 ?_
  refine ix_K_px kq_RP_lowest i_RP_lowest_5 rfl rfl ?_
  refine ix_K_callI (as := [.long ((x0 &&& (-x0)) - 1)]) (rest := []) kq_RP_lowest i_RP_lowest_6 rfl kq_JL_bitCount (by decide) rfl (Or.inl rfl) (fun v2 h1 => ?_)
  exact ix_D_ret kq_RP_lowest i_RP_lowest_9 (ix_rtI rfl _)
theorem x_RP_lowest {x0 : Int64} {h h1 : ixH} {v : Int32} (hd : ix_D mRP_lowest 0 [some (.long x0), none] [] h = some ([.int v], h1)) : ix_M mRP_lowest [.long x0] h = some ([.int v], h1) := ix_M_of (ix_ent_s kq_RP_lowest rfl rfl (Nat.le_of_ble_eq_true rfl) rfl) hd (ix_okrI (Or.inl rfl) v)
theorem i_RP_isInSomeGreatestGroup_0 : ix_nx mRP_isInSomeGreatestGroup 0 = some (0, .aload_n 0, 1, none, [], 0) := rfl
theorem i_RP_isInSomeGreatestGroup_1 : ix_nx mRP_isInSomeGreatestGroup 1 = some (1, .getfield 10, 4, none, [0, 0, 2, 71], 0) := rfl
theorem i_RP_isInSomeGreatestGroup_4 : ix_nx mRP_isInSomeGreatestGroup 4 = some (1, .getfield 78, 7, none, [1, 0, 2, 31], 0) := rfl
theorem i_RP_isInSomeGreatestGroup_7 : ix_nx mRP_isInSomeGreatestGroup 7 = some (0, .iconst 3, 8, none, [], 0) := rfl
theorem i_RP_isInSomeGreatestGroup_8 : ix_nx mRP_isInSomeGreatestGroup 8 = some (3, .invokevirtual 230, 11, none, [0, 73, 30], 0) := rfl
theorem i_RP_isInSomeGreatestGroup_11 : ix_nx mRP_isInSomeGreatestGroup 11 = some (0, .lstore_n 2, 12, none, [], 0) := rfl
theorem i_RP_isInSomeGreatestGroup_12 : ix_nx mRP_isInSomeGreatestGroup 12 = some (0, .lload_n 2, 13, none, [], 0) := rfl
theorem i_RP_isInSomeGreatestGroup_13 : ix_nx mRP_isInSomeGreatestGroup 13 = some (0, .iload_n 1, 14, none, [], 0) := rfl
theorem i_RP_isInSomeGreatestGroup_14 : ix_nx mRP_isInSomeGreatestGroup 14 = some (3, .invokestatic 121, 17, none, [1, 8, 19], 0) := rfl
theorem i_RP_isInSomeGreatestGroup_17 : ix_nx mRP_isInSomeGreatestGroup 17 = some (0, .ifCond .ne 5, 20, none, [], 0) := rfl
theorem i_RP_isInSomeGreatestGroup_20 : ix_nx mRP_isInSomeGreatestGroup 20 = some (0, .iconst 0, 21, none, [], 0) := rfl
theorem i_RP_isInSomeGreatestGroup_21 : ix_nx mRP_isInSomeGreatestGroup 21 = some (4, .ireturn, 22, none, [], 0) := rfl
theorem i_RP_isInSomeGreatestGroup_22 : ix_nx mRP_isInSomeGreatestGroup 22 = some (0, .aload_n 0, 23, none, [], 0) := rfl
theorem i_RP_isInSomeGreatestGroup_23 : ix_nx mRP_isInSomeGreatestGroup 23 = some (1, .getfield 10, 26, none, [0, 0, 2, 71], 0) := rfl
theorem i_RP_isInSomeGreatestGroup_26 : ix_nx mRP_isInSomeGreatestGroup 26 = some (1, .getfield 78, 29, none, [1, 0, 2, 31], 0) := rfl
theorem i_RP_isInSomeGreatestGroup_29 : ix_nx mRP_isInSomeGreatestGroup 29 = some (0, .iload_n 1, 30, none, [], 0) := rfl
theorem i_RP_isInSomeGreatestGroup_30 : ix_nx mRP_isInSomeGreatestGroup 30 = some (3, .invokevirtual 140, 33, none, [0, 71, 24], 0) := rfl
theorem i_RP_isInSomeGreatestGroup_33 : ix_nx mRP_isInSomeGreatestGroup 33 = some (0, .aload_n 0, 34, none, [], 0) := rfl
theorem i_RP_isInSomeGreatestGroup_34 : ix_nx mRP_isInSomeGreatestGroup 34 = some (1, .getfield 10, 37, none, [0, 0, 2, 71], 0) := rfl
theorem i_RP_isInSomeGreatestGroup_37 : ix_nx mRP_isInSomeGreatestGroup 37 = some (1, .getfield 78, 40, none, [1, 0, 2, 31], 0) := rfl
theorem i_RP_isInSomeGreatestGroup_40 : ix_nx mRP_isInSomeGreatestGroup 40 = some (0, .iload_n 1, 41, none, [], 0) := rfl
theorem i_RP_isInSomeGreatestGroup_41 : ix_nx mRP_isInSomeGreatestGroup 41 = some (3, .invokevirtual 317, 44, none, [0, 74, 33], 0) := rfl
theorem i_RP_isInSomeGreatestGroup_44 : ix_nx mRP_isInSomeGreatestGroup 44 = some (0, .lor, 45, none, [], 0) := rfl
theorem i_RP_isInSomeGreatestGroup_45 : ix_nx mRP_isInSomeGreatestGroup 45 = some (0, .lstore 4, 47, none, [], 0) := rfl
theorem i_RP_isInSomeGreatestGroup_47 : ix_nx mRP_isInSomeGreatestGroup 47 = some (0, .aload_n 0, 48, none, [], 0) := rfl
theorem i_RP_isInSomeGreatestGroup_48 : ix_nx mRP_isInSomeGreatestGroup 48 = some (1, .getfield 55, 51, none, [0, 7, 2, 78], 0) := rfl
theorem i_RP_isInSomeGreatestGroup_51 : ix_nx mRP_isInSomeGreatestGroup 51 = some (0, .aload_n 0, 52, none, [], 0) := rfl
theorem i_RP_isInSomeGreatestGroup_52 : ix_nx mRP_isInSomeGreatestGroup 52 = some (1, .getfield 10, 55, none, [0, 0, 2, 71], 0) := rfl
theorem i_RP_isInSomeGreatestGroup_55 : ix_nx mRP_isInSomeGreatestGroup 55 = some (1, .getfield 78, 58, none, [1, 0, 2, 31], 0) := rfl
theorem i_RP_isInSomeGreatestGroup_58 : ix_nx mRP_isInSomeGreatestGroup 58 = some (0, .lload_n 2, 59, none, [], 0) := rfl
theorem i_RP_isInSomeGreatestGroup_59 : ix_nx mRP_isInSomeGreatestGroup 59 = some (0, .lload 4, 61, none, [], 0) := rfl
theorem i_RP_isInSomeGreatestGroup_61 : ix_nx mRP_isInSomeGreatestGroup 61 = some (0, .ldc2_w 102, 64, none, [1], -1) := rfl
theorem i_RP_isInSomeGreatestGroup_64 : ix_nx mRP_isInSomeGreatestGroup 64 = some (0, .lxor, 65, none, [], 0) := rfl
theorem i_RP_isInSomeGreatestGroup_65 : ix_nx mRP_isInSomeGreatestGroup 65 = some (0, .land, 66, none, [], 0) := rfl
theorem i_RP_isInSomeGreatestGroup_66 : ix_nx mRP_isInSomeGreatestGroup 66 = some (3, .invokevirtual 233, 69, none, [0, 118, 31], 0) := rfl
theorem i_RP_isInSomeGreatestGroup_69 : ix_nx mRP_isInSomeGreatestGroup 69 = some (0, .iconst 1, 70, none, [], 0) := rfl
theorem i_RP_isInSomeGreatestGroup_70 : ix_nx mRP_isInSomeGreatestGroup 70 = some (0, .iadd, 71, none, [], 0) := rfl
theorem i_RP_isInSomeGreatestGroup_71 : ix_nx mRP_isInSomeGreatestGroup 71 = some (0, .aload_n 0, 72, none, [], 0) := rfl
theorem i_RP_isInSomeGreatestGroup_72 : ix_nx mRP_isInSomeGreatestGroup 72 = some (1, .getfield 55, 75, none, [0, 7, 2, 78], 0) := rfl
theorem i_RP_isInSomeGreatestGroup_75 : ix_nx mRP_isInSomeGreatestGroup 75 = some (0, .aload_n 0, 76, none, [], 0) := rfl
theorem i_RP_isInSomeGreatestGroup_76 : ix_nx mRP_isInSomeGreatestGroup 76 = some (1, .getfield 10, 79, none, [0, 0, 2, 71], 0) := rfl
theorem i_RP_isInSomeGreatestGroup_79 : ix_nx mRP_isInSomeGreatestGroup 79 = some (1, .getfield 78, 82, none, [1, 0, 2, 31], 0) := rfl
theorem i_RP_isInSomeGreatestGroup_82 : ix_nx mRP_isInSomeGreatestGroup 82 = some (0, .lload_n 2, 83, none, [], 0) := rfl
theorem i_RP_isInSomeGreatestGroup_83 : ix_nx mRP_isInSomeGreatestGroup 83 = some (3, .invokevirtual 233, 86, none, [0, 118, 31], 0) := rfl
theorem i_RP_isInSomeGreatestGroup_86 : ix_nx mRP_isInSomeGreatestGroup 86 = some (0, .if_icmp .ne 7, 89, none, [], 0) := rfl
theorem i_RP_isInSomeGreatestGroup_89 : ix_nx mRP_isInSomeGreatestGroup 89 = some (0, .iconst 1, 90, none, [], 0) := rfl
theorem i_RP_isInSomeGreatestGroup_90 : ix_nx mRP_isInSomeGreatestGroup 90 = some (0, .goto 4, 93, none, [], 0) := rfl
theorem i_RP_isInSomeGreatestGroup_93 : ix_nx mRP_isInSomeGreatestGroup 93 = some (0, .iconst 0, 94, none, [], 0) := rfl
theorem i_RP_isInSomeGreatestGroup_94 : ix_nx mRP_isInSomeGreatestGroup 94 = some (4, .ireturn, 95, none, [], 0) := rfl
set_option maxRecDepth 20000 in
set_option maxHeartbeats 1000000 in
theorem e_RP_isInSomeGreatestGroup (a0 : Nat) (x1 : Int32) (h : ixH) : ix_D mRP_isInSomeGreatestGroup 0 [some (.ref a0), some (.int x1), none, none, none, none] [] h = (ix_gr h a0 0 0).bind fun v1 => (ix_gr h v1 1 0).bind fun v2 => (ix_M mGr_openWith [.ref v2, .int 3] h).bind fun r => ix_kL r fun v4 h3 => (ix_M mRP_holds [.long v4, .int x1] h3).bind fun r => ix_kZ r fun v6 h5 => if v6 = true then (ix_gr h5 a0 0 0).bind fun v7 => (ix_gr h5 v7 1 0).bind fun v8 => (ix_M mGr_behind [.ref v8, .int x1] h5).bind fun r => ix_kL r fun v10 h9 => (ix_gr h9 a0 0 0).bind fun v11 => (ix_gr h9 v11 1 0).bind fun v12 => (ix_M mGr_ahead [.ref v12, .int x1] h9).bind fun r => ix_kL r fun v14 h13 => (ix_gr h13 a0 0 7).bind fun v15 => (ix_gr h13 a0 0 0).bind fun v16 => (ix_gr h13 v16 1 0).bind fun v17 => (ix_M mCh_join [.ref v15, .ref v17, .long (v4 &&& ((v10 ||| v14) ^^^ (-1)))] h13).bind fun r => ix_kI r fun v19 h18 => (ix_gr h18 a0 0 7).bind fun v20 => (ix_gr h18 a0 0 0).bind fun v21 => (ix_gr h18 v21 1 0).bind fun v22 => (ix_M mCh_join [.ref v20, .ref v22, .long v4] h18).bind fun r => ix_kI r fun v24 h23 => if ¬ (v19 + 1) = v24 then some ([.int (ix_bi false)], h23) else some ([.int (ix_bi true)], h23) else some ([.int (ix_bi false)], h5) := by
  refine ix_K_px kq_RP_isInSomeGreatestGroup i_RP_isInSomeGreatestGroup_0 rfl rfl ?_
  refine ix_K_gr kq_RP_isInSomeGreatestGroup i_RP_isInSomeGreatestGroup_1 rfl (fun v1 => ?_)
  refine ix_K_gr kq_RP_isInSomeGreatestGroup i_RP_isInSomeGreatestGroup_4 rfl (fun v2 => ?_)
  refine ix_K_ci kq_RP_isInSomeGreatestGroup i_RP_isInSomeGreatestGroup_7 rfl kci_3 ?_
  refine ix_K_callL (as := [.ref v2, .int 3]) (rest := []) kq_RP_isInSomeGreatestGroup i_RP_isInSomeGreatestGroup_8 rfl kq_Gr_openWith (by decide) rfl rfl (fun v4 h3 => ?_)
  refine ix_K_sl (L2 := [some (.ref a0), some (.int x1), some (.long v4), none, none, none]) kq_RP_isInSomeGreatestGroup i_RP_isInSomeGreatestGroup_11 rfl (Or.inr ⟨_, rfl, rfl⟩) (Nat.le_of_ble_eq_true rfl) rfl ?_
  refine ix_K_px kq_RP_isInSomeGreatestGroup i_RP_isInSomeGreatestGroup_12 rfl rfl ?_
  refine ix_K_px kq_RP_isInSomeGreatestGroup i_RP_isInSomeGreatestGroup_13 rfl rfl ?_
  refine ix_K_callZ (as := [.long v4, .int x1]) (rest := []) kq_RP_isInSomeGreatestGroup i_RP_isInSomeGreatestGroup_14 rfl kq_RP_holds (by decide) rfl rfl (fun v6 h5 => ?_)
  refine ix_K_bz_ne (tgt := 22) kq_RP_isInSomeGreatestGroup i_RP_isInSomeGreatestGroup_17 rfl (by decide) ?_ ?_
  · refine ix_K_px kq_RP_isInSomeGreatestGroup i_RP_isInSomeGreatestGroup_22 rfl rfl ?_
    refine ix_K_gr kq_RP_isInSomeGreatestGroup i_RP_isInSomeGreatestGroup_23 rfl (fun v7 => ?_)
    refine ix_K_gr kq_RP_isInSomeGreatestGroup i_RP_isInSomeGreatestGroup_26 rfl (fun v8 => ?_)
    refine ix_K_px kq_RP_isInSomeGreatestGroup i_RP_isInSomeGreatestGroup_29 rfl rfl ?_
    refine ix_K_callL (as := [.ref v8, .int x1]) (rest := []) kq_RP_isInSomeGreatestGroup i_RP_isInSomeGreatestGroup_30 rfl kq_Gr_behind (by decide) rfl rfl (fun v10 h9 => ?_)
    refine ix_K_px kq_RP_isInSomeGreatestGroup i_RP_isInSomeGreatestGroup_33 rfl rfl ?_
    refine ix_K_gr kq_RP_isInSomeGreatestGroup i_RP_isInSomeGreatestGroup_34 rfl (fun v11 => ?_)
    refine ix_K_gr kq_RP_isInSomeGreatestGroup i_RP_isInSomeGreatestGroup_37 rfl (fun v12 => ?_)
    refine ix_K_px kq_RP_isInSomeGreatestGroup i_RP_isInSomeGreatestGroup_40 rfl rfl ?_
    refine ix_K_callL (as := [.ref v12, .int x1]) (rest := [.long v10]) kq_RP_isInSomeGreatestGroup i_RP_isInSomeGreatestGroup_41 rfl kq_Gr_ahead (by decide) rfl rfl (fun v14 h13 => ?_)
    refine ix_K_px kq_RP_isInSomeGreatestGroup i_RP_isInSomeGreatestGroup_44 rfl rfl ?_
    refine ix_K_sl (L2 := [some (.ref a0), some (.int x1), some (.long v4), none, some (.long (v10 ||| v14)), none]) kq_RP_isInSomeGreatestGroup i_RP_isInSomeGreatestGroup_45 rfl (Or.inl rfl) (Nat.le_of_ble_eq_true rfl) rfl ?_
    refine ix_K_px kq_RP_isInSomeGreatestGroup i_RP_isInSomeGreatestGroup_47 rfl rfl ?_
    refine ix_K_gr kq_RP_isInSomeGreatestGroup i_RP_isInSomeGreatestGroup_48 rfl (fun v15 => ?_)
    refine ix_K_px kq_RP_isInSomeGreatestGroup i_RP_isInSomeGreatestGroup_51 rfl rfl ?_
    refine ix_K_gr kq_RP_isInSomeGreatestGroup i_RP_isInSomeGreatestGroup_52 rfl (fun v16 => ?_)
    refine ix_K_gr kq_RP_isInSomeGreatestGroup i_RP_isInSomeGreatestGroup_55 rfl (fun v17 => ?_)
    refine ix_K_px kq_RP_isInSomeGreatestGroup i_RP_isInSomeGreatestGroup_58 rfl rfl ?_
    refine ix_K_px kq_RP_isInSomeGreatestGroup i_RP_isInSomeGreatestGroup_59 rfl rfl ?_
    refine ix_K_c2 kq_RP_isInSomeGreatestGroup i_RP_isInSomeGreatestGroup_61 rfl kc2_m1 ?_
    refine ix_K_px kq_RP_isInSomeGreatestGroup i_RP_isInSomeGreatestGroup_64 rfl rfl ?_
    refine ix_K_px kq_RP_isInSomeGreatestGroup i_RP_isInSomeGreatestGroup_65 rfl rfl ?_
    refine ix_K_callI (as := [.ref v15, .ref v17, .long (v4 &&& ((v10 ||| v14) ^^^ (-1)))]) (rest := []) kq_RP_isInSomeGreatestGroup i_RP_isInSomeGreatestGroup_66 rfl kq_Ch_join (by decide) rfl (Or.inl rfl) (fun v19 h18 => ?_)
    refine ix_K_ci kq_RP_isInSomeGreatestGroup i_RP_isInSomeGreatestGroup_69 rfl kci_1 ?_
    refine ix_K_px kq_RP_isInSomeGreatestGroup i_RP_isInSomeGreatestGroup_70 rfl rfl ?_
    refine ix_K_px kq_RP_isInSomeGreatestGroup i_RP_isInSomeGreatestGroup_71 rfl rfl ?_
    refine ix_K_gr kq_RP_isInSomeGreatestGroup i_RP_isInSomeGreatestGroup_72 rfl (fun v20 => ?_)
    refine ix_K_px kq_RP_isInSomeGreatestGroup i_RP_isInSomeGreatestGroup_75 rfl rfl ?_
    refine ix_K_gr kq_RP_isInSomeGreatestGroup i_RP_isInSomeGreatestGroup_76 rfl (fun v21 => ?_)
    refine ix_K_gr kq_RP_isInSomeGreatestGroup i_RP_isInSomeGreatestGroup_79 rfl (fun v22 => ?_)
    refine ix_K_px kq_RP_isInSomeGreatestGroup i_RP_isInSomeGreatestGroup_82 rfl rfl ?_
    refine ix_K_callI (as := [.ref v20, .ref v22, .long v4]) (rest := [.int (v19 + 1)]) kq_RP_isInSomeGreatestGroup i_RP_isInSomeGreatestGroup_83 rfl kq_Ch_join (by decide) rfl (Or.inl rfl) (fun v24 h23 => ?_)
    refine ix_K_ic_ne (tgt := 93) kq_RP_isInSomeGreatestGroup i_RP_isInSomeGreatestGroup_86 rfl (by decide) ?_ ?_
    · refine ix_K_ci kq_RP_isInSomeGreatestGroup i_RP_isInSomeGreatestGroup_93 rfl kci_0 ?_
      exact ix_D_ret kq_RP_isInSomeGreatestGroup i_RP_isInSomeGreatestGroup_94 (ix_rtZ rfl false)
    · refine ix_K_ci kq_RP_isInSomeGreatestGroup i_RP_isInSomeGreatestGroup_89 rfl kci_1 ?_
      refine ix_K_goto (tgt := 94) kq_RP_isInSomeGreatestGroup i_RP_isInSomeGreatestGroup_90 rfl (by decide) ?_
      exact ix_D_ret kq_RP_isInSomeGreatestGroup i_RP_isInSomeGreatestGroup_94 (ix_rtZ rfl true)
  · refine ix_K_ci kq_RP_isInSomeGreatestGroup i_RP_isInSomeGreatestGroup_20 rfl kci_0 ?_
    exact ix_D_ret kq_RP_isInSomeGreatestGroup i_RP_isInSomeGreatestGroup_21 (ix_rtZ rfl false)
theorem x_RP_isInSomeGreatestGroup {a0 : Nat} {x1 : Int32} {h h1 : ixH} {v : Bool} (hr : ix_rc h a0 = some 0) (hd : ix_D mRP_isInSomeGreatestGroup 0 [some (.ref a0), some (.int x1), none, none, none, none] [] h = some ([.int (ix_bi v)], h1)) : ix_M mRP_isInSomeGreatestGroup [.ref a0, .int x1] h = some ([.int (ix_bi v)], h1) := ix_M_of (ix_ent_i kq_RP_isInSomeGreatestGroup rfl hr rfl (Nat.le_of_ble_eq_true rfl) rfl) hd (ix_okrZ rfl v)
theorem i_RP_put_0 : ix_nx mRP_put 0 = some (0, .lload_n 1, 1, none, [], 0) := rfl
theorem i_RP_put_1 : ix_nx mRP_put 1 = some (3, .invokestatic 153, 4, none, [1, 90, 34], 0) := rfl
theorem i_RP_put_4 : ix_nx mRP_put 4 = some (0, .istore_n 3, 5, none, [], 0) := rfl
theorem i_RP_put_5 : ix_nx mRP_put 5 = some (0, .iload_n 3, 6, none, [], 0) := rfl
theorem i_RP_put_6 : ix_nx mRP_put 6 = some (0, .ifCond .ne 6, 9, none, [], 0) := rfl
theorem i_RP_put_9 : ix_nx mRP_put 9 = some (0, .bipush (-2), 11, none, [], 0) := rfl
theorem i_RP_put_11 : ix_nx mRP_put 11 = some (4, .ireturn, 12, none, [], 0) := rfl
theorem i_RP_put_12 : ix_nx mRP_put 12 = some (0, .aload_n 0, 13, none, [], 0) := rfl
theorem i_RP_put_13 : ix_nx mRP_put 13 = some (1, .getfield 27, 16, none, [0, 3, 2, 74], 0) := rfl
theorem i_RP_put_16 : ix_nx mRP_put 16 = some (0, .iload_n 3, 17, none, [], 0) := rfl
theorem i_RP_put_17 : ix_nx mRP_put 17 = some (3, .invokevirtual 156, 20, none, [0, 91, 35], 0) := rfl
theorem i_RP_put_20 : ix_nx mRP_put 20 = some (0, .ifCond .ne 6, 23, none, [], 0) := rfl
theorem i_RP_put_23 : ix_nx mRP_put 23 = some (0, .bipush (-4), 25, none, [], 0) := rfl
theorem i_RP_put_25 : ix_nx mRP_put 25 = some (4, .ireturn, 26, none, [], 0) := rfl
theorem i_RP_put_26 : ix_nx mRP_put 26 = some (0, .aload_n 0, 27, none, [], 0) := rfl
theorem i_RP_put_27 : ix_nx mRP_put 27 = some (1, .getfield 27, 30, none, [0, 3, 2, 74], 0) := rfl
theorem i_RP_put_30 : ix_nx mRP_put 30 = some (0, .lload_n 1, 31, none, [], 0) := rfl
theorem i_RP_put_31 : ix_nx mRP_put 31 = some (0, .iload_n 3, 32, none, [], 0) := rfl
theorem i_RP_put_32 : ix_nx mRP_put 32 = some (3, .invokevirtual 159, 35, none, [0, 92, 36], 0) := rfl
theorem i_RP_put_35 : ix_nx mRP_put 35 = some (0, .aload_n 0, 36, none, [], 0) := rfl
theorem i_RP_put_36 : ix_nx mRP_put 36 = some (1, .getfield 27, 39, none, [0, 3, 2, 74], 0) := rfl
theorem i_RP_put_39 : ix_nx mRP_put 39 = some (1, .getfield 163, 42, none, [4, 1, 0, 48], 0) := rfl
theorem i_RP_put_42 : ix_nx mRP_put 42 = some (4, .ireturn, 43, none, [], 0) := rfl
set_option maxRecDepth 20000 in
set_option maxHeartbeats 1000000 in
theorem e_RP_put (a0 : Nat) (x1 : Int64) (h : ixH) : ix_D mRP_put 0 [some (.ref a0), some (.long x1), none, none] [] h = (ix_M mPa_lengthOf [.long x1] h).bind fun r => ix_kI r fun v2 h1 => if ¬ v2 = 0 then (ix_gr h1 a0 0 3).bind fun v3 => (ix_M mPa_hasSpaceFor [.ref v3, .int v2] h1).bind fun r => ix_kZ r fun v5 h4 => if v5 = true then (ix_gr h4 a0 0 3).bind fun v6 => (ix_M mPa_append [.ref v6, .long x1, .int v2] h4).bind fun r => ix_kV r fun h7 => (ix_gr h7 a0 0 3).bind fun v8 => (ix_gi h7 v8 4 1).bind fun v9 => some ([.int v9], h7) else some ([.int (-4)], h4) else some ([.int (-2)], h1) := by
  refine ix_K_px kq_RP_put i_RP_put_0 rfl rfl ?_
  refine ix_K_callI (as := [.long x1]) (rest := []) kq_RP_put i_RP_put_1 rfl kq_Pa_lengthOf (by decide) rfl (Or.inl rfl) (fun v2 h1 => ?_)
  refine ix_K_si (L2 := [some (.ref a0), some (.long x1), none, some (.int v2)]) kq_RP_put i_RP_put_4 rfl (Or.inr ⟨_, rfl, rfl⟩) (Nat.le_of_ble_eq_true rfl) rfl ?_
  refine ix_K_px kq_RP_put i_RP_put_5 rfl rfl ?_
  refine ix_K_if_ne (tgt := 12) kq_RP_put i_RP_put_6 rfl (by decide) ?_ ?_
  · refine ix_K_px kq_RP_put i_RP_put_12 rfl rfl ?_
    refine ix_K_gr kq_RP_put i_RP_put_13 rfl (fun v3 => ?_)
    refine ix_K_px kq_RP_put i_RP_put_16 rfl rfl ?_
    refine ix_K_callZ (as := [.ref v3, .int v2]) (rest := []) kq_RP_put i_RP_put_17 rfl kq_Pa_hasSpaceFor (by decide) rfl rfl (fun v5 h4 => ?_)
    refine ix_K_bz_ne (tgt := 26) kq_RP_put i_RP_put_20 rfl (by decide) ?_ ?_
    · refine ix_K_px kq_RP_put i_RP_put_26 rfl rfl ?_
      refine ix_K_gr kq_RP_put i_RP_put_27 rfl (fun v6 => ?_)
      refine ix_K_px kq_RP_put i_RP_put_30 rfl rfl ?_
      refine ix_K_px kq_RP_put i_RP_put_31 rfl rfl ?_
      refine ix_K_callV (as := [.ref v6, .long x1, .int v2]) (rest := []) kq_RP_put i_RP_put_32 rfl kq_Pa_append (by decide) rfl rfl (fun h7 => ?_)
      refine ix_K_px kq_RP_put i_RP_put_35 rfl rfl ?_
      refine ix_K_gr kq_RP_put i_RP_put_36 rfl (fun v8 => ?_)
      refine ix_K_gi kq_RP_put i_RP_put_39 rfl (fun v9 => ?_)
      exact ix_D_ret kq_RP_put i_RP_put_42 (ix_rtI rfl _)
    · refine ix_K_cb kq_RP_put i_RP_put_23 rfl kcb_m4 ?_
      exact ix_D_ret kq_RP_put i_RP_put_25 (ix_rtI rfl _)
  · refine ix_K_cb kq_RP_put i_RP_put_9 rfl kcb_m2 ?_
    exact ix_D_ret kq_RP_put i_RP_put_11 (ix_rtI rfl _)
theorem x_RP_put {a0 : Nat} {x1 : Int64} {h h1 : ixH} {v : Int32} (hr : ix_rc h a0 = some 0) (hd : ix_D mRP_put 0 [some (.ref a0), some (.long x1), none, none] [] h = some ([.int v], h1)) : ix_M mRP_put [.ref a0, .long x1] h = some ([.int v], h1) := ix_M_of (ix_ent_i kq_RP_put rfl hr rfl (Nat.le_of_ble_eq_true rfl) rfl) hd (ix_okrI (Or.inl rfl) v)
theorem i_RP_wipe_0 : ix_nx mRP_wipe 0 = some (0, .aload_n 0, 1, none, [], 0) := rfl
theorem i_RP_wipe_1 : ix_nx mRP_wipe 1 = some (1, .getfield 27, 4, none, [0, 3, 2, 74], 0) := rfl
theorem i_RP_wipe_4 : ix_nx mRP_wipe 4 = some (1, .getfield 163, 7, none, [4, 1, 0, 48], 0) := rfl
theorem i_RP_wipe_7 : ix_nx mRP_wipe 7 = some (0, .istore_n 1, 8, none, [], 0) := rfl
theorem i_RP_wipe_8 : ix_nx mRP_wipe 8 = some (0, .aload_n 0, 9, none, [], 0) := rfl
theorem i_RP_wipe_9 : ix_nx mRP_wipe 9 = some (1, .getfield 27, 12, none, [0, 3, 2, 74], 0) := rfl
theorem i_RP_wipe_12 : ix_nx mRP_wipe 12 = some (0, .iconst 0, 13, none, [], 0) := rfl
theorem i_RP_wipe_13 : ix_nx mRP_wipe 13 = some (2, .putfield 163, 16, none, [4, 1, 0, 48], 0) := rfl
theorem i_RP_wipe_16 : ix_nx mRP_wipe 16 = some (0, .iload_n 1, 17, none, [], 0) := rfl
theorem i_RP_wipe_17 : ix_nx mRP_wipe 17 = some (4, .ireturn, 18, none, [], 0) := rfl
set_option maxRecDepth 20000 in
set_option maxHeartbeats 1000000 in
theorem e_RP_wipe (a0 : Nat) (h : ixH) : ix_D mRP_wipe 0 [some (.ref a0), none] [] h = (ix_gr h a0 0 3).bind fun v1 => (ix_gi h v1 4 1).bind fun v2 => (ix_gr h a0 0 3).bind fun v3 => (ix_pf h v3 4 1 (.int 0)).bind fun h4 => some ([.int v2], h4) := by
  refine ix_K_px kq_RP_wipe i_RP_wipe_0 rfl rfl ?_
  refine ix_K_gr kq_RP_wipe i_RP_wipe_1 rfl (fun v1 => ?_)
  refine ix_K_gi kq_RP_wipe i_RP_wipe_4 rfl (fun v2 => ?_)
  refine ix_K_si (L2 := [some (.ref a0), some (.int v2)]) kq_RP_wipe i_RP_wipe_7 rfl (Or.inr ⟨_, rfl, rfl⟩) (Nat.le_of_ble_eq_true rfl) rfl ?_
  refine ix_K_px kq_RP_wipe i_RP_wipe_8 rfl rfl ?_
  refine ix_K_gr kq_RP_wipe i_RP_wipe_9 rfl (fun v3 => ?_)
  refine ix_K_ci kq_RP_wipe i_RP_wipe_12 rfl kci_0 ?_
  refine ix_K_pf kq_RP_wipe i_RP_wipe_13 rfl rfl (fun h4 => ?_)
  refine ix_K_px kq_RP_wipe i_RP_wipe_16 rfl rfl ?_
  exact ix_D_ret kq_RP_wipe i_RP_wipe_17 (ix_rtI rfl _)
theorem x_RP_wipe {a0 : Nat} {h h1 : ixH} {v : Int32} (hr : ix_rc h a0 = some 0) (hd : ix_D mRP_wipe 0 [some (.ref a0), none] [] h = some ([.int v], h1)) : ix_M mRP_wipe [.ref a0] h = some ([.int v], h1) := ix_M_of (ix_ent_i kq_RP_wipe rfl hr rfl (Nat.le_of_ble_eq_true rfl) rfl) hd (ix_okrI (Or.inl rfl) v)
theorem i_RP_fault_0 : ix_nx mRP_fault 0 = some (0, .aload_n 0, 1, none, [], 0) := rfl
theorem i_RP_fault_1 : ix_nx mRP_fault 1 = some (1, .getfield 27, 4, none, [0, 3, 2, 74], 0) := rfl
theorem i_RP_fault_4 : ix_nx mRP_fault 4 = some (3, .invokevirtual 167, 7, none, [0, 93, 37], 0) := rfl
theorem i_RP_fault_7 : ix_nx mRP_fault 7 = some (4, .ireturn, 8, none, [], 0) := rfl
set_option maxRecDepth 20000 in
set_option maxHeartbeats 1000000 in
theorem e_RP_fault (a0 : Nat) (h : ixH) : ix_D mRP_fault 0 [some (.ref a0)] [] h = (ix_gr h a0 0 3).bind fun v1 => (ix_M mPa_firstFault [.ref v1] h).bind fun r => ix_kI r fun v3 h2 => some ([.int v3], h2) := by
  refine ix_K_px kq_RP_fault i_RP_fault_0 rfl rfl ?_
  refine ix_K_gr kq_RP_fault i_RP_fault_1 rfl (fun v1 => ?_)
  refine ix_K_callI (as := [.ref v1]) (rest := []) kq_RP_fault i_RP_fault_4 rfl kq_Pa_firstFault (by decide) rfl (Or.inl rfl) (fun v3 h2 => ?_)
  exact ix_D_ret kq_RP_fault i_RP_fault_7 (ix_rtI rfl _)
theorem x_RP_fault {a0 : Nat} {h h1 : ixH} {v : Int32} (hr : ix_rc h a0 = some 0) (hd : ix_D mRP_fault 0 [some (.ref a0)] [] h = some ([.int v], h1)) : ix_M mRP_fault [.ref a0] h = some ([.int v], h1) := ix_M_of (ix_ent_i kq_RP_fault rfl hr rfl (Nat.le_of_ble_eq_true rfl) rfl) hd (ix_okrI (Or.inl rfl) v)
theorem i_RP_load_0 : ix_nx mRP_load 0 = some (0, .aload_n 0, 1, none, [], 0) := rfl
theorem i_RP_load_1 : ix_nx mRP_load 1 = some (1, .getfield 27, 4, none, [0, 3, 2, 74], 0) := rfl
theorem i_RP_load_4 : ix_nx mRP_load 4 = some (3, .invokevirtual 167, 7, none, [0, 93, 37], 0) := rfl
theorem i_RP_load_7 : ix_nx mRP_load 7 = some (0, .bipush (-6), 9, none, [], 0) := rfl
theorem i_RP_load_9 : ix_nx mRP_load 9 = some (0, .if_icmp .eq 6, 12, none, [], 0) := rfl
theorem i_RP_load_12 : ix_nx mRP_load 12 = some (0, .bipush (-3), 14, none, [], 0) := rfl
theorem i_RP_load_14 : ix_nx mRP_load 14 = some (4, .ireturn, 15, none, [], 0) := rfl
theorem i_RP_load_15 : ix_nx mRP_load 15 = some (0, .aload_n 0, 16, none, [], 0) := rfl
theorem i_RP_load_16 : ix_nx mRP_load 16 = some (1, .getfield 10, 19, none, [0, 0, 2, 71], 0) := rfl
theorem i_RP_load_19 : ix_nx mRP_load 19 = some (0, .aload_n 0, 20, none, [], 0) := rfl
theorem i_RP_load_20 : ix_nx mRP_load 20 = some (1, .getfield 27, 23, none, [0, 3, 2, 74], 0) := rfl
theorem i_RP_load_23 : ix_nx mRP_load 23 = some (3, .invokevirtual 170, 26, none, [0, 96, 38], 0) := rfl
theorem i_RP_load_26 : ix_nx mRP_load 26 = some (0, .aload_n 0, 27, none, [], 0) := rfl
theorem i_RP_load_27 : ix_nx mRP_load 27 = some (1, .getfield 27, 30, none, [0, 3, 2, 74], 0) := rfl
theorem i_RP_load_30 : ix_nx mRP_load 30 = some (3, .invokevirtual 173, 33, none, [0, 97, 39], 0) := rfl
theorem i_RP_load_33 : ix_nx mRP_load 33 = some (3, .invokevirtual 70, 36, none, [0, 56, 8], 0) := rfl
theorem i_RP_load_36 : ix_nx mRP_load 36 = some (0, .aload_n 0, 37, none, [], 0) := rfl
theorem i_RP_load_37 : ix_nx mRP_load 37 = some (1, .getfield 27, 40, none, [0, 3, 2, 74], 0) := rfl
theorem i_RP_load_40 : ix_nx mRP_load 40 = some (0, .aload_n 0, 41, none, [], 0) := rfl
theorem i_RP_load_41 : ix_nx mRP_load 41 = some (1, .getfield 10, 44, none, [0, 0, 2, 71], 0) := rfl
theorem i_RP_load_44 : ix_nx mRP_load 44 = some (1, .getfield 78, 47, none, [1, 0, 2, 31], 0) := rfl
theorem i_RP_load_47 : ix_nx mRP_load 47 = some (3, .invokevirtual 176, 50, none, [0, 98, 40], 0) := rfl
theorem i_RP_load_50 : ix_nx mRP_load 50 = some (0, .aload_n 0, 51, none, [], 0) := rfl
theorem i_RP_load_51 : ix_nx mRP_load 51 = some (1, .getfield 27, 54, none, [0, 3, 2, 74], 0) := rfl
theorem i_RP_load_54 : ix_nx mRP_load 54 = some (0, .iconst 0, 55, none, [], 0) := rfl
theorem i_RP_load_55 : ix_nx mRP_load 55 = some (2, .putfield 163, 58, none, [4, 1, 0, 48], 0) := rfl
theorem i_RP_load_58 : ix_nx mRP_load 58 = some (0, .aload_n 0, 59, none, [], 0) := rfl
theorem i_RP_load_59 : ix_nx mRP_load 59 = some (1, .getfield 10, 62, none, [0, 0, 2, 71], 0) := rfl
theorem i_RP_load_62 : ix_nx mRP_load 62 = some (1, .getfield 78, 65, none, [1, 0, 2, 31], 0) := rfl
theorem i_RP_load_65 : ix_nx mRP_load 65 = some (3, .invokevirtual 82, 68, none, [0, 62, 10], 0) := rfl
theorem i_RP_load_68 : ix_nx mRP_load 68 = some (4, .ireturn, 69, none, [], 0) := rfl
set_option maxRecDepth 20000 in
set_option maxHeartbeats 1000000 in
theorem e_RP_load (a0 : Nat) (h : ixH) : ix_D mRP_load 0 [some (.ref a0)] [] h = (ix_gr h a0 0 3).bind fun v1 => (ix_M mPa_firstFault [.ref v1] h).bind fun r => ix_kI r fun v3 h2 => if v3 = (-6) then (ix_gr h2 a0 0 0).bind fun v4 => (ix_gr h2 a0 0 3).bind fun v5 => (ix_M mPa_gridWidth [.ref v5] h2).bind fun r => ix_kI r fun v7 h6 => (ix_gr h6 a0 0 3).bind fun v8 => (ix_M mPa_gridHeight [.ref v8] h6).bind fun r => ix_kI r fun v10 h9 => (ix_M mBd_begin [.ref v4, .int v7, .int v10] h9).bind fun r => ix_kV r fun h11 => (ix_gr h11 a0 0 3).bind fun v12 => (ix_gr h11 a0 0 0).bind fun v13 => (ix_gr h11 v13 1 0).bind fun v14 => (ix_M mPa_fill [.ref v12, .ref v14] h11).bind fun r => ix_kV r fun h15 => (ix_gr h15 a0 0 3).bind fun v16 => (ix_pf h15 v16 4 1 (.int 0)).bind fun h17 => (ix_gr h17 a0 0 0).bind fun v18 => (ix_gr h17 v18 1 0).bind fun v19 => (ix_M mGr_size [.ref v19] h17).bind fun r => ix_kI r fun v21 h20 => some ([.int v21], h20) else some ([.int (-3)], h2) := by
  refine ix_K_px kq_RP_load i_RP_load_0 rfl rfl ?_
  refine ix_K_gr kq_RP_load i_RP_load_1 rfl (fun v1 => ?_)
  refine ix_K_callI (as := [.ref v1]) (rest := []) kq_RP_load i_RP_load_4 rfl kq_Pa_firstFault (by decide) rfl (Or.inl rfl) (fun v3 h2 => ?_)
  refine ix_K_cb kq_RP_load i_RP_load_7 rfl kcb_m6 ?_
  refine ix_K_ic_eq (tgt := 15) kq_RP_load i_RP_load_9 rfl (by decide) ?_ ?_
  · refine ix_K_px kq_RP_load i_RP_load_15 rfl rfl ?_
    refine ix_K_gr kq_RP_load i_RP_load_16 rfl (fun v4 => ?_)
    refine ix_K_px kq_RP_load i_RP_load_19 rfl rfl ?_
    refine ix_K_gr kq_RP_load i_RP_load_20 rfl (fun v5 => ?_)
    refine ix_K_callI (as := [.ref v5]) (rest := [.ref v4]) kq_RP_load i_RP_load_23 rfl kq_Pa_gridWidth (by decide) rfl (Or.inl rfl) (fun v7 h6 => ?_)
    refine ix_K_px kq_RP_load i_RP_load_26 rfl rfl ?_
    refine ix_K_gr kq_RP_load i_RP_load_27 rfl (fun v8 => ?_)
    refine ix_K_callI (as := [.ref v8]) (rest := [.int v7, .ref v4]) kq_RP_load i_RP_load_30 rfl kq_Pa_gridHeight (by decide) rfl (Or.inl rfl) (fun v10 h9 => ?_)
    refine ix_K_callV (as := [.ref v4, .int v7, .int v10]) (rest := []) kq_RP_load i_RP_load_33 rfl kq_Bd_begin (by decide) rfl rfl (fun h11 => ?_)
    refine ix_K_px kq_RP_load i_RP_load_36 rfl rfl ?_
    refine ix_K_gr kq_RP_load i_RP_load_37 rfl (fun v12 => ?_)
    refine ix_K_px kq_RP_load i_RP_load_40 rfl rfl ?_
    refine ix_K_gr kq_RP_load i_RP_load_41 rfl (fun v13 => ?_)
    refine ix_K_gr kq_RP_load i_RP_load_44 rfl (fun v14 => ?_)
    refine ix_K_callV (as := [.ref v12, .ref v14]) (rest := []) kq_RP_load i_RP_load_47 rfl kq_Pa_fill (by decide) rfl rfl (fun h15 => ?_)
    refine ix_K_px kq_RP_load i_RP_load_50 rfl rfl ?_
    refine ix_K_gr kq_RP_load i_RP_load_51 rfl (fun v16 => ?_)
    refine ix_K_ci kq_RP_load i_RP_load_54 rfl kci_0 ?_
    refine ix_K_pf kq_RP_load i_RP_load_55 rfl rfl (fun h17 => ?_)
    refine ix_K_px kq_RP_load i_RP_load_58 rfl rfl ?_
    refine ix_K_gr kq_RP_load i_RP_load_59 rfl (fun v18 => ?_)
    refine ix_K_gr kq_RP_load i_RP_load_62 rfl (fun v19 => ?_)
    refine ix_K_callI (as := [.ref v19]) (rest := []) kq_RP_load i_RP_load_65 rfl kq_Gr_size (by decide) rfl (Or.inl rfl) (fun v21 h20 => ?_)
    exact ix_D_ret kq_RP_load i_RP_load_68 (ix_rtI rfl _)
  · refine ix_K_cb kq_RP_load i_RP_load_12 rfl kcb_m3 ?_
    exact ix_D_ret kq_RP_load i_RP_load_14 (ix_rtI rfl _)
theorem x_RP_load {a0 : Nat} {h h1 : ixH} {v : Int32} (hr : ix_rc h a0 = some 0) (hd : ix_D mRP_load 0 [some (.ref a0)] [] h = some ([.int v], h1)) : ix_M mRP_load [.ref a0] h = some ([.int v], h1) := ix_M_of (ix_ent_i kq_RP_load rfl hr rfl (Nat.le_of_ble_eq_true rfl) rfl) hd (ix_okrI (Or.inl rfl) v)
theorem i_RP_falling_0 : ix_nx mRP_falling 0 = some (0, .aload_n 0, 1, none, [], 0) := rfl
theorem i_RP_falling_1 : ix_nx mRP_falling 1 = some (1, .getfield 10, 4, none, [0, 0, 2, 71], 0) := rfl
theorem i_RP_falling_4 : ix_nx mRP_falling 4 = some (1, .getfield 78, 7, none, [1, 0, 2, 31], 0) := rfl
theorem i_RP_falling_7 : ix_nx mRP_falling 7 = some (0, .iload_n 1, 8, none, [], 0) := rfl
theorem i_RP_falling_8 : ix_nx mRP_falling 8 = some (3, .invokevirtual 88, 11, none, [0, 63, 11], 0) := rfl
theorem i_RP_falling_11 : ix_nx mRP_falling 11 = some (0, .ifCond .eq 17, 14, none, [], 0) := rfl
theorem i_RP_falling_14 : ix_nx mRP_falling 14 = some (0, .aload_n 0, 15, none, [], 0) := rfl
theorem i_RP_falling_15 : ix_nx mRP_falling 15 = some (1, .getfield 10, 18, none, [0, 0, 2, 71], 0) := rfl
theorem i_RP_falling_18 : ix_nx mRP_falling 18 = some (1, .getfield 78, 21, none, [1, 0, 2, 31], 0) := rfl
theorem i_RP_falling_21 : ix_nx mRP_falling 21 = some (0, .iload_n 2, 22, none, [], 0) := rfl
theorem i_RP_falling_22 : ix_nx mRP_falling 22 = some (3, .invokevirtual 88, 25, none, [0, 63, 11], 0) := rfl
theorem i_RP_falling_25 : ix_nx mRP_falling 25 = some (0, .ifCond .ne 7, 28, none, [], 0) := rfl
theorem i_RP_falling_28 : ix_nx mRP_falling 28 = some (0, .ldc2_w 180, 31, none, [8], -1000000000000000001) := rfl
theorem i_RP_falling_31 : ix_nx mRP_falling 31 = some (4, .lreturn, 32, none, [], 0) := rfl
theorem i_RP_falling_32 : ix_nx mRP_falling 32 = some (0, .aload_n 0, 33, none, [], 0) := rfl
theorem i_RP_falling_33 : ix_nx mRP_falling 33 = some (1, .getfield 34, 36, none, [0, 4, 2, 75], 0) := rfl
theorem i_RP_falling_36 : ix_nx mRP_falling 36 = some (0, .aload_n 0, 37, none, [], 0) := rfl
theorem i_RP_falling_37 : ix_nx mRP_falling 37 = some (1, .getfield 10, 40, none, [0, 0, 2, 71], 0) := rfl
theorem i_RP_falling_40 : ix_nx mRP_falling 40 = some (1, .getfield 78, 43, none, [1, 0, 2, 31], 0) := rfl
theorem i_RP_falling_43 : ix_nx mRP_falling 43 = some (0, .iload_n 1, 44, none, [], 0) := rfl
theorem i_RP_falling_44 : ix_nx mRP_falling 44 = some (3, .invokevirtual 182, 47, none, [0, 100, 41], 0) := rfl
theorem i_RP_falling_47 : ix_nx mRP_falling 47 = some (0, .aload_n 0, 48, none, [], 0) := rfl
theorem i_RP_falling_48 : ix_nx mRP_falling 48 = some (1, .getfield 34, 51, none, [0, 4, 2, 75], 0) := rfl
theorem i_RP_falling_51 : ix_nx mRP_falling 51 = some (0, .iload_n 2, 52, none, [], 0) := rfl
theorem i_RP_falling_52 : ix_nx mRP_falling 52 = some (3, .invokevirtual 186, 55, none, [0, 101, 42], 0) := rfl
theorem i_RP_falling_55 : ix_nx mRP_falling 55 = some (4, .lreturn, 56, none, [], 0) := rfl
set_option maxRecDepth 20000 in
set_option maxHeartbeats 1000000 in
theorem e_RP_falling (a0 : Nat) (x1 : Int32) (x2 : Int32) (h : ixH) : ix_D mRP_falling 0 [some (.ref a0), some (.int x1), some (.int x2)] [] h = (ix_gr h a0 0 0).bind fun v1 => (ix_gr h v1 1 0).bind fun v2 => (ix_M mGr_has [.ref v2, .int x1] h).bind fun r => ix_kZ r fun v4 h3 => if v4 = true then (ix_gr h3 a0 0 0).bind fun v5 => (ix_gr h3 v5 1 0).bind fun v6 => (ix_M mGr_has [.ref v6, .int x2] h3).bind fun r => ix_kZ r fun v8 h7 => if v8 = true then (ix_gr h7 a0 0 4).bind fun v9 => (ix_gr h7 a0 0 0).bind fun v10 => (ix_gr h7 v10 1 0).bind fun v11 => (ix_M mDe_spread [.ref v9, .ref v11, .int x1] h7).bind fun r => ix_kV r fun h12 => (ix_gr h12 a0 0 4).bind fun v13 => (ix_M mDe_waysTo [.ref v13, .int x2] h12).bind fun r => ix_kL r fun v15 h14 => some ([.long v15], h14) else some ([.long (-1000000000000000001)], h7) else some ([.long (-1000000000000000001)], h3) := by
  refine ix_K_px kq_RP_falling i_RP_falling_0 rfl rfl ?_
  refine ix_K_gr kq_RP_falling i_RP_falling_1 rfl (fun v1 => ?_)
  refine ix_K_gr kq_RP_falling i_RP_falling_4 rfl (fun v2 => ?_)
  refine ix_K_px kq_RP_falling i_RP_falling_7 rfl rfl ?_
  refine ix_K_callZ (as := [.ref v2, .int x1]) (rest := []) kq_RP_falling i_RP_falling_8 rfl kq_Gr_has (by decide) rfl rfl (fun v4 h3 => ?_)
  refine ix_K_bz_eq (tgt := 28) kq_RP_falling i_RP_falling_11 rfl (by decide) ?_ ?_
  · refine ix_K_px kq_RP_falling i_RP_falling_14 rfl rfl ?_
    refine ix_K_gr kq_RP_falling i_RP_falling_15 rfl (fun v5 => ?_)
    refine ix_K_gr kq_RP_falling i_RP_falling_18 rfl (fun v6 => ?_)
    refine ix_K_px kq_RP_falling i_RP_falling_21 rfl rfl ?_
    refine ix_K_callZ (as := [.ref v6, .int x2]) (rest := []) kq_RP_falling i_RP_falling_22 rfl kq_Gr_has (by decide) rfl rfl (fun v8 h7 => ?_)
    refine ix_K_bz_ne (tgt := 32) kq_RP_falling i_RP_falling_25 rfl (by decide) ?_ ?_
    · refine ix_K_px kq_RP_falling i_RP_falling_32 rfl rfl ?_
      refine ix_K_gr kq_RP_falling i_RP_falling_33 rfl (fun v9 => ?_)
      refine ix_K_px kq_RP_falling i_RP_falling_36 rfl rfl ?_
      refine ix_K_gr kq_RP_falling i_RP_falling_37 rfl (fun v10 => ?_)
      refine ix_K_gr kq_RP_falling i_RP_falling_40 rfl (fun v11 => ?_)
      refine ix_K_px kq_RP_falling i_RP_falling_43 rfl rfl ?_
      refine ix_K_callV (as := [.ref v9, .ref v11, .int x1]) (rest := []) kq_RP_falling i_RP_falling_44 rfl kq_De_spread (by decide) rfl rfl (fun h12 => ?_)
      refine ix_K_px kq_RP_falling i_RP_falling_47 rfl rfl ?_
      refine ix_K_gr kq_RP_falling i_RP_falling_48 rfl (fun v13 => ?_)
      refine ix_K_px kq_RP_falling i_RP_falling_51 rfl rfl ?_
      refine ix_K_callL (as := [.ref v13, .int x2]) (rest := []) kq_RP_falling i_RP_falling_52 rfl kq_De_waysTo (by decide) rfl rfl (fun v15 h14 => ?_)
      exact ix_D_ret kq_RP_falling i_RP_falling_55 (ix_rtL rfl _)
    · refine ix_K_c2 kq_RP_falling i_RP_falling_28 rfl kc2_m1000000000000000001 ?_
      exact ix_D_ret kq_RP_falling i_RP_falling_31 (ix_rtL rfl _)
  · refine ix_K_c2 kq_RP_falling i_RP_falling_28 rfl kc2_m1000000000000000001 ?_
    exact ix_D_ret kq_RP_falling i_RP_falling_31 (ix_rtL rfl _)
theorem x_RP_falling {a0 : Nat} {x1 : Int32} {x2 : Int32} {h h1 : ixH} {v : Int64} (hr : ix_rc h a0 = some 0) (hd : ix_D mRP_falling 0 [some (.ref a0), some (.int x1), some (.int x2)] [] h = some ([.long v], h1)) : ix_M mRP_falling [.ref a0, .int x1, .int x2] h = some ([.long v], h1) := ix_M_of (ix_ent_i kq_RP_falling rfl hr rfl (Nat.le_of_ble_eq_true rfl) rfl) hd (ix_okrL rfl v)
theorem i_RP_pair_0 : ix_nx mRP_pair 0 = some (0, .aload_n 0, 1, none, [], 0) := rfl
theorem i_RP_pair_1 : ix_nx mRP_pair 1 = some (1, .getfield 10, 4, none, [0, 0, 2, 71], 0) := rfl
theorem i_RP_pair_4 : ix_nx mRP_pair 4 = some (1, .getfield 78, 7, none, [1, 0, 2, 31], 0) := rfl
theorem i_RP_pair_7 : ix_nx mRP_pair 7 = some (0, .iload_n 1, 8, none, [], 0) := rfl
theorem i_RP_pair_8 : ix_nx mRP_pair 8 = some (3, .invokevirtual 88, 11, none, [0, 63, 11], 0) := rfl
theorem i_RP_pair_11 : ix_nx mRP_pair 11 = some (0, .ifCond .eq 17, 14, none, [], 0) := rfl
theorem i_RP_pair_14 : ix_nx mRP_pair 14 = some (0, .aload_n 0, 15, none, [], 0) := rfl
theorem i_RP_pair_15 : ix_nx mRP_pair 15 = some (1, .getfield 10, 18, none, [0, 0, 2, 71], 0) := rfl
theorem i_RP_pair_18 : ix_nx mRP_pair 18 = some (1, .getfield 78, 21, none, [1, 0, 2, 31], 0) := rfl
theorem i_RP_pair_21 : ix_nx mRP_pair 21 = some (0, .iload_n 2, 22, none, [], 0) := rfl
theorem i_RP_pair_22 : ix_nx mRP_pair 22 = some (3, .invokevirtual 88, 25, none, [0, 63, 11], 0) := rfl
theorem i_RP_pair_25 : ix_nx mRP_pair 25 = some (0, .ifCond .ne 5, 28, none, [], 0) := rfl
theorem i_RP_pair_28 : ix_nx mRP_pair 28 = some (0, .iconst (-1), 29, none, [], 0) := rfl
theorem i_RP_pair_29 : ix_nx mRP_pair 29 = some (4, .ireturn, 30, none, [], 0) := rfl
theorem i_RP_pair_30 : ix_nx mRP_pair 30 = some (0, .aload_n 0, 31, none, [], 0) := rfl
theorem i_RP_pair_31 : ix_nx mRP_pair 31 = some (1, .getfield 10, 34, none, [0, 0, 2, 71], 0) := rfl
theorem i_RP_pair_34 : ix_nx mRP_pair 34 = some (0, .iload_n 1, 35, none, [], 0) := rfl
theorem i_RP_pair_35 : ix_nx mRP_pair 35 = some (0, .iload_n 2, 36, none, [], 0) := rfl
theorem i_RP_pair_36 : ix_nx mRP_pair 36 = some (3, .invokevirtual 189, 39, none, [0, 57, 43], 0) := rfl
theorem i_RP_pair_39 : ix_nx mRP_pair 39 = some (0, .ifCond .eq 15, 42, none, [], 0) := rfl
theorem i_RP_pair_42 : ix_nx mRP_pair 42 = some (0, .aload_n 0, 43, none, [], 0) := rfl
theorem i_RP_pair_43 : ix_nx mRP_pair 43 = some (1, .getfield 10, 46, none, [0, 0, 2, 71], 0) := rfl
theorem i_RP_pair_46 : ix_nx mRP_pair 46 = some (1, .getfield 193, 49, none, [1, 4, 0, 45], 0) := rfl
theorem i_RP_pair_49 : ix_nx mRP_pair 49 = some (0, .iconst 1, 50, none, [], 0) := rfl
theorem i_RP_pair_50 : ix_nx mRP_pair 50 = some (0, .isub, 51, none, [], 0) := rfl
theorem i_RP_pair_51 : ix_nx mRP_pair 51 = some (0, .goto 5, 54, none, [], 0) := rfl
theorem i_RP_pair_54 : ix_nx mRP_pair 54 = some (0, .bipush (-4), 56, none, [], 0) := rfl
theorem i_RP_pair_56 : ix_nx mRP_pair 56 = some (4, .ireturn, 57, none, [], 0) := rfl
set_option maxRecDepth 20000 in
set_option maxHeartbeats 1000000 in
theorem e_RP_pair (a0 : Nat) (x1 : Int32) (x2 : Int32) (h : ixH) : ix_D mRP_pair 0 [some (.ref a0), some (.int x1), some (.int x2)] [] h = (ix_gr h a0 0 0).bind fun v1 => (ix_gr h v1 1 0).bind fun v2 => (ix_M mGr_has [.ref v2, .int x1] h).bind fun r => ix_kZ r fun v4 h3 => if v4 = true then (ix_gr h3 a0 0 0).bind fun v5 => (ix_gr h3 v5 1 0).bind fun v6 => (ix_M mGr_has [.ref v6, .int x2] h3).bind fun r => ix_kZ r fun v8 h7 => if v8 = true then (ix_gr h7 a0 0 0).bind fun v9 => (ix_M mBd_addPair [.ref v9, .int x1, .int x2] h7).bind fun r => ix_kZ r fun v11 h10 => if v11 = true then (ix_gr h10 a0 0 0).bind fun v12 => (ix_gi h10 v12 1 4).bind fun v13 => some ([.int (v13 - 1)], h10) else some ([.int (-4)], h10) else some ([.int (-1)], h7) else some ([.int (-1)], h3) := by
  refine ix_K_px kq_RP_pair i_RP_pair_0 rfl rfl ?_
  refine ix_K_gr kq_RP_pair i_RP_pair_1 rfl (fun v1 => ?_)
  refine ix_K_gr kq_RP_pair i_RP_pair_4 rfl (fun v2 => ?_)
  refine ix_K_px kq_RP_pair i_RP_pair_7 rfl rfl ?_
  refine ix_K_callZ (as := [.ref v2, .int x1]) (rest := []) kq_RP_pair i_RP_pair_8 rfl kq_Gr_has (by decide) rfl rfl (fun v4 h3 => ?_)
  refine ix_K_bz_eq (tgt := 28) kq_RP_pair i_RP_pair_11 rfl (by decide) ?_ ?_
  · refine ix_K_px kq_RP_pair i_RP_pair_14 rfl rfl ?_
    refine ix_K_gr kq_RP_pair i_RP_pair_15 rfl (fun v5 => ?_)
    refine ix_K_gr kq_RP_pair i_RP_pair_18 rfl (fun v6 => ?_)
    refine ix_K_px kq_RP_pair i_RP_pair_21 rfl rfl ?_
    refine ix_K_callZ (as := [.ref v6, .int x2]) (rest := []) kq_RP_pair i_RP_pair_22 rfl kq_Gr_has (by decide) rfl rfl (fun v8 h7 => ?_)
    refine ix_K_bz_ne (tgt := 30) kq_RP_pair i_RP_pair_25 rfl (by decide) ?_ ?_
    · refine ix_K_px kq_RP_pair i_RP_pair_30 rfl rfl ?_
      refine ix_K_gr kq_RP_pair i_RP_pair_31 rfl (fun v9 => ?_)
      refine ix_K_px kq_RP_pair i_RP_pair_34 rfl rfl ?_
      refine ix_K_px kq_RP_pair i_RP_pair_35 rfl rfl ?_
      refine ix_K_callZ (as := [.ref v9, .int x1, .int x2]) (rest := []) kq_RP_pair i_RP_pair_36 rfl kq_Bd_addPair (by decide) rfl rfl (fun v11 h10 => ?_)
      refine ix_K_bz_eq (tgt := 54) kq_RP_pair i_RP_pair_39 rfl (by decide) ?_ ?_
      · refine ix_K_px kq_RP_pair i_RP_pair_42 rfl rfl ?_
        refine ix_K_gr kq_RP_pair i_RP_pair_43 rfl (fun v12 => ?_)
        refine ix_K_gi kq_RP_pair i_RP_pair_46 rfl (fun v13 => ?_)
        refine ix_K_ci kq_RP_pair i_RP_pair_49 rfl kci_1 ?_
        refine ix_K_px kq_RP_pair i_RP_pair_50 rfl rfl ?_
        refine ix_K_goto (tgt := 56) kq_RP_pair i_RP_pair_51 rfl (by decide) ?_
        exact ix_D_ret kq_RP_pair i_RP_pair_56 (ix_rtI rfl _)
      · refine ix_K_cb kq_RP_pair i_RP_pair_54 rfl kcb_m4 ?_
        exact ix_D_ret kq_RP_pair i_RP_pair_56 (ix_rtI rfl _)
    · refine ix_K_ci kq_RP_pair i_RP_pair_28 rfl kci_m1 ?_
      exact ix_D_ret kq_RP_pair i_RP_pair_29 (ix_rtI rfl _)
  · refine ix_K_ci kq_RP_pair i_RP_pair_28 rfl kci_m1 ?_
    exact ix_D_ret kq_RP_pair i_RP_pair_29 (ix_rtI rfl _)
theorem x_RP_pair {a0 : Nat} {x1 : Int32} {x2 : Int32} {h h1 : ixH} {v : Int32} (hr : ix_rc h a0 = some 0) (hd : ix_D mRP_pair 0 [some (.ref a0), some (.int x1), some (.int x2)] [] h = some ([.int v], h1)) : ix_M mRP_pair [.ref a0, .int x1, .int x2] h = some ([.int v], h1) := ix_M_of (ix_ent_i kq_RP_pair rfl hr rfl (Nat.le_of_ble_eq_true rfl) rfl) hd (ix_okrI (Or.inl rfl) v)
theorem i_RP_unpair_0 : ix_nx mRP_unpair 0 = some (0, .aload_n 0, 1, none, [], 0) := rfl
theorem i_RP_unpair_1 : ix_nx mRP_unpair 1 = some (1, .getfield 10, 4, none, [0, 0, 2, 71], 0) := rfl
theorem i_RP_unpair_4 : ix_nx mRP_unpair 4 = some (1, .getfield 193, 7, none, [1, 4, 0, 45], 0) := rfl
theorem i_RP_unpair_7 : ix_nx mRP_unpair 7 = some (0, .istore_n 1, 8, none, [], 0) := rfl
theorem i_RP_unpair_8 : ix_nx mRP_unpair 8 = some (0, .aload_n 0, 9, none, [], 0) := rfl
theorem i_RP_unpair_9 : ix_nx mRP_unpair 9 = some (1, .getfield 10, 12, none, [0, 0, 2, 71], 0) := rfl
theorem i_RP_unpair_12 : ix_nx mRP_unpair 12 = some (0, .iconst 0, 13, none, [], 0) := rfl
theorem i_RP_unpair_13 : ix_nx mRP_unpair 13 = some (2, .putfield 193, 16, none, [1, 4, 0, 45], 0) := rfl
theorem i_RP_unpair_16 : ix_nx mRP_unpair 16 = some (0, .iload_n 1, 17, none, [], 0) := rfl
theorem i_RP_unpair_17 : ix_nx mRP_unpair 17 = some (4, .ireturn, 18, none, [], 0) := rfl
set_option maxRecDepth 20000 in
set_option maxHeartbeats 1000000 in
theorem e_RP_unpair (a0 : Nat) (h : ixH) : ix_D mRP_unpair 0 [some (.ref a0), none] [] h = (ix_gr h a0 0 0).bind fun v1 => (ix_gi h v1 1 4).bind fun v2 => (ix_gr h a0 0 0).bind fun v3 => (ix_pf h v3 1 4 (.int 0)).bind fun h4 => some ([.int v2], h4) := by
  refine ix_K_px kq_RP_unpair i_RP_unpair_0 rfl rfl ?_
  refine ix_K_gr kq_RP_unpair i_RP_unpair_1 rfl (fun v1 => ?_)
  refine ix_K_gi kq_RP_unpair i_RP_unpair_4 rfl (fun v2 => ?_)
  refine ix_K_si (L2 := [some (.ref a0), some (.int v2)]) kq_RP_unpair i_RP_unpair_7 rfl (Or.inr ⟨_, rfl, rfl⟩) (Nat.le_of_ble_eq_true rfl) rfl ?_
  refine ix_K_px kq_RP_unpair i_RP_unpair_8 rfl rfl ?_
  refine ix_K_gr kq_RP_unpair i_RP_unpair_9 rfl (fun v3 => ?_)
  refine ix_K_ci kq_RP_unpair i_RP_unpair_12 rfl kci_0 ?_
  refine ix_K_pf kq_RP_unpair i_RP_unpair_13 rfl rfl (fun h4 => ?_)
  refine ix_K_px kq_RP_unpair i_RP_unpair_16 rfl rfl ?_
  exact ix_D_ret kq_RP_unpair i_RP_unpair_17 (ix_rtI rfl _)
theorem x_RP_unpair {a0 : Nat} {h h1 : ixH} {v : Int32} (hr : ix_rc h a0 = some 0) (hd : ix_D mRP_unpair 0 [some (.ref a0), none] [] h = some ([.int v], h1)) : ix_M mRP_unpair [.ref a0] h = some ([.int v], h1) := ix_M_of (ix_ent_i kq_RP_unpair rfl hr rfl (Nat.le_of_ble_eq_true rfl) rfl) hd (ix_okrI (Or.inl rfl) v)
theorem i_RP_tuples_0 : ix_nx mRP_tuples 0 = some (0, .aload_n 0, 1, none, [], 0) := rfl
theorem i_RP_tuples_1 : ix_nx mRP_tuples 1 = some (1, .getfield 10, 4, none, [0, 0, 2, 71], 0) := rfl
theorem i_RP_tuples_4 : ix_nx mRP_tuples 4 = some (1, .getfield 193, 7, none, [1, 4, 0, 45], 0) := rfl
theorem i_RP_tuples_7 : ix_nx mRP_tuples 7 = some (0, .ifCond .ne 5, 10, none, [], 0) := rfl
theorem i_RP_tuples_10 : ix_nx mRP_tuples 10 = some (0, .lconst 1, 11, none, [], 0) := rfl
theorem i_RP_tuples_11 : ix_nx mRP_tuples 11 = some (4, .lreturn, 12, none, [], 0) := rfl
theorem i_RP_tuples_12 : ix_nx mRP_tuples 12 = some (0, .aload_n 0, 13, none, [], 0) := rfl
theorem i_RP_tuples_13 : ix_nx mRP_tuples 13 = some (1, .getfield 66, 16, none, [0, 9, 3, 80], 0) := rfl
theorem i_RP_tuples_16 : ix_nx mRP_tuples 16 = some (0, .ifnonnull 14, 19, none, [], 0) := rfl
theorem i_RP_tuples_19 : ix_nx mRP_tuples 19 = some (0, .aload_n 0, 20, none, [], 0) := rfl
theorem i_RP_tuples_20 : ix_nx mRP_tuples 20 = some (2, .new 196, 23, none, [9, 10], 0) := rfl
theorem i_RP_tuples_23 : ix_nx mRP_tuples 23 = some (0, .dup, 24, none, [], 0) := rfl
theorem i_RP_tuples_24 : ix_nx mRP_tuples 24 = some (3, .invokespecial 198, 27, none, [4, 127, 44], 0) := rfl
theorem i_RP_tuples_27 : ix_nx mRP_tuples 27 = some (2, .putfield 66, 30, none, [0, 9, 3, 80], 0) := rfl
theorem i_RP_tuples_30 : ix_nx mRP_tuples 30 = some (0, .aload_n 0, 31, none, [], 0) := rfl
theorem i_RP_tuples_31 : ix_nx mRP_tuples 31 = some (1, .getfield 66, 34, none, [0, 9, 3, 80], 0) := rfl
theorem i_RP_tuples_34 : ix_nx mRP_tuples 34 = some (0, .aload_n 0, 35, none, [], 0) := rfl
theorem i_RP_tuples_35 : ix_nx mRP_tuples 35 = some (1, .getfield 10, 38, none, [0, 0, 2, 71], 0) := rfl
theorem i_RP_tuples_38 : ix_nx mRP_tuples 38 = some (3, .invokevirtual 199, 41, none, [0, 128, 45], 0) := rfl
theorem i_RP_tuples_41 : ix_nx mRP_tuples 41 = some (4, .lreturn, 42, none, [], 0) := rfl
set_option maxRecDepth 20000 in
set_option maxHeartbeats 1000000 in
theorem e_RP_tuples (a0 : Nat) (h : ixH) : ix_D mRP_tuples 0 [some (.ref a0)] [] h = (ix_gr h a0 0 0).bind fun v1 => (ix_gi h v1 1 4).bind fun v2 => if ¬ v2 = 0 then (ix_gq h a0 0 9).bind fun v3 => (ix_oq v3 ((ix_M mBn_init [.ref h.1] (ix_nw h (.inr (9, ix_df 9)) (ix_N 9))).bind fun r => ix_kV r fun h5 => (ix_pf h5 a0 0 9 (.ref h.1)).bind fun h6 => (ix_gq h6 a0 0 9).bind fun v7 => (ix_gr h6 a0 0 0).bind fun v8 => (ix_M mBn_tally [va_rf v7, .ref v8] h6).bind fun r => ix_kL r fun v10 h9 => some ([.long v10], h9)) (fun y4 => (ix_gq h a0 0 9).bind fun v11 => (ix_gr h a0 0 0).bind fun v12 => (ix_M mBn_tally [va_rf v11, .ref v12] h).bind fun r => ix_kL r fun v14 h13 => some ([.long v14], h13))) else some ([.long 1], h) := by
  refine ix_K_px kq_RP_tuples i_RP_tuples_0 rfl rfl ?_
  refine ix_K_gr kq_RP_tuples i_RP_tuples_1 rfl (fun v1 => ?_)
  refine ix_K_gi kq_RP_tuples i_RP_tuples_4 rfl (fun v2 => ?_)
  refine ix_K_if_ne (tgt := 12) kq_RP_tuples i_RP_tuples_7 rfl (by decide) ?_ ?_
  · refine ix_K_px kq_RP_tuples i_RP_tuples_12 rfl rfl ?_
    refine ix_K_gq kq_RP_tuples i_RP_tuples_13 rfl (fun v3 => ?_)
    cases v3 with
    | none =>
      show ix_D mRP_tuples 16 [some (.ref a0)] [.null] h = _
      refine ix_K_px kq_RP_tuples i_RP_tuples_16 rfl rfl ?_
      refine ix_K_px kq_RP_tuples i_RP_tuples_19 rfl rfl ?_
      refine ix_K_nw kq_RP_tuples i_RP_tuples_20 rfl rfl ?_
      refine ix_K_px kq_RP_tuples i_RP_tuples_23 rfl rfl ?_
      refine ix_K_callV (as := [.ref h.1]) (rest := [.ref h.1, .ref a0]) kq_RP_tuples i_RP_tuples_24 rfl kq_Bn_init (by decide) rfl rfl (fun h5 => ?_)
      refine ix_K_pf kq_RP_tuples i_RP_tuples_27 rfl rfl (fun h6 => ?_)
      refine ix_K_px kq_RP_tuples i_RP_tuples_30 rfl rfl ?_
      refine ix_K_gq kq_RP_tuples i_RP_tuples_31 rfl (fun v7 => ?_)
      refine ix_K_px kq_RP_tuples i_RP_tuples_34 rfl rfl ?_
      refine ix_K_gr kq_RP_tuples i_RP_tuples_35 rfl (fun v8 => ?_)
      refine ix_K_callL (as := [va_rf v7, .ref v8]) (rest := []) kq_RP_tuples i_RP_tuples_38 rfl kq_Bn_tally (by decide) rfl rfl (fun v10 h9 => ?_)
      exact ix_D_ret kq_RP_tuples i_RP_tuples_41 (ix_rtL rfl _)
    | some y4 =>
      show ix_D mRP_tuples 16 [some (.ref a0)] [.ref y4] h = _
      refine (ix_D_nnR (tgt := 30) kq_RP_tuples i_RP_tuples_16 rfl (by decide)).trans ?_
      refine ix_K_px kq_RP_tuples i_RP_tuples_30 rfl rfl ?_
      refine ix_K_gq kq_RP_tuples i_RP_tuples_31 rfl (fun v11 => ?_)
      refine ix_K_px kq_RP_tuples i_RP_tuples_34 rfl rfl ?_
      refine ix_K_gr kq_RP_tuples i_RP_tuples_35 rfl (fun v12 => ?_)
      refine ix_K_callL (as := [va_rf v11, .ref v12]) (rest := []) kq_RP_tuples i_RP_tuples_38 rfl kq_Bn_tally (by decide) rfl rfl (fun v14 h13 => ?_)
      exact ix_D_ret kq_RP_tuples i_RP_tuples_41 (ix_rtL rfl _)
  · refine ix_K_cl kq_RP_tuples i_RP_tuples_10 rfl kcl_1 ?_
    exact ix_D_ret kq_RP_tuples i_RP_tuples_11 (ix_rtL rfl _)
theorem x_RP_tuples {a0 : Nat} {h h1 : ixH} {v : Int64} (hr : ix_rc h a0 = some 0) (hd : ix_D mRP_tuples 0 [some (.ref a0)] [] h = some ([.long v], h1)) : ix_M mRP_tuples [.ref a0] h = some ([.long v], h1) := ix_M_of (ix_ent_i kq_RP_tuples rfl hr rfl (Nat.le_of_ble_eq_true rfl) rfl) hd (ix_okrL rfl v)
theorem i_RP_determinant_0 : ix_nx mRP_determinant 0 = some (0, .aload_n 0, 1, none, [], 0) := rfl
theorem i_RP_determinant_1 : ix_nx mRP_determinant 1 = some (1, .getfield 34, 4, none, [0, 4, 2, 75], 0) := rfl
theorem i_RP_determinant_4 : ix_nx mRP_determinant 4 = some (0, .aload_n 0, 5, none, [], 0) := rfl
theorem i_RP_determinant_5 : ix_nx mRP_determinant 5 = some (1, .getfield 10, 8, none, [0, 0, 2, 71], 0) := rfl
theorem i_RP_determinant_8 : ix_nx mRP_determinant 8 = some (3, .invokevirtual 203, 11, none, [0, 102, 46], 0) := rfl
theorem i_RP_determinant_11 : ix_nx mRP_determinant 11 = some (4, .lreturn, 12, none, [], 0) := rfl
set_option maxRecDepth 20000 in
set_option maxHeartbeats 1000000 in
theorem e_RP_determinant (a0 : Nat) (h : ixH) : ix_D mRP_determinant 0 [some (.ref a0)] [] h = (ix_gr h a0 0 4).bind fun v1 => (ix_gr h a0 0 0).bind fun v2 => (ix_M mDe_signedTally [.ref v1, .ref v2] h).bind fun r => ix_kL r fun v4 h3 => some ([.long v4], h3) := by
  refine ix_K_px kq_RP_determinant i_RP_determinant_0 rfl rfl ?_
  refine ix_K_gr kq_RP_determinant i_RP_determinant_1 rfl (fun v1 => ?_)
  refine ix_K_px kq_RP_determinant i_RP_determinant_4 rfl rfl ?_
  refine ix_K_gr kq_RP_determinant i_RP_determinant_5 rfl (fun v2 => ?_)
  refine ix_K_callL (as := [.ref v1, .ref v2]) (rest := []) kq_RP_determinant i_RP_determinant_8 rfl kq_De_signedTally (by decide) rfl rfl (fun v4 h3 => ?_)
  exact ix_D_ret kq_RP_determinant i_RP_determinant_11 (ix_rtL rfl _)
theorem x_RP_determinant {a0 : Nat} {h h1 : ixH} {v : Int64} (hr : ix_rc h a0 = some 0) (hd : ix_D mRP_determinant 0 [some (.ref a0)] [] h = some ([.long v], h1)) : ix_M mRP_determinant [.ref a0] h = some ([.long v], h1) := ix_M_of (ix_ent_i kq_RP_determinant rfl hr rfl (Nat.le_of_ble_eq_true rfl) rfl) hd (ix_okrL rfl v)
theorem i_RP_steps_0 : ix_nx mRP_steps 0 = some (0, .aload_n 0, 1, none, [], 0) := rfl
theorem i_RP_steps_1 : ix_nx mRP_steps 1 = some (1, .getfield 10, 4, none, [0, 0, 2, 71], 0) := rfl
theorem i_RP_steps_4 : ix_nx mRP_steps 4 = some (1, .getfield 78, 7, none, [1, 0, 2, 31], 0) := rfl
theorem i_RP_steps_7 : ix_nx mRP_steps 7 = some (0, .iload_n 1, 8, none, [], 0) := rfl
theorem i_RP_steps_8 : ix_nx mRP_steps 8 = some (3, .invokevirtual 88, 11, none, [0, 63, 11], 0) := rfl
theorem i_RP_steps_11 : ix_nx mRP_steps 11 = some (0, .ifCond .eq 17, 14, none, [], 0) := rfl
theorem i_RP_steps_14 : ix_nx mRP_steps 14 = some (0, .aload_n 0, 15, none, [], 0) := rfl
theorem i_RP_steps_15 : ix_nx mRP_steps 15 = some (1, .getfield 10, 18, none, [0, 0, 2, 71], 0) := rfl
theorem i_RP_steps_18 : ix_nx mRP_steps 18 = some (1, .getfield 78, 21, none, [1, 0, 2, 31], 0) := rfl
theorem i_RP_steps_21 : ix_nx mRP_steps 21 = some (0, .iload_n 2, 22, none, [], 0) := rfl
theorem i_RP_steps_22 : ix_nx mRP_steps 22 = some (3, .invokevirtual 88, 25, none, [0, 63, 11], 0) := rfl
theorem i_RP_steps_25 : ix_nx mRP_steps 25 = some (0, .ifCond .ne 5, 28, none, [], 0) := rfl
theorem i_RP_steps_28 : ix_nx mRP_steps 28 = some (0, .iconst (-1), 29, none, [], 0) := rfl
theorem i_RP_steps_29 : ix_nx mRP_steps 29 = some (4, .ireturn, 30, none, [], 0) := rfl
theorem i_RP_steps_30 : ix_nx mRP_steps 30 = some (0, .aload_n 0, 31, none, [], 0) := rfl
theorem i_RP_steps_31 : ix_nx mRP_steps 31 = some (1, .getfield 41, 34, none, [0, 5, 2, 76], 0) := rfl
theorem i_RP_steps_34 : ix_nx mRP_steps 34 = some (0, .aload_n 0, 35, none, [], 0) := rfl
theorem i_RP_steps_35 : ix_nx mRP_steps 35 = some (1, .getfield 10, 38, none, [0, 0, 2, 71], 0) := rfl
theorem i_RP_steps_38 : ix_nx mRP_steps 38 = some (1, .getfield 78, 41, none, [1, 0, 2, 31], 0) := rfl
theorem i_RP_steps_41 : ix_nx mRP_steps 41 = some (0, .iload_n 1, 42, none, [], 0) := rfl
theorem i_RP_steps_42 : ix_nx mRP_steps 42 = some (0, .iload_n 2, 43, none, [], 0) := rfl
theorem i_RP_steps_43 : ix_nx mRP_steps 43 = some (3, .invokevirtual 206, 46, none, [0, 105, 47], 0) := rfl
theorem i_RP_steps_46 : ix_nx mRP_steps 46 = some (4, .ireturn, 47, none, [], 0) := rfl
set_option maxRecDepth 20000 in
set_option maxHeartbeats 1000000 in
theorem e_RP_steps (a0 : Nat) (x1 : Int32) (x2 : Int32) (h : ixH) : ix_D mRP_steps 0 [some (.ref a0), some (.int x1), some (.int x2)] [] h = (ix_gr h a0 0 0).bind fun v1 => (ix_gr h v1 1 0).bind fun v2 => (ix_M mGr_has [.ref v2, .int x1] h).bind fun r => ix_kZ r fun v4 h3 => if v4 = true then (ix_gr h3 a0 0 0).bind fun v5 => (ix_gr h3 v5 1 0).bind fun v6 => (ix_M mGr_has [.ref v6, .int x2] h3).bind fun r => ix_kZ r fun v8 h7 => if v8 = true then (ix_gr h7 a0 0 5).bind fun v9 => (ix_gr h7 a0 0 0).bind fun v10 => (ix_gr h7 v10 1 0).bind fun v11 => (ix_M mWk_measure [.ref v9, .ref v11, .int x1, .int x2] h7).bind fun r => ix_kI r fun v13 h12 => some ([.int v13], h12) else some ([.int (-1)], h7) else some ([.int (-1)], h3) := by
  refine ix_K_px kq_RP_steps i_RP_steps_0 rfl rfl ?_
  refine ix_K_gr kq_RP_steps i_RP_steps_1 rfl (fun v1 => ?_)
  refine ix_K_gr kq_RP_steps i_RP_steps_4 rfl (fun v2 => ?_)
  refine ix_K_px kq_RP_steps i_RP_steps_7 rfl rfl ?_
  refine ix_K_callZ (as := [.ref v2, .int x1]) (rest := []) kq_RP_steps i_RP_steps_8 rfl kq_Gr_has (by decide) rfl rfl (fun v4 h3 => ?_)
  refine ix_K_bz_eq (tgt := 28) kq_RP_steps i_RP_steps_11 rfl (by decide) ?_ ?_
  · refine ix_K_px kq_RP_steps i_RP_steps_14 rfl rfl ?_
    refine ix_K_gr kq_RP_steps i_RP_steps_15 rfl (fun v5 => ?_)
    refine ix_K_gr kq_RP_steps i_RP_steps_18 rfl (fun v6 => ?_)
    refine ix_K_px kq_RP_steps i_RP_steps_21 rfl rfl ?_
    refine ix_K_callZ (as := [.ref v6, .int x2]) (rest := []) kq_RP_steps i_RP_steps_22 rfl kq_Gr_has (by decide) rfl rfl (fun v8 h7 => ?_)
    refine ix_K_bz_ne (tgt := 30) kq_RP_steps i_RP_steps_25 rfl (by decide) ?_ ?_
    · refine ix_K_px kq_RP_steps i_RP_steps_30 rfl rfl ?_
      refine ix_K_gr kq_RP_steps i_RP_steps_31 rfl (fun v9 => ?_)
      refine ix_K_px kq_RP_steps i_RP_steps_34 rfl rfl ?_
      refine ix_K_gr kq_RP_steps i_RP_steps_35 rfl (fun v10 => ?_)
      refine ix_K_gr kq_RP_steps i_RP_steps_38 rfl (fun v11 => ?_)
      refine ix_K_px kq_RP_steps i_RP_steps_41 rfl rfl ?_
      refine ix_K_px kq_RP_steps i_RP_steps_42 rfl rfl ?_
      refine ix_K_callI (as := [.ref v9, .ref v11, .int x1, .int x2]) (rest := []) kq_RP_steps i_RP_steps_43 rfl kq_Wk_measure (by decide) rfl (Or.inl rfl) (fun v13 h12 => ?_)
      exact ix_D_ret kq_RP_steps i_RP_steps_46 (ix_rtI rfl _)
    · refine ix_K_ci kq_RP_steps i_RP_steps_28 rfl kci_m1 ?_
      exact ix_D_ret kq_RP_steps i_RP_steps_29 (ix_rtI rfl _)
  · refine ix_K_ci kq_RP_steps i_RP_steps_28 rfl kci_m1 ?_
    exact ix_D_ret kq_RP_steps i_RP_steps_29 (ix_rtI rfl _)
theorem x_RP_steps {a0 : Nat} {x1 : Int32} {x2 : Int32} {h h1 : ixH} {v : Int32} (hr : ix_rc h a0 = some 0) (hd : ix_D mRP_steps 0 [some (.ref a0), some (.int x1), some (.int x2)] [] h = some ([.int v], h1)) : ix_M mRP_steps [.ref a0, .int x1, .int x2] h = some ([.int v], h1) := ix_M_of (ix_ent_i kq_RP_steps rfl hr rfl (Nat.le_of_ble_eq_true rfl) rfl) hd (ix_okrI (Or.inl rfl) v)
theorem i_RP_shortest_0 : ix_nx mRP_shortest 0 = some (0, .aload_n 0, 1, none, [], 0) := rfl
theorem i_RP_shortest_1 : ix_nx mRP_shortest 1 = some (1, .getfield 10, 4, none, [0, 0, 2, 71], 0) := rfl
theorem i_RP_shortest_4 : ix_nx mRP_shortest 4 = some (1, .getfield 78, 7, none, [1, 0, 2, 31], 0) := rfl
theorem i_RP_shortest_7 : ix_nx mRP_shortest 7 = some (0, .iload_n 1, 8, none, [], 0) := rfl
theorem i_RP_shortest_8 : ix_nx mRP_shortest 8 = some (3, .invokevirtual 88, 11, none, [0, 63, 11], 0) := rfl
theorem i_RP_shortest_11 : ix_nx mRP_shortest 11 = some (0, .ifCond .eq 17, 14, none, [], 0) := rfl
theorem i_RP_shortest_14 : ix_nx mRP_shortest 14 = some (0, .aload_n 0, 15, none, [], 0) := rfl
theorem i_RP_shortest_15 : ix_nx mRP_shortest 15 = some (1, .getfield 10, 18, none, [0, 0, 2, 71], 0) := rfl
theorem i_RP_shortest_18 : ix_nx mRP_shortest 18 = some (1, .getfield 78, 21, none, [1, 0, 2, 31], 0) := rfl
theorem i_RP_shortest_21 : ix_nx mRP_shortest 21 = some (0, .iload_n 2, 22, none, [], 0) := rfl
theorem i_RP_shortest_22 : ix_nx mRP_shortest 22 = some (3, .invokevirtual 88, 25, none, [0, 63, 11], 0) := rfl
theorem i_RP_shortest_25 : ix_nx mRP_shortest 25 = some (0, .ifCond .ne 5, 28, none, [], 0) := rfl
theorem i_RP_shortest_28 : ix_nx mRP_shortest 28 = some (0, .iconst (-1), 29, none, [], 0) := rfl
theorem i_RP_shortest_29 : ix_nx mRP_shortest 29 = some (4, .ireturn, 30, none, [], 0) := rfl
theorem i_RP_shortest_30 : ix_nx mRP_shortest 30 = some (0, .aload_n 0, 31, none, [], 0) := rfl
theorem i_RP_shortest_31 : ix_nx mRP_shortest 31 = some (1, .getfield 41, 34, none, [0, 5, 2, 76], 0) := rfl
theorem i_RP_shortest_34 : ix_nx mRP_shortest 34 = some (0, .aload_n 0, 35, none, [], 0) := rfl
theorem i_RP_shortest_35 : ix_nx mRP_shortest 35 = some (1, .getfield 10, 38, none, [0, 0, 2, 71], 0) := rfl
theorem i_RP_shortest_38 : ix_nx mRP_shortest 38 = some (1, .getfield 78, 41, none, [1, 0, 2, 31], 0) := rfl
theorem i_RP_shortest_41 : ix_nx mRP_shortest 41 = some (0, .iload_n 1, 42, none, [], 0) := rfl
theorem i_RP_shortest_42 : ix_nx mRP_shortest 42 = some (0, .iload_n 2, 43, none, [], 0) := rfl
theorem i_RP_shortest_43 : ix_nx mRP_shortest 43 = some (3, .invokevirtual 206, 46, none, [0, 105, 47], 0) := rfl
theorem i_RP_shortest_46 : ix_nx mRP_shortest 46 = some (0, .istore 4, 48, none, [], 0) := rfl
theorem i_RP_shortest_48 : ix_nx mRP_shortest 48 = some (0, .iload 4, 50, none, [], 0) := rfl
theorem i_RP_shortest_50 : ix_nx mRP_shortest 50 = some (0, .bipush (-6), 52, none, [], 0) := rfl
theorem i_RP_shortest_52 : ix_nx mRP_shortest 52 = some (0, .if_icmp .eq 13, 55, none, [], 0) := rfl
theorem i_RP_shortest_55 : ix_nx mRP_shortest 55 = some (0, .iload_n 3, 56, none, [], 0) := rfl
theorem i_RP_shortest_56 : ix_nx mRP_shortest 56 = some (0, .ifCond .lt 9, 59, none, [], 0) := rfl
theorem i_RP_shortest_59 : ix_nx mRP_shortest 59 = some (0, .iload_n 3, 60, none, [], 0) := rfl
theorem i_RP_shortest_60 : ix_nx mRP_shortest 60 = some (0, .iload 4, 62, none, [], 0) := rfl
theorem i_RP_shortest_62 : ix_nx mRP_shortest 62 = some (0, .if_icmp .le 6, 65, none, [], 0) := rfl
theorem i_RP_shortest_65 : ix_nx mRP_shortest 65 = some (0, .bipush (-6), 67, none, [], 0) := rfl
theorem i_RP_shortest_67 : ix_nx mRP_shortest 67 = some (4, .ireturn, 68, none, [], 0) := rfl
theorem i_RP_shortest_68 : ix_nx mRP_shortest 68 = some (0, .aload_n 0, 69, none, [], 0) := rfl
theorem i_RP_shortest_69 : ix_nx mRP_shortest 69 = some (1, .getfield 41, 72, none, [0, 5, 2, 76], 0) := rfl
theorem i_RP_shortest_72 : ix_nx mRP_shortest 72 = some (0, .aload_n 0, 73, none, [], 0) := rfl
theorem i_RP_shortest_73 : ix_nx mRP_shortest 73 = some (1, .getfield 10, 76, none, [0, 0, 2, 71], 0) := rfl
theorem i_RP_shortest_76 : ix_nx mRP_shortest 76 = some (1, .getfield 78, 79, none, [1, 0, 2, 31], 0) := rfl
theorem i_RP_shortest_79 : ix_nx mRP_shortest 79 = some (0, .iload_n 1, 80, none, [], 0) := rfl
theorem i_RP_shortest_80 : ix_nx mRP_shortest 80 = some (0, .iload 4, 82, none, [], 0) := rfl
theorem i_RP_shortest_82 : ix_nx mRP_shortest 82 = some (0, .iload_n 3, 83, none, [], 0) := rfl
theorem i_RP_shortest_83 : ix_nx mRP_shortest 83 = some (3, .invokevirtual 210, 86, none, [0, 106, 48], 0) := rfl
theorem i_RP_shortest_86 : ix_nx mRP_shortest 86 = some (4, .ireturn, 87, none, [], 0) := rfl
set_option maxRecDepth 20000 in
set_option maxHeartbeats 1000000 in
theorem e_RP_shortest (a0 : Nat) (x1 : Int32) (x2 : Int32) (x3 : Int32) (h : ixH) : ix_D mRP_shortest 0 [some (.ref a0), some (.int x1), some (.int x2), some (.int x3), none] [] h = (ix_gr h a0 0 0).bind fun v1 => (ix_gr h v1 1 0).bind fun v2 => (ix_M mGr_has [.ref v2, .int x1] h).bind fun r => ix_kZ r fun v4 h3 => if v4 = true then (ix_gr h3 a0 0 0).bind fun v5 => (ix_gr h3 v5 1 0).bind fun v6 => (ix_M mGr_has [.ref v6, .int x2] h3).bind fun r => ix_kZ r fun v8 h7 => if v8 = true then (ix_gr h7 a0 0 5).bind fun v9 => (ix_gr h7 a0 0 0).bind fun v10 => (ix_gr h7 v10 1 0).bind fun v11 => (ix_M mWk_measure [.ref v9, .ref v11, .int x1, .int x2] h7).bind fun r => ix_kI r fun v13 h12 => if v13 = (-6) then some ([.int (-6)], h12) else if x3 < 0 then some ([.int (-6)], h12) else if x3 ≤ v13 then (ix_gr h12 a0 0 5).bind fun v14 => (ix_gr h12 a0 0 0).bind fun v15 => (ix_gr h12 v15 1 0).bind fun v16 => (ix_M mWk_follow [.ref v14, .ref v16, .int x1, .int v13, .int x3] h12).bind fun r => ix_kI r fun v18 h17 => some ([.int v18], h17) else some ([.int (-6)], h12) else some ([.int (-1)], h7) else some ([.int (-1)], h3) := by
  refine ix_K_px kq_RP_shortest i_RP_shortest_0 rfl rfl ?_
  refine ix_K_gr kq_RP_shortest i_RP_shortest_1 rfl (fun v1 => ?_)
  refine ix_K_gr kq_RP_shortest i_RP_shortest_4 rfl (fun v2 => ?_)
  refine ix_K_px kq_RP_shortest i_RP_shortest_7 rfl rfl ?_
  refine ix_K_callZ (as := [.ref v2, .int x1]) (rest := []) kq_RP_shortest i_RP_shortest_8 rfl kq_Gr_has (by decide) rfl rfl (fun v4 h3 => ?_)
  refine ix_K_bz_eq (tgt := 28) kq_RP_shortest i_RP_shortest_11 rfl (by decide) ?_ ?_
  · refine ix_K_px kq_RP_shortest i_RP_shortest_14 rfl rfl ?_
    refine ix_K_gr kq_RP_shortest i_RP_shortest_15 rfl (fun v5 => ?_)
    refine ix_K_gr kq_RP_shortest i_RP_shortest_18 rfl (fun v6 => ?_)
    refine ix_K_px kq_RP_shortest i_RP_shortest_21 rfl rfl ?_
    refine ix_K_callZ (as := [.ref v6, .int x2]) (rest := []) kq_RP_shortest i_RP_shortest_22 rfl kq_Gr_has (by decide) rfl rfl (fun v8 h7 => ?_)
    refine ix_K_bz_ne (tgt := 30) kq_RP_shortest i_RP_shortest_25 rfl (by decide) ?_ ?_
    · refine ix_K_px kq_RP_shortest i_RP_shortest_30 rfl rfl ?_
      refine ix_K_gr kq_RP_shortest i_RP_shortest_31 rfl (fun v9 => ?_)
      refine ix_K_px kq_RP_shortest i_RP_shortest_34 rfl rfl ?_
      refine ix_K_gr kq_RP_shortest i_RP_shortest_35 rfl (fun v10 => ?_)
      refine ix_K_gr kq_RP_shortest i_RP_shortest_38 rfl (fun v11 => ?_)
      refine ix_K_px kq_RP_shortest i_RP_shortest_41 rfl rfl ?_
      refine ix_K_px kq_RP_shortest i_RP_shortest_42 rfl rfl ?_
      refine ix_K_callI (as := [.ref v9, .ref v11, .int x1, .int x2]) (rest := []) kq_RP_shortest i_RP_shortest_43 rfl kq_Wk_measure (by decide) rfl (Or.inl rfl) (fun v13 h12 => ?_)
      refine ix_K_si (L2 := [some (.ref a0), some (.int x1), some (.int x2), some (.int x3), some (.int v13)]) kq_RP_shortest i_RP_shortest_46 rfl (Or.inl rfl) (Nat.le_of_ble_eq_true rfl) rfl ?_
      refine ix_K_px kq_RP_shortest i_RP_shortest_48 rfl rfl ?_
      refine ix_K_cb kq_RP_shortest i_RP_shortest_50 rfl kcb_m6 ?_
      refine ix_K_ic_eq (tgt := 65) kq_RP_shortest i_RP_shortest_52 rfl (by decide) ?_ ?_
      · refine ix_K_cb kq_RP_shortest i_RP_shortest_65 rfl kcb_m6 ?_
        exact ix_D_ret kq_RP_shortest i_RP_shortest_67 (ix_rtI rfl _)
      · refine ix_K_px kq_RP_shortest i_RP_shortest_55 rfl rfl ?_
        refine ix_K_if_lt (tgt := 65) kq_RP_shortest i_RP_shortest_56 rfl (by decide) ?_ ?_
        · refine ix_K_cb kq_RP_shortest i_RP_shortest_65 rfl kcb_m6 ?_
          exact ix_D_ret kq_RP_shortest i_RP_shortest_67 (ix_rtI rfl _)
        · refine ix_K_px kq_RP_shortest i_RP_shortest_59 rfl rfl ?_
          refine ix_K_px kq_RP_shortest i_RP_shortest_60 rfl rfl ?_
          refine ix_K_ic_le (tgt := 68) kq_RP_shortest i_RP_shortest_62 rfl (by decide) ?_ ?_
          · refine ix_K_px kq_RP_shortest i_RP_shortest_68 rfl rfl ?_
            refine ix_K_gr kq_RP_shortest i_RP_shortest_69 rfl (fun v14 => ?_)
            refine ix_K_px kq_RP_shortest i_RP_shortest_72 rfl rfl ?_
            refine ix_K_gr kq_RP_shortest i_RP_shortest_73 rfl (fun v15 => ?_)
            refine ix_K_gr kq_RP_shortest i_RP_shortest_76 rfl (fun v16 => ?_)
            refine ix_K_px kq_RP_shortest i_RP_shortest_79 rfl rfl ?_
            refine ix_K_px kq_RP_shortest i_RP_shortest_80 rfl rfl ?_
            refine ix_K_px kq_RP_shortest i_RP_shortest_82 rfl rfl ?_
            refine ix_K_callI (as := [.ref v14, .ref v16, .int x1, .int v13, .int x3]) (rest := []) kq_RP_shortest i_RP_shortest_83 rfl kq_Wk_follow (by decide) rfl (Or.inl rfl) (fun v18 h17 => ?_)
            exact ix_D_ret kq_RP_shortest i_RP_shortest_86 (ix_rtI rfl _)
          · refine ix_K_cb kq_RP_shortest i_RP_shortest_65 rfl kcb_m6 ?_
            exact ix_D_ret kq_RP_shortest i_RP_shortest_67 (ix_rtI rfl _)
    · refine ix_K_ci kq_RP_shortest i_RP_shortest_28 rfl kci_m1 ?_
      exact ix_D_ret kq_RP_shortest i_RP_shortest_29 (ix_rtI rfl _)
  · refine ix_K_ci kq_RP_shortest i_RP_shortest_28 rfl kci_m1 ?_
    exact ix_D_ret kq_RP_shortest i_RP_shortest_29 (ix_rtI rfl _)
theorem x_RP_shortest {a0 : Nat} {x1 : Int32} {x2 : Int32} {x3 : Int32} {h h1 : ixH} {v : Int32} (hr : ix_rc h a0 = some 0) (hd : ix_D mRP_shortest 0 [some (.ref a0), some (.int x1), some (.int x2), some (.int x3), none] [] h = some ([.int v], h1)) : ix_M mRP_shortest [.ref a0, .int x1, .int x2, .int x3] h = some ([.int v], h1) := ix_M_of (ix_ent_i kq_RP_shortest rfl hr rfl (Nat.le_of_ble_eq_true rfl) rfl) hd (ix_okrI (Or.inl rfl) v)
theorem i_RP_flow_0 : ix_nx mRP_flow 0 = some (0, .aload_n 0, 1, none, [], 0) := rfl
theorem i_RP_flow_1 : ix_nx mRP_flow 1 = some (1, .getfield 48, 4, none, [0, 6, 2, 77], 0) := rfl
theorem i_RP_flow_4 : ix_nx mRP_flow 4 = some (0, .aload_n 0, 5, none, [], 0) := rfl
theorem i_RP_flow_5 : ix_nx mRP_flow 5 = some (1, .getfield 10, 8, none, [0, 0, 2, 71], 0) := rfl
theorem i_RP_flow_8 : ix_nx mRP_flow 8 = some (1, .getfield 78, 11, none, [1, 0, 2, 31], 0) := rfl
theorem i_RP_flow_11 : ix_nx mRP_flow 11 = some (0, .aload_n 0, 12, none, [], 0) := rfl
theorem i_RP_flow_12 : ix_nx mRP_flow 12 = some (1, .getfield 10, 15, none, [0, 0, 2, 71], 0) := rfl
theorem i_RP_flow_15 : ix_nx mRP_flow 15 = some (1, .getfield 78, 18, none, [1, 0, 2, 31], 0) := rfl
theorem i_RP_flow_18 : ix_nx mRP_flow 18 = some (1, .getfield 94, 21, none, [2, 5, 1, 18], 0) := rfl
theorem i_RP_flow_21 : ix_nx mRP_flow 21 = some (0, .iconst 0, 22, none, [], 0) := rfl
theorem i_RP_flow_22 : ix_nx mRP_flow 22 = some (3, .invokevirtual 214, 25, none, [0, 108, 28], 0) := rfl
theorem i_RP_flow_25 : ix_nx mRP_flow 25 = some (4, .ireturn, 26, none, [], 0) := rfl
set_option maxRecDepth 20000 in
set_option maxHeartbeats 1000000 in
theorem e_RP_flow (a0 : Nat) (h : ixH) : ix_D mRP_flow 0 [some (.ref a0)] [] h = (ix_gr h a0 0 6).bind fun v1 => (ix_gr h a0 0 0).bind fun v2 => (ix_gr h v2 1 0).bind fun v3 => (ix_gr h a0 0 0).bind fun v4 => (ix_gr h v4 1 0).bind fun v5 => (ix_gl h v5 2 5).bind fun v6 => (ix_M mSm_widen [.ref v1, .ref v3, .long v6, .int 0] h).bind fun r => ix_kI r fun v8 h7 => some ([.int v8], h7) := by
  refine ix_K_px kq_RP_flow i_RP_flow_0 rfl rfl ?_
  refine ix_K_gr kq_RP_flow i_RP_flow_1 rfl (fun v1 => ?_)
  refine ix_K_px kq_RP_flow i_RP_flow_4 rfl rfl ?_
  refine ix_K_gr kq_RP_flow i_RP_flow_5 rfl (fun v2 => ?_)
  refine ix_K_gr kq_RP_flow i_RP_flow_8 rfl (fun v3 => ?_)
  refine ix_K_px kq_RP_flow i_RP_flow_11 rfl rfl ?_
  refine ix_K_gr kq_RP_flow i_RP_flow_12 rfl (fun v4 => ?_)
  refine ix_K_gr kq_RP_flow i_RP_flow_15 rfl (fun v5 => ?_)
  refine ix_K_gl kq_RP_flow i_RP_flow_18 rfl (fun v6 => ?_)
  refine ix_K_ci kq_RP_flow i_RP_flow_21 rfl kci_0 ?_
  refine ix_K_callI (as := [.ref v1, .ref v3, .long v6, .int 0]) (rest := []) kq_RP_flow i_RP_flow_22 rfl kq_Sm_widen (by decide) rfl (Or.inl rfl) (fun v8 h7 => ?_)
  exact ix_D_ret kq_RP_flow i_RP_flow_25 (ix_rtI rfl _)
theorem x_RP_flow {a0 : Nat} {h h1 : ixH} {v : Int32} (hr : ix_rc h a0 = some 0) (hd : ix_D mRP_flow 0 [some (.ref a0)] [] h = some ([.int v], h1)) : ix_M mRP_flow [.ref a0] h = some ([.int v], h1) := ix_M_of (ix_ent_i kq_RP_flow rfl hr rfl (Nat.le_of_ble_eq_true rfl) rfl) hd (ix_okrI (Or.inl rfl) v)
theorem i_RP_pass_0 : ix_nx mRP_pass 0 = some (0, .iload_n 1, 1, none, [], 0) := rfl
theorem i_RP_pass_1 : ix_nx mRP_pass 1 = some (3, .invokestatic 91, 4, none, [1, 5, 12], 0) := rfl
theorem i_RP_pass_4 : ix_nx mRP_pass 4 = some (0, .ifCond .ne 6, 7, none, [], 0) := rfl
theorem i_RP_pass_7 : ix_nx mRP_pass 7 = some (0, .bipush (-2), 9, none, [], 0) := rfl
theorem i_RP_pass_9 : ix_nx mRP_pass 9 = some (4, .ireturn, 10, none, [], 0) := rfl
theorem i_RP_pass_10 : ix_nx mRP_pass 10 = some (0, .aload_n 0, 11, none, [], 0) := rfl
theorem i_RP_pass_11 : ix_nx mRP_pass 11 = some (0, .iload_n 1, 12, none, [], 0) := rfl
theorem i_RP_pass_12 : ix_nx mRP_pass 12 = some (0, .iconst 1, 13, none, [], 0) := rfl
theorem i_RP_pass_13 : ix_nx mRP_pass 13 = some (0, .if_icmp .ne 7, 16, none, [], 0) := rfl
theorem i_RP_pass_16 : ix_nx mRP_pass 16 = some (0, .iconst 1, 17, none, [], 0) := rfl
theorem i_RP_pass_17 : ix_nx mRP_pass 17 = some (0, .goto 4, 20, none, [], 0) := rfl
theorem i_RP_pass_20 : ix_nx mRP_pass 20 = some (0, .iconst 0, 21, none, [], 0) := rfl
theorem i_RP_pass_21 : ix_nx mRP_pass 21 = some (3, .invokevirtual 143, 24, none, [0, 14, 25], 0) := rfl
theorem i_RP_pass_24 : ix_nx mRP_pass 24 = some (0, .iload_n 2, 25, none, [], 0) := rfl
theorem i_RP_pass_25 : ix_nx mRP_pass 25 = some (3, .invokestatic 218, 28, none, [1, 31, 49], 0) := rfl
theorem i_RP_pass_28 : ix_nx mRP_pass 28 = some (4, .ireturn, 29, none, [], 0) := rfl
set_option maxRecDepth 20000 in
set_option maxHeartbeats 1000000 in
theorem e_RP_pass (a0 : Nat) (x1 : Int32) (x2 : Int32) (h : ixH) : ix_D mRP_pass 0 [some (.ref a0), some (.int x1), some (.int x2)] [] h = (ix_M mRP_isFlag [.int x1] h).bind fun r => ix_kZ r fun v2 h1 => if v2 = true then if ¬ x1 = 1 then (ix_M mRP_smallestPass [.ref a0, .int 0] h1).bind fun r => ix_kL r fun v4 h3 => (ix_M mRP_member [.long v4, .int x2] h3).bind fun r => ix_kI r fun v6 h5 => some ([.int v6], h5) else (ix_M mRP_smallestPass [.ref a0, .int 1] h1).bind fun r => ix_kL r fun v8 h7 => (ix_M mRP_member [.long v8, .int x2] h7).bind fun r => ix_kI r fun v10 h9 => some ([.int v10], h9) else some ([.int (-2)], h1) := by
  refine ix_K_px kq_RP_pass i_RP_pass_0 rfl rfl ?_
  refine ix_K_callZ (as := [.int x1]) (rest := []) kq_RP_pass i_RP_pass_1 rfl kq_RP_isFlag (by decide) rfl rfl (fun v2 h1 => ?_)
  refine ix_K_bz_ne (tgt := 10) kq_RP_pass i_RP_pass_4 rfl (by decide) ?_ ?_
  · refine ix_K_px kq_RP_pass i_RP_pass_10 rfl rfl ?_
    refine ix_K_px kq_RP_pass i_RP_pass_11 rfl rfl ?_
    refine ix_K_ci kq_RP_pass i_RP_pass_12 rfl kci_1 ?_
    refine ix_K_ic_ne (tgt := 20) kq_RP_pass i_RP_pass_13 rfl (by decide) ?_ ?_
    · refine ix_K_ci kq_RP_pass i_RP_pass_20 rfl kci_0 ?_
      refine ix_K_callL (as := [.ref a0, .int 0]) (rest := []) kq_RP_pass i_RP_pass_21 rfl kq_RP_smallestPass (by decide) rfl rfl (fun v4 h3 => ?_)
      refine ix_K_px kq_RP_pass i_RP_pass_24 rfl rfl ?_
      refine ix_K_callI (as := [.long v4, .int x2]) (rest := []) kq_RP_pass i_RP_pass_25 rfl kq_RP_member (by decide) rfl (Or.inl rfl) (fun v6 h5 => ?_)
      exact ix_D_ret kq_RP_pass i_RP_pass_28 (ix_rtI rfl _)
    · refine ix_K_ci kq_RP_pass i_RP_pass_16 rfl kci_1 ?_
      refine ix_K_goto (tgt := 21) kq_RP_pass i_RP_pass_17 rfl (by decide) ?_
      refine ix_K_callL (as := [.ref a0, .int 1]) (rest := []) kq_RP_pass i_RP_pass_21 rfl kq_RP_smallestPass (by decide) rfl rfl (fun v8 h7 => ?_)
      refine ix_K_px kq_RP_pass i_RP_pass_24 rfl rfl ?_
      refine ix_K_callI (as := [.long v8, .int x2]) (rest := []) kq_RP_pass i_RP_pass_25 rfl kq_RP_member (by decide) rfl (Or.inl rfl) (fun v10 h9 => ?_)
      exact ix_D_ret kq_RP_pass i_RP_pass_28 (ix_rtI rfl _)
  · refine ix_K_cb kq_RP_pass i_RP_pass_7 rfl kcb_m2 ?_
    exact ix_D_ret kq_RP_pass i_RP_pass_9 (ix_rtI rfl _)
theorem x_RP_pass {a0 : Nat} {x1 : Int32} {x2 : Int32} {h h1 : ixH} {v : Int32} (hr : ix_rc h a0 = some 0) (hd : ix_D mRP_pass 0 [some (.ref a0), some (.int x1), some (.int x2)] [] h = some ([.int v], h1)) : ix_M mRP_pass [.ref a0, .int x1, .int x2] h = some ([.int v], h1) := ix_M_of (ix_ent_i kq_RP_pass rfl hr rfl (Nat.le_of_ble_eq_true rfl) rfl) hd (ix_okrI (Or.inl rfl) v)
theorem i_RP_member_0 : ix_nx mRP_member 0 = some (0, .iload_n 2, 1, none, [], 0) := rfl
theorem i_RP_member_1 : ix_nx mRP_member 1 = some (0, .ifCond .lt 11, 4, none, [], 0) := rfl
theorem i_RP_member_4 : ix_nx mRP_member 4 = some (0, .iload_n 2, 5, none, [], 0) := rfl
theorem i_RP_member_5 : ix_nx mRP_member 5 = some (0, .lload_n 0, 6, none, [], 0) := rfl
theorem i_RP_member_6 : ix_nx mRP_member 6 = some (3, .invokestatic 104, 9, none, [1, 6, 14], 0) := rfl
theorem i_RP_member_9 : ix_nx mRP_member 9 = some (0, .if_icmp .lt 6, 12, none, [], 0) := rfl
theorem i_RP_member_12 : ix_nx mRP_member 12 = some (0, .bipush (-6), 14, none, [], 0) := rfl
theorem i_RP_member_14 : ix_nx mRP_member 14 = some (4, .ireturn, 15, none, [], 0) := rfl
theorem i_RP_member_15 : ix_nx mRP_member 15 = some (0, .lload_n 0, 16, none, [], 0) := rfl
theorem i_RP_member_16 : ix_nx mRP_member 16 = some (0, .lstore_n 3, 17, none, [], 0) := rfl
theorem i_RP_member_17 : ix_nx mRP_member 17 = some (0, .iconst 0, 18, none, [], 0) := rfl
theorem i_RP_member_18 : ix_nx mRP_member 18 = some (0, .istore 5, 20, none, [], 0) := rfl
theorem i_RP_member_20 : ix_nx mRP_member 20 = some (0, .iload 5, 22, some [false, false, true, true, false, true], [], 0) := rfl
theorem i_RP_member_22 : ix_nx mRP_member 22 = some (0, .iload_n 2, 23, none, [], 0) := rfl
theorem i_RP_member_23 : ix_nx mRP_member 23 = some (0, .if_icmp .ge 15, 26, none, [], 0) := rfl
theorem i_RP_member_26 : ix_nx mRP_member 26 = some (0, .lload_n 3, 27, none, [], 0) := rfl
theorem i_RP_member_27 : ix_nx mRP_member 27 = some (0, .lload_n 3, 28, none, [], 0) := rfl
theorem i_RP_member_28 : ix_nx mRP_member 28 = some (0, .lconst 1, 29, none, [], 0) := rfl
theorem i_RP_member_29 : ix_nx mRP_member 29 = some (0, .lsub, 30, none, [], 0) := rfl
theorem i_RP_member_30 : ix_nx mRP_member 30 = some (0, .land, 31, none, [], 0) := rfl
theorem i_RP_member_31 : ix_nx mRP_member 31 = some (0, .lstore_n 3, 32, none, [], 0) := rfl
theorem i_RP_member_32 : ix_nx mRP_member 32 = some (0, .iinc 5 1, 35, none, [], 0) := rfl
theorem i_RP_member_35 : ix_nx mRP_member 35 = some (0, .goto (-15), 38, none, [], 0) := rfl
theorem i_RP_member_38 : ix_nx mRP_member 38 = some (0, .lload_n 3, 39, none, [], 0) := rfl
theorem i_RP_member_39 : ix_nx mRP_member 39 = some (3, .invokestatic 308, 42, none, [1, 16, 50], 0) := rfl
theorem i_RP_member_42 : ix_nx mRP_member 42 = some (4, .ireturn, 43, none, [], 0) := rfl
noncomputable def l_RP_member_20 (x2 : Int32) (x3 : Int64) (x5 : Int32) (h : ixH) : Option (List Value × ixH) := ix_D mRP_member 20 [none, none, some (.int x2), some (.long x3), none, some (.int x5)] [] h
set_option maxRecDepth 20000 in
set_option maxHeartbeats 1000000 in
theorem e_RP_member_20 (x2 : Int32) (x3 : Int64) (x5 : Int32) (h : ixH) : l_RP_member_20 x2 x3 x5 h = if x2 ≤ x5 then (ix_M mRP_lowest [.long x3] h).bind fun r => ix_kI r fun v2 h1 => some ([.int v2], h1) else l_RP_member_20 x2 (x3 &&& (x3 - 1)) (x5 + 1) h := by
  unfold l_RP_member_20
  refine ix_K_px kq_RP_member i_RP_member_20 rfl rfl ?_
  refine ix_K_px kq_RP_member i_RP_member_22 rfl rfl ?_
  refine ix_K_ic_ge (tgt := 38) kq_RP_member i_RP_member_23 rfl (by decide) ?_ ?_
  · refine ix_K_px kq_RP_member i_RP_member_38 rfl rfl ?_
    refine ix_K_callI (as := [.long x3]) (rest := []) kq_RP_member i_RP_member_39 rfl kq_RP_lowest (by decide) rfl (Or.inl rfl) (fun v2 h1 => ?_)
    exact ix_D_ret kq_RP_member i_RP_member_42 (ix_rtI rfl _)
  · refine ix_K_px kq_RP_member i_RP_member_26 rfl rfl ?_
    refine ix_K_px kq_RP_member i_RP_member_27 rfl rfl ?_
    refine ix_K_cl kq_RP_member i_RP_member_28 rfl kcl_1 ?_
    refine ix_K_px kq_RP_member i_RP_member_29 rfl rfl ?_
    refine ix_K_px kq_RP_member i_RP_member_30 rfl rfl ?_
    refine ix_K_sl (L2 := [none, none, some (.int x2), some (.long (x3 &&& (x3 - 1))), none, some (.int x5)]) kq_RP_member i_RP_member_31 rfl (Or.inr ⟨_, rfl, rfl⟩) (Nat.le_of_ble_eq_true rfl) rfl ?_
    refine ix_K_inc (L2 := [none, none, some (.int x2), some (.long (x3 &&& (x3 - 1))), none, some (.int (x5 + 1))]) kq_RP_member i_RP_member_32 rfl rfl (Nat.le_of_ble_eq_true rfl) kci_1 rfl ?_
    refine ix_K_goto (tgt := 20) kq_RP_member i_RP_member_35 rfl (by decide) ?_
    exact ix_D_cut i_RP_member_20 rfl
set_option maxRecDepth 20000 in
set_option maxHeartbeats 1000000 in
theorem e_RP_member (x0 : Int64) (x2 : Int32) (h : ixH) : ix_D mRP_member 0 [some (.long x0), none, some (.int x2), none, none, none] [] h = if x2 < 0 then some ([.int (-6)], h) else (ix_M mRP_size [.long x0] h).bind fun r => ix_kI r fun v2 h1 => if x2 < v2 then l_RP_member_20 x2 x0 0 h1 else some ([.int (-6)], h1) := by
  refine ix_K_px kq_RP_member i_RP_member_0 rfl rfl ?_
  refine ix_K_if_lt (tgt := 12) kq_RP_member i_RP_member_1 rfl (by decide) ?_ ?_
  · refine ix_K_cb kq_RP_member i_RP_member_12 rfl kcb_m6 ?_
    exact ix_D_ret kq_RP_member i_RP_member_14 (ix_rtI rfl _)
  · refine ix_K_px kq_RP_member i_RP_member_4 rfl rfl ?_
    refine ix_K_px kq_RP_member i_RP_member_5 rfl rfl ?_
    refine ix_K_callI (as := [.long x0]) (rest := [.int x2]) kq_RP_member i_RP_member_6 rfl kq_RP_size (by decide) rfl (Or.inl rfl) (fun v2 h1 => ?_)
    refine ix_K_ic_lt (tgt := 15) kq_RP_member i_RP_member_9 rfl (by decide) ?_ ?_
    · refine ix_K_px kq_RP_member i_RP_member_15 rfl rfl ?_
      refine ix_K_sl (L2 := [some (.long x0), none, some (.int x2), some (.long x0), none, none]) kq_RP_member i_RP_member_16 rfl (Or.inr ⟨_, rfl, rfl⟩) (Nat.le_of_ble_eq_true rfl) rfl ?_
      refine ix_K_ci kq_RP_member i_RP_member_17 rfl kci_0 ?_
      refine ix_K_si (L2 := [some (.long x0), none, some (.int x2), some (.long x0), none, some (.int 0)]) kq_RP_member i_RP_member_18 rfl (Or.inl rfl) (Nat.le_of_ble_eq_true rfl) rfl ?_
      exact ix_D_cut i_RP_member_20 rfl
    · refine ix_K_cb kq_RP_member i_RP_member_12 rfl kcb_m6 ?_
      exact ix_D_ret kq_RP_member i_RP_member_14 (ix_rtI rfl _)
theorem x_RP_member {x0 : Int64} {x2 : Int32} {h h1 : ixH} {v : Int32} (hd : ix_D mRP_member 0 [some (.long x0), none, some (.int x2), none, none, none] [] h = some ([.int v], h1)) : ix_M mRP_member [.long x0, .int x2] h = some ([.int v], h1) := ix_M_of (ix_ent_s kq_RP_member rfl rfl (Nat.le_of_ble_eq_true rfl) rfl) hd (ix_okrI (Or.inl rfl) v)
theorem i_RP_changed_0 : ix_nx mRP_changed 0 = some (0, .aload_n 0, 1, none, [], 0) := rfl
theorem i_RP_changed_1 : ix_nx mRP_changed 1 = some (1, .getfield 10, 4, none, [0, 0, 2, 71], 0) := rfl
theorem i_RP_changed_4 : ix_nx mRP_changed 4 = some (1, .getfield 78, 7, none, [1, 0, 2, 31], 0) := rfl
theorem i_RP_changed_7 : ix_nx mRP_changed 7 = some (0, .iload_n 1, 8, none, [], 0) := rfl
theorem i_RP_changed_8 : ix_nx mRP_changed 8 = some (3, .invokevirtual 88, 11, none, [0, 63, 11], 0) := rfl
theorem i_RP_changed_11 : ix_nx mRP_changed 11 = some (0, .ifCond .ne 5, 14, none, [], 0) := rfl
theorem i_RP_changed_14 : ix_nx mRP_changed 14 = some (0, .iconst (-1), 15, none, [], 0) := rfl
theorem i_RP_changed_15 : ix_nx mRP_changed 15 = some (4, .ireturn, 16, none, [], 0) := rfl
theorem i_RP_changed_16 : ix_nx mRP_changed 16 = some (0, .aload_n 0, 17, none, [], 0) := rfl
theorem i_RP_changed_17 : ix_nx mRP_changed 17 = some (1, .getfield 48, 20, none, [0, 6, 2, 77], 0) := rfl
theorem i_RP_changed_20 : ix_nx mRP_changed 20 = some (0, .aload_n 0, 21, none, [], 0) := rfl
theorem i_RP_changed_21 : ix_nx mRP_changed 21 = some (1, .getfield 10, 24, none, [0, 0, 2, 71], 0) := rfl
theorem i_RP_changed_24 : ix_nx mRP_changed 24 = some (1, .getfield 78, 27, none, [1, 0, 2, 31], 0) := rfl
theorem i_RP_changed_27 : ix_nx mRP_changed 27 = some (0, .aload_n 0, 28, none, [], 0) := rfl
theorem i_RP_changed_28 : ix_nx mRP_changed 28 = some (1, .getfield 10, 31, none, [0, 0, 2, 71], 0) := rfl
theorem i_RP_changed_31 : ix_nx mRP_changed 31 = some (1, .getfield 78, 34, none, [1, 0, 2, 31], 0) := rfl
theorem i_RP_changed_34 : ix_nx mRP_changed 34 = some (1, .getfield 94, 37, none, [2, 5, 1, 18], 0) := rfl
theorem i_RP_changed_37 : ix_nx mRP_changed 37 = some (0, .iload_n 1, 38, none, [], 0) := rfl
theorem i_RP_changed_38 : ix_nx mRP_changed 38 = some (3, .invokestatic 98, 41, none, [1, 1, 13], 0) := rfl
theorem i_RP_changed_41 : ix_nx mRP_changed 41 = some (0, .lxor, 42, none, [], 0) := rfl
theorem i_RP_changed_42 : ix_nx mRP_changed 42 = some (0, .iconst 0, 43, none, [], 0) := rfl
theorem i_RP_changed_43 : ix_nx mRP_changed 43 = some (3, .invokevirtual 214, 46, none, [0, 108, 28], 0) := rfl
theorem i_RP_changed_46 : ix_nx mRP_changed 46 = some (4, .ireturn, 47, none, [], 0) := rfl
set_option maxRecDepth 20000 in
set_option maxHeartbeats 1000000 in
theorem e_RP_changed (a0 : Nat) (x1 : Int32) (h : ixH) : ix_D mRP_changed 0 [some (.ref a0), some (.int x1)] [] h = (ix_gr h a0 0 0).bind fun v1 => (ix_gr h v1 1 0).bind fun v2 => (ix_M mGr_has [.ref v2, .int x1] h).bind fun r => ix_kZ r fun v4 h3 => if v4 = true then (ix_gr h3 a0 0 6).bind fun v5 => (ix_gr h3 a0 0 0).bind fun v6 => (ix_gr h3 v6 1 0).bind fun v7 => (ix_gr h3 a0 0 0).bind fun v8 => (ix_gr h3 v8 1 0).bind fun v9 => (ix_gl h3 v9 2 5).bind fun v10 => (ix_M mRP_bit [.int x1] h3).bind fun r => ix_kL r fun v12 h11 => (ix_M mSm_widen [.ref v5, .ref v7, .long (v10 ^^^ v12), .int 0] h11).bind fun r => ix_kI r fun v14 h13 => some ([.int v14], h13) else some ([.int (-1)], h3) := by
  refine ix_K_px kq_RP_changed i_RP_changed_0 rfl rfl ?_
  refine ix_K_gr kq_RP_changed i_RP_changed_1 rfl (fun v1 => ?_)
  refine ix_K_gr kq_RP_changed i_RP_changed_4 rfl (fun v2 => ?_)
  refine ix_K_px kq_RP_changed i_RP_changed_7 rfl rfl ?_
  refine ix_K_callZ (as := [.ref v2, .int x1]) (rest := []) kq_RP_changed i_RP_changed_8 rfl kq_Gr_has (by decide) rfl rfl (fun v4 h3 => ?_)
  refine ix_K_bz_ne (tgt := 16) kq_RP_changed i_RP_changed_11 rfl (by decide) ?_ ?_
  · refine ix_K_px kq_RP_changed i_RP_changed_16 rfl rfl ?_
    refine ix_K_gr kq_RP_changed i_RP_changed_17 rfl (fun v5 => ?_)
    refine ix_K_px kq_RP_changed i_RP_changed_20 rfl rfl ?_
    refine ix_K_gr kq_RP_changed i_RP_changed_21 rfl (fun v6 => ?_)
    refine ix_K_gr kq_RP_changed i_RP_changed_24 rfl (fun v7 => ?_)
    refine ix_K_px kq_RP_changed i_RP_changed_27 rfl rfl ?_
    refine ix_K_gr kq_RP_changed i_RP_changed_28 rfl (fun v8 => ?_)
    refine ix_K_gr kq_RP_changed i_RP_changed_31 rfl (fun v9 => ?_)
    refine ix_K_gl kq_RP_changed i_RP_changed_34 rfl (fun v10 => ?_)
    refine ix_K_px kq_RP_changed i_RP_changed_37 rfl rfl ?_
    refine ix_K_callL (as := [.int x1]) (rest := [.long v10, .ref v7, .ref v5]) kq_RP_changed i_RP_changed_38 rfl kq_RP_bit (by decide) rfl rfl (fun v12 h11 => ?_)
    refine ix_K_px kq_RP_changed i_RP_changed_41 rfl rfl ?_
    refine ix_K_ci kq_RP_changed i_RP_changed_42 rfl kci_0 ?_
    refine ix_K_callI (as := [.ref v5, .ref v7, .long (v10 ^^^ v12), .int 0]) (rest := []) kq_RP_changed i_RP_changed_43 rfl kq_Sm_widen (by decide) rfl (Or.inl rfl) (fun v14 h13 => ?_)
    exact ix_D_ret kq_RP_changed i_RP_changed_46 (ix_rtI rfl _)
  · refine ix_K_ci kq_RP_changed i_RP_changed_14 rfl kci_m1 ?_
    exact ix_D_ret kq_RP_changed i_RP_changed_15 (ix_rtI rfl _)
theorem x_RP_changed {a0 : Nat} {x1 : Int32} {h h1 : ixH} {v : Int32} (hr : ix_rc h a0 = some 0) (hd : ix_D mRP_changed 0 [some (.ref a0), some (.int x1)] [] h = some ([.int v], h1)) : ix_M mRP_changed [.ref a0, .int x1] h = some ([.int v], h1) := ix_M_of (ix_ent_i kq_RP_changed rfl hr rfl (Nat.le_of_ble_eq_true rfl) rfl) hd (ix_okrI (Or.inl rfl) v)
theorem i_RP_bestTurns_0 : ix_nx mRP_bestTurns 0 = some (0, .iload_n 1, 1, none, [], 0) := rfl
theorem i_RP_bestTurns_1 : ix_nx mRP_bestTurns 1 = some (3, .invokestatic 91, 4, none, [1, 5, 12], 0) := rfl
theorem i_RP_bestTurns_4 : ix_nx mRP_bestTurns 4 = some (0, .ifCond .ne 6, 7, none, [], 0) := rfl
theorem i_RP_bestTurns_7 : ix_nx mRP_bestTurns 7 = some (0, .bipush (-2), 9, none, [], 0) := rfl
theorem i_RP_bestTurns_9 : ix_nx mRP_bestTurns 9 = some (4, .ireturn, 10, none, [], 0) := rfl
theorem i_RP_bestTurns_10 : ix_nx mRP_bestTurns 10 = some (0, .iconst 0, 11, none, [], 0) := rfl
theorem i_RP_bestTurns_11 : ix_nx mRP_bestTurns 11 = some (0, .istore_n 2, 12, none, [], 0) := rfl
theorem i_RP_bestTurns_12 : ix_nx mRP_bestTurns 12 = some (0, .iconst (-1), 13, none, [], 0) := rfl
theorem i_RP_bestTurns_13 : ix_nx mRP_bestTurns 13 = some (0, .istore_n 3, 14, none, [], 0) := rfl
theorem i_RP_bestTurns_14 : ix_nx mRP_bestTurns 14 = some (0, .iconst 0, 15, none, [], 0) := rfl
theorem i_RP_bestTurns_15 : ix_nx mRP_bestTurns 15 = some (0, .istore 4, 17, none, [], 0) := rfl
theorem i_RP_bestTurns_17 : ix_nx mRP_bestTurns 17 = some (0, .iload 4, 19, some [true, true, true, true, true, false, false], [], 0) := rfl
theorem i_RP_bestTurns_19 : ix_nx mRP_bestTurns 19 = some (0, .bipush 16, 21, none, [], 0) := rfl
theorem i_RP_bestTurns_21 : ix_nx mRP_bestTurns 21 = some (0, .if_icmp .ge 80, 24, none, [], 0) := rfl
theorem i_RP_bestTurns_24 : ix_nx mRP_bestTurns 24 = some (0, .aload_n 0, 25, none, [], 0) := rfl
theorem i_RP_bestTurns_25 : ix_nx mRP_bestTurns 25 = some (1, .getfield 48, 28, none, [0, 6, 2, 77], 0) := rfl
theorem i_RP_bestTurns_28 : ix_nx mRP_bestTurns 28 = some (0, .aload_n 0, 29, none, [], 0) := rfl
theorem i_RP_bestTurns_29 : ix_nx mRP_bestTurns 29 = some (1, .getfield 10, 32, none, [0, 0, 2, 71], 0) := rfl
theorem i_RP_bestTurns_32 : ix_nx mRP_bestTurns 32 = some (1, .getfield 78, 35, none, [1, 0, 2, 31], 0) := rfl
theorem i_RP_bestTurns_35 : ix_nx mRP_bestTurns 35 = some (0, .aload_n 0, 36, none, [], 0) := rfl
theorem i_RP_bestTurns_36 : ix_nx mRP_bestTurns 36 = some (1, .getfield 10, 39, none, [0, 0, 2, 71], 0) := rfl
theorem i_RP_bestTurns_39 : ix_nx mRP_bestTurns 39 = some (1, .getfield 78, 42, none, [1, 0, 2, 31], 0) := rfl
theorem i_RP_bestTurns_42 : ix_nx mRP_bestTurns 42 = some (0, .iload 4, 44, none, [], 0) := rfl
theorem i_RP_bestTurns_44 : ix_nx mRP_bestTurns 44 = some (3, .invokevirtual 222, 47, none, [0, 77, 51], 0) := rfl
theorem i_RP_bestTurns_47 : ix_nx mRP_bestTurns 47 = some (0, .iconst 0, 48, none, [], 0) := rfl
theorem i_RP_bestTurns_48 : ix_nx mRP_bestTurns 48 = some (3, .invokevirtual 214, 51, none, [0, 108, 28], 0) := rfl
theorem i_RP_bestTurns_51 : ix_nx mRP_bestTurns 51 = some (0, .istore 5, 53, none, [], 0) := rfl
theorem i_RP_bestTurns_53 : ix_nx mRP_bestTurns 53 = some (0, .iload 4, 55, none, [], 0) := rfl
theorem i_RP_bestTurns_55 : ix_nx mRP_bestTurns 55 = some (3, .invokestatic 225, 58, none, [1, 255, 52], 0) := rfl
theorem i_RP_bestTurns_58 : ix_nx mRP_bestTurns 58 = some (0, .iload_n 2, 59, none, [], 0) := rfl
theorem i_RP_bestTurns_59 : ix_nx mRP_bestTurns 59 = some (3, .invokestatic 225, 62, none, [1, 255, 52], 0) := rfl
theorem i_RP_bestTurns_62 : ix_nx mRP_bestTurns 62 = some (0, .if_icmp .ge 7, 65, none, [], 0) := rfl
theorem i_RP_bestTurns_65 : ix_nx mRP_bestTurns 65 = some (0, .iconst 1, 66, none, [], 0) := rfl
theorem i_RP_bestTurns_66 : ix_nx mRP_bestTurns 66 = some (0, .goto 4, 69, none, [], 0) := rfl
theorem i_RP_bestTurns_69 : ix_nx mRP_bestTurns 69 = some (0, .iconst 0, 70, none, [], 0) := rfl
theorem i_RP_bestTurns_70 : ix_nx mRP_bestTurns 70 = some (0, .istore 6, 72, some [true, true, true, true, true, true, false], [], 0) := rfl
theorem i_RP_bestTurns_72 : ix_nx mRP_bestTurns 72 = some (0, .iload 5, 74, none, [], 0) := rfl
theorem i_RP_bestTurns_74 : ix_nx mRP_bestTurns 74 = some (0, .iload_n 3, 75, none, [], 0) := rfl
theorem i_RP_bestTurns_75 : ix_nx mRP_bestTurns 75 = some (0, .if_icmp .gt 14, 78, none, [], 0) := rfl
theorem i_RP_bestTurns_78 : ix_nx mRP_bestTurns 78 = some (0, .iload 5, 80, none, [], 0) := rfl
theorem i_RP_bestTurns_80 : ix_nx mRP_bestTurns 80 = some (0, .iload_n 3, 81, none, [], 0) := rfl
theorem i_RP_bestTurns_81 : ix_nx mRP_bestTurns 81 = some (0, .if_icmp .ne 14, 84, none, [], 0) := rfl
theorem i_RP_bestTurns_84 : ix_nx mRP_bestTurns 84 = some (0, .iload 6, 86, none, [], 0) := rfl
theorem i_RP_bestTurns_86 : ix_nx mRP_bestTurns 86 = some (0, .ifCond .eq 9, 89, none, [], 0) := rfl
theorem i_RP_bestTurns_89 : ix_nx mRP_bestTurns 89 = some (0, .iload 4, 91, none, [], 0) := rfl
theorem i_RP_bestTurns_91 : ix_nx mRP_bestTurns 91 = some (0, .istore_n 2, 92, none, [], 0) := rfl
theorem i_RP_bestTurns_92 : ix_nx mRP_bestTurns 92 = some (0, .iload 5, 94, none, [], 0) := rfl
theorem i_RP_bestTurns_94 : ix_nx mRP_bestTurns 94 = some (0, .istore_n 3, 95, none, [], 0) := rfl
theorem i_RP_bestTurns_95 : ix_nx mRP_bestTurns 95 = some (0, .iinc 4 1, 98, none, [], 0) := rfl
theorem i_RP_bestTurns_98 : ix_nx mRP_bestTurns 98 = some (0, .goto (-81), 101, none, [], 0) := rfl
theorem i_RP_bestTurns_101 : ix_nx mRP_bestTurns 101 = some (0, .iload_n 1, 102, none, [], 0) := rfl
theorem i_RP_bestTurns_102 : ix_nx mRP_bestTurns 102 = some (0, .ifCond .ne 7, 105, none, [], 0) := rfl
theorem i_RP_bestTurns_105 : ix_nx mRP_bestTurns 105 = some (0, .iload_n 2, 106, none, [], 0) := rfl
theorem i_RP_bestTurns_106 : ix_nx mRP_bestTurns 106 = some (0, .goto 4, 109, none, [], 0) := rfl
theorem i_RP_bestTurns_109 : ix_nx mRP_bestTurns 109 = some (0, .iload_n 3, 110, none, [], 0) := rfl
theorem i_RP_bestTurns_110 : ix_nx mRP_bestTurns 110 = some (4, .ireturn, 111, none, [], 0) := rfl
noncomputable def l_RP_bestTurns_17 (a0 : Nat) (x1 : Int32) (x2 : Int32) (x3 : Int32) (x4 : Int32) (h : ixH) : Option (List Value × ixH) := ix_D mRP_bestTurns 17 [some (.ref a0), some (.int x1), some (.int x2), some (.int x3), some (.int x4), none, none] [] h
noncomputable def l_RP_bestTurns_70 (a0 : Nat) (x1 : Int32) (x2 : Int32) (x3 : Int32) (x4 : Int32) (x5 : Int32) (sb0 : Bool) (h : ixH) : Option (List Value × ixH) := ix_D mRP_bestTurns 70 [some (.ref a0), some (.int x1), some (.int x2), some (.int x3), some (.int x4), some (.int x5), none] [.int (ix_bi sb0)] h
set_option maxRecDepth 20000 in
set_option maxHeartbeats 1000000 in
theorem e_RP_bestTurns_17 (a0 : Nat) (x1 : Int32) (x2 : Int32) (x3 : Int32) (x4 : Int32) (h : ixH) : l_RP_bestTurns_17 a0 x1 x2 x3 x4 h = if 16 ≤ x4 then if ¬ x1 = 0 then some ([.int x3], h) else some ([.int x2], h) else (ix_gr h a0 0 6).bind fun v1 => (ix_gr h a0 0 0).bind fun v2 => (ix_gr h v2 1 0).bind fun v3 => (ix_gr h a0 0 0).bind fun v4 => (ix_gr h v4 1 0).bind fun v5 => (ix_M mGr_wallsTurned [.ref v5, .int x4] h).bind fun r => ix_kL r fun v7 h6 => (ix_M mSm_widen [.ref v1, .ref v3, .long v7, .int 0] h6).bind fun r => ix_kI r fun v9 h8 => (ix_M mJI_bitCount [.int x4] h8).bind fun r => ix_kI r fun v11 h10 => (ix_M mJI_bitCount [.int x2] h10).bind fun r => ix_kI r fun v13 h12 => if v13 ≤ v11 then l_RP_bestTurns_70 a0 x1 x2 x3 x4 v9 false h12 else l_RP_bestTurns_70 a0 x1 x2 x3 x4 v9 true h12 := by
  unfold l_RP_bestTurns_17
  refine ix_K_px kq_RP_bestTurns i_RP_bestTurns_17 rfl rfl ?_
  refine ix_K_cb kq_RP_bestTurns i_RP_bestTurns_19 rfl kcb_16 ?_
  refine ix_K_ic_ge (tgt := 101) kq_RP_bestTurns i_RP_bestTurns_21 rfl (by decide) ?_ ?_
  · refine ix_K_px kq_RP_bestTurns i_RP_bestTurns_101 rfl rfl ?_
    refine ix_K_if_ne (tgt := 109) kq_RP_bestTurns i_RP_bestTurns_102 rfl (by decide) ?_ ?_
    · refine ix_K_px kq_RP_bestTurns i_RP_bestTurns_109 rfl rfl ?_
      exact ix_D_ret kq_RP_bestTurns i_RP_bestTurns_110 (ix_rtI rfl _)
    · refine ix_K_px kq_RP_bestTurns i_RP_bestTurns_105 rfl rfl ?_
      refine ix_K_goto (tgt := 110) kq_RP_bestTurns i_RP_bestTurns_106 rfl (by decide) ?_
      exact ix_D_ret kq_RP_bestTurns i_RP_bestTurns_110 (ix_rtI rfl _)
  · refine ix_K_px kq_RP_bestTurns i_RP_bestTurns_24 rfl rfl ?_
    refine ix_K_gr kq_RP_bestTurns i_RP_bestTurns_25 rfl (fun v1 => ?_)
    refine ix_K_px kq_RP_bestTurns i_RP_bestTurns_28 rfl rfl ?_
    refine ix_K_gr kq_RP_bestTurns i_RP_bestTurns_29 rfl (fun v2 => ?_)
    refine ix_K_gr kq_RP_bestTurns i_RP_bestTurns_32 rfl (fun v3 => ?_)
    refine ix_K_px kq_RP_bestTurns i_RP_bestTurns_35 rfl rfl ?_
    refine ix_K_gr kq_RP_bestTurns i_RP_bestTurns_36 rfl (fun v4 => ?_)
    refine ix_K_gr kq_RP_bestTurns i_RP_bestTurns_39 rfl (fun v5 => ?_)
    refine ix_K_px kq_RP_bestTurns i_RP_bestTurns_42 rfl rfl ?_
    refine ix_K_callL (as := [.ref v5, .int x4]) (rest := [.ref v3, .ref v1]) kq_RP_bestTurns i_RP_bestTurns_44 rfl kq_Gr_wallsTurned (by decide) rfl rfl (fun v7 h6 => ?_)
    refine ix_K_ci kq_RP_bestTurns i_RP_bestTurns_47 rfl kci_0 ?_
    refine ix_K_callI (as := [.ref v1, .ref v3, .long v7, .int 0]) (rest := []) kq_RP_bestTurns i_RP_bestTurns_48 rfl kq_Sm_widen (by decide) rfl (Or.inl rfl) (fun v9 h8 => ?_)
    refine ix_K_si (L2 := [some (.ref a0), some (.int x1), some (.int x2), some (.int x3), some (.int x4), some (.int v9), none]) kq_RP_bestTurns i_RP_bestTurns_51 rfl (Or.inl rfl) (Nat.le_of_ble_eq_true rfl) rfl ?_
    refine ix_K_px kq_RP_bestTurns i_RP_bestTurns_53 rfl rfl ?_
    refine ix_K_callI (as := [.int x4]) (rest := []) kq_RP_bestTurns i_RP_bestTurns_55 rfl kq_JI_bitCount (by decide) rfl (Or.inl rfl) (fun v11 h10 => ?_)
    refine ix_K_px kq_RP_bestTurns i_RP_bestTurns_58 rfl rfl ?_
    refine ix_K_callI (as := [.int x2]) (rest := [.int v11]) kq_RP_bestTurns i_RP_bestTurns_59 rfl kq_JI_bitCount (by decide) rfl (Or.inl rfl) (fun v13 h12 => ?_)
    refine ix_K_ic_ge (tgt := 69) kq_RP_bestTurns i_RP_bestTurns_62 rfl (by decide) ?_ ?_
    · refine ix_K_ci kq_RP_bestTurns i_RP_bestTurns_69 rfl kci_0 ?_
      exact ix_D_cut i_RP_bestTurns_70 rfl
    · refine ix_K_ci kq_RP_bestTurns i_RP_bestTurns_65 rfl kci_1 ?_
      refine ix_K_goto (tgt := 70) kq_RP_bestTurns i_RP_bestTurns_66 rfl (by decide) ?_
      exact ix_D_cut i_RP_bestTurns_70 rfl
set_option maxRecDepth 20000 in
set_option maxHeartbeats 1000000 in
theorem e_RP_bestTurns_70 (a0 : Nat) (x1 : Int32) (x2 : Int32) (x3 : Int32) (x4 : Int32) (x5 : Int32) (sb0 : Bool) (h : ixH) : l_RP_bestTurns_70 a0 x1 x2 x3 x4 x5 sb0 h = if x3 < x5 then l_RP_bestTurns_17 a0 x1 x4 x5 (x4 + 1) h else if ¬ x5 = x3 then l_RP_bestTurns_17 a0 x1 x2 x3 (x4 + 1) h else if sb0 = true then l_RP_bestTurns_17 a0 x1 x4 x5 (x4 + 1) h else l_RP_bestTurns_17 a0 x1 x2 x3 (x4 + 1) h := by
  unfold l_RP_bestTurns_70
  refine ix_K_si (L2 := [some (.ref a0), some (.int x1), some (.int x2), some (.int x3), some (.int x4), some (.int x5), some (.int (ix_bi sb0))]) kq_RP_bestTurns i_RP_bestTurns_70 rfl (Or.inl rfl) (Nat.le_of_ble_eq_true rfl) rfl ?_
  refine ix_K_px kq_RP_bestTurns i_RP_bestTurns_72 rfl rfl ?_
  refine ix_K_px kq_RP_bestTurns i_RP_bestTurns_74 rfl rfl ?_
  refine ix_K_ic_gt (tgt := 89) kq_RP_bestTurns i_RP_bestTurns_75 rfl (by decide) ?_ ?_
  · refine ix_K_px kq_RP_bestTurns i_RP_bestTurns_89 rfl rfl ?_
    refine ix_K_si (L2 := [some (.ref a0), some (.int x1), some (.int x4), some (.int x3), some (.int x4), some (.int x5), some (.int (ix_bi sb0))]) kq_RP_bestTurns i_RP_bestTurns_91 rfl (Or.inr ⟨_, rfl, rfl⟩) (Nat.le_of_ble_eq_true rfl) rfl ?_
    refine ix_K_px kq_RP_bestTurns i_RP_bestTurns_92 rfl rfl ?_
    refine ix_K_si (L2 := [some (.ref a0), some (.int x1), some (.int x4), some (.int x5), some (.int x4), some (.int x5), some (.int (ix_bi sb0))]) kq_RP_bestTurns i_RP_bestTurns_94 rfl (Or.inr ⟨_, rfl, rfl⟩) (Nat.le_of_ble_eq_true rfl) rfl ?_
    refine ix_K_inc (L2 := [some (.ref a0), some (.int x1), some (.int x4), some (.int x5), some (.int (x4 + 1)), some (.int x5), some (.int (ix_bi sb0))]) kq_RP_bestTurns i_RP_bestTurns_95 rfl rfl (Nat.le_of_ble_eq_true rfl) kci_1 rfl ?_
    refine ix_K_goto (tgt := 17) kq_RP_bestTurns i_RP_bestTurns_98 rfl (by decide) ?_
    exact ix_D_cut i_RP_bestTurns_17 rfl
  · refine ix_K_px kq_RP_bestTurns i_RP_bestTurns_78 rfl rfl ?_
    refine ix_K_px kq_RP_bestTurns i_RP_bestTurns_80 rfl rfl ?_
    refine ix_K_ic_ne (tgt := 95) kq_RP_bestTurns i_RP_bestTurns_81 rfl (by decide) ?_ ?_
    · refine ix_K_inc (L2 := [some (.ref a0), some (.int x1), some (.int x2), some (.int x3), some (.int (x4 + 1)), some (.int x5), some (.int (ix_bi sb0))]) kq_RP_bestTurns i_RP_bestTurns_95 rfl rfl (Nat.le_of_ble_eq_true rfl) kci_1 rfl ?_
      refine ix_K_goto (tgt := 17) kq_RP_bestTurns i_RP_bestTurns_98 rfl (by decide) ?_
      exact ix_D_cut i_RP_bestTurns_17 rfl
    · refine ix_K_px kq_RP_bestTurns i_RP_bestTurns_84 rfl rfl ?_
      refine ix_K_bz_eq (tgt := 95) kq_RP_bestTurns i_RP_bestTurns_86 rfl (by decide) ?_ ?_
      · refine ix_K_px kq_RP_bestTurns i_RP_bestTurns_89 rfl rfl ?_
        refine ix_K_si (L2 := [some (.ref a0), some (.int x1), some (.int x4), some (.int x3), some (.int x4), some (.int x5), some (.int (ix_bi sb0))]) kq_RP_bestTurns i_RP_bestTurns_91 rfl (Or.inr ⟨_, rfl, rfl⟩) (Nat.le_of_ble_eq_true rfl) rfl ?_
        refine ix_K_px kq_RP_bestTurns i_RP_bestTurns_92 rfl rfl ?_
        refine ix_K_si (L2 := [some (.ref a0), some (.int x1), some (.int x4), some (.int x5), some (.int x4), some (.int x5), some (.int (ix_bi sb0))]) kq_RP_bestTurns i_RP_bestTurns_94 rfl (Or.inr ⟨_, rfl, rfl⟩) (Nat.le_of_ble_eq_true rfl) rfl ?_
        refine ix_K_inc (L2 := [some (.ref a0), some (.int x1), some (.int x4), some (.int x5), some (.int (x4 + 1)), some (.int x5), some (.int (ix_bi sb0))]) kq_RP_bestTurns i_RP_bestTurns_95 rfl rfl (Nat.le_of_ble_eq_true rfl) kci_1 rfl ?_
        refine ix_K_goto (tgt := 17) kq_RP_bestTurns i_RP_bestTurns_98 rfl (by decide) ?_
        exact ix_D_cut i_RP_bestTurns_17 rfl
      · refine ix_K_inc (L2 := [some (.ref a0), some (.int x1), some (.int x2), some (.int x3), some (.int (x4 + 1)), some (.int x5), some (.int (ix_bi sb0))]) kq_RP_bestTurns i_RP_bestTurns_95 rfl rfl (Nat.le_of_ble_eq_true rfl) kci_1 rfl ?_
        refine ix_K_goto (tgt := 17) kq_RP_bestTurns i_RP_bestTurns_98 rfl (by decide) ?_
        exact ix_D_cut i_RP_bestTurns_17 rfl
set_option maxRecDepth 20000 in
set_option maxHeartbeats 1000000 in
theorem e_RP_bestTurns (a0 : Nat) (x1 : Int32) (h : ixH) : ix_D mRP_bestTurns 0 [some (.ref a0), some (.int x1), none, none, none, none, none] [] h = (ix_M mRP_isFlag [.int x1] h).bind fun r => ix_kZ r fun v2 h1 => if v2 = true then l_RP_bestTurns_17 a0 x1 0 (-1) 0 h1 else some ([.int (-2)], h1) := by
  refine ix_K_px kq_RP_bestTurns i_RP_bestTurns_0 rfl rfl ?_
  refine ix_K_callZ (as := [.int x1]) (rest := []) kq_RP_bestTurns i_RP_bestTurns_1 rfl kq_RP_isFlag (by decide) rfl rfl (fun v2 h1 => ?_)
  refine ix_K_bz_ne (tgt := 10) kq_RP_bestTurns i_RP_bestTurns_4 rfl (by decide) ?_ ?_
  · refine ix_K_ci kq_RP_bestTurns i_RP_bestTurns_10 rfl kci_0 ?_
    refine ix_K_si (L2 := [some (.ref a0), some (.int x1), some (.int 0), none, none, none, none]) kq_RP_bestTurns i_RP_bestTurns_11 rfl (Or.inr ⟨_, rfl, rfl⟩) (Nat.le_of_ble_eq_true rfl) rfl ?_
    refine ix_K_ci kq_RP_bestTurns i_RP_bestTurns_12 rfl kci_m1 ?_
    refine ix_K_si (L2 := [some (.ref a0), some (.int x1), some (.int 0), some (.int (-1)), none, none, none]) kq_RP_bestTurns i_RP_bestTurns_13 rfl (Or.inr ⟨_, rfl, rfl⟩) (Nat.le_of_ble_eq_true rfl) rfl ?_
    refine ix_K_ci kq_RP_bestTurns i_RP_bestTurns_14 rfl kci_0 ?_
    refine ix_K_si (L2 := [some (.ref a0), some (.int x1), some (.int 0), some (.int (-1)), some (.int 0), none, none]) kq_RP_bestTurns i_RP_bestTurns_15 rfl (Or.inl rfl) (Nat.le_of_ble_eq_true rfl) rfl ?_
    exact ix_D_cut i_RP_bestTurns_17 rfl
  · refine ix_K_cb kq_RP_bestTurns i_RP_bestTurns_7 rfl kcb_m2 ?_
    exact ix_D_ret kq_RP_bestTurns i_RP_bestTurns_9 (ix_rtI rfl _)
theorem x_RP_bestTurns {a0 : Nat} {x1 : Int32} {h h1 : ixH} {v : Int32} (hr : ix_rc h a0 = some 0) (hd : ix_D mRP_bestTurns 0 [some (.ref a0), some (.int x1), none, none, none, none, none] [] h = some ([.int v], h1)) : ix_M mRP_bestTurns [.ref a0, .int x1] h = some ([.int v], h1) := ix_M_of (ix_ent_i kq_RP_bestTurns rfl hr rfl (Nat.le_of_ble_eq_true rfl) rfl) hd (ix_okrI (Or.inl rfl) v)
theorem i_RP_cover_0 : ix_nx mRP_cover 0 = some (0, .aload_n 0, 1, none, [], 0) := rfl
theorem i_RP_cover_1 : ix_nx mRP_cover 1 = some (1, .getfield 55, 4, none, [0, 7, 2, 78], 0) := rfl
theorem i_RP_cover_4 : ix_nx mRP_cover 4 = some (0, .aload_n 0, 5, none, [], 0) := rfl
theorem i_RP_cover_5 : ix_nx mRP_cover 5 = some (1, .getfield 10, 8, none, [0, 0, 2, 71], 0) := rfl
theorem i_RP_cover_8 : ix_nx mRP_cover 8 = some (1, .getfield 78, 11, none, [1, 0, 2, 31], 0) := rfl
theorem i_RP_cover_11 : ix_nx mRP_cover 11 = some (0, .aload_n 0, 12, none, [], 0) := rfl
theorem i_RP_cover_12 : ix_nx mRP_cover 12 = some (1, .getfield 10, 15, none, [0, 0, 2, 71], 0) := rfl
theorem i_RP_cover_15 : ix_nx mRP_cover 15 = some (1, .getfield 78, 18, none, [1, 0, 2, 31], 0) := rfl
theorem i_RP_cover_18 : ix_nx mRP_cover 18 = some (0, .iconst 3, 19, none, [], 0) := rfl
theorem i_RP_cover_19 : ix_nx mRP_cover 19 = some (3, .invokevirtual 230, 22, none, [0, 73, 30], 0) := rfl
theorem i_RP_cover_22 : ix_nx mRP_cover 22 = some (3, .invokevirtual 233, 25, none, [0, 118, 31], 0) := rfl
theorem i_RP_cover_25 : ix_nx mRP_cover 25 = some (4, .ireturn, 26, none, [], 0) := rfl
set_option maxRecDepth 20000 in
set_option maxHeartbeats 1000000 in
theorem e_RP_cover (a0 : Nat) (h : ixH) : ix_D mRP_cover 0 [some (.ref a0)] [] h = (ix_gr h a0 0 7).bind fun v1 => (ix_gr h a0 0 0).bind fun v2 => (ix_gr h v2 1 0).bind fun v3 => (ix_gr h a0 0 0).bind fun v4 => (ix_gr h v4 1 0).bind fun v5 => (ix_M mGr_openWith [.ref v5, .int 3] h).bind fun r => ix_kL r fun v7 h6 => (ix_M mCh_join [.ref v1, .ref v3, .long v7] h6).bind fun r => ix_kI r fun v9 h8 => some ([.int v9], h8) := by
  refine ix_K_px kq_RP_cover i_RP_cover_0 rfl rfl ?_
  refine ix_K_gr kq_RP_cover i_RP_cover_1 rfl (fun v1 => ?_)
  refine ix_K_px kq_RP_cover i_RP_cover_4 rfl rfl ?_
  refine ix_K_gr kq_RP_cover i_RP_cover_5 rfl (fun v2 => ?_)
  refine ix_K_gr kq_RP_cover i_RP_cover_8 rfl (fun v3 => ?_)
  refine ix_K_px kq_RP_cover i_RP_cover_11 rfl rfl ?_
  refine ix_K_gr kq_RP_cover i_RP_cover_12 rfl (fun v4 => ?_)
  refine ix_K_gr kq_RP_cover i_RP_cover_15 rfl (fun v5 => ?_)
  refine ix_K_ci kq_RP_cover i_RP_cover_18 rfl kci_3 ?_
  refine ix_K_callL (as := [.ref v5, .int 3]) (rest := [.ref v3, .ref v1]) kq_RP_cover i_RP_cover_19 rfl kq_Gr_openWith (by decide) rfl rfl (fun v7 h6 => ?_)
  refine ix_K_callI (as := [.ref v1, .ref v3, .long v7]) (rest := []) kq_RP_cover i_RP_cover_22 rfl kq_Ch_join (by decide) rfl (Or.inl rfl) (fun v9 h8 => ?_)
  exact ix_D_ret kq_RP_cover i_RP_cover_25 (ix_rtI rfl _)
theorem x_RP_cover {a0 : Nat} {h h1 : ixH} {v : Int32} (hr : ix_rc h a0 = some 0) (hd : ix_D mRP_cover 0 [some (.ref a0)] [] h = some ([.int v], h1)) : ix_M mRP_cover [.ref a0] h = some ([.int v], h1) := ix_M_of (ix_ent_i kq_RP_cover rfl hr rfl (Nat.le_of_ble_eq_true rfl) rfl) hd (ix_okrI (Or.inl rfl) v)
theorem i_RP_group_0 : ix_nx mRP_group 0 = some (0, .aload_n 0, 1, none, [], 0) := rfl
theorem i_RP_group_1 : ix_nx mRP_group 1 = some (3, .invokevirtual 147, 4, none, [0, 15, 26], 0) := rfl
theorem i_RP_group_4 : ix_nx mRP_group 4 = some (0, .iload_n 1, 5, none, [], 0) := rfl
theorem i_RP_group_5 : ix_nx mRP_group 5 = some (3, .invokestatic 218, 8, none, [1, 31, 49], 0) := rfl
theorem i_RP_group_8 : ix_nx mRP_group 8 = some (4, .ireturn, 9, none, [], 0) := rfl
set_option maxRecDepth 20000 in
set_option maxHeartbeats 1000000 in
theorem e_RP_group (a0 : Nat) (x1 : Int32) (h : ixH) : ix_D mRP_group 0 [some (.ref a0), some (.int x1)] [] h = (ix_M mRP_firstGroup [.ref a0] h).bind fun r => ix_kL r fun v2 h1 => (ix_M mRP_member [.long v2, .int x1] h1).bind fun r => ix_kI r fun v4 h3 => some ([.int v4], h3) := by
  refine ix_K_px kq_RP_group i_RP_group_0 rfl rfl ?_
  refine ix_K_callL (as := [.ref a0]) (rest := []) kq_RP_group i_RP_group_1 rfl kq_RP_firstGroup (by decide) rfl rfl (fun v2 h1 => ?_)
  refine ix_K_px kq_RP_group i_RP_group_4 rfl rfl ?_
  refine ix_K_callI (as := [.long v2, .int x1]) (rest := []) kq_RP_group i_RP_group_5 rfl kq_RP_member (by decide) rfl (Or.inl rfl) (fun v4 h3 => ?_)
  exact ix_D_ret kq_RP_group i_RP_group_8 (ix_rtI rfl _)
theorem x_RP_group {a0 : Nat} {x1 : Int32} {h h1 : ixH} {v : Int32} (hr : ix_rc h a0 = some 0) (hd : ix_D mRP_group 0 [some (.ref a0), some (.int x1)] [] h = some ([.int v], h1)) : ix_M mRP_group [.ref a0, .int x1] h = some ([.int v], h1) := ix_M_of (ix_ent_i kq_RP_group rfl hr rfl (Nat.le_of_ble_eq_true rfl) rfl) hd (ix_okrI (Or.inl rfl) v)
theorem i_RP_step_0 : ix_nx mRP_step 0 = some (0, .iload_n 1, 1, none, [], 0) := rfl
theorem i_RP_step_1 : ix_nx mRP_step 1 = some (3, .invokestatic 237, 4, none, [1, 37, 53], 0) := rfl
theorem i_RP_step_4 : ix_nx mRP_step 4 = some (0, .ifCond .eq 17, 7, none, [], 0) := rfl
theorem i_RP_step_7 : ix_nx mRP_step 7 = some (0, .aload_n 0, 8, none, [], 0) := rfl
theorem i_RP_step_8 : ix_nx mRP_step 8 = some (1, .getfield 10, 11, none, [0, 0, 2, 71], 0) := rfl
theorem i_RP_step_11 : ix_nx mRP_step 11 = some (1, .getfield 78, 14, none, [1, 0, 2, 31], 0) := rfl
theorem i_RP_step_14 : ix_nx mRP_step 14 = some (0, .iload_n 2, 15, none, [], 0) := rfl
theorem i_RP_step_15 : ix_nx mRP_step 15 = some (3, .invokevirtual 88, 18, none, [0, 63, 11], 0) := rfl
theorem i_RP_step_18 : ix_nx mRP_step 18 = some (0, .ifCond .ne 5, 21, none, [], 0) := rfl
theorem i_RP_step_21 : ix_nx mRP_step 21 = some (0, .iconst (-1), 22, none, [], 0) := rfl
theorem i_RP_step_22 : ix_nx mRP_step 22 = some (4, .ireturn, 23, none, [], 0) := rfl
theorem i_RP_step_23 : ix_nx mRP_step 23 = some (0, .aload_n 0, 24, none, [], 0) := rfl
theorem i_RP_step_24 : ix_nx mRP_step 24 = some (1, .getfield 10, 27, none, [0, 0, 2, 71], 0) := rfl
theorem i_RP_step_27 : ix_nx mRP_step 27 = some (1, .getfield 240, 30, none, [1, 1, 2, 35], 0) := rfl
theorem i_RP_step_30 : ix_nx mRP_step 30 = some (0, .iload_n 1, 31, none, [], 0) := rfl
theorem i_RP_step_31 : ix_nx mRP_step 31 = some (1, .aaload, 32, none, [4], 0) := rfl
theorem i_RP_step_32 : ix_nx mRP_step 32 = some (0, .astore_n 3, 33, none, [], 0) := rfl
theorem i_RP_step_33 : ix_nx mRP_step 33 = some (0, .aload_n 0, 34, none, [], 0) := rfl
theorem i_RP_step_34 : ix_nx mRP_step 34 = some (1, .getfield 10, 37, none, [0, 0, 2, 71], 0) := rfl
theorem i_RP_step_37 : ix_nx mRP_step 37 = some (1, .getfield 78, 40, none, [1, 0, 2, 31], 0) := rfl
theorem i_RP_step_40 : ix_nx mRP_step 40 = some (3, .invokevirtual 136, 43, none, [0, 70, 23], 0) := rfl
theorem i_RP_step_43 : ix_nx mRP_step 43 = some (0, .iload_n 2, 44, none, [], 0) := rfl
theorem i_RP_step_44 : ix_nx mRP_step 44 = some (3, .invokestatic 121, 47, none, [1, 8, 19], 0) := rfl
theorem i_RP_step_47 : ix_nx mRP_step 47 = some (0, .ifCond .eq 18, 50, none, [], 0) := rfl
theorem i_RP_step_50 : ix_nx mRP_step 50 = some (0, .aload_n 3, 51, none, [], 0) := rfl
theorem i_RP_step_51 : ix_nx mRP_step 51 = some (1, .getfield 244, 54, none, [3, 2, 1, 29], 0) := rfl
theorem i_RP_step_54 : ix_nx mRP_step 54 = some (0, .iload_n 2, 55, none, [], 0) := rfl
theorem i_RP_step_55 : ix_nx mRP_step 55 = some (3, .invokestatic 121, 58, none, [1, 8, 19], 0) := rfl
theorem i_RP_step_58 : ix_nx mRP_step 58 = some (0, .ifCond .ne 7, 61, none, [], 0) := rfl
theorem i_RP_step_61 : ix_nx mRP_step 61 = some (0, .iconst 1, 62, none, [], 0) := rfl
theorem i_RP_step_62 : ix_nx mRP_step 62 = some (0, .goto 4, 65, none, [], 0) := rfl
theorem i_RP_step_65 : ix_nx mRP_step 65 = some (0, .iconst 0, 66, none, [], 0) := rfl
theorem i_RP_step_66 : ix_nx mRP_step 66 = some (0, .istore 4, 68, some [true, false, true, true, false, false], [], 0) := rfl
theorem i_RP_step_68 : ix_nx mRP_step 68 = some (0, .aload_n 3, 69, none, [], 0) := rfl
theorem i_RP_step_69 : ix_nx mRP_step 69 = some (1, .getfield 247, 72, none, [3, 1, 0, 27], 0) := rfl
theorem i_RP_step_72 : ix_nx mRP_step 72 = some (0, .ifCond .eq 27, 75, none, [], 0) := rfl
theorem i_RP_step_75 : ix_nx mRP_step 75 = some (0, .aload_n 0, 76, none, [], 0) := rfl
theorem i_RP_step_76 : ix_nx mRP_step 76 = some (1, .getfield 10, 79, none, [0, 0, 2, 71], 0) := rfl
theorem i_RP_step_79 : ix_nx mRP_step 79 = some (1, .getfield 78, 82, none, [1, 0, 2, 31], 0) := rfl
theorem i_RP_step_82 : ix_nx mRP_step 82 = some (0, .aload_n 3, 83, none, [], 0) := rfl
theorem i_RP_step_83 : ix_nx mRP_step 83 = some (3, .invokevirtual 248, 86, none, [0, 83, 54], 0) := rfl
theorem i_RP_step_86 : ix_nx mRP_step 86 = some (3, .invokestatic 98, 89, none, [1, 1, 13], 0) := rfl
theorem i_RP_step_89 : ix_nx mRP_step 89 = some (3, .invokevirtual 132, 92, none, [0, 67, 22], 0) := rfl
theorem i_RP_step_92 : ix_nx mRP_step 92 = some (0, .iload_n 2, 93, none, [], 0) := rfl
theorem i_RP_step_93 : ix_nx mRP_step 93 = some (3, .invokestatic 121, 96, none, [1, 8, 19], 0) := rfl
theorem i_RP_step_96 : ix_nx mRP_step 96 = some (0, .ifCond .eq 7, 99, none, [], 0) := rfl
theorem i_RP_step_99 : ix_nx mRP_step 99 = some (0, .iconst 1, 100, some [false, false, true, true, true, false], [], 0) := rfl
theorem i_RP_step_100 : ix_nx mRP_step 100 = some (0, .goto 4, 103, none, [], 0) := rfl
theorem i_RP_step_103 : ix_nx mRP_step 103 = some (0, .iconst 0, 104, none, [], 0) := rfl
theorem i_RP_step_104 : ix_nx mRP_step 104 = some (0, .istore 5, 106, none, [], 0) := rfl
theorem i_RP_step_106 : ix_nx mRP_step 106 = some (0, .iload 4, 108, none, [], 0) := rfl
theorem i_RP_step_108 : ix_nx mRP_step 108 = some (0, .ifCond .eq 8, 111, none, [], 0) := rfl
theorem i_RP_step_111 : ix_nx mRP_step 111 = some (0, .iload 5, 113, none, [], 0) := rfl
theorem i_RP_step_113 : ix_nx mRP_step 113 = some (0, .ifCond .ne 6, 116, none, [], 0) := rfl
theorem i_RP_step_116 : ix_nx mRP_step 116 = some (0, .bipush (-5), 118, none, [], 0) := rfl
theorem i_RP_step_118 : ix_nx mRP_step 118 = some (4, .ireturn, 119, none, [], 0) := rfl
theorem i_RP_step_119 : ix_nx mRP_step 119 = some (0, .aload_n 3, 120, none, [], 0) := rfl
theorem i_RP_step_120 : ix_nx mRP_step 120 = some (0, .iload_n 2, 121, none, [], 0) := rfl
theorem i_RP_step_121 : ix_nx mRP_step 121 = some (3, .invokevirtual 251, 124, none, [0, 84, 55], 0) := rfl
theorem i_RP_step_124 : ix_nx mRP_step 124 = some (0, .aload_n 3, 125, none, [], 0) := rfl
theorem i_RP_step_125 : ix_nx mRP_step 125 = some (1, .getfield 247, 128, none, [3, 1, 0, 27], 0) := rfl
theorem i_RP_step_128 : ix_nx mRP_step 128 = some (4, .ireturn, 129, none, [], 0) := rfl
noncomputable def l_RP_step_66 (a0 : Nat) (x2 : Int32) (a3 : Nat) (sb0 : Bool) (h : ixH) : Option (List Value × ixH) := ix_D mRP_step 66 [some (.ref a0), none, some (.int x2), some (.ref a3), none, none] [.int (ix_bi sb0)] h
noncomputable def l_RP_step_99 (x2 : Int32) (a3 : Nat) (b4 : Bool) (h : ixH) : Option (List Value × ixH) := ix_D mRP_step 99 [none, none, some (.int x2), some (.ref a3), some (.int (ix_bi b4)), none] [] h
set_option maxRecDepth 20000 in
set_option maxHeartbeats 1000000 in
theorem e_RP_step_66 (a0 : Nat) (x2 : Int32) (a3 : Nat) (sb0 : Bool) (h : ixH) : l_RP_step_66 a0 x2 a3 sb0 h = (ix_gi h a3 3 1).bind fun v1 => if v1 = 0 then l_RP_step_99 x2 a3 sb0 h else (ix_gr h a0 0 0).bind fun v2 => (ix_gr h v2 1 0).bind fun v3 => (ix_M mRt_last [.ref a3] h).bind fun r => ix_kI r fun v5 h4 => (ix_M mRP_bit [.int v5] h4).bind fun r => ix_kL r fun v7 h6 => (ix_M mGr_around [.ref v3, .long v7] h6).bind fun r => ix_kL r fun v9 h8 => (ix_M mRP_holds [.long v9, .int x2] h8).bind fun r => ix_kZ r fun v11 h10 => if v11 = true then l_RP_step_99 x2 a3 sb0 h10 else if sb0 = true then if ¬ (0 : Int32) = 0 then (ix_M mRt_append [.ref a3, .int x2] h10).bind fun r => ix_kV r fun h12 => (ix_gi h12 a3 3 1).bind fun v13 => some ([.int v13], h12) else some ([.int (-5)], h10) else some ([.int (-5)], h10) := by
  unfold l_RP_step_66
  refine ix_K_si (L2 := [some (.ref a0), none, some (.int x2), some (.ref a3), some (.int (ix_bi sb0)), none]) kq_RP_step i_RP_step_66 rfl (Or.inl rfl) (Nat.le_of_ble_eq_true rfl) rfl ?_
  refine ix_K_px kq_RP_step i_RP_step_68 rfl rfl ?_
  refine ix_K_gi kq_RP_step i_RP_step_69 rfl (fun v1 => ?_)
  refine ix_K_if_eq (tgt := 99) kq_RP_step i_RP_step_72 rfl (by decide) ?_ ?_
  · exact ix_D_cut i_RP_step_99 rfl
  · refine ix_K_px kq_RP_step i_RP_step_75 rfl rfl ?_
    refine ix_K_gr kq_RP_step i_RP_step_76 rfl (fun v2 => ?_)
    refine ix_K_gr kq_RP_step i_RP_step_79 rfl (fun v3 => ?_)
    refine ix_K_px kq_RP_step i_RP_step_82 rfl rfl ?_
    refine ix_K_callI (as := [.ref a3]) (rest := [.ref v3]) kq_RP_step i_RP_step_83 rfl kq_Rt_last (by decide) rfl (Or.inl rfl) (fun v5 h4 => ?_)
    refine ix_K_callL (as := [.int v5]) (rest := [.ref v3]) kq_RP_step i_RP_step_86 rfl kq_RP_bit (by decide) rfl rfl (fun v7 h6 => ?_)
    refine ix_K_callL (as := [.ref v3, .long v7]) (rest := []) kq_RP_step i_RP_step_89 rfl kq_Gr_around (by decide) rfl rfl (fun v9 h8 => ?_)
    refine ix_K_px kq_RP_step i_RP_step_92 rfl rfl ?_
    refine ix_K_callZ (as := [.long v9, .int x2]) (rest := []) kq_RP_step i_RP_step_93 rfl kq_RP_holds (by decide) rfl rfl (fun v11 h10 => ?_)
    refine ix_K_bz_eq (tgt := 103) kq_RP_step i_RP_step_96 rfl (by decide) ?_ ?_
    · exact ix_D_cut i_RP_step_99 rfl
    · refine ix_K_ci kq_RP_step i_RP_step_103 rfl kci_0 ?_
      refine ix_K_si (L2 := [some (.ref a0), none, some (.int x2), some (.ref a3), some (.int (ix_bi sb0)), some (.int 0)]) kq_RP_step i_RP_step_104 rfl (Or.inl rfl) (Nat.le_of_ble_eq_true rfl) rfl ?_
      refine ix_K_px kq_RP_step i_RP_step_106 rfl rfl ?_
      refine ix_K_bz_eq (tgt := 116) kq_RP_step i_RP_step_108 rfl (by decide) ?_ ?_
      · refine ix_K_px kq_RP_step i_RP_step_111 rfl rfl ?_
        refine ix_K_if_ne (tgt := 119) kq_RP_step i_RP_step_113 rfl (by decide) ?_ ?_
        · refine ix_K_px kq_RP_step i_RP_step_119 rfl rfl ?_
          refine ix_K_px kq_RP_step i_RP_step_120 rfl rfl ?_
          refine ix_K_callV (as := [.ref a3, .int x2]) (rest := []) kq_RP_step i_RP_step_121 rfl kq_Rt_append (by decide) rfl rfl (fun h12 => ?_)
          refine ix_K_px kq_RP_step i_RP_step_124 rfl rfl ?_
          refine ix_K_gi kq_RP_step i_RP_step_125 rfl (fun v13 => ?_)
          exact ix_D_ret kq_RP_step i_RP_step_128 (ix_rtI rfl _)
        · refine ix_K_cb kq_RP_step i_RP_step_116 rfl kcb_m5 ?_
          exact ix_D_ret kq_RP_step i_RP_step_118 (ix_rtI rfl _)
      · refine ix_K_cb kq_RP_step i_RP_step_116 rfl kcb_m5 ?_
        exact ix_D_ret kq_RP_step i_RP_step_118 (ix_rtI rfl _)
set_option maxRecDepth 20000 in
set_option maxHeartbeats 1000000 in
theorem e_RP_step_99 (x2 : Int32) (a3 : Nat) (b4 : Bool) (h : ixH) : l_RP_step_99 x2 a3 b4 h = if b4 = true then if ¬ (1 : Int32) = 0 then (ix_M mRt_append [.ref a3, .int x2] h).bind fun r => ix_kV r fun h1 => (ix_gi h1 a3 3 1).bind fun v2 => some ([.int v2], h1) else some ([.int (-5)], h) else some ([.int (-5)], h) := by
  unfold l_RP_step_99
  refine ix_K_ci kq_RP_step i_RP_step_99 rfl kci_1 ?_
  refine ix_K_goto (tgt := 104) kq_RP_step i_RP_step_100 rfl (by decide) ?_
  refine ix_K_si (L2 := [none, none, some (.int x2), some (.ref a3), some (.int (ix_bi b4)), some (.int 1)]) kq_RP_step i_RP_step_104 rfl (Or.inl rfl) (Nat.le_of_ble_eq_true rfl) rfl ?_
  refine ix_K_px kq_RP_step i_RP_step_106 rfl rfl ?_
  refine ix_K_bz_eq (tgt := 116) kq_RP_step i_RP_step_108 rfl (by decide) ?_ ?_
  · refine ix_K_px kq_RP_step i_RP_step_111 rfl rfl ?_
    refine ix_K_if_ne (tgt := 119) kq_RP_step i_RP_step_113 rfl (by decide) ?_ ?_
    · refine ix_K_px kq_RP_step i_RP_step_119 rfl rfl ?_
      refine ix_K_px kq_RP_step i_RP_step_120 rfl rfl ?_
      refine ix_K_callV (as := [.ref a3, .int x2]) (rest := []) kq_RP_step i_RP_step_121 rfl kq_Rt_append (by decide) rfl rfl (fun h1 => ?_)
      refine ix_K_px kq_RP_step i_RP_step_124 rfl rfl ?_
      refine ix_K_gi kq_RP_step i_RP_step_125 rfl (fun v2 => ?_)
      exact ix_D_ret kq_RP_step i_RP_step_128 (ix_rtI rfl _)
    · refine ix_K_cb kq_RP_step i_RP_step_116 rfl kcb_m5 ?_
      exact ix_D_ret kq_RP_step i_RP_step_118 (ix_rtI rfl _)
  · refine ix_K_cb kq_RP_step i_RP_step_116 rfl kcb_m5 ?_
    exact ix_D_ret kq_RP_step i_RP_step_118 (ix_rtI rfl _)
set_option maxRecDepth 20000 in
set_option maxHeartbeats 1000000 in
theorem e_RP_step (a0 : Nat) (x1 : Int32) (x2 : Int32) (h : ixH) : ix_D mRP_step 0 [some (.ref a0), some (.int x1), some (.int x2), none, none, none] [] h = (ix_M mRP_isSlot [.int x1] h).bind fun r => ix_kZ r fun v2 h1 => if v2 = true then (ix_gr h1 a0 0 0).bind fun v3 => (ix_gr h1 v3 1 0).bind fun v4 => (ix_M mGr_has [.ref v4, .int x2] h1).bind fun r => ix_kZ r fun v6 h5 => if v6 = true then (ix_gr h5 a0 0 0).bind fun v7 => (ix_gr h5 v7 1 1).bind fun v8 => (ix_aq h5 4 v8 x1).bind fun v9 => (ix_gr h5 a0 0 0).bind fun v10 => (ix_gr h5 v10 1 0).bind fun v11 => (ix_M mGr_open [.ref v11] h5).bind fun r => ix_kL r fun v13 h12 => (ix_M mRP_holds [.long v13, .int x2] h12).bind fun r => ix_kZ r fun v15 h14 => if v15 = true then (ix_gl h14 v9 3 2).bind fun v16 => (ix_M mRP_holds [.long v16, .int x2] h14).bind fun r => ix_kZ r fun v18 h17 => if v18 = true then l_RP_step_66 a0 x2 v9 false h17 else l_RP_step_66 a0 x2 v9 true h17 else l_RP_step_66 a0 x2 v9 false h14 else some ([.int (-1)], h5) else some ([.int (-1)], h1) := by
  refine ix_K_px kq_RP_step i_RP_step_0 rfl rfl ?_
  refine ix_K_callZ (as := [.int x1]) (rest := []) kq_RP_step i_RP_step_1 rfl kq_RP_isSlot (by decide) rfl rfl (fun v2 h1 => ?_)
  refine ix_K_bz_eq (tgt := 21) kq_RP_step i_RP_step_4 rfl (by decide) ?_ ?_
  · refine ix_K_px kq_RP_step i_RP_step_7 rfl rfl ?_
    refine ix_K_gr kq_RP_step i_RP_step_8 rfl (fun v3 => ?_)
    refine ix_K_gr kq_RP_step i_RP_step_11 rfl (fun v4 => ?_)
    refine ix_K_px kq_RP_step i_RP_step_14 rfl rfl ?_
    refine ix_K_callZ (as := [.ref v4, .int x2]) (rest := []) kq_RP_step i_RP_step_15 rfl kq_Gr_has (by decide) rfl rfl (fun v6 h5 => ?_)
    refine ix_K_bz_ne (tgt := 23) kq_RP_step i_RP_step_18 rfl (by decide) ?_ ?_
    · refine ix_K_px kq_RP_step i_RP_step_23 rfl rfl ?_
      refine ix_K_gr kq_RP_step i_RP_step_24 rfl (fun v7 => ?_)
      refine ix_K_gr kq_RP_step i_RP_step_27 rfl (fun v8 => ?_)
      refine ix_K_px kq_RP_step i_RP_step_30 rfl rfl ?_
      refine ix_K_aq kq_RP_step i_RP_step_31 rfl (fun v9 => ?_)
      refine ix_K_sr (L2 := [some (.ref a0), some (.int x1), some (.int x2), some (.ref v9), none, none]) kq_RP_step i_RP_step_32 rfl (Or.inr ⟨_, rfl, rfl⟩) (Nat.le_of_ble_eq_true rfl) rfl ?_
      refine ix_K_px kq_RP_step i_RP_step_33 rfl rfl ?_
      refine ix_K_gr kq_RP_step i_RP_step_34 rfl (fun v10 => ?_)
      refine ix_K_gr kq_RP_step i_RP_step_37 rfl (fun v11 => ?_)
      refine ix_K_callL (as := [.ref v11]) (rest := []) kq_RP_step i_RP_step_40 rfl kq_Gr_open (by decide) rfl rfl (fun v13 h12 => ?_)
      refine ix_K_px kq_RP_step i_RP_step_43 rfl rfl ?_
      refine ix_K_callZ (as := [.long v13, .int x2]) (rest := []) kq_RP_step i_RP_step_44 rfl kq_RP_holds (by decide) rfl rfl (fun v15 h14 => ?_)
      refine ix_K_bz_eq (tgt := 65) kq_RP_step i_RP_step_47 rfl (by decide) ?_ ?_
      · refine ix_K_px kq_RP_step i_RP_step_50 rfl rfl ?_
        refine ix_K_gl kq_RP_step i_RP_step_51 rfl (fun v16 => ?_)
        refine ix_K_px kq_RP_step i_RP_step_54 rfl rfl ?_
        refine ix_K_callZ (as := [.long v16, .int x2]) (rest := []) kq_RP_step i_RP_step_55 rfl kq_RP_holds (by decide) rfl rfl (fun v18 h17 => ?_)
        refine ix_K_bz_ne (tgt := 65) kq_RP_step i_RP_step_58 rfl (by decide) ?_ ?_
        · refine ix_K_ci kq_RP_step i_RP_step_65 rfl kci_0 ?_
          exact ix_D_cut i_RP_step_66 rfl
        · refine ix_K_ci kq_RP_step i_RP_step_61 rfl kci_1 ?_
          refine ix_K_goto (tgt := 66) kq_RP_step i_RP_step_62 rfl (by decide) ?_
          exact ix_D_cut i_RP_step_66 rfl
      · refine ix_K_ci kq_RP_step i_RP_step_65 rfl kci_0 ?_
        exact ix_D_cut i_RP_step_66 rfl
    · refine ix_K_ci kq_RP_step i_RP_step_21 rfl kci_m1 ?_
      exact ix_D_ret kq_RP_step i_RP_step_22 (ix_rtI rfl _)
  · refine ix_K_ci kq_RP_step i_RP_step_21 rfl kci_m1 ?_
    exact ix_D_ret kq_RP_step i_RP_step_22 (ix_rtI rfl _)
theorem x_RP_step {a0 : Nat} {x1 : Int32} {x2 : Int32} {h h1 : ixH} {v : Int32} (hr : ix_rc h a0 = some 0) (hd : ix_D mRP_step 0 [some (.ref a0), some (.int x1), some (.int x2), none, none, none] [] h = some ([.int v], h1)) : ix_M mRP_step [.ref a0, .int x1, .int x2] h = some ([.int v], h1) := ix_M_of (ix_ent_i kq_RP_step rfl hr rfl (Nat.le_of_ble_eq_true rfl) rfl) hd (ix_okrI (Or.inl rfl) v)
theorem i_RP_isSlot_0 : ix_nx mRP_isSlot 0 = some (0, .iload_n 0, 1, none, [], 0) := rfl
theorem i_RP_isSlot_1 : ix_nx mRP_isSlot 1 = some (0, .ifCond .lt 12, 4, none, [], 0) := rfl
theorem i_RP_isSlot_4 : ix_nx mRP_isSlot 4 = some (0, .iload_n 0, 5, none, [], 0) := rfl
theorem i_RP_isSlot_5 : ix_nx mRP_isSlot 5 = some (0, .iconst 5, 6, none, [], 0) := rfl
theorem i_RP_isSlot_6 : ix_nx mRP_isSlot 6 = some (0, .if_icmp .ge 7, 9, none, [], 0) := rfl
theorem i_RP_isSlot_9 : ix_nx mRP_isSlot 9 = some (0, .iconst 1, 10, none, [], 0) := rfl
theorem i_RP_isSlot_10 : ix_nx mRP_isSlot 10 = some (0, .goto 4, 13, none, [], 0) := rfl
theorem i_RP_isSlot_13 : ix_nx mRP_isSlot 13 = some (0, .iconst 0, 14, none, [], 0) := rfl
theorem i_RP_isSlot_14 : ix_nx mRP_isSlot 14 = some (4, .ireturn, 15, none, [], 0) := rfl
set_option maxRecDepth 20000 in
set_option maxHeartbeats 1000000 in
theorem e_RP_isSlot (x0 : Int32) (h : ixH) : ix_D mRP_isSlot 0 [some (.int x0)] [] h = if x0 < 0 then some ([.int (ix_bi false)], h) else if 5 ≤ x0 then some ([.int (ix_bi false)], h) else some ([.int (ix_bi true)], h) := by
  refine ix_K_px kq_RP_isSlot i_RP_isSlot_0 rfl rfl ?_
  refine ix_K_if_lt (tgt := 13) kq_RP_isSlot i_RP_isSlot_1 rfl (by decide) ?_ ?_
  · refine ix_K_ci kq_RP_isSlot i_RP_isSlot_13 rfl kci_0 ?_
    exact ix_D_ret kq_RP_isSlot i_RP_isSlot_14 (ix_rtZ rfl false)
  · refine ix_K_px kq_RP_isSlot i_RP_isSlot_4 rfl rfl ?_
    refine ix_K_ci kq_RP_isSlot i_RP_isSlot_5 rfl kci_5 ?_
    refine ix_K_ic_ge (tgt := 13) kq_RP_isSlot i_RP_isSlot_6 rfl (by decide) ?_ ?_
    · refine ix_K_ci kq_RP_isSlot i_RP_isSlot_13 rfl kci_0 ?_
      exact ix_D_ret kq_RP_isSlot i_RP_isSlot_14 (ix_rtZ rfl false)
    · refine ix_K_ci kq_RP_isSlot i_RP_isSlot_9 rfl kci_1 ?_
      refine ix_K_goto (tgt := 14) kq_RP_isSlot i_RP_isSlot_10 rfl (by decide) ?_
      exact ix_D_ret kq_RP_isSlot i_RP_isSlot_14 (ix_rtZ rfl true)
theorem x_RP_isSlot {x0 : Int32} {h h1 : ixH} {v : Bool} (hd : ix_D mRP_isSlot 0 [some (.int x0)] [] h = some ([.int (ix_bi v)], h1)) : ix_M mRP_isSlot [.int x0] h = some ([.int (ix_bi v)], h1) := ix_M_of (ix_ent_s kq_RP_isSlot rfl rfl (Nat.le_of_ble_eq_true rfl) rfl) hd (ix_okrZ rfl v)
theorem i_RP_back_0 : ix_nx mRP_back 0 = some (0, .iload_n 1, 1, none, [], 0) := rfl
theorem i_RP_back_1 : ix_nx mRP_back 1 = some (3, .invokestatic 237, 4, none, [1, 37, 53], 0) := rfl
theorem i_RP_back_4 : ix_nx mRP_back 4 = some (0, .ifCond .ne 5, 7, none, [], 0) := rfl
theorem i_RP_back_7 : ix_nx mRP_back 7 = some (0, .iconst (-1), 8, none, [], 0) := rfl
theorem i_RP_back_8 : ix_nx mRP_back 8 = some (4, .ireturn, 9, none, [], 0) := rfl
theorem i_RP_back_9 : ix_nx mRP_back 9 = some (0, .aload_n 0, 10, none, [], 0) := rfl
theorem i_RP_back_10 : ix_nx mRP_back 10 = some (1, .getfield 10, 13, none, [0, 0, 2, 71], 0) := rfl
theorem i_RP_back_13 : ix_nx mRP_back 13 = some (1, .getfield 240, 16, none, [1, 1, 2, 35], 0) := rfl
theorem i_RP_back_16 : ix_nx mRP_back 16 = some (0, .iload_n 1, 17, none, [], 0) := rfl
theorem i_RP_back_17 : ix_nx mRP_back 17 = some (1, .aaload, 18, none, [4], 0) := rfl
theorem i_RP_back_18 : ix_nx mRP_back 18 = some (0, .astore_n 2, 19, none, [], 0) := rfl
theorem i_RP_back_19 : ix_nx mRP_back 19 = some (0, .aload_n 2, 20, none, [], 0) := rfl
theorem i_RP_back_20 : ix_nx mRP_back 20 = some (1, .getfield 247, 23, none, [3, 1, 0, 27], 0) := rfl
theorem i_RP_back_23 : ix_nx mRP_back 23 = some (0, .ifCond .ne 6, 26, none, [], 0) := rfl
theorem i_RP_back_26 : ix_nx mRP_back 26 = some (0, .bipush (-5), 28, none, [], 0) := rfl
theorem i_RP_back_28 : ix_nx mRP_back 28 = some (4, .ireturn, 29, none, [], 0) := rfl
theorem i_RP_back_29 : ix_nx mRP_back 29 = some (0, .aload_n 2, 30, none, [], 0) := rfl
theorem i_RP_back_30 : ix_nx mRP_back 30 = some (0, .aload_n 2, 31, none, [], 0) := rfl
theorem i_RP_back_31 : ix_nx mRP_back 31 = some (1, .getfield 247, 34, none, [3, 1, 0, 27], 0) := rfl
theorem i_RP_back_34 : ix_nx mRP_back 34 = some (0, .iconst 1, 35, none, [], 0) := rfl
theorem i_RP_back_35 : ix_nx mRP_back 35 = some (0, .isub, 36, none, [], 0) := rfl
theorem i_RP_back_36 : ix_nx mRP_back 36 = some (3, .invokevirtual 254, 39, none, [0, 80, 56], 0) := rfl
theorem i_RP_back_39 : ix_nx mRP_back 39 = some (0, .aload_n 2, 40, none, [], 0) := rfl
theorem i_RP_back_40 : ix_nx mRP_back 40 = some (1, .getfield 247, 43, none, [3, 1, 0, 27], 0) := rfl
theorem i_RP_back_43 : ix_nx mRP_back 43 = some (4, .ireturn, 44, none, [], 0) := rfl
set_option maxRecDepth 20000 in
set_option maxHeartbeats 1000000 in
theorem e_RP_back (a0 : Nat) (x1 : Int32) (h : ixH) : ix_D mRP_back 0 [some (.ref a0), some (.int x1), none] [] h = (ix_M mRP_isSlot [.int x1] h).bind fun r => ix_kZ r fun v2 h1 => if v2 = true then (ix_gr h1 a0 0 0).bind fun v3 => (ix_gr h1 v3 1 1).bind fun v4 => (ix_aq h1 4 v4 x1).bind fun v5 => (ix_gi h1 v5 3 1).bind fun v6 => if ¬ v6 = 0 then (ix_gi h1 v5 3 1).bind fun v7 => (ix_M mRt_keep [.ref v5, .int (v7 - 1)] h1).bind fun r => ix_kV r fun h8 => (ix_gi h8 v5 3 1).bind fun v9 => some ([.int v9], h8) else some ([.int (-5)], h1) else some ([.int (-1)], h1) := by
  refine ix_K_px kq_RP_back i_RP_back_0 rfl rfl ?_
  refine ix_K_callZ (as := [.int x1]) (rest := []) kq_RP_back i_RP_back_1 rfl kq_RP_isSlot (by decide) rfl rfl (fun v2 h1 => ?_)
  refine ix_K_bz_ne (tgt := 9) kq_RP_back i_RP_back_4 rfl (by decide) ?_ ?_
  · refine ix_K_px kq_RP_back i_RP_back_9 rfl rfl ?_
    refine ix_K_gr kq_RP_back i_RP_back_10 rfl (fun v3 => ?_)
    refine ix_K_gr kq_RP_back i_RP_back_13 rfl (fun v4 => ?_)
    refine ix_K_px kq_RP_back i_RP_back_16 rfl rfl ?_
    refine ix_K_aq kq_RP_back i_RP_back_17 rfl (fun v5 => ?_)
    refine ix_K_sr (L2 := [some (.ref a0), some (.int x1), some (.ref v5)]) kq_RP_back i_RP_back_18 rfl (Or.inr ⟨_, rfl, rfl⟩) (Nat.le_of_ble_eq_true rfl) rfl ?_
    refine ix_K_px kq_RP_back i_RP_back_19 rfl rfl ?_
    refine ix_K_gi kq_RP_back i_RP_back_20 rfl (fun v6 => ?_)
    refine ix_K_if_ne (tgt := 29) kq_RP_back i_RP_back_23 rfl (by decide) ?_ ?_
    · refine ix_K_px kq_RP_back i_RP_back_29 rfl rfl ?_
      refine ix_K_px kq_RP_back i_RP_back_30 rfl rfl ?_
      refine ix_K_gi kq_RP_back i_RP_back_31 rfl (fun v7 => ?_)
      refine ix_K_ci kq_RP_back i_RP_back_34 rfl kci_1 ?_
      refine ix_K_px kq_RP_back i_RP_back_35 rfl rfl ?_
      refine ix_K_callV (as := [.ref v5, .int (v7 - 1)]) (rest := []) kq_RP_back i_RP_back_36 rfl kq_Rt_keep (by decide) rfl rfl (fun h8 => ?_)
      refine ix_K_px kq_RP_back i_RP_back_39 rfl rfl ?_
      refine ix_K_gi kq_RP_back i_RP_back_40 rfl (fun v9 => ?_)
      exact ix_D_ret kq_RP_back i_RP_back_43 (ix_rtI rfl _)
    · refine ix_K_cb kq_RP_back i_RP_back_26 rfl kcb_m5 ?_
      exact ix_D_ret kq_RP_back i_RP_back_28 (ix_rtI rfl _)
  · refine ix_K_ci kq_RP_back i_RP_back_7 rfl kci_m1 ?_
    exact ix_D_ret kq_RP_back i_RP_back_8 (ix_rtI rfl _)
theorem x_RP_back {a0 : Nat} {x1 : Int32} {h h1 : ixH} {v : Int32} (hr : ix_rc h a0 = some 0) (hd : ix_D mRP_back 0 [some (.ref a0), some (.int x1), none] [] h = some ([.int v], h1)) : ix_M mRP_back [.ref a0, .int x1] h = some ([.int v], h1) := ix_M_of (ix_ent_i kq_RP_back rfl hr rfl (Nat.le_of_ble_eq_true rfl) rfl) hd (ix_okrI (Or.inl rfl) v)
theorem i_RP_route_0 : ix_nx mRP_route 0 = some (0, .iload_n 1, 1, none, [], 0) := rfl
theorem i_RP_route_1 : ix_nx mRP_route 1 = some (3, .invokestatic 237, 4, none, [1, 37, 53], 0) := rfl
theorem i_RP_route_4 : ix_nx mRP_route 4 = some (0, .ifCond .ne 5, 7, none, [], 0) := rfl
theorem i_RP_route_7 : ix_nx mRP_route 7 = some (0, .iconst (-1), 8, none, [], 0) := rfl
theorem i_RP_route_8 : ix_nx mRP_route 8 = some (4, .ireturn, 9, none, [], 0) := rfl
theorem i_RP_route_9 : ix_nx mRP_route 9 = some (0, .aload_n 0, 10, none, [], 0) := rfl
theorem i_RP_route_10 : ix_nx mRP_route 10 = some (1, .getfield 10, 13, none, [0, 0, 2, 71], 0) := rfl
theorem i_RP_route_13 : ix_nx mRP_route 13 = some (1, .getfield 240, 16, none, [1, 1, 2, 35], 0) := rfl
theorem i_RP_route_16 : ix_nx mRP_route 16 = some (0, .iload_n 1, 17, none, [], 0) := rfl
theorem i_RP_route_17 : ix_nx mRP_route 17 = some (1, .aaload, 18, none, [4], 0) := rfl
theorem i_RP_route_18 : ix_nx mRP_route 18 = some (0, .astore_n 3, 19, none, [], 0) := rfl
theorem i_RP_route_19 : ix_nx mRP_route 19 = some (0, .iload_n 2, 20, none, [], 0) := rfl
theorem i_RP_route_20 : ix_nx mRP_route 20 = some (0, .iconst (-1), 21, none, [], 0) := rfl
theorem i_RP_route_21 : ix_nx mRP_route 21 = some (0, .if_icmp .ne 10, 24, none, [], 0) := rfl
theorem i_RP_route_24 : ix_nx mRP_route 24 = some (0, .aload_n 3, 25, none, [], 0) := rfl
theorem i_RP_route_25 : ix_nx mRP_route 25 = some (1, .getfield 247, 28, none, [3, 1, 0, 27], 0) := rfl
theorem i_RP_route_28 : ix_nx mRP_route 28 = some (0, .goto 8, 31, none, [], 0) := rfl
theorem i_RP_route_31 : ix_nx mRP_route 31 = some (0, .aload_n 3, 32, none, [], 0) := rfl
theorem i_RP_route_32 : ix_nx mRP_route 32 = some (0, .iload_n 2, 33, none, [], 0) := rfl
theorem i_RP_route_33 : ix_nx mRP_route 33 = some (3, .invokevirtual 257, 36, none, [0, 82, 57], 0) := rfl
theorem i_RP_route_36 : ix_nx mRP_route 36 = some (4, .ireturn, 37, none, [], 0) := rfl
set_option maxRecDepth 20000 in
set_option maxHeartbeats 1000000 in
theorem e_RP_route (a0 : Nat) (x1 : Int32) (x2 : Int32) (h : ixH) : ix_D mRP_route 0 [some (.ref a0), some (.int x1), some (.int x2), none] [] h = (ix_M mRP_isSlot [.int x1] h).bind fun r => ix_kZ r fun v2 h1 => if v2 = true then (ix_gr h1 a0 0 0).bind fun v3 => (ix_gr h1 v3 1 1).bind fun v4 => (ix_aq h1 4 v4 x1).bind fun v5 => if ¬ x2 = (-1) then (ix_M mRt_at [.ref v5, .int x2] h1).bind fun r => ix_kI r fun v7 h6 => some ([.int v7], h6) else (ix_gi h1 v5 3 1).bind fun v8 => some ([.int v8], h1) else some ([.int (-1)], h1) := by
  refine ix_K_px kq_RP_route i_RP_route_0 rfl rfl ?_
  refine ix_K_callZ (as := [.int x1]) (rest := []) kq_RP_route i_RP_route_1 rfl kq_RP_isSlot (by decide) rfl rfl (fun v2 h1 => ?_)
  refine ix_K_bz_ne (tgt := 9) kq_RP_route i_RP_route_4 rfl (by decide) ?_ ?_
  · refine ix_K_px kq_RP_route i_RP_route_9 rfl rfl ?_
    refine ix_K_gr kq_RP_route i_RP_route_10 rfl (fun v3 => ?_)
    refine ix_K_gr kq_RP_route i_RP_route_13 rfl (fun v4 => ?_)
    refine ix_K_px kq_RP_route i_RP_route_16 rfl rfl ?_
    refine ix_K_aq kq_RP_route i_RP_route_17 rfl (fun v5 => ?_)
    refine ix_K_sr (L2 := [some (.ref a0), some (.int x1), some (.int x2), some (.ref v5)]) kq_RP_route i_RP_route_18 rfl (Or.inr ⟨_, rfl, rfl⟩) (Nat.le_of_ble_eq_true rfl) rfl ?_
    refine ix_K_px kq_RP_route i_RP_route_19 rfl rfl ?_
    refine ix_K_ci kq_RP_route i_RP_route_20 rfl kci_m1 ?_
    refine ix_K_ic_ne (tgt := 31) kq_RP_route i_RP_route_21 rfl (by decide) ?_ ?_
    · refine ix_K_px kq_RP_route i_RP_route_31 rfl rfl ?_
      refine ix_K_px kq_RP_route i_RP_route_32 rfl rfl ?_
      refine ix_K_callI (as := [.ref v5, .int x2]) (rest := []) kq_RP_route i_RP_route_33 rfl kq_Rt_at (by decide) rfl (Or.inl rfl) (fun v7 h6 => ?_)
      exact ix_D_ret kq_RP_route i_RP_route_36 (ix_rtI rfl _)
    · refine ix_K_px kq_RP_route i_RP_route_24 rfl rfl ?_
      refine ix_K_gi kq_RP_route i_RP_route_25 rfl (fun v8 => ?_)
      refine ix_K_goto (tgt := 36) kq_RP_route i_RP_route_28 rfl (by decide) ?_
      exact ix_D_ret kq_RP_route i_RP_route_36 (ix_rtI rfl _)
  · refine ix_K_ci kq_RP_route i_RP_route_7 rfl kci_m1 ?_
    exact ix_D_ret kq_RP_route i_RP_route_8 (ix_rtI rfl _)
theorem x_RP_route {a0 : Nat} {x1 : Int32} {x2 : Int32} {h h1 : ixH} {v : Int32} (hr : ix_rc h a0 = some 0) (hd : ix_D mRP_route 0 [some (.ref a0), some (.int x1), some (.int x2), none] [] h = some ([.int v], h1)) : ix_M mRP_route [.ref a0, .int x1, .int x2] h = some ([.int v], h1) := ix_M_of (ix_ent_i kq_RP_route rfl hr rfl (Nat.le_of_ble_eq_true rfl) rfl) hd (ix_okrI (Or.inl rfl) v)
theorem i_RP_about_0 : ix_nx mRP_about 0 = some (0, .iload_n 1, 1, none, [], 0) := rfl
theorem i_RP_about_1 : ix_nx mRP_about 1 = some (3, .invokestatic 237, 4, none, [1, 37, 53], 0) := rfl
theorem i_RP_about_4 : ix_nx mRP_about 4 = some (0, .ifCond .ne 5, 7, none, [], 0) := rfl
theorem i_RP_about_7 : ix_nx mRP_about 7 = some (0, .iconst (-1), 8, none, [], 0) := rfl
theorem i_RP_about_8 : ix_nx mRP_about 8 = some (4, .ireturn, 9, none, [], 0) := rfl
theorem i_RP_about_9 : ix_nx mRP_about 9 = some (0, .aload_n 0, 10, none, [], 0) := rfl
theorem i_RP_about_10 : ix_nx mRP_about 10 = some (1, .getfield 10, 13, none, [0, 0, 2, 71], 0) := rfl
theorem i_RP_about_13 : ix_nx mRP_about 13 = some (1, .getfield 240, 16, none, [1, 1, 2, 35], 0) := rfl
theorem i_RP_about_16 : ix_nx mRP_about 16 = some (0, .iload_n 1, 17, none, [], 0) := rfl
theorem i_RP_about_17 : ix_nx mRP_about 17 = some (1, .aaload, 18, none, [4], 0) := rfl
theorem i_RP_about_18 : ix_nx mRP_about 18 = some (0, .astore_n 3, 19, none, [], 0) := rfl
theorem i_RP_about_19 : ix_nx mRP_about 19 = some (0, .iload_n 2, 20, none, [], 0) := rfl
theorem i_RP_about_20 : ix_nx mRP_about 20 = some (0, .tableswitch 104 0 4 #[36, 45, 69, 78, 98], 56, none, [], 0) := rfl
theorem i_RP_about_56 : ix_nx mRP_about 56 = some (0, .aload_n 0, 57, none, [], 0) := rfl
theorem i_RP_about_57 : ix_nx mRP_about 57 = some (0, .aload_n 3, 58, none, [], 0) := rfl
theorem i_RP_about_58 : ix_nx mRP_about 58 = some (3, .invokevirtual 260, 61, none, [0, 41, 58], 0) := rfl
theorem i_RP_about_61 : ix_nx mRP_about 61 = some (3, .invokestatic 125, 64, none, [1, 13, 20], 0) := rfl
theorem i_RP_about_64 : ix_nx mRP_about 64 = some (4, .ireturn, 65, none, [], 0) := rfl
theorem i_RP_about_65 : ix_nx mRP_about 65 = some (0, .aload_n 0, 66, none, [], 0) := rfl
theorem i_RP_about_66 : ix_nx mRP_about 66 = some (0, .aload_n 3, 67, none, [], 0) := rfl
theorem i_RP_about_67 : ix_nx mRP_about 67 = some (3, .invokevirtual 260, 70, none, [0, 41, 58], 0) := rfl
theorem i_RP_about_70 : ix_nx mRP_about 70 = some (0, .ifCond .eq 14, 73, none, [], 0) := rfl
theorem i_RP_about_73 : ix_nx mRP_about 73 = some (0, .aload_n 3, 74, none, [], 0) := rfl
theorem i_RP_about_74 : ix_nx mRP_about 74 = some (3, .invokevirtual 264, 77, none, [0, 85, 59], 0) := rfl
theorem i_RP_about_77 : ix_nx mRP_about 77 = some (0, .ifCond .eq 7, 80, none, [], 0) := rfl
theorem i_RP_about_80 : ix_nx mRP_about 80 = some (0, .iconst 1, 81, none, [], 0) := rfl
theorem i_RP_about_81 : ix_nx mRP_about 81 = some (0, .goto 4, 84, none, [], 0) := rfl
theorem i_RP_about_84 : ix_nx mRP_about 84 = some (0, .iconst 0, 85, none, [], 0) := rfl
theorem i_RP_about_85 : ix_nx mRP_about 85 = some (3, .invokestatic 125, 88, none, [1, 13, 20], 0) := rfl
theorem i_RP_about_88 : ix_nx mRP_about 88 = some (4, .ireturn, 89, none, [], 0) := rfl
theorem i_RP_about_89 : ix_nx mRP_about 89 = some (0, .aload_n 0, 90, none, [], 0) := rfl
theorem i_RP_about_90 : ix_nx mRP_about 90 = some (0, .aload_n 3, 91, none, [], 0) := rfl
theorem i_RP_about_91 : ix_nx mRP_about 91 = some (3, .invokevirtual 268, 94, none, [0, 42, 60], 0) := rfl
theorem i_RP_about_94 : ix_nx mRP_about 94 = some (3, .invokestatic 125, 97, none, [1, 13, 20], 0) := rfl
theorem i_RP_about_97 : ix_nx mRP_about 97 = some (4, .ireturn, 98, none, [], 0) := rfl
theorem i_RP_about_98 : ix_nx mRP_about 98 = some (0, .aload_n 3, 99, none, [], 0) := rfl
theorem i_RP_about_99 : ix_nx mRP_about 99 = some (1, .getfield 244, 102, none, [3, 2, 1, 29], 0) := rfl
theorem i_RP_about_102 : ix_nx mRP_about 102 = some (0, .aload_n 0, 103, none, [], 0) := rfl
theorem i_RP_about_103 : ix_nx mRP_about 103 = some (1, .getfield 10, 106, none, [0, 0, 2, 71], 0) := rfl
theorem i_RP_about_106 : ix_nx mRP_about 106 = some (1, .getfield 78, 109, none, [1, 0, 2, 31], 0) := rfl
theorem i_RP_about_109 : ix_nx mRP_about 109 = some (0, .iconst 3, 110, none, [], 0) := rfl
theorem i_RP_about_110 : ix_nx mRP_about 110 = some (3, .invokevirtual 230, 113, none, [0, 73, 30], 0) := rfl
theorem i_RP_about_113 : ix_nx mRP_about 113 = some (0, .land, 114, none, [], 0) := rfl
theorem i_RP_about_114 : ix_nx mRP_about 114 = some (3, .invokestatic 104, 117, none, [1, 6, 14], 0) := rfl
theorem i_RP_about_117 : ix_nx mRP_about 117 = some (4, .ireturn, 118, none, [], 0) := rfl
theorem i_RP_about_118 : ix_nx mRP_about 118 = some (0, .aload_n 0, 119, none, [], 0) := rfl
theorem i_RP_about_119 : ix_nx mRP_about 119 = some (0, .iload_n 1, 120, none, [], 0) := rfl
theorem i_RP_about_120 : ix_nx mRP_about 120 = some (3, .invokevirtual 271, 123, none, [0, 43, 61], 0) := rfl
theorem i_RP_about_123 : ix_nx mRP_about 123 = some (4, .ireturn, 124, none, [], 0) := rfl
theorem i_RP_about_124 : ix_nx mRP_about 124 = some (0, .bipush (-2), 126, none, [], 0) := rfl
theorem i_RP_about_126 : ix_nx mRP_about 126 = some (4, .ireturn, 127, none, [], 0) := rfl
set_option maxRecDepth 20000 in
set_option maxHeartbeats 1000000 in
theorem e_RP_about (a0 : Nat) (x1 : Int32) (x2 : Int32) (h : ixH) : ix_D mRP_about 0 [some (.ref a0), some (.int x1), some (.int x2), none] [] h = (ix_M mRP_isSlot [.int x1] h).bind fun r => ix_kZ r fun v2 h1 => if v2 = true then (ix_gr h1 a0 0 0).bind fun v3 => (ix_gr h1 v3 1 1).bind fun v4 => (ix_aq h1 4 v4 x1).bind fun v5 => ix_sel x2 0 [(ix_M mRP_isValid [.ref a0, .ref v5] h1).bind fun r => ix_kZ r fun v7 h6 => (ix_M mRP_flag [.int (ix_bi v7)] h6).bind fun r => ix_kI r fun v9 h8 => some ([.int v9], h8), (ix_M mRP_isValid [.ref a0, .ref v5] h1).bind fun r => ix_kZ r fun v11 h10 => if v11 = true then (ix_M mRt_onlyRises [.ref v5] h10).bind fun r => ix_kZ r fun v13 h12 => if v13 = true then (ix_M mRP_flag [.int 1] h12).bind fun r => ix_kI r fun v15 h14 => some ([.int v15], h14) else (ix_M mRP_flag [.int 0] h12).bind fun r => ix_kI r fun v17 h16 => some ([.int v17], h16) else (ix_M mRP_flag [.int 0] h10).bind fun r => ix_kI r fun v19 h18 => some ([.int v19], h18), (ix_M mRP_isProof [.ref a0, .ref v5] h1).bind fun r => ix_kZ r fun v21 h20 => (ix_M mRP_flag [.int (ix_bi v21)] h20).bind fun r => ix_kI r fun v23 h22 => some ([.int v23], h22), (ix_gl h1 v5 3 2).bind fun v24 => (ix_gr h1 a0 0 0).bind fun v25 => (ix_gr h1 v25 1 0).bind fun v26 => (ix_M mGr_openWith [.ref v26, .int 3] h1).bind fun r => ix_kL r fun v28 h27 => (ix_M mRP_size [.long (v24 &&& v28)] h27).bind fun r => ix_kI r fun v30 h29 => some ([.int v30], h29), (ix_M mRP_slotsMet [.ref a0, .int x1] h1).bind fun r => ix_kI r fun v32 h31 => some ([.int v32], h31)] (some ([.int (-2)], h1)) else some ([.int (-1)], h1) := by
  refine ix_K_px kq_RP_about i_RP_about_0 rfl rfl ?_
  refine ix_K_callZ (as := [.int x1]) (rest := []) kq_RP_about i_RP_about_1 rfl kq_RP_isSlot (by decide) rfl rfl (fun v2 h1 => ?_)
  refine ix_K_bz_ne (tgt := 9) kq_RP_about i_RP_about_4 rfl (by decide) ?_ ?_
  · refine ix_K_px kq_RP_about i_RP_about_9 rfl rfl ?_
    refine ix_K_gr kq_RP_about i_RP_about_10 rfl (fun v3 => ?_)
    refine ix_K_gr kq_RP_about i_RP_about_13 rfl (fun v4 => ?_)
    refine ix_K_px kq_RP_about i_RP_about_16 rfl rfl ?_
    refine ix_K_aq kq_RP_about i_RP_about_17 rfl (fun v5 => ?_)
    refine ix_K_sr (L2 := [some (.ref a0), some (.int x1), some (.int x2), some (.ref v5)]) kq_RP_about i_RP_about_18 rfl (Or.inr ⟨_, rfl, rfl⟩) (Nat.le_of_ble_eq_true rfl) rfl ?_
    refine ix_K_px kq_RP_about i_RP_about_19 rfl rfl ?_
    refine ix_K_tsw (tg := [56, 65, 89, 98, 118]) (dt := 124) kq_RP_about i_RP_about_20 rfl (by decide) (by decide) (by decide) (by decide) (ix_lc ?_ (ix_lc ?_ (ix_lc ?_ (ix_lc ?_ (ix_lc ?_ rfl))))) ?_
    · refine ix_K_px kq_RP_about i_RP_about_56 rfl rfl ?_
      refine ix_K_px kq_RP_about i_RP_about_57 rfl rfl ?_
      refine ix_K_callZ (as := [.ref a0, .ref v5]) (rest := []) kq_RP_about i_RP_about_58 rfl kq_RP_isValid (by decide) rfl rfl (fun v7 h6 => ?_)
      refine ix_K_callI (as := [.int (ix_bi v7)]) (rest := []) kq_RP_about i_RP_about_61 rfl kq_RP_flag (by decide) rfl (Or.inl rfl) (fun v9 h8 => ?_)
      exact ix_D_ret kq_RP_about i_RP_about_64 (ix_rtI rfl _)
    · refine ix_K_px kq_RP_about i_RP_about_65 rfl rfl ?_
      refine ix_K_px kq_RP_about i_RP_about_66 rfl rfl ?_
      refine ix_K_callZ (as := [.ref a0, .ref v5]) (rest := []) kq_RP_about i_RP_about_67 rfl kq_RP_isValid (by decide) rfl rfl (fun v11 h10 => ?_)
      refine ix_K_bz_eq (tgt := 84) kq_RP_about i_RP_about_70 rfl (by decide) ?_ ?_
      · refine ix_K_px kq_RP_about i_RP_about_73 rfl rfl ?_
        refine ix_K_callZ (as := [.ref v5]) (rest := []) kq_RP_about i_RP_about_74 rfl kq_Rt_onlyRises (by decide) rfl rfl (fun v13 h12 => ?_)
        refine ix_K_bz_eq (tgt := 84) kq_RP_about i_RP_about_77 rfl (by decide) ?_ ?_
        · refine ix_K_ci kq_RP_about i_RP_about_80 rfl kci_1 ?_
          refine ix_K_goto (tgt := 85) kq_RP_about i_RP_about_81 rfl (by decide) ?_
          refine ix_K_callI (as := [.int 1]) (rest := []) kq_RP_about i_RP_about_85 rfl kq_RP_flag (by decide) rfl (Or.inl rfl) (fun v15 h14 => ?_)
          exact ix_D_ret kq_RP_about i_RP_about_88 (ix_rtI rfl _)
        · refine ix_K_ci kq_RP_about i_RP_about_84 rfl kci_0 ?_
          refine ix_K_callI (as := [.int 0]) (rest := []) kq_RP_about i_RP_about_85 rfl kq_RP_flag (by decide) rfl (Or.inl rfl) (fun v17 h16 => ?_)
          exact ix_D_ret kq_RP_about i_RP_about_88 (ix_rtI rfl _)
      · refine ix_K_ci kq_RP_about i_RP_about_84 rfl kci_0 ?_
        refine ix_K_callI (as := [.int 0]) (rest := []) kq_RP_about i_RP_about_85 rfl kq_RP_flag (by decide) rfl (Or.inl rfl) (fun v19 h18 => ?_)
        exact ix_D_ret kq_RP_about i_RP_about_88 (ix_rtI rfl _)
    · refine ix_K_px kq_RP_about i_RP_about_89 rfl rfl ?_
      refine ix_K_px kq_RP_about i_RP_about_90 rfl rfl ?_
      refine ix_K_callZ (as := [.ref a0, .ref v5]) (rest := []) kq_RP_about i_RP_about_91 rfl kq_RP_isProof (by decide) rfl rfl (fun v21 h20 => ?_)
      refine ix_K_callI (as := [.int (ix_bi v21)]) (rest := []) kq_RP_about i_RP_about_94 rfl kq_RP_flag (by decide) rfl (Or.inl rfl) (fun v23 h22 => ?_)
      exact ix_D_ret kq_RP_about i_RP_about_97 (ix_rtI rfl _)
    · refine ix_K_px kq_RP_about i_RP_about_98 rfl rfl ?_
      refine ix_K_gl kq_RP_about i_RP_about_99 rfl (fun v24 => ?_)
      refine ix_K_px kq_RP_about i_RP_about_102 rfl rfl ?_
      refine ix_K_gr kq_RP_about i_RP_about_103 rfl (fun v25 => ?_)
      refine ix_K_gr kq_RP_about i_RP_about_106 rfl (fun v26 => ?_)
      refine ix_K_ci kq_RP_about i_RP_about_109 rfl kci_3 ?_
      refine ix_K_callL (as := [.ref v26, .int 3]) (rest := [.long v24]) kq_RP_about i_RP_about_110 rfl kq_Gr_openWith (by decide) rfl rfl (fun v28 h27 => ?_)
      refine ix_K_px kq_RP_about i_RP_about_113 rfl rfl ?_
      refine ix_K_callI (as := [.long (v24 &&& v28)]) (rest := []) kq_RP_about i_RP_about_114 rfl kq_RP_size (by decide) rfl (Or.inl rfl) (fun v30 h29 => ?_)
      exact ix_D_ret kq_RP_about i_RP_about_117 (ix_rtI rfl _)
    · refine ix_K_px kq_RP_about i_RP_about_118 rfl rfl ?_
      refine ix_K_px kq_RP_about i_RP_about_119 rfl rfl ?_
      refine ix_K_callI (as := [.ref a0, .int x1]) (rest := []) kq_RP_about i_RP_about_120 rfl kq_RP_slotsMet (by decide) rfl (Or.inl rfl) (fun v32 h31 => ?_)
      exact ix_D_ret kq_RP_about i_RP_about_123 (ix_rtI rfl _)
    · refine ix_K_cb kq_RP_about i_RP_about_124 rfl kcb_m2 ?_
      exact ix_D_ret kq_RP_about i_RP_about_126 (ix_rtI rfl _)
  · refine ix_K_ci kq_RP_about i_RP_about_7 rfl kci_m1 ?_
    exact ix_D_ret kq_RP_about i_RP_about_8 (ix_rtI rfl _)
theorem x_RP_about {a0 : Nat} {x1 : Int32} {x2 : Int32} {h h1 : ixH} {v : Int32} (hr : ix_rc h a0 = some 0) (hd : ix_D mRP_about 0 [some (.ref a0), some (.int x1), some (.int x2), none] [] h = some ([.int v], h1)) : ix_M mRP_about [.ref a0, .int x1, .int x2] h = some ([.int v], h1) := ix_M_of (ix_ent_i kq_RP_about rfl hr rfl (Nat.le_of_ble_eq_true rfl) rfl) hd (ix_okrI (Or.inl rfl) v)
theorem i_RP_isValid_0 : ix_nx mRP_isValid 0 = some (0, .aload_n 1, 1, none, [], 0) := rfl
theorem i_RP_isValid_1 : ix_nx mRP_isValid 1 = some (1, .getfield 244, 4, none, [3, 2, 1, 29], 0) := rfl
theorem i_RP_isValid_4 : ix_nx mRP_isValid 4 = some (0, .aload_n 0, 5, none, [], 0) := rfl
theorem i_RP_isValid_5 : ix_nx mRP_isValid 5 = some (1, .getfield 10, 8, none, [0, 0, 2, 71], 0) := rfl
theorem i_RP_isValid_8 : ix_nx mRP_isValid 8 = some (1, .getfield 78, 11, none, [1, 0, 2, 31], 0) := rfl
theorem i_RP_isValid_11 : ix_nx mRP_isValid 11 = some (1, .getfield 94, 14, none, [2, 5, 1, 18], 0) := rfl
theorem i_RP_isValid_14 : ix_nx mRP_isValid 14 = some (0, .land, 15, none, [], 0) := rfl
theorem i_RP_isValid_15 : ix_nx mRP_isValid 15 = some (0, .lconst 0, 16, none, [], 0) := rfl
theorem i_RP_isValid_16 : ix_nx mRP_isValid 16 = some (0, .lcmp, 17, none, [], 0) := rfl
theorem i_RP_isValid_17 : ix_nx mRP_isValid 17 = some (0, .ifCond .ne 7, 20, none, [], 0) := rfl
theorem i_RP_isValid_20 : ix_nx mRP_isValid 20 = some (0, .iconst 1, 21, none, [], 0) := rfl
theorem i_RP_isValid_21 : ix_nx mRP_isValid 21 = some (0, .goto 4, 24, none, [], 0) := rfl
theorem i_RP_isValid_24 : ix_nx mRP_isValid 24 = some (0, .iconst 0, 25, none, [], 0) := rfl
theorem i_RP_isValid_25 : ix_nx mRP_isValid 25 = some (4, .ireturn, 26, none, [], 0) := rfl
set_option maxRecDepth 20000 in
set_option maxHeartbeats 1000000 in
theorem e_RP_isValid (a0 : Nat) (a1 : Nat) (h : ixH) : ix_D mRP_isValid 0 [some (.ref a0), some (.ref a1)] [] h = (ix_gl h a1 3 2).bind fun v1 => (ix_gr h a0 0 0).bind fun v2 => (ix_gr h v2 1 0).bind fun v3 => (ix_gl h v3 2 5).bind fun v4 => if (v1 &&& v4) = 0 then some ([.int (ix_bi true)], h) else some ([.int (ix_bi false)], h) := by
  refine ix_K_px kq_RP_isValid i_RP_isValid_0 rfl rfl ?_
  refine ix_K_gl kq_RP_isValid i_RP_isValid_1 rfl (fun v1 => ?_)
  refine ix_K_px kq_RP_isValid i_RP_isValid_4 rfl rfl ?_
  refine ix_K_gr kq_RP_isValid i_RP_isValid_5 rfl (fun v2 => ?_)
  refine ix_K_gr kq_RP_isValid i_RP_isValid_8 rfl (fun v3 => ?_)
  refine ix_K_gl kq_RP_isValid i_RP_isValid_11 rfl (fun v4 => ?_)
  refine ix_K_px kq_RP_isValid i_RP_isValid_14 rfl rfl ?_
  refine ix_K_cl kq_RP_isValid i_RP_isValid_15 rfl kcl_0 ?_
  refine ix_K_px kq_RP_isValid i_RP_isValid_16 rfl rfl ?_
  refine ix_K_lc_ne (tgt := 24) kq_RP_isValid i_RP_isValid_17 rfl (by decide) ?_ ?_
  · refine ix_K_ci kq_RP_isValid i_RP_isValid_20 rfl kci_1 ?_
    refine ix_K_goto (tgt := 25) kq_RP_isValid i_RP_isValid_21 rfl (by decide) ?_
    exact ix_D_ret kq_RP_isValid i_RP_isValid_25 (ix_rtZ rfl true)
  · refine ix_K_ci kq_RP_isValid i_RP_isValid_24 rfl kci_0 ?_
    exact ix_D_ret kq_RP_isValid i_RP_isValid_25 (ix_rtZ rfl false)
theorem x_RP_isValid {a0 : Nat} {a1 : Nat} {h h1 : ixH} {v : Bool} (hr : ix_rc h a0 = some 0) (hd : ix_D mRP_isValid 0 [some (.ref a0), some (.ref a1)] [] h = some ([.int (ix_bi v)], h1)) : ix_M mRP_isValid [.ref a0, .ref a1] h = some ([.int (ix_bi v)], h1) := ix_M_of (ix_ent_i kq_RP_isValid rfl hr rfl (Nat.le_of_ble_eq_true rfl) rfl) hd (ix_okrZ rfl v)
theorem i_RP_isProof_0 : ix_nx mRP_isProof 0 = some (0, .aload_n 1, 1, none, [], 0) := rfl
theorem i_RP_isProof_1 : ix_nx mRP_isProof 1 = some (1, .getfield 247, 4, none, [3, 1, 0, 27], 0) := rfl
theorem i_RP_isProof_4 : ix_nx mRP_isProof 4 = some (0, .ifCond .le 52, 7, none, [], 0) := rfl
theorem i_RP_isProof_7 : ix_nx mRP_isProof 7 = some (0, .aload_n 0, 8, none, [], 0) := rfl
theorem i_RP_isProof_8 : ix_nx mRP_isProof 8 = some (0, .aload_n 1, 9, none, [], 0) := rfl
theorem i_RP_isProof_9 : ix_nx mRP_isProof 9 = some (3, .invokevirtual 260, 12, none, [0, 41, 58], 0) := rfl
theorem i_RP_isProof_12 : ix_nx mRP_isProof 12 = some (0, .ifCond .eq 44, 15, none, [], 0) := rfl
theorem i_RP_isProof_15 : ix_nx mRP_isProof 15 = some (0, .aload_n 0, 16, none, [], 0) := rfl
theorem i_RP_isProof_16 : ix_nx mRP_isProof 16 = some (1, .getfield 10, 19, none, [0, 0, 2, 71], 0) := rfl
theorem i_RP_isProof_19 : ix_nx mRP_isProof 19 = some (1, .getfield 78, 22, none, [1, 0, 2, 31], 0) := rfl
theorem i_RP_isProof_22 : ix_nx mRP_isProof 22 = some (0, .aload_n 1, 23, none, [], 0) := rfl
theorem i_RP_isProof_23 : ix_nx mRP_isProof 23 = some (0, .iconst 0, 24, none, [], 0) := rfl
theorem i_RP_isProof_24 : ix_nx mRP_isProof 24 = some (3, .invokevirtual 257, 27, none, [0, 82, 57], 0) := rfl
theorem i_RP_isProof_27 : ix_nx mRP_isProof 27 = some (3, .invokevirtual 107, 30, none, [0, 64, 16], 0) := rfl
theorem i_RP_isProof_30 : ix_nx mRP_isProof 30 = some (0, .iconst 1, 31, none, [], 0) := rfl
theorem i_RP_isProof_31 : ix_nx mRP_isProof 31 = some (0, .if_icmp .ne 25, 34, none, [], 0) := rfl
theorem i_RP_isProof_34 : ix_nx mRP_isProof 34 = some (0, .aload_n 0, 35, none, [], 0) := rfl
theorem i_RP_isProof_35 : ix_nx mRP_isProof 35 = some (1, .getfield 10, 38, none, [0, 0, 2, 71], 0) := rfl
theorem i_RP_isProof_38 : ix_nx mRP_isProof 38 = some (1, .getfield 78, 41, none, [1, 0, 2, 31], 0) := rfl
theorem i_RP_isProof_41 : ix_nx mRP_isProof 41 = some (0, .aload_n 1, 42, none, [], 0) := rfl
theorem i_RP_isProof_42 : ix_nx mRP_isProof 42 = some (3, .invokevirtual 248, 45, none, [0, 83, 54], 0) := rfl
theorem i_RP_isProof_45 : ix_nx mRP_isProof 45 = some (3, .invokevirtual 107, 48, none, [0, 64, 16], 0) := rfl
theorem i_RP_isProof_48 : ix_nx mRP_isProof 48 = some (0, .iconst 2, 49, none, [], 0) := rfl
theorem i_RP_isProof_49 : ix_nx mRP_isProof 49 = some (0, .if_icmp .ne 7, 52, none, [], 0) := rfl
theorem i_RP_isProof_52 : ix_nx mRP_isProof 52 = some (0, .iconst 1, 53, none, [], 0) := rfl
theorem i_RP_isProof_53 : ix_nx mRP_isProof 53 = some (0, .goto 4, 56, none, [], 0) := rfl
theorem i_RP_isProof_56 : ix_nx mRP_isProof 56 = some (0, .iconst 0, 57, none, [], 0) := rfl
theorem i_RP_isProof_57 : ix_nx mRP_isProof 57 = some (4, .ireturn, 58, none, [], 0) := rfl
set_option maxRecDepth 20000 in
set_option maxHeartbeats 1000000 in
theorem e_RP_isProof (a0 : Nat) (a1 : Nat) (h : ixH) : ix_D mRP_isProof 0 [some (.ref a0), some (.ref a1)] [] h = (ix_gi h a1 3 1).bind fun v1 => if v1 ≤ 0 then some ([.int (ix_bi false)], h) else (ix_M mRP_isValid [.ref a0, .ref a1] h).bind fun r => ix_kZ r fun v3 h2 => if v3 = true then (ix_gr h2 a0 0 0).bind fun v4 => (ix_gr h2 v4 1 0).bind fun v5 => (ix_M mRt_at [.ref a1, .int 0] h2).bind fun r => ix_kI r fun v7 h6 => (ix_M mGr_roleOf [.ref v5, .int v7] h6).bind fun r => ix_kI r fun v9 h8 => if ¬ v9 = 1 then some ([.int (ix_bi false)], h8) else (ix_gr h8 a0 0 0).bind fun v10 => (ix_gr h8 v10 1 0).bind fun v11 => (ix_M mRt_last [.ref a1] h8).bind fun r => ix_kI r fun v13 h12 => (ix_M mGr_roleOf [.ref v11, .int v13] h12).bind fun r => ix_kI r fun v15 h14 => if ¬ v15 = 2 then some ([.int (ix_bi false)], h14) else some ([.int (ix_bi true)], h14) else some ([.int (ix_bi false)], h2) := by
  refine ix_K_px kq_RP_isProof i_RP_isProof_0 rfl rfl ?_
  refine ix_K_gi kq_RP_isProof i_RP_isProof_1 rfl (fun v1 => ?_)
  refine ix_K_if_le (tgt := 56) kq_RP_isProof i_RP_isProof_4 rfl (by decide) ?_ ?_
  · refine ix_K_ci kq_RP_isProof i_RP_isProof_56 rfl kci_0 ?_
    exact ix_D_ret kq_RP_isProof i_RP_isProof_57 (ix_rtZ rfl false)
  · refine ix_K_px kq_RP_isProof i_RP_isProof_7 rfl rfl ?_
    refine ix_K_px kq_RP_isProof i_RP_isProof_8 rfl rfl ?_
    refine ix_K_callZ (as := [.ref a0, .ref a1]) (rest := []) kq_RP_isProof i_RP_isProof_9 rfl kq_RP_isValid (by decide) rfl rfl (fun v3 h2 => ?_)
    refine ix_K_bz_eq (tgt := 56) kq_RP_isProof i_RP_isProof_12 rfl (by decide) ?_ ?_
    · refine ix_K_px kq_RP_isProof i_RP_isProof_15 rfl rfl ?_
      refine ix_K_gr kq_RP_isProof i_RP_isProof_16 rfl (fun v4 => ?_)
      refine ix_K_gr kq_RP_isProof i_RP_isProof_19 rfl (fun v5 => ?_)
      refine ix_K_px kq_RP_isProof i_RP_isProof_22 rfl rfl ?_
      refine ix_K_ci kq_RP_isProof i_RP_isProof_23 rfl kci_0 ?_
      refine ix_K_callI (as := [.ref a1, .int 0]) (rest := [.ref v5]) kq_RP_isProof i_RP_isProof_24 rfl kq_Rt_at (by decide) rfl (Or.inl rfl) (fun v7 h6 => ?_)
      refine ix_K_callI (as := [.ref v5, .int v7]) (rest := []) kq_RP_isProof i_RP_isProof_27 rfl kq_Gr_roleOf (by decide) rfl (Or.inl rfl) (fun v9 h8 => ?_)
      refine ix_K_ci kq_RP_isProof i_RP_isProof_30 rfl kci_1 ?_
      refine ix_K_ic_ne (tgt := 56) kq_RP_isProof i_RP_isProof_31 rfl (by decide) ?_ ?_
      · refine ix_K_ci kq_RP_isProof i_RP_isProof_56 rfl kci_0 ?_
        exact ix_D_ret kq_RP_isProof i_RP_isProof_57 (ix_rtZ rfl false)
      · refine ix_K_px kq_RP_isProof i_RP_isProof_34 rfl rfl ?_
        refine ix_K_gr kq_RP_isProof i_RP_isProof_35 rfl (fun v10 => ?_)
        refine ix_K_gr kq_RP_isProof i_RP_isProof_38 rfl (fun v11 => ?_)
        refine ix_K_px kq_RP_isProof i_RP_isProof_41 rfl rfl ?_
        refine ix_K_callI (as := [.ref a1]) (rest := [.ref v11]) kq_RP_isProof i_RP_isProof_42 rfl kq_Rt_last (by decide) rfl (Or.inl rfl) (fun v13 h12 => ?_)
        refine ix_K_callI (as := [.ref v11, .int v13]) (rest := []) kq_RP_isProof i_RP_isProof_45 rfl kq_Gr_roleOf (by decide) rfl (Or.inl rfl) (fun v15 h14 => ?_)
        refine ix_K_ci kq_RP_isProof i_RP_isProof_48 rfl kci_2 ?_
        refine ix_K_ic_ne (tgt := 56) kq_RP_isProof i_RP_isProof_49 rfl (by decide) ?_ ?_
        · refine ix_K_ci kq_RP_isProof i_RP_isProof_56 rfl kci_0 ?_
          exact ix_D_ret kq_RP_isProof i_RP_isProof_57 (ix_rtZ rfl false)
        · refine ix_K_ci kq_RP_isProof i_RP_isProof_52 rfl kci_1 ?_
          refine ix_K_goto (tgt := 57) kq_RP_isProof i_RP_isProof_53 rfl (by decide) ?_
          exact ix_D_ret kq_RP_isProof i_RP_isProof_57 (ix_rtZ rfl true)
    · refine ix_K_ci kq_RP_isProof i_RP_isProof_56 rfl kci_0 ?_
      exact ix_D_ret kq_RP_isProof i_RP_isProof_57 (ix_rtZ rfl false)
theorem x_RP_isProof {a0 : Nat} {a1 : Nat} {h h1 : ixH} {v : Bool} (hr : ix_rc h a0 = some 0) (hd : ix_D mRP_isProof 0 [some (.ref a0), some (.ref a1)] [] h = some ([.int (ix_bi v)], h1)) : ix_M mRP_isProof [.ref a0, .ref a1] h = some ([.int (ix_bi v)], h1) := ix_M_of (ix_ent_i kq_RP_isProof rfl hr rfl (Nat.le_of_ble_eq_true rfl) rfl) hd (ix_okrZ rfl v)
theorem i_RP_slotsMet_0 : ix_nx mRP_slotsMet 0 = some (0, .aload_n 0, 1, none, [], 0) := rfl
theorem i_RP_slotsMet_1 : ix_nx mRP_slotsMet 1 = some (1, .getfield 10, 4, none, [0, 0, 2, 71], 0) := rfl
theorem i_RP_slotsMet_4 : ix_nx mRP_slotsMet 4 = some (1, .getfield 240, 7, none, [1, 1, 2, 35], 0) := rfl
theorem i_RP_slotsMet_7 : ix_nx mRP_slotsMet 7 = some (0, .iload_n 1, 8, none, [], 0) := rfl
theorem i_RP_slotsMet_8 : ix_nx mRP_slotsMet 8 = some (1, .aaload, 9, none, [4], 0) := rfl
theorem i_RP_slotsMet_9 : ix_nx mRP_slotsMet 9 = some (1, .getfield 244, 12, none, [3, 2, 1, 29], 0) := rfl
theorem i_RP_slotsMet_12 : ix_nx mRP_slotsMet 12 = some (0, .lstore_n 2, 13, none, [], 0) := rfl
theorem i_RP_slotsMet_13 : ix_nx mRP_slotsMet 13 = some (0, .iconst 0, 14, none, [], 0) := rfl
theorem i_RP_slotsMet_14 : ix_nx mRP_slotsMet 14 = some (0, .istore 4, 16, none, [], 0) := rfl
theorem i_RP_slotsMet_16 : ix_nx mRP_slotsMet 16 = some (0, .iconst 0, 17, none, [], 0) := rfl
theorem i_RP_slotsMet_17 : ix_nx mRP_slotsMet 17 = some (0, .istore 5, 19, none, [], 0) := rfl
theorem i_RP_slotsMet_19 : ix_nx mRP_slotsMet 19 = some (0, .iload 5, 21, some [true, true, true, false, true, true], [], 0) := rfl
theorem i_RP_slotsMet_21 : ix_nx mRP_slotsMet 21 = some (0, .iconst 5, 22, none, [], 0) := rfl
theorem i_RP_slotsMet_22 : ix_nx mRP_slotsMet 22 = some (0, .if_icmp .ge 44, 25, none, [], 0) := rfl
theorem i_RP_slotsMet_25 : ix_nx mRP_slotsMet 25 = some (0, .iload 5, 27, none, [], 0) := rfl
theorem i_RP_slotsMet_27 : ix_nx mRP_slotsMet 27 = some (0, .iload_n 1, 28, none, [], 0) := rfl
theorem i_RP_slotsMet_28 : ix_nx mRP_slotsMet 28 = some (0, .if_icmp .eq 32, 31, none, [], 0) := rfl
theorem i_RP_slotsMet_31 : ix_nx mRP_slotsMet 31 = some (0, .aload_n 0, 32, none, [], 0) := rfl
theorem i_RP_slotsMet_32 : ix_nx mRP_slotsMet 32 = some (1, .getfield 10, 35, none, [0, 0, 2, 71], 0) := rfl
theorem i_RP_slotsMet_35 : ix_nx mRP_slotsMet 35 = some (1, .getfield 240, 38, none, [1, 1, 2, 35], 0) := rfl
theorem i_RP_slotsMet_38 : ix_nx mRP_slotsMet 38 = some (0, .iload 5, 40, none, [], 0) := rfl
theorem i_RP_slotsMet_40 : ix_nx mRP_slotsMet 40 = some (1, .aaload, 41, none, [4], 0) := rfl
theorem i_RP_slotsMet_41 : ix_nx mRP_slotsMet 41 = some (1, .getfield 244, 44, none, [3, 2, 1, 29], 0) := rfl
theorem i_RP_slotsMet_44 : ix_nx mRP_slotsMet 44 = some (0, .lload_n 2, 45, none, [], 0) := rfl
theorem i_RP_slotsMet_45 : ix_nx mRP_slotsMet 45 = some (0, .land, 46, none, [], 0) := rfl
theorem i_RP_slotsMet_46 : ix_nx mRP_slotsMet 46 = some (0, .lconst 0, 47, none, [], 0) := rfl
theorem i_RP_slotsMet_47 : ix_nx mRP_slotsMet 47 = some (0, .lcmp, 48, none, [], 0) := rfl
theorem i_RP_slotsMet_48 : ix_nx mRP_slotsMet 48 = some (0, .ifCond .eq 12, 51, none, [], 0) := rfl
theorem i_RP_slotsMet_51 : ix_nx mRP_slotsMet 51 = some (0, .iload 4, 53, none, [], 0) := rfl
theorem i_RP_slotsMet_53 : ix_nx mRP_slotsMet 53 = some (0, .iconst 1, 54, none, [], 0) := rfl
theorem i_RP_slotsMet_54 : ix_nx mRP_slotsMet 54 = some (0, .iload 5, 56, none, [], 0) := rfl
theorem i_RP_slotsMet_56 : ix_nx mRP_slotsMet 56 = some (0, .ishl, 57, none, [], 0) := rfl
theorem i_RP_slotsMet_57 : ix_nx mRP_slotsMet 57 = some (0, .ior, 58, none, [], 0) := rfl
theorem i_RP_slotsMet_58 : ix_nx mRP_slotsMet 58 = some (0, .istore 4, 60, none, [], 0) := rfl
theorem i_RP_slotsMet_60 : ix_nx mRP_slotsMet 60 = some (0, .iinc 5 1, 63, none, [], 0) := rfl
theorem i_RP_slotsMet_63 : ix_nx mRP_slotsMet 63 = some (0, .goto (-44), 66, none, [], 0) := rfl
theorem i_RP_slotsMet_66 : ix_nx mRP_slotsMet 66 = some (0, .iload 4, 68, none, [], 0) := rfl
theorem i_RP_slotsMet_68 : ix_nx mRP_slotsMet 68 = some (4, .ireturn, 69, none, [], 0) := rfl
noncomputable def l_RP_slotsMet_19 (a0 : Nat) (x1 : Int32) (x2 : Int64) (x4 : Int32) (x5 : Int32) (h : ixH) : Option (List Value × ixH) := ix_D mRP_slotsMet 19 [some (.ref a0), some (.int x1), some (.long x2), none, some (.int x4), some (.int x5)] [] h
set_option maxRecDepth 20000 in
set_option maxHeartbeats 1000000 in
theorem e_RP_slotsMet_19 (a0 : Nat) (x1 : Int32) (x2 : Int64) (x4 : Int32) (x5 : Int32) (h : ixH) : l_RP_slotsMet_19 a0 x1 x2 x4 x5 h = if 5 ≤ x5 then some ([.int x4], h) else if x5 = x1 then l_RP_slotsMet_19 a0 x1 x2 x4 (x5 + 1) h else (ix_gr h a0 0 0).bind fun v1 => (ix_gr h v1 1 1).bind fun v2 => (ix_aq h 4 v2 x5).bind fun v3 => (ix_gl h v3 3 2).bind fun v4 => if (v4 &&& x2) = 0 then l_RP_slotsMet_19 a0 x1 x2 x4 (x5 + 1) h else l_RP_slotsMet_19 a0 x1 x2 (x4 ||| (ix_ishl 1 x5)) (x5 + 1) h := by
  unfold l_RP_slotsMet_19
  refine ix_K_px kq_RP_slotsMet i_RP_slotsMet_19 rfl rfl ?_
  refine ix_K_ci kq_RP_slotsMet i_RP_slotsMet_21 rfl kci_5 ?_
  refine ix_K_ic_ge (tgt := 66) kq_RP_slotsMet i_RP_slotsMet_22 rfl (by decide) ?_ ?_
  · refine ix_K_px kq_RP_slotsMet i_RP_slotsMet_66 rfl rfl ?_
    exact ix_D_ret kq_RP_slotsMet i_RP_slotsMet_68 (ix_rtI rfl _)
  · refine ix_K_px kq_RP_slotsMet i_RP_slotsMet_25 rfl rfl ?_
    refine ix_K_px kq_RP_slotsMet i_RP_slotsMet_27 rfl rfl ?_
    refine ix_K_ic_eq (tgt := 60) kq_RP_slotsMet i_RP_slotsMet_28 rfl (by decide) ?_ ?_
    · refine ix_K_inc (L2 := [some (.ref a0), some (.int x1), some (.long x2), none, some (.int x4), some (.int (x5 + 1))]) kq_RP_slotsMet i_RP_slotsMet_60 rfl rfl (Nat.le_of_ble_eq_true rfl) kci_1 rfl ?_
      refine ix_K_goto (tgt := 19) kq_RP_slotsMet i_RP_slotsMet_63 rfl (by decide) ?_
      exact ix_D_cut i_RP_slotsMet_19 rfl
    · refine ix_K_px kq_RP_slotsMet i_RP_slotsMet_31 rfl rfl ?_
      refine ix_K_gr kq_RP_slotsMet i_RP_slotsMet_32 rfl (fun v1 => ?_)
      refine ix_K_gr kq_RP_slotsMet i_RP_slotsMet_35 rfl (fun v2 => ?_)
      refine ix_K_px kq_RP_slotsMet i_RP_slotsMet_38 rfl rfl ?_
      refine ix_K_aq kq_RP_slotsMet i_RP_slotsMet_40 rfl (fun v3 => ?_)
      refine ix_K_gl kq_RP_slotsMet i_RP_slotsMet_41 rfl (fun v4 => ?_)
      refine ix_K_px kq_RP_slotsMet i_RP_slotsMet_44 rfl rfl ?_
      refine ix_K_px kq_RP_slotsMet i_RP_slotsMet_45 rfl rfl ?_
      refine ix_K_cl kq_RP_slotsMet i_RP_slotsMet_46 rfl kcl_0 ?_
      refine ix_K_px kq_RP_slotsMet i_RP_slotsMet_47 rfl rfl ?_
      refine ix_K_lc_eq (tgt := 60) kq_RP_slotsMet i_RP_slotsMet_48 rfl (by decide) ?_ ?_
      · refine ix_K_inc (L2 := [some (.ref a0), some (.int x1), some (.long x2), none, some (.int x4), some (.int (x5 + 1))]) kq_RP_slotsMet i_RP_slotsMet_60 rfl rfl (Nat.le_of_ble_eq_true rfl) kci_1 rfl ?_
        refine ix_K_goto (tgt := 19) kq_RP_slotsMet i_RP_slotsMet_63 rfl (by decide) ?_
        exact ix_D_cut i_RP_slotsMet_19 rfl
      · refine ix_K_px kq_RP_slotsMet i_RP_slotsMet_51 rfl rfl ?_
        refine ix_K_ci kq_RP_slotsMet i_RP_slotsMet_53 rfl kci_1 ?_
        refine ix_K_px kq_RP_slotsMet i_RP_slotsMet_54 rfl rfl ?_
        refine ix_K_px kq_RP_slotsMet i_RP_slotsMet_56 rfl rfl ?_
        refine ix_K_px kq_RP_slotsMet i_RP_slotsMet_57 rfl rfl ?_
        refine ix_K_si (L2 := [some (.ref a0), some (.int x1), some (.long x2), none, some (.int (x4 ||| (ix_ishl 1 x5))), some (.int x5)]) kq_RP_slotsMet i_RP_slotsMet_58 rfl (Or.inl rfl) (Nat.le_of_ble_eq_true rfl) rfl ?_
        refine ix_K_inc (L2 := [some (.ref a0), some (.int x1), some (.long x2), none, some (.int (x4 ||| (ix_ishl 1 x5))), some (.int (x5 + 1))]) kq_RP_slotsMet i_RP_slotsMet_60 rfl rfl (Nat.le_of_ble_eq_true rfl) kci_1 rfl ?_
        refine ix_K_goto (tgt := 19) kq_RP_slotsMet i_RP_slotsMet_63 rfl (by decide) ?_
        exact ix_D_cut i_RP_slotsMet_19 rfl
set_option maxRecDepth 20000 in
set_option maxHeartbeats 1000000 in
theorem e_RP_slotsMet (a0 : Nat) (x1 : Int32) (h : ixH) : ix_D mRP_slotsMet 0 [some (.ref a0), some (.int x1), none, none, none, none] [] h = (ix_gr h a0 0 0).bind fun v1 => (ix_gr h v1 1 1).bind fun v2 => (ix_aq h 4 v2 x1).bind fun v3 => (ix_gl h v3 3 2).bind fun v4 => l_RP_slotsMet_19 a0 x1 v4 0 0 h := by
  refine ix_K_px kq_RP_slotsMet i_RP_slotsMet_0 rfl rfl ?_
  refine ix_K_gr kq_RP_slotsMet i_RP_slotsMet_1 rfl (fun v1 => ?_)
  refine ix_K_gr kq_RP_slotsMet i_RP_slotsMet_4 rfl (fun v2 => ?_)
  refine ix_K_px kq_RP_slotsMet i_RP_slotsMet_7 rfl rfl ?_
  refine ix_K_aq kq_RP_slotsMet i_RP_slotsMet_8 rfl (fun v3 => ?_)
  refine ix_K_gl kq_RP_slotsMet i_RP_slotsMet_9 rfl (fun v4 => ?_)
  refine ix_K_sl (L2 := [some (.ref a0), some (.int x1), some (.long v4), none, none, none]) kq_RP_slotsMet i_RP_slotsMet_12 rfl (Or.inr ⟨_, rfl, rfl⟩) (Nat.le_of_ble_eq_true rfl) rfl ?_
  refine ix_K_ci kq_RP_slotsMet i_RP_slotsMet_13 rfl kci_0 ?_
  refine ix_K_si (L2 := [some (.ref a0), some (.int x1), some (.long v4), none, some (.int 0), none]) kq_RP_slotsMet i_RP_slotsMet_14 rfl (Or.inl rfl) (Nat.le_of_ble_eq_true rfl) rfl ?_
  refine ix_K_ci kq_RP_slotsMet i_RP_slotsMet_16 rfl kci_0 ?_
  refine ix_K_si (L2 := [some (.ref a0), some (.int x1), some (.long v4), none, some (.int 0), some (.int 0)]) kq_RP_slotsMet i_RP_slotsMet_17 rfl (Or.inl rfl) (Nat.le_of_ble_eq_true rfl) rfl ?_
  exact ix_D_cut i_RP_slotsMet_19 rfl
theorem x_RP_slotsMet {a0 : Nat} {x1 : Int32} {h h1 : ixH} {v : Int32} (hr : ix_rc h a0 = some 0) (hd : ix_D mRP_slotsMet 0 [some (.ref a0), some (.int x1), none, none, none, none] [] h = some ([.int v], h1)) : ix_M mRP_slotsMet [.ref a0, .int x1] h = some ([.int v], h1) := ix_M_of (ix_ent_i kq_RP_slotsMet rfl hr rfl (Nat.le_of_ble_eq_true rfl) rfl) hd (ix_okrI (Or.inl rfl) v)
theorem i_RP_meeting_0 : ix_nx mRP_meeting 0 = some (0, .iload_n 1, 1, none, [], 0) := rfl
theorem i_RP_meeting_1 : ix_nx mRP_meeting 1 = some (3, .invokestatic 237, 4, none, [1, 37, 53], 0) := rfl
theorem i_RP_meeting_4 : ix_nx mRP_meeting 4 = some (0, .ifCond .eq 10, 7, none, [], 0) := rfl
theorem i_RP_meeting_7 : ix_nx mRP_meeting 7 = some (0, .iload_n 2, 8, none, [], 0) := rfl
theorem i_RP_meeting_8 : ix_nx mRP_meeting 8 = some (3, .invokestatic 237, 11, none, [1, 37, 53], 0) := rfl
theorem i_RP_meeting_11 : ix_nx mRP_meeting 11 = some (0, .ifCond .ne 5, 14, none, [], 0) := rfl
theorem i_RP_meeting_14 : ix_nx mRP_meeting 14 = some (0, .iconst (-1), 15, none, [], 0) := rfl
theorem i_RP_meeting_15 : ix_nx mRP_meeting 15 = some (4, .ireturn, 16, none, [], 0) := rfl
theorem i_RP_meeting_16 : ix_nx mRP_meeting 16 = some (0, .iload_n 1, 17, none, [], 0) := rfl
theorem i_RP_meeting_17 : ix_nx mRP_meeting 17 = some (0, .iload_n 2, 18, none, [], 0) := rfl
theorem i_RP_meeting_18 : ix_nx mRP_meeting 18 = some (0, .if_icmp .ne 6, 21, none, [], 0) := rfl
theorem i_RP_meeting_21 : ix_nx mRP_meeting 21 = some (0, .bipush (-2), 23, none, [], 0) := rfl
theorem i_RP_meeting_23 : ix_nx mRP_meeting 23 = some (4, .ireturn, 24, none, [], 0) := rfl
theorem i_RP_meeting_24 : ix_nx mRP_meeting 24 = some (0, .aload_n 0, 25, none, [], 0) := rfl
theorem i_RP_meeting_25 : ix_nx mRP_meeting 25 = some (0, .iload_n 1, 26, none, [], 0) := rfl
theorem i_RP_meeting_26 : ix_nx mRP_meeting 26 = some (0, .iload_n 2, 27, none, [], 0) := rfl
theorem i_RP_meeting_27 : ix_nx mRP_meeting 27 = some (3, .invokevirtual 274, 30, none, [0, 45, 62], 0) := rfl
theorem i_RP_meeting_30 : ix_nx mRP_meeting 30 = some (4, .ireturn, 31, none, [], 0) := rfl
set_option maxRecDepth 20000 in
set_option maxHeartbeats 1000000 in
theorem e_RP_meeting (a0 : Nat) (x1 : Int32) (x2 : Int32) (h : ixH) : ix_D mRP_meeting 0 [some (.ref a0), some (.int x1), some (.int x2)] [] h = (ix_M mRP_isSlot [.int x1] h).bind fun r => ix_kZ r fun v2 h1 => if v2 = true then (ix_M mRP_isSlot [.int x2] h1).bind fun r => ix_kZ r fun v4 h3 => if v4 = true then if ¬ x1 = x2 then (ix_M mRP_meetingOf [.ref a0, .int x1, .int x2] h3).bind fun r => ix_kI r fun v6 h5 => some ([.int v6], h5) else some ([.int (-2)], h3) else some ([.int (-1)], h3) else some ([.int (-1)], h1) := by
  refine ix_K_px kq_RP_meeting i_RP_meeting_0 rfl rfl ?_
  refine ix_K_callZ (as := [.int x1]) (rest := []) kq_RP_meeting i_RP_meeting_1 rfl kq_RP_isSlot (by decide) rfl rfl (fun v2 h1 => ?_)
  refine ix_K_bz_eq (tgt := 14) kq_RP_meeting i_RP_meeting_4 rfl (by decide) ?_ ?_
  · refine ix_K_px kq_RP_meeting i_RP_meeting_7 rfl rfl ?_
    refine ix_K_callZ (as := [.int x2]) (rest := []) kq_RP_meeting i_RP_meeting_8 rfl kq_RP_isSlot (by decide) rfl rfl (fun v4 h3 => ?_)
    refine ix_K_bz_ne (tgt := 16) kq_RP_meeting i_RP_meeting_11 rfl (by decide) ?_ ?_
    · refine ix_K_px kq_RP_meeting i_RP_meeting_16 rfl rfl ?_
      refine ix_K_px kq_RP_meeting i_RP_meeting_17 rfl rfl ?_
      refine ix_K_ic_ne (tgt := 24) kq_RP_meeting i_RP_meeting_18 rfl (by decide) ?_ ?_
      · refine ix_K_px kq_RP_meeting i_RP_meeting_24 rfl rfl ?_
        refine ix_K_px kq_RP_meeting i_RP_meeting_25 rfl rfl ?_
        refine ix_K_px kq_RP_meeting i_RP_meeting_26 rfl rfl ?_
        refine ix_K_callI (as := [.ref a0, .int x1, .int x2]) (rest := []) kq_RP_meeting i_RP_meeting_27 rfl kq_RP_meetingOf (by decide) rfl (Or.inl rfl) (fun v6 h5 => ?_)
        exact ix_D_ret kq_RP_meeting i_RP_meeting_30 (ix_rtI rfl _)
      · refine ix_K_cb kq_RP_meeting i_RP_meeting_21 rfl kcb_m2 ?_
        exact ix_D_ret kq_RP_meeting i_RP_meeting_23 (ix_rtI rfl _)
    · refine ix_K_ci kq_RP_meeting i_RP_meeting_14 rfl kci_m1 ?_
      exact ix_D_ret kq_RP_meeting i_RP_meeting_15 (ix_rtI rfl _)
  · refine ix_K_ci kq_RP_meeting i_RP_meeting_14 rfl kci_m1 ?_
    exact ix_D_ret kq_RP_meeting i_RP_meeting_15 (ix_rtI rfl _)
theorem x_RP_meeting {a0 : Nat} {x1 : Int32} {x2 : Int32} {h h1 : ixH} {v : Int32} (hr : ix_rc h a0 = some 0) (hd : ix_D mRP_meeting 0 [some (.ref a0), some (.int x1), some (.int x2)] [] h = some ([.int v], h1)) : ix_M mRP_meeting [.ref a0, .int x1, .int x2] h = some ([.int v], h1) := ix_M_of (ix_ent_i kq_RP_meeting rfl hr rfl (Nat.le_of_ble_eq_true rfl) rfl) hd (ix_okrI (Or.inl rfl) v)
theorem i_RP_meetingOf_0 : ix_nx mRP_meetingOf 0 = some (0, .aload_n 0, 1, none, [], 0) := rfl
theorem i_RP_meetingOf_1 : ix_nx mRP_meetingOf 1 = some (1, .getfield 10, 4, none, [0, 0, 2, 71], 0) := rfl
theorem i_RP_meetingOf_4 : ix_nx mRP_meetingOf 4 = some (1, .getfield 240, 7, none, [1, 1, 2, 35], 0) := rfl
theorem i_RP_meetingOf_7 : ix_nx mRP_meetingOf 7 = some (0, .iload_n 1, 8, none, [], 0) := rfl
theorem i_RP_meetingOf_8 : ix_nx mRP_meetingOf 8 = some (0, .iload_n 2, 9, none, [], 0) := rfl
theorem i_RP_meetingOf_9 : ix_nx mRP_meetingOf 9 = some (5, .invokestatic 320, 12, none, [9, 63], 0) := rfl
theorem i_RP_meetingOf_12 : ix_nx mRP_meetingOf 12 = some (1, .aaload, 13, none, [4], 0) := rfl
theorem i_RP_meetingOf_13 : ix_nx mRP_meetingOf 13 = some (0, .astore_n 3, 14, none, [], 0) := rfl
theorem i_RP_meetingOf_14 : ix_nx mRP_meetingOf 14 = some (0, .aload_n 0, 15, none, [], 0) := rfl
theorem i_RP_meetingOf_15 : ix_nx mRP_meetingOf 15 = some (1, .getfield 10, 18, none, [0, 0, 2, 71], 0) := rfl
theorem i_RP_meetingOf_18 : ix_nx mRP_meetingOf 18 = some (1, .getfield 240, 21, none, [1, 1, 2, 35], 0) := rfl
theorem i_RP_meetingOf_21 : ix_nx mRP_meetingOf 21 = some (0, .iload_n 1, 22, none, [], 0) := rfl
theorem i_RP_meetingOf_22 : ix_nx mRP_meetingOf 22 = some (0, .iload_n 2, 23, none, [], 0) := rfl
theorem i_RP_meetingOf_23 : ix_nx mRP_meetingOf 23 = some (5, .invokestatic 325, 26, none, [8, 64], 0) := rfl
theorem i_RP_meetingOf_26 : ix_nx mRP_meetingOf 26 = some (1, .aaload, 27, none, [4], 0) := rfl
theorem i_RP_meetingOf_27 : ix_nx mRP_meetingOf 27 = some (0, .astore 4, 29, none, [], 0) := rfl
theorem i_RP_meetingOf_29 : ix_nx mRP_meetingOf 29 = some (0, .iconst 0, 30, none, [], 0) := rfl
theorem i_RP_meetingOf_30 : ix_nx mRP_meetingOf 30 = some (0, .istore 5, 32, none, [], 0) := rfl
theorem i_RP_meetingOf_32 : ix_nx mRP_meetingOf 32 = some (0, .iload 5, 34, some [false, false, false, true, true, true], [], 0) := rfl
theorem i_RP_meetingOf_34 : ix_nx mRP_meetingOf 34 = some (0, .aload_n 3, 35, none, [], 0) := rfl
theorem i_RP_meetingOf_35 : ix_nx mRP_meetingOf 35 = some (1, .getfield 247, 38, none, [3, 1, 0, 27], 0) := rfl
theorem i_RP_meetingOf_38 : ix_nx mRP_meetingOf 38 = some (0, .if_icmp .ge 33, 41, none, [], 0) := rfl
theorem i_RP_meetingOf_41 : ix_nx mRP_meetingOf 41 = some (0, .aload 4, 43, none, [], 0) := rfl
theorem i_RP_meetingOf_43 : ix_nx mRP_meetingOf 43 = some (1, .getfield 244, 46, none, [3, 2, 1, 29], 0) := rfl
theorem i_RP_meetingOf_46 : ix_nx mRP_meetingOf 46 = some (0, .aload_n 3, 47, none, [], 0) := rfl
theorem i_RP_meetingOf_47 : ix_nx mRP_meetingOf 47 = some (0, .iload 5, 49, none, [], 0) := rfl
theorem i_RP_meetingOf_49 : ix_nx mRP_meetingOf 49 = some (3, .invokevirtual 257, 52, none, [0, 82, 57], 0) := rfl
theorem i_RP_meetingOf_52 : ix_nx mRP_meetingOf 52 = some (3, .invokestatic 121, 55, none, [1, 8, 19], 0) := rfl
theorem i_RP_meetingOf_55 : ix_nx mRP_meetingOf 55 = some (0, .ifCond .eq 10, 58, none, [], 0) := rfl
theorem i_RP_meetingOf_58 : ix_nx mRP_meetingOf 58 = some (0, .aload_n 3, 59, none, [], 0) := rfl
theorem i_RP_meetingOf_59 : ix_nx mRP_meetingOf 59 = some (0, .iload 5, 61, none, [], 0) := rfl
theorem i_RP_meetingOf_61 : ix_nx mRP_meetingOf 61 = some (3, .invokevirtual 257, 64, none, [0, 82, 57], 0) := rfl
theorem i_RP_meetingOf_64 : ix_nx mRP_meetingOf 64 = some (4, .ireturn, 65, none, [], 0) := rfl
theorem i_RP_meetingOf_65 : ix_nx mRP_meetingOf 65 = some (0, .iinc 5 1, 68, none, [], 0) := rfl
theorem i_RP_meetingOf_68 : ix_nx mRP_meetingOf 68 = some (0, .goto (-36), 71, none, [], 0) := rfl
theorem i_RP_meetingOf_71 : ix_nx mRP_meetingOf 71 = some (0, .bipush (-6), 73, none, [], 0) := rfl
theorem i_RP_meetingOf_73 : ix_nx mRP_meetingOf 73 = some (4, .ireturn, 74, none, [], 0) := rfl
noncomputable def l_RP_meetingOf_32 (a3 : Nat) (a4 : Nat) (x5 : Int32) (h : ixH) : Option (List Value × ixH) := ix_D mRP_meetingOf 32 [none, none, none, some (.ref a3), some (.ref a4), some (.int x5)] [] h
set_option maxRecDepth 20000 in
set_option maxHeartbeats 1000000 in
theorem e_RP_meetingOf_32 (a3 : Nat) (a4 : Nat) (x5 : Int32) (h : ixH) : l_RP_meetingOf_32 a3 a4 x5 h = (ix_gi h a3 3 1).bind fun v1 => if v1 ≤ x5 then some ([.int (-6)], h) else (ix_gl h a4 3 2).bind fun v2 => (ix_M mRt_at [.ref a3, .int x5] h).bind fun r => ix_kI r fun v4 h3 => (ix_M mRP_holds [.long v2, .int v4] h3).bind fun r => ix_kZ r fun v6 h5 => if v6 = true then (ix_M mRt_at [.ref a3, .int x5] h5).bind fun r => ix_kI r fun v8 h7 => some ([.int v8], h7) else l_RP_meetingOf_32 a3 a4 (x5 + 1) h5 := by
  unfold l_RP_meetingOf_32
  refine ix_K_px kq_RP_meetingOf i_RP_meetingOf_32 rfl rfl ?_
  refine ix_K_px kq_RP_meetingOf i_RP_meetingOf_34 rfl rfl ?_
  refine ix_K_gi kq_RP_meetingOf i_RP_meetingOf_35 rfl (fun v1 => ?_)
  refine ix_K_ic_ge (tgt := 71) kq_RP_meetingOf i_RP_meetingOf_38 rfl (by decide) ?_ ?_
  · refine ix_K_cb kq_RP_meetingOf i_RP_meetingOf_71 rfl kcb_m6 ?_
    exact ix_D_ret kq_RP_meetingOf i_RP_meetingOf_73 (ix_rtI rfl _)
  · refine ix_K_px kq_RP_meetingOf i_RP_meetingOf_41 rfl rfl ?_
    refine ix_K_gl kq_RP_meetingOf i_RP_meetingOf_43 rfl (fun v2 => ?_)
    refine ix_K_px kq_RP_meetingOf i_RP_meetingOf_46 rfl rfl ?_
    refine ix_K_px kq_RP_meetingOf i_RP_meetingOf_47 rfl rfl ?_
    refine ix_K_callI (as := [.ref a3, .int x5]) (rest := [.long v2]) kq_RP_meetingOf i_RP_meetingOf_49 rfl kq_Rt_at (by decide) rfl (Or.inl rfl) (fun v4 h3 => ?_)
    refine ix_K_callZ (as := [.long v2, .int v4]) (rest := []) kq_RP_meetingOf i_RP_meetingOf_52 rfl kq_RP_holds (by decide) rfl rfl (fun v6 h5 => ?_)
    refine ix_K_bz_eq (tgt := 65) kq_RP_meetingOf i_RP_meetingOf_55 rfl (by decide) ?_ ?_
    · refine ix_K_px kq_RP_meetingOf i_RP_meetingOf_58 rfl rfl ?_
      refine ix_K_px kq_RP_meetingOf i_RP_meetingOf_59 rfl rfl ?_
      refine ix_K_callI (as := [.ref a3, .int x5]) (rest := []) kq_RP_meetingOf i_RP_meetingOf_61 rfl kq_Rt_at (by decide) rfl (Or.inl rfl) (fun v8 h7 => ?_)
      exact ix_D_ret kq_RP_meetingOf i_RP_meetingOf_64 (ix_rtI rfl _)
    · refine ix_K_inc (L2 := [none, none, none, some (.ref a3), some (.ref a4), some (.int (x5 + 1))]) kq_RP_meetingOf i_RP_meetingOf_65 rfl rfl (Nat.le_of_ble_eq_true rfl) kci_1 rfl ?_
      refine ix_K_goto (tgt := 32) kq_RP_meetingOf i_RP_meetingOf_68 rfl (by decide) ?_
      exact ix_D_cut i_RP_meetingOf_32 rfl
set_option maxRecDepth 20000 in
set_option maxHeartbeats 1000000 in
theorem e_RP_meetingOf (a0 : Nat) (x1 : Int32) (x2 : Int32) (h : ixH) : ix_D mRP_meetingOf 0 [some (.ref a0), some (.int x1), some (.int x2), none, none, none] [] h = (ix_gr h a0 0 0).bind fun v1 => (ix_gr h v1 1 1).bind fun v2 => (ix_aq h 4 v2 (ix_mn x1 x2)).bind fun v3 => (ix_gr h a0 0 0).bind fun v4 => (ix_gr h v4 1 1).bind fun v5 => (ix_aq h 4 v5 (ix_mx x1 x2)).bind fun v6 => l_RP_meetingOf_32 v3 v6 0 h := by
  refine ix_K_px kq_RP_meetingOf i_RP_meetingOf_0 rfl rfl ?_
  refine ix_K_gr kq_RP_meetingOf i_RP_meetingOf_1 rfl (fun v1 => ?_)
  refine ix_K_gr kq_RP_meetingOf i_RP_meetingOf_4 rfl (fun v2 => ?_)
  refine ix_K_px kq_RP_meetingOf i_RP_meetingOf_7 rfl rfl ?_
  refine ix_K_px kq_RP_meetingOf i_RP_meetingOf_8 rfl rfl ?_
  refine ix_K_min kq_RP_meetingOf i_RP_meetingOf_9 rfl (Nat.le_of_ble_eq_true rfl) ?_
  refine ix_K_aq kq_RP_meetingOf i_RP_meetingOf_12 rfl (fun v3 => ?_)
  refine ix_K_sr (L2 := [some (.ref a0), some (.int x1), some (.int x2), some (.ref v3), none, none]) kq_RP_meetingOf i_RP_meetingOf_13 rfl (Or.inr ⟨_, rfl, rfl⟩) (Nat.le_of_ble_eq_true rfl) rfl ?_
  refine ix_K_px kq_RP_meetingOf i_RP_meetingOf_14 rfl rfl ?_
  refine ix_K_gr kq_RP_meetingOf i_RP_meetingOf_15 rfl (fun v4 => ?_)
  refine ix_K_gr kq_RP_meetingOf i_RP_meetingOf_18 rfl (fun v5 => ?_)
  refine ix_K_px kq_RP_meetingOf i_RP_meetingOf_21 rfl rfl ?_
  refine ix_K_px kq_RP_meetingOf i_RP_meetingOf_22 rfl rfl ?_
  refine ix_K_max kq_RP_meetingOf i_RP_meetingOf_23 rfl (Nat.le_of_ble_eq_true rfl) ?_
  refine ix_K_aq kq_RP_meetingOf i_RP_meetingOf_26 rfl (fun v6 => ?_)
  refine ix_K_sr (L2 := [some (.ref a0), some (.int x1), some (.int x2), some (.ref v3), some (.ref v6), none]) kq_RP_meetingOf i_RP_meetingOf_27 rfl (Or.inl rfl) (Nat.le_of_ble_eq_true rfl) rfl ?_
  refine ix_K_ci kq_RP_meetingOf i_RP_meetingOf_29 rfl kci_0 ?_
  refine ix_K_si (L2 := [some (.ref a0), some (.int x1), some (.int x2), some (.ref v3), some (.ref v6), some (.int 0)]) kq_RP_meetingOf i_RP_meetingOf_30 rfl (Or.inl rfl) (Nat.le_of_ble_eq_true rfl) rfl ?_
  exact ix_D_cut i_RP_meetingOf_32 rfl
theorem x_RP_meetingOf {a0 : Nat} {x1 : Int32} {x2 : Int32} {h h1 : ixH} {v : Int32} (hr : ix_rc h a0 = some 0) (hd : ix_D mRP_meetingOf 0 [some (.ref a0), some (.int x1), some (.int x2), none, none, none] [] h = some ([.int v], h1)) : ix_M mRP_meetingOf [.ref a0, .int x1, .int x2] h = some ([.int v], h1) := ix_M_of (ix_ent_i kq_RP_meetingOf rfl hr rfl (Nat.le_of_ble_eq_true rfl) rfl) hd (ix_okrI (Or.inl rfl) v)
theorem i_RP_exchange_0 : ix_nx mRP_exchange 0 = some (0, .iload_n 1, 1, none, [], 0) := rfl
theorem i_RP_exchange_1 : ix_nx mRP_exchange 1 = some (3, .invokestatic 237, 4, none, [1, 37, 53], 0) := rfl
theorem i_RP_exchange_4 : ix_nx mRP_exchange 4 = some (0, .ifCond .eq 10, 7, none, [], 0) := rfl
theorem i_RP_exchange_7 : ix_nx mRP_exchange 7 = some (0, .iload_n 2, 8, none, [], 0) := rfl
theorem i_RP_exchange_8 : ix_nx mRP_exchange 8 = some (3, .invokestatic 237, 11, none, [1, 37, 53], 0) := rfl
theorem i_RP_exchange_11 : ix_nx mRP_exchange 11 = some (0, .ifCond .ne 5, 14, none, [], 0) := rfl
theorem i_RP_exchange_14 : ix_nx mRP_exchange 14 = some (0, .iconst (-1), 15, none, [], 0) := rfl
theorem i_RP_exchange_15 : ix_nx mRP_exchange 15 = some (4, .ireturn, 16, none, [], 0) := rfl
theorem i_RP_exchange_16 : ix_nx mRP_exchange 16 = some (0, .iload_n 1, 17, none, [], 0) := rfl
theorem i_RP_exchange_17 : ix_nx mRP_exchange 17 = some (0, .iload_n 2, 18, none, [], 0) := rfl
theorem i_RP_exchange_18 : ix_nx mRP_exchange 18 = some (0, .if_icmp .ne 6, 21, none, [], 0) := rfl
theorem i_RP_exchange_21 : ix_nx mRP_exchange 21 = some (0, .bipush (-2), 23, none, [], 0) := rfl
theorem i_RP_exchange_23 : ix_nx mRP_exchange 23 = some (4, .ireturn, 24, none, [], 0) := rfl
theorem i_RP_exchange_24 : ix_nx mRP_exchange 24 = some (0, .aload_n 0, 25, none, [], 0) := rfl
theorem i_RP_exchange_25 : ix_nx mRP_exchange 25 = some (0, .iload_n 1, 26, none, [], 0) := rfl
theorem i_RP_exchange_26 : ix_nx mRP_exchange 26 = some (0, .iload_n 2, 27, none, [], 0) := rfl
theorem i_RP_exchange_27 : ix_nx mRP_exchange 27 = some (3, .invokevirtual 274, 30, none, [0, 45, 62], 0) := rfl
theorem i_RP_exchange_30 : ix_nx mRP_exchange 30 = some (0, .istore_n 3, 31, none, [], 0) := rfl
theorem i_RP_exchange_31 : ix_nx mRP_exchange 31 = some (0, .iload_n 3, 32, none, [], 0) := rfl
theorem i_RP_exchange_32 : ix_nx mRP_exchange 32 = some (0, .bipush (-6), 34, none, [], 0) := rfl
theorem i_RP_exchange_34 : ix_nx mRP_exchange 34 = some (0, .if_icmp .ne 6, 37, none, [], 0) := rfl
theorem i_RP_exchange_37 : ix_nx mRP_exchange 37 = some (0, .bipush (-5), 39, none, [], 0) := rfl
theorem i_RP_exchange_39 : ix_nx mRP_exchange 39 = some (4, .ireturn, 40, none, [], 0) := rfl
theorem i_RP_exchange_40 : ix_nx mRP_exchange 40 = some (0, .aload_n 0, 41, none, [], 0) := rfl
theorem i_RP_exchange_41 : ix_nx mRP_exchange 41 = some (0, .aload_n 0, 42, none, [], 0) := rfl
theorem i_RP_exchange_42 : ix_nx mRP_exchange 42 = some (1, .getfield 10, 45, none, [0, 0, 2, 71], 0) := rfl
theorem i_RP_exchange_45 : ix_nx mRP_exchange 45 = some (1, .getfield 240, 48, none, [1, 1, 2, 35], 0) := rfl
theorem i_RP_exchange_48 : ix_nx mRP_exchange 48 = some (0, .iload_n 1, 49, none, [], 0) := rfl
theorem i_RP_exchange_49 : ix_nx mRP_exchange 49 = some (1, .aaload, 50, none, [4], 0) := rfl
theorem i_RP_exchange_50 : ix_nx mRP_exchange 50 = some (0, .aload_n 0, 51, none, [], 0) := rfl
theorem i_RP_exchange_51 : ix_nx mRP_exchange 51 = some (1, .getfield 10, 54, none, [0, 0, 2, 71], 0) := rfl
theorem i_RP_exchange_54 : ix_nx mRP_exchange 54 = some (1, .getfield 240, 57, none, [1, 1, 2, 35], 0) := rfl
theorem i_RP_exchange_57 : ix_nx mRP_exchange 57 = some (0, .iload_n 2, 58, none, [], 0) := rfl
theorem i_RP_exchange_58 : ix_nx mRP_exchange 58 = some (1, .aaload, 59, none, [4], 0) := rfl
theorem i_RP_exchange_59 : ix_nx mRP_exchange 59 = some (0, .iload_n 3, 60, none, [], 0) := rfl
theorem i_RP_exchange_60 : ix_nx mRP_exchange 60 = some (3, .invokevirtual 278, 63, none, [0, 47, 65], 0) := rfl
theorem i_RP_exchange_63 : ix_nx mRP_exchange 63 = some (0, .ifCond .eq 7, 66, none, [], 0) := rfl
theorem i_RP_exchange_66 : ix_nx mRP_exchange 66 = some (0, .iload_n 3, 67, none, [], 0) := rfl
theorem i_RP_exchange_67 : ix_nx mRP_exchange 67 = some (0, .goto 5, 70, none, [], 0) := rfl
theorem i_RP_exchange_70 : ix_nx mRP_exchange 70 = some (0, .bipush (-5), 72, none, [], 0) := rfl
theorem i_RP_exchange_72 : ix_nx mRP_exchange 72 = some (4, .ireturn, 73, none, [], 0) := rfl
set_option maxRecDepth 20000 in
set_option maxHeartbeats 1000000 in
theorem e_RP_exchange (a0 : Nat) (x1 : Int32) (x2 : Int32) (h : ixH) : ix_D mRP_exchange 0 [some (.ref a0), some (.int x1), some (.int x2), none] [] h = (ix_M mRP_isSlot [.int x1] h).bind fun r => ix_kZ r fun v2 h1 => if v2 = true then (ix_M mRP_isSlot [.int x2] h1).bind fun r => ix_kZ r fun v4 h3 => if v4 = true then if ¬ x1 = x2 then (ix_M mRP_meetingOf [.ref a0, .int x1, .int x2] h3).bind fun r => ix_kI r fun v6 h5 => if ¬ v6 = (-6) then (ix_gr h5 a0 0 0).bind fun v7 => (ix_gr h5 v7 1 1).bind fun v8 => (ix_aq h5 4 v8 x1).bind fun v9 => (ix_gr h5 a0 0 0).bind fun v10 => (ix_gr h5 v10 1 1).bind fun v11 => (ix_aq h5 4 v11 x2).bind fun v12 => (ix_M mRP_swapTails [.ref a0, .ref v9, .ref v12, .int v6] h5).bind fun r => ix_kZ r fun v14 h13 => if v14 = true then some ([.int v6], h13) else some ([.int (-5)], h13) else some ([.int (-5)], h5) else some ([.int (-2)], h3) else some ([.int (-1)], h3) else some ([.int (-1)], h1) := by
  refine ix_K_px kq_RP_exchange i_RP_exchange_0 rfl rfl ?_
  refine ix_K_callZ (as := [.int x1]) (rest := []) kq_RP_exchange i_RP_exchange_1 rfl kq_RP_isSlot (by decide) rfl rfl (fun v2 h1 => ?_)
  refine ix_K_bz_eq (tgt := 14) kq_RP_exchange i_RP_exchange_4 rfl (by decide) ?_ ?_
  · refine ix_K_px kq_RP_exchange i_RP_exchange_7 rfl rfl ?_
    refine ix_K_callZ (as := [.int x2]) (rest := []) kq_RP_exchange i_RP_exchange_8 rfl kq_RP_isSlot (by decide) rfl rfl (fun v4 h3 => ?_)
    refine ix_K_bz_ne (tgt := 16) kq_RP_exchange i_RP_exchange_11 rfl (by decide) ?_ ?_
    · refine ix_K_px kq_RP_exchange i_RP_exchange_16 rfl rfl ?_
      refine ix_K_px kq_RP_exchange i_RP_exchange_17 rfl rfl ?_
      refine ix_K_ic_ne (tgt := 24) kq_RP_exchange i_RP_exchange_18 rfl (by decide) ?_ ?_
      · refine ix_K_px kq_RP_exchange i_RP_exchange_24 rfl rfl ?_
        refine ix_K_px kq_RP_exchange i_RP_exchange_25 rfl rfl ?_
        refine ix_K_px kq_RP_exchange i_RP_exchange_26 rfl rfl ?_
        refine ix_K_callI (as := [.ref a0, .int x1, .int x2]) (rest := []) kq_RP_exchange i_RP_exchange_27 rfl kq_RP_meetingOf (by decide) rfl (Or.inl rfl) (fun v6 h5 => ?_)
        refine ix_K_si (L2 := [some (.ref a0), some (.int x1), some (.int x2), some (.int v6)]) kq_RP_exchange i_RP_exchange_30 rfl (Or.inr ⟨_, rfl, rfl⟩) (Nat.le_of_ble_eq_true rfl) rfl ?_
        refine ix_K_px kq_RP_exchange i_RP_exchange_31 rfl rfl ?_
        refine ix_K_cb kq_RP_exchange i_RP_exchange_32 rfl kcb_m6 ?_
        refine ix_K_ic_ne (tgt := 40) kq_RP_exchange i_RP_exchange_34 rfl (by decide) ?_ ?_
        · refine ix_K_px kq_RP_exchange i_RP_exchange_40 rfl rfl ?_
          refine ix_K_px kq_RP_exchange i_RP_exchange_41 rfl rfl ?_
          refine ix_K_gr kq_RP_exchange i_RP_exchange_42 rfl (fun v7 => ?_)
          refine ix_K_gr kq_RP_exchange i_RP_exchange_45 rfl (fun v8 => ?_)
          refine ix_K_px kq_RP_exchange i_RP_exchange_48 rfl rfl ?_
          refine ix_K_aq kq_RP_exchange i_RP_exchange_49 rfl (fun v9 => ?_)
          refine ix_K_px kq_RP_exchange i_RP_exchange_50 rfl rfl ?_
          refine ix_K_gr kq_RP_exchange i_RP_exchange_51 rfl (fun v10 => ?_)
          refine ix_K_gr kq_RP_exchange i_RP_exchange_54 rfl (fun v11 => ?_)
          refine ix_K_px kq_RP_exchange i_RP_exchange_57 rfl rfl ?_
          refine ix_K_aq kq_RP_exchange i_RP_exchange_58 rfl (fun v12 => ?_)
          refine ix_K_px kq_RP_exchange i_RP_exchange_59 rfl rfl ?_
          refine ix_K_callZ (as := [.ref a0, .ref v9, .ref v12, .int v6]) (rest := []) kq_RP_exchange i_RP_exchange_60 rfl kq_RP_swapTails (by decide) rfl rfl (fun v14 h13 => ?_)
          refine ix_K_bz_eq (tgt := 70) kq_RP_exchange i_RP_exchange_63 rfl (by decide) ?_ ?_
          · refine ix_K_px kq_RP_exchange i_RP_exchange_66 rfl rfl ?_
            refine ix_K_goto (tgt := 72) kq_RP_exchange i_RP_exchange_67 rfl (by decide) ?_
            exact ix_D_ret kq_RP_exchange i_RP_exchange_72 (ix_rtI rfl _)
          · refine ix_K_cb kq_RP_exchange i_RP_exchange_70 rfl kcb_m5 ?_
            exact ix_D_ret kq_RP_exchange i_RP_exchange_72 (ix_rtI rfl _)
        · refine ix_K_cb kq_RP_exchange i_RP_exchange_37 rfl kcb_m5 ?_
          exact ix_D_ret kq_RP_exchange i_RP_exchange_39 (ix_rtI rfl _)
      · refine ix_K_cb kq_RP_exchange i_RP_exchange_21 rfl kcb_m2 ?_
        exact ix_D_ret kq_RP_exchange i_RP_exchange_23 (ix_rtI rfl _)
    · refine ix_K_ci kq_RP_exchange i_RP_exchange_14 rfl kci_m1 ?_
      exact ix_D_ret kq_RP_exchange i_RP_exchange_15 (ix_rtI rfl _)
  · refine ix_K_ci kq_RP_exchange i_RP_exchange_14 rfl kci_m1 ?_
    exact ix_D_ret kq_RP_exchange i_RP_exchange_15 (ix_rtI rfl _)
theorem x_RP_exchange {a0 : Nat} {x1 : Int32} {x2 : Int32} {h h1 : ixH} {v : Int32} (hr : ix_rc h a0 = some 0) (hd : ix_D mRP_exchange 0 [some (.ref a0), some (.int x1), some (.int x2), none] [] h = some ([.int v], h1)) : ix_M mRP_exchange [.ref a0, .int x1, .int x2] h = some ([.int v], h1) := ix_M_of (ix_ent_i kq_RP_exchange rfl hr rfl (Nat.le_of_ble_eq_true rfl) rfl) hd (ix_okrI (Or.inl rfl) v)
theorem i_RP_swapTails_0 : ix_nx mRP_swapTails 0 = some (0, .aload_n 1, 1, none, [], 0) := rfl
theorem i_RP_swapTails_1 : ix_nx mRP_swapTails 1 = some (0, .iload_n 3, 2, none, [], 0) := rfl
theorem i_RP_swapTails_2 : ix_nx mRP_swapTails 2 = some (3, .invokevirtual 328, 5, none, [0, 86, 66], 0) := rfl
theorem i_RP_swapTails_5 : ix_nx mRP_swapTails 5 = some (0, .iconst 1, 6, none, [], 0) := rfl
theorem i_RP_swapTails_6 : ix_nx mRP_swapTails 6 = some (0, .iadd, 7, none, [], 0) := rfl
theorem i_RP_swapTails_7 : ix_nx mRP_swapTails 7 = some (0, .istore 4, 9, none, [], 0) := rfl
theorem i_RP_swapTails_9 : ix_nx mRP_swapTails 9 = some (0, .aload_n 2, 10, none, [], 0) := rfl
theorem i_RP_swapTails_10 : ix_nx mRP_swapTails 10 = some (0, .iload_n 3, 11, none, [], 0) := rfl
theorem i_RP_swapTails_11 : ix_nx mRP_swapTails 11 = some (3, .invokevirtual 328, 14, none, [0, 86, 66], 0) := rfl
theorem i_RP_swapTails_14 : ix_nx mRP_swapTails 14 = some (0, .iconst 1, 15, none, [], 0) := rfl
theorem i_RP_swapTails_15 : ix_nx mRP_swapTails 15 = some (0, .iadd, 16, none, [], 0) := rfl
theorem i_RP_swapTails_16 : ix_nx mRP_swapTails 16 = some (0, .istore 5, 18, none, [], 0) := rfl
theorem i_RP_swapTails_18 : ix_nx mRP_swapTails 18 = some (0, .aload_n 1, 19, none, [], 0) := rfl
theorem i_RP_swapTails_19 : ix_nx mRP_swapTails 19 = some (0, .iload 4, 21, none, [], 0) := rfl
theorem i_RP_swapTails_21 : ix_nx mRP_swapTails 21 = some (3, .invokevirtual 331, 24, none, [0, 81, 67], 0) := rfl
theorem i_RP_swapTails_24 : ix_nx mRP_swapTails 24 = some (0, .lstore 6, 26, none, [], 0) := rfl
theorem i_RP_swapTails_26 : ix_nx mRP_swapTails 26 = some (0, .aload_n 2, 27, none, [], 0) := rfl
theorem i_RP_swapTails_27 : ix_nx mRP_swapTails 27 = some (0, .iload 5, 29, none, [], 0) := rfl
theorem i_RP_swapTails_29 : ix_nx mRP_swapTails 29 = some (3, .invokevirtual 331, 32, none, [0, 81, 67], 0) := rfl
theorem i_RP_swapTails_32 : ix_nx mRP_swapTails 32 = some (0, .lstore 8, 34, none, [], 0) := rfl
theorem i_RP_swapTails_34 : ix_nx mRP_swapTails 34 = some (0, .lload 6, 36, none, [], 0) := rfl
theorem i_RP_swapTails_36 : ix_nx mRP_swapTails 36 = some (0, .aload_n 2, 37, none, [], 0) := rfl
theorem i_RP_swapTails_37 : ix_nx mRP_swapTails 37 = some (1, .getfield 244, 40, none, [3, 2, 1, 29], 0) := rfl
theorem i_RP_swapTails_40 : ix_nx mRP_swapTails 40 = some (0, .land, 41, none, [], 0) := rfl
theorem i_RP_swapTails_41 : ix_nx mRP_swapTails 41 = some (0, .lload 8, 43, none, [], 0) := rfl
theorem i_RP_swapTails_43 : ix_nx mRP_swapTails 43 = some (0, .ldc2_w 102, 46, none, [1], -1) := rfl
theorem i_RP_swapTails_46 : ix_nx mRP_swapTails 46 = some (0, .lxor, 47, none, [], 0) := rfl
theorem i_RP_swapTails_47 : ix_nx mRP_swapTails 47 = some (0, .land, 48, none, [], 0) := rfl
theorem i_RP_swapTails_48 : ix_nx mRP_swapTails 48 = some (0, .lconst 0, 49, none, [], 0) := rfl
theorem i_RP_swapTails_49 : ix_nx mRP_swapTails 49 = some (0, .lcmp, 50, none, [], 0) := rfl
theorem i_RP_swapTails_50 : ix_nx mRP_swapTails 50 = some (0, .ifCond .ne 22, 53, none, [], 0) := rfl
theorem i_RP_swapTails_53 : ix_nx mRP_swapTails 53 = some (0, .lload 8, 55, none, [], 0) := rfl
theorem i_RP_swapTails_55 : ix_nx mRP_swapTails 55 = some (0, .aload_n 1, 56, none, [], 0) := rfl
theorem i_RP_swapTails_56 : ix_nx mRP_swapTails 56 = some (1, .getfield 244, 59, none, [3, 2, 1, 29], 0) := rfl
theorem i_RP_swapTails_59 : ix_nx mRP_swapTails 59 = some (0, .land, 60, none, [], 0) := rfl
theorem i_RP_swapTails_60 : ix_nx mRP_swapTails 60 = some (0, .lload 6, 62, none, [], 0) := rfl
theorem i_RP_swapTails_62 : ix_nx mRP_swapTails 62 = some (0, .ldc2_w 102, 65, none, [1], -1) := rfl
theorem i_RP_swapTails_65 : ix_nx mRP_swapTails 65 = some (0, .lxor, 66, none, [], 0) := rfl
theorem i_RP_swapTails_66 : ix_nx mRP_swapTails 66 = some (0, .land, 67, none, [], 0) := rfl
theorem i_RP_swapTails_67 : ix_nx mRP_swapTails 67 = some (0, .lconst 0, 68, none, [], 0) := rfl
theorem i_RP_swapTails_68 : ix_nx mRP_swapTails 68 = some (0, .lcmp, 69, none, [], 0) := rfl
theorem i_RP_swapTails_69 : ix_nx mRP_swapTails 69 = some (0, .ifCond .eq 7, 72, none, [], 0) := rfl
theorem i_RP_swapTails_72 : ix_nx mRP_swapTails 72 = some (0, .iconst 1, 73, none, [], 0) := rfl
theorem i_RP_swapTails_73 : ix_nx mRP_swapTails 73 = some (0, .goto 4, 76, none, [], 0) := rfl
theorem i_RP_swapTails_76 : ix_nx mRP_swapTails 76 = some (0, .iconst 0, 77, none, [], 0) := rfl
theorem i_RP_swapTails_77 : ix_nx mRP_swapTails 77 = some (0, .istore 10, 79, some [true, true, true, false, true, true, false, false, false, false, false], [], 0) := rfl
theorem i_RP_swapTails_79 : ix_nx mRP_swapTails 79 = some (0, .iload 10, 81, none, [], 0) := rfl
theorem i_RP_swapTails_81 : ix_nx mRP_swapTails 81 = some (0, .ifCond .eq 5, 84, none, [], 0) := rfl
theorem i_RP_swapTails_84 : ix_nx mRP_swapTails 84 = some (0, .iconst 0, 85, none, [], 0) := rfl
theorem i_RP_swapTails_85 : ix_nx mRP_swapTails 85 = some (4, .ireturn, 86, none, [], 0) := rfl
theorem i_RP_swapTails_86 : ix_nx mRP_swapTails 86 = some (0, .aload_n 0, 87, none, [], 0) := rfl
theorem i_RP_swapTails_87 : ix_nx mRP_swapTails 87 = some (1, .getfield 62, 90, none, [0, 8, 2, 79], 0) := rfl
theorem i_RP_swapTails_90 : ix_nx mRP_swapTails 90 = some (0, .aload_n 1, 91, none, [], 0) := rfl
theorem i_RP_swapTails_91 : ix_nx mRP_swapTails 91 = some (3, .invokevirtual 334, 94, none, [0, 87, 68], 0) := rfl
theorem i_RP_swapTails_94 : ix_nx mRP_swapTails 94 = some (0, .aload_n 1, 95, none, [], 0) := rfl
theorem i_RP_swapTails_95 : ix_nx mRP_swapTails 95 = some (0, .iload 4, 97, none, [], 0) := rfl
theorem i_RP_swapTails_97 : ix_nx mRP_swapTails 97 = some (3, .invokevirtual 254, 100, none, [0, 80, 56], 0) := rfl
theorem i_RP_swapTails_100 : ix_nx mRP_swapTails 100 = some (0, .aload_n 1, 101, none, [], 0) := rfl
theorem i_RP_swapTails_101 : ix_nx mRP_swapTails 101 = some (0, .aload_n 2, 102, none, [], 0) := rfl
theorem i_RP_swapTails_102 : ix_nx mRP_swapTails 102 = some (0, .iload 5, 104, none, [], 0) := rfl
theorem i_RP_swapTails_104 : ix_nx mRP_swapTails 104 = some (3, .invokevirtual 337, 107, none, [0, 88, 69], 0) := rfl
theorem i_RP_swapTails_107 : ix_nx mRP_swapTails 107 = some (0, .aload_n 2, 108, none, [], 0) := rfl
theorem i_RP_swapTails_108 : ix_nx mRP_swapTails 108 = some (0, .iload 5, 110, none, [], 0) := rfl
theorem i_RP_swapTails_110 : ix_nx mRP_swapTails 110 = some (3, .invokevirtual 254, 113, none, [0, 80, 56], 0) := rfl
theorem i_RP_swapTails_113 : ix_nx mRP_swapTails 113 = some (0, .aload_n 2, 114, none, [], 0) := rfl
theorem i_RP_swapTails_114 : ix_nx mRP_swapTails 114 = some (0, .aload_n 0, 115, none, [], 0) := rfl
theorem i_RP_swapTails_115 : ix_nx mRP_swapTails 115 = some (1, .getfield 62, 118, none, [0, 8, 2, 79], 0) := rfl
theorem i_RP_swapTails_118 : ix_nx mRP_swapTails 118 = some (0, .iload 4, 120, none, [], 0) := rfl
theorem i_RP_swapTails_120 : ix_nx mRP_swapTails 120 = some (3, .invokevirtual 337, 123, none, [0, 88, 69], 0) := rfl
theorem i_RP_swapTails_123 : ix_nx mRP_swapTails 123 = some (0, .iconst 1, 124, none, [], 0) := rfl
theorem i_RP_swapTails_124 : ix_nx mRP_swapTails 124 = some (4, .ireturn, 125, none, [], 0) := rfl
noncomputable def l_RP_swapTails_77 (a0 : Nat) (a1 : Nat) (a2 : Nat) (x4 : Int32) (x5 : Int32) (sb0 : Bool) (h : ixH) : Option (List Value × ixH) := ix_D mRP_swapTails 77 [some (.ref a0), some (.ref a1), some (.ref a2), none, some (.int x4), some (.int x5), none, none, none, none, none] [.int (ix_bi sb0)] h
set_option maxRecDepth 20000 in
set_option maxHeartbeats 1000000 in
theorem e_RP_swapTails_77 (a0 : Nat) (a1 : Nat) (a2 : Nat) (x4 : Int32) (x5 : Int32) (sb0 : Bool) (h : ixH) : l_RP_swapTails_77 a0 a1 a2 x4 x5 sb0 h = if sb0 = true then some ([.int (ix_bi false)], h) else (ix_gr h a0 0 8).bind fun v1 => (ix_M mRt_copyFrom [.ref v1, .ref a1] h).bind fun r => ix_kV r fun h2 => (ix_M mRt_keep [.ref a1, .int x4] h2).bind fun r => ix_kV r fun h3 => (ix_M mRt_appendFrom [.ref a1, .ref a2, .int x5] h3).bind fun r => ix_kV r fun h4 => (ix_M mRt_keep [.ref a2, .int x5] h4).bind fun r => ix_kV r fun h5 => (ix_gr h5 a0 0 8).bind fun v6 => (ix_M mRt_appendFrom [.ref a2, .ref v6, .int x4] h5).bind fun r => ix_kV r fun h7 => some ([.int (ix_bi true)], h7) := by
  unfold l_RP_swapTails_77
  refine ix_K_si (L2 := [some (.ref a0), some (.ref a1), some (.ref a2), none, some (.int x4), some (.int x5), none, none, none, none, some (.int (ix_bi sb0))]) kq_RP_swapTails i_RP_swapTails_77 rfl (Or.inl rfl) (Nat.le_of_ble_eq_true rfl) rfl ?_
  refine ix_K_px kq_RP_swapTails i_RP_swapTails_79 rfl rfl ?_
  refine ix_K_bz_eq (tgt := 86) kq_RP_swapTails i_RP_swapTails_81 rfl (by decide) ?_ ?_
  · refine ix_K_ci kq_RP_swapTails i_RP_swapTails_84 rfl kci_0 ?_
    exact ix_D_ret kq_RP_swapTails i_RP_swapTails_85 (ix_rtZ rfl false)
  · refine ix_K_px kq_RP_swapTails i_RP_swapTails_86 rfl rfl ?_
    refine ix_K_gr kq_RP_swapTails i_RP_swapTails_87 rfl (fun v1 => ?_)
    refine ix_K_px kq_RP_swapTails i_RP_swapTails_90 rfl rfl ?_
    refine ix_K_callV (as := [.ref v1, .ref a1]) (rest := []) kq_RP_swapTails i_RP_swapTails_91 rfl kq_Rt_copyFrom (by decide) rfl rfl (fun h2 => ?_)
    refine ix_K_px kq_RP_swapTails i_RP_swapTails_94 rfl rfl ?_
    refine ix_K_px kq_RP_swapTails i_RP_swapTails_95 rfl rfl ?_
    refine ix_K_callV (as := [.ref a1, .int x4]) (rest := []) kq_RP_swapTails i_RP_swapTails_97 rfl kq_Rt_keep (by decide) rfl rfl (fun h3 => ?_)
    refine ix_K_px kq_RP_swapTails i_RP_swapTails_100 rfl rfl ?_
    refine ix_K_px kq_RP_swapTails i_RP_swapTails_101 rfl rfl ?_
    refine ix_K_px kq_RP_swapTails i_RP_swapTails_102 rfl rfl ?_
    refine ix_K_callV (as := [.ref a1, .ref a2, .int x5]) (rest := []) kq_RP_swapTails i_RP_swapTails_104 rfl kq_Rt_appendFrom (by decide) rfl rfl (fun h4 => ?_)
    refine ix_K_px kq_RP_swapTails i_RP_swapTails_107 rfl rfl ?_
    refine ix_K_px kq_RP_swapTails i_RP_swapTails_108 rfl rfl ?_
    refine ix_K_callV (as := [.ref a2, .int x5]) (rest := []) kq_RP_swapTails i_RP_swapTails_110 rfl kq_Rt_keep (by decide) rfl rfl (fun h5 => ?_)
    refine ix_K_px kq_RP_swapTails i_RP_swapTails_113 rfl rfl ?_
    refine ix_K_px kq_RP_swapTails i_RP_swapTails_114 rfl rfl ?_
    refine ix_K_gr kq_RP_swapTails i_RP_swapTails_115 rfl (fun v6 => ?_)
    refine ix_K_px kq_RP_swapTails i_RP_swapTails_118 rfl rfl ?_
    refine ix_K_callV (as := [.ref a2, .ref v6, .int x4]) (rest := []) kq_RP_swapTails i_RP_swapTails_120 rfl kq_Rt_appendFrom (by decide) rfl rfl (fun h7 => ?_)
    refine ix_K_ci kq_RP_swapTails i_RP_swapTails_123 rfl kci_1 ?_
    exact ix_D_ret kq_RP_swapTails i_RP_swapTails_124 (ix_rtZ rfl true)
set_option maxRecDepth 20000 in
set_option maxHeartbeats 1000000 in
theorem e_RP_swapTails (a0 : Nat) (a1 : Nat) (a2 : Nat) (x3 : Int32) (h : ixH) : ix_D mRP_swapTails 0 [some (.ref a0), some (.ref a1), some (.ref a2), some (.int x3), none, none, none, none, none, none, none] [] h = (ix_M mRt_indexOf [.ref a1, .int x3] h).bind fun r => ix_kI r fun v2 h1 => (ix_M mRt_indexOf [.ref a2, .int x3] h1).bind fun r => ix_kI r fun v4 h3 => (ix_M mRt_firstCells [.ref a1, .int (v2 + 1)] h3).bind fun r => ix_kL r fun v6 h5 => (ix_M mRt_firstCells [.ref a2, .int (v4 + 1)] h5).bind fun r => ix_kL r fun v8 h7 => (ix_gl h7 a2 3 2).bind fun v9 => if ((v6 &&& v9) &&& (v8 ^^^ (-1))) = 0 then (ix_gl h7 a1 3 2).bind fun v10 => if ((v8 &&& v10) &&& (v6 ^^^ (-1))) = 0 then l_RP_swapTails_77 a0 a1 a2 (v2 + 1) (v4 + 1) false h7 else l_RP_swapTails_77 a0 a1 a2 (v2 + 1) (v4 + 1) true h7 else l_RP_swapTails_77 a0 a1 a2 (v2 + 1) (v4 + 1) true h7 := by
  refine ix_K_px kq_RP_swapTails i_RP_swapTails_0 rfl rfl ?_
  refine ix_K_px kq_RP_swapTails i_RP_swapTails_1 rfl rfl ?_
  refine ix_K_callI (as := [.ref a1, .int x3]) (rest := []) kq_RP_swapTails i_RP_swapTails_2 rfl kq_Rt_indexOf (by decide) rfl (Or.inl rfl) (fun v2 h1 => ?_)
  refine ix_K_ci kq_RP_swapTails i_RP_swapTails_5 rfl kci_1 ?_
  refine ix_K_px kq_RP_swapTails i_RP_swapTails_6 rfl rfl ?_
  refine ix_K_si (L2 := [some (.ref a0), some (.ref a1), some (.ref a2), some (.int x3), some (.int (v2 + 1)), none, none, none, none, none, none]) kq_RP_swapTails i_RP_swapTails_7 rfl (Or.inl rfl) (Nat.le_of_ble_eq_true rfl) rfl ?_
  refine ix_K_px kq_RP_swapTails i_RP_swapTails_9 rfl rfl ?_
  refine ix_K_px kq_RP_swapTails i_RP_swapTails_10 rfl rfl ?_
  refine ix_K_callI (as := [.ref a2, .int x3]) (rest := []) kq_RP_swapTails i_RP_swapTails_11 rfl kq_Rt_indexOf (by decide) rfl (Or.inl rfl) (fun v4 h3 => ?_)
  refine ix_K_ci kq_RP_swapTails i_RP_swapTails_14 rfl kci_1 ?_
  refine ix_K_px kq_RP_swapTails i_RP_swapTails_15 rfl rfl ?_
  refine ix_K_si (L2 := [some (.ref a0), some (.ref a1), some (.ref a2), some (.int x3), some (.int (v2 + 1)), some (.int (v4 + 1)), none, none, none, none, none]) kq_RP_swapTails i_RP_swapTails_16 rfl (Or.inl rfl) (Nat.le_of_ble_eq_true rfl) rfl ?_
  refine ix_K_px kq_RP_swapTails i_RP_swapTails_18 rfl rfl ?_
  refine ix_K_px kq_RP_swapTails i_RP_swapTails_19 rfl rfl ?_
  refine ix_K_callL (as := [.ref a1, .int (v2 + 1)]) (rest := []) kq_RP_swapTails i_RP_swapTails_21 rfl kq_Rt_firstCells (by decide) rfl rfl (fun v6 h5 => ?_)
  refine ix_K_sl (L2 := [some (.ref a0), some (.ref a1), some (.ref a2), some (.int x3), some (.int (v2 + 1)), some (.int (v4 + 1)), some (.long v6), none, none, none, none]) kq_RP_swapTails i_RP_swapTails_24 rfl (Or.inl rfl) (Nat.le_of_ble_eq_true rfl) rfl ?_
  refine ix_K_px kq_RP_swapTails i_RP_swapTails_26 rfl rfl ?_
  refine ix_K_px kq_RP_swapTails i_RP_swapTails_27 rfl rfl ?_
  refine ix_K_callL (as := [.ref a2, .int (v4 + 1)]) (rest := []) kq_RP_swapTails i_RP_swapTails_29 rfl kq_Rt_firstCells (by decide) rfl rfl (fun v8 h7 => ?_)
  refine ix_K_sl (L2 := [some (.ref a0), some (.ref a1), some (.ref a2), some (.int x3), some (.int (v2 + 1)), some (.int (v4 + 1)), some (.long v6), none, some (.long v8), none, none]) kq_RP_swapTails i_RP_swapTails_32 rfl (Or.inl rfl) (Nat.le_of_ble_eq_true rfl) rfl ?_
  refine ix_K_px kq_RP_swapTails i_RP_swapTails_34 rfl rfl ?_
  refine ix_K_px kq_RP_swapTails i_RP_swapTails_36 rfl rfl ?_
  refine ix_K_gl kq_RP_swapTails i_RP_swapTails_37 rfl (fun v9 => ?_)
  refine ix_K_px kq_RP_swapTails i_RP_swapTails_40 rfl rfl ?_
  refine ix_K_px kq_RP_swapTails i_RP_swapTails_41 rfl rfl ?_
  refine ix_K_c2 kq_RP_swapTails i_RP_swapTails_43 rfl kc2_m1 ?_
  refine ix_K_px kq_RP_swapTails i_RP_swapTails_46 rfl rfl ?_
  refine ix_K_px kq_RP_swapTails i_RP_swapTails_47 rfl rfl ?_
  refine ix_K_cl kq_RP_swapTails i_RP_swapTails_48 rfl kcl_0 ?_
  refine ix_K_px kq_RP_swapTails i_RP_swapTails_49 rfl rfl ?_
  refine ix_K_lc_ne (tgt := 72) kq_RP_swapTails i_RP_swapTails_50 rfl (by decide) ?_ ?_
  · refine ix_K_px kq_RP_swapTails i_RP_swapTails_53 rfl rfl ?_
    refine ix_K_px kq_RP_swapTails i_RP_swapTails_55 rfl rfl ?_
    refine ix_K_gl kq_RP_swapTails i_RP_swapTails_56 rfl (fun v10 => ?_)
    refine ix_K_px kq_RP_swapTails i_RP_swapTails_59 rfl rfl ?_
    refine ix_K_px kq_RP_swapTails i_RP_swapTails_60 rfl rfl ?_
    refine ix_K_c2 kq_RP_swapTails i_RP_swapTails_62 rfl kc2_m1 ?_
    refine ix_K_px kq_RP_swapTails i_RP_swapTails_65 rfl rfl ?_
    refine ix_K_px kq_RP_swapTails i_RP_swapTails_66 rfl rfl ?_
    refine ix_K_cl kq_RP_swapTails i_RP_swapTails_67 rfl kcl_0 ?_
    refine ix_K_px kq_RP_swapTails i_RP_swapTails_68 rfl rfl ?_
    refine ix_K_lc_eq (tgt := 76) kq_RP_swapTails i_RP_swapTails_69 rfl (by decide) ?_ ?_
    · refine ix_K_ci kq_RP_swapTails i_RP_swapTails_76 rfl kci_0 ?_
      exact ix_D_cut i_RP_swapTails_77 rfl
    · refine ix_K_ci kq_RP_swapTails i_RP_swapTails_72 rfl kci_1 ?_
      refine ix_K_goto (tgt := 77) kq_RP_swapTails i_RP_swapTails_73 rfl (by decide) ?_
      exact ix_D_cut i_RP_swapTails_77 rfl
  · refine ix_K_ci kq_RP_swapTails i_RP_swapTails_72 rfl kci_1 ?_
    refine ix_K_goto (tgt := 77) kq_RP_swapTails i_RP_swapTails_73 rfl (by decide) ?_
    exact ix_D_cut i_RP_swapTails_77 rfl
theorem x_RP_swapTails {a0 : Nat} {a1 : Nat} {a2 : Nat} {x3 : Int32} {h h1 : ixH} {v : Bool} (hr : ix_rc h a0 = some 0) (hd : ix_D mRP_swapTails 0 [some (.ref a0), some (.ref a1), some (.ref a2), some (.int x3), none, none, none, none, none, none, none] [] h = some ([.int (ix_bi v)], h1)) : ix_M mRP_swapTails [.ref a0, .ref a1, .ref a2, .int x3] h = some ([.int (ix_bi v)], h1) := ix_M_of (ix_ent_i kq_RP_swapTails rfl hr rfl (Nat.le_of_ble_eq_true rfl) rfl) hd (ix_okrZ rfl v)
theorem i_RP_check_0 : ix_nx mRP_check 0 = some (0, .iload_n 1, 1, none, [], 0) := rfl
theorem i_RP_check_1 : ix_nx mRP_check 1 = some (0, .ifCond .lt 9, 4, none, [], 0) := rfl
theorem i_RP_check_4 : ix_nx mRP_check 4 = some (0, .iload_n 1, 5, none, [], 0) := rfl
theorem i_RP_check_5 : ix_nx mRP_check 5 = some (0, .bipush 32, 7, none, [], 0) := rfl
theorem i_RP_check_7 : ix_nx mRP_check 7 = some (0, .if_icmp .lt 5, 10, none, [], 0) := rfl
theorem i_RP_check_10 : ix_nx mRP_check 10 = some (0, .iconst (-1), 11, none, [], 0) := rfl
theorem i_RP_check_11 : ix_nx mRP_check 11 = some (4, .ireturn, 12, none, [], 0) := rfl
theorem i_RP_check_12 : ix_nx mRP_check 12 = some (0, .iload_n 2, 13, none, [], 0) := rfl
theorem i_RP_check_13 : ix_nx mRP_check 13 = some (3, .invokestatic 91, 16, none, [1, 5, 12], 0) := rfl
theorem i_RP_check_16 : ix_nx mRP_check 16 = some (0, .ifCond .ne 6, 19, none, [], 0) := rfl
theorem i_RP_check_19 : ix_nx mRP_check 19 = some (0, .bipush (-2), 21, none, [], 0) := rfl
theorem i_RP_check_21 : ix_nx mRP_check 21 = some (4, .ireturn, 22, none, [], 0) := rfl
theorem i_RP_check_22 : ix_nx mRP_check 22 = some (0, .iload_n 2, 23, none, [], 0) := rfl
theorem i_RP_check_23 : ix_nx mRP_check 23 = some (0, .ifCond .ne 30, 26, none, [], 0) := rfl
theorem i_RP_check_26 : ix_nx mRP_check 26 = some (0, .aload_n 0, 27, none, [], 0) := rfl
theorem i_RP_check_27 : ix_nx mRP_check 27 = some (1, .getfield 10, 30, none, [0, 0, 2, 71], 0) := rfl
theorem i_RP_check_30 : ix_nx mRP_check 30 = some (1, .getfield 78, 33, none, [1, 0, 2, 31], 0) := rfl
theorem i_RP_check_33 : ix_nx mRP_check 33 = some (0, .iconst 3, 34, none, [], 0) := rfl
theorem i_RP_check_34 : ix_nx mRP_check 34 = some (3, .invokevirtual 230, 37, none, [0, 73, 30], 0) := rfl
theorem i_RP_check_37 : ix_nx mRP_check 37 = some (0, .aload_n 0, 38, none, [], 0) := rfl
theorem i_RP_check_38 : ix_nx mRP_check 38 = some (0, .iload_n 1, 39, none, [], 0) := rfl
theorem i_RP_check_39 : ix_nx mRP_check 39 = some (3, .invokevirtual 282, 42, none, [0, 49, 70], 0) := rfl
theorem i_RP_check_42 : ix_nx mRP_check 42 = some (0, .ldc2_w 102, 45, none, [1], -1) := rfl
theorem i_RP_check_45 : ix_nx mRP_check 45 = some (0, .lxor, 46, none, [], 0) := rfl
theorem i_RP_check_46 : ix_nx mRP_check 46 = some (0, .land, 47, none, [], 0) := rfl
theorem i_RP_check_47 : ix_nx mRP_check 47 = some (3, .invokestatic 104, 50, none, [1, 6, 14], 0) := rfl
theorem i_RP_check_50 : ix_nx mRP_check 50 = some (0, .goto 11, 53, none, [], 0) := rfl
theorem i_RP_check_53 : ix_nx mRP_check 53 = some (0, .aload_n 0, 54, none, [], 0) := rfl
theorem i_RP_check_54 : ix_nx mRP_check 54 = some (0, .iload_n 1, 55, none, [], 0) := rfl
theorem i_RP_check_55 : ix_nx mRP_check 55 = some (3, .invokevirtual 285, 58, none, [0, 50, 71], 0) := rfl
theorem i_RP_check_58 : ix_nx mRP_check 58 = some (3, .invokestatic 125, 61, none, [1, 13, 20], 0) := rfl
theorem i_RP_check_61 : ix_nx mRP_check 61 = some (4, .ireturn, 62, none, [], 0) := rfl
set_option maxRecDepth 20000 in
set_option maxHeartbeats 1000000 in
theorem e_RP_check (a0 : Nat) (x1 : Int32) (x2 : Int32) (h : ixH) : ix_D mRP_check 0 [some (.ref a0), some (.int x1), some (.int x2)] [] h = if x1 < 0 then some ([.int (-1)], h) else if x1 < 32 then (ix_M mRP_isFlag [.int x2] h).bind fun r => ix_kZ r fun v2 h1 => if v2 = true then if ¬ x2 = 0 then (ix_M mRP_areProof [.ref a0, .int x1] h1).bind fun r => ix_kZ r fun v4 h3 => (ix_M mRP_flag [.int (ix_bi v4)] h3).bind fun r => ix_kI r fun v6 h5 => some ([.int v6], h5) else (ix_gr h1 a0 0 0).bind fun v7 => (ix_gr h1 v7 1 0).bind fun v8 => (ix_M mGr_openWith [.ref v8, .int 3] h1).bind fun r => ix_kL r fun v10 h9 => (ix_M mRP_cellsOn [.ref a0, .int x1] h9).bind fun r => ix_kL r fun v12 h11 => (ix_M mRP_size [.long (v10 &&& (v12 ^^^ (-1)))] h11).bind fun r => ix_kI r fun v14 h13 => some ([.int v14], h13) else some ([.int (-2)], h1) else some ([.int (-1)], h) := by
  refine ix_K_px kq_RP_check i_RP_check_0 rfl rfl ?_
  refine ix_K_if_lt (tgt := 10) kq_RP_check i_RP_check_1 rfl (by decide) ?_ ?_
  · refine ix_K_ci kq_RP_check i_RP_check_10 rfl kci_m1 ?_
    exact ix_D_ret kq_RP_check i_RP_check_11 (ix_rtI rfl _)
  · refine ix_K_px kq_RP_check i_RP_check_4 rfl rfl ?_
    refine ix_K_cb kq_RP_check i_RP_check_5 rfl kcb_32 ?_
    refine ix_K_ic_lt (tgt := 12) kq_RP_check i_RP_check_7 rfl (by decide) ?_ ?_
    · refine ix_K_px kq_RP_check i_RP_check_12 rfl rfl ?_
      refine ix_K_callZ (as := [.int x2]) (rest := []) kq_RP_check i_RP_check_13 rfl kq_RP_isFlag (by decide) rfl rfl (fun v2 h1 => ?_)
      refine ix_K_bz_ne (tgt := 22) kq_RP_check i_RP_check_16 rfl (by decide) ?_ ?_
      · refine ix_K_px kq_RP_check i_RP_check_22 rfl rfl ?_
        refine ix_K_if_ne (tgt := 53) kq_RP_check i_RP_check_23 rfl (by decide) ?_ ?_
        · refine ix_K_px kq_RP_check i_RP_check_53 rfl rfl ?_
          refine ix_K_px kq_RP_check i_RP_check_54 rfl rfl ?_
          refine ix_K_callZ (as := [.ref a0, .int x1]) (rest := []) kq_RP_check i_RP_check_55 rfl kq_RP_areProof (by decide) rfl rfl (fun v4 h3 => ?_)
          refine ix_K_callI (as := [.int (ix_bi v4)]) (rest := []) kq_RP_check i_RP_check_58 rfl kq_RP_flag (by decide) rfl (Or.inl rfl) (fun v6 h5 => ?_)
          exact ix_D_ret kq_RP_check i_RP_check_61 (ix_rtI rfl _)
        · refine ix_K_px kq_RP_check i_RP_check_26 rfl rfl ?_
          refine ix_K_gr kq_RP_check i_RP_check_27 rfl (fun v7 => ?_)
          refine ix_K_gr kq_RP_check i_RP_check_30 rfl (fun v8 => ?_)
          refine ix_K_ci kq_RP_check i_RP_check_33 rfl kci_3 ?_
          refine ix_K_callL (as := [.ref v8, .int 3]) (rest := []) kq_RP_check i_RP_check_34 rfl kq_Gr_openWith (by decide) rfl rfl (fun v10 h9 => ?_)
          refine ix_K_px kq_RP_check i_RP_check_37 rfl rfl ?_
          refine ix_K_px kq_RP_check i_RP_check_38 rfl rfl ?_
          refine ix_K_callL (as := [.ref a0, .int x1]) (rest := [.long v10]) kq_RP_check i_RP_check_39 rfl kq_RP_cellsOn (by decide) rfl rfl (fun v12 h11 => ?_)
          refine ix_K_c2 kq_RP_check i_RP_check_42 rfl kc2_m1 ?_
          refine ix_K_px kq_RP_check i_RP_check_45 rfl rfl ?_
          refine ix_K_px kq_RP_check i_RP_check_46 rfl rfl ?_
          refine ix_K_callI (as := [.long (v10 &&& (v12 ^^^ (-1)))]) (rest := []) kq_RP_check i_RP_check_47 rfl kq_RP_size (by decide) rfl (Or.inl rfl) (fun v14 h13 => ?_)
          refine ix_K_goto (tgt := 61) kq_RP_check i_RP_check_50 rfl (by decide) ?_
          exact ix_D_ret kq_RP_check i_RP_check_61 (ix_rtI rfl _)
      · refine ix_K_cb kq_RP_check i_RP_check_19 rfl kcb_m2 ?_
        exact ix_D_ret kq_RP_check i_RP_check_21 (ix_rtI rfl _)
    · refine ix_K_ci kq_RP_check i_RP_check_10 rfl kci_m1 ?_
      exact ix_D_ret kq_RP_check i_RP_check_11 (ix_rtI rfl _)
theorem x_RP_check {a0 : Nat} {x1 : Int32} {x2 : Int32} {h h1 : ixH} {v : Int32} (hr : ix_rc h a0 = some 0) (hd : ix_D mRP_check 0 [some (.ref a0), some (.int x1), some (.int x2)] [] h = some ([.int v], h1)) : ix_M mRP_check [.ref a0, .int x1, .int x2] h = some ([.int v], h1) := ix_M_of (ix_ent_i kq_RP_check rfl hr rfl (Nat.le_of_ble_eq_true rfl) rfl) hd (ix_okrI (Or.inl rfl) v)
theorem i_RP_cellsOn_0 : ix_nx mRP_cellsOn 0 = some (0, .lconst 0, 1, none, [], 0) := rfl
theorem i_RP_cellsOn_1 : ix_nx mRP_cellsOn 1 = some (0, .lstore_n 2, 2, none, [], 0) := rfl
theorem i_RP_cellsOn_2 : ix_nx mRP_cellsOn 2 = some (0, .iconst 0, 3, none, [], 0) := rfl
theorem i_RP_cellsOn_3 : ix_nx mRP_cellsOn 3 = some (0, .istore 4, 5, none, [], 0) := rfl
theorem i_RP_cellsOn_5 : ix_nx mRP_cellsOn 5 = some (0, .iload 4, 7, some [true, true, true, false, true], [], 0) := rfl
theorem i_RP_cellsOn_7 : ix_nx mRP_cellsOn 7 = some (0, .iconst 5, 8, none, [], 0) := rfl
theorem i_RP_cellsOn_8 : ix_nx mRP_cellsOn 8 = some (0, .if_icmp .ge 35, 11, none, [], 0) := rfl
theorem i_RP_cellsOn_11 : ix_nx mRP_cellsOn 11 = some (0, .iload_n 1, 12, none, [], 0) := rfl
theorem i_RP_cellsOn_12 : ix_nx mRP_cellsOn 12 = some (0, .iload 4, 14, none, [], 0) := rfl
theorem i_RP_cellsOn_14 : ix_nx mRP_cellsOn 14 = some (0, .ishr, 15, none, [], 0) := rfl
theorem i_RP_cellsOn_15 : ix_nx mRP_cellsOn 15 = some (0, .iconst 1, 16, none, [], 0) := rfl
theorem i_RP_cellsOn_16 : ix_nx mRP_cellsOn 16 = some (0, .iand, 17, none, [], 0) := rfl
theorem i_RP_cellsOn_17 : ix_nx mRP_cellsOn 17 = some (0, .iconst 1, 18, none, [], 0) := rfl
theorem i_RP_cellsOn_18 : ix_nx mRP_cellsOn 18 = some (0, .if_icmp .ne 19, 21, none, [], 0) := rfl
theorem i_RP_cellsOn_21 : ix_nx mRP_cellsOn 21 = some (0, .lload_n 2, 22, none, [], 0) := rfl
theorem i_RP_cellsOn_22 : ix_nx mRP_cellsOn 22 = some (0, .aload_n 0, 23, none, [], 0) := rfl
theorem i_RP_cellsOn_23 : ix_nx mRP_cellsOn 23 = some (1, .getfield 10, 26, none, [0, 0, 2, 71], 0) := rfl
theorem i_RP_cellsOn_26 : ix_nx mRP_cellsOn 26 = some (1, .getfield 240, 29, none, [1, 1, 2, 35], 0) := rfl
theorem i_RP_cellsOn_29 : ix_nx mRP_cellsOn 29 = some (0, .iload 4, 31, none, [], 0) := rfl
theorem i_RP_cellsOn_31 : ix_nx mRP_cellsOn 31 = some (1, .aaload, 32, none, [4], 0) := rfl
theorem i_RP_cellsOn_32 : ix_nx mRP_cellsOn 32 = some (1, .getfield 244, 35, none, [3, 2, 1, 29], 0) := rfl
theorem i_RP_cellsOn_35 : ix_nx mRP_cellsOn 35 = some (0, .lor, 36, none, [], 0) := rfl
theorem i_RP_cellsOn_36 : ix_nx mRP_cellsOn 36 = some (0, .lstore_n 2, 37, none, [], 0) := rfl
theorem i_RP_cellsOn_37 : ix_nx mRP_cellsOn 37 = some (0, .iinc 4 1, 40, none, [], 0) := rfl
theorem i_RP_cellsOn_40 : ix_nx mRP_cellsOn 40 = some (0, .goto (-35), 43, none, [], 0) := rfl
theorem i_RP_cellsOn_43 : ix_nx mRP_cellsOn 43 = some (0, .lload_n 2, 44, none, [], 0) := rfl
theorem i_RP_cellsOn_44 : ix_nx mRP_cellsOn 44 = some (4, .lreturn, 45, none, [], 0) := rfl
noncomputable def l_RP_cellsOn_5 (a0 : Nat) (x1 : Int32) (x2 : Int64) (x4 : Int32) (h : ixH) : Option (List Value × ixH) := ix_D mRP_cellsOn 5 [some (.ref a0), some (.int x1), some (.long x2), none, some (.int x4)] [] h
set_option maxRecDepth 20000 in
set_option maxHeartbeats 1000000 in
theorem e_RP_cellsOn_5 (a0 : Nat) (x1 : Int32) (x2 : Int64) (x4 : Int32) (h : ixH) : l_RP_cellsOn_5 a0 x1 x2 x4 h = if 5 ≤ x4 then some ([.long x2], h) else if ¬ ((ix_ishr x1 x4) &&& 1) = 1 then l_RP_cellsOn_5 a0 x1 x2 (x4 + 1) h else (ix_gr h a0 0 0).bind fun v1 => (ix_gr h v1 1 1).bind fun v2 => (ix_aq h 4 v2 x4).bind fun v3 => (ix_gl h v3 3 2).bind fun v4 => l_RP_cellsOn_5 a0 x1 (x2 ||| v4) (x4 + 1) h := by
  unfold l_RP_cellsOn_5
  refine ix_K_px kq_RP_cellsOn i_RP_cellsOn_5 rfl rfl ?_
  refine ix_K_ci kq_RP_cellsOn i_RP_cellsOn_7 rfl kci_5 ?_
  refine ix_K_ic_ge (tgt := 43) kq_RP_cellsOn i_RP_cellsOn_8 rfl (by decide) ?_ ?_
  · refine ix_K_px kq_RP_cellsOn i_RP_cellsOn_43 rfl rfl ?_
    exact ix_D_ret kq_RP_cellsOn i_RP_cellsOn_44 (ix_rtL rfl _)
  · refine ix_K_px kq_RP_cellsOn i_RP_cellsOn_11 rfl rfl ?_
    refine ix_K_px kq_RP_cellsOn i_RP_cellsOn_12 rfl rfl ?_
    refine ix_K_px kq_RP_cellsOn i_RP_cellsOn_14 rfl rfl ?_
    refine ix_K_ci kq_RP_cellsOn i_RP_cellsOn_15 rfl kci_1 ?_
    refine ix_K_px kq_RP_cellsOn i_RP_cellsOn_16 rfl rfl ?_
    refine ix_K_ci kq_RP_cellsOn i_RP_cellsOn_17 rfl kci_1 ?_
    refine ix_K_ic_ne (tgt := 37) kq_RP_cellsOn i_RP_cellsOn_18 rfl (by decide) ?_ ?_
    · refine ix_K_inc (L2 := [some (.ref a0), some (.int x1), some (.long x2), none, some (.int (x4 + 1))]) kq_RP_cellsOn i_RP_cellsOn_37 rfl rfl (Nat.le_of_ble_eq_true rfl) kci_1 rfl ?_
      refine ix_K_goto (tgt := 5) kq_RP_cellsOn i_RP_cellsOn_40 rfl (by decide) ?_
      exact ix_D_cut i_RP_cellsOn_5 rfl
    · refine ix_K_px kq_RP_cellsOn i_RP_cellsOn_21 rfl rfl ?_
      refine ix_K_px kq_RP_cellsOn i_RP_cellsOn_22 rfl rfl ?_
      refine ix_K_gr kq_RP_cellsOn i_RP_cellsOn_23 rfl (fun v1 => ?_)
      refine ix_K_gr kq_RP_cellsOn i_RP_cellsOn_26 rfl (fun v2 => ?_)
      refine ix_K_px kq_RP_cellsOn i_RP_cellsOn_29 rfl rfl ?_
      refine ix_K_aq kq_RP_cellsOn i_RP_cellsOn_31 rfl (fun v3 => ?_)
      refine ix_K_gl kq_RP_cellsOn i_RP_cellsOn_32 rfl (fun v4 => ?_)
      refine ix_K_px kq_RP_cellsOn i_RP_cellsOn_35 rfl rfl ?_
      refine ix_K_sl (L2 := [some (.ref a0), some (.int x1), some (.long (x2 ||| v4)), none, some (.int x4)]) kq_RP_cellsOn i_RP_cellsOn_36 rfl (Or.inr ⟨_, rfl, rfl⟩) (Nat.le_of_ble_eq_true rfl) rfl ?_
      refine ix_K_inc (L2 := [some (.ref a0), some (.int x1), some (.long (x2 ||| v4)), none, some (.int (x4 + 1))]) kq_RP_cellsOn i_RP_cellsOn_37 rfl rfl (Nat.le_of_ble_eq_true rfl) kci_1 rfl ?_
      refine ix_K_goto (tgt := 5) kq_RP_cellsOn i_RP_cellsOn_40 rfl (by decide) ?_
      exact ix_D_cut i_RP_cellsOn_5 rfl
set_option maxRecDepth 20000 in
set_option maxHeartbeats 1000000 in
theorem e_RP_cellsOn (a0 : Nat) (x1 : Int32) (h : ixH) : ix_D mRP_cellsOn 0 [some (.ref a0), some (.int x1), none, none, none] [] h = l_RP_cellsOn_5 a0 x1 0 0 h := by
  refine ix_K_cl kq_RP_cellsOn i_RP_cellsOn_0 rfl kcl_0 ?_
  refine ix_K_sl (L2 := [some (.ref a0), some (.int x1), some (.long 0), none, none]) kq_RP_cellsOn i_RP_cellsOn_1 rfl (Or.inr ⟨_, rfl, rfl⟩) (Nat.le_of_ble_eq_true rfl) rfl ?_
  refine ix_K_ci kq_RP_cellsOn i_RP_cellsOn_2 rfl kci_0 ?_
  refine ix_K_si (L2 := [some (.ref a0), some (.int x1), some (.long 0), none, some (.int 0)]) kq_RP_cellsOn i_RP_cellsOn_3 rfl (Or.inl rfl) (Nat.le_of_ble_eq_true rfl) rfl ?_
  exact ix_D_cut i_RP_cellsOn_5 rfl
theorem x_RP_cellsOn {a0 : Nat} {x1 : Int32} {h h1 : ixH} {v : Int64} (hr : ix_rc h a0 = some 0) (hd : ix_D mRP_cellsOn 0 [some (.ref a0), some (.int x1), none, none, none] [] h = some ([.long v], h1)) : ix_M mRP_cellsOn [.ref a0, .int x1] h = some ([.long v], h1) := ix_M_of (ix_ent_i kq_RP_cellsOn rfl hr rfl (Nat.le_of_ble_eq_true rfl) rfl) hd (ix_okrL rfl v)
theorem i_RP_areProof_0 : ix_nx mRP_areProof 0 = some (0, .lconst 0, 1, none, [], 0) := rfl
theorem i_RP_areProof_1 : ix_nx mRP_areProof 1 = some (0, .lstore_n 2, 2, none, [], 0) := rfl
theorem i_RP_areProof_2 : ix_nx mRP_areProof 2 = some (0, .iconst 0, 3, none, [], 0) := rfl
theorem i_RP_areProof_3 : ix_nx mRP_areProof 3 = some (0, .istore 4, 5, none, [], 0) := rfl
theorem i_RP_areProof_5 : ix_nx mRP_areProof 5 = some (0, .iload 4, 7, some [true, true, true, false, true, false], [], 0) := rfl
theorem i_RP_areProof_7 : ix_nx mRP_areProof 7 = some (0, .iconst 5, 8, none, [], 0) := rfl
theorem i_RP_areProof_8 : ix_nx mRP_areProof 8 = some (0, .if_icmp .ge 64, 11, none, [], 0) := rfl
theorem i_RP_areProof_11 : ix_nx mRP_areProof 11 = some (0, .iload_n 1, 12, none, [], 0) := rfl
theorem i_RP_areProof_12 : ix_nx mRP_areProof 12 = some (0, .iload 4, 14, none, [], 0) := rfl
theorem i_RP_areProof_14 : ix_nx mRP_areProof 14 = some (0, .ishr, 15, none, [], 0) := rfl
theorem i_RP_areProof_15 : ix_nx mRP_areProof 15 = some (0, .iconst 1, 16, none, [], 0) := rfl
theorem i_RP_areProof_16 : ix_nx mRP_areProof 16 = some (0, .iand, 17, none, [], 0) := rfl
theorem i_RP_areProof_17 : ix_nx mRP_areProof 17 = some (0, .ifCond .ne 6, 20, none, [], 0) := rfl
theorem i_RP_areProof_20 : ix_nx mRP_areProof 20 = some (0, .goto 46, 23, none, [], 0) := rfl
theorem i_RP_areProof_23 : ix_nx mRP_areProof 23 = some (0, .aload_n 0, 24, none, [], 0) := rfl
theorem i_RP_areProof_24 : ix_nx mRP_areProof 24 = some (1, .getfield 10, 27, none, [0, 0, 2, 71], 0) := rfl
theorem i_RP_areProof_27 : ix_nx mRP_areProof 27 = some (1, .getfield 240, 30, none, [1, 1, 2, 35], 0) := rfl
theorem i_RP_areProof_30 : ix_nx mRP_areProof 30 = some (0, .iload 4, 32, none, [], 0) := rfl
theorem i_RP_areProof_32 : ix_nx mRP_areProof 32 = some (1, .aaload, 33, none, [4], 0) := rfl
theorem i_RP_areProof_33 : ix_nx mRP_areProof 33 = some (0, .astore 5, 35, none, [], 0) := rfl
theorem i_RP_areProof_35 : ix_nx mRP_areProof 35 = some (0, .aload_n 0, 36, none, [], 0) := rfl
theorem i_RP_areProof_36 : ix_nx mRP_areProof 36 = some (0, .aload 5, 38, none, [], 0) := rfl
theorem i_RP_areProof_38 : ix_nx mRP_areProof 38 = some (3, .invokevirtual 268, 41, none, [0, 42, 60], 0) := rfl
theorem i_RP_areProof_41 : ix_nx mRP_areProof 41 = some (0, .ifCond .eq 15, 44, none, [], 0) := rfl
theorem i_RP_areProof_44 : ix_nx mRP_areProof 44 = some (0, .aload 5, 46, none, [], 0) := rfl
theorem i_RP_areProof_46 : ix_nx mRP_areProof 46 = some (1, .getfield 244, 49, none, [3, 2, 1, 29], 0) := rfl
theorem i_RP_areProof_49 : ix_nx mRP_areProof 49 = some (0, .lload_n 2, 50, none, [], 0) := rfl
theorem i_RP_areProof_50 : ix_nx mRP_areProof 50 = some (0, .land, 51, none, [], 0) := rfl
theorem i_RP_areProof_51 : ix_nx mRP_areProof 51 = some (0, .lconst 0, 52, none, [], 0) := rfl
theorem i_RP_areProof_52 : ix_nx mRP_areProof 52 = some (0, .lcmp, 53, none, [], 0) := rfl
theorem i_RP_areProof_53 : ix_nx mRP_areProof 53 = some (0, .ifCond .eq 5, 56, none, [], 0) := rfl
theorem i_RP_areProof_56 : ix_nx mRP_areProof 56 = some (0, .iconst 0, 57, none, [], 0) := rfl
theorem i_RP_areProof_57 : ix_nx mRP_areProof 57 = some (4, .ireturn, 58, none, [], 0) := rfl
theorem i_RP_areProof_58 : ix_nx mRP_areProof 58 = some (0, .lload_n 2, 59, none, [], 0) := rfl
theorem i_RP_areProof_59 : ix_nx mRP_areProof 59 = some (0, .aload 5, 61, none, [], 0) := rfl
theorem i_RP_areProof_61 : ix_nx mRP_areProof 61 = some (1, .getfield 244, 64, none, [3, 2, 1, 29], 0) := rfl
theorem i_RP_areProof_64 : ix_nx mRP_areProof 64 = some (0, .lor, 65, none, [], 0) := rfl
theorem i_RP_areProof_65 : ix_nx mRP_areProof 65 = some (0, .lstore_n 2, 66, none, [], 0) := rfl
theorem i_RP_areProof_66 : ix_nx mRP_areProof 66 = some (0, .iinc 4 1, 69, none, [], 0) := rfl
theorem i_RP_areProof_69 : ix_nx mRP_areProof 69 = some (0, .goto (-64), 72, none, [], 0) := rfl
theorem i_RP_areProof_72 : ix_nx mRP_areProof 72 = some (0, .iconst 1, 73, none, [], 0) := rfl
theorem i_RP_areProof_73 : ix_nx mRP_areProof 73 = some (4, .ireturn, 74, none, [], 0) := rfl
noncomputable def l_RP_areProof_5 (a0 : Nat) (x1 : Int32) (x2 : Int64) (x4 : Int32) (h : ixH) : Option (List Value × ixH) := ix_D mRP_areProof 5 [some (.ref a0), some (.int x1), some (.long x2), none, some (.int x4), none] [] h
set_option maxRecDepth 20000 in
set_option maxHeartbeats 1000000 in
theorem e_RP_areProof_5 (a0 : Nat) (x1 : Int32) (x2 : Int64) (x4 : Int32) (h : ixH) : l_RP_areProof_5 a0 x1 x2 x4 h = if 5 ≤ x4 then some ([.int (ix_bi true)], h) else if ¬ ((ix_ishr x1 x4) &&& 1) = 0 then (ix_gr h a0 0 0).bind fun v1 => (ix_gr h v1 1 1).bind fun v2 => (ix_aq h 4 v2 x4).bind fun v3 => (ix_M mRP_isProof [.ref a0, .ref v3] h).bind fun r => ix_kZ r fun v5 h4 => if v5 = true then (ix_gl h4 v3 3 2).bind fun v6 => if (v6 &&& x2) = 0 then (ix_gl h4 v3 3 2).bind fun v7 => l_RP_areProof_5 a0 x1 (x2 ||| v7) (x4 + 1) h4 else some ([.int (ix_bi false)], h4) else some ([.int (ix_bi false)], h4) else l_RP_areProof_5 a0 x1 x2 (x4 + 1) h := by
  unfold l_RP_areProof_5
  refine ix_K_px kq_RP_areProof i_RP_areProof_5 rfl rfl ?_
  refine ix_K_ci kq_RP_areProof i_RP_areProof_7 rfl kci_5 ?_
  refine ix_K_ic_ge (tgt := 72) kq_RP_areProof i_RP_areProof_8 rfl (by decide) ?_ ?_
  · refine ix_K_ci kq_RP_areProof i_RP_areProof_72 rfl kci_1 ?_
    exact ix_D_ret kq_RP_areProof i_RP_areProof_73 (ix_rtZ rfl true)
  · refine ix_K_px kq_RP_areProof i_RP_areProof_11 rfl rfl ?_
    refine ix_K_px kq_RP_areProof i_RP_areProof_12 rfl rfl ?_
    refine ix_K_px kq_RP_areProof i_RP_areProof_14 rfl rfl ?_
    refine ix_K_ci kq_RP_areProof i_RP_areProof_15 rfl kci_1 ?_
    refine ix_K_px kq_RP_areProof i_RP_areProof_16 rfl rfl ?_
    refine ix_K_if_ne (tgt := 23) kq_RP_areProof i_RP_areProof_17 rfl (by decide) ?_ ?_
    · refine ix_K_px kq_RP_areProof i_RP_areProof_23 rfl rfl ?_
      refine ix_K_gr kq_RP_areProof i_RP_areProof_24 rfl (fun v1 => ?_)
      refine ix_K_gr kq_RP_areProof i_RP_areProof_27 rfl (fun v2 => ?_)
      refine ix_K_px kq_RP_areProof i_RP_areProof_30 rfl rfl ?_
      refine ix_K_aq kq_RP_areProof i_RP_areProof_32 rfl (fun v3 => ?_)
      refine ix_K_sr (L2 := [some (.ref a0), some (.int x1), some (.long x2), none, some (.int x4), some (.ref v3)]) kq_RP_areProof i_RP_areProof_33 rfl (Or.inl rfl) (Nat.le_of_ble_eq_true rfl) rfl ?_
      refine ix_K_px kq_RP_areProof i_RP_areProof_35 rfl rfl ?_
      refine ix_K_px kq_RP_areProof i_RP_areProof_36 rfl rfl ?_
      refine ix_K_callZ (as := [.ref a0, .ref v3]) (rest := []) kq_RP_areProof i_RP_areProof_38 rfl kq_RP_isProof (by decide) rfl rfl (fun v5 h4 => ?_)
      refine ix_K_bz_eq (tgt := 56) kq_RP_areProof i_RP_areProof_41 rfl (by decide) ?_ ?_
      · refine ix_K_px kq_RP_areProof i_RP_areProof_44 rfl rfl ?_
        refine ix_K_gl kq_RP_areProof i_RP_areProof_46 rfl (fun v6 => ?_)
        refine ix_K_px kq_RP_areProof i_RP_areProof_49 rfl rfl ?_
        refine ix_K_px kq_RP_areProof i_RP_areProof_50 rfl rfl ?_
        refine ix_K_cl kq_RP_areProof i_RP_areProof_51 rfl kcl_0 ?_
        refine ix_K_px kq_RP_areProof i_RP_areProof_52 rfl rfl ?_
        refine ix_K_lc_eq (tgt := 58) kq_RP_areProof i_RP_areProof_53 rfl (by decide) ?_ ?_
        · refine ix_K_px kq_RP_areProof i_RP_areProof_58 rfl rfl ?_
          refine ix_K_px kq_RP_areProof i_RP_areProof_59 rfl rfl ?_
          refine ix_K_gl kq_RP_areProof i_RP_areProof_61 rfl (fun v7 => ?_)
          refine ix_K_px kq_RP_areProof i_RP_areProof_64 rfl rfl ?_
          refine ix_K_sl (L2 := [some (.ref a0), some (.int x1), some (.long (x2 ||| v7)), none, some (.int x4), some (.ref v3)]) kq_RP_areProof i_RP_areProof_65 rfl (Or.inr ⟨_, rfl, rfl⟩) (Nat.le_of_ble_eq_true rfl) rfl ?_
          refine ix_K_inc (L2 := [some (.ref a0), some (.int x1), some (.long (x2 ||| v7)), none, some (.int (x4 + 1)), some (.ref v3)]) kq_RP_areProof i_RP_areProof_66 rfl rfl (Nat.le_of_ble_eq_true rfl) kci_1 rfl ?_
          refine ix_K_goto (tgt := 5) kq_RP_areProof i_RP_areProof_69 rfl (by decide) ?_
          exact ix_D_cut i_RP_areProof_5 rfl
        · refine ix_K_ci kq_RP_areProof i_RP_areProof_56 rfl kci_0 ?_
          exact ix_D_ret kq_RP_areProof i_RP_areProof_57 (ix_rtZ rfl false)
      · refine ix_K_ci kq_RP_areProof i_RP_areProof_56 rfl kci_0 ?_
        exact ix_D_ret kq_RP_areProof i_RP_areProof_57 (ix_rtZ rfl false)
    · refine ix_K_goto (tgt := 66) kq_RP_areProof i_RP_areProof_20 rfl (by decide) ?_
      refine ix_K_inc (L2 := [some (.ref a0), some (.int x1), some (.long x2), none, some (.int (x4 + 1)), none]) kq_RP_areProof i_RP_areProof_66 rfl rfl (Nat.le_of_ble_eq_true rfl) kci_1 rfl ?_
      refine ix_K_goto (tgt := 5) kq_RP_areProof i_RP_areProof_69 rfl (by decide) ?_
      exact ix_D_cut i_RP_areProof_5 rfl
set_option maxRecDepth 20000 in
set_option maxHeartbeats 1000000 in
theorem e_RP_areProof (a0 : Nat) (x1 : Int32) (h : ixH) : ix_D mRP_areProof 0 [some (.ref a0), some (.int x1), none, none, none, none] [] h = l_RP_areProof_5 a0 x1 0 0 h := by
  refine ix_K_cl kq_RP_areProof i_RP_areProof_0 rfl kcl_0 ?_
  refine ix_K_sl (L2 := [some (.ref a0), some (.int x1), some (.long 0), none, none, none]) kq_RP_areProof i_RP_areProof_1 rfl (Or.inr ⟨_, rfl, rfl⟩) (Nat.le_of_ble_eq_true rfl) rfl ?_
  refine ix_K_ci kq_RP_areProof i_RP_areProof_2 rfl kci_0 ?_
  refine ix_K_si (L2 := [some (.ref a0), some (.int x1), some (.long 0), none, some (.int 0), none]) kq_RP_areProof i_RP_areProof_3 rfl (Or.inl rfl) (Nat.le_of_ble_eq_true rfl) rfl ?_
  exact ix_D_cut i_RP_areProof_5 rfl
theorem x_RP_areProof {a0 : Nat} {x1 : Int32} {h h1 : ixH} {v : Bool} (hr : ix_rc h a0 = some 0) (hd : ix_D mRP_areProof 0 [some (.ref a0), some (.int x1), none, none, none, none] [] h = some ([.int (ix_bi v)], h1)) : ix_M mRP_areProof [.ref a0, .int x1] h = some ([.int (ix_bi v)], h1) := ix_M_of (ix_ent_i kq_RP_areProof rfl hr rfl (Nat.le_of_ble_eq_true rfl) rfl) hd (ix_okrZ rfl v)
theorem i_RP_count_0 : ix_nx mRP_count 0 = some (0, .iload_n 1, 1, none, [], 0) := rfl
theorem i_RP_count_1 : ix_nx mRP_count 1 = some (0, .tableswitch 156 0 8 #[51, 62, 73, 87, 102, 117, 132, 140, 148], 52, none, [], 0) := rfl
theorem i_RP_count_52 : ix_nx mRP_count 52 = some (0, .aload_n 0, 53, none, [], 0) := rfl
theorem i_RP_count_53 : ix_nx mRP_count 53 = some (1, .getfield 10, 56, none, [0, 0, 2, 71], 0) := rfl
theorem i_RP_count_56 : ix_nx mRP_count 56 = some (1, .getfield 78, 59, none, [1, 0, 2, 31], 0) := rfl
theorem i_RP_count_59 : ix_nx mRP_count 59 = some (1, .getfield 288, 62, none, [2, 0, 0, 5], 0) := rfl
theorem i_RP_count_62 : ix_nx mRP_count 62 = some (4, .ireturn, 63, none, [], 0) := rfl
theorem i_RP_count_63 : ix_nx mRP_count 63 = some (0, .aload_n 0, 64, none, [], 0) := rfl
theorem i_RP_count_64 : ix_nx mRP_count 64 = some (1, .getfield 10, 67, none, [0, 0, 2, 71], 0) := rfl
theorem i_RP_count_67 : ix_nx mRP_count 67 = some (1, .getfield 78, 70, none, [1, 0, 2, 31], 0) := rfl
theorem i_RP_count_70 : ix_nx mRP_count 70 = some (1, .getfield 291, 73, none, [2, 1, 0, 8], 0) := rfl
theorem i_RP_count_73 : ix_nx mRP_count 73 = some (4, .ireturn, 74, none, [], 0) := rfl
theorem i_RP_count_74 : ix_nx mRP_count 74 = some (0, .aload_n 0, 75, none, [], 0) := rfl
theorem i_RP_count_75 : ix_nx mRP_count 75 = some (1, .getfield 10, 78, none, [0, 0, 2, 71], 0) := rfl
theorem i_RP_count_78 : ix_nx mRP_count 78 = some (1, .getfield 78, 81, none, [1, 0, 2, 31], 0) := rfl
theorem i_RP_count_81 : ix_nx mRP_count 81 = some (1, .getfield 94, 84, none, [2, 5, 1, 18], 0) := rfl
theorem i_RP_count_84 : ix_nx mRP_count 84 = some (3, .invokestatic 104, 87, none, [1, 6, 14], 0) := rfl
theorem i_RP_count_87 : ix_nx mRP_count 87 = some (4, .ireturn, 88, none, [], 0) := rfl
theorem i_RP_count_88 : ix_nx mRP_count 88 = some (0, .aload_n 0, 89, none, [], 0) := rfl
theorem i_RP_count_89 : ix_nx mRP_count 89 = some (1, .getfield 10, 92, none, [0, 0, 2, 71], 0) := rfl
theorem i_RP_count_92 : ix_nx mRP_count 92 = some (1, .getfield 78, 95, none, [1, 0, 2, 31], 0) := rfl
theorem i_RP_count_95 : ix_nx mRP_count 95 = some (0, .iconst 1, 96, none, [], 0) := rfl
theorem i_RP_count_96 : ix_nx mRP_count 96 = some (3, .invokevirtual 230, 99, none, [0, 73, 30], 0) := rfl
theorem i_RP_count_99 : ix_nx mRP_count 99 = some (3, .invokestatic 104, 102, none, [1, 6, 14], 0) := rfl
theorem i_RP_count_102 : ix_nx mRP_count 102 = some (4, .ireturn, 103, none, [], 0) := rfl
theorem i_RP_count_103 : ix_nx mRP_count 103 = some (0, .aload_n 0, 104, none, [], 0) := rfl
theorem i_RP_count_104 : ix_nx mRP_count 104 = some (1, .getfield 10, 107, none, [0, 0, 2, 71], 0) := rfl
theorem i_RP_count_107 : ix_nx mRP_count 107 = some (1, .getfield 78, 110, none, [1, 0, 2, 31], 0) := rfl
theorem i_RP_count_110 : ix_nx mRP_count 110 = some (0, .iconst 2, 111, none, [], 0) := rfl
theorem i_RP_count_111 : ix_nx mRP_count 111 = some (3, .invokevirtual 230, 114, none, [0, 73, 30], 0) := rfl
theorem i_RP_count_114 : ix_nx mRP_count 114 = some (3, .invokestatic 104, 117, none, [1, 6, 14], 0) := rfl
theorem i_RP_count_117 : ix_nx mRP_count 117 = some (4, .ireturn, 118, none, [], 0) := rfl
theorem i_RP_count_118 : ix_nx mRP_count 118 = some (0, .aload_n 0, 119, none, [], 0) := rfl
theorem i_RP_count_119 : ix_nx mRP_count 119 = some (1, .getfield 10, 122, none, [0, 0, 2, 71], 0) := rfl
theorem i_RP_count_122 : ix_nx mRP_count 122 = some (1, .getfield 78, 125, none, [1, 0, 2, 31], 0) := rfl
theorem i_RP_count_125 : ix_nx mRP_count 125 = some (0, .iconst 3, 126, none, [], 0) := rfl
theorem i_RP_count_126 : ix_nx mRP_count 126 = some (3, .invokevirtual 230, 129, none, [0, 73, 30], 0) := rfl
theorem i_RP_count_129 : ix_nx mRP_count 129 = some (3, .invokestatic 104, 132, none, [1, 6, 14], 0) := rfl
theorem i_RP_count_132 : ix_nx mRP_count 132 = some (4, .ireturn, 133, none, [], 0) := rfl
theorem i_RP_count_133 : ix_nx mRP_count 133 = some (0, .aload_n 0, 134, none, [], 0) := rfl
theorem i_RP_count_134 : ix_nx mRP_count 134 = some (1, .getfield 10, 137, none, [0, 0, 2, 71], 0) := rfl
theorem i_RP_count_137 : ix_nx mRP_count 137 = some (1, .getfield 193, 140, none, [1, 4, 0, 45], 0) := rfl
theorem i_RP_count_140 : ix_nx mRP_count 140 = some (4, .ireturn, 141, none, [], 0) := rfl
theorem i_RP_count_141 : ix_nx mRP_count 141 = some (0, .aload_n 0, 142, none, [], 0) := rfl
theorem i_RP_count_142 : ix_nx mRP_count 142 = some (1, .getfield 10, 145, none, [0, 0, 2, 71], 0) := rfl
theorem i_RP_count_145 : ix_nx mRP_count 145 = some (3, .invokevirtual 294, 148, none, [0, 58, 72], 0) := rfl
theorem i_RP_count_148 : ix_nx mRP_count 148 = some (4, .ireturn, 149, none, [], 0) := rfl
theorem i_RP_count_149 : ix_nx mRP_count 149 = some (0, .aload_n 0, 150, none, [], 0) := rfl
theorem i_RP_count_150 : ix_nx mRP_count 150 = some (1, .getfield 27, 153, none, [0, 3, 2, 74], 0) := rfl
theorem i_RP_count_153 : ix_nx mRP_count 153 = some (1, .getfield 163, 156, none, [4, 1, 0, 48], 0) := rfl
theorem i_RP_count_156 : ix_nx mRP_count 156 = some (4, .ireturn, 157, none, [], 0) := rfl
theorem i_RP_count_157 : ix_nx mRP_count 157 = some (0, .bipush (-2), 159, none, [], 0) := rfl
theorem i_RP_count_159 : ix_nx mRP_count 159 = some (4, .ireturn, 160, none, [], 0) := rfl
set_option maxRecDepth 20000 in
set_option maxHeartbeats 1000000 in
theorem e_RP_count (a0 : Nat) (x1 : Int32) (h : ixH) : ix_D mRP_count 0 [some (.ref a0), some (.int x1)] [] h = ix_sel x1 0 [(ix_gr h a0 0 0).bind fun v1 => (ix_gr h v1 1 0).bind fun v2 => (ix_gi h v2 2 0).bind fun v3 => some ([.int v3], h), (ix_gr h a0 0 0).bind fun v4 => (ix_gr h v4 1 0).bind fun v5 => (ix_gi h v5 2 1).bind fun v6 => some ([.int v6], h), (ix_gr h a0 0 0).bind fun v7 => (ix_gr h v7 1 0).bind fun v8 => (ix_gl h v8 2 5).bind fun v9 => (ix_M mRP_size [.long v9] h).bind fun r => ix_kI r fun v11 h10 => some ([.int v11], h10), (ix_gr h a0 0 0).bind fun v12 => (ix_gr h v12 1 0).bind fun v13 => (ix_M mGr_openWith [.ref v13, .int 1] h).bind fun r => ix_kL r fun v15 h14 => (ix_M mRP_size [.long v15] h14).bind fun r => ix_kI r fun v17 h16 => some ([.int v17], h16), (ix_gr h a0 0 0).bind fun v18 => (ix_gr h v18 1 0).bind fun v19 => (ix_M mGr_openWith [.ref v19, .int 2] h).bind fun r => ix_kL r fun v21 h20 => (ix_M mRP_size [.long v21] h20).bind fun r => ix_kI r fun v23 h22 => some ([.int v23], h22), (ix_gr h a0 0 0).bind fun v24 => (ix_gr h v24 1 0).bind fun v25 => (ix_M mGr_openWith [.ref v25, .int 3] h).bind fun r => ix_kL r fun v27 h26 => (ix_M mRP_size [.long v27] h26).bind fun r => ix_kI r fun v29 h28 => some ([.int v29], h28), (ix_gr h a0 0 0).bind fun v30 => (ix_gi h v30 1 4).bind fun v31 => some ([.int v31], h), (ix_gr h a0 0 0).bind fun v32 => (ix_M mBd_slotsInUse [.ref v32] h).bind fun r => ix_kI r fun v34 h33 => some ([.int v34], h33), (ix_gr h a0 0 3).bind fun v35 => (ix_gi h v35 4 1).bind fun v36 => some ([.int v36], h)] (some ([.int (-2)], h)) := by
  refine ix_K_px kq_RP_count i_RP_count_0 rfl rfl ?_
  refine ix_K_tsw (tg := [52, 63, 74, 88, 103, 118, 133, 141, 149]) (dt := 157) kq_RP_count i_RP_count_1 rfl (by decide) (by decide) (by decide) (by decide) (ix_lc ?_ (ix_lc ?_ (ix_lc ?_ (ix_lc ?_ (ix_lc ?_ (ix_lc ?_ (ix_lc ?_ (ix_lc ?_ (ix_lc ?_ rfl))))))))) ?_
  · refine ix_K_px kq_RP_count i_RP_count_52 rfl rfl ?_
    refine ix_K_gr kq_RP_count i_RP_count_53 rfl (fun v1 => ?_)
    refine ix_K_gr kq_RP_count i_RP_count_56 rfl (fun v2 => ?_)
    refine ix_K_gi kq_RP_count i_RP_count_59 rfl (fun v3 => ?_)
    exact ix_D_ret kq_RP_count i_RP_count_62 (ix_rtI rfl _)
  · refine ix_K_px kq_RP_count i_RP_count_63 rfl rfl ?_
    refine ix_K_gr kq_RP_count i_RP_count_64 rfl (fun v4 => ?_)
    refine ix_K_gr kq_RP_count i_RP_count_67 rfl (fun v5 => ?_)
    refine ix_K_gi kq_RP_count i_RP_count_70 rfl (fun v6 => ?_)
    exact ix_D_ret kq_RP_count i_RP_count_73 (ix_rtI rfl _)
  · refine ix_K_px kq_RP_count i_RP_count_74 rfl rfl ?_
    refine ix_K_gr kq_RP_count i_RP_count_75 rfl (fun v7 => ?_)
    refine ix_K_gr kq_RP_count i_RP_count_78 rfl (fun v8 => ?_)
    refine ix_K_gl kq_RP_count i_RP_count_81 rfl (fun v9 => ?_)
    refine ix_K_callI (as := [.long v9]) (rest := []) kq_RP_count i_RP_count_84 rfl kq_RP_size (by decide) rfl (Or.inl rfl) (fun v11 h10 => ?_)
    exact ix_D_ret kq_RP_count i_RP_count_87 (ix_rtI rfl _)
  · refine ix_K_px kq_RP_count i_RP_count_88 rfl rfl ?_
    refine ix_K_gr kq_RP_count i_RP_count_89 rfl (fun v12 => ?_)
    refine ix_K_gr kq_RP_count i_RP_count_92 rfl (fun v13 => ?_)
    refine ix_K_ci kq_RP_count i_RP_count_95 rfl kci_1 ?_
    refine ix_K_callL (as := [.ref v13, .int 1]) (rest := []) kq_RP_count i_RP_count_96 rfl kq_Gr_openWith (by decide) rfl rfl (fun v15 h14 => ?_)
    refine ix_K_callI (as := [.long v15]) (rest := []) kq_RP_count i_RP_count_99 rfl kq_RP_size (by decide) rfl (Or.inl rfl) (fun v17 h16 => ?_)
    exact ix_D_ret kq_RP_count i_RP_count_102 (ix_rtI rfl _)
  · refine ix_K_px kq_RP_count i_RP_count_103 rfl rfl ?_
    refine ix_K_gr kq_RP_count i_RP_count_104 rfl (fun v18 => ?_)
    refine ix_K_gr kq_RP_count i_RP_count_107 rfl (fun v19 => ?_)
    refine ix_K_ci kq_RP_count i_RP_count_110 rfl kci_2 ?_
    refine ix_K_callL (as := [.ref v19, .int 2]) (rest := []) kq_RP_count i_RP_count_111 rfl kq_Gr_openWith (by decide) rfl rfl (fun v21 h20 => ?_)
    refine ix_K_callI (as := [.long v21]) (rest := []) kq_RP_count i_RP_count_114 rfl kq_RP_size (by decide) rfl (Or.inl rfl) (fun v23 h22 => ?_)
    exact ix_D_ret kq_RP_count i_RP_count_117 (ix_rtI rfl _)
  · refine ix_K_px kq_RP_count i_RP_count_118 rfl rfl ?_
    refine ix_K_gr kq_RP_count i_RP_count_119 rfl (fun v24 => ?_)
    refine ix_K_gr kq_RP_count i_RP_count_122 rfl (fun v25 => ?_)
    refine ix_K_ci kq_RP_count i_RP_count_125 rfl kci_3 ?_
    refine ix_K_callL (as := [.ref v25, .int 3]) (rest := []) kq_RP_count i_RP_count_126 rfl kq_Gr_openWith (by decide) rfl rfl (fun v27 h26 => ?_)
    refine ix_K_callI (as := [.long v27]) (rest := []) kq_RP_count i_RP_count_129 rfl kq_RP_size (by decide) rfl (Or.inl rfl) (fun v29 h28 => ?_)
    exact ix_D_ret kq_RP_count i_RP_count_132 (ix_rtI rfl _)
  · refine ix_K_px kq_RP_count i_RP_count_133 rfl rfl ?_
    refine ix_K_gr kq_RP_count i_RP_count_134 rfl (fun v30 => ?_)
    refine ix_K_gi kq_RP_count i_RP_count_137 rfl (fun v31 => ?_)
    exact ix_D_ret kq_RP_count i_RP_count_140 (ix_rtI rfl _)
  · refine ix_K_px kq_RP_count i_RP_count_141 rfl rfl ?_
    refine ix_K_gr kq_RP_count i_RP_count_142 rfl (fun v32 => ?_)
    refine ix_K_callI (as := [.ref v32]) (rest := []) kq_RP_count i_RP_count_145 rfl kq_Bd_slotsInUse (by decide) rfl (Or.inl rfl) (fun v34 h33 => ?_)
    exact ix_D_ret kq_RP_count i_RP_count_148 (ix_rtI rfl _)
  · refine ix_K_px kq_RP_count i_RP_count_149 rfl rfl ?_
    refine ix_K_gr kq_RP_count i_RP_count_150 rfl (fun v35 => ?_)
    refine ix_K_gi kq_RP_count i_RP_count_153 rfl (fun v36 => ?_)
    exact ix_D_ret kq_RP_count i_RP_count_156 (ix_rtI rfl _)
  · refine ix_K_cb kq_RP_count i_RP_count_157 rfl kcb_m2 ?_
    exact ix_D_ret kq_RP_count i_RP_count_159 (ix_rtI rfl _)
theorem x_RP_count {a0 : Nat} {x1 : Int32} {h h1 : ixH} {v : Int32} (hr : ix_rc h a0 = some 0) (hd : ix_D mRP_count 0 [some (.ref a0), some (.int x1)] [] h = some ([.int v], h1)) : ix_M mRP_count [.ref a0, .int x1] h = some ([.int v], h1) := ix_M_of (ix_ent_i kq_RP_count rfl hr rfl (Nat.le_of_ble_eq_true rfl) rfl) hd (ix_okrI (Or.inl rfl) v)
theorem i_RP_save_0 : ix_nx mRP_save 0 = some (0, .iload_n 1, 1, none, [], 0) := rfl
theorem i_RP_save_1 : ix_nx mRP_save 1 = some (3, .invokestatic 297, 4, none, [1, 53, 73], 0) := rfl
theorem i_RP_save_4 : ix_nx mRP_save 4 = some (0, .ifCond .ne 6, 7, none, [], 0) := rfl
theorem i_RP_save_7 : ix_nx mRP_save 7 = some (0, .bipush (-2), 9, none, [], 0) := rfl
theorem i_RP_save_9 : ix_nx mRP_save 9 = some (4, .ireturn, 10, none, [], 0) := rfl
theorem i_RP_save_10 : ix_nx mRP_save 10 = some (0, .aload_n 0, 11, none, [], 0) := rfl
theorem i_RP_save_11 : ix_nx mRP_save 11 = some (1, .getfield 16, 14, none, [0, 1, 2, 72], 0) := rfl
theorem i_RP_save_14 : ix_nx mRP_save 14 = some (0, .iload_n 1, 15, none, [], 0) := rfl
theorem i_RP_save_15 : ix_nx mRP_save 15 = some (1, .aaload, 16, none, [5], 0) := rfl
theorem i_RP_save_16 : ix_nx mRP_save 16 = some (0, .aload_n 0, 17, none, [], 0) := rfl
theorem i_RP_save_17 : ix_nx mRP_save 17 = some (1, .getfield 10, 20, none, [0, 0, 2, 71], 0) := rfl
theorem i_RP_save_20 : ix_nx mRP_save 20 = some (3, .invokevirtual 300, 23, none, [0, 59, 74], 0) := rfl
theorem i_RP_save_23 : ix_nx mRP_save 23 = some (0, .aload_n 0, 24, none, [], 0) := rfl
theorem i_RP_save_24 : ix_nx mRP_save 24 = some (1, .getfield 20, 27, none, [0, 2, 2, 73], 0) := rfl
theorem i_RP_save_27 : ix_nx mRP_save 27 = some (0, .iload_n 1, 28, none, [], 0) := rfl
theorem i_RP_save_28 : ix_nx mRP_save 28 = some (0, .iconst 1, 29, none, [], 0) := rfl
theorem i_RP_save_29 : ix_nx mRP_save 29 = some (2, .bastore, 30, none, [], 0) := rfl
theorem i_RP_save_30 : ix_nx mRP_save 30 = some (0, .aload_n 0, 31, none, [], 0) := rfl
theorem i_RP_save_31 : ix_nx mRP_save 31 = some (1, .getfield 10, 34, none, [0, 0, 2, 71], 0) := rfl
theorem i_RP_save_34 : ix_nx mRP_save 34 = some (1, .getfield 78, 37, none, [1, 0, 2, 31], 0) := rfl
theorem i_RP_save_37 : ix_nx mRP_save 37 = some (1, .getfield 94, 40, none, [2, 5, 1, 18], 0) := rfl
theorem i_RP_save_40 : ix_nx mRP_save 40 = some (3, .invokestatic 104, 43, none, [1, 6, 14], 0) := rfl
theorem i_RP_save_43 : ix_nx mRP_save 43 = some (4, .ireturn, 44, none, [], 0) := rfl
set_option maxRecDepth 20000 in
set_option maxHeartbeats 1000000 in
theorem e_RP_save (a0 : Nat) (x1 : Int32) (h : ixH) : ix_D mRP_save 0 [some (.ref a0), some (.int x1)] [] h = (ix_M mRP_isPlace [.int x1] h).bind fun r => ix_kZ r fun v2 h1 => if v2 = true then (ix_gr h1 a0 0 1).bind fun v3 => (ix_aq h1 5 v3 x1).bind fun v4 => (ix_gr h1 a0 0 0).bind fun v5 => (ix_M mBd_copyFrom [.ref v4, .ref v5] h1).bind fun r => ix_kV r fun h6 => (ix_gr h6 a0 0 2).bind fun v7 => (ix_sz h6 v7 x1 1).bind fun h8 => (ix_gr h8 a0 0 0).bind fun v9 => (ix_gr h8 v9 1 0).bind fun v10 => (ix_gl h8 v10 2 5).bind fun v11 => (ix_M mRP_size [.long v11] h8).bind fun r => ix_kI r fun v13 h12 => some ([.int v13], h12) else some ([.int (-2)], h1) := by
  refine ix_K_px kq_RP_save i_RP_save_0 rfl rfl ?_
  refine ix_K_callZ (as := [.int x1]) (rest := []) kq_RP_save i_RP_save_1 rfl kq_RP_isPlace (by decide) rfl rfl (fun v2 h1 => ?_)
  refine ix_K_bz_ne (tgt := 10) kq_RP_save i_RP_save_4 rfl (by decide) ?_ ?_
  · refine ix_K_px kq_RP_save i_RP_save_10 rfl rfl ?_
    refine ix_K_gr kq_RP_save i_RP_save_11 rfl (fun v3 => ?_)
    refine ix_K_px kq_RP_save i_RP_save_14 rfl rfl ?_
    refine ix_K_aq kq_RP_save i_RP_save_15 rfl (fun v4 => ?_)
    refine ix_K_px kq_RP_save i_RP_save_16 rfl rfl ?_
    refine ix_K_gr kq_RP_save i_RP_save_17 rfl (fun v5 => ?_)
    refine ix_K_callV (as := [.ref v4, .ref v5]) (rest := []) kq_RP_save i_RP_save_20 rfl kq_Bd_copyFrom (by decide) rfl rfl (fun h6 => ?_)
    refine ix_K_px kq_RP_save i_RP_save_23 rfl rfl ?_
    refine ix_K_gr kq_RP_save i_RP_save_24 rfl (fun v7 => ?_)
    refine ix_K_px kq_RP_save i_RP_save_27 rfl rfl ?_
    refine ix_K_ci kq_RP_save i_RP_save_28 rfl kci_1 ?_
    refine ix_K_tz kq_RP_save i_RP_save_29 rfl (fun h8 => ?_)
    refine ix_K_px kq_RP_save i_RP_save_30 rfl rfl ?_
    refine ix_K_gr kq_RP_save i_RP_save_31 rfl (fun v9 => ?_)
    refine ix_K_gr kq_RP_save i_RP_save_34 rfl (fun v10 => ?_)
    refine ix_K_gl kq_RP_save i_RP_save_37 rfl (fun v11 => ?_)
    refine ix_K_callI (as := [.long v11]) (rest := []) kq_RP_save i_RP_save_40 rfl kq_RP_size (by decide) rfl (Or.inl rfl) (fun v13 h12 => ?_)
    exact ix_D_ret kq_RP_save i_RP_save_43 (ix_rtI rfl _)
  · refine ix_K_cb kq_RP_save i_RP_save_7 rfl kcb_m2 ?_
    exact ix_D_ret kq_RP_save i_RP_save_9 (ix_rtI rfl _)
theorem x_RP_save {a0 : Nat} {x1 : Int32} {h h1 : ixH} {v : Int32} (hr : ix_rc h a0 = some 0) (hd : ix_D mRP_save 0 [some (.ref a0), some (.int x1)] [] h = some ([.int v], h1)) : ix_M mRP_save [.ref a0, .int x1] h = some ([.int v], h1) := ix_M_of (ix_ent_i kq_RP_save rfl hr rfl (Nat.le_of_ble_eq_true rfl) rfl) hd (ix_okrI (Or.inl rfl) v)
theorem i_RP_isPlace_0 : ix_nx mRP_isPlace 0 = some (0, .iload_n 0, 1, none, [], 0) := rfl
theorem i_RP_isPlace_1 : ix_nx mRP_isPlace 1 = some (0, .ifCond .lt 12, 4, none, [], 0) := rfl
theorem i_RP_isPlace_4 : ix_nx mRP_isPlace 4 = some (0, .iload_n 0, 5, none, [], 0) := rfl
theorem i_RP_isPlace_5 : ix_nx mRP_isPlace 5 = some (0, .iconst 2, 6, none, [], 0) := rfl
theorem i_RP_isPlace_6 : ix_nx mRP_isPlace 6 = some (0, .if_icmp .ge 7, 9, none, [], 0) := rfl
theorem i_RP_isPlace_9 : ix_nx mRP_isPlace 9 = some (0, .iconst 1, 10, none, [], 0) := rfl
theorem i_RP_isPlace_10 : ix_nx mRP_isPlace 10 = some (0, .goto 4, 13, none, [], 0) := rfl
theorem i_RP_isPlace_13 : ix_nx mRP_isPlace 13 = some (0, .iconst 0, 14, none, [], 0) := rfl
theorem i_RP_isPlace_14 : ix_nx mRP_isPlace 14 = some (4, .ireturn, 15, none, [], 0) := rfl
set_option maxRecDepth 20000 in
set_option maxHeartbeats 1000000 in
theorem e_RP_isPlace (x0 : Int32) (h : ixH) : ix_D mRP_isPlace 0 [some (.int x0)] [] h = if x0 < 0 then some ([.int (ix_bi false)], h) else if 2 ≤ x0 then some ([.int (ix_bi false)], h) else some ([.int (ix_bi true)], h) := by
  refine ix_K_px kq_RP_isPlace i_RP_isPlace_0 rfl rfl ?_
  refine ix_K_if_lt (tgt := 13) kq_RP_isPlace i_RP_isPlace_1 rfl (by decide) ?_ ?_
  · refine ix_K_ci kq_RP_isPlace i_RP_isPlace_13 rfl kci_0 ?_
    exact ix_D_ret kq_RP_isPlace i_RP_isPlace_14 (ix_rtZ rfl false)
  · refine ix_K_px kq_RP_isPlace i_RP_isPlace_4 rfl rfl ?_
    refine ix_K_ci kq_RP_isPlace i_RP_isPlace_5 rfl kci_2 ?_
    refine ix_K_ic_ge (tgt := 13) kq_RP_isPlace i_RP_isPlace_6 rfl (by decide) ?_ ?_
    · refine ix_K_ci kq_RP_isPlace i_RP_isPlace_13 rfl kci_0 ?_
      exact ix_D_ret kq_RP_isPlace i_RP_isPlace_14 (ix_rtZ rfl false)
    · refine ix_K_ci kq_RP_isPlace i_RP_isPlace_9 rfl kci_1 ?_
      refine ix_K_goto (tgt := 14) kq_RP_isPlace i_RP_isPlace_10 rfl (by decide) ?_
      exact ix_D_ret kq_RP_isPlace i_RP_isPlace_14 (ix_rtZ rfl true)
theorem x_RP_isPlace {x0 : Int32} {h h1 : ixH} {v : Bool} (hd : ix_D mRP_isPlace 0 [some (.int x0)] [] h = some ([.int (ix_bi v)], h1)) : ix_M mRP_isPlace [.int x0] h = some ([.int (ix_bi v)], h1) := ix_M_of (ix_ent_s kq_RP_isPlace rfl rfl (Nat.le_of_ble_eq_true rfl) rfl) hd (ix_okrZ rfl v)
theorem i_RP_restore_0 : ix_nx mRP_restore 0 = some (0, .iload_n 1, 1, none, [], 0) := rfl
theorem i_RP_restore_1 : ix_nx mRP_restore 1 = some (3, .invokestatic 297, 4, none, [1, 53, 73], 0) := rfl
theorem i_RP_restore_4 : ix_nx mRP_restore 4 = some (0, .ifCond .ne 6, 7, none, [], 0) := rfl
theorem i_RP_restore_7 : ix_nx mRP_restore 7 = some (0, .bipush (-2), 9, none, [], 0) := rfl
theorem i_RP_restore_9 : ix_nx mRP_restore 9 = some (4, .ireturn, 10, none, [], 0) := rfl
theorem i_RP_restore_10 : ix_nx mRP_restore 10 = some (0, .aload_n 0, 11, none, [], 0) := rfl
theorem i_RP_restore_11 : ix_nx mRP_restore 11 = some (1, .getfield 20, 14, none, [0, 2, 2, 73], 0) := rfl
theorem i_RP_restore_14 : ix_nx mRP_restore 14 = some (0, .iload_n 1, 15, none, [], 0) := rfl
theorem i_RP_restore_15 : ix_nx mRP_restore 15 = some (1, .baload, 16, none, [2], 0) := rfl
theorem i_RP_restore_16 : ix_nx mRP_restore 16 = some (0, .ifCond .ne 6, 19, none, [], 0) := rfl
theorem i_RP_restore_19 : ix_nx mRP_restore 19 = some (0, .bipush (-5), 21, none, [], 0) := rfl
theorem i_RP_restore_21 : ix_nx mRP_restore 21 = some (4, .ireturn, 22, none, [], 0) := rfl
theorem i_RP_restore_22 : ix_nx mRP_restore 22 = some (0, .aload_n 0, 23, none, [], 0) := rfl
theorem i_RP_restore_23 : ix_nx mRP_restore 23 = some (1, .getfield 10, 26, none, [0, 0, 2, 71], 0) := rfl
theorem i_RP_restore_26 : ix_nx mRP_restore 26 = some (0, .aload_n 0, 27, none, [], 0) := rfl
theorem i_RP_restore_27 : ix_nx mRP_restore 27 = some (1, .getfield 16, 30, none, [0, 1, 2, 72], 0) := rfl
theorem i_RP_restore_30 : ix_nx mRP_restore 30 = some (0, .iload_n 1, 31, none, [], 0) := rfl
theorem i_RP_restore_31 : ix_nx mRP_restore 31 = some (1, .aaload, 32, none, [5], 0) := rfl
theorem i_RP_restore_32 : ix_nx mRP_restore 32 = some (3, .invokevirtual 300, 35, none, [0, 59, 74], 0) := rfl
theorem i_RP_restore_35 : ix_nx mRP_restore 35 = some (0, .aload_n 0, 36, none, [], 0) := rfl
theorem i_RP_restore_36 : ix_nx mRP_restore 36 = some (1, .getfield 10, 39, none, [0, 0, 2, 71], 0) := rfl
theorem i_RP_restore_39 : ix_nx mRP_restore 39 = some (1, .getfield 78, 42, none, [1, 0, 2, 31], 0) := rfl
theorem i_RP_restore_42 : ix_nx mRP_restore 42 = some (1, .getfield 94, 45, none, [2, 5, 1, 18], 0) := rfl
theorem i_RP_restore_45 : ix_nx mRP_restore 45 = some (3, .invokestatic 104, 48, none, [1, 6, 14], 0) := rfl
theorem i_RP_restore_48 : ix_nx mRP_restore 48 = some (4, .ireturn, 49, none, [], 0) := rfl
set_option maxRecDepth 20000 in
set_option maxHeartbeats 1000000 in
theorem e_RP_restore (a0 : Nat) (x1 : Int32) (h : ixH) : ix_D mRP_restore 0 [some (.ref a0), some (.int x1)] [] h = (ix_M mRP_isPlace [.int x1] h).bind fun r => ix_kZ r fun v2 h1 => if v2 = true then (ix_gr h1 a0 0 2).bind fun v3 => (ix_az h1 v3 x1).bind fun v4 => if ¬ v4 = 0 then (ix_gr h1 a0 0 0).bind fun v5 => (ix_gr h1 a0 0 1).bind fun v6 => (ix_aq h1 5 v6 x1).bind fun v7 => (ix_M mBd_copyFrom [.ref v5, .ref v7] h1).bind fun r => ix_kV r fun h8 => (ix_gr h8 a0 0 0).bind fun v9 => (ix_gr h8 v9 1 0).bind fun v10 => (ix_gl h8 v10 2 5).bind fun v11 => (ix_M mRP_size [.long v11] h8).bind fun r => ix_kI r fun v13 h12 => some ([.int v13], h12) else some ([.int (-5)], h1) else some ([.int (-2)], h1) := by
  refine ix_K_px kq_RP_restore i_RP_restore_0 rfl rfl ?_
  refine ix_K_callZ (as := [.int x1]) (rest := []) kq_RP_restore i_RP_restore_1 rfl kq_RP_isPlace (by decide) rfl rfl (fun v2 h1 => ?_)
  refine ix_K_bz_ne (tgt := 10) kq_RP_restore i_RP_restore_4 rfl (by decide) ?_ ?_
  · refine ix_K_px kq_RP_restore i_RP_restore_10 rfl rfl ?_
    refine ix_K_gr kq_RP_restore i_RP_restore_11 rfl (fun v3 => ?_)
    refine ix_K_px kq_RP_restore i_RP_restore_14 rfl rfl ?_
    refine ix_K_az kq_RP_restore i_RP_restore_15 rfl (fun v4 => ?_)
    refine ix_K_if_ne (tgt := 22) kq_RP_restore i_RP_restore_16 rfl (by decide) ?_ ?_
    · refine ix_K_px kq_RP_restore i_RP_restore_22 rfl rfl ?_
      refine ix_K_gr kq_RP_restore i_RP_restore_23 rfl (fun v5 => ?_)
      refine ix_K_px kq_RP_restore i_RP_restore_26 rfl rfl ?_
      refine ix_K_gr kq_RP_restore i_RP_restore_27 rfl (fun v6 => ?_)
      refine ix_K_px kq_RP_restore i_RP_restore_30 rfl rfl ?_
      refine ix_K_aq kq_RP_restore i_RP_restore_31 rfl (fun v7 => ?_)
      refine ix_K_callV (as := [.ref v5, .ref v7]) (rest := []) kq_RP_restore i_RP_restore_32 rfl kq_Bd_copyFrom (by decide) rfl rfl (fun h8 => ?_)
      refine ix_K_px kq_RP_restore i_RP_restore_35 rfl rfl ?_
      refine ix_K_gr kq_RP_restore i_RP_restore_36 rfl (fun v9 => ?_)
      refine ix_K_gr kq_RP_restore i_RP_restore_39 rfl (fun v10 => ?_)
      refine ix_K_gl kq_RP_restore i_RP_restore_42 rfl (fun v11 => ?_)
      refine ix_K_callI (as := [.long v11]) (rest := []) kq_RP_restore i_RP_restore_45 rfl kq_RP_size (by decide) rfl (Or.inl rfl) (fun v13 h12 => ?_)
      exact ix_D_ret kq_RP_restore i_RP_restore_48 (ix_rtI rfl _)
    · refine ix_K_cb kq_RP_restore i_RP_restore_19 rfl kcb_m5 ?_
      exact ix_D_ret kq_RP_restore i_RP_restore_21 (ix_rtI rfl _)
  · refine ix_K_cb kq_RP_restore i_RP_restore_7 rfl kcb_m2 ?_
    exact ix_D_ret kq_RP_restore i_RP_restore_9 (ix_rtI rfl _)
theorem x_RP_restore {a0 : Nat} {x1 : Int32} {h h1 : ixH} {v : Int32} (hr : ix_rc h a0 = some 0) (hd : ix_D mRP_restore 0 [some (.ref a0), some (.int x1)] [] h = some ([.int v], h1)) : ix_M mRP_restore [.ref a0, .int x1] h = some ([.int v], h1) := ix_M_of (ix_ent_i kq_RP_restore rfl hr rfl (Nat.le_of_ble_eq_true rfl) rfl) hd (ix_okrI (Or.inl rfl) v)
