/-! PRINTED by wip/whole/gen6.py -/
theorem i_Bn_init_0 : ix_nx mBn_init 0 = some (0, .aload_n 0, 1, none, [], 0) := rfl
theorem i_Bn_init_1 : ix_nx mBn_init 1 = some (3, .invokespecial 3, 4, none, [6, 0, 145], 0) := rfl
theorem i_Bn_init_4 : ix_nx mBn_init 4 = some (0, .aload_n 0, 5, none, [], 0) := rfl
theorem i_Bn_init_5 : ix_nx mBn_init 5 = some (0, .iconst 4, 6, none, [], 0) := rfl
theorem i_Bn_init_6 : ix_nx mBn_init 6 = some (2, .newarray .long, 8, none, [], 0) := rfl
theorem i_Bn_init_8 : ix_nx mBn_init 8 = some (2, .putfield 9, 11, none, [9, 0, 2, 85], 0) := rfl
theorem i_Bn_init_11 : ix_nx mBn_init 11 = some (0, .aload_n 0, 12, none, [], 0) := rfl
theorem i_Bn_init_12 : ix_nx mBn_init 12 = some (0, .iconst 4, 13, none, [], 0) := rfl
theorem i_Bn_init_13 : ix_nx mBn_init 13 = some (2, .newarray .int, 15, none, [], 0) := rfl
theorem i_Bn_init_15 : ix_nx mBn_init 15 = some (2, .putfield 15, 18, none, [9, 1, 2, 86], 0) := rfl
theorem i_Bn_init_18 : ix_nx mBn_init 18 = some (0, .aload_n 0, 19, none, [], 0) := rfl
theorem i_Bn_init_19 : ix_nx mBn_init 19 = some (0, .iconst 4, 20, none, [], 0) := rfl
theorem i_Bn_init_20 : ix_nx mBn_init 20 = some (2, .newarray .int, 22, none, [], 0) := rfl
theorem i_Bn_init_22 : ix_nx mBn_init 22 = some (2, .putfield 19, 25, none, [9, 2, 2, 87], 0) := rfl
theorem i_Bn_init_25 : ix_nx mBn_init 25 = some (0, .aload_n 0, 26, none, [], 0) := rfl
theorem i_Bn_init_26 : ix_nx mBn_init 26 = some (2, .new 22, 29, none, [10, 11], 0) := rfl
theorem i_Bn_init_29 : ix_nx mBn_init 29 = some (0, .dup, 30, none, [], 0) := rfl
theorem i_Bn_init_30 : ix_nx mBn_init 30 = some (3, .invokespecial 24, 33, none, [4, 139, 146], 0) := rfl
theorem i_Bn_init_33 : ix_nx mBn_init 33 = some (2, .putfield 25, 36, none, [9, 3, 2, 88], 0) := rfl
theorem i_Bn_init_36 : ix_nx mBn_init 36 = some (0, .aload_n 0, 37, none, [], 0) := rfl
theorem i_Bn_init_37 : ix_nx mBn_init 37 = some (2, .new 22, 40, none, [10, 11], 0) := rfl
theorem i_Bn_init_40 : ix_nx mBn_init 40 = some (0, .dup, 41, none, [], 0) := rfl
theorem i_Bn_init_41 : ix_nx mBn_init 41 = some (3, .invokespecial 24, 44, none, [4, 139, 146], 0) := rfl
theorem i_Bn_init_44 : ix_nx mBn_init 44 = some (2, .putfield 29, 47, none, [9, 4, 2, 89], 0) := rfl
theorem i_Bn_init_47 : ix_nx mBn_init 47 = some (4, .return_, 48, none, [], 0) := rfl
set_option maxRecDepth 20000 in
set_option maxHeartbeats 1000000 in
theorem e_Bn_init (a0 : Nat) (h : ixH) : ix_D mBn_init 0 [some (.ref a0)] [] h = (ix_pf (ix_nw h (.inl (1, 4, .inr (.inl fun _ => 0))) 4) a0 9 0 (.ref h.1)).bind fun h1 => (ix_pf (ix_nw h1 (.inl (0, 4, .inl fun _ => 0)) 4) a0 9 1 (.ref h1.1)).bind fun h2 => (ix_pf (ix_nw h2 (.inl (0, 4, .inl fun _ => 0)) 4) a0 9 2 (.ref h2.1)).bind fun h3 => (ix_M mTa_init [.ref h3.1] (ix_nw h3 (.inr (10, ix_df 10)) (ix_N 10))).bind fun r => ix_kV r fun h4 => (ix_pf h4 a0 9 3 (.ref h3.1)).bind fun h5 => (ix_M mTa_init [.ref h5.1] (ix_nw h5 (.inr (10, ix_df 10)) (ix_N 10))).bind fun r => ix_kV r fun h6 => (ix_pf h6 a0 9 4 (.ref h5.1)).bind fun h7 => some ([], h7) := by
  refine ix_K_px kq_Bn_init i_Bn_init_0 rfl rfl ?_
  refine ix_K_obj kq_Bn_init i_Bn_init_1 rfl (Nat.le_of_ble_eq_true rfl) ?_
  refine ix_K_px kq_Bn_init i_Bn_init_4 rfl rfl ?_
  refine ix_K_ci kq_Bn_init i_Bn_init_5 rfl kci_4 ?_
  refine ix_K_naL kq_Bn_init i_Bn_init_6 rfl kna_4 knb_4 (by decide) ?_
  refine ix_K_pf kq_Bn_init i_Bn_init_8 rfl rfl (fun h1 => ?_)
  refine ix_K_px kq_Bn_init i_Bn_init_11 rfl rfl ?_
  refine ix_K_ci kq_Bn_init i_Bn_init_12 rfl kci_4 ?_
  refine ix_K_naI kq_Bn_init i_Bn_init_13 rfl kna_4 knb_4 (by decide) ?_
  refine ix_K_pf kq_Bn_init i_Bn_init_15 rfl rfl (fun h2 => ?_)
  refine ix_K_px kq_Bn_init i_Bn_init_18 rfl rfl ?_
  refine ix_K_ci kq_Bn_init i_Bn_init_19 rfl kci_4 ?_
  refine ix_K_naI kq_Bn_init i_Bn_init_20 rfl kna_4 knb_4 (by decide) ?_
  refine ix_K_pf kq_Bn_init i_Bn_init_22 rfl rfl (fun h3 => ?_)
  refine ix_K_px kq_Bn_init i_Bn_init_25 rfl rfl ?_
  refine ix_K_nw kq_Bn_init i_Bn_init_26 rfl rfl ?_
  refine ix_K_px kq_Bn_init i_Bn_init_29 rfl rfl ?_
  refine ix_K_callV (as := [.ref h3.1]) (rest := [.ref h3.1, .ref a0]) kq_Bn_init i_Bn_init_30 rfl kq_Ta_init (by decide) rfl rfl (fun h4 => ?_)
  refine ix_K_pf kq_Bn_init i_Bn_init_33 rfl rfl (fun h5 => ?_)
  refine ix_K_px kq_Bn_init i_Bn_init_36 rfl rfl ?_
  refine ix_K_nw kq_Bn_init i_Bn_init_37 rfl rfl ?_
  refine ix_K_px kq_Bn_init i_Bn_init_40 rfl rfl ?_
  refine ix_K_callV (as := [.ref h5.1]) (rest := [.ref h5.1, .ref a0]) kq_Bn_init i_Bn_init_41 rfl kq_Ta_init (by decide) rfl rfl (fun h6 => ?_)
  refine ix_K_pf kq_Bn_init i_Bn_init_44 rfl rfl (fun h7 => ?_)
  exact ix_D_ret kq_Bn_init i_Bn_init_47 (ix_rtV rfl)
theorem x_Bn_init {a0 : Nat} {h h1 : ixH} (hd : ix_D mBn_init 0 [some (.ref a0)] [] h = some ([], h1)) : ix_M mBn_init [.ref a0] h = some ([], h1) := ix_M_of (ix_ent_c kq_Bn_init rfl rfl (Nat.le_of_ble_eq_true rfl) rfl) hd (ix_okrV rfl)
theorem i_Bn_tally_0 : ix_nx mBn_tally 0 = some (0, .iconst 0, 1, none, [], 0) := rfl
theorem i_Bn_tally_1 : ix_nx mBn_tally 1 = some (0, .aload_n 1, 2, none, [], 0) := rfl
theorem i_Bn_tally_2 : ix_nx mBn_tally 2 = some (1, .getfield 32, 5, none, [1, 4, 0, 43], 0) := rfl
theorem i_Bn_tally_5 : ix_nx mBn_tally 5 = some (0, .iconst 4, 6, none, [], 0) := rfl
theorem i_Bn_tally_6 : ix_nx mBn_tally 6 = some (5, .invokestatic 38, 9, none, [9, 147], 0) := rfl
theorem i_Bn_tally_9 : ix_nx mBn_tally 9 = some (5, .invokestatic 44, 12, none, [8, 148], 0) := rfl
theorem i_Bn_tally_12 : ix_nx mBn_tally 12 = some (0, .istore_n 2, 13, none, [], 0) := rfl
theorem i_Bn_tally_13 : ix_nx mBn_tally 13 = some (0, .iconst 0, 14, none, [], 0) := rfl
theorem i_Bn_tally_14 : ix_nx mBn_tally 14 = some (0, .istore_n 3, 15, none, [], 0) := rfl
theorem i_Bn_tally_15 : ix_nx mBn_tally 15 = some (0, .iload_n 3, 16, some [true, true, true, true, false, false], [], 0) := rfl
theorem i_Bn_tally_16 : ix_nx mBn_tally 16 = some (0, .iload_n 2, 17, none, [], 0) := rfl
theorem i_Bn_tally_17 : ix_nx mBn_tally 17 = some (0, .if_icmp .ge 28, 20, none, [], 0) := rfl
theorem i_Bn_tally_20 : ix_nx mBn_tally 20 = some (0, .aload_n 0, 21, none, [], 0) := rfl
theorem i_Bn_tally_21 : ix_nx mBn_tally 21 = some (0, .aload_n 1, 22, none, [], 0) := rfl
theorem i_Bn_tally_22 : ix_nx mBn_tally 22 = some (0, .iload_n 3, 23, none, [], 0) := rfl
theorem i_Bn_tally_23 : ix_nx mBn_tally 23 = some (3, .invokevirtual 47, 26, none, [0, 129, 149], 0) := rfl
theorem i_Bn_tally_26 : ix_nx mBn_tally 26 = some (0, .aload_n 0, 27, none, [], 0) := rfl
theorem i_Bn_tally_27 : ix_nx mBn_tally 27 = some (1, .getfield 9, 30, none, [9, 0, 2, 85], 0) := rfl
theorem i_Bn_tally_30 : ix_nx mBn_tally 30 = some (0, .iload_n 3, 31, none, [], 0) := rfl
theorem i_Bn_tally_31 : ix_nx mBn_tally 31 = some (1, .laload, 32, none, [], 0) := rfl
theorem i_Bn_tally_32 : ix_nx mBn_tally 32 = some (0, .lconst 0, 33, none, [], 0) := rfl
theorem i_Bn_tally_33 : ix_nx mBn_tally 33 = some (0, .lcmp, 34, none, [], 0) := rfl
theorem i_Bn_tally_34 : ix_nx mBn_tally 34 = some (0, .ifCond .ne 5, 37, none, [], 0) := rfl
theorem i_Bn_tally_37 : ix_nx mBn_tally 37 = some (0, .lconst 0, 38, none, [], 0) := rfl
theorem i_Bn_tally_38 : ix_nx mBn_tally 38 = some (4, .lreturn, 39, none, [], 0) := rfl
theorem i_Bn_tally_39 : ix_nx mBn_tally 39 = some (0, .iinc 3 1, 42, none, [], 0) := rfl
theorem i_Bn_tally_42 : ix_nx mBn_tally 42 = some (0, .goto (-27), 45, none, [], 0) := rfl
theorem i_Bn_tally_45 : ix_nx mBn_tally 45 = some (0, .aload_n 0, 46, none, [], 0) := rfl
theorem i_Bn_tally_46 : ix_nx mBn_tally 46 = some (1, .getfield 25, 49, none, [9, 3, 2, 88], 0) := rfl
theorem i_Bn_tally_49 : ix_nx mBn_tally 49 = some (3, .invokevirtual 51, 52, none, [0, 140, 150], 0) := rfl
theorem i_Bn_tally_52 : ix_nx mBn_tally 52 = some (0, .aload_n 0, 53, none, [], 0) := rfl
theorem i_Bn_tally_53 : ix_nx mBn_tally 53 = some (1, .getfield 25, 56, none, [9, 3, 2, 88], 0) := rfl
theorem i_Bn_tally_56 : ix_nx mBn_tally 56 = some (0, .iconst 0, 57, none, [], 0) := rfl
theorem i_Bn_tally_57 : ix_nx mBn_tally 57 = some (0, .lconst 1, 58, none, [], 0) := rfl
theorem i_Bn_tally_58 : ix_nx mBn_tally 58 = some (3, .invokevirtual 54, 61, none, [0, 142, 151], 0) := rfl
theorem i_Bn_tally_61 : ix_nx mBn_tally 61 = some (0, .aload_n 1, 62, none, [], 0) := rfl
theorem i_Bn_tally_62 : ix_nx mBn_tally 62 = some (1, .getfield 58, 65, none, [1, 0, 2, 32], 0) := rfl
theorem i_Bn_tally_65 : ix_nx mBn_tally 65 = some (1, .getfield 62, 68, none, [2, 0, 0, 1], 0) := rfl
theorem i_Bn_tally_68 : ix_nx mBn_tally 68 = some (0, .aload_n 1, 69, none, [], 0) := rfl
theorem i_Bn_tally_69 : ix_nx mBn_tally 69 = some (1, .getfield 58, 72, none, [1, 0, 2, 32], 0) := rfl
theorem i_Bn_tally_72 : ix_nx mBn_tally 72 = some (1, .getfield 67, 75, none, [2, 1, 0, 7], 0) := rfl
theorem i_Bn_tally_75 : ix_nx mBn_tally 75 = some (0, .iadd, 76, none, [], 0) := rfl
theorem i_Bn_tally_76 : ix_nx mBn_tally 76 = some (0, .iconst 1, 77, none, [], 0) := rfl
theorem i_Bn_tally_77 : ix_nx mBn_tally 77 = some (0, .isub, 78, none, [], 0) := rfl
theorem i_Bn_tally_78 : ix_nx mBn_tally 78 = some (0, .istore_n 3, 79, none, [], 0) := rfl
theorem i_Bn_tally_79 : ix_nx mBn_tally 79 = some (0, .iconst 0, 80, none, [], 0) := rfl
theorem i_Bn_tally_80 : ix_nx mBn_tally 80 = some (0, .istore 4, 82, none, [], 0) := rfl
theorem i_Bn_tally_82 : ix_nx mBn_tally 82 = some (0, .iload 4, 84, some [true, true, true, true, true, false], [], 0) := rfl
theorem i_Bn_tally_84 : ix_nx mBn_tally 84 = some (0, .iload_n 3, 85, none, [], 0) := rfl
theorem i_Bn_tally_85 : ix_nx mBn_tally 85 = some (0, .if_icmp .ge 66, 88, none, [], 0) := rfl
theorem i_Bn_tally_88 : ix_nx mBn_tally 88 = some (0, .iconst 0, 89, none, [], 0) := rfl
theorem i_Bn_tally_89 : ix_nx mBn_tally 89 = some (0, .istore 5, 91, none, [], 0) := rfl
theorem i_Bn_tally_91 : ix_nx mBn_tally 91 = some (0, .iload 5, 93, some [true, true, true, true, true, true], [], 0) := rfl
theorem i_Bn_tally_93 : ix_nx mBn_tally 93 = some (0, .iload_n 2, 94, none, [], 0) := rfl
theorem i_Bn_tally_94 : ix_nx mBn_tally 94 = some (0, .if_icmp .ge 51, 97, none, [], 0) := rfl
theorem i_Bn_tally_97 : ix_nx mBn_tally 97 = some (0, .aload_n 0, 98, none, [], 0) := rfl
theorem i_Bn_tally_98 : ix_nx mBn_tally 98 = some (0, .iload 5, 100, none, [], 0) := rfl
theorem i_Bn_tally_100 : ix_nx mBn_tally 100 = some (0, .iload 4, 102, none, [], 0) := rfl
theorem i_Bn_tally_102 : ix_nx mBn_tally 102 = some (3, .invokevirtual 70, 105, none, [0, 130, 152], 0) := rfl
theorem i_Bn_tally_105 : ix_nx mBn_tally 105 = some (0, .ifCond .eq 15, 108, none, [], 0) := rfl
theorem i_Bn_tally_108 : ix_nx mBn_tally 108 = some (0, .aload_n 0, 109, none, [], 0) := rfl
theorem i_Bn_tally_109 : ix_nx mBn_tally 109 = some (0, .aload_n 1, 110, none, [], 0) := rfl
theorem i_Bn_tally_110 : ix_nx mBn_tally 110 = some (0, .iload 5, 112, none, [], 0) := rfl
theorem i_Bn_tally_112 : ix_nx mBn_tally 112 = some (0, .iload 4, 114, none, [], 0) := rfl
theorem i_Bn_tally_114 : ix_nx mBn_tally 114 = some (3, .invokevirtual 74, 117, none, [0, 131, 153], 0) := rfl
theorem i_Bn_tally_117 : ix_nx mBn_tally 117 = some (0, .goto 22, 120, none, [], 0) := rfl
theorem i_Bn_tally_120 : ix_nx mBn_tally 120 = some (0, .aload_n 0, 121, none, [], 0) := rfl
theorem i_Bn_tally_121 : ix_nx mBn_tally 121 = some (0, .iload 5, 123, none, [], 0) := rfl
theorem i_Bn_tally_123 : ix_nx mBn_tally 123 = some (0, .iload 4, 125, none, [], 0) := rfl
theorem i_Bn_tally_125 : ix_nx mBn_tally 125 = some (0, .iconst 1, 126, none, [], 0) := rfl
theorem i_Bn_tally_126 : ix_nx mBn_tally 126 = some (0, .isub, 127, none, [], 0) := rfl
theorem i_Bn_tally_127 : ix_nx mBn_tally 127 = some (3, .invokevirtual 70, 130, none, [0, 130, 152], 0) := rfl
theorem i_Bn_tally_130 : ix_nx mBn_tally 130 = some (0, .ifCond .eq 9, 133, none, [], 0) := rfl
theorem i_Bn_tally_133 : ix_nx mBn_tally 133 = some (0, .aload_n 0, 134, none, [], 0) := rfl
theorem i_Bn_tally_134 : ix_nx mBn_tally 134 = some (0, .iload 5, 136, none, [], 0) := rfl
theorem i_Bn_tally_136 : ix_nx mBn_tally 136 = some (3, .invokevirtual 78, 139, none, [0, 138, 154], 0) := rfl
theorem i_Bn_tally_139 : ix_nx mBn_tally 139 = some (0, .iinc 5 1, 142, none, [], 0) := rfl
theorem i_Bn_tally_142 : ix_nx mBn_tally 142 = some (0, .goto (-51), 145, none, [], 0) := rfl
theorem i_Bn_tally_145 : ix_nx mBn_tally 145 = some (0, .iinc 4 1, 148, none, [], 0) := rfl
theorem i_Bn_tally_148 : ix_nx mBn_tally 148 = some (0, .goto (-66), 151, none, [], 0) := rfl
theorem i_Bn_tally_151 : ix_nx mBn_tally 151 = some (0, .aload_n 0, 152, none, [], 0) := rfl
set_option maxRecDepth 50000 in
theorem i_Bn_tally_152 : ix_nx mBn_tally 152 = some (1, .getfield 25, 155, none, [9, 3, 2, 88], 0) := rfl
set_option maxRecDepth 50000 in
theorem i_Bn_tally_155 : ix_nx mBn_tally 155 = some (3, .invokevirtual 82, 158, none, [0, 144, 155], 0) := rfl
set_option maxRecDepth 50000 in
theorem i_Bn_tally_158 : ix_nx mBn_tally 158 = some (4, .lreturn, 159, none, [], 0) := rfl
noncomputable def l_Bn_tally_15 (a0 : Nat) (a1 : Nat) (x2 : Int32) (x3 : Int32) (h : ixH) : Option (List Value × ixH) := ix_D mBn_tally 15 [some (.ref a0), some (.ref a1), some (.int x2), some (.int x3), none, none] [] h
noncomputable def l_Bn_tally_82 (a0 : Nat) (a1 : Nat) (x2 : Int32) (x3 : Int32) (x4 : Int32) (h : ixH) : Option (List Value × ixH) := ix_D mBn_tally 82 [some (.ref a0), some (.ref a1), some (.int x2), some (.int x3), some (.int x4), none] [] h
noncomputable def l_Bn_tally_91 (a0 : Nat) (a1 : Nat) (x2 : Int32) (x3 : Int32) (x4 : Int32) (x5 : Int32) (h : ixH) : Option (List Value × ixH) := ix_D mBn_tally 91 [some (.ref a0), some (.ref a1), some (.int x2), some (.int x3), some (.int x4), some (.int x5)] [] h
set_option maxRecDepth 20000 in
set_option maxHeartbeats 1000000 in
theorem e_Bn_tally_15 (a0 : Nat) (a1 : Nat) (x2 : Int32) (x3 : Int32) (h : ixH) : l_Bn_tally_15 a0 a1 x2 x3 h = if x2 ≤ x3 then (ix_gr h a0 9 3).bind fun v1 => (ix_M mTa_empty [.ref v1] h).bind fun r => ix_kV r fun h2 => (ix_gr h2 a0 9 3).bind fun v3 => (ix_M mTa_add [.ref v3, .int 0, .long 1] h2).bind fun r => ix_kV r fun h4 => (ix_gr h4 a1 1 0).bind fun v5 => (ix_gi h4 v5 2 0).bind fun v6 => (ix_gr h4 a1 1 0).bind fun v7 => (ix_gi h4 v7 2 1).bind fun v8 => l_Bn_tally_82 a0 a1 x2 ((v6 + v8) - 1) 0 h4 else (ix_M mBn_prepare [.ref a0, .ref a1, .int x3] h).bind fun r => ix_kV r fun h9 => (ix_gr h9 a0 9 0).bind fun v10 => (ix_al h9 v10 x3).bind fun v11 => if v11 = 0 then some ([.long 0], h9) else l_Bn_tally_15 a0 a1 x2 (x3 + 1) h9 := by
  unfold l_Bn_tally_15
  refine ix_K_px kq_Bn_tally i_Bn_tally_15 rfl rfl ?_
  refine ix_K_px kq_Bn_tally i_Bn_tally_16 rfl rfl ?_
  refine ix_K_ic_ge (tgt := 45) kq_Bn_tally i_Bn_tally_17 rfl (by decide) ?_ ?_
  · refine ix_K_px kq_Bn_tally i_Bn_tally_45 rfl rfl ?_
    refine ix_K_gr kq_Bn_tally i_Bn_tally_46 rfl (fun v1 => ?_)
    refine ix_K_callV (as := [.ref v1]) (rest := []) kq_Bn_tally i_Bn_tally_49 rfl kq_Ta_empty (by decide) rfl rfl (fun h2 => ?_)
    refine ix_K_px kq_Bn_tally i_Bn_tally_52 rfl rfl ?_
    refine ix_K_gr kq_Bn_tally i_Bn_tally_53 rfl (fun v3 => ?_)
    refine ix_K_ci kq_Bn_tally i_Bn_tally_56 rfl kci_0 ?_
    refine ix_K_cl kq_Bn_tally i_Bn_tally_57 rfl kcl_1 ?_
    refine ix_K_callV (as := [.ref v3, .int 0, .long 1]) (rest := []) kq_Bn_tally i_Bn_tally_58 rfl kq_Ta_add (by decide) rfl rfl (fun h4 => ?_)
    refine ix_K_px kq_Bn_tally i_Bn_tally_61 rfl rfl ?_
    refine ix_K_gr kq_Bn_tally i_Bn_tally_62 rfl (fun v5 => ?_)
    refine ix_K_gi kq_Bn_tally i_Bn_tally_65 rfl (fun v6 => ?_)
    refine ix_K_px kq_Bn_tally i_Bn_tally_68 rfl rfl ?_
    refine ix_K_gr kq_Bn_tally i_Bn_tally_69 rfl (fun v7 => ?_)
    refine ix_K_gi kq_Bn_tally i_Bn_tally_72 rfl (fun v8 => ?_)
    refine ix_K_px kq_Bn_tally i_Bn_tally_75 rfl rfl ?_
    refine ix_K_ci kq_Bn_tally i_Bn_tally_76 rfl kci_1 ?_
    refine ix_K_px kq_Bn_tally i_Bn_tally_77 rfl rfl ?_
    refine ix_K_si (L2 := [some (.ref a0), some (.ref a1), some (.int x2), some (.int ((v6 + v8) - 1)), none, none]) kq_Bn_tally i_Bn_tally_78 rfl (Or.inr ⟨_, rfl, rfl⟩) (Nat.le_of_ble_eq_true rfl) rfl ?_
    refine ix_K_ci kq_Bn_tally i_Bn_tally_79 rfl kci_0 ?_
    refine ix_K_si (L2 := [some (.ref a0), some (.ref a1), some (.int x2), some (.int ((v6 + v8) - 1)), some (.int 0), none]) kq_Bn_tally i_Bn_tally_80 rfl (Or.inl rfl) (Nat.le_of_ble_eq_true rfl) rfl ?_
    exact ix_D_cut i_Bn_tally_82 rfl
  · refine ix_K_px kq_Bn_tally i_Bn_tally_20 rfl rfl ?_
    refine ix_K_px kq_Bn_tally i_Bn_tally_21 rfl rfl ?_
    refine ix_K_px kq_Bn_tally i_Bn_tally_22 rfl rfl ?_
    refine ix_K_callV (as := [.ref a0, .ref a1, .int x3]) (rest := []) kq_Bn_tally i_Bn_tally_23 rfl kq_Bn_prepare (by decide) rfl rfl (fun h9 => ?_)
    refine ix_K_px kq_Bn_tally i_Bn_tally_26 rfl rfl ?_
    refine ix_K_gr kq_Bn_tally i_Bn_tally_27 rfl (fun v10 => ?_)
    refine ix_K_px kq_Bn_tally i_Bn_tally_30 rfl rfl ?_
    refine ix_K_al kq_Bn_tally i_Bn_tally_31 rfl (fun v11 => ?_)
    refine ix_K_cl kq_Bn_tally i_Bn_tally_32 rfl kcl_0 ?_
    refine ix_K_px kq_Bn_tally i_Bn_tally_33 rfl rfl ?_
    refine ix_K_lc_ne (tgt := 39) kq_Bn_tally i_Bn_tally_34 rfl (by decide) ?_ ?_
    · refine ix_K_cl kq_Bn_tally i_Bn_tally_37 rfl kcl_0 ?_
      exact ix_D_ret kq_Bn_tally i_Bn_tally_38 (ix_rtL rfl _)
    · refine ix_K_inc (L2 := [some (.ref a0), some (.ref a1), some (.int x2), some (.int (x3 + 1)), none, none]) kq_Bn_tally i_Bn_tally_39 rfl rfl (Nat.le_of_ble_eq_true rfl) kci_1 rfl ?_
      refine ix_K_goto (tgt := 15) kq_Bn_tally i_Bn_tally_42 rfl (by decide) ?_
      exact ix_D_cut i_Bn_tally_15 rfl
set_option maxRecDepth 20000 in
set_option maxHeartbeats 1000000 in
theorem e_Bn_tally_82 (a0 : Nat) (a1 : Nat) (x2 : Int32) (x3 : Int32) (x4 : Int32) (h : ixH) : l_Bn_tally_82 a0 a1 x2 x3 x4 h = if x3 ≤ x4 then (ix_gr h a0 9 3).bind fun v1 => (ix_M mTa_total [.ref v1] h).bind fun r => ix_kL r fun v3 h2 => some ([.long v3], h2) else l_Bn_tally_91 a0 a1 x2 x3 x4 0 h := by
  unfold l_Bn_tally_82
  refine ix_K_px kq_Bn_tally i_Bn_tally_82 rfl rfl ?_
  refine ix_K_px kq_Bn_tally i_Bn_tally_84 rfl rfl ?_
  refine ix_K_ic_ge (tgt := 151) kq_Bn_tally i_Bn_tally_85 rfl (by decide) ?_ ?_
  · refine ix_K_px kq_Bn_tally i_Bn_tally_151 rfl rfl ?_
    refine ix_K_gr kq_Bn_tally i_Bn_tally_152 rfl (fun v1 => ?_)
    refine ix_K_callL (as := [.ref v1]) (rest := []) kq_Bn_tally i_Bn_tally_155 rfl kq_Ta_total (by decide) rfl rfl (fun v3 h2 => ?_)
    exact ix_D_ret kq_Bn_tally i_Bn_tally_158 (ix_rtL rfl _)
  · refine ix_K_ci kq_Bn_tally i_Bn_tally_88 rfl kci_0 ?_
    refine ix_K_si (L2 := [some (.ref a0), some (.ref a1), some (.int x2), some (.int x3), some (.int x4), some (.int 0)]) kq_Bn_tally i_Bn_tally_89 rfl (Or.inl rfl) (Nat.le_of_ble_eq_true rfl) rfl ?_
    exact ix_D_cut i_Bn_tally_91 rfl
set_option maxRecDepth 20000 in
set_option maxHeartbeats 1000000 in
theorem e_Bn_tally_91 (a0 : Nat) (a1 : Nat) (x2 : Int32) (x3 : Int32) (x4 : Int32) (x5 : Int32) (h : ixH) : l_Bn_tally_91 a0 a1 x2 x3 x4 x5 h = if x2 ≤ x5 then l_Bn_tally_82 a0 a1 x2 x3 (x4 + 1) h else (ix_M mBn_isOn [.ref a0, .int x5, .int x4] h).bind fun r => ix_kZ r fun v2 h1 => if v2 = true then (ix_M mBn_advance [.ref a0, .ref a1, .int x5, .int x4] h1).bind fun r => ix_kV r fun h3 => l_Bn_tally_91 a0 a1 x2 x3 x4 (x5 + 1) h3 else (ix_M mBn_isOn [.ref a0, .int x5, .int (x4 - 1)] h1).bind fun r => ix_kZ r fun v5 h4 => if v5 = true then (ix_M mBn_forget [.ref a0, .int x5] h4).bind fun r => ix_kV r fun h6 => l_Bn_tally_91 a0 a1 x2 x3 x4 (x5 + 1) h6 else l_Bn_tally_91 a0 a1 x2 x3 x4 (x5 + 1) h4 := by
  unfold l_Bn_tally_91
  refine ix_K_px kq_Bn_tally i_Bn_tally_91 rfl rfl ?_
  refine ix_K_px kq_Bn_tally i_Bn_tally_93 rfl rfl ?_
  refine ix_K_ic_ge (tgt := 145) kq_Bn_tally i_Bn_tally_94 rfl (by decide) ?_ ?_
  · refine ix_K_inc (L2 := [some (.ref a0), some (.ref a1), some (.int x2), some (.int x3), some (.int (x4 + 1)), some (.int x5)]) kq_Bn_tally i_Bn_tally_145 rfl rfl (Nat.le_of_ble_eq_true rfl) kci_1 rfl ?_
    refine ix_K_goto (tgt := 82) kq_Bn_tally i_Bn_tally_148 rfl (by decide) ?_
    exact ix_D_cut i_Bn_tally_82 rfl
  · refine ix_K_px kq_Bn_tally i_Bn_tally_97 rfl rfl ?_
    refine ix_K_px kq_Bn_tally i_Bn_tally_98 rfl rfl ?_
    refine ix_K_px kq_Bn_tally i_Bn_tally_100 rfl rfl ?_
    refine ix_K_callZ (as := [.ref a0, .int x5, .int x4]) (rest := []) kq_Bn_tally i_Bn_tally_102 rfl kq_Bn_isOn (by decide) rfl rfl (fun v2 h1 => ?_)
    refine ix_K_bz_eq (tgt := 120) kq_Bn_tally i_Bn_tally_105 rfl (by decide) ?_ ?_
    · refine ix_K_px kq_Bn_tally i_Bn_tally_108 rfl rfl ?_
      refine ix_K_px kq_Bn_tally i_Bn_tally_109 rfl rfl ?_
      refine ix_K_px kq_Bn_tally i_Bn_tally_110 rfl rfl ?_
      refine ix_K_px kq_Bn_tally i_Bn_tally_112 rfl rfl ?_
      refine ix_K_callV (as := [.ref a0, .ref a1, .int x5, .int x4]) (rest := []) kq_Bn_tally i_Bn_tally_114 rfl kq_Bn_advance (by decide) rfl rfl (fun h3 => ?_)
      refine ix_K_goto (tgt := 139) kq_Bn_tally i_Bn_tally_117 rfl (by decide) ?_
      refine ix_K_inc (L2 := [some (.ref a0), some (.ref a1), some (.int x2), some (.int x3), some (.int x4), some (.int (x5 + 1))]) kq_Bn_tally i_Bn_tally_139 rfl rfl (Nat.le_of_ble_eq_true rfl) kci_1 rfl ?_
      refine ix_K_goto (tgt := 91) kq_Bn_tally i_Bn_tally_142 rfl (by decide) ?_
      exact ix_D_cut i_Bn_tally_91 rfl
    · refine ix_K_px kq_Bn_tally i_Bn_tally_120 rfl rfl ?_
      refine ix_K_px kq_Bn_tally i_Bn_tally_121 rfl rfl ?_
      refine ix_K_px kq_Bn_tally i_Bn_tally_123 rfl rfl ?_
      refine ix_K_ci kq_Bn_tally i_Bn_tally_125 rfl kci_1 ?_
      refine ix_K_px kq_Bn_tally i_Bn_tally_126 rfl rfl ?_
      refine ix_K_callZ (as := [.ref a0, .int x5, .int (x4 - 1)]) (rest := []) kq_Bn_tally i_Bn_tally_127 rfl kq_Bn_isOn (by decide) rfl rfl (fun v5 h4 => ?_)
      refine ix_K_bz_eq (tgt := 139) kq_Bn_tally i_Bn_tally_130 rfl (by decide) ?_ ?_
      · refine ix_K_px kq_Bn_tally i_Bn_tally_133 rfl rfl ?_
        refine ix_K_px kq_Bn_tally i_Bn_tally_134 rfl rfl ?_
        refine ix_K_callV (as := [.ref a0, .int x5]) (rest := []) kq_Bn_tally i_Bn_tally_136 rfl kq_Bn_forget (by decide) rfl rfl (fun h6 => ?_)
        refine ix_K_inc (L2 := [some (.ref a0), some (.ref a1), some (.int x2), some (.int x3), some (.int x4), some (.int (x5 + 1))]) kq_Bn_tally i_Bn_tally_139 rfl rfl (Nat.le_of_ble_eq_true rfl) kci_1 rfl ?_
        refine ix_K_goto (tgt := 91) kq_Bn_tally i_Bn_tally_142 rfl (by decide) ?_
        exact ix_D_cut i_Bn_tally_91 rfl
      · refine ix_K_inc (L2 := [some (.ref a0), some (.ref a1), some (.int x2), some (.int x3), some (.int x4), some (.int (x5 + 1))]) kq_Bn_tally i_Bn_tally_139 rfl rfl (Nat.le_of_ble_eq_true rfl) kci_1 rfl ?_
        refine ix_K_goto (tgt := 91) kq_Bn_tally i_Bn_tally_142 rfl (by decide) ?_
        exact ix_D_cut i_Bn_tally_91 rfl
set_option maxRecDepth 20000 in
set_option maxHeartbeats 1000000 in
theorem e_Bn_tally (a0 : Nat) (a1 : Nat) (h : ixH) : ix_D mBn_tally 0 [some (.ref a0), some (.ref a1), none, none, none, none] [] h = (ix_gi h a1 1 4).bind fun v1 => l_Bn_tally_15 a0 a1 (ix_mx 0 (ix_mn v1 4)) 0 h := by
  refine ix_K_ci kq_Bn_tally i_Bn_tally_0 rfl kci_0 ?_
  refine ix_K_px kq_Bn_tally i_Bn_tally_1 rfl rfl ?_
  refine ix_K_gi kq_Bn_tally i_Bn_tally_2 rfl (fun v1 => ?_)
  refine ix_K_ci kq_Bn_tally i_Bn_tally_5 rfl kci_4 ?_
  refine ix_K_min kq_Bn_tally i_Bn_tally_6 rfl (Nat.le_of_ble_eq_true rfl) ?_
  refine ix_K_max kq_Bn_tally i_Bn_tally_9 rfl (Nat.le_of_ble_eq_true rfl) ?_
  refine ix_K_si (L2 := [some (.ref a0), some (.ref a1), some (.int (ix_mx 0 (ix_mn v1 4))), none, none, none]) kq_Bn_tally i_Bn_tally_12 rfl (Or.inr ⟨_, rfl, rfl⟩) (Nat.le_of_ble_eq_true rfl) rfl ?_
  refine ix_K_ci kq_Bn_tally i_Bn_tally_13 rfl kci_0 ?_
  refine ix_K_si (L2 := [some (.ref a0), some (.ref a1), some (.int (ix_mx 0 (ix_mn v1 4))), some (.int 0), none, none]) kq_Bn_tally i_Bn_tally_14 rfl (Or.inr ⟨_, rfl, rfl⟩) (Nat.le_of_ble_eq_true rfl) rfl ?_
  exact ix_D_cut i_Bn_tally_15 rfl
theorem x_Bn_tally {a0 : Nat} {a1 : Nat} {h h1 : ixH} {v : Int64} (hr : ix_rc h a0 = some 9) (hd : ix_D mBn_tally 0 [some (.ref a0), some (.ref a1), none, none, none, none] [] h = some ([.long v], h1)) : ix_M mBn_tally [.ref a0, .ref a1] h = some ([.long v], h1) := ix_M_of (ix_ent_i kq_Bn_tally rfl hr rfl (Nat.le_of_ble_eq_true rfl) rfl) hd (ix_okrL rfl v)
theorem i_Bn_prepare_0 : ix_nx mBn_prepare 0 = some (0, .aload_n 1, 1, none, [], 0) := rfl
theorem i_Bn_prepare_1 : ix_nx mBn_prepare 1 = some (1, .getfield 58, 4, none, [1, 0, 2, 32], 0) := rfl
theorem i_Bn_prepare_4 : ix_nx mBn_prepare 4 = some (0, .astore_n 3, 5, none, [], 0) := rfl
theorem i_Bn_prepare_5 : ix_nx mBn_prepare 5 = some (0, .aload_n 1, 6, none, [], 0) := rfl
theorem i_Bn_prepare_6 : ix_nx mBn_prepare 6 = some (1, .getfield 86, 9, none, [1, 2, 2, 37], 0) := rfl
theorem i_Bn_prepare_9 : ix_nx mBn_prepare 9 = some (0, .iload_n 2, 10, none, [], 0) := rfl
theorem i_Bn_prepare_10 : ix_nx mBn_prepare 10 = some (1, .iaload, 11, none, [], 0) := rfl
theorem i_Bn_prepare_11 : ix_nx mBn_prepare 11 = some (0, .istore 4, 13, none, [], 0) := rfl
theorem i_Bn_prepare_13 : ix_nx mBn_prepare 13 = some (0, .aload_n 1, 14, none, [], 0) := rfl
theorem i_Bn_prepare_14 : ix_nx mBn_prepare 14 = some (1, .getfield 89, 17, none, [1, 3, 2, 40], 0) := rfl
theorem i_Bn_prepare_17 : ix_nx mBn_prepare 17 = some (0, .iload_n 2, 18, none, [], 0) := rfl
theorem i_Bn_prepare_18 : ix_nx mBn_prepare 18 = some (1, .iaload, 19, none, [], 0) := rfl
theorem i_Bn_prepare_19 : ix_nx mBn_prepare 19 = some (0, .istore 5, 21, none, [], 0) := rfl
theorem i_Bn_prepare_21 : ix_nx mBn_prepare 21 = some (0, .aload_n 0, 22, none, [], 0) := rfl
theorem i_Bn_prepare_22 : ix_nx mBn_prepare 22 = some (1, .getfield 9, 25, none, [9, 0, 2, 85], 0) := rfl
theorem i_Bn_prepare_25 : ix_nx mBn_prepare 25 = some (0, .iload_n 2, 26, none, [], 0) := rfl
theorem i_Bn_prepare_26 : ix_nx mBn_prepare 26 = some (0, .aload_n 3, 27, none, [], 0) := rfl
theorem i_Bn_prepare_27 : ix_nx mBn_prepare 27 = some (0, .iload 4, 29, none, [], 0) := rfl
theorem i_Bn_prepare_29 : ix_nx mBn_prepare 29 = some (3, .invokevirtual 92, 32, none, [0, 71, 156], 0) := rfl
theorem i_Bn_prepare_32 : ix_nx mBn_prepare 32 = some (0, .aload_n 3, 33, none, [], 0) := rfl
theorem i_Bn_prepare_33 : ix_nx mBn_prepare 33 = some (0, .iload 5, 35, none, [], 0) := rfl
theorem i_Bn_prepare_35 : ix_nx mBn_prepare 35 = some (3, .invokevirtual 96, 38, none, [0, 74, 157], 0) := rfl
theorem i_Bn_prepare_38 : ix_nx mBn_prepare 38 = some (0, .land, 39, none, [], 0) := rfl
theorem i_Bn_prepare_39 : ix_nx mBn_prepare 39 = some (2, .lastore, 40, none, [], 0) := rfl
theorem i_Bn_prepare_40 : ix_nx mBn_prepare 40 = some (0, .aload_n 0, 41, none, [], 0) := rfl
theorem i_Bn_prepare_41 : ix_nx mBn_prepare 41 = some (1, .getfield 15, 44, none, [9, 1, 2, 86], 0) := rfl
theorem i_Bn_prepare_44 : ix_nx mBn_prepare 44 = some (0, .iload_n 2, 45, none, [], 0) := rfl
theorem i_Bn_prepare_45 : ix_nx mBn_prepare 45 = some (0, .aload_n 3, 46, none, [], 0) := rfl
theorem i_Bn_prepare_46 : ix_nx mBn_prepare 46 = some (0, .iload 4, 48, none, [], 0) := rfl
theorem i_Bn_prepare_48 : ix_nx mBn_prepare 48 = some (3, .invokevirtual 99, 51, none, [0, 75, 158], 0) := rfl
theorem i_Bn_prepare_51 : ix_nx mBn_prepare 51 = some (2, .iastore, 52, none, [], 0) := rfl
theorem i_Bn_prepare_52 : ix_nx mBn_prepare 52 = some (0, .aload_n 0, 53, none, [], 0) := rfl
theorem i_Bn_prepare_53 : ix_nx mBn_prepare 53 = some (1, .getfield 19, 56, none, [9, 2, 2, 87], 0) := rfl
theorem i_Bn_prepare_56 : ix_nx mBn_prepare 56 = some (0, .iload_n 2, 57, none, [], 0) := rfl
theorem i_Bn_prepare_57 : ix_nx mBn_prepare 57 = some (0, .aload_n 3, 58, none, [], 0) := rfl
theorem i_Bn_prepare_58 : ix_nx mBn_prepare 58 = some (0, .iload 5, 60, none, [], 0) := rfl
theorem i_Bn_prepare_60 : ix_nx mBn_prepare 60 = some (3, .invokevirtual 99, 63, none, [0, 75, 158], 0) := rfl
theorem i_Bn_prepare_63 : ix_nx mBn_prepare 63 = some (2, .iastore, 64, none, [], 0) := rfl
theorem i_Bn_prepare_64 : ix_nx mBn_prepare 64 = some (4, .return_, 65, none, [], 0) := rfl
set_option maxRecDepth 20000 in
set_option maxHeartbeats 1000000 in
theorem e_Bn_prepare (a0 : Nat) (a1 : Nat) (x2 : Int32) (h : ixH) : ix_D mBn_prepare 0 [some (.ref a0), some (.ref a1), some (.int x2), none, none, none] [] h = (ix_gr h a1 1 0).bind fun v1 => (ix_gr h a1 1 2).bind fun v2 => (ix_ai h v2 x2).bind fun v3 => (ix_gr h a1 1 3).bind fun v4 => (ix_ai h v4 x2).bind fun v5 => (ix_gr h a0 9 0).bind fun v6 => (ix_M mGr_behind [.ref v1, .int v3] h).bind fun r => ix_kL r fun v8 h7 => (ix_M mGr_ahead [.ref v1, .int v5] h7).bind fun r => ix_kL r fun v10 h9 => (ix_sl h9 v6 x2 (v8 &&& v10)).bind fun h11 => (ix_gr h11 a0 9 1).bind fun v12 => (ix_M mGr_diagonalOf [.ref v1, .int v3] h11).bind fun r => ix_kI r fun v14 h13 => (ix_si h13 v12 x2 v14).bind fun h15 => (ix_gr h15 a0 9 2).bind fun v16 => (ix_M mGr_diagonalOf [.ref v1, .int v5] h15).bind fun r => ix_kI r fun v18 h17 => (ix_si h17 v16 x2 v18).bind fun h19 => some ([], h19) := by
  refine ix_K_px kq_Bn_prepare i_Bn_prepare_0 rfl rfl ?_
  refine ix_K_gr kq_Bn_prepare i_Bn_prepare_1 rfl (fun v1 => ?_)
  refine ix_K_sr (L2 := [some (.ref a0), some (.ref a1), some (.int x2), some (.ref v1), none, none]) kq_Bn_prepare i_Bn_prepare_4 rfl (Or.inr ⟨_, rfl, rfl⟩) (Nat.le_of_ble_eq_true rfl) rfl ?_
  refine ix_K_px kq_Bn_prepare i_Bn_prepare_5 rfl rfl ?_
  refine ix_K_gr kq_Bn_prepare i_Bn_prepare_6 rfl (fun v2 => ?_)
  refine ix_K_px kq_Bn_prepare i_Bn_prepare_9 rfl rfl ?_
  refine ix_K_ai kq_Bn_prepare i_Bn_prepare_10 rfl (fun v3 => ?_)
  refine ix_K_si (L2 := [some (.ref a0), some (.ref a1), some (.int x2), some (.ref v1), some (.int v3), none]) kq_Bn_prepare i_Bn_prepare_11 rfl (Or.inl rfl) (Nat.le_of_ble_eq_true rfl) rfl ?_
  refine ix_K_px kq_Bn_prepare i_Bn_prepare_13 rfl rfl ?_
  refine ix_K_gr kq_Bn_prepare i_Bn_prepare_14 rfl (fun v4 => ?_)
  refine ix_K_px kq_Bn_prepare i_Bn_prepare_17 rfl rfl ?_
  refine ix_K_ai kq_Bn_prepare i_Bn_prepare_18 rfl (fun v5 => ?_)
  refine ix_K_si (L2 := [some (.ref a0), some (.ref a1), some (.int x2), some (.ref v1), some (.int v3), some (.int v5)]) kq_Bn_prepare i_Bn_prepare_19 rfl (Or.inl rfl) (Nat.le_of_ble_eq_true rfl) rfl ?_
  refine ix_K_px kq_Bn_prepare i_Bn_prepare_21 rfl rfl ?_
  refine ix_K_gr kq_Bn_prepare i_Bn_prepare_22 rfl (fun v6 => ?_)
  refine ix_K_px kq_Bn_prepare i_Bn_prepare_25 rfl rfl ?_
  refine ix_K_px kq_Bn_prepare i_Bn_prepare_26 rfl rfl ?_
  refine ix_K_px kq_Bn_prepare i_Bn_prepare_27 rfl rfl ?_
  refine ix_K_callL (as := [.ref v1, .int v3]) (rest := [.int x2, .ref v6]) kq_Bn_prepare i_Bn_prepare_29 rfl kq_Gr_behind (by decide) rfl rfl (fun v8 h7 => ?_)
  refine ix_K_px kq_Bn_prepare i_Bn_prepare_32 rfl rfl ?_
  refine ix_K_px kq_Bn_prepare i_Bn_prepare_33 rfl rfl ?_
  refine ix_K_callL (as := [.ref v1, .int v5]) (rest := [.long v8, .int x2, .ref v6]) kq_Bn_prepare i_Bn_prepare_35 rfl kq_Gr_ahead (by decide) rfl rfl (fun v10 h9 => ?_)
  refine ix_K_px kq_Bn_prepare i_Bn_prepare_38 rfl rfl ?_
  refine ix_K_tl kq_Bn_prepare i_Bn_prepare_39 rfl (fun h11 => ?_)
  refine ix_K_px kq_Bn_prepare i_Bn_prepare_40 rfl rfl ?_
  refine ix_K_gr kq_Bn_prepare i_Bn_prepare_41 rfl (fun v12 => ?_)
  refine ix_K_px kq_Bn_prepare i_Bn_prepare_44 rfl rfl ?_
  refine ix_K_px kq_Bn_prepare i_Bn_prepare_45 rfl rfl ?_
  refine ix_K_px kq_Bn_prepare i_Bn_prepare_46 rfl rfl ?_
  refine ix_K_callI (as := [.ref v1, .int v3]) (rest := [.int x2, .ref v12]) kq_Bn_prepare i_Bn_prepare_48 rfl kq_Gr_diagonalOf (by decide) rfl (Or.inl rfl) (fun v14 h13 => ?_)
  refine ix_K_ti kq_Bn_prepare i_Bn_prepare_51 rfl (fun h15 => ?_)
  refine ix_K_px kq_Bn_prepare i_Bn_prepare_52 rfl rfl ?_
  refine ix_K_gr kq_Bn_prepare i_Bn_prepare_53 rfl (fun v16 => ?_)
  refine ix_K_px kq_Bn_prepare i_Bn_prepare_56 rfl rfl ?_
  refine ix_K_px kq_Bn_prepare i_Bn_prepare_57 rfl rfl ?_
  refine ix_K_px kq_Bn_prepare i_Bn_prepare_58 rfl rfl ?_
  refine ix_K_callI (as := [.ref v1, .int v5]) (rest := [.int x2, .ref v16]) kq_Bn_prepare i_Bn_prepare_60 rfl kq_Gr_diagonalOf (by decide) rfl (Or.inl rfl) (fun v18 h17 => ?_)
  refine ix_K_ti kq_Bn_prepare i_Bn_prepare_63 rfl (fun h19 => ?_)
  exact ix_D_ret kq_Bn_prepare i_Bn_prepare_64 (ix_rtV rfl)
theorem x_Bn_prepare {a0 : Nat} {a1 : Nat} {x2 : Int32} {h h1 : ixH} (hr : ix_rc h a0 = some 9) (hd : ix_D mBn_prepare 0 [some (.ref a0), some (.ref a1), some (.int x2), none, none, none] [] h = some ([], h1)) : ix_M mBn_prepare [.ref a0, .ref a1, .int x2] h = some ([], h1) := ix_M_of (ix_ent_i kq_Bn_prepare rfl hr rfl (Nat.le_of_ble_eq_true rfl) rfl) hd (ix_okrV rfl)
theorem i_Bn_isOn_0 : ix_nx mBn_isOn 0 = some (0, .iload_n 2, 1, none, [], 0) := rfl
theorem i_Bn_isOn_1 : ix_nx mBn_isOn 1 = some (0, .aload_n 0, 2, none, [], 0) := rfl
theorem i_Bn_isOn_2 : ix_nx mBn_isOn 2 = some (1, .getfield 15, 5, none, [9, 1, 2, 86], 0) := rfl
theorem i_Bn_isOn_5 : ix_nx mBn_isOn 5 = some (0, .iload_n 1, 6, none, [], 0) := rfl
theorem i_Bn_isOn_6 : ix_nx mBn_isOn 6 = some (1, .iaload, 7, none, [], 0) := rfl
theorem i_Bn_isOn_7 : ix_nx mBn_isOn 7 = some (0, .if_icmp .lt 17, 10, none, [], 0) := rfl
theorem i_Bn_isOn_10 : ix_nx mBn_isOn 10 = some (0, .iload_n 2, 11, none, [], 0) := rfl
theorem i_Bn_isOn_11 : ix_nx mBn_isOn 11 = some (0, .aload_n 0, 12, none, [], 0) := rfl
theorem i_Bn_isOn_12 : ix_nx mBn_isOn 12 = some (1, .getfield 19, 15, none, [9, 2, 2, 87], 0) := rfl
theorem i_Bn_isOn_15 : ix_nx mBn_isOn 15 = some (0, .iload_n 1, 16, none, [], 0) := rfl
theorem i_Bn_isOn_16 : ix_nx mBn_isOn 16 = some (1, .iaload, 17, none, [], 0) := rfl
theorem i_Bn_isOn_17 : ix_nx mBn_isOn 17 = some (0, .if_icmp .gt 7, 20, none, [], 0) := rfl
theorem i_Bn_isOn_20 : ix_nx mBn_isOn 20 = some (0, .iconst 1, 21, none, [], 0) := rfl
theorem i_Bn_isOn_21 : ix_nx mBn_isOn 21 = some (0, .goto 4, 24, none, [], 0) := rfl
theorem i_Bn_isOn_24 : ix_nx mBn_isOn 24 = some (0, .iconst 0, 25, none, [], 0) := rfl
theorem i_Bn_isOn_25 : ix_nx mBn_isOn 25 = some (4, .ireturn, 26, none, [], 0) := rfl
set_option maxRecDepth 20000 in
set_option maxHeartbeats 1000000 in
theorem e_Bn_isOn (a0 : Nat) (x1 : Int32) (x2 : Int32) (h : ixH) : ix_D mBn_isOn 0 [some (.ref a0), some (.int x1), some (.int x2)] [] h = (ix_gr h a0 9 1).bind fun v1 => (ix_ai h v1 x1).bind fun v2 => if x2 < v2 then some ([.int (ix_bi false)], h) else (ix_gr h a0 9 2).bind fun v3 => (ix_ai h v3 x1).bind fun v4 => if v4 < x2 then some ([.int (ix_bi false)], h) else some ([.int (ix_bi true)], h) := by
  refine ix_K_px kq_Bn_isOn i_Bn_isOn_0 rfl rfl ?_
  refine ix_K_px kq_Bn_isOn i_Bn_isOn_1 rfl rfl ?_
  refine ix_K_gr kq_Bn_isOn i_Bn_isOn_2 rfl (fun v1 => ?_)
  refine ix_K_px kq_Bn_isOn i_Bn_isOn_5 rfl rfl ?_
  refine ix_K_ai kq_Bn_isOn i_Bn_isOn_6 rfl (fun v2 => ?_)
  refine ix_K_ic_lt (tgt := 24) kq_Bn_isOn i_Bn_isOn_7 rfl (by decide) ?_ ?_
  · refine ix_K_ci kq_Bn_isOn i_Bn_isOn_24 rfl kci_0 ?_
    exact ix_D_ret kq_Bn_isOn i_Bn_isOn_25 (ix_rtZ rfl false)
  · refine ix_K_px kq_Bn_isOn i_Bn_isOn_10 rfl rfl ?_
    refine ix_K_px kq_Bn_isOn i_Bn_isOn_11 rfl rfl ?_
    refine ix_K_gr kq_Bn_isOn i_Bn_isOn_12 rfl (fun v3 => ?_)
    refine ix_K_px kq_Bn_isOn i_Bn_isOn_15 rfl rfl ?_
    refine ix_K_ai kq_Bn_isOn i_Bn_isOn_16 rfl (fun v4 => ?_)
    refine ix_K_ic_gt (tgt := 24) kq_Bn_isOn i_Bn_isOn_17 rfl (by decide) ?_ ?_
    · refine ix_K_ci kq_Bn_isOn i_Bn_isOn_24 rfl kci_0 ?_
      exact ix_D_ret kq_Bn_isOn i_Bn_isOn_25 (ix_rtZ rfl false)
    · refine ix_K_ci kq_Bn_isOn i_Bn_isOn_20 rfl kci_1 ?_
      refine ix_K_goto (tgt := 25) kq_Bn_isOn i_Bn_isOn_21 rfl (by decide) ?_
      exact ix_D_ret kq_Bn_isOn i_Bn_isOn_25 (ix_rtZ rfl true)
theorem x_Bn_isOn {a0 : Nat} {x1 : Int32} {x2 : Int32} {h h1 : ixH} {v : Bool} (hr : ix_rc h a0 = some 9) (hd : ix_D mBn_isOn 0 [some (.ref a0), some (.int x1), some (.int x2)] [] h = some ([.int (ix_bi v)], h1)) : ix_M mBn_isOn [.ref a0, .int x1, .int x2] h = some ([.int (ix_bi v)], h1) := ix_M_of (ix_ent_i kq_Bn_isOn rfl hr rfl (Nat.le_of_ble_eq_true rfl) rfl) hd (ix_okrZ rfl v)
theorem i_Bn_advance_0 : ix_nx mBn_advance 0 = some (0, .aload_n 0, 1, none, [], 0) := rfl
theorem i_Bn_advance_1 : ix_nx mBn_advance 1 = some (0, .aload_n 1, 2, none, [], 0) := rfl
theorem i_Bn_advance_2 : ix_nx mBn_advance 2 = some (1, .getfield 58, 5, none, [1, 0, 2, 32], 0) := rfl
theorem i_Bn_advance_5 : ix_nx mBn_advance 5 = some (0, .iload_n 2, 6, none, [], 0) := rfl
theorem i_Bn_advance_6 : ix_nx mBn_advance 6 = some (0, .iload_n 3, 7, none, [], 0) := rfl
theorem i_Bn_advance_7 : ix_nx mBn_advance 7 = some (3, .invokevirtual 103, 10, none, [0, 132, 159], 0) := rfl
theorem i_Bn_advance_10 : ix_nx mBn_advance 10 = some (0, .istore 4, 12, none, [], 0) := rfl
theorem i_Bn_advance_12 : ix_nx mBn_advance 12 = some (0, .aload_n 0, 13, none, [], 0) := rfl
theorem i_Bn_advance_13 : ix_nx mBn_advance 13 = some (0, .iload_n 2, 14, none, [], 0) := rfl
theorem i_Bn_advance_14 : ix_nx mBn_advance 14 = some (0, .iload_n 3, 15, none, [], 0) := rfl
theorem i_Bn_advance_15 : ix_nx mBn_advance 15 = some (3, .invokevirtual 107, 18, none, [0, 133, 160], 0) := rfl
theorem i_Bn_advance_18 : ix_nx mBn_advance 18 = some (0, .istore 5, 20, none, [], 0) := rfl
theorem i_Bn_advance_20 : ix_nx mBn_advance 20 = some (0, .iload_n 3, 21, none, [], 0) := rfl
theorem i_Bn_advance_21 : ix_nx mBn_advance 21 = some (0, .aload_n 0, 22, none, [], 0) := rfl
theorem i_Bn_advance_22 : ix_nx mBn_advance 22 = some (1, .getfield 15, 25, none, [9, 1, 2, 86], 0) := rfl
theorem i_Bn_advance_25 : ix_nx mBn_advance 25 = some (0, .iload_n 2, 26, none, [], 0) := rfl
theorem i_Bn_advance_26 : ix_nx mBn_advance 26 = some (1, .iaload, 27, none, [], 0) := rfl
theorem i_Bn_advance_27 : ix_nx mBn_advance 27 = some (0, .if_icmp .ne 7, 30, none, [], 0) := rfl
theorem i_Bn_advance_30 : ix_nx mBn_advance 30 = some (0, .iconst 1, 31, none, [], 0) := rfl
theorem i_Bn_advance_31 : ix_nx mBn_advance 31 = some (0, .goto 4, 34, none, [], 0) := rfl
theorem i_Bn_advance_34 : ix_nx mBn_advance 34 = some (0, .iconst 0, 35, none, [], 0) := rfl
theorem i_Bn_advance_35 : ix_nx mBn_advance 35 = some (0, .istore 6, 37, none, [], 0) := rfl
theorem i_Bn_advance_37 : ix_nx mBn_advance 37 = some (0, .aload_n 1, 38, none, [], 0) := rfl
theorem i_Bn_advance_38 : ix_nx mBn_advance 38 = some (1, .getfield 58, 41, none, [1, 0, 2, 32], 0) := rfl
theorem i_Bn_advance_41 : ix_nx mBn_advance 41 = some (0, .aload_n 1, 42, none, [], 0) := rfl
theorem i_Bn_advance_42 : ix_nx mBn_advance 42 = some (1, .getfield 86, 45, none, [1, 2, 2, 37], 0) := rfl
theorem i_Bn_advance_45 : ix_nx mBn_advance 45 = some (0, .iload_n 2, 46, none, [], 0) := rfl
theorem i_Bn_advance_46 : ix_nx mBn_advance 46 = some (1, .iaload, 47, none, [], 0) := rfl
theorem i_Bn_advance_47 : ix_nx mBn_advance 47 = some (3, .invokevirtual 110, 50, none, [0, 76, 161], 0) := rfl
theorem i_Bn_advance_50 : ix_nx mBn_advance 50 = some (0, .istore 7, 52, none, [], 0) := rfl
theorem i_Bn_advance_52 : ix_nx mBn_advance 52 = some (0, .aload_n 0, 53, none, [], 0) := rfl
theorem i_Bn_advance_53 : ix_nx mBn_advance 53 = some (1, .getfield 29, 56, none, [9, 4, 2, 89], 0) := rfl
theorem i_Bn_advance_56 : ix_nx mBn_advance 56 = some (3, .invokevirtual 51, 59, none, [0, 140, 150], 0) := rfl
theorem i_Bn_advance_59 : ix_nx mBn_advance 59 = some (0, .iconst 0, 60, none, [], 0) := rfl
theorem i_Bn_advance_60 : ix_nx mBn_advance 60 = some (0, .istore 8, 62, none, [], 0) := rfl
theorem i_Bn_advance_62 : ix_nx mBn_advance 62 = some (0, .iload 8, 64, some [true, false, true, false, true, true, true, true, true, false, false, false], [], 0) := rfl
theorem i_Bn_advance_64 : ix_nx mBn_advance 64 = some (0, .aload_n 0, 65, none, [], 0) := rfl
theorem i_Bn_advance_65 : ix_nx mBn_advance 65 = some (1, .getfield 25, 68, none, [9, 3, 2, 88], 0) := rfl
theorem i_Bn_advance_68 : ix_nx mBn_advance 68 = some (1, .getfield 113, 71, none, [10, 2, 0, 84], 0) := rfl
theorem i_Bn_advance_71 : ix_nx mBn_advance 71 = some (0, .if_icmp .ge 126, 74, none, [], 0) := rfl
theorem i_Bn_advance_74 : ix_nx mBn_advance 74 = some (0, .aload_n 0, 75, none, [], 0) := rfl
theorem i_Bn_advance_75 : ix_nx mBn_advance 75 = some (1, .getfield 25, 78, none, [9, 3, 2, 88], 0) := rfl
theorem i_Bn_advance_78 : ix_nx mBn_advance 78 = some (0, .iload 8, 80, none, [], 0) := rfl
theorem i_Bn_advance_80 : ix_nx mBn_advance 80 = some (3, .invokevirtual 116, 83, none, [0, 141, 162], 0) := rfl
theorem i_Bn_advance_83 : ix_nx mBn_advance 83 = some (0, .istore 9, 85, none, [], 0) := rfl
theorem i_Bn_advance_85 : ix_nx mBn_advance 85 = some (0, .iload 6, 87, none, [], 0) := rfl
theorem i_Bn_advance_87 : ix_nx mBn_advance 87 = some (0, .ifCond .eq 8, 90, none, [], 0) := rfl
theorem i_Bn_advance_90 : ix_nx mBn_advance 90 = some (0, .iload 7, 92, none, [], 0) := rfl
theorem i_Bn_advance_92 : ix_nx mBn_advance 92 = some (0, .goto 9, 95, none, [], 0) := rfl
theorem i_Bn_advance_95 : ix_nx mBn_advance 95 = some (0, .iload 9, 97, none, [], 0) := rfl
theorem i_Bn_advance_97 : ix_nx mBn_advance 97 = some (0, .iload_n 2, 98, none, [], 0) := rfl
theorem i_Bn_advance_98 : ix_nx mBn_advance 98 = some (3, .invokestatic 119, 101, none, [1, 134, 163], 0) := rfl
theorem i_Bn_advance_101 : ix_nx mBn_advance 101 = some (0, .istore 10, 103, some [true, false, true, false, true, true, true, true, true, true, false, false], [], 0) := rfl
theorem i_Bn_advance_103 : ix_nx mBn_advance 103 = some (0, .iload 4, 105, none, [], 0) := rfl
theorem i_Bn_advance_105 : ix_nx mBn_advance 105 = some (0, .iload 9, 107, none, [], 0) := rfl
theorem i_Bn_advance_107 : ix_nx mBn_advance 107 = some (0, .iload 5, 109, none, [], 0) := rfl
theorem i_Bn_advance_109 : ix_nx mBn_advance 109 = some (3, .invokestatic 122, 112, none, [1, 135, 164], 0) := rfl
theorem i_Bn_advance_112 : ix_nx mBn_advance 112 = some (0, .iconst (-1), 113, none, [], 0) := rfl
theorem i_Bn_advance_113 : ix_nx mBn_advance 113 = some (0, .ixor, 114, none, [], 0) := rfl
theorem i_Bn_advance_114 : ix_nx mBn_advance 114 = some (0, .iand, 115, none, [], 0) := rfl
theorem i_Bn_advance_115 : ix_nx mBn_advance 115 = some (0, .istore 11, 117, none, [], 0) := rfl
theorem i_Bn_advance_117 : ix_nx mBn_advance 117 = some (0, .iload 11, 119, none, [], 0) := rfl
theorem i_Bn_advance_119 : ix_nx mBn_advance 119 = some (0, .iload 10, 121, none, [], 0) := rfl
theorem i_Bn_advance_121 : ix_nx mBn_advance 121 = some (0, .ishr, 122, none, [], 0) := rfl
theorem i_Bn_advance_122 : ix_nx mBn_advance 122 = some (0, .iconst 1, 123, none, [], 0) := rfl
theorem i_Bn_advance_123 : ix_nx mBn_advance 123 = some (0, .iand, 124, none, [], 0) := rfl
theorem i_Bn_advance_124 : ix_nx mBn_advance 124 = some (0, .iconst 1, 125, none, [], 0) := rfl
theorem i_Bn_advance_125 : ix_nx mBn_advance 125 = some (0, .if_icmp .ne 27, 128, none, [], 0) := rfl
theorem i_Bn_advance_128 : ix_nx mBn_advance 128 = some (0, .aload_n 0, 129, none, [], 0) := rfl
theorem i_Bn_advance_129 : ix_nx mBn_advance 129 = some (1, .getfield 29, 132, none, [9, 4, 2, 89], 0) := rfl
theorem i_Bn_advance_132 : ix_nx mBn_advance 132 = some (0, .iload 9, 134, none, [], 0) := rfl
theorem i_Bn_advance_134 : ix_nx mBn_advance 134 = some (0, .iload_n 2, 135, none, [], 0) := rfl
theorem i_Bn_advance_135 : ix_nx mBn_advance 135 = some (0, .iload 10, 137, none, [], 0) := rfl
theorem i_Bn_advance_137 : ix_nx mBn_advance 137 = some (3, .invokestatic 125, 140, none, [1, 136, 165], 0) := rfl
theorem i_Bn_advance_140 : ix_nx mBn_advance 140 = some (0, .aload_n 0, 141, none, [], 0) := rfl
theorem i_Bn_advance_141 : ix_nx mBn_advance 141 = some (1, .getfield 25, 144, none, [9, 3, 2, 88], 0) := rfl
theorem i_Bn_advance_144 : ix_nx mBn_advance 144 = some (0, .iload 8, 146, none, [], 0) := rfl
theorem i_Bn_advance_146 : ix_nx mBn_advance 146 = some (3, .invokevirtual 129, 149, none, [0, 143, 166], 0) := rfl
theorem i_Bn_advance_149 : ix_nx mBn_advance 149 = some (3, .invokevirtual 54, 152, none, [0, 142, 151], 0) := rfl
theorem i_Bn_advance_152 : ix_nx mBn_advance 152 = some (0, .iload 11, 154, some [true, false, true, false, true, true, true, true, true, true, true, true], [], 0) := rfl
theorem i_Bn_advance_154 : ix_nx mBn_advance 154 = some (0, .iload 10, 156, none, [], 0) := rfl
set_option maxRecDepth 50000 in
theorem i_Bn_advance_156 : ix_nx mBn_advance 156 = some (0, .iconst 1, 157, none, [], 0) := rfl
set_option maxRecDepth 50000 in
theorem i_Bn_advance_157 : ix_nx mBn_advance 157 = some (0, .iadd, 158, none, [], 0) := rfl
set_option maxRecDepth 50000 in
theorem i_Bn_advance_158 : ix_nx mBn_advance 158 = some (0, .ishr, 159, none, [], 0) := rfl
set_option maxRecDepth 50000 in
theorem i_Bn_advance_159 : ix_nx mBn_advance 159 = some (0, .iconst 1, 160, none, [], 0) := rfl
set_option maxRecDepth 50000 in
theorem i_Bn_advance_160 : ix_nx mBn_advance 160 = some (0, .iand, 161, none, [], 0) := rfl
set_option maxRecDepth 50000 in
theorem i_Bn_advance_161 : ix_nx mBn_advance 161 = some (0, .iconst 1, 162, none, [], 0) := rfl
set_option maxRecDepth 50000 in
theorem i_Bn_advance_162 : ix_nx mBn_advance 162 = some (0, .if_icmp .ne 29, 165, none, [], 0) := rfl
set_option maxRecDepth 50000 in
theorem i_Bn_advance_165 : ix_nx mBn_advance 165 = some (0, .aload_n 0, 166, none, [], 0) := rfl
set_option maxRecDepth 50000 in
theorem i_Bn_advance_166 : ix_nx mBn_advance 166 = some (1, .getfield 29, 169, none, [9, 4, 2, 89], 0) := rfl
set_option maxRecDepth 50000 in
theorem i_Bn_advance_169 : ix_nx mBn_advance 169 = some (0, .iload 9, 171, none, [], 0) := rfl
set_option maxRecDepth 50000 in
theorem i_Bn_advance_171 : ix_nx mBn_advance 171 = some (0, .iload_n 2, 172, none, [], 0) := rfl
set_option maxRecDepth 50000 in
theorem i_Bn_advance_172 : ix_nx mBn_advance 172 = some (0, .iload 10, 174, none, [], 0) := rfl
set_option maxRecDepth 50000 in
theorem i_Bn_advance_174 : ix_nx mBn_advance 174 = some (0, .iconst 1, 175, none, [], 0) := rfl
set_option maxRecDepth 50000 in
theorem i_Bn_advance_175 : ix_nx mBn_advance 175 = some (0, .iadd, 176, none, [], 0) := rfl
set_option maxRecDepth 50000 in
theorem i_Bn_advance_176 : ix_nx mBn_advance 176 = some (3, .invokestatic 125, 179, none, [1, 136, 165], 0) := rfl
set_option maxRecDepth 50000 in
theorem i_Bn_advance_179 : ix_nx mBn_advance 179 = some (0, .aload_n 0, 180, none, [], 0) := rfl
set_option maxRecDepth 50000 in
theorem i_Bn_advance_180 : ix_nx mBn_advance 180 = some (1, .getfield 25, 183, none, [9, 3, 2, 88], 0) := rfl
set_option maxRecDepth 50000 in
theorem i_Bn_advance_183 : ix_nx mBn_advance 183 = some (0, .iload 8, 185, none, [], 0) := rfl
set_option maxRecDepth 50000 in
theorem i_Bn_advance_185 : ix_nx mBn_advance 185 = some (3, .invokevirtual 129, 188, none, [0, 143, 166], 0) := rfl
set_option maxRecDepth 50000 in
theorem i_Bn_advance_188 : ix_nx mBn_advance 188 = some (3, .invokevirtual 54, 191, none, [0, 142, 151], 0) := rfl
set_option maxRecDepth 50000 in
theorem i_Bn_advance_191 : ix_nx mBn_advance 191 = some (0, .iinc 8 1, 194, none, [], 0) := rfl
set_option maxRecDepth 50000 in
theorem i_Bn_advance_194 : ix_nx mBn_advance 194 = some (0, .goto (-132), 197, none, [], 0) := rfl
set_option maxRecDepth 50000 in
theorem i_Bn_advance_197 : ix_nx mBn_advance 197 = some (0, .aload_n 0, 198, none, [], 0) := rfl
set_option maxRecDepth 50000 in
theorem i_Bn_advance_198 : ix_nx mBn_advance 198 = some (3, .invokevirtual 132, 201, none, [0, 137, 167], 0) := rfl
set_option maxRecDepth 50000 in
theorem i_Bn_advance_201 : ix_nx mBn_advance 201 = some (4, .return_, 202, none, [], 0) := rfl
noncomputable def l_Bn_advance_62 (a0 : Nat) (x2 : Int32) (x4 : Int32) (x5 : Int32) (b6 : Bool) (x7 : Int32) (x8 : Int32) (h : ixH) : Option (List Value × ixH) := ix_D mBn_advance 62 [some (.ref a0), none, some (.int x2), none, some (.int x4), some (.int x5), some (.int (ix_bi b6)), some (.int x7), some (.int x8), none, none, none] [] h
noncomputable def l_Bn_advance_101 (a0 : Nat) (x2 : Int32) (x4 : Int32) (x5 : Int32) (b6 : Bool) (x7 : Int32) (x8 : Int32) (x9 : Int32) (s0 : Int32) (h : ixH) : Option (List Value × ixH) := ix_D mBn_advance 101 [some (.ref a0), none, some (.int x2), none, some (.int x4), some (.int x5), some (.int (ix_bi b6)), some (.int x7), some (.int x8), some (.int x9), none, none] [.int s0] h
noncomputable def l_Bn_advance_152 (a0 : Nat) (x2 : Int32) (x4 : Int32) (x5 : Int32) (b6 : Bool) (x7 : Int32) (x8 : Int32) (x9 : Int32) (x10 : Int32) (x11 : Int32) (h : ixH) : Option (List Value × ixH) := ix_D mBn_advance 152 [some (.ref a0), none, some (.int x2), none, some (.int x4), some (.int x5), some (.int (ix_bi b6)), some (.int x7), some (.int x8), some (.int x9), some (.int x10), some (.int x11)] [] h
set_option maxRecDepth 20000 in
set_option maxHeartbeats 1000000 in
theorem e_Bn_advance_62 (a0 : Nat) (x2 : Int32) (x4 : Int32) (x5 : Int32) (b6 : Bool) (x7 : Int32) (x8 : Int32) (h : ixH) : l_Bn_advance_62 a0 x2 x4 x5 b6 x7 x8 h = (ix_gr h a0 9 3).bind fun v1 => (ix_gi h v1 10 2).bind fun v2 => if v2 ≤ x8 then (ix_M mBn_exchangeTallies [.ref a0] h).bind fun r => ix_kV r fun h3 => some ([], h3) else (ix_gr h a0 9 3).bind fun v4 => (ix_M mTa_rowsAt [.ref v4, .int x8] h).bind fun r => ix_kI r fun v6 h5 => if b6 = true then l_Bn_advance_101 a0 x2 x4 x5 b6 x7 x8 v6 x7 h5 else (ix_M mBn_rowIn [.int v6, .int x2] h5).bind fun r => ix_kI r fun v8 h7 => l_Bn_advance_101 a0 x2 x4 x5 b6 x7 x8 v6 v8 h7 := by
  unfold l_Bn_advance_62
  refine ix_K_px kq_Bn_advance i_Bn_advance_62 rfl rfl ?_
  refine ix_K_px kq_Bn_advance i_Bn_advance_64 rfl rfl ?_
  refine ix_K_gr kq_Bn_advance i_Bn_advance_65 rfl (fun v1 => ?_)
  refine ix_K_gi kq_Bn_advance i_Bn_advance_68 rfl (fun v2 => ?_)
  refine ix_K_ic_ge (tgt := 197) kq_Bn_advance i_Bn_advance_71 rfl (by decide) ?_ ?_
  · refine ix_K_px kq_Bn_advance i_Bn_advance_197 rfl rfl ?_
    refine ix_K_callV (as := [.ref a0]) (rest := []) kq_Bn_advance i_Bn_advance_198 rfl kq_Bn_exchangeTallies (by decide) rfl rfl (fun h3 => ?_)
    exact ix_D_ret kq_Bn_advance i_Bn_advance_201 (ix_rtV rfl)
  · refine ix_K_px kq_Bn_advance i_Bn_advance_74 rfl rfl ?_
    refine ix_K_gr kq_Bn_advance i_Bn_advance_75 rfl (fun v4 => ?_)
    refine ix_K_px kq_Bn_advance i_Bn_advance_78 rfl rfl ?_
    refine ix_K_callI (as := [.ref v4, .int x8]) (rest := []) kq_Bn_advance i_Bn_advance_80 rfl kq_Ta_rowsAt (by decide) rfl (Or.inl rfl) (fun v6 h5 => ?_)
    refine ix_K_si (L2 := [some (.ref a0), none, some (.int x2), none, some (.int x4), some (.int x5), some (.int (ix_bi b6)), some (.int x7), some (.int x8), some (.int v6), none, none]) kq_Bn_advance i_Bn_advance_83 rfl (Or.inl rfl) (Nat.le_of_ble_eq_true rfl) rfl ?_
    refine ix_K_px kq_Bn_advance i_Bn_advance_85 rfl rfl ?_
    refine ix_K_bz_eq (tgt := 95) kq_Bn_advance i_Bn_advance_87 rfl (by decide) ?_ ?_
    · refine ix_K_px kq_Bn_advance i_Bn_advance_90 rfl rfl ?_
      refine ix_K_goto (tgt := 101) kq_Bn_advance i_Bn_advance_92 rfl (by decide) ?_
      exact ix_D_cut i_Bn_advance_101 rfl
    · refine ix_K_px kq_Bn_advance i_Bn_advance_95 rfl rfl ?_
      refine ix_K_px kq_Bn_advance i_Bn_advance_97 rfl rfl ?_
      refine ix_K_callI (as := [.int v6, .int x2]) (rest := []) kq_Bn_advance i_Bn_advance_98 rfl kq_Bn_rowIn (by decide) rfl (Or.inl rfl) (fun v8 h7 => ?_)
      exact ix_D_cut i_Bn_advance_101 rfl
set_option maxRecDepth 20000 in
set_option maxHeartbeats 1000000 in
theorem e_Bn_advance_101 (a0 : Nat) (x2 : Int32) (x4 : Int32) (x5 : Int32) (b6 : Bool) (x7 : Int32) (x8 : Int32) (x9 : Int32) (s0 : Int32) (h : ixH) : l_Bn_advance_101 a0 x2 x4 x5 b6 x7 x8 x9 s0 h = (ix_M mBn_rowsTaken [.int x9, .int x5] h).bind fun r => ix_kI r fun v2 h1 => if ¬ ((ix_ishr (x4 &&& (v2 ^^^ (-1))) s0) &&& 1) = 1 then l_Bn_advance_152 a0 x2 x4 x5 b6 x7 x8 x9 s0 (x4 &&& (v2 ^^^ (-1))) h1 else (ix_gr h1 a0 9 4).bind fun v3 => (ix_M mBn_withRow [.int x9, .int x2, .int s0] h1).bind fun r => ix_kI r fun v5 h4 => (ix_gr h4 a0 9 3).bind fun v6 => (ix_M mTa_waysAt [.ref v6, .int x8] h4).bind fun r => ix_kL r fun v8 h7 => (ix_M mTa_add [.ref v3, .int v5, .long v8] h7).bind fun r => ix_kV r fun h9 => l_Bn_advance_152 a0 x2 x4 x5 b6 x7 x8 x9 s0 (x4 &&& (v2 ^^^ (-1))) h9 := by
  unfold l_Bn_advance_101
  refine ix_K_si (L2 := [some (.ref a0), none, some (.int x2), none, some (.int x4), some (.int x5), some (.int (ix_bi b6)), some (.int x7), some (.int x8), some (.int x9), some (.int s0), none]) kq_Bn_advance i_Bn_advance_101 rfl (Or.inl rfl) (Nat.le_of_ble_eq_true rfl) rfl ?_
  refine ix_K_px kq_Bn_advance i_Bn_advance_103 rfl rfl ?_
  refine ix_K_px kq_Bn_advance i_Bn_advance_105 rfl rfl ?_
  refine ix_K_px kq_Bn_advance i_Bn_advance_107 rfl rfl ?_
  refine ix_K_callI (as := [.int x9, .int x5]) (rest := [.int x4]) kq_Bn_advance i_Bn_advance_109 rfl kq_Bn_rowsTaken (by decide) rfl (Or.inl rfl) (fun v2 h1 => ?_)
  refine ix_K_ci kq_Bn_advance i_Bn_advance_112 rfl kci_m1 ?_
  refine ix_K_px kq_Bn_advance i_Bn_advance_113 rfl rfl ?_
  refine ix_K_px kq_Bn_advance i_Bn_advance_114 rfl rfl ?_
  refine ix_K_si (L2 := [some (.ref a0), none, some (.int x2), none, some (.int x4), some (.int x5), some (.int (ix_bi b6)), some (.int x7), some (.int x8), some (.int x9), some (.int s0), some (.int (x4 &&& (v2 ^^^ (-1))))]) kq_Bn_advance i_Bn_advance_115 rfl (Or.inl rfl) (Nat.le_of_ble_eq_true rfl) rfl ?_
  refine ix_K_px kq_Bn_advance i_Bn_advance_117 rfl rfl ?_
  refine ix_K_px kq_Bn_advance i_Bn_advance_119 rfl rfl ?_
  refine ix_K_px kq_Bn_advance i_Bn_advance_121 rfl rfl ?_
  refine ix_K_ci kq_Bn_advance i_Bn_advance_122 rfl kci_1 ?_
  refine ix_K_px kq_Bn_advance i_Bn_advance_123 rfl rfl ?_
  refine ix_K_ci kq_Bn_advance i_Bn_advance_124 rfl kci_1 ?_
  refine ix_K_ic_ne (tgt := 152) kq_Bn_advance i_Bn_advance_125 rfl (by decide) ?_ ?_
  · exact ix_D_cut i_Bn_advance_152 rfl
  · refine ix_K_px kq_Bn_advance i_Bn_advance_128 rfl rfl ?_
    refine ix_K_gr kq_Bn_advance i_Bn_advance_129 rfl (fun v3 => ?_)
    refine ix_K_px kq_Bn_advance i_Bn_advance_132 rfl rfl ?_
    refine ix_K_px kq_Bn_advance i_Bn_advance_134 rfl rfl ?_
    refine ix_K_px kq_Bn_advance i_Bn_advance_135 rfl rfl ?_
    refine ix_K_callI (as := [.int x9, .int x2, .int s0]) (rest := [.ref v3]) kq_Bn_advance i_Bn_advance_137 rfl kq_Bn_withRow (by decide) rfl (Or.inl rfl) (fun v5 h4 => ?_)
    refine ix_K_px kq_Bn_advance i_Bn_advance_140 rfl rfl ?_
    refine ix_K_gr kq_Bn_advance i_Bn_advance_141 rfl (fun v6 => ?_)
    refine ix_K_px kq_Bn_advance i_Bn_advance_144 rfl rfl ?_
    refine ix_K_callL (as := [.ref v6, .int x8]) (rest := [.int v5, .ref v3]) kq_Bn_advance i_Bn_advance_146 rfl kq_Ta_waysAt (by decide) rfl rfl (fun v8 h7 => ?_)
    refine ix_K_callV (as := [.ref v3, .int v5, .long v8]) (rest := []) kq_Bn_advance i_Bn_advance_149 rfl kq_Ta_add (by decide) rfl rfl (fun h9 => ?_)
    exact ix_D_cut i_Bn_advance_152 rfl
set_option maxRecDepth 20000 in
set_option maxHeartbeats 1000000 in
theorem e_Bn_advance_152 (a0 : Nat) (x2 : Int32) (x4 : Int32) (x5 : Int32) (b6 : Bool) (x7 : Int32) (x8 : Int32) (x9 : Int32) (x10 : Int32) (x11 : Int32) (h : ixH) : l_Bn_advance_152 a0 x2 x4 x5 b6 x7 x8 x9 x10 x11 h = if ¬ ((ix_ishr x11 (x10 + 1)) &&& 1) = 1 then l_Bn_advance_62 a0 x2 x4 x5 b6 x7 (x8 + 1) h else (ix_gr h a0 9 4).bind fun v1 => (ix_M mBn_withRow [.int x9, .int x2, .int (x10 + 1)] h).bind fun r => ix_kI r fun v3 h2 => (ix_gr h2 a0 9 3).bind fun v4 => (ix_M mTa_waysAt [.ref v4, .int x8] h2).bind fun r => ix_kL r fun v6 h5 => (ix_M mTa_add [.ref v1, .int v3, .long v6] h5).bind fun r => ix_kV r fun h7 => l_Bn_advance_62 a0 x2 x4 x5 b6 x7 (x8 + 1) h7 := by
  unfold l_Bn_advance_152
  refine ix_K_px kq_Bn_advance i_Bn_advance_152 rfl rfl ?_
  refine ix_K_px kq_Bn_advance i_Bn_advance_154 rfl rfl ?_
  refine ix_K_ci kq_Bn_advance i_Bn_advance_156 rfl kci_1 ?_
  refine ix_K_px kq_Bn_advance i_Bn_advance_157 rfl rfl ?_
  refine ix_K_px kq_Bn_advance i_Bn_advance_158 rfl rfl ?_
  refine ix_K_ci kq_Bn_advance i_Bn_advance_159 rfl kci_1 ?_
  refine ix_K_px kq_Bn_advance i_Bn_advance_160 rfl rfl ?_
  refine ix_K_ci kq_Bn_advance i_Bn_advance_161 rfl kci_1 ?_
  refine ix_K_ic_ne (tgt := 191) kq_Bn_advance i_Bn_advance_162 rfl (by decide) ?_ ?_
  · refine ix_K_inc (L2 := [some (.ref a0), none, some (.int x2), none, some (.int x4), some (.int x5), some (.int (ix_bi b6)), some (.int x7), some (.int (x8 + 1)), some (.int x9), some (.int x10), some (.int x11)]) kq_Bn_advance i_Bn_advance_191 rfl rfl (Nat.le_of_ble_eq_true rfl) kci_1 rfl ?_
    refine ix_K_goto (tgt := 62) kq_Bn_advance i_Bn_advance_194 rfl (by decide) ?_
    exact ix_D_cut i_Bn_advance_62 rfl
  · refine ix_K_px kq_Bn_advance i_Bn_advance_165 rfl rfl ?_
    refine ix_K_gr kq_Bn_advance i_Bn_advance_166 rfl (fun v1 => ?_)
    refine ix_K_px kq_Bn_advance i_Bn_advance_169 rfl rfl ?_
    refine ix_K_px kq_Bn_advance i_Bn_advance_171 rfl rfl ?_
    refine ix_K_px kq_Bn_advance i_Bn_advance_172 rfl rfl ?_
    refine ix_K_ci kq_Bn_advance i_Bn_advance_174 rfl kci_1 ?_
    refine ix_K_px kq_Bn_advance i_Bn_advance_175 rfl rfl ?_
    refine ix_K_callI (as := [.int x9, .int x2, .int (x10 + 1)]) (rest := [.ref v1]) kq_Bn_advance i_Bn_advance_176 rfl kq_Bn_withRow (by decide) rfl (Or.inl rfl) (fun v3 h2 => ?_)
    refine ix_K_px kq_Bn_advance i_Bn_advance_179 rfl rfl ?_
    refine ix_K_gr kq_Bn_advance i_Bn_advance_180 rfl (fun v4 => ?_)
    refine ix_K_px kq_Bn_advance i_Bn_advance_183 rfl rfl ?_
    refine ix_K_callL (as := [.ref v4, .int x8]) (rest := [.int v3, .ref v1]) kq_Bn_advance i_Bn_advance_185 rfl kq_Ta_waysAt (by decide) rfl rfl (fun v6 h5 => ?_)
    refine ix_K_callV (as := [.ref v1, .int v3, .long v6]) (rest := []) kq_Bn_advance i_Bn_advance_188 rfl kq_Ta_add (by decide) rfl rfl (fun h7 => ?_)
    refine ix_K_inc (L2 := [some (.ref a0), none, some (.int x2), none, some (.int x4), some (.int x5), some (.int (ix_bi b6)), some (.int x7), some (.int (x8 + 1)), some (.int x9), some (.int x10), some (.int x11)]) kq_Bn_advance i_Bn_advance_191 rfl rfl (Nat.le_of_ble_eq_true rfl) kci_1 rfl ?_
    refine ix_K_goto (tgt := 62) kq_Bn_advance i_Bn_advance_194 rfl (by decide) ?_
    exact ix_D_cut i_Bn_advance_62 rfl
set_option maxRecDepth 20000 in
set_option maxHeartbeats 1000000 in
theorem e_Bn_advance (a0 : Nat) (a1 : Nat) (x2 : Int32) (x3 : Int32) (h : ixH) : ix_D mBn_advance 0 [some (.ref a0), some (.ref a1), some (.int x2), some (.int x3), none, none, none, none, none, none, none, none] [] h = (ix_gr h a1 1 0).bind fun v1 => (ix_M mBn_rowsAllowed [.ref a0, .ref v1, .int x2, .int x3] h).bind fun r => ix_kI r fun v3 h2 => (ix_M mBn_presentBefore [.ref a0, .int x2, .int x3] h2).bind fun r => ix_kI r fun v5 h4 => (ix_gr h4 a0 9 1).bind fun v6 => (ix_ai h4 v6 x2).bind fun v7 => if ¬ x3 = v7 then (ix_gr h4 a1 1 0).bind fun v8 => (ix_gr h4 a1 1 2).bind fun v9 => (ix_ai h4 v9 x2).bind fun v10 => (ix_M mGr_rowOf [.ref v8, .int v10] h4).bind fun r => ix_kI r fun v12 h11 => (ix_gr h11 a0 9 4).bind fun v13 => (ix_M mTa_empty [.ref v13] h11).bind fun r => ix_kV r fun h14 => l_Bn_advance_62 a0 x2 v3 v5 false v12 0 h14 else (ix_gr h4 a1 1 0).bind fun v15 => (ix_gr h4 a1 1 2).bind fun v16 => (ix_ai h4 v16 x2).bind fun v17 => (ix_M mGr_rowOf [.ref v15, .int v17] h4).bind fun r => ix_kI r fun v19 h18 => (ix_gr h18 a0 9 4).bind fun v20 => (ix_M mTa_empty [.ref v20] h18).bind fun r => ix_kV r fun h21 => l_Bn_advance_62 a0 x2 v3 v5 true v19 0 h21 := by
  refine ix_K_px kq_Bn_advance i_Bn_advance_0 rfl rfl ?_
  refine ix_K_px kq_Bn_advance i_Bn_advance_1 rfl rfl ?_
  refine ix_K_gr kq_Bn_advance i_Bn_advance_2 rfl (fun v1 => ?_)
  refine ix_K_px kq_Bn_advance i_Bn_advance_5 rfl rfl ?_
  refine ix_K_px kq_Bn_advance i_Bn_advance_6 rfl rfl ?_
  refine ix_K_callI (as := [.ref a0, .ref v1, .int x2, .int x3]) (rest := []) kq_Bn_advance i_Bn_advance_7 rfl kq_Bn_rowsAllowed (by decide) rfl (Or.inl rfl) (fun v3 h2 => ?_)
  refine ix_K_si (L2 := [some (.ref a0), some (.ref a1), some (.int x2), some (.int x3), some (.int v3), none, none, none, none, none, none, none]) kq_Bn_advance i_Bn_advance_10 rfl (Or.inl rfl) (Nat.le_of_ble_eq_true rfl) rfl ?_
  refine ix_K_px kq_Bn_advance i_Bn_advance_12 rfl rfl ?_
  refine ix_K_px kq_Bn_advance i_Bn_advance_13 rfl rfl ?_
  refine ix_K_px kq_Bn_advance i_Bn_advance_14 rfl rfl ?_
  refine ix_K_callI (as := [.ref a0, .int x2, .int x3]) (rest := []) kq_Bn_advance i_Bn_advance_15 rfl kq_Bn_presentBefore (by decide) rfl (Or.inl rfl) (fun v5 h4 => ?_)
  refine ix_K_si (L2 := [some (.ref a0), some (.ref a1), some (.int x2), some (.int x3), some (.int v3), some (.int v5), none, none, none, none, none, none]) kq_Bn_advance i_Bn_advance_18 rfl (Or.inl rfl) (Nat.le_of_ble_eq_true rfl) rfl ?_
  refine ix_K_px kq_Bn_advance i_Bn_advance_20 rfl rfl ?_
  refine ix_K_px kq_Bn_advance i_Bn_advance_21 rfl rfl ?_
  refine ix_K_gr kq_Bn_advance i_Bn_advance_22 rfl (fun v6 => ?_)
  refine ix_K_px kq_Bn_advance i_Bn_advance_25 rfl rfl ?_
  refine ix_K_ai kq_Bn_advance i_Bn_advance_26 rfl (fun v7 => ?_)
  refine ix_K_ic_ne (tgt := 34) kq_Bn_advance i_Bn_advance_27 rfl (by decide) ?_ ?_
  · refine ix_K_ci kq_Bn_advance i_Bn_advance_34 rfl kci_0 ?_
    refine ix_K_si (L2 := [some (.ref a0), some (.ref a1), some (.int x2), some (.int x3), some (.int v3), some (.int v5), some (.int 0), none, none, none, none, none]) kq_Bn_advance i_Bn_advance_35 rfl (Or.inl rfl) (Nat.le_of_ble_eq_true rfl) rfl ?_
    refine ix_K_px kq_Bn_advance i_Bn_advance_37 rfl rfl ?_
    refine ix_K_gr kq_Bn_advance i_Bn_advance_38 rfl (fun v8 => ?_)
    refine ix_K_px kq_Bn_advance i_Bn_advance_41 rfl rfl ?_
    refine ix_K_gr kq_Bn_advance i_Bn_advance_42 rfl (fun v9 => ?_)
    refine ix_K_px kq_Bn_advance i_Bn_advance_45 rfl rfl ?_
    refine ix_K_ai kq_Bn_advance i_Bn_advance_46 rfl (fun v10 => ?_)
    refine ix_K_callI (as := [.ref v8, .int v10]) (rest := []) kq_Bn_advance i_Bn_advance_47 rfl kq_Gr_rowOf (by decide) rfl (Or.inl rfl) (fun v12 h11 => ?_)
    refine ix_K_si (L2 := [some (.ref a0), some (.ref a1), some (.int x2), some (.int x3), some (.int v3), some (.int v5), some (.int 0), some (.int v12), none, none, none, none]) kq_Bn_advance i_Bn_advance_50 rfl (Or.inl rfl) (Nat.le_of_ble_eq_true rfl) rfl ?_
    refine ix_K_px kq_Bn_advance i_Bn_advance_52 rfl rfl ?_
    refine ix_K_gr kq_Bn_advance i_Bn_advance_53 rfl (fun v13 => ?_)
    refine ix_K_callV (as := [.ref v13]) (rest := []) kq_Bn_advance i_Bn_advance_56 rfl kq_Ta_empty (by decide) rfl rfl (fun h14 => ?_)
    refine ix_K_ci kq_Bn_advance i_Bn_advance_59 rfl kci_0 ?_
    refine ix_K_si (L2 := [some (.ref a0), some (.ref a1), some (.int x2), some (.int x3), some (.int v3), some (.int v5), some (.int 0), some (.int v12), some (.int 0), none, none, none]) kq_Bn_advance i_Bn_advance_60 rfl (Or.inl rfl) (Nat.le_of_ble_eq_true rfl) rfl ?_
    exact ix_D_cut i_Bn_advance_62 rfl
  · refine ix_K_ci kq_Bn_advance i_Bn_advance_30 rfl kci_1 ?_
    refine ix_K_goto (tgt := 35) kq_Bn_advance i_Bn_advance_31 rfl (by decide) ?_
    refine ix_K_si (L2 := [some (.ref a0), some (.ref a1), some (.int x2), some (.int x3), some (.int v3), some (.int v5), some (.int 1), none, none, none, none, none]) kq_Bn_advance i_Bn_advance_35 rfl (Or.inl rfl) (Nat.le_of_ble_eq_true rfl) rfl ?_
    refine ix_K_px kq_Bn_advance i_Bn_advance_37 rfl rfl ?_
    refine ix_K_gr kq_Bn_advance i_Bn_advance_38 rfl (fun v15 => ?_)
    refine ix_K_px kq_Bn_advance i_Bn_advance_41 rfl rfl ?_
    refine ix_K_gr kq_Bn_advance i_Bn_advance_42 rfl (fun v16 => ?_)
    refine ix_K_px kq_Bn_advance i_Bn_advance_45 rfl rfl ?_
    refine ix_K_ai kq_Bn_advance i_Bn_advance_46 rfl (fun v17 => ?_)
    refine ix_K_callI (as := [.ref v15, .int v17]) (rest := []) kq_Bn_advance i_Bn_advance_47 rfl kq_Gr_rowOf (by decide) rfl (Or.inl rfl) (fun v19 h18 => ?_)
    refine ix_K_si (L2 := [some (.ref a0), some (.ref a1), some (.int x2), some (.int x3), some (.int v3), some (.int v5), some (.int 1), some (.int v19), none, none, none, none]) kq_Bn_advance i_Bn_advance_50 rfl (Or.inl rfl) (Nat.le_of_ble_eq_true rfl) rfl ?_
    refine ix_K_px kq_Bn_advance i_Bn_advance_52 rfl rfl ?_
    refine ix_K_gr kq_Bn_advance i_Bn_advance_53 rfl (fun v20 => ?_)
    refine ix_K_callV (as := [.ref v20]) (rest := []) kq_Bn_advance i_Bn_advance_56 rfl kq_Ta_empty (by decide) rfl rfl (fun h21 => ?_)
    refine ix_K_ci kq_Bn_advance i_Bn_advance_59 rfl kci_0 ?_
    refine ix_K_si (L2 := [some (.ref a0), some (.ref a1), some (.int x2), some (.int x3), some (.int v3), some (.int v5), some (.int 1), some (.int v19), some (.int 0), none, none, none]) kq_Bn_advance i_Bn_advance_60 rfl (Or.inl rfl) (Nat.le_of_ble_eq_true rfl) rfl ?_
    exact ix_D_cut i_Bn_advance_62 rfl
theorem x_Bn_advance {a0 : Nat} {a1 : Nat} {x2 : Int32} {x3 : Int32} {h h1 : ixH} (hr : ix_rc h a0 = some 9) (hd : ix_D mBn_advance 0 [some (.ref a0), some (.ref a1), some (.int x2), some (.int x3), none, none, none, none, none, none, none, none] [] h = some ([], h1)) : ix_M mBn_advance [.ref a0, .ref a1, .int x2, .int x3] h = some ([], h1) := ix_M_of (ix_ent_i kq_Bn_advance rfl hr rfl (Nat.le_of_ble_eq_true rfl) rfl) hd (ix_okrV rfl)
theorem i_Bn_rowsAllowed_0 : ix_nx mBn_rowsAllowed 0 = some (0, .iconst 0, 1, none, [], 0) := rfl
theorem i_Bn_rowsAllowed_1 : ix_nx mBn_rowsAllowed 1 = some (0, .istore 4, 3, none, [], 0) := rfl
theorem i_Bn_rowsAllowed_3 : ix_nx mBn_rowsAllowed 3 = some (0, .iconst 0, 4, none, [], 0) := rfl
theorem i_Bn_rowsAllowed_4 : ix_nx mBn_rowsAllowed 4 = some (0, .istore 5, 6, none, [], 0) := rfl
theorem i_Bn_rowsAllowed_6 : ix_nx mBn_rowsAllowed 6 = some (0, .iload 5, 8, some [true, true, true, true, true, true, false, false], [], 0) := rfl
theorem i_Bn_rowsAllowed_8 : ix_nx mBn_rowsAllowed 8 = some (0, .aload_n 1, 9, none, [], 0) := rfl
theorem i_Bn_rowsAllowed_9 : ix_nx mBn_rowsAllowed 9 = some (1, .getfield 67, 12, none, [2, 1, 0, 7], 0) := rfl
theorem i_Bn_rowsAllowed_12 : ix_nx mBn_rowsAllowed 12 = some (0, .if_icmp .ge 72, 15, none, [], 0) := rfl
theorem i_Bn_rowsAllowed_15 : ix_nx mBn_rowsAllowed 15 = some (0, .iload_n 3, 16, none, [], 0) := rfl
theorem i_Bn_rowsAllowed_16 : ix_nx mBn_rowsAllowed 16 = some (0, .iload 5, 18, none, [], 0) := rfl
theorem i_Bn_rowsAllowed_18 : ix_nx mBn_rowsAllowed 18 = some (0, .isub, 19, none, [], 0) := rfl
theorem i_Bn_rowsAllowed_19 : ix_nx mBn_rowsAllowed 19 = some (0, .istore 6, 21, none, [], 0) := rfl
theorem i_Bn_rowsAllowed_21 : ix_nx mBn_rowsAllowed 21 = some (0, .iload 6, 23, none, [], 0) := rfl
theorem i_Bn_rowsAllowed_23 : ix_nx mBn_rowsAllowed 23 = some (0, .ifCond .lt 16, 26, none, [], 0) := rfl
theorem i_Bn_rowsAllowed_26 : ix_nx mBn_rowsAllowed 26 = some (0, .iload 6, 28, none, [], 0) := rfl
theorem i_Bn_rowsAllowed_28 : ix_nx mBn_rowsAllowed 28 = some (0, .aload_n 1, 29, none, [], 0) := rfl
theorem i_Bn_rowsAllowed_29 : ix_nx mBn_rowsAllowed 29 = some (1, .getfield 62, 32, none, [2, 0, 0, 1], 0) := rfl
theorem i_Bn_rowsAllowed_32 : ix_nx mBn_rowsAllowed 32 = some (0, .if_icmp .ge 7, 35, none, [], 0) := rfl
theorem i_Bn_rowsAllowed_35 : ix_nx mBn_rowsAllowed 35 = some (0, .iconst 1, 36, none, [], 0) := rfl
theorem i_Bn_rowsAllowed_36 : ix_nx mBn_rowsAllowed 36 = some (0, .goto 4, 39, none, [], 0) := rfl
theorem i_Bn_rowsAllowed_39 : ix_nx mBn_rowsAllowed 39 = some (0, .iconst 0, 40, none, [], 0) := rfl
theorem i_Bn_rowsAllowed_40 : ix_nx mBn_rowsAllowed 40 = some (0, .istore 7, 42, some [true, true, true, true, true, true, true, false], [], 0) := rfl
theorem i_Bn_rowsAllowed_42 : ix_nx mBn_rowsAllowed 42 = some (0, .iload 7, 44, none, [], 0) := rfl
theorem i_Bn_rowsAllowed_44 : ix_nx mBn_rowsAllowed 44 = some (0, .ifCond .eq 34, 47, none, [], 0) := rfl
theorem i_Bn_rowsAllowed_47 : ix_nx mBn_rowsAllowed 47 = some (0, .aload_n 0, 48, none, [], 0) := rfl
theorem i_Bn_rowsAllowed_48 : ix_nx mBn_rowsAllowed 48 = some (1, .getfield 9, 51, none, [9, 0, 2, 85], 0) := rfl
theorem i_Bn_rowsAllowed_51 : ix_nx mBn_rowsAllowed 51 = some (0, .iload_n 2, 52, none, [], 0) := rfl
theorem i_Bn_rowsAllowed_52 : ix_nx mBn_rowsAllowed 52 = some (1, .laload, 53, none, [], 0) := rfl
theorem i_Bn_rowsAllowed_53 : ix_nx mBn_rowsAllowed 53 = some (0, .iload 5, 55, none, [], 0) := rfl
theorem i_Bn_rowsAllowed_55 : ix_nx mBn_rowsAllowed 55 = some (0, .aload_n 1, 56, none, [], 0) := rfl
theorem i_Bn_rowsAllowed_56 : ix_nx mBn_rowsAllowed 56 = some (1, .getfield 62, 59, none, [2, 0, 0, 1], 0) := rfl
theorem i_Bn_rowsAllowed_59 : ix_nx mBn_rowsAllowed 59 = some (0, .imul, 60, none, [], 0) := rfl
theorem i_Bn_rowsAllowed_60 : ix_nx mBn_rowsAllowed 60 = some (0, .iload 6, 62, none, [], 0) := rfl
theorem i_Bn_rowsAllowed_62 : ix_nx mBn_rowsAllowed 62 = some (0, .iadd, 63, none, [], 0) := rfl
theorem i_Bn_rowsAllowed_63 : ix_nx mBn_rowsAllowed 63 = some (3, .invokestatic 135, 66, none, [3, 8, 168], 0) := rfl
theorem i_Bn_rowsAllowed_66 : ix_nx mBn_rowsAllowed 66 = some (0, .ifCond .eq 12, 69, none, [], 0) := rfl
theorem i_Bn_rowsAllowed_69 : ix_nx mBn_rowsAllowed 69 = some (0, .iload 4, 71, none, [], 0) := rfl
theorem i_Bn_rowsAllowed_71 : ix_nx mBn_rowsAllowed 71 = some (0, .iconst 1, 72, none, [], 0) := rfl
theorem i_Bn_rowsAllowed_72 : ix_nx mBn_rowsAllowed 72 = some (0, .iload 5, 74, none, [], 0) := rfl
theorem i_Bn_rowsAllowed_74 : ix_nx mBn_rowsAllowed 74 = some (0, .ishl, 75, none, [], 0) := rfl
theorem i_Bn_rowsAllowed_75 : ix_nx mBn_rowsAllowed 75 = some (0, .ior, 76, none, [], 0) := rfl
theorem i_Bn_rowsAllowed_76 : ix_nx mBn_rowsAllowed 76 = some (0, .istore 4, 78, none, [], 0) := rfl
theorem i_Bn_rowsAllowed_78 : ix_nx mBn_rowsAllowed 78 = some (0, .iinc 5 1, 81, none, [], 0) := rfl
theorem i_Bn_rowsAllowed_81 : ix_nx mBn_rowsAllowed 81 = some (0, .goto (-75), 84, none, [], 0) := rfl
theorem i_Bn_rowsAllowed_84 : ix_nx mBn_rowsAllowed 84 = some (0, .iload 4, 86, none, [], 0) := rfl
theorem i_Bn_rowsAllowed_86 : ix_nx mBn_rowsAllowed 86 = some (4, .ireturn, 87, none, [], 0) := rfl
noncomputable def l_Bn_rowsAllowed_6 (a0 : Nat) (a1 : Nat) (x2 : Int32) (x3 : Int32) (x4 : Int32) (x5 : Int32) (h : ixH) : Option (List Value × ixH) := ix_D mBn_rowsAllowed 6 [some (.ref a0), some (.ref a1), some (.int x2), some (.int x3), some (.int x4), some (.int x5), none, none] [] h
noncomputable def l_Bn_rowsAllowed_40 (a0 : Nat) (a1 : Nat) (x2 : Int32) (x3 : Int32) (x4 : Int32) (x5 : Int32) (x6 : Int32) (sb0 : Bool) (h : ixH) : Option (List Value × ixH) := ix_D mBn_rowsAllowed 40 [some (.ref a0), some (.ref a1), some (.int x2), some (.int x3), some (.int x4), some (.int x5), some (.int x6), none] [.int (ix_bi sb0)] h
set_option maxRecDepth 20000 in
set_option maxHeartbeats 1000000 in
theorem e_Bn_rowsAllowed_6 (a0 : Nat) (a1 : Nat) (x2 : Int32) (x3 : Int32) (x4 : Int32) (x5 : Int32) (h : ixH) : l_Bn_rowsAllowed_6 a0 a1 x2 x3 x4 x5 h = (ix_gi h a1 2 1).bind fun v1 => if v1 ≤ x5 then some ([.int x4], h) else if (x3 - x5) < 0 then l_Bn_rowsAllowed_40 a0 a1 x2 x3 x4 x5 (x3 - x5) false h else (ix_gi h a1 2 0).bind fun v2 => if v2 ≤ (x3 - x5) then l_Bn_rowsAllowed_40 a0 a1 x2 x3 x4 x5 (x3 - x5) false h else l_Bn_rowsAllowed_40 a0 a1 x2 x3 x4 x5 (x3 - x5) true h := by
  unfold l_Bn_rowsAllowed_6
  refine ix_K_px kq_Bn_rowsAllowed i_Bn_rowsAllowed_6 rfl rfl ?_
  refine ix_K_px kq_Bn_rowsAllowed i_Bn_rowsAllowed_8 rfl rfl ?_
  refine ix_K_gi kq_Bn_rowsAllowed i_Bn_rowsAllowed_9 rfl (fun v1 => ?_)
  refine ix_K_ic_ge (tgt := 84) kq_Bn_rowsAllowed i_Bn_rowsAllowed_12 rfl (by decide) ?_ ?_
  · refine ix_K_px kq_Bn_rowsAllowed i_Bn_rowsAllowed_84 rfl rfl ?_
    exact ix_D_ret kq_Bn_rowsAllowed i_Bn_rowsAllowed_86 (ix_rtI rfl _)
  · refine ix_K_px kq_Bn_rowsAllowed i_Bn_rowsAllowed_15 rfl rfl ?_
    refine ix_K_px kq_Bn_rowsAllowed i_Bn_rowsAllowed_16 rfl rfl ?_
    refine ix_K_px kq_Bn_rowsAllowed i_Bn_rowsAllowed_18 rfl rfl ?_
    refine ix_K_si (L2 := [some (.ref a0), some (.ref a1), some (.int x2), some (.int x3), some (.int x4), some (.int x5), some (.int (x3 - x5)), none]) kq_Bn_rowsAllowed i_Bn_rowsAllowed_19 rfl (Or.inl rfl) (Nat.le_of_ble_eq_true rfl) rfl ?_
    refine ix_K_px kq_Bn_rowsAllowed i_Bn_rowsAllowed_21 rfl rfl ?_
    refine ix_K_if_lt (tgt := 39) kq_Bn_rowsAllowed i_Bn_rowsAllowed_23 rfl (by decide) ?_ ?_
    · refine ix_K_ci kq_Bn_rowsAllowed i_Bn_rowsAllowed_39 rfl kci_0 ?_
      exact ix_D_cut i_Bn_rowsAllowed_40 rfl
    · refine ix_K_px kq_Bn_rowsAllowed i_Bn_rowsAllowed_26 rfl rfl ?_
      refine ix_K_px kq_Bn_rowsAllowed i_Bn_rowsAllowed_28 rfl rfl ?_
      refine ix_K_gi kq_Bn_rowsAllowed i_Bn_rowsAllowed_29 rfl (fun v2 => ?_)
      refine ix_K_ic_ge (tgt := 39) kq_Bn_rowsAllowed i_Bn_rowsAllowed_32 rfl (by decide) ?_ ?_
      · refine ix_K_ci kq_Bn_rowsAllowed i_Bn_rowsAllowed_39 rfl kci_0 ?_
        exact ix_D_cut i_Bn_rowsAllowed_40 rfl
      · refine ix_K_ci kq_Bn_rowsAllowed i_Bn_rowsAllowed_35 rfl kci_1 ?_
        refine ix_K_goto (tgt := 40) kq_Bn_rowsAllowed i_Bn_rowsAllowed_36 rfl (by decide) ?_
        exact ix_D_cut i_Bn_rowsAllowed_40 rfl
set_option maxRecDepth 20000 in
set_option maxHeartbeats 1000000 in
theorem e_Bn_rowsAllowed_40 (a0 : Nat) (a1 : Nat) (x2 : Int32) (x3 : Int32) (x4 : Int32) (x5 : Int32) (x6 : Int32) (sb0 : Bool) (h : ixH) : l_Bn_rowsAllowed_40 a0 a1 x2 x3 x4 x5 x6 sb0 h = if sb0 = true then (ix_gr h a0 9 0).bind fun v1 => (ix_al h v1 x2).bind fun v2 => (ix_gi h a1 2 0).bind fun v3 => (ix_M mRP_holds [.long v2, .int ((x5 * v3) + x6)] h).bind fun r => ix_kZ r fun v5 h4 => if v5 = true then l_Bn_rowsAllowed_6 a0 a1 x2 x3 (x4 ||| (ix_ishl 1 x5)) (x5 + 1) h4 else l_Bn_rowsAllowed_6 a0 a1 x2 x3 x4 (x5 + 1) h4 else l_Bn_rowsAllowed_6 a0 a1 x2 x3 x4 (x5 + 1) h := by
  unfold l_Bn_rowsAllowed_40
  refine ix_K_si (L2 := [some (.ref a0), some (.ref a1), some (.int x2), some (.int x3), some (.int x4), some (.int x5), some (.int x6), some (.int (ix_bi sb0))]) kq_Bn_rowsAllowed i_Bn_rowsAllowed_40 rfl (Or.inl rfl) (Nat.le_of_ble_eq_true rfl) rfl ?_
  refine ix_K_px kq_Bn_rowsAllowed i_Bn_rowsAllowed_42 rfl rfl ?_
  refine ix_K_bz_eq (tgt := 78) kq_Bn_rowsAllowed i_Bn_rowsAllowed_44 rfl (by decide) ?_ ?_
  · refine ix_K_px kq_Bn_rowsAllowed i_Bn_rowsAllowed_47 rfl rfl ?_
    refine ix_K_gr kq_Bn_rowsAllowed i_Bn_rowsAllowed_48 rfl (fun v1 => ?_)
    refine ix_K_px kq_Bn_rowsAllowed i_Bn_rowsAllowed_51 rfl rfl ?_
    refine ix_K_al kq_Bn_rowsAllowed i_Bn_rowsAllowed_52 rfl (fun v2 => ?_)
    refine ix_K_px kq_Bn_rowsAllowed i_Bn_rowsAllowed_53 rfl rfl ?_
    refine ix_K_px kq_Bn_rowsAllowed i_Bn_rowsAllowed_55 rfl rfl ?_
    refine ix_K_gi kq_Bn_rowsAllowed i_Bn_rowsAllowed_56 rfl (fun v3 => ?_)
    refine ix_K_px kq_Bn_rowsAllowed i_Bn_rowsAllowed_59 rfl rfl ?_
    refine ix_K_px kq_Bn_rowsAllowed i_Bn_rowsAllowed_60 rfl rfl ?_
    refine ix_K_px kq_Bn_rowsAllowed i_Bn_rowsAllowed_62 rfl rfl ?_
    refine ix_K_callZ (as := [.long v2, .int ((x5 * v3) + x6)]) (rest := []) kq_Bn_rowsAllowed i_Bn_rowsAllowed_63 rfl kq_RP_holds (by decide) rfl rfl (fun v5 h4 => ?_)
    refine ix_K_bz_eq (tgt := 78) kq_Bn_rowsAllowed i_Bn_rowsAllowed_66 rfl (by decide) ?_ ?_
    · refine ix_K_px kq_Bn_rowsAllowed i_Bn_rowsAllowed_69 rfl rfl ?_
      refine ix_K_ci kq_Bn_rowsAllowed i_Bn_rowsAllowed_71 rfl kci_1 ?_
      refine ix_K_px kq_Bn_rowsAllowed i_Bn_rowsAllowed_72 rfl rfl ?_
      refine ix_K_px kq_Bn_rowsAllowed i_Bn_rowsAllowed_74 rfl rfl ?_
      refine ix_K_px kq_Bn_rowsAllowed i_Bn_rowsAllowed_75 rfl rfl ?_
      refine ix_K_si (L2 := [some (.ref a0), some (.ref a1), some (.int x2), some (.int x3), some (.int (x4 ||| (ix_ishl 1 x5))), some (.int x5), some (.int x6), some (.int (ix_bi sb0))]) kq_Bn_rowsAllowed i_Bn_rowsAllowed_76 rfl (Or.inl rfl) (Nat.le_of_ble_eq_true rfl) rfl ?_
      refine ix_K_inc (L2 := [some (.ref a0), some (.ref a1), some (.int x2), some (.int x3), some (.int (x4 ||| (ix_ishl 1 x5))), some (.int (x5 + 1)), some (.int x6), some (.int (ix_bi sb0))]) kq_Bn_rowsAllowed i_Bn_rowsAllowed_78 rfl rfl (Nat.le_of_ble_eq_true rfl) kci_1 rfl ?_
      refine ix_K_goto (tgt := 6) kq_Bn_rowsAllowed i_Bn_rowsAllowed_81 rfl (by decide) ?_
      exact ix_D_cut i_Bn_rowsAllowed_6 rfl
    · refine ix_K_inc (L2 := [some (.ref a0), some (.ref a1), some (.int x2), some (.int x3), some (.int x4), some (.int (x5 + 1)), some (.int x6), some (.int (ix_bi sb0))]) kq_Bn_rowsAllowed i_Bn_rowsAllowed_78 rfl rfl (Nat.le_of_ble_eq_true rfl) kci_1 rfl ?_
      refine ix_K_goto (tgt := 6) kq_Bn_rowsAllowed i_Bn_rowsAllowed_81 rfl (by decide) ?_
      exact ix_D_cut i_Bn_rowsAllowed_6 rfl
  · refine ix_K_inc (L2 := [some (.ref a0), some (.ref a1), some (.int x2), some (.int x3), some (.int x4), some (.int (x5 + 1)), some (.int x6), some (.int (ix_bi sb0))]) kq_Bn_rowsAllowed i_Bn_rowsAllowed_78 rfl rfl (Nat.le_of_ble_eq_true rfl) kci_1 rfl ?_
    refine ix_K_goto (tgt := 6) kq_Bn_rowsAllowed i_Bn_rowsAllowed_81 rfl (by decide) ?_
    exact ix_D_cut i_Bn_rowsAllowed_6 rfl
set_option maxRecDepth 20000 in
set_option maxHeartbeats 1000000 in
theorem e_Bn_rowsAllowed (a0 : Nat) (a1 : Nat) (x2 : Int32) (x3 : Int32) (h : ixH) : ix_D mBn_rowsAllowed 0 [some (.ref a0), some (.ref a1), some (.int x2), some (.int x3), none, none, none, none] [] h = l_Bn_rowsAllowed_6 a0 a1 x2 x3 0 0 h := by
  refine ix_K_ci kq_Bn_rowsAllowed i_Bn_rowsAllowed_0 rfl kci_0 ?_
  refine ix_K_si (L2 := [some (.ref a0), some (.ref a1), some (.int x2), some (.int x3), some (.int 0), none, none, none]) kq_Bn_rowsAllowed i_Bn_rowsAllowed_1 rfl (Or.inl rfl) (Nat.le_of_ble_eq_true rfl) rfl ?_
  refine ix_K_ci kq_Bn_rowsAllowed i_Bn_rowsAllowed_3 rfl kci_0 ?_
  refine ix_K_si (L2 := [some (.ref a0), some (.ref a1), some (.int x2), some (.int x3), some (.int 0), some (.int 0), none, none]) kq_Bn_rowsAllowed i_Bn_rowsAllowed_4 rfl (Or.inl rfl) (Nat.le_of_ble_eq_true rfl) rfl ?_
  exact ix_D_cut i_Bn_rowsAllowed_6 rfl
theorem x_Bn_rowsAllowed {a0 : Nat} {a1 : Nat} {x2 : Int32} {x3 : Int32} {h h1 : ixH} {v : Int32} (hr : ix_rc h a0 = some 9) (hd : ix_D mBn_rowsAllowed 0 [some (.ref a0), some (.ref a1), some (.int x2), some (.int x3), none, none, none, none] [] h = some ([.int v], h1)) : ix_M mBn_rowsAllowed [.ref a0, .ref a1, .int x2, .int x3] h = some ([.int v], h1) := ix_M_of (ix_ent_i kq_Bn_rowsAllowed rfl hr rfl (Nat.le_of_ble_eq_true rfl) rfl) hd (ix_okrI (Or.inl rfl) v)
theorem i_Bn_presentBefore_0 : ix_nx mBn_presentBefore 0 = some (0, .iconst 0, 1, none, [], 0) := rfl
theorem i_Bn_presentBefore_1 : ix_nx mBn_presentBefore 1 = some (0, .istore_n 3, 2, none, [], 0) := rfl
theorem i_Bn_presentBefore_2 : ix_nx mBn_presentBefore 2 = some (0, .iconst 0, 3, none, [], 0) := rfl
theorem i_Bn_presentBefore_3 : ix_nx mBn_presentBefore 3 = some (0, .istore 4, 5, none, [], 0) := rfl
theorem i_Bn_presentBefore_5 : ix_nx mBn_presentBefore 5 = some (0, .iload 4, 7, some [true, true, true, true, true], [], 0) := rfl
theorem i_Bn_presentBefore_7 : ix_nx mBn_presentBefore 7 = some (0, .iload_n 1, 8, none, [], 0) := rfl
theorem i_Bn_presentBefore_8 : ix_nx mBn_presentBefore 8 = some (0, .if_icmp .ge 26, 11, none, [], 0) := rfl
theorem i_Bn_presentBefore_11 : ix_nx mBn_presentBefore 11 = some (0, .aload_n 0, 12, none, [], 0) := rfl
theorem i_Bn_presentBefore_12 : ix_nx mBn_presentBefore 12 = some (0, .iload 4, 14, none, [], 0) := rfl
theorem i_Bn_presentBefore_14 : ix_nx mBn_presentBefore 14 = some (0, .iload_n 2, 15, none, [], 0) := rfl
theorem i_Bn_presentBefore_15 : ix_nx mBn_presentBefore 15 = some (3, .invokevirtual 70, 18, none, [0, 130, 152], 0) := rfl
theorem i_Bn_presentBefore_18 : ix_nx mBn_presentBefore 18 = some (0, .ifCond .eq 10, 21, none, [], 0) := rfl
theorem i_Bn_presentBefore_21 : ix_nx mBn_presentBefore 21 = some (0, .iload_n 3, 22, none, [], 0) := rfl
theorem i_Bn_presentBefore_22 : ix_nx mBn_presentBefore 22 = some (0, .iconst 1, 23, none, [], 0) := rfl
theorem i_Bn_presentBefore_23 : ix_nx mBn_presentBefore 23 = some (0, .iload 4, 25, none, [], 0) := rfl
theorem i_Bn_presentBefore_25 : ix_nx mBn_presentBefore 25 = some (0, .ishl, 26, none, [], 0) := rfl
theorem i_Bn_presentBefore_26 : ix_nx mBn_presentBefore 26 = some (0, .ior, 27, none, [], 0) := rfl
theorem i_Bn_presentBefore_27 : ix_nx mBn_presentBefore 27 = some (0, .istore_n 3, 28, none, [], 0) := rfl
theorem i_Bn_presentBefore_28 : ix_nx mBn_presentBefore 28 = some (0, .iinc 4 1, 31, none, [], 0) := rfl
theorem i_Bn_presentBefore_31 : ix_nx mBn_presentBefore 31 = some (0, .goto (-26), 34, none, [], 0) := rfl
theorem i_Bn_presentBefore_34 : ix_nx mBn_presentBefore 34 = some (0, .iload_n 3, 35, none, [], 0) := rfl
theorem i_Bn_presentBefore_35 : ix_nx mBn_presentBefore 35 = some (4, .ireturn, 36, none, [], 0) := rfl
noncomputable def l_Bn_presentBefore_5 (a0 : Nat) (x1 : Int32) (x2 : Int32) (x3 : Int32) (x4 : Int32) (h : ixH) : Option (List Value × ixH) := ix_D mBn_presentBefore 5 [some (.ref a0), some (.int x1), some (.int x2), some (.int x3), some (.int x4)] [] h
set_option maxRecDepth 20000 in
set_option maxHeartbeats 1000000 in
theorem e_Bn_presentBefore_5 (a0 : Nat) (x1 : Int32) (x2 : Int32) (x3 : Int32) (x4 : Int32) (h : ixH) : l_Bn_presentBefore_5 a0 x1 x2 x3 x4 h = if x1 ≤ x4 then some ([.int x3], h) else (ix_M mBn_isOn [.ref a0, .int x4, .int x2] h).bind fun r => ix_kZ r fun v2 h1 => if v2 = true then l_Bn_presentBefore_5 a0 x1 x2 (x3 ||| (ix_ishl 1 x4)) (x4 + 1) h1 else l_Bn_presentBefore_5 a0 x1 x2 x3 (x4 + 1) h1 := by
  unfold l_Bn_presentBefore_5
  refine ix_K_px kq_Bn_presentBefore i_Bn_presentBefore_5 rfl rfl ?_
  refine ix_K_px kq_Bn_presentBefore i_Bn_presentBefore_7 rfl rfl ?_
  refine ix_K_ic_ge (tgt := 34) kq_Bn_presentBefore i_Bn_presentBefore_8 rfl (by decide) ?_ ?_
  · refine ix_K_px kq_Bn_presentBefore i_Bn_presentBefore_34 rfl rfl ?_
    exact ix_D_ret kq_Bn_presentBefore i_Bn_presentBefore_35 (ix_rtI rfl _)
  · refine ix_K_px kq_Bn_presentBefore i_Bn_presentBefore_11 rfl rfl ?_
    refine ix_K_px kq_Bn_presentBefore i_Bn_presentBefore_12 rfl rfl ?_
    refine ix_K_px kq_Bn_presentBefore i_Bn_presentBefore_14 rfl rfl ?_
    refine ix_K_callZ (as := [.ref a0, .int x4, .int x2]) (rest := []) kq_Bn_presentBefore i_Bn_presentBefore_15 rfl kq_Bn_isOn (by decide) rfl rfl (fun v2 h1 => ?_)
    refine ix_K_bz_eq (tgt := 28) kq_Bn_presentBefore i_Bn_presentBefore_18 rfl (by decide) ?_ ?_
    · refine ix_K_px kq_Bn_presentBefore i_Bn_presentBefore_21 rfl rfl ?_
      refine ix_K_ci kq_Bn_presentBefore i_Bn_presentBefore_22 rfl kci_1 ?_
      refine ix_K_px kq_Bn_presentBefore i_Bn_presentBefore_23 rfl rfl ?_
      refine ix_K_px kq_Bn_presentBefore i_Bn_presentBefore_25 rfl rfl ?_
      refine ix_K_px kq_Bn_presentBefore i_Bn_presentBefore_26 rfl rfl ?_
      refine ix_K_si (L2 := [some (.ref a0), some (.int x1), some (.int x2), some (.int (x3 ||| (ix_ishl 1 x4))), some (.int x4)]) kq_Bn_presentBefore i_Bn_presentBefore_27 rfl (Or.inr ⟨_, rfl, rfl⟩) (Nat.le_of_ble_eq_true rfl) rfl ?_
      refine ix_K_inc (L2 := [some (.ref a0), some (.int x1), some (.int x2), some (.int (x3 ||| (ix_ishl 1 x4))), some (.int (x4 + 1))]) kq_Bn_presentBefore i_Bn_presentBefore_28 rfl rfl (Nat.le_of_ble_eq_true rfl) kci_1 rfl ?_
      refine ix_K_goto (tgt := 5) kq_Bn_presentBefore i_Bn_presentBefore_31 rfl (by decide) ?_
      exact ix_D_cut i_Bn_presentBefore_5 rfl
    · refine ix_K_inc (L2 := [some (.ref a0), some (.int x1), some (.int x2), some (.int x3), some (.int (x4 + 1))]) kq_Bn_presentBefore i_Bn_presentBefore_28 rfl rfl (Nat.le_of_ble_eq_true rfl) kci_1 rfl ?_
      refine ix_K_goto (tgt := 5) kq_Bn_presentBefore i_Bn_presentBefore_31 rfl (by decide) ?_
      exact ix_D_cut i_Bn_presentBefore_5 rfl
set_option maxRecDepth 20000 in
set_option maxHeartbeats 1000000 in
theorem e_Bn_presentBefore (a0 : Nat) (x1 : Int32) (x2 : Int32) (h : ixH) : ix_D mBn_presentBefore 0 [some (.ref a0), some (.int x1), some (.int x2), none, none] [] h = l_Bn_presentBefore_5 a0 x1 x2 0 0 h := by
  refine ix_K_ci kq_Bn_presentBefore i_Bn_presentBefore_0 rfl kci_0 ?_
  refine ix_K_si (L2 := [some (.ref a0), some (.int x1), some (.int x2), some (.int 0), none]) kq_Bn_presentBefore i_Bn_presentBefore_1 rfl (Or.inr ⟨_, rfl, rfl⟩) (Nat.le_of_ble_eq_true rfl) rfl ?_
  refine ix_K_ci kq_Bn_presentBefore i_Bn_presentBefore_2 rfl kci_0 ?_
  refine ix_K_si (L2 := [some (.ref a0), some (.int x1), some (.int x2), some (.int 0), some (.int 0)]) kq_Bn_presentBefore i_Bn_presentBefore_3 rfl (Or.inl rfl) (Nat.le_of_ble_eq_true rfl) rfl ?_
  exact ix_D_cut i_Bn_presentBefore_5 rfl
theorem x_Bn_presentBefore {a0 : Nat} {x1 : Int32} {x2 : Int32} {h h1 : ixH} {v : Int32} (hr : ix_rc h a0 = some 9) (hd : ix_D mBn_presentBefore 0 [some (.ref a0), some (.int x1), some (.int x2), none, none] [] h = some ([.int v], h1)) : ix_M mBn_presentBefore [.ref a0, .int x1, .int x2] h = some ([.int v], h1) := ix_M_of (ix_ent_i kq_Bn_presentBefore rfl hr rfl (Nat.le_of_ble_eq_true rfl) rfl) hd (ix_okrI (Or.inl rfl) v)
theorem i_Bn_rowIn_0 : ix_nx mBn_rowIn 0 = some (0, .iload_n 0, 1, none, [], 0) := rfl
theorem i_Bn_rowIn_1 : ix_nx mBn_rowIn 1 = some (0, .iconst 3, 2, none, [], 0) := rfl
theorem i_Bn_rowIn_2 : ix_nx mBn_rowIn 2 = some (0, .iload_n 1, 3, none, [], 0) := rfl
theorem i_Bn_rowIn_3 : ix_nx mBn_rowIn 3 = some (0, .imul, 4, none, [], 0) := rfl
theorem i_Bn_rowIn_4 : ix_nx mBn_rowIn 4 = some (0, .ishr, 5, none, [], 0) := rfl
theorem i_Bn_rowIn_5 : ix_nx mBn_rowIn 5 = some (0, .bipush 7, 7, none, [], 0) := rfl
theorem i_Bn_rowIn_7 : ix_nx mBn_rowIn 7 = some (0, .iand, 8, none, [], 0) := rfl
theorem i_Bn_rowIn_8 : ix_nx mBn_rowIn 8 = some (4, .ireturn, 9, none, [], 0) := rfl
set_option maxRecDepth 20000 in
set_option maxHeartbeats 1000000 in
theorem e_Bn_rowIn (x0 : Int32) (x1 : Int32) (h : ixH) : ix_D mBn_rowIn 0 [some (.int x0), some (.int x1)] [] h = some ([.int ((ix_ishr x0 (3 * x1)) &&& 7)], h) := by
  refine ix_K_px kq_Bn_rowIn i_Bn_rowIn_0 rfl rfl ?_
  refine ix_K_ci kq_Bn_rowIn i_Bn_rowIn_1 rfl kci_3 ?_
  refine ix_K_px kq_Bn_rowIn i_Bn_rowIn_2 rfl rfl ?_
  refine ix_K_px kq_Bn_rowIn i_Bn_rowIn_3 rfl rfl ?_
  refine ix_K_px kq_Bn_rowIn i_Bn_rowIn_4 rfl rfl ?_
  refine ix_K_cb kq_Bn_rowIn i_Bn_rowIn_5 rfl kcb_7 ?_
  refine ix_K_px kq_Bn_rowIn i_Bn_rowIn_7 rfl rfl ?_
  exact ix_D_ret kq_Bn_rowIn i_Bn_rowIn_8 (ix_rtI rfl _)
theorem x_Bn_rowIn {x0 : Int32} {x1 : Int32} {h h1 : ixH} {v : Int32} (hd : ix_D mBn_rowIn 0 [some (.int x0), some (.int x1)] [] h = some ([.int v], h1)) : ix_M mBn_rowIn [.int x0, .int x1] h = some ([.int v], h1) := ix_M_of (ix_ent_s kq_Bn_rowIn rfl rfl (Nat.le_of_ble_eq_true rfl) rfl) hd (ix_okrI (Or.inl rfl) v)
theorem i_Bn_rowsTaken_0 : ix_nx mBn_rowsTaken 0 = some (0, .iconst 0, 1, none, [], 0) := rfl
theorem i_Bn_rowsTaken_1 : ix_nx mBn_rowsTaken 1 = some (0, .istore_n 2, 2, none, [], 0) := rfl
theorem i_Bn_rowsTaken_2 : ix_nx mBn_rowsTaken 2 = some (0, .iconst 0, 3, none, [], 0) := rfl
theorem i_Bn_rowsTaken_3 : ix_nx mBn_rowsTaken 3 = some (0, .istore_n 3, 4, none, [], 0) := rfl
theorem i_Bn_rowsTaken_4 : ix_nx mBn_rowsTaken 4 = some (0, .iload_n 3, 5, some [true, true, true, true], [], 0) := rfl
theorem i_Bn_rowsTaken_5 : ix_nx mBn_rowsTaken 5 = some (0, .iconst 4, 6, none, [], 0) := rfl
theorem i_Bn_rowsTaken_6 : ix_nx mBn_rowsTaken 6 = some (0, .if_icmp .ge 28, 9, none, [], 0) := rfl
theorem i_Bn_rowsTaken_9 : ix_nx mBn_rowsTaken 9 = some (0, .iload_n 1, 10, none, [], 0) := rfl
theorem i_Bn_rowsTaken_10 : ix_nx mBn_rowsTaken 10 = some (0, .iload_n 3, 11, none, [], 0) := rfl
theorem i_Bn_rowsTaken_11 : ix_nx mBn_rowsTaken 11 = some (0, .ishr, 12, none, [], 0) := rfl
theorem i_Bn_rowsTaken_12 : ix_nx mBn_rowsTaken 12 = some (0, .iconst 1, 13, none, [], 0) := rfl
theorem i_Bn_rowsTaken_13 : ix_nx mBn_rowsTaken 13 = some (0, .iand, 14, none, [], 0) := rfl
theorem i_Bn_rowsTaken_14 : ix_nx mBn_rowsTaken 14 = some (0, .iconst 1, 15, none, [], 0) := rfl
theorem i_Bn_rowsTaken_15 : ix_nx mBn_rowsTaken 15 = some (0, .if_icmp .ne 13, 18, none, [], 0) := rfl
theorem i_Bn_rowsTaken_18 : ix_nx mBn_rowsTaken 18 = some (0, .iload_n 2, 19, none, [], 0) := rfl
theorem i_Bn_rowsTaken_19 : ix_nx mBn_rowsTaken 19 = some (0, .iconst 1, 20, none, [], 0) := rfl
theorem i_Bn_rowsTaken_20 : ix_nx mBn_rowsTaken 20 = some (0, .iload_n 0, 21, none, [], 0) := rfl
theorem i_Bn_rowsTaken_21 : ix_nx mBn_rowsTaken 21 = some (0, .iload_n 3, 22, none, [], 0) := rfl
theorem i_Bn_rowsTaken_22 : ix_nx mBn_rowsTaken 22 = some (3, .invokestatic 119, 25, none, [1, 134, 163], 0) := rfl
theorem i_Bn_rowsTaken_25 : ix_nx mBn_rowsTaken 25 = some (0, .ishl, 26, none, [], 0) := rfl
theorem i_Bn_rowsTaken_26 : ix_nx mBn_rowsTaken 26 = some (0, .ior, 27, none, [], 0) := rfl
theorem i_Bn_rowsTaken_27 : ix_nx mBn_rowsTaken 27 = some (0, .istore_n 2, 28, none, [], 0) := rfl
theorem i_Bn_rowsTaken_28 : ix_nx mBn_rowsTaken 28 = some (0, .iinc 3 1, 31, none, [], 0) := rfl
theorem i_Bn_rowsTaken_31 : ix_nx mBn_rowsTaken 31 = some (0, .goto (-27), 34, none, [], 0) := rfl
theorem i_Bn_rowsTaken_34 : ix_nx mBn_rowsTaken 34 = some (0, .iload_n 2, 35, none, [], 0) := rfl
theorem i_Bn_rowsTaken_35 : ix_nx mBn_rowsTaken 35 = some (4, .ireturn, 36, none, [], 0) := rfl
noncomputable def l_Bn_rowsTaken_4 (x0 : Int32) (x1 : Int32) (x2 : Int32) (x3 : Int32) (h : ixH) : Option (List Value × ixH) := ix_D mBn_rowsTaken 4 [some (.int x0), some (.int x1), some (.int x2), some (.int x3)] [] h
set_option maxRecDepth 20000 in
set_option maxHeartbeats 1000000 in
theorem e_Bn_rowsTaken_4 (x0 : Int32) (x1 : Int32) (x2 : Int32) (x3 : Int32) (h : ixH) : l_Bn_rowsTaken_4 x0 x1 x2 x3 h = if 4 ≤ x3 then some ([.int x2], h) else if ¬ ((ix_ishr x1 x3) &&& 1) = 1 then l_Bn_rowsTaken_4 x0 x1 x2 (x3 + 1) h else (ix_M mBn_rowIn [.int x0, .int x3] h).bind fun r => ix_kI r fun v2 h1 => l_Bn_rowsTaken_4 x0 x1 (x2 ||| (ix_ishl 1 v2)) (x3 + 1) h1 := by
  unfold l_Bn_rowsTaken_4
  refine ix_K_px kq_Bn_rowsTaken i_Bn_rowsTaken_4 rfl rfl ?_
  refine ix_K_ci kq_Bn_rowsTaken i_Bn_rowsTaken_5 rfl kci_4 ?_
  refine ix_K_ic_ge (tgt := 34) kq_Bn_rowsTaken i_Bn_rowsTaken_6 rfl (by decide) ?_ ?_
  · refine ix_K_px kq_Bn_rowsTaken i_Bn_rowsTaken_34 rfl rfl ?_
    exact ix_D_ret kq_Bn_rowsTaken i_Bn_rowsTaken_35 (ix_rtI rfl _)
  · refine ix_K_px kq_Bn_rowsTaken i_Bn_rowsTaken_9 rfl rfl ?_
    refine ix_K_px kq_Bn_rowsTaken i_Bn_rowsTaken_10 rfl rfl ?_
    refine ix_K_px kq_Bn_rowsTaken i_Bn_rowsTaken_11 rfl rfl ?_
    refine ix_K_ci kq_Bn_rowsTaken i_Bn_rowsTaken_12 rfl kci_1 ?_
    refine ix_K_px kq_Bn_rowsTaken i_Bn_rowsTaken_13 rfl rfl ?_
    refine ix_K_ci kq_Bn_rowsTaken i_Bn_rowsTaken_14 rfl kci_1 ?_
    refine ix_K_ic_ne (tgt := 28) kq_Bn_rowsTaken i_Bn_rowsTaken_15 rfl (by decide) ?_ ?_
    · refine ix_K_inc (L2 := [some (.int x0), some (.int x1), some (.int x2), some (.int (x3 + 1))]) kq_Bn_rowsTaken i_Bn_rowsTaken_28 rfl rfl (Nat.le_of_ble_eq_true rfl) kci_1 rfl ?_
      refine ix_K_goto (tgt := 4) kq_Bn_rowsTaken i_Bn_rowsTaken_31 rfl (by decide) ?_
      exact ix_D_cut i_Bn_rowsTaken_4 rfl
    · refine ix_K_px kq_Bn_rowsTaken i_Bn_rowsTaken_18 rfl rfl ?_
      refine ix_K_ci kq_Bn_rowsTaken i_Bn_rowsTaken_19 rfl kci_1 ?_
      refine ix_K_px kq_Bn_rowsTaken i_Bn_rowsTaken_20 rfl rfl ?_
      refine ix_K_px kq_Bn_rowsTaken i_Bn_rowsTaken_21 rfl rfl ?_
      refine ix_K_callI (as := [.int x0, .int x3]) (rest := [.int 1, .int x2]) kq_Bn_rowsTaken i_Bn_rowsTaken_22 rfl kq_Bn_rowIn (by decide) rfl (Or.inl rfl) (fun v2 h1 => ?_)
      refine ix_K_px kq_Bn_rowsTaken i_Bn_rowsTaken_25 rfl rfl ?_
      refine ix_K_px kq_Bn_rowsTaken i_Bn_rowsTaken_26 rfl rfl ?_
      refine ix_K_si (L2 := [some (.int x0), some (.int x1), some (.int (x2 ||| (ix_ishl 1 v2))), some (.int x3)]) kq_Bn_rowsTaken i_Bn_rowsTaken_27 rfl (Or.inr ⟨_, rfl, rfl⟩) (Nat.le_of_ble_eq_true rfl) rfl ?_
      refine ix_K_inc (L2 := [some (.int x0), some (.int x1), some (.int (x2 ||| (ix_ishl 1 v2))), some (.int (x3 + 1))]) kq_Bn_rowsTaken i_Bn_rowsTaken_28 rfl rfl (Nat.le_of_ble_eq_true rfl) kci_1 rfl ?_
      refine ix_K_goto (tgt := 4) kq_Bn_rowsTaken i_Bn_rowsTaken_31 rfl (by decide) ?_
      exact ix_D_cut i_Bn_rowsTaken_4 rfl
set_option maxRecDepth 20000 in
set_option maxHeartbeats 1000000 in
theorem e_Bn_rowsTaken (x0 : Int32) (x1 : Int32) (h : ixH) : ix_D mBn_rowsTaken 0 [some (.int x0), some (.int x1), none, none] [] h = l_Bn_rowsTaken_4 x0 x1 0 0 h := by
  refine ix_K_ci kq_Bn_rowsTaken i_Bn_rowsTaken_0 rfl kci_0 ?_
  refine ix_K_si (L2 := [some (.int x0), some (.int x1), some (.int 0), none]) kq_Bn_rowsTaken i_Bn_rowsTaken_1 rfl (Or.inr ⟨_, rfl, rfl⟩) (Nat.le_of_ble_eq_true rfl) rfl ?_
  refine ix_K_ci kq_Bn_rowsTaken i_Bn_rowsTaken_2 rfl kci_0 ?_
  refine ix_K_si (L2 := [some (.int x0), some (.int x1), some (.int 0), some (.int 0)]) kq_Bn_rowsTaken i_Bn_rowsTaken_3 rfl (Or.inr ⟨_, rfl, rfl⟩) (Nat.le_of_ble_eq_true rfl) rfl ?_
  exact ix_D_cut i_Bn_rowsTaken_4 rfl
theorem x_Bn_rowsTaken {x0 : Int32} {x1 : Int32} {h h1 : ixH} {v : Int32} (hd : ix_D mBn_rowsTaken 0 [some (.int x0), some (.int x1), none, none] [] h = some ([.int v], h1)) : ix_M mBn_rowsTaken [.int x0, .int x1] h = some ([.int v], h1) := ix_M_of (ix_ent_s kq_Bn_rowsTaken rfl rfl (Nat.le_of_ble_eq_true rfl) rfl) hd (ix_okrI (Or.inl rfl) v)
theorem i_Bn_withRow_0 : ix_nx mBn_withRow 0 = some (0, .iload_n 0, 1, none, [], 0) := rfl
theorem i_Bn_withRow_1 : ix_nx mBn_withRow 1 = some (0, .bipush 7, 3, none, [], 0) := rfl
theorem i_Bn_withRow_3 : ix_nx mBn_withRow 3 = some (0, .iconst 3, 4, none, [], 0) := rfl
theorem i_Bn_withRow_4 : ix_nx mBn_withRow 4 = some (0, .iload_n 1, 5, none, [], 0) := rfl
theorem i_Bn_withRow_5 : ix_nx mBn_withRow 5 = some (0, .imul, 6, none, [], 0) := rfl
theorem i_Bn_withRow_6 : ix_nx mBn_withRow 6 = some (0, .ishl, 7, none, [], 0) := rfl
theorem i_Bn_withRow_7 : ix_nx mBn_withRow 7 = some (0, .iconst (-1), 8, none, [], 0) := rfl
theorem i_Bn_withRow_8 : ix_nx mBn_withRow 8 = some (0, .ixor, 9, none, [], 0) := rfl
theorem i_Bn_withRow_9 : ix_nx mBn_withRow 9 = some (0, .iand, 10, none, [], 0) := rfl
theorem i_Bn_withRow_10 : ix_nx mBn_withRow 10 = some (0, .iload_n 2, 11, none, [], 0) := rfl
theorem i_Bn_withRow_11 : ix_nx mBn_withRow 11 = some (0, .iconst 3, 12, none, [], 0) := rfl
theorem i_Bn_withRow_12 : ix_nx mBn_withRow 12 = some (0, .iload_n 1, 13, none, [], 0) := rfl
theorem i_Bn_withRow_13 : ix_nx mBn_withRow 13 = some (0, .imul, 14, none, [], 0) := rfl
theorem i_Bn_withRow_14 : ix_nx mBn_withRow 14 = some (0, .ishl, 15, none, [], 0) := rfl
theorem i_Bn_withRow_15 : ix_nx mBn_withRow 15 = some (0, .ior, 16, none, [], 0) := rfl
theorem i_Bn_withRow_16 : ix_nx mBn_withRow 16 = some (4, .ireturn, 17, none, [], 0) := rfl
set_option maxRecDepth 20000 in
set_option maxHeartbeats 1000000 in
theorem e_Bn_withRow (x0 : Int32) (x1 : Int32) (x2 : Int32) (h : ixH) : ix_D mBn_withRow 0 [some (.int x0), some (.int x1), some (.int x2)] [] h = some ([.int ((x0 &&& ((ix_ishl 7 (3 * x1)) ^^^ (-1))) ||| (ix_ishl x2 (3 * x1)))], h) := by
  refine ix_K_px kq_Bn_withRow i_Bn_withRow_0 rfl rfl ?_
  refine ix_K_cb kq_Bn_withRow i_Bn_withRow_1 rfl kcb_7 ?_
  refine ix_K_ci kq_Bn_withRow i_Bn_withRow_3 rfl kci_3 ?_
  refine ix_K_px kq_Bn_withRow i_Bn_withRow_4 rfl rfl ?_
  refine ix_K_px kq_Bn_withRow i_Bn_withRow_5 rfl rfl ?_
  refine ix_K_px kq_Bn_withRow i_Bn_withRow_6 rfl rfl ?_
  refine ix_K_ci kq_Bn_withRow i_Bn_withRow_7 rfl kci_m1 ?_
  refine ix_K_px kq_Bn_withRow i_Bn_withRow_8 rfl rfl ?_
  refine ix_K_px kq_Bn_withRow i_Bn_withRow_9 rfl rfl ?_
  refine ix_K_px kq_Bn_withRow i_Bn_withRow_10 rfl rfl ?_
  refine ix_K_ci kq_Bn_withRow i_Bn_withRow_11 rfl kci_3 ?_
  refine ix_K_px kq_Bn_withRow i_Bn_withRow_12 rfl rfl ?_
  refine ix_K_px kq_Bn_withRow i_Bn_withRow_13 rfl rfl ?_
  refine ix_K_px kq_Bn_withRow i_Bn_withRow_14 rfl rfl ?_
  refine ix_K_px kq_Bn_withRow i_Bn_withRow_15 rfl rfl ?_
  exact ix_D_ret kq_Bn_withRow i_Bn_withRow_16 (ix_rtI rfl _)
theorem x_Bn_withRow {x0 : Int32} {x1 : Int32} {x2 : Int32} {h h1 : ixH} {v : Int32} (hd : ix_D mBn_withRow 0 [some (.int x0), some (.int x1), some (.int x2)] [] h = some ([.int v], h1)) : ix_M mBn_withRow [.int x0, .int x1, .int x2] h = some ([.int v], h1) := ix_M_of (ix_ent_s kq_Bn_withRow rfl rfl (Nat.le_of_ble_eq_true rfl) rfl) hd (ix_okrI (Or.inl rfl) v)
theorem i_Bn_exchangeTallies_0 : ix_nx mBn_exchangeTallies 0 = some (0, .aload_n 0, 1, none, [], 0) := rfl
theorem i_Bn_exchangeTallies_1 : ix_nx mBn_exchangeTallies 1 = some (1, .getfield 29, 4, none, [9, 4, 2, 89], 0) := rfl
theorem i_Bn_exchangeTallies_4 : ix_nx mBn_exchangeTallies 4 = some (0, .astore_n 1, 5, none, [], 0) := rfl
theorem i_Bn_exchangeTallies_5 : ix_nx mBn_exchangeTallies 5 = some (0, .aload_n 0, 6, none, [], 0) := rfl
theorem i_Bn_exchangeTallies_6 : ix_nx mBn_exchangeTallies 6 = some (0, .aload_n 0, 7, none, [], 0) := rfl
theorem i_Bn_exchangeTallies_7 : ix_nx mBn_exchangeTallies 7 = some (1, .getfield 25, 10, none, [9, 3, 2, 88], 0) := rfl
theorem i_Bn_exchangeTallies_10 : ix_nx mBn_exchangeTallies 10 = some (2, .putfield 29, 13, none, [9, 4, 2, 89], 0) := rfl
theorem i_Bn_exchangeTallies_13 : ix_nx mBn_exchangeTallies 13 = some (0, .aload_n 0, 14, none, [], 0) := rfl
theorem i_Bn_exchangeTallies_14 : ix_nx mBn_exchangeTallies 14 = some (0, .aload_n 1, 15, none, [], 0) := rfl
theorem i_Bn_exchangeTallies_15 : ix_nx mBn_exchangeTallies 15 = some (2, .putfield 25, 18, none, [9, 3, 2, 88], 0) := rfl
theorem i_Bn_exchangeTallies_18 : ix_nx mBn_exchangeTallies 18 = some (4, .return_, 19, none, [], 0) := rfl
set_option maxRecDepth 20000 in
set_option maxHeartbeats 1000000 in
theorem e_Bn_exchangeTallies (a0 : Nat) (h : ixH) : ix_D mBn_exchangeTallies 0 [some (.ref a0), none] [] h = (ix_gr h a0 9 4).bind fun v1 => (ix_gr h a0 9 3).bind fun v2 => (ix_pf h a0 9 4 (.ref v2)).bind fun h3 => (ix_pf h3 a0 9 3 (.ref v1)).bind fun h4 => some ([], h4) := by
  refine ix_K_px kq_Bn_exchangeTallies i_Bn_exchangeTallies_0 rfl rfl ?_
  refine ix_K_gr kq_Bn_exchangeTallies i_Bn_exchangeTallies_1 rfl (fun v1 => ?_)
  refine ix_K_sr (L2 := [some (.ref a0), some (.ref v1)]) kq_Bn_exchangeTallies i_Bn_exchangeTallies_4 rfl (Or.inr ⟨_, rfl, rfl⟩) (Nat.le_of_ble_eq_true rfl) rfl ?_
  refine ix_K_px kq_Bn_exchangeTallies i_Bn_exchangeTallies_5 rfl rfl ?_
  refine ix_K_px kq_Bn_exchangeTallies i_Bn_exchangeTallies_6 rfl rfl ?_
  refine ix_K_gr kq_Bn_exchangeTallies i_Bn_exchangeTallies_7 rfl (fun v2 => ?_)
  refine ix_K_pf kq_Bn_exchangeTallies i_Bn_exchangeTallies_10 rfl rfl (fun h3 => ?_)
  refine ix_K_px kq_Bn_exchangeTallies i_Bn_exchangeTallies_13 rfl rfl ?_
  refine ix_K_px kq_Bn_exchangeTallies i_Bn_exchangeTallies_14 rfl rfl ?_
  refine ix_K_pf kq_Bn_exchangeTallies i_Bn_exchangeTallies_15 rfl rfl (fun h4 => ?_)
  exact ix_D_ret kq_Bn_exchangeTallies i_Bn_exchangeTallies_18 (ix_rtV rfl)
theorem x_Bn_exchangeTallies {a0 : Nat} {h h1 : ixH} (hr : ix_rc h a0 = some 9) (hd : ix_D mBn_exchangeTallies 0 [some (.ref a0), none] [] h = some ([], h1)) : ix_M mBn_exchangeTallies [.ref a0] h = some ([], h1) := ix_M_of (ix_ent_i kq_Bn_exchangeTallies rfl hr rfl (Nat.le_of_ble_eq_true rfl) rfl) hd (ix_okrV rfl)
theorem i_Bn_forget_0 : ix_nx mBn_forget 0 = some (0, .aload_n 0, 1, none, [], 0) := rfl
theorem i_Bn_forget_1 : ix_nx mBn_forget 1 = some (1, .getfield 29, 4, none, [9, 4, 2, 89], 0) := rfl
theorem i_Bn_forget_4 : ix_nx mBn_forget 4 = some (3, .invokevirtual 51, 7, none, [0, 140, 150], 0) := rfl
theorem i_Bn_forget_7 : ix_nx mBn_forget 7 = some (0, .iconst 0, 8, none, [], 0) := rfl
theorem i_Bn_forget_8 : ix_nx mBn_forget 8 = some (0, .istore_n 2, 9, none, [], 0) := rfl
theorem i_Bn_forget_9 : ix_nx mBn_forget 9 = some (0, .iload_n 2, 10, some [true, true, true], [], 0) := rfl
theorem i_Bn_forget_10 : ix_nx mBn_forget 10 = some (0, .aload_n 0, 11, none, [], 0) := rfl
theorem i_Bn_forget_11 : ix_nx mBn_forget 11 = some (1, .getfield 25, 14, none, [9, 3, 2, 88], 0) := rfl
theorem i_Bn_forget_14 : ix_nx mBn_forget 14 = some (1, .getfield 113, 17, none, [10, 2, 0, 84], 0) := rfl
theorem i_Bn_forget_17 : ix_nx mBn_forget 17 = some (0, .if_icmp .ge 37, 20, none, [], 0) := rfl
theorem i_Bn_forget_20 : ix_nx mBn_forget 20 = some (0, .aload_n 0, 21, none, [], 0) := rfl
theorem i_Bn_forget_21 : ix_nx mBn_forget 21 = some (1, .getfield 29, 24, none, [9, 4, 2, 89], 0) := rfl
theorem i_Bn_forget_24 : ix_nx mBn_forget 24 = some (0, .aload_n 0, 25, none, [], 0) := rfl
theorem i_Bn_forget_25 : ix_nx mBn_forget 25 = some (1, .getfield 25, 28, none, [9, 3, 2, 88], 0) := rfl
theorem i_Bn_forget_28 : ix_nx mBn_forget 28 = some (0, .iload_n 2, 29, none, [], 0) := rfl
theorem i_Bn_forget_29 : ix_nx mBn_forget 29 = some (3, .invokevirtual 116, 32, none, [0, 141, 162], 0) := rfl
theorem i_Bn_forget_32 : ix_nx mBn_forget 32 = some (0, .iload_n 1, 33, none, [], 0) := rfl
theorem i_Bn_forget_33 : ix_nx mBn_forget 33 = some (0, .iconst 0, 34, none, [], 0) := rfl
theorem i_Bn_forget_34 : ix_nx mBn_forget 34 = some (3, .invokestatic 125, 37, none, [1, 136, 165], 0) := rfl
theorem i_Bn_forget_37 : ix_nx mBn_forget 37 = some (0, .aload_n 0, 38, none, [], 0) := rfl
theorem i_Bn_forget_38 : ix_nx mBn_forget 38 = some (1, .getfield 25, 41, none, [9, 3, 2, 88], 0) := rfl
theorem i_Bn_forget_41 : ix_nx mBn_forget 41 = some (0, .iload_n 2, 42, none, [], 0) := rfl
theorem i_Bn_forget_42 : ix_nx mBn_forget 42 = some (3, .invokevirtual 129, 45, none, [0, 143, 166], 0) := rfl
theorem i_Bn_forget_45 : ix_nx mBn_forget 45 = some (3, .invokevirtual 54, 48, none, [0, 142, 151], 0) := rfl
theorem i_Bn_forget_48 : ix_nx mBn_forget 48 = some (0, .iinc 2 1, 51, none, [], 0) := rfl
theorem i_Bn_forget_51 : ix_nx mBn_forget 51 = some (0, .goto (-42), 54, none, [], 0) := rfl
theorem i_Bn_forget_54 : ix_nx mBn_forget 54 = some (0, .aload_n 0, 55, none, [], 0) := rfl
theorem i_Bn_forget_55 : ix_nx mBn_forget 55 = some (3, .invokevirtual 132, 58, none, [0, 137, 167], 0) := rfl
theorem i_Bn_forget_58 : ix_nx mBn_forget 58 = some (4, .return_, 59, none, [], 0) := rfl
noncomputable def l_Bn_forget_9 (a0 : Nat) (x1 : Int32) (x2 : Int32) (h : ixH) : Option (List Value × ixH) := ix_D mBn_forget 9 [some (.ref a0), some (.int x1), some (.int x2)] [] h
set_option maxRecDepth 20000 in
set_option maxHeartbeats 1000000 in
theorem e_Bn_forget_9 (a0 : Nat) (x1 : Int32) (x2 : Int32) (h : ixH) : l_Bn_forget_9 a0 x1 x2 h = (ix_gr h a0 9 3).bind fun v1 => (ix_gi h v1 10 2).bind fun v2 => if v2 ≤ x2 then (ix_M mBn_exchangeTallies [.ref a0] h).bind fun r => ix_kV r fun h3 => some ([], h3) else (ix_gr h a0 9 4).bind fun v4 => (ix_gr h a0 9 3).bind fun v5 => (ix_M mTa_rowsAt [.ref v5, .int x2] h).bind fun r => ix_kI r fun v7 h6 => (ix_M mBn_withRow [.int v7, .int x1, .int 0] h6).bind fun r => ix_kI r fun v9 h8 => (ix_gr h8 a0 9 3).bind fun v10 => (ix_M mTa_waysAt [.ref v10, .int x2] h8).bind fun r => ix_kL r fun v12 h11 => (ix_M mTa_add [.ref v4, .int v9, .long v12] h11).bind fun r => ix_kV r fun h13 => l_Bn_forget_9 a0 x1 (x2 + 1) h13 := by
  unfold l_Bn_forget_9
  refine ix_K_px kq_Bn_forget i_Bn_forget_9 rfl rfl ?_
  refine ix_K_px kq_Bn_forget i_Bn_forget_10 rfl rfl ?_
  refine ix_K_gr kq_Bn_forget i_Bn_forget_11 rfl (fun v1 => ?_)
  refine ix_K_gi kq_Bn_forget i_Bn_forget_14 rfl (fun v2 => ?_)
  refine ix_K_ic_ge (tgt := 54) kq_Bn_forget i_Bn_forget_17 rfl (by decide) ?_ ?_
  · refine ix_K_px kq_Bn_forget i_Bn_forget_54 rfl rfl ?_
    refine ix_K_callV (as := [.ref a0]) (rest := []) kq_Bn_forget i_Bn_forget_55 rfl kq_Bn_exchangeTallies (by decide) rfl rfl (fun h3 => ?_)
    exact ix_D_ret kq_Bn_forget i_Bn_forget_58 (ix_rtV rfl)
  · refine ix_K_px kq_Bn_forget i_Bn_forget_20 rfl rfl ?_
    refine ix_K_gr kq_Bn_forget i_Bn_forget_21 rfl (fun v4 => ?_)
    refine ix_K_px kq_Bn_forget i_Bn_forget_24 rfl rfl ?_
    refine ix_K_gr kq_Bn_forget i_Bn_forget_25 rfl (fun v5 => ?_)
    refine ix_K_px kq_Bn_forget i_Bn_forget_28 rfl rfl ?_
    refine ix_K_callI (as := [.ref v5, .int x2]) (rest := [.ref v4]) kq_Bn_forget i_Bn_forget_29 rfl kq_Ta_rowsAt (by decide) rfl (Or.inl rfl) (fun v7 h6 => ?_)
    refine ix_K_px kq_Bn_forget i_Bn_forget_32 rfl rfl ?_
    refine ix_K_ci kq_Bn_forget i_Bn_forget_33 rfl kci_0 ?_
    refine ix_K_callI (as := [.int v7, .int x1, .int 0]) (rest := [.ref v4]) kq_Bn_forget i_Bn_forget_34 rfl kq_Bn_withRow (by decide) rfl (Or.inl rfl) (fun v9 h8 => ?_)
    refine ix_K_px kq_Bn_forget i_Bn_forget_37 rfl rfl ?_
    refine ix_K_gr kq_Bn_forget i_Bn_forget_38 rfl (fun v10 => ?_)
    refine ix_K_px kq_Bn_forget i_Bn_forget_41 rfl rfl ?_
    refine ix_K_callL (as := [.ref v10, .int x2]) (rest := [.int v9, .ref v4]) kq_Bn_forget i_Bn_forget_42 rfl kq_Ta_waysAt (by decide) rfl rfl (fun v12 h11 => ?_)
    refine ix_K_callV (as := [.ref v4, .int v9, .long v12]) (rest := []) kq_Bn_forget i_Bn_forget_45 rfl kq_Ta_add (by decide) rfl rfl (fun h13 => ?_)
    refine ix_K_inc (L2 := [some (.ref a0), some (.int x1), some (.int (x2 + 1))]) kq_Bn_forget i_Bn_forget_48 rfl rfl (Nat.le_of_ble_eq_true rfl) kci_1 rfl ?_
    refine ix_K_goto (tgt := 9) kq_Bn_forget i_Bn_forget_51 rfl (by decide) ?_
    exact ix_D_cut i_Bn_forget_9 rfl
set_option maxRecDepth 20000 in
set_option maxHeartbeats 1000000 in
theorem e_Bn_forget (a0 : Nat) (x1 : Int32) (h : ixH) : ix_D mBn_forget 0 [some (.ref a0), some (.int x1), none] [] h = (ix_gr h a0 9 4).bind fun v1 => (ix_M mTa_empty [.ref v1] h).bind fun r => ix_kV r fun h2 => l_Bn_forget_9 a0 x1 0 h2 := by
  refine ix_K_px kq_Bn_forget i_Bn_forget_0 rfl rfl ?_
  refine ix_K_gr kq_Bn_forget i_Bn_forget_1 rfl (fun v1 => ?_)
  refine ix_K_callV (as := [.ref v1]) (rest := []) kq_Bn_forget i_Bn_forget_4 rfl kq_Ta_empty (by decide) rfl rfl (fun h2 => ?_)
  refine ix_K_ci kq_Bn_forget i_Bn_forget_7 rfl kci_0 ?_
  refine ix_K_si (L2 := [some (.ref a0), some (.int x1), some (.int 0)]) kq_Bn_forget i_Bn_forget_8 rfl (Or.inr ⟨_, rfl, rfl⟩) (Nat.le_of_ble_eq_true rfl) rfl ?_
  exact ix_D_cut i_Bn_forget_9 rfl
theorem x_Bn_forget {a0 : Nat} {x1 : Int32} {h h1 : ixH} (hr : ix_rc h a0 = some 9) (hd : ix_D mBn_forget 0 [some (.ref a0), some (.int x1), none] [] h = some ([], h1)) : ix_M mBn_forget [.ref a0, .int x1] h = some ([], h1) := ix_M_of (ix_ent_i kq_Bn_forget rfl hr rfl (Nat.le_of_ble_eq_true rfl) rfl) hd (ix_okrV rfl)
theorem i_Ta_init_0 : ix_nx mTa_init 0 = some (0, .aload_n 0, 1, none, [], 0) := rfl
theorem i_Ta_init_1 : ix_nx mTa_init 1 = some (3, .invokespecial 3, 4, none, [6, 0, 169], 0) := rfl
theorem i_Ta_init_4 : ix_nx mTa_init 4 = some (0, .aload_n 0, 5, none, [], 0) := rfl
theorem i_Ta_init_5 : ix_nx mTa_init 5 = some (0, .sipush 4096, 8, none, [], 0) := rfl
theorem i_Ta_init_8 : ix_nx mTa_init 8 = some (2, .newarray .long, 10, none, [], 0) := rfl
theorem i_Ta_init_10 : ix_nx mTa_init 10 = some (2, .putfield 11, 13, none, [10, 0, 2, 81], 0) := rfl
theorem i_Ta_init_13 : ix_nx mTa_init 13 = some (0, .aload_n 0, 14, none, [], 0) := rfl
theorem i_Ta_init_14 : ix_nx mTa_init 14 = some (0, .sipush 4096, 17, none, [], 0) := rfl
theorem i_Ta_init_17 : ix_nx mTa_init 17 = some (2, .newarray .int, 19, none, [], 0) := rfl
theorem i_Ta_init_19 : ix_nx mTa_init 19 = some (2, .putfield 15, 22, none, [10, 1, 2, 82], 0) := rfl
theorem i_Ta_init_22 : ix_nx mTa_init 22 = some (0, .aload_n 0, 23, none, [], 0) := rfl
theorem i_Ta_init_23 : ix_nx mTa_init 23 = some (0, .iconst 0, 24, none, [], 0) := rfl
theorem i_Ta_init_24 : ix_nx mTa_init 24 = some (2, .putfield 19, 27, none, [10, 2, 0, 83], 0) := rfl
theorem i_Ta_init_27 : ix_nx mTa_init 27 = some (4, .return_, 28, none, [], 0) := rfl
set_option maxRecDepth 20000 in
set_option maxHeartbeats 1000000 in
theorem e_Ta_init (a0 : Nat) (h : ixH) : ix_D mTa_init 0 [some (.ref a0)] [] h = (ix_pf (ix_nw h (.inl (1, 4096, .inr (.inl fun _ => 0))) 4096) a0 10 0 (.ref h.1)).bind fun h1 => (ix_pf (ix_nw h1 (.inl (0, 4096, .inl fun _ => 0)) 4096) a0 10 1 (.ref h1.1)).bind fun h2 => (ix_pf h2 a0 10 2 (.int 0)).bind fun h3 => some ([], h3) := by
  refine ix_K_px kq_Ta_init i_Ta_init_0 rfl rfl ?_
  refine ix_K_obj kq_Ta_init i_Ta_init_1 rfl (Nat.le_of_ble_eq_true rfl) ?_
  refine ix_K_px kq_Ta_init i_Ta_init_4 rfl rfl ?_
  refine ix_K_cs kq_Ta_init i_Ta_init_5 rfl kcs_4096 ?_
  refine ix_K_naL kq_Ta_init i_Ta_init_8 rfl kna_4096 knb_4096 (by decide) ?_
  refine ix_K_pf kq_Ta_init i_Ta_init_10 rfl rfl (fun h1 => ?_)
  refine ix_K_px kq_Ta_init i_Ta_init_13 rfl rfl ?_
  refine ix_K_cs kq_Ta_init i_Ta_init_14 rfl kcs_4096 ?_
  refine ix_K_naI kq_Ta_init i_Ta_init_17 rfl kna_4096 knb_4096 (by decide) ?_
  refine ix_K_pf kq_Ta_init i_Ta_init_19 rfl rfl (fun h2 => ?_)
  refine ix_K_px kq_Ta_init i_Ta_init_22 rfl rfl ?_
  refine ix_K_ci kq_Ta_init i_Ta_init_23 rfl kci_0 ?_
  refine ix_K_pf kq_Ta_init i_Ta_init_24 rfl rfl (fun h3 => ?_)
  exact ix_D_ret kq_Ta_init i_Ta_init_27 (ix_rtV rfl)
theorem x_Ta_init {a0 : Nat} {h h1 : ixH} (hd : ix_D mTa_init 0 [some (.ref a0)] [] h = some ([], h1)) : ix_M mTa_init [.ref a0] h = some ([], h1) := ix_M_of (ix_ent_c kq_Ta_init rfl rfl (Nat.le_of_ble_eq_true rfl) rfl) hd (ix_okrV rfl)
theorem i_Ta_empty_0 : ix_nx mTa_empty 0 = some (0, .iconst 0, 1, none, [], 0) := rfl
theorem i_Ta_empty_1 : ix_nx mTa_empty 1 = some (0, .istore_n 1, 2, none, [], 0) := rfl
theorem i_Ta_empty_2 : ix_nx mTa_empty 2 = some (0, .iload_n 1, 3, some [true, true], [], 0) := rfl
theorem i_Ta_empty_3 : ix_nx mTa_empty 3 = some (0, .aload_n 0, 4, none, [], 0) := rfl
theorem i_Ta_empty_4 : ix_nx mTa_empty 4 = some (1, .getfield 19, 7, none, [10, 2, 0, 83], 0) := rfl
theorem i_Ta_empty_7 : ix_nx mTa_empty 7 = some (0, .if_icmp .ge 20, 10, none, [], 0) := rfl
theorem i_Ta_empty_10 : ix_nx mTa_empty 10 = some (0, .aload_n 0, 11, none, [], 0) := rfl
theorem i_Ta_empty_11 : ix_nx mTa_empty 11 = some (1, .getfield 11, 14, none, [10, 0, 2, 81], 0) := rfl
theorem i_Ta_empty_14 : ix_nx mTa_empty 14 = some (0, .aload_n 0, 15, none, [], 0) := rfl
theorem i_Ta_empty_15 : ix_nx mTa_empty 15 = some (0, .iload_n 1, 16, none, [], 0) := rfl
theorem i_Ta_empty_16 : ix_nx mTa_empty 16 = some (3, .invokevirtual 23, 19, none, [0, 141, 170], 0) := rfl
theorem i_Ta_empty_19 : ix_nx mTa_empty 19 = some (0, .lconst 0, 20, none, [], 0) := rfl
theorem i_Ta_empty_20 : ix_nx mTa_empty 20 = some (2, .lastore, 21, none, [], 0) := rfl
theorem i_Ta_empty_21 : ix_nx mTa_empty 21 = some (0, .iinc 1 1, 24, none, [], 0) := rfl
theorem i_Ta_empty_24 : ix_nx mTa_empty 24 = some (0, .goto (-22), 27, none, [], 0) := rfl
theorem i_Ta_empty_27 : ix_nx mTa_empty 27 = some (0, .aload_n 0, 28, none, [], 0) := rfl
theorem i_Ta_empty_28 : ix_nx mTa_empty 28 = some (0, .iconst 0, 29, none, [], 0) := rfl
theorem i_Ta_empty_29 : ix_nx mTa_empty 29 = some (2, .putfield 19, 32, none, [10, 2, 0, 83], 0) := rfl
theorem i_Ta_empty_32 : ix_nx mTa_empty 32 = some (4, .return_, 33, none, [], 0) := rfl
noncomputable def l_Ta_empty_2 (a0 : Nat) (x1 : Int32) (h : ixH) : Option (List Value × ixH) := ix_D mTa_empty 2 [some (.ref a0), some (.int x1)] [] h
set_option maxRecDepth 20000 in
set_option maxHeartbeats 1000000 in
theorem e_Ta_empty_2 (a0 : Nat) (x1 : Int32) (h : ixH) : l_Ta_empty_2 a0 x1 h = (ix_gi h a0 10 2).bind fun v1 => if v1 ≤ x1 then (ix_pf h a0 10 2 (.int 0)).bind fun h2 => some ([], h2) else (ix_gr h a0 10 0).bind fun v3 => (ix_M mTa_rowsAt [.ref a0, .int x1] h).bind fun r => ix_kI r fun v5 h4 => (ix_sl h4 v3 v5 0).bind fun h6 => l_Ta_empty_2 a0 (x1 + 1) h6 := by
  unfold l_Ta_empty_2
  refine ix_K_px kq_Ta_empty i_Ta_empty_2 rfl rfl ?_
  refine ix_K_px kq_Ta_empty i_Ta_empty_3 rfl rfl ?_
  refine ix_K_gi kq_Ta_empty i_Ta_empty_4 rfl (fun v1 => ?_)
  refine ix_K_ic_ge (tgt := 27) kq_Ta_empty i_Ta_empty_7 rfl (by decide) ?_ ?_
  · refine ix_K_px kq_Ta_empty i_Ta_empty_27 rfl rfl ?_
    refine ix_K_ci kq_Ta_empty i_Ta_empty_28 rfl kci_0 ?_
    refine ix_K_pf kq_Ta_empty i_Ta_empty_29 rfl rfl (fun h2 => ?_)
    exact ix_D_ret kq_Ta_empty i_Ta_empty_32 (ix_rtV rfl)
  · refine ix_K_px kq_Ta_empty i_Ta_empty_10 rfl rfl ?_
    refine ix_K_gr kq_Ta_empty i_Ta_empty_11 rfl (fun v3 => ?_)
    refine ix_K_px kq_Ta_empty i_Ta_empty_14 rfl rfl ?_
    refine ix_K_px kq_Ta_empty i_Ta_empty_15 rfl rfl ?_
    refine ix_K_callI (as := [.ref a0, .int x1]) (rest := [.ref v3]) kq_Ta_empty i_Ta_empty_16 rfl kq_Ta_rowsAt (by decide) rfl (Or.inl rfl) (fun v5 h4 => ?_)
    refine ix_K_cl kq_Ta_empty i_Ta_empty_19 rfl kcl_0 ?_
    refine ix_K_tl kq_Ta_empty i_Ta_empty_20 rfl (fun h6 => ?_)
    refine ix_K_inc (L2 := [some (.ref a0), some (.int (x1 + 1))]) kq_Ta_empty i_Ta_empty_21 rfl rfl (Nat.le_of_ble_eq_true rfl) kci_1 rfl ?_
    refine ix_K_goto (tgt := 2) kq_Ta_empty i_Ta_empty_24 rfl (by decide) ?_
    exact ix_D_cut i_Ta_empty_2 rfl
set_option maxRecDepth 20000 in
set_option maxHeartbeats 1000000 in
theorem e_Ta_empty (a0 : Nat) (h : ixH) : ix_D mTa_empty 0 [some (.ref a0), none] [] h = l_Ta_empty_2 a0 0 h := by
  refine ix_K_ci kq_Ta_empty i_Ta_empty_0 rfl kci_0 ?_
  refine ix_K_si (L2 := [some (.ref a0), some (.int 0)]) kq_Ta_empty i_Ta_empty_1 rfl (Or.inr ⟨_, rfl, rfl⟩) (Nat.le_of_ble_eq_true rfl) rfl ?_
  exact ix_D_cut i_Ta_empty_2 rfl
theorem x_Ta_empty {a0 : Nat} {h h1 : ixH} (hr : ix_rc h a0 = some 10) (hd : ix_D mTa_empty 0 [some (.ref a0), none] [] h = some ([], h1)) : ix_M mTa_empty [.ref a0] h = some ([], h1) := ix_M_of (ix_ent_i kq_Ta_empty rfl hr rfl (Nat.le_of_ble_eq_true rfl) rfl) hd (ix_okrV rfl)
theorem i_Ta_rowsAt_0 : ix_nx mTa_rowsAt 0 = some (0, .iload_n 1, 1, none, [], 0) := rfl
theorem i_Ta_rowsAt_1 : ix_nx mTa_rowsAt 1 = some (0, .ifCond .lt 31, 4, none, [], 0) := rfl
theorem i_Ta_rowsAt_4 : ix_nx mTa_rowsAt 4 = some (0, .iload_n 1, 5, none, [], 0) := rfl
theorem i_Ta_rowsAt_5 : ix_nx mTa_rowsAt 5 = some (0, .aload_n 0, 6, none, [], 0) := rfl
theorem i_Ta_rowsAt_6 : ix_nx mTa_rowsAt 6 = some (1, .getfield 19, 9, none, [10, 2, 0, 83], 0) := rfl
theorem i_Ta_rowsAt_9 : ix_nx mTa_rowsAt 9 = some (0, .if_icmp .ge 23, 12, none, [], 0) := rfl
theorem i_Ta_rowsAt_12 : ix_nx mTa_rowsAt 12 = some (0, .iload_n 1, 13, none, [], 0) := rfl
theorem i_Ta_rowsAt_13 : ix_nx mTa_rowsAt 13 = some (0, .sipush 4096, 16, none, [], 0) := rfl
theorem i_Ta_rowsAt_16 : ix_nx mTa_rowsAt 16 = some (0, .if_icmp .ge 16, 19, none, [], 0) := rfl
theorem i_Ta_rowsAt_19 : ix_nx mTa_rowsAt 19 = some (0, .aload_n 0, 20, none, [], 0) := rfl
theorem i_Ta_rowsAt_20 : ix_nx mTa_rowsAt 20 = some (1, .getfield 15, 23, none, [10, 1, 2, 82], 0) := rfl
theorem i_Ta_rowsAt_23 : ix_nx mTa_rowsAt 23 = some (0, .iload_n 1, 24, none, [], 0) := rfl
theorem i_Ta_rowsAt_24 : ix_nx mTa_rowsAt 24 = some (1, .iaload, 25, none, [], 0) := rfl
theorem i_Ta_rowsAt_25 : ix_nx mTa_rowsAt 25 = some (0, .sipush 4095, 28, none, [], 0) := rfl
theorem i_Ta_rowsAt_28 : ix_nx mTa_rowsAt 28 = some (0, .iand, 29, none, [], 0) := rfl
theorem i_Ta_rowsAt_29 : ix_nx mTa_rowsAt 29 = some (0, .goto 4, 32, none, [], 0) := rfl
theorem i_Ta_rowsAt_32 : ix_nx mTa_rowsAt 32 = some (0, .iconst 0, 33, none, [], 0) := rfl
theorem i_Ta_rowsAt_33 : ix_nx mTa_rowsAt 33 = some (4, .ireturn, 34, none, [], 0) := rfl
set_option maxRecDepth 20000 in
set_option maxHeartbeats 1000000 in
theorem e_Ta_rowsAt (a0 : Nat) (x1 : Int32) (h : ixH) : ix_D mTa_rowsAt 0 [some (.ref a0), some (.int x1)] [] h = if x1 < 0 then some ([.int 0], h) else (ix_gi h a0 10 2).bind fun v1 => if v1 ≤ x1 then some ([.int 0], h) else if 4096 ≤ x1 then some ([.int 0], h) else (ix_gr h a0 10 1).bind fun v2 => (ix_ai h v2 x1).bind fun v3 => some ([.int (v3 &&& 4095)], h) := by
  refine ix_K_px kq_Ta_rowsAt i_Ta_rowsAt_0 rfl rfl ?_
  refine ix_K_if_lt (tgt := 32) kq_Ta_rowsAt i_Ta_rowsAt_1 rfl (by decide) ?_ ?_
  · refine ix_K_ci kq_Ta_rowsAt i_Ta_rowsAt_32 rfl kci_0 ?_
    exact ix_D_ret kq_Ta_rowsAt i_Ta_rowsAt_33 (ix_rtI rfl _)
  · refine ix_K_px kq_Ta_rowsAt i_Ta_rowsAt_4 rfl rfl ?_
    refine ix_K_px kq_Ta_rowsAt i_Ta_rowsAt_5 rfl rfl ?_
    refine ix_K_gi kq_Ta_rowsAt i_Ta_rowsAt_6 rfl (fun v1 => ?_)
    refine ix_K_ic_ge (tgt := 32) kq_Ta_rowsAt i_Ta_rowsAt_9 rfl (by decide) ?_ ?_
    · refine ix_K_ci kq_Ta_rowsAt i_Ta_rowsAt_32 rfl kci_0 ?_
      exact ix_D_ret kq_Ta_rowsAt i_Ta_rowsAt_33 (ix_rtI rfl _)
    · refine ix_K_px kq_Ta_rowsAt i_Ta_rowsAt_12 rfl rfl ?_
      refine ix_K_cs kq_Ta_rowsAt i_Ta_rowsAt_13 rfl kcs_4096 ?_
      refine ix_K_ic_ge (tgt := 32) kq_Ta_rowsAt i_Ta_rowsAt_16 rfl (by decide) ?_ ?_
      · refine ix_K_ci kq_Ta_rowsAt i_Ta_rowsAt_32 rfl kci_0 ?_
        exact ix_D_ret kq_Ta_rowsAt i_Ta_rowsAt_33 (ix_rtI rfl _)
      · refine ix_K_px kq_Ta_rowsAt i_Ta_rowsAt_19 rfl rfl ?_
        refine ix_K_gr kq_Ta_rowsAt i_Ta_rowsAt_20 rfl (fun v2 => ?_)
        refine ix_K_px kq_Ta_rowsAt i_Ta_rowsAt_23 rfl rfl ?_
        refine ix_K_ai kq_Ta_rowsAt i_Ta_rowsAt_24 rfl (fun v3 => ?_)
        refine ix_K_cs kq_Ta_rowsAt i_Ta_rowsAt_25 rfl kcs_4095 ?_
        refine ix_K_px kq_Ta_rowsAt i_Ta_rowsAt_28 rfl rfl ?_
        refine ix_K_goto (tgt := 33) kq_Ta_rowsAt i_Ta_rowsAt_29 rfl (by decide) ?_
        exact ix_D_ret kq_Ta_rowsAt i_Ta_rowsAt_33 (ix_rtI rfl _)
theorem x_Ta_rowsAt {a0 : Nat} {x1 : Int32} {h h1 : ixH} {v : Int32} (hr : ix_rc h a0 = some 10) (hd : ix_D mTa_rowsAt 0 [some (.ref a0), some (.int x1)] [] h = some ([.int v], h1)) : ix_M mTa_rowsAt [.ref a0, .int x1] h = some ([.int v], h1) := ix_M_of (ix_ent_i kq_Ta_rowsAt rfl hr rfl (Nat.le_of_ble_eq_true rfl) rfl) hd (ix_okrI (Or.inl rfl) v)
theorem i_Ta_add_0 : ix_nx mTa_add 0 = some (0, .iload_n 1, 1, none, [], 0) := rfl
theorem i_Ta_add_1 : ix_nx mTa_add 1 = some (0, .ifCond .lt 10, 4, none, [], 0) := rfl
theorem i_Ta_add_4 : ix_nx mTa_add 4 = some (0, .iload_n 1, 5, none, [], 0) := rfl
theorem i_Ta_add_5 : ix_nx mTa_add 5 = some (0, .sipush 4096, 8, none, [], 0) := rfl
theorem i_Ta_add_8 : ix_nx mTa_add 8 = some (0, .if_icmp .lt 4, 11, none, [], 0) := rfl
theorem i_Ta_add_11 : ix_nx mTa_add 11 = some (4, .return_, 12, none, [], 0) := rfl
theorem i_Ta_add_12 : ix_nx mTa_add 12 = some (0, .aload_n 0, 13, none, [], 0) := rfl
theorem i_Ta_add_13 : ix_nx mTa_add 13 = some (1, .getfield 11, 16, none, [10, 0, 2, 81], 0) := rfl
theorem i_Ta_add_16 : ix_nx mTa_add 16 = some (0, .iload_n 1, 17, none, [], 0) := rfl
theorem i_Ta_add_17 : ix_nx mTa_add 17 = some (1, .laload, 18, none, [], 0) := rfl
theorem i_Ta_add_18 : ix_nx mTa_add 18 = some (0, .lconst 0, 19, none, [], 0) := rfl
theorem i_Ta_add_19 : ix_nx mTa_add 19 = some (0, .lcmp, 20, none, [], 0) := rfl
theorem i_Ta_add_20 : ix_nx mTa_add 20 = some (0, .ifCond .ne 40, 23, none, [], 0) := rfl
theorem i_Ta_add_23 : ix_nx mTa_add 23 = some (0, .aload_n 0, 24, none, [], 0) := rfl
theorem i_Ta_add_24 : ix_nx mTa_add 24 = some (1, .getfield 19, 27, none, [10, 2, 0, 83], 0) := rfl
theorem i_Ta_add_27 : ix_nx mTa_add 27 = some (0, .ifCond .lt 33, 30, none, [], 0) := rfl
theorem i_Ta_add_30 : ix_nx mTa_add 30 = some (0, .aload_n 0, 31, none, [], 0) := rfl
theorem i_Ta_add_31 : ix_nx mTa_add 31 = some (1, .getfield 19, 34, none, [10, 2, 0, 83], 0) := rfl
theorem i_Ta_add_34 : ix_nx mTa_add 34 = some (0, .sipush 4096, 37, none, [], 0) := rfl
theorem i_Ta_add_37 : ix_nx mTa_add 37 = some (0, .if_icmp .ge 23, 40, none, [], 0) := rfl
theorem i_Ta_add_40 : ix_nx mTa_add 40 = some (0, .aload_n 0, 41, none, [], 0) := rfl
theorem i_Ta_add_41 : ix_nx mTa_add 41 = some (1, .getfield 15, 44, none, [10, 1, 2, 82], 0) := rfl
theorem i_Ta_add_44 : ix_nx mTa_add 44 = some (0, .aload_n 0, 45, none, [], 0) := rfl
theorem i_Ta_add_45 : ix_nx mTa_add 45 = some (1, .getfield 19, 48, none, [10, 2, 0, 83], 0) := rfl
theorem i_Ta_add_48 : ix_nx mTa_add 48 = some (0, .iload_n 1, 49, none, [], 0) := rfl
theorem i_Ta_add_49 : ix_nx mTa_add 49 = some (2, .iastore, 50, none, [], 0) := rfl
theorem i_Ta_add_50 : ix_nx mTa_add 50 = some (0, .aload_n 0, 51, none, [], 0) := rfl
theorem i_Ta_add_51 : ix_nx mTa_add 51 = some (0, .dup, 52, none, [], 0) := rfl
theorem i_Ta_add_52 : ix_nx mTa_add 52 = some (1, .getfield 19, 55, none, [10, 2, 0, 83], 0) := rfl
theorem i_Ta_add_55 : ix_nx mTa_add 55 = some (0, .iconst 1, 56, none, [], 0) := rfl
theorem i_Ta_add_56 : ix_nx mTa_add 56 = some (0, .iadd, 57, none, [], 0) := rfl
theorem i_Ta_add_57 : ix_nx mTa_add 57 = some (2, .putfield 19, 60, none, [10, 2, 0, 83], 0) := rfl
theorem i_Ta_add_60 : ix_nx mTa_add 60 = some (0, .aload_n 0, 61, none, [], 0) := rfl
theorem i_Ta_add_61 : ix_nx mTa_add 61 = some (1, .getfield 11, 64, none, [10, 0, 2, 81], 0) := rfl
theorem i_Ta_add_64 : ix_nx mTa_add 64 = some (0, .iload_n 1, 65, none, [], 0) := rfl
theorem i_Ta_add_65 : ix_nx mTa_add 65 = some (0, .dup2, 66, none, [], 0) := rfl
theorem i_Ta_add_66 : ix_nx mTa_add 66 = some (1, .laload, 67, none, [], 0) := rfl
theorem i_Ta_add_67 : ix_nx mTa_add 67 = some (0, .lload_n 2, 68, none, [], 0) := rfl
theorem i_Ta_add_68 : ix_nx mTa_add 68 = some (0, .ladd, 69, none, [], 0) := rfl
theorem i_Ta_add_69 : ix_nx mTa_add 69 = some (2, .lastore, 70, none, [], 0) := rfl
theorem i_Ta_add_70 : ix_nx mTa_add 70 = some (4, .return_, 71, none, [], 0) := rfl
set_option maxRecDepth 20000 in
set_option maxHeartbeats 1000000 in
theorem e_Ta_add (a0 : Nat) (x1 : Int32) (x2 : Int64) (h : ixH) : ix_D mTa_add 0 [some (.ref a0), some (.int x1), some (.long x2), none] [] h = if x1 < 0 then some ([], h) else if x1 < 4096 then (ix_gr h a0 10 0).bind fun v1 => (ix_al h v1 x1).bind fun v2 => if v2 = 0 then (ix_gi h a0 10 2).bind fun v3 => if v3 < 0 then (ix_gr h a0 10 0).bind fun v4 => (ix_al h v4 x1).bind fun v5 => (ix_sl h v4 x1 (v5 + x2)).bind fun h6 => some ([], h6) else (ix_gi h a0 10 2).bind fun v7 => if 4096 ≤ v7 then (ix_gr h a0 10 0).bind fun v8 => (ix_al h v8 x1).bind fun v9 => (ix_sl h v8 x1 (v9 + x2)).bind fun h10 => some ([], h10) else (ix_gr h a0 10 1).bind fun v11 => (ix_gi h a0 10 2).bind fun v12 => (ix_si h v11 v12 x1).bind fun h13 => (ix_gi h13 a0 10 2).bind fun v14 => (ix_pf h13 a0 10 2 (.int (v14 + 1))).bind fun h15 => (ix_gr h15 a0 10 0).bind fun v16 => (ix_al h15 v16 x1).bind fun v17 => (ix_sl h15 v16 x1 (v17 + x2)).bind fun h18 => some ([], h18) else (ix_gr h a0 10 0).bind fun v19 => (ix_al h v19 x1).bind fun v20 => (ix_sl h v19 x1 (v20 + x2)).bind fun h21 => some ([], h21) else some ([], h) := by
  refine ix_K_px kq_Ta_add i_Ta_add_0 rfl rfl ?_
  refine ix_K_if_lt (tgt := 11) kq_Ta_add i_Ta_add_1 rfl (by decide) ?_ ?_
  · exact ix_D_ret kq_Ta_add i_Ta_add_11 (ix_rtV rfl)
  · refine ix_K_px kq_Ta_add i_Ta_add_4 rfl rfl ?_
    refine ix_K_cs kq_Ta_add i_Ta_add_5 rfl kcs_4096 ?_
    refine ix_K_ic_lt (tgt := 12) kq_Ta_add i_Ta_add_8 rfl (by decide) ?_ ?_
    · refine ix_K_px kq_Ta_add i_Ta_add_12 rfl rfl ?_
      refine ix_K_gr kq_Ta_add i_Ta_add_13 rfl (fun v1 => ?_)
      refine ix_K_px kq_Ta_add i_Ta_add_16 rfl rfl ?_
      refine ix_K_al kq_Ta_add i_Ta_add_17 rfl (fun v2 => ?_)
      refine ix_K_cl kq_Ta_add i_Ta_add_18 rfl kcl_0 ?_
      refine ix_K_px kq_Ta_add i_Ta_add_19 rfl rfl ?_
      refine ix_K_lc_ne (tgt := 60) kq_Ta_add i_Ta_add_20 rfl (by decide) ?_ ?_
      · refine ix_K_px kq_Ta_add i_Ta_add_23 rfl rfl ?_
        refine ix_K_gi kq_Ta_add i_Ta_add_24 rfl (fun v3 => ?_)
        refine ix_K_if_lt (tgt := 60) kq_Ta_add i_Ta_add_27 rfl (by decide) ?_ ?_
        · refine ix_K_px kq_Ta_add i_Ta_add_60 rfl rfl ?_
          refine ix_K_gr kq_Ta_add i_Ta_add_61 rfl (fun v4 => ?_)
          refine ix_K_px kq_Ta_add i_Ta_add_64 rfl rfl ?_
          refine ix_K_px kq_Ta_add i_Ta_add_65 rfl rfl ?_
          refine ix_K_al kq_Ta_add i_Ta_add_66 rfl (fun v5 => ?_)
          refine ix_K_px kq_Ta_add i_Ta_add_67 rfl rfl ?_
          refine ix_K_px kq_Ta_add i_Ta_add_68 rfl rfl ?_
          refine ix_K_tl kq_Ta_add i_Ta_add_69 rfl (fun h6 => ?_)
          exact ix_D_ret kq_Ta_add i_Ta_add_70 (ix_rtV rfl)
        · refine ix_K_px kq_Ta_add i_Ta_add_30 rfl rfl ?_
          refine ix_K_gi kq_Ta_add i_Ta_add_31 rfl (fun v7 => ?_)
          refine ix_K_cs kq_Ta_add i_Ta_add_34 rfl kcs_4096 ?_
          refine ix_K_ic_ge (tgt := 60) kq_Ta_add i_Ta_add_37 rfl (by decide) ?_ ?_
          · refine ix_K_px kq_Ta_add i_Ta_add_60 rfl rfl ?_
            refine ix_K_gr kq_Ta_add i_Ta_add_61 rfl (fun v8 => ?_)
            refine ix_K_px kq_Ta_add i_Ta_add_64 rfl rfl ?_
            refine ix_K_px kq_Ta_add i_Ta_add_65 rfl rfl ?_
            refine ix_K_al kq_Ta_add i_Ta_add_66 rfl (fun v9 => ?_)
            refine ix_K_px kq_Ta_add i_Ta_add_67 rfl rfl ?_
            refine ix_K_px kq_Ta_add i_Ta_add_68 rfl rfl ?_
            refine ix_K_tl kq_Ta_add i_Ta_add_69 rfl (fun h10 => ?_)
            exact ix_D_ret kq_Ta_add i_Ta_add_70 (ix_rtV rfl)
          · refine ix_K_px kq_Ta_add i_Ta_add_40 rfl rfl ?_
            refine ix_K_gr kq_Ta_add i_Ta_add_41 rfl (fun v11 => ?_)
            refine ix_K_px kq_Ta_add i_Ta_add_44 rfl rfl ?_
            refine ix_K_gi kq_Ta_add i_Ta_add_45 rfl (fun v12 => ?_)
            refine ix_K_px kq_Ta_add i_Ta_add_48 rfl rfl ?_
            refine ix_K_ti kq_Ta_add i_Ta_add_49 rfl (fun h13 => ?_)
            refine ix_K_px kq_Ta_add i_Ta_add_50 rfl rfl ?_
            refine ix_K_px kq_Ta_add i_Ta_add_51 rfl rfl ?_
            refine ix_K_gi kq_Ta_add i_Ta_add_52 rfl (fun v14 => ?_)
            refine ix_K_ci kq_Ta_add i_Ta_add_55 rfl kci_1 ?_
            refine ix_K_px kq_Ta_add i_Ta_add_56 rfl rfl ?_
            refine ix_K_pf kq_Ta_add i_Ta_add_57 rfl rfl (fun h15 => ?_)
            refine ix_K_px kq_Ta_add i_Ta_add_60 rfl rfl ?_
            refine ix_K_gr kq_Ta_add i_Ta_add_61 rfl (fun v16 => ?_)
            refine ix_K_px kq_Ta_add i_Ta_add_64 rfl rfl ?_
            refine ix_K_px kq_Ta_add i_Ta_add_65 rfl rfl ?_
            refine ix_K_al kq_Ta_add i_Ta_add_66 rfl (fun v17 => ?_)
            refine ix_K_px kq_Ta_add i_Ta_add_67 rfl rfl ?_
            refine ix_K_px kq_Ta_add i_Ta_add_68 rfl rfl ?_
            refine ix_K_tl kq_Ta_add i_Ta_add_69 rfl (fun h18 => ?_)
            exact ix_D_ret kq_Ta_add i_Ta_add_70 (ix_rtV rfl)
      · refine ix_K_px kq_Ta_add i_Ta_add_60 rfl rfl ?_
        refine ix_K_gr kq_Ta_add i_Ta_add_61 rfl (fun v19 => ?_)
        refine ix_K_px kq_Ta_add i_Ta_add_64 rfl rfl ?_
        refine ix_K_px kq_Ta_add i_Ta_add_65 rfl rfl ?_
        refine ix_K_al kq_Ta_add i_Ta_add_66 rfl (fun v20 => ?_)
        refine ix_K_px kq_Ta_add i_Ta_add_67 rfl rfl ?_
        refine ix_K_px kq_Ta_add i_Ta_add_68 rfl rfl ?_
        refine ix_K_tl kq_Ta_add i_Ta_add_69 rfl (fun h21 => ?_)
        exact ix_D_ret kq_Ta_add i_Ta_add_70 (ix_rtV rfl)
    · exact ix_D_ret kq_Ta_add i_Ta_add_11 (ix_rtV rfl)
theorem x_Ta_add {a0 : Nat} {x1 : Int32} {x2 : Int64} {h h1 : ixH} (hr : ix_rc h a0 = some 10) (hd : ix_D mTa_add 0 [some (.ref a0), some (.int x1), some (.long x2), none] [] h = some ([], h1)) : ix_M mTa_add [.ref a0, .int x1, .long x2] h = some ([], h1) := ix_M_of (ix_ent_i kq_Ta_add rfl hr rfl (Nat.le_of_ble_eq_true rfl) rfl) hd (ix_okrV rfl)
theorem i_Ta_waysAt_0 : ix_nx mTa_waysAt 0 = some (0, .aload_n 0, 1, none, [], 0) := rfl
theorem i_Ta_waysAt_1 : ix_nx mTa_waysAt 1 = some (1, .getfield 11, 4, none, [10, 0, 2, 81], 0) := rfl
theorem i_Ta_waysAt_4 : ix_nx mTa_waysAt 4 = some (0, .aload_n 0, 5, none, [], 0) := rfl
theorem i_Ta_waysAt_5 : ix_nx mTa_waysAt 5 = some (0, .iload_n 1, 6, none, [], 0) := rfl
theorem i_Ta_waysAt_6 : ix_nx mTa_waysAt 6 = some (3, .invokevirtual 23, 9, none, [0, 141, 170], 0) := rfl
theorem i_Ta_waysAt_9 : ix_nx mTa_waysAt 9 = some (1, .laload, 10, none, [], 0) := rfl
theorem i_Ta_waysAt_10 : ix_nx mTa_waysAt 10 = some (4, .lreturn, 11, none, [], 0) := rfl
set_option maxRecDepth 20000 in
set_option maxHeartbeats 1000000 in
theorem e_Ta_waysAt (a0 : Nat) (x1 : Int32) (h : ixH) : ix_D mTa_waysAt 0 [some (.ref a0), some (.int x1)] [] h = (ix_gr h a0 10 0).bind fun v1 => (ix_M mTa_rowsAt [.ref a0, .int x1] h).bind fun r => ix_kI r fun v3 h2 => (ix_al h2 v1 v3).bind fun v4 => some ([.long v4], h2) := by
  refine ix_K_px kq_Ta_waysAt i_Ta_waysAt_0 rfl rfl ?_
  refine ix_K_gr kq_Ta_waysAt i_Ta_waysAt_1 rfl (fun v1 => ?_)
  refine ix_K_px kq_Ta_waysAt i_Ta_waysAt_4 rfl rfl ?_
  refine ix_K_px kq_Ta_waysAt i_Ta_waysAt_5 rfl rfl ?_
  refine ix_K_callI (as := [.ref a0, .int x1]) (rest := [.ref v1]) kq_Ta_waysAt i_Ta_waysAt_6 rfl kq_Ta_rowsAt (by decide) rfl (Or.inl rfl) (fun v3 h2 => ?_)
  refine ix_K_al kq_Ta_waysAt i_Ta_waysAt_9 rfl (fun v4 => ?_)
  exact ix_D_ret kq_Ta_waysAt i_Ta_waysAt_10 (ix_rtL rfl _)
theorem x_Ta_waysAt {a0 : Nat} {x1 : Int32} {h h1 : ixH} {v : Int64} (hr : ix_rc h a0 = some 10) (hd : ix_D mTa_waysAt 0 [some (.ref a0), some (.int x1)] [] h = some ([.long v], h1)) : ix_M mTa_waysAt [.ref a0, .int x1] h = some ([.long v], h1) := ix_M_of (ix_ent_i kq_Ta_waysAt rfl hr rfl (Nat.le_of_ble_eq_true rfl) rfl) hd (ix_okrL rfl v)
theorem i_Ta_total_0 : ix_nx mTa_total 0 = some (0, .lconst 0, 1, none, [], 0) := rfl
theorem i_Ta_total_1 : ix_nx mTa_total 1 = some (0, .lstore_n 1, 2, none, [], 0) := rfl
theorem i_Ta_total_2 : ix_nx mTa_total 2 = some (0, .iconst 0, 3, none, [], 0) := rfl
theorem i_Ta_total_3 : ix_nx mTa_total 3 = some (0, .istore_n 3, 4, none, [], 0) := rfl
theorem i_Ta_total_4 : ix_nx mTa_total 4 = some (0, .iload_n 3, 5, some [true, true, false, true], [], 0) := rfl
theorem i_Ta_total_5 : ix_nx mTa_total 5 = some (0, .aload_n 0, 6, none, [], 0) := rfl
theorem i_Ta_total_6 : ix_nx mTa_total 6 = some (1, .getfield 19, 9, none, [10, 2, 0, 83], 0) := rfl
theorem i_Ta_total_9 : ix_nx mTa_total 9 = some (0, .if_icmp .ge 17, 12, none, [], 0) := rfl
theorem i_Ta_total_12 : ix_nx mTa_total 12 = some (0, .lload_n 1, 13, none, [], 0) := rfl
theorem i_Ta_total_13 : ix_nx mTa_total 13 = some (0, .aload_n 0, 14, none, [], 0) := rfl
theorem i_Ta_total_14 : ix_nx mTa_total 14 = some (0, .iload_n 3, 15, none, [], 0) := rfl
theorem i_Ta_total_15 : ix_nx mTa_total 15 = some (3, .invokevirtual 27, 18, none, [0, 143, 171], 0) := rfl
theorem i_Ta_total_18 : ix_nx mTa_total 18 = some (0, .ladd, 19, none, [], 0) := rfl
theorem i_Ta_total_19 : ix_nx mTa_total 19 = some (0, .lstore_n 1, 20, none, [], 0) := rfl
theorem i_Ta_total_20 : ix_nx mTa_total 20 = some (0, .iinc 3 1, 23, none, [], 0) := rfl
theorem i_Ta_total_23 : ix_nx mTa_total 23 = some (0, .goto (-19), 26, none, [], 0) := rfl
theorem i_Ta_total_26 : ix_nx mTa_total 26 = some (0, .lload_n 1, 27, none, [], 0) := rfl
theorem i_Ta_total_27 : ix_nx mTa_total 27 = some (4, .lreturn, 28, none, [], 0) := rfl
noncomputable def l_Ta_total_4 (a0 : Nat) (x1 : Int64) (x3 : Int32) (h : ixH) : Option (List Value × ixH) := ix_D mTa_total 4 [some (.ref a0), some (.long x1), none, some (.int x3)] [] h
set_option maxRecDepth 20000 in
set_option maxHeartbeats 1000000 in
theorem e_Ta_total_4 (a0 : Nat) (x1 : Int64) (x3 : Int32) (h : ixH) : l_Ta_total_4 a0 x1 x3 h = (ix_gi h a0 10 2).bind fun v1 => if v1 ≤ x3 then some ([.long x1], h) else (ix_M mTa_waysAt [.ref a0, .int x3] h).bind fun r => ix_kL r fun v3 h2 => l_Ta_total_4 a0 (x1 + v3) (x3 + 1) h2 := by
  unfold l_Ta_total_4
  refine ix_K_px kq_Ta_total i_Ta_total_4 rfl rfl ?_
  refine ix_K_px kq_Ta_total i_Ta_total_5 rfl rfl ?_
  refine ix_K_gi kq_Ta_total i_Ta_total_6 rfl (fun v1 => ?_)
  refine ix_K_ic_ge (tgt := 26) kq_Ta_total i_Ta_total_9 rfl (by decide) ?_ ?_
  · refine ix_K_px kq_Ta_total i_Ta_total_26 rfl rfl ?_
    exact ix_D_ret kq_Ta_total i_Ta_total_27 (ix_rtL rfl _)
  · refine ix_K_px kq_Ta_total i_Ta_total_12 rfl rfl ?_
    refine ix_K_px kq_Ta_total i_Ta_total_13 rfl rfl ?_
    refine ix_K_px kq_Ta_total i_Ta_total_14 rfl rfl ?_
    refine ix_K_callL (as := [.ref a0, .int x3]) (rest := [.long x1]) kq_Ta_total i_Ta_total_15 rfl kq_Ta_waysAt (by decide) rfl rfl (fun v3 h2 => ?_)
    refine ix_K_px kq_Ta_total i_Ta_total_18 rfl rfl ?_
    refine ix_K_sl (L2 := [some (.ref a0), some (.long (x1 + v3)), none, some (.int x3)]) kq_Ta_total i_Ta_total_19 rfl (Or.inr ⟨_, rfl, rfl⟩) (Nat.le_of_ble_eq_true rfl) rfl ?_
    refine ix_K_inc (L2 := [some (.ref a0), some (.long (x1 + v3)), none, some (.int (x3 + 1))]) kq_Ta_total i_Ta_total_20 rfl rfl (Nat.le_of_ble_eq_true rfl) kci_1 rfl ?_
    refine ix_K_goto (tgt := 4) kq_Ta_total i_Ta_total_23 rfl (by decide) ?_
    exact ix_D_cut i_Ta_total_4 rfl
set_option maxRecDepth 20000 in
set_option maxHeartbeats 1000000 in
theorem e_Ta_total (a0 : Nat) (h : ixH) : ix_D mTa_total 0 [some (.ref a0), none, none, none] [] h = l_Ta_total_4 a0 0 0 h := by
  refine ix_K_cl kq_Ta_total i_Ta_total_0 rfl kcl_0 ?_
  refine ix_K_sl (L2 := [some (.ref a0), some (.long 0), none, none]) kq_Ta_total i_Ta_total_1 rfl (Or.inr ⟨_, rfl, rfl⟩) (Nat.le_of_ble_eq_true rfl) rfl ?_
  refine ix_K_ci kq_Ta_total i_Ta_total_2 rfl kci_0 ?_
  refine ix_K_si (L2 := [some (.ref a0), some (.long 0), none, some (.int 0)]) kq_Ta_total i_Ta_total_3 rfl (Or.inr ⟨_, rfl, rfl⟩) (Nat.le_of_ble_eq_true rfl) rfl ?_
  exact ix_D_cut i_Ta_total_4 rfl
theorem x_Ta_total {a0 : Nat} {h h1 : ixH} {v : Int64} (hr : ix_rc h a0 = some 10) (hd : ix_D mTa_total 0 [some (.ref a0), none, none, none] [] h = some ([.long v], h1)) : ix_M mTa_total [.ref a0] h = some ([.long v], h1) := ix_M_of (ix_ent_i kq_Ta_total rfl hr rfl (Nat.le_of_ble_eq_true rfl) rfl) hd (ix_okrL rfl v)
theorem i_JL_bitCount_0 : ix_nx mJL_bitCount 0 = some (0, .lload_n 0, 1, none, [], 0) := rfl
theorem i_JL_bitCount_1 : ix_nx mJL_bitCount 1 = some (0, .lload_n 0, 2, none, [], 0) := rfl
theorem i_JL_bitCount_2 : ix_nx mJL_bitCount 2 = some (0, .iconst 1, 3, none, [], 0) := rfl
theorem i_JL_bitCount_3 : ix_nx mJL_bitCount 3 = some (0, .lushr, 4, none, [], 0) := rfl
theorem i_JL_bitCount_4 : ix_nx mJL_bitCount 4 = some (0, .ldc2_w 314, 7, none, [2], 6148914691236517205) := rfl
theorem i_JL_bitCount_7 : ix_nx mJL_bitCount 7 = some (0, .land, 8, none, [], 0) := rfl
theorem i_JL_bitCount_8 : ix_nx mJL_bitCount 8 = some (0, .lsub, 9, none, [], 0) := rfl
theorem i_JL_bitCount_9 : ix_nx mJL_bitCount 9 = some (0, .lstore_n 0, 10, none, [], 0) := rfl
theorem i_JL_bitCount_10 : ix_nx mJL_bitCount 10 = some (0, .lload_n 0, 11, none, [], 0) := rfl
theorem i_JL_bitCount_11 : ix_nx mJL_bitCount 11 = some (0, .ldc2_w 316, 14, none, [3], 3689348814741910323) := rfl
theorem i_JL_bitCount_14 : ix_nx mJL_bitCount 14 = some (0, .land, 15, none, [], 0) := rfl
theorem i_JL_bitCount_15 : ix_nx mJL_bitCount 15 = some (0, .lload_n 0, 16, none, [], 0) := rfl
theorem i_JL_bitCount_16 : ix_nx mJL_bitCount 16 = some (0, .iconst 2, 17, none, [], 0) := rfl
theorem i_JL_bitCount_17 : ix_nx mJL_bitCount 17 = some (0, .lushr, 18, none, [], 0) := rfl
theorem i_JL_bitCount_18 : ix_nx mJL_bitCount 18 = some (0, .ldc2_w 316, 21, none, [3], 3689348814741910323) := rfl
theorem i_JL_bitCount_21 : ix_nx mJL_bitCount 21 = some (0, .land, 22, none, [], 0) := rfl
theorem i_JL_bitCount_22 : ix_nx mJL_bitCount 22 = some (0, .ladd, 23, none, [], 0) := rfl
theorem i_JL_bitCount_23 : ix_nx mJL_bitCount 23 = some (0, .lstore_n 0, 24, none, [], 0) := rfl
theorem i_JL_bitCount_24 : ix_nx mJL_bitCount 24 = some (0, .lload_n 0, 25, none, [], 0) := rfl
theorem i_JL_bitCount_25 : ix_nx mJL_bitCount 25 = some (0, .lload_n 0, 26, none, [], 0) := rfl
theorem i_JL_bitCount_26 : ix_nx mJL_bitCount 26 = some (0, .iconst 4, 27, none, [], 0) := rfl
theorem i_JL_bitCount_27 : ix_nx mJL_bitCount 27 = some (0, .lushr, 28, none, [], 0) := rfl
theorem i_JL_bitCount_28 : ix_nx mJL_bitCount 28 = some (0, .ladd, 29, none, [], 0) := rfl
theorem i_JL_bitCount_29 : ix_nx mJL_bitCount 29 = some (0, .ldc2_w 318, 32, none, [4], 1085102592571150095) := rfl
theorem i_JL_bitCount_32 : ix_nx mJL_bitCount 32 = some (0, .land, 33, none, [], 0) := rfl
theorem i_JL_bitCount_33 : ix_nx mJL_bitCount 33 = some (0, .lstore_n 0, 34, none, [], 0) := rfl
theorem i_JL_bitCount_34 : ix_nx mJL_bitCount 34 = some (0, .lload_n 0, 35, none, [], 0) := rfl
theorem i_JL_bitCount_35 : ix_nx mJL_bitCount 35 = some (0, .lload_n 0, 36, none, [], 0) := rfl
theorem i_JL_bitCount_36 : ix_nx mJL_bitCount 36 = some (0, .bipush 8, 38, none, [], 0) := rfl
theorem i_JL_bitCount_38 : ix_nx mJL_bitCount 38 = some (0, .lushr, 39, none, [], 0) := rfl
theorem i_JL_bitCount_39 : ix_nx mJL_bitCount 39 = some (0, .ladd, 40, none, [], 0) := rfl
theorem i_JL_bitCount_40 : ix_nx mJL_bitCount 40 = some (0, .lstore_n 0, 41, none, [], 0) := rfl
theorem i_JL_bitCount_41 : ix_nx mJL_bitCount 41 = some (0, .lload_n 0, 42, none, [], 0) := rfl
theorem i_JL_bitCount_42 : ix_nx mJL_bitCount 42 = some (0, .lload_n 0, 43, none, [], 0) := rfl
theorem i_JL_bitCount_43 : ix_nx mJL_bitCount 43 = some (0, .bipush 16, 45, none, [], 0) := rfl
theorem i_JL_bitCount_45 : ix_nx mJL_bitCount 45 = some (0, .lushr, 46, none, [], 0) := rfl
theorem i_JL_bitCount_46 : ix_nx mJL_bitCount 46 = some (0, .ladd, 47, none, [], 0) := rfl
theorem i_JL_bitCount_47 : ix_nx mJL_bitCount 47 = some (0, .lstore_n 0, 48, none, [], 0) := rfl
theorem i_JL_bitCount_48 : ix_nx mJL_bitCount 48 = some (0, .lload_n 0, 49, none, [], 0) := rfl
theorem i_JL_bitCount_49 : ix_nx mJL_bitCount 49 = some (0, .lload_n 0, 50, none, [], 0) := rfl
theorem i_JL_bitCount_50 : ix_nx mJL_bitCount 50 = some (0, .bipush 32, 52, none, [], 0) := rfl
theorem i_JL_bitCount_52 : ix_nx mJL_bitCount 52 = some (0, .lushr, 53, none, [], 0) := rfl
theorem i_JL_bitCount_53 : ix_nx mJL_bitCount 53 = some (0, .ladd, 54, none, [], 0) := rfl
theorem i_JL_bitCount_54 : ix_nx mJL_bitCount 54 = some (0, .lstore_n 0, 55, none, [], 0) := rfl
theorem i_JL_bitCount_55 : ix_nx mJL_bitCount 55 = some (0, .lload_n 0, 56, none, [], 0) := rfl
theorem i_JL_bitCount_56 : ix_nx mJL_bitCount 56 = some (0, .l2i, 57, none, [], 0) := rfl
theorem i_JL_bitCount_57 : ix_nx mJL_bitCount 57 = some (0, .bipush 127, 59, none, [], 0) := rfl
theorem i_JL_bitCount_59 : ix_nx mJL_bitCount 59 = some (0, .iand, 60, none, [], 0) := rfl
theorem i_JL_bitCount_60 : ix_nx mJL_bitCount 60 = some (4, .ireturn, 61, none, [], 0) := rfl
set_option maxRecDepth 20000 in
set_option maxHeartbeats 1000000 in
theorem e_JL_bitCount (x0 : Int64) (h : ixH) : ix_D mJL_bitCount 0 [some (.long x0), none] [] h = some ([.int ((Int64.toInt32 ((((((((x0 - ((ix_ush x0 1) &&& 6148914691236517205)) &&& 3689348814741910323) + ((ix_ush (x0 - ((ix_ush x0 1) &&& 6148914691236517205)) 2) &&& 3689348814741910323)) + (ix_ush (((x0 - ((ix_ush x0 1) &&& 6148914691236517205)) &&& 3689348814741910323) + ((ix_ush (x0 - ((ix_ush x0 1) &&& 6148914691236517205)) 2) &&& 3689348814741910323)) 4)) &&& 1085102592571150095) + (ix_ush (((((x0 - ((ix_ush x0 1) &&& 6148914691236517205)) &&& 3689348814741910323) + ((ix_ush (x0 - ((ix_ush x0 1) &&& 6148914691236517205)) 2) &&& 3689348814741910323)) + (ix_ush (((x0 - ((ix_ush x0 1) &&& 6148914691236517205)) &&& 3689348814741910323) + ((ix_ush (x0 - ((ix_ush x0 1) &&& 6148914691236517205)) 2) &&& 3689348814741910323)) 4)) &&& 1085102592571150095) 8)) + (ix_ush ((((((x0 - ((ix_ush x0 1) &&& 6148914691236517205)) &&& 3689348814741910323) + ((ix_ush (x0 - ((ix_ush x0 1) &&& 6148914691236517205)) 2) &&& 3689348814741910323)) + (ix_ush (((x0 - ((ix_ush x0 1) &&& 6148914691236517205)) &&& 3689348814741910323) + ((ix_ush (x0 - ((ix_ush x0 1) &&& 6148914691236517205)) 2) &&& 3689348814741910323)) 4)) &&& 1085102592571150095) + (ix_ush (((((x0 - ((ix_ush x0 1) &&& 6148914691236517205)) &&& 3689348814741910323) + ((ix_ush (x0 - ((ix_ush x0 1) &&& 6148914691236517205)) 2) &&& 3689348814741910323)) + (ix_ush (((x0 - ((ix_ush x0 1) &&& 6148914691236517205)) &&& 3689348814741910323) + ((ix_ush (x0 - ((ix_ush x0 1) &&& 6148914691236517205)) 2) &&& 3689348814741910323)) 4)) &&& 1085102592571150095) 8)) 16)) + (ix_ush (((((((x0 - ((ix_ush x0 1) &&& 6148914691236517205)) &&& 3689348814741910323) + ((ix_ush (x0 - ((ix_ush x0 1) &&& 6148914691236517205)) 2) &&& 3689348814741910323)) + (ix_ush (((x0 - ((ix_ush x0 1) &&& 6148914691236517205)) &&& 3689348814741910323) + ((ix_ush (x0 - ((ix_ush x0 1) &&& 6148914691236517205)) 2) &&& 3689348814741910323)) 4)) &&& 1085102592571150095) + (ix_ush (((((x0 - ((ix_ush x0 1) &&& 6148914691236517205)) &&& 3689348814741910323) + ((ix_ush (x0 - ((ix_ush x0 1) &&& 6148914691236517205)) 2) &&& 3689348814741910323)) + (ix_ush (((x0 - ((ix_ush x0 1) &&& 6148914691236517205)) &&& 3689348814741910323) + ((ix_ush (x0 - ((ix_ush x0 1) &&& 6148914691236517205)) 2) &&& 3689348814741910323)) 4)) &&& 1085102592571150095) 8)) + (ix_ush ((((((x0 - ((ix_ush x0 1) &&& 6148914691236517205)) &&& 3689348814741910323) + ((ix_ush (x0 - ((ix_ush x0 1) &&& 6148914691236517205)) 2) &&& 3689348814741910323)) + (ix_ush (((x0 - ((ix_ush x0 1) &&& 6148914691236517205)) &&& 3689348814741910323) + ((ix_ush (x0 - ((ix_ush x0 1) &&& 6148914691236517205)) 2) &&& 3689348814741910323)) 4)) &&& 1085102592571150095) + (ix_ush (((((x0 - ((ix_ush x0 1) &&& 6148914691236517205)) &&& 3689348814741910323) + ((ix_ush (x0 - ((ix_ush x0 1) &&& 6148914691236517205)) 2) &&& 3689348814741910323)) + (ix_ush (((x0 - ((ix_ush x0 1) &&& 6148914691236517205)) &&& 3689348814741910323) + ((ix_ush (x0 - ((ix_ush x0 1) &&& 6148914691236517205)) 2) &&& 3689348814741910323)) 4)) &&& 1085102592571150095) 8)) 16)) 32))) &&& 127)], h) := by
  refine ix_K_px kq_JL_bitCount i_JL_bitCount_0 rfl rfl ?_
  refine ix_K_px kq_JL_bitCount i_JL_bitCount_1 rfl rfl ?_
  refine ix_K_ci kq_JL_bitCount i_JL_bitCount_2 rfl kci_1 ?_
  refine ix_K_px kq_JL_bitCount i_JL_bitCount_3 rfl rfl ?_
  refine ix_K_c2 kq_JL_bitCount i_JL_bitCount_4 rfl kc2_6148914691236517205 ?_
  refine ix_K_px kq_JL_bitCount i_JL_bitCount_7 rfl rfl ?_
  refine ix_K_px kq_JL_bitCount i_JL_bitCount_8 rfl rfl ?_
  refine ix_K_sl (L2 := [some (.long (x0 - ((ix_ush x0 1) &&& 6148914691236517205))), none]) kq_JL_bitCount i_JL_bitCount_9 rfl (Or.inr ⟨_, rfl, rfl⟩) (Nat.le_of_ble_eq_true rfl) rfl ?_
  refine ix_K_px kq_JL_bitCount i_JL_bitCount_10 rfl rfl ?_
  refine ix_K_c2 kq_JL_bitCount i_JL_bitCount_11 rfl kc2_3689348814741910323 ?_
  refine ix_K_px kq_JL_bitCount i_JL_bitCount_14 rfl rfl ?_
  refine ix_K_px kq_JL_bitCount i_JL_bitCount_15 rfl rfl ?_
  refine ix_K_ci kq_JL_bitCount i_JL_bitCount_16 rfl kci_2 ?_
  refine ix_K_px kq_JL_bitCount i_JL_bitCount_17 rfl rfl ?_
  refine ix_K_c2 kq_JL_bitCount i_JL_bitCount_18 rfl kc2_3689348814741910323 ?_
  refine ix_K_px kq_JL_bitCount i_JL_bitCount_21 rfl rfl ?_
  refine ix_K_px kq_JL_bitCount i_JL_bitCount_22 rfl rfl ?_
  refine ix_K_sl (L2 := [some (.long (((x0 - ((ix_ush x0 1) &&& 6148914691236517205)) &&& 3689348814741910323) + ((ix_ush (x0 - ((ix_ush x0 1) &&& 6148914691236517205)) 2) &&& 3689348814741910323))), none]) kq_JL_bitCount i_JL_bitCount_23 rfl (Or.inr ⟨_, rfl, rfl⟩) (Nat.le_of_ble_eq_true rfl) rfl ?_
  refine ix_K_px kq_JL_bitCount i_JL_bitCount_24 rfl rfl ?_
  refine ix_K_px kq_JL_bitCount i_JL_bitCount_25 rfl rfl ?_
  refine ix_K_ci kq_JL_bitCount i_JL_bitCount_26 rfl kci_4 ?_
  refine ix_K_px kq_JL_bitCount i_JL_bitCount_27 rfl rfl ?_
  refine ix_K_px kq_JL_bitCount i_JL_bitCount_28 rfl rfl ?_
  refine ix_K_c2 kq_JL_bitCount i_JL_bitCount_29 rfl kc2_1085102592571150095 ?_
  refine ix_K_px kq_JL_bitCount i_JL_bitCount_32 rfl rfl ?_
  refine ix_K_sl (L2 := [some (.long (((((x0 - ((ix_ush x0 1) &&& 6148914691236517205)) &&& 3689348814741910323) + ((ix_ush (x0 - ((ix_ush x0 1) &&& 6148914691236517205)) 2) &&& 3689348814741910323)) + (ix_ush (((x0 - ((ix_ush x0 1) &&& 6148914691236517205)) &&& 3689348814741910323) + ((ix_ush (x0 - ((ix_ush x0 1) &&& 6148914691236517205)) 2) &&& 3689348814741910323)) 4)) &&& 1085102592571150095)), none]) kq_JL_bitCount i_JL_bitCount_33 rfl (Or.inr ⟨_, rfl, rfl⟩) (Nat.le_of_ble_eq_true rfl) rfl ?_
  refine ix_K_px kq_JL_bitCount i_JL_bitCount_34 rfl rfl ?_
  refine ix_K_px kq_JL_bitCount i_JL_bitCount_35 rfl rfl ?_
  refine ix_K_cb kq_JL_bitCount i_JL_bitCount_36 rfl kcb_8 ?_
  refine ix_K_px kq_JL_bitCount i_JL_bitCount_38 rfl rfl ?_
  refine ix_K_px kq_JL_bitCount i_JL_bitCount_39 rfl rfl ?_
  refine ix_K_sl (L2 := [some (.long ((((((x0 - ((ix_ush x0 1) &&& 6148914691236517205)) &&& 3689348814741910323) + ((ix_ush (x0 - ((ix_ush x0 1) &&& 6148914691236517205)) 2) &&& 3689348814741910323)) + (ix_ush (((x0 - ((ix_ush x0 1) &&& 6148914691236517205)) &&& 3689348814741910323) + ((ix_ush (x0 - ((ix_ush x0 1) &&& 6148914691236517205)) 2) &&& 3689348814741910323)) 4)) &&& 1085102592571150095) + (ix_ush (((((x0 - ((ix_ush x0 1) &&& 6148914691236517205)) &&& 3689348814741910323) + ((ix_ush (x0 - ((ix_ush x0 1) &&& 6148914691236517205)) 2) &&& 3689348814741910323)) + (ix_ush (((x0 - ((ix_ush x0 1) &&& 6148914691236517205)) &&& 3689348814741910323) + ((ix_ush (x0 - ((ix_ush x0 1) &&& 6148914691236517205)) 2) &&& 3689348814741910323)) 4)) &&& 1085102592571150095) 8))), none]) kq_JL_bitCount i_JL_bitCount_40 rfl (Or.inr ⟨_, rfl, rfl⟩) (Nat.le_of_ble_eq_true rfl) rfl ?_
  refine ix_K_px kq_JL_bitCount i_JL_bitCount_41 rfl rfl ?_
  refine ix_K_px kq_JL_bitCount i_JL_bitCount_42 rfl rfl ?_
  refine ix_K_cb kq_JL_bitCount i_JL_bitCount_43 rfl kcb_16 ?_
  refine ix_K_px kq_JL_bitCount i_JL_bitCount_45 rfl rfl ?_
  refine ix_K_px kq_JL_bitCount i_JL_bitCount_46 rfl rfl ?_
  refine ix_K_sl (L2 := [some (.long (((((((x0 - ((ix_ush x0 1) &&& 6148914691236517205)) &&& 3689348814741910323) + ((ix_ush (x0 - ((ix_ush x0 1) &&& 6148914691236517205)) 2) &&& 3689348814741910323)) + (ix_ush (((x0 - ((ix_ush x0 1) &&& 6148914691236517205)) &&& 3689348814741910323) + ((ix_ush (x0 - ((ix_ush x0 1) &&& 6148914691236517205)) 2) &&& 3689348814741910323)) 4)) &&& 1085102592571150095) + (ix_ush (((((x0 - ((ix_ush x0 1) &&& 6148914691236517205)) &&& 3689348814741910323) + ((ix_ush (x0 - ((ix_ush x0 1) &&& 6148914691236517205)) 2) &&& 3689348814741910323)) + (ix_ush (((x0 - ((ix_ush x0 1) &&& 6148914691236517205)) &&& 3689348814741910323) + ((ix_ush (x0 - ((ix_ush x0 1) &&& 6148914691236517205)) 2) &&& 3689348814741910323)) 4)) &&& 1085102592571150095) 8)) + (ix_ush ((((((x0 - ((ix_ush x0 1) &&& 6148914691236517205)) &&& 3689348814741910323) + ((ix_ush (x0 - ((ix_ush x0 1) &&& 6148914691236517205)) 2) &&& 3689348814741910323)) + (ix_ush (((x0 - ((ix_ush x0 1) &&& 6148914691236517205)) &&& 3689348814741910323) + ((ix_ush (x0 - ((ix_ush x0 1) &&& 6148914691236517205)) 2) &&& 3689348814741910323)) 4)) &&& 1085102592571150095) + (ix_ush (((((x0 - ((ix_ush x0 1) &&& 6148914691236517205)) &&& 3689348814741910323) + ((ix_ush (x0 - ((ix_ush x0 1) &&& 6148914691236517205)) 2) &&& 3689348814741910323)) + (ix_ush (((x0 - ((ix_ush x0 1) &&& 6148914691236517205)) &&& 3689348814741910323) + ((ix_ush (x0 - ((ix_ush x0 1) &&& 6148914691236517205)) 2) &&& 3689348814741910323)) 4)) &&& 1085102592571150095) 8)) 16))), none]) kq_JL_bitCount i_JL_bitCount_47 rfl (Or.inr ⟨_, rfl, rfl⟩) (Nat.le_of_ble_eq_true rfl) rfl ?_
  refine ix_K_px kq_JL_bitCount i_JL_bitCount_48 rfl rfl ?_
  refine ix_K_px kq_JL_bitCount i_JL_bitCount_49 rfl rfl ?_
  refine ix_K_cb kq_JL_bitCount i_JL_bitCount_50 rfl kcb_32 ?_
  refine ix_K_px kq_JL_bitCount i_JL_bitCount_52 rfl rfl ?_
  refine ix_K_px kq_JL_bitCount i_JL_bitCount_53 rfl rfl ?_
  refine ix_K_sl (L2 := [some (.long ((((((((x0 - ((ix_ush x0 1) &&& 6148914691236517205)) &&& 3689348814741910323) + ((ix_ush (x0 - ((ix_ush x0 1) &&& 6148914691236517205)) 2) &&& 3689348814741910323)) + (ix_ush (((x0 - ((ix_ush x0 1) &&& 6148914691236517205)) &&& 3689348814741910323) + ((ix_ush (x0 - ((ix_ush x0 1) &&& 6148914691236517205)) 2) &&& 3689348814741910323)) 4)) &&& 1085102592571150095) + (ix_ush (((((x0 - ((ix_ush x0 1) &&& 6148914691236517205)) &&& 3689348814741910323) + ((ix_ush (x0 - ((ix_ush x0 1) &&& 6148914691236517205)) 2) &&& 3689348814741910323)) + (ix_ush (((x0 - ((ix_ush x0 1) &&& 6148914691236517205)) &&& 3689348814741910323) + ((ix_ush (x0 - ((ix_ush x0 1) &&& 6148914691236517205)) 2) &&& 3689348814741910323)) 4)) &&& 1085102592571150095) 8)) + (ix_ush ((((((x0 - ((ix_ush x0 1) &&& 6148914691236517205)) &&& 3689348814741910323) + ((ix_ush (x0 - ((ix_ush x0 1) &&& 6148914691236517205)) 2) &&& 3689348814741910323)) + (ix_ush (((x0 - ((ix_ush x0 1) &&& 6148914691236517205)) &&& 3689348814741910323) + ((ix_ush (x0 - ((ix_ush x0 1) &&& 6148914691236517205)) 2) &&& 3689348814741910323)) 4)) &&& 1085102592571150095) + (ix_ush (((((x0 - ((ix_ush x0 1) &&& 6148914691236517205)) &&& 3689348814741910323) + ((ix_ush (x0 - ((ix_ush x0 1) &&& 6148914691236517205)) 2) &&& 3689348814741910323)) + (ix_ush (((x0 - ((ix_ush x0 1) &&& 6148914691236517205)) &&& 3689348814741910323) + ((ix_ush (x0 - ((ix_ush x0 1) &&& 6148914691236517205)) 2) &&& 3689348814741910323)) 4)) &&& 1085102592571150095) 8)) 16)) + (ix_ush (((((((x0 - ((ix_ush x0 1) &&& 6148914691236517205)) &&& 3689348814741910323) + ((ix_ush (x0 - ((ix_ush x0 1) &&& 6148914691236517205)) 2) &&& 3689348814741910323)) + (ix_ush (((x0 - ((ix_ush x0 1) &&& 6148914691236517205)) &&& 3689348814741910323) + ((ix_ush (x0 - ((ix_ush x0 1) &&& 6148914691236517205)) 2) &&& 3689348814741910323)) 4)) &&& 1085102592571150095) + (ix_ush (((((x0 - ((ix_ush x0 1) &&& 6148914691236517205)) &&& 3689348814741910323) + ((ix_ush (x0 - ((ix_ush x0 1) &&& 6148914691236517205)) 2) &&& 3689348814741910323)) + (ix_ush (((x0 - ((ix_ush x0 1) &&& 6148914691236517205)) &&& 3689348814741910323) + ((ix_ush (x0 - ((ix_ush x0 1) &&& 6148914691236517205)) 2) &&& 3689348814741910323)) 4)) &&& 1085102592571150095) 8)) + (ix_ush ((((((x0 - ((ix_ush x0 1) &&& 6148914691236517205)) &&& 3689348814741910323) + ((ix_ush (x0 - ((ix_ush x0 1) &&& 6148914691236517205)) 2) &&& 3689348814741910323)) + (ix_ush (((x0 - ((ix_ush x0 1) &&& 6148914691236517205)) &&& 3689348814741910323) + ((ix_ush (x0 - ((ix_ush x0 1) &&& 6148914691236517205)) 2) &&& 3689348814741910323)) 4)) &&& 1085102592571150095) + (ix_ush (((((x0 - ((ix_ush x0 1) &&& 6148914691236517205)) &&& 3689348814741910323) + ((ix_ush (x0 - ((ix_ush x0 1) &&& 6148914691236517205)) 2) &&& 3689348814741910323)) + (ix_ush (((x0 - ((ix_ush x0 1) &&& 6148914691236517205)) &&& 3689348814741910323) + ((ix_ush (x0 - ((ix_ush x0 1) &&& 6148914691236517205)) 2) &&& 3689348814741910323)) 4)) &&& 1085102592571150095) 8)) 16)) 32))), none]) kq_JL_bitCount i_JL_bitCount_54 rfl (Or.inr ⟨_, rfl, rfl⟩) (Nat.le_of_ble_eq_true rfl) rfl ?_
  refine ix_K_px kq_JL_bitCount i_JL_bitCount_55 rfl rfl ?_
  refine ix_K_px kq_JL_bitCount i_JL_bitCount_56 rfl rfl ?_
  refine ix_K_cb kq_JL_bitCount i_JL_bitCount_57 rfl kcb_127 ?_
  refine ix_K_px kq_JL_bitCount i_JL_bitCount_59 rfl rfl ?_
  exact ix_D_ret kq_JL_bitCount i_JL_bitCount_60 (ix_rtI rfl _)
theorem x_JL_bitCount {x0 : Int64} {h h1 : ixH} {v : Int32} (hd : ix_D mJL_bitCount 0 [some (.long x0), none] [] h = some ([.int v], h1)) : ix_M mJL_bitCount [.long x0] h = some ([.int v], h1) := ix_M_of (ix_ent_s kq_JL_bitCount rfl rfl (Nat.le_of_ble_eq_true rfl) rfl) hd (ix_okrI (Or.inl rfl) v)
theorem i_JS_indexOf_0 : ix_nx mJS_indexOf 0 = some (0, .aload_n 0, 1, none, [], 0) := rfl
theorem i_JS_indexOf_1 : ix_nx mJS_indexOf 1 = some (0, .iload_n 1, 2, none, [], 0) := rfl
theorem i_JS_indexOf_2 : ix_nx mJS_indexOf 2 = some (0, .iconst 0, 3, none, [], 0) := rfl
theorem i_JS_indexOf_3 : ix_nx mJS_indexOf 3 = some (3, .invokevirtual 633, 6, none, [0, 248, 242], 0) := rfl
theorem i_JS_indexOf_6 : ix_nx mJS_indexOf 6 = some (4, .ireturn, 7, none, [], 0) := rfl
set_option maxRecDepth 20000 in
set_option maxHeartbeats 1000000 in
theorem e_JS_indexOf (x1 : Int32) (h : ixH) : ix_D mJS_indexOf 0 [some (.ref 1), some (.int x1)] [] h = (ix_M mJS_indexOf_II [.ref 1, .int x1, .int 0] h).bind fun r => ix_kI r fun v2 h1 => some ([.int v2], h1) := by
  refine ix_K_px kq_JS_indexOf i_JS_indexOf_0 rfl rfl ?_
  refine ix_K_px kq_JS_indexOf i_JS_indexOf_1 rfl rfl ?_
  refine ix_K_ci kq_JS_indexOf i_JS_indexOf_2 rfl kci_0 ?_
  refine ix_K_callI (as := [.ref 1, .int x1, .int 0]) (rest := []) kq_JS_indexOf i_JS_indexOf_3 rfl kq_JS_indexOf_II (by decide) rfl (Or.inl rfl) (fun v2 h1 => ?_)
  exact ix_D_ret kq_JS_indexOf i_JS_indexOf_6 (ix_rtI rfl _)
theorem x_JS_indexOf {x1 : Int32} {h h1 : ixH} {v : Int32} (hr : ix_rc h 1 = some 12) (hd : ix_D mJS_indexOf 0 [some (.ref 1), some (.int x1)] [] h = some ([.int v], h1)) : ix_M mJS_indexOf [.ref 1, .int x1] h = some ([.int v], h1) := ix_M_of (ix_ent_i kq_JS_indexOf rfl hr rfl (Nat.le_of_ble_eq_true rfl) rfl) hd (ix_okrI (Or.inl rfl) v)
theorem i_JS_indexOf_II_0 : ix_nx mJS_indexOf_II 0 = some (0, .aload_n 0, 1, none, [], 0) := rfl
theorem i_JS_indexOf_II_1 : ix_nx mJS_indexOf_II 1 = some (3, .invokevirtual 492, 4, none, [0, 249, 243], 0) := rfl
theorem i_JS_indexOf_II_4 : ix_nx mJS_indexOf_II 4 = some (0, .ifCond .eq 19, 7, none, [], 0) := rfl
theorem i_JS_indexOf_II_7 : ix_nx mJS_indexOf_II 7 = some (0, .aload_n 0, 8, none, [], 0) := rfl
theorem i_JS_indexOf_II_8 : ix_nx mJS_indexOf_II 8 = some (1, .getfield 9, 11, none, [12, 0, 4, 125], 0) := rfl
theorem i_JS_indexOf_II_11 : ix_nx mJS_indexOf_II 11 = some (0, .iload_n 1, 12, none, [], 0) := rfl
theorem i_JS_indexOf_II_12 : ix_nx mJS_indexOf_II 12 = some (0, .iload_n 2, 13, none, [], 0) := rfl
theorem i_JS_indexOf_II_13 : ix_nx mJS_indexOf_II 13 = some (0, .aload_n 0, 14, none, [], 0) := rfl
theorem i_JS_indexOf_II_14 : ix_nx mJS_indexOf_II 14 = some (3, .invokevirtual 505, 17, none, [0, 250, 244], 0) := rfl
theorem i_JS_indexOf_II_17 : ix_nx mJS_indexOf_II 17 = some (3, .invokestatic 637, 20, none, [1, 252, 245], 0) := rfl
theorem i_JS_indexOf_II_20 : ix_nx mJS_indexOf_II 20 = some (0, .goto 16, 23, none, [], 0) := rfl
theorem i_JS_indexOf_II_23 : ix_nx mJS_indexOf_II 23 = some (0, .aload_n 0, 24, none, [], 0) := rfl
theorem i_JS_indexOf_II_24 : ix_nx mJS_indexOf_II 24 = some (1, .getfield 9, 27, none, [12, 0, 4, 125], 0) := rfl
theorem i_JS_indexOf_II_27 : ix_nx mJS_indexOf_II 27 = some (0, .iload_n 1, 28, none, [], 0) := rfl
theorem i_JS_indexOf_II_28 : ix_nx mJS_indexOf_II 28 = some (0, .iload_n 2, 29, none, [], 0) := rfl
theorem i_JS_indexOf_II_29 : ix_nx mJS_indexOf_II 29 = some (0, .aload_n 0, 30, none, [], 0) := rfl
theorem i_JS_indexOf_II_30 : ix_nx mJS_indexOf_II 30 = some (3, .invokevirtual 505, 33, none, [0, 250, 244], 0) := rfl
theorem i_JS_indexOf_II_33 : ix_nx mJS_indexOf_II 33 = some (9, .invokestatic 640, 36, none, [], 0) := rfl
theorem i_JS_indexOf_II_36 : ix_nx mJS_indexOf_II 36 = some (4, .ireturn, 37, none, [], 0) := rfl
set_option maxRecDepth 20000 in
set_option maxHeartbeats 1000000 in
theorem e_JS_indexOf_II (x1 : Int32) (x2 : Int32) (h : ixH) : ix_D mJS_indexOf_II 0 [some (.ref 1), some (.int x1), some (.int x2)] [] h = (ix_M mJS_isLatin1 [.ref 1] h).bind fun r => ix_kZ r fun v2 h1 => if v2 = true then (ix_M mJS_length [.ref 1] h1).bind fun r => ix_kI r fun v4 h3 => (ix_M mJT_indexOf [.ref 2, .int x1, .int x2, .int v4] h3).bind fun r => ix_kI r fun v6 h5 => some ([.int v6], h5) else (ix_M mJS_length [.ref 1] h1).bind fun r => ix_kI r fun v8 h7 => none := by
  refine ix_K_px kq_JS_indexOf_II i_JS_indexOf_II_0 rfl rfl ?_
  refine ix_K_callZ (as := [.ref 1]) (rest := []) kq_JS_indexOf_II i_JS_indexOf_II_1 rfl kq_JS_isLatin1 (by decide) rfl rfl (fun v2 h1 => ?_)
  refine ix_K_bz_eq (tgt := 23) kq_JS_indexOf_II i_JS_indexOf_II_4 rfl (by decide) ?_ ?_
  · refine ix_K_px kq_JS_indexOf_II i_JS_indexOf_II_7 rfl rfl ?_
    refine ix_K_gv kq_JS_indexOf_II i_JS_indexOf_II_8 rfl ?_
    refine ix_K_px kq_JS_indexOf_II i_JS_indexOf_II_11 rfl rfl ?_
    refine ix_K_px kq_JS_indexOf_II i_JS_indexOf_II_12 rfl rfl ?_
    refine ix_K_px kq_JS_indexOf_II i_JS_indexOf_II_13 rfl rfl ?_
    refine ix_K_callI (as := [.ref 1]) (rest := [.int x2, .int x1, .ref 2]) kq_JS_indexOf_II i_JS_indexOf_II_14 rfl kq_JS_length (by decide) rfl (Or.inl rfl) (fun v4 h3 => ?_)
    refine ix_K_callI (as := [.ref 2, .int x1, .int x2, .int v4]) (rest := []) kq_JS_indexOf_II i_JS_indexOf_II_17 rfl kq_JT_indexOf (by decide) rfl (Or.inl rfl) (fun v6 h5 => ?_)
    refine ix_K_goto (tgt := 36) kq_JS_indexOf_II i_JS_indexOf_II_20 rfl (by decide) ?_
    exact ix_D_ret kq_JS_indexOf_II i_JS_indexOf_II_36 (ix_rtI rfl _)
  · refine ix_K_px kq_JS_indexOf_II i_JS_indexOf_II_23 rfl rfl ?_
    refine ix_K_gv kq_JS_indexOf_II i_JS_indexOf_II_24 rfl ?_
    refine ix_K_px kq_JS_indexOf_II i_JS_indexOf_II_27 rfl rfl ?_
    refine ix_K_px kq_JS_indexOf_II i_JS_indexOf_II_28 rfl rfl ?_
    refine ix_K_px kq_JS_indexOf_II i_JS_indexOf_II_29 rfl rfl ?_
    refine ix_K_callI (as := [.ref 1]) (rest := [.int x2, .int x1, .ref 2]) kq_JS_indexOf_II i_JS_indexOf_II_30 rfl kq_JS_length (by decide) rfl (Or.inl rfl) (fun v8 h7 => ?_)
    exact ix_D_none i_JS_indexOf_II_33
theorem x_JS_indexOf_II {x1 : Int32} {x2 : Int32} {h h1 : ixH} {v : Int32} (hr : ix_rc h 1 = some 12) (hd : ix_D mJS_indexOf_II 0 [some (.ref 1), some (.int x1), some (.int x2)] [] h = some ([.int v], h1)) : ix_M mJS_indexOf_II [.ref 1, .int x1, .int x2] h = some ([.int v], h1) := ix_M_of (ix_ent_i kq_JS_indexOf_II rfl hr rfl (Nat.le_of_ble_eq_true rfl) rfl) hd (ix_okrI (Or.inl rfl) v)
theorem i_JS_isLatin1_0 : ix_nx mJS_isLatin1 0 = some (1, .getstatic 38, 3, none, [], 0) := rfl
theorem i_JS_isLatin1_3 : ix_nx mJS_isLatin1 3 = some (0, .ifCond .eq 14, 6, none, [], 0) := rfl
theorem i_JS_isLatin1_6 : ix_nx mJS_isLatin1 6 = some (0, .aload_n 0, 7, none, [], 0) := rfl
theorem i_JS_isLatin1_7 : ix_nx mJS_isLatin1 7 = some (1, .getfield 15, 10, none, [12, 1, 5, 124], 0) := rfl
theorem i_JS_isLatin1_10 : ix_nx mJS_isLatin1 10 = some (0, .ifCond .ne 7, 13, none, [], 0) := rfl
theorem i_JS_isLatin1_13 : ix_nx mJS_isLatin1 13 = some (0, .iconst 1, 14, none, [], 0) := rfl
theorem i_JS_isLatin1_14 : ix_nx mJS_isLatin1 14 = some (0, .goto 4, 17, none, [], 0) := rfl
theorem i_JS_isLatin1_17 : ix_nx mJS_isLatin1 17 = some (0, .iconst 0, 18, none, [], 0) := rfl
theorem i_JS_isLatin1_18 : ix_nx mJS_isLatin1 18 = some (4, .ireturn, 19, none, [], 0) := rfl
set_option maxRecDepth 20000 in
set_option maxHeartbeats 1000000 in
theorem e_JS_isLatin1  (h : ixH) : ix_D mJS_isLatin1 0 [some (.ref 1)] [] h = if (1 : Int32) = 0 then some ([.int (ix_bi false)], h) else if ¬ (0 : Int32) = 0 then some ([.int (ix_bi false)], h) else some ([.int (ix_bi true)], h) := by
  refine ix_K_gs kq_JS_isLatin1 i_JS_isLatin1_0 rfl ?_
  refine ix_K_if_eq (tgt := 17) kq_JS_isLatin1 i_JS_isLatin1_3 rfl (by decide) ?_ ?_
  · refine ix_K_ci kq_JS_isLatin1 i_JS_isLatin1_17 rfl kci_0 ?_
    exact ix_D_ret kq_JS_isLatin1 i_JS_isLatin1_18 (ix_rtZ rfl false)
  · refine ix_K_px kq_JS_isLatin1 i_JS_isLatin1_6 rfl rfl ?_
    refine ix_K_gc kq_JS_isLatin1 i_JS_isLatin1_7 rfl ?_
    refine ix_K_if_ne (tgt := 17) kq_JS_isLatin1 i_JS_isLatin1_10 rfl (by decide) ?_ ?_
    · refine ix_K_ci kq_JS_isLatin1 i_JS_isLatin1_17 rfl kci_0 ?_
      exact ix_D_ret kq_JS_isLatin1 i_JS_isLatin1_18 (ix_rtZ rfl false)
    · refine ix_K_ci kq_JS_isLatin1 i_JS_isLatin1_13 rfl kci_1 ?_
      refine ix_K_goto (tgt := 18) kq_JS_isLatin1 i_JS_isLatin1_14 rfl (by decide) ?_
      exact ix_D_ret kq_JS_isLatin1 i_JS_isLatin1_18 (ix_rtZ rfl true)
theorem x_JS_isLatin1  {h h1 : ixH} {v : Bool} (hr : ix_rc h 1 = some 12) (hd : ix_D mJS_isLatin1 0 [some (.ref 1)] [] h = some ([.int (ix_bi v)], h1)) : ix_M mJS_isLatin1 [.ref 1] h = some ([.int (ix_bi v)], h1) := ix_M_of (ix_ent_i kq_JS_isLatin1 rfl hr rfl (Nat.le_of_ble_eq_true rfl) rfl) hd (ix_okrZ rfl v)
theorem i_JS_length_0 : ix_nx mJS_length 0 = some (0, .aload_n 0, 1, none, [], 0) := rfl
theorem i_JS_length_1 : ix_nx mJS_length 1 = some (1, .getfield 9, 4, none, [12, 0, 4, 125], 0) := rfl
theorem i_JS_length_4 : ix_nx mJS_length 4 = some (1, .arraylength, 5, none, [], 0) := rfl
theorem i_JS_length_5 : ix_nx mJS_length 5 = some (0, .aload_n 0, 6, none, [], 0) := rfl
theorem i_JS_length_6 : ix_nx mJS_length 6 = some (3, .invokevirtual 335, 9, none, [0, 251, 246], 0) := rfl
theorem i_JS_length_9 : ix_nx mJS_length 9 = some (0, .ishr, 10, none, [], 0) := rfl
theorem i_JS_length_10 : ix_nx mJS_length 10 = some (4, .ireturn, 11, none, [], 0) := rfl
set_option maxRecDepth 20000 in
set_option maxHeartbeats 1000000 in
theorem e_JS_length  (h : ixH) : ix_D mJS_length 0 [some (.ref 1)] [] h = (ix_an h 2).bind fun v1 => (ix_M mJS_coder [.ref 1] h).bind fun r => ix_kI r fun v3 h2 => some ([.int (ix_ishr (Int32.ofNat v1) v3)], h2) := by
  refine ix_K_px kq_JS_length i_JS_length_0 rfl rfl ?_
  refine ix_K_gv kq_JS_length i_JS_length_1 rfl ?_
  refine ix_K_an kq_JS_length i_JS_length_4 rfl (fun v1 => ?_)
  refine ix_K_px kq_JS_length i_JS_length_5 rfl rfl ?_
  refine ix_K_callI (as := [.ref 1]) (rest := [.int (Int32.ofNat v1)]) kq_JS_length i_JS_length_6 rfl kq_JS_coder (by decide) rfl (Or.inr rfl) (fun v3 h2 => ?_)
  refine ix_K_px kq_JS_length i_JS_length_9 rfl rfl ?_
  exact ix_D_ret kq_JS_length i_JS_length_10 (ix_rtI rfl _)
theorem x_JS_length  {h h1 : ixH} {v : Int32} (hr : ix_rc h 1 = some 12) (hd : ix_D mJS_length 0 [some (.ref 1)] [] h = some ([.int v], h1)) : ix_M mJS_length [.ref 1] h = some ([.int v], h1) := ix_M_of (ix_ent_i kq_JS_length rfl hr rfl (Nat.le_of_ble_eq_true rfl) rfl) hd (ix_okrI (Or.inl rfl) v)
theorem i_JS_coder_0 : ix_nx mJS_coder 0 = some (1, .getstatic 38, 3, none, [], 0) := rfl
theorem i_JS_coder_3 : ix_nx mJS_coder 3 = some (0, .ifCond .eq 10, 6, none, [], 0) := rfl
theorem i_JS_coder_6 : ix_nx mJS_coder 6 = some (0, .aload_n 0, 7, none, [], 0) := rfl
theorem i_JS_coder_7 : ix_nx mJS_coder 7 = some (1, .getfield 15, 10, none, [12, 1, 5, 124], 0) := rfl
theorem i_JS_coder_10 : ix_nx mJS_coder 10 = some (0, .goto 4, 13, none, [], 0) := rfl
theorem i_JS_coder_13 : ix_nx mJS_coder 13 = some (0, .iconst 1, 14, none, [], 0) := rfl
theorem i_JS_coder_14 : ix_nx mJS_coder 14 = some (4, .ireturn, 15, none, [], 0) := rfl
set_option maxRecDepth 20000 in
set_option maxHeartbeats 1000000 in
theorem e_JS_coder  (h : ixH) : ix_D mJS_coder 0 [some (.ref 1)] [] h = if (1 : Int32) = 0 then if narrow .byte (.int 1) = .int 1 then some ([.int 1], h) else none else if narrow .byte (.int 0) = .int 0 then some ([.int 0], h) else none := by
  refine ix_K_gs kq_JS_coder i_JS_coder_0 rfl ?_
  refine ix_K_if_eq (tgt := 13) kq_JS_coder i_JS_coder_3 rfl (by decide) ?_ ?_
  · refine ix_K_ci kq_JS_coder i_JS_coder_13 rfl kci_1 ?_
    exact ix_D_retB kq_JS_coder i_JS_coder_14 rfl
  · refine ix_K_px kq_JS_coder i_JS_coder_6 rfl rfl ?_
    refine ix_K_gc kq_JS_coder i_JS_coder_7 rfl ?_
    refine ix_K_goto (tgt := 14) kq_JS_coder i_JS_coder_10 rfl (by decide) ?_
    exact ix_D_retB kq_JS_coder i_JS_coder_14 rfl
theorem x_JS_coder  {h h1 : ixH} {v : Int32} (hr : ix_rc h 1 = some 12) (hd : ix_D mJS_coder 0 [some (.ref 1)] [] h = some ([.int v], h1)) : ix_M mJS_coder [.ref 1] h = some ([.int v], h1) := ix_M_of (ix_ent_i kq_JS_coder rfl hr rfl (Nat.le_of_ble_eq_true rfl) rfl) hd (ix_okrI (Or.inr rfl) v)
theorem i_JT_indexOf_0 : ix_nx mJT_indexOf 0 = some (0, .iload_n 1, 1, none, [], 0) := rfl
theorem i_JT_indexOf_1 : ix_nx mJT_indexOf 1 = some (3, .invokestatic 88, 4, none, [1, 253, 247], 0) := rfl
theorem i_JT_indexOf_4 : ix_nx mJT_indexOf 4 = some (0, .ifCond .ne 5, 7, none, [], 0) := rfl
theorem i_JT_indexOf_7 : ix_nx mJT_indexOf 7 = some (0, .iconst (-1), 8, none, [], 0) := rfl
theorem i_JT_indexOf_8 : ix_nx mJT_indexOf 8 = some (4, .ireturn, 9, none, [], 0) := rfl
theorem i_JT_indexOf_9 : ix_nx mJT_indexOf 9 = some (0, .iload_n 2, 10, none, [], 0) := rfl
theorem i_JT_indexOf_10 : ix_nx mJT_indexOf 10 = some (0, .iconst 0, 11, none, [], 0) := rfl
theorem i_JT_indexOf_11 : ix_nx mJT_indexOf 11 = some (5, .invokestatic 92, 14, none, [8, 248], 0) := rfl
theorem i_JT_indexOf_14 : ix_nx mJT_indexOf 14 = some (0, .istore_n 2, 15, none, [], 0) := rfl
theorem i_JT_indexOf_15 : ix_nx mJT_indexOf 15 = some (0, .iload_n 3, 16, none, [], 0) := rfl
theorem i_JT_indexOf_16 : ix_nx mJT_indexOf 16 = some (0, .aload_n 0, 17, none, [], 0) := rfl
theorem i_JT_indexOf_17 : ix_nx mJT_indexOf 17 = some (1, .arraylength, 18, none, [], 0) := rfl
theorem i_JT_indexOf_18 : ix_nx mJT_indexOf 18 = some (5, .invokestatic 38, 21, none, [9, 249], 0) := rfl
theorem i_JT_indexOf_21 : ix_nx mJT_indexOf 21 = some (0, .istore_n 3, 22, none, [], 0) := rfl
theorem i_JT_indexOf_22 : ix_nx mJT_indexOf 22 = some (0, .iload_n 2, 23, none, [], 0) := rfl
theorem i_JT_indexOf_23 : ix_nx mJT_indexOf 23 = some (0, .iload_n 3, 24, none, [], 0) := rfl
theorem i_JT_indexOf_24 : ix_nx mJT_indexOf 24 = some (0, .if_icmp .lt 5, 27, none, [], 0) := rfl
theorem i_JT_indexOf_27 : ix_nx mJT_indexOf 27 = some (0, .iconst (-1), 28, none, [], 0) := rfl
theorem i_JT_indexOf_28 : ix_nx mJT_indexOf 28 = some (4, .ireturn, 29, none, [], 0) := rfl
theorem i_JT_indexOf_29 : ix_nx mJT_indexOf 29 = some (0, .aload_n 0, 30, none, [], 0) := rfl
theorem i_JT_indexOf_30 : ix_nx mJT_indexOf 30 = some (0, .iload_n 1, 31, none, [], 0) := rfl
theorem i_JT_indexOf_31 : ix_nx mJT_indexOf 31 = some (0, .iload_n 2, 32, none, [], 0) := rfl
theorem i_JT_indexOf_32 : ix_nx mJT_indexOf 32 = some (0, .iload_n 3, 33, none, [], 0) := rfl
theorem i_JT_indexOf_33 : ix_nx mJT_indexOf 33 = some (3, .invokestatic 95, 36, none, [1, 254, 250], 0) := rfl
theorem i_JT_indexOf_36 : ix_nx mJT_indexOf 36 = some (4, .ireturn, 37, none, [], 0) := rfl
set_option maxRecDepth 20000 in
set_option maxHeartbeats 1000000 in
theorem e_JT_indexOf (a0 : Nat) (x1 : Int32) (x2 : Int32) (x3 : Int32) (h : ixH) : ix_D mJT_indexOf 0 [some (.ref a0), some (.int x1), some (.int x2), some (.int x3)] [] h = (ix_M mJT_canEncode [.int x1] h).bind fun r => ix_kZ r fun v2 h1 => if v2 = true then (ix_an h1 a0).bind fun v3 => if (ix_mx x2 0) < (ix_mn x3 (Int32.ofNat v3)) then (ix_M mJT_indexOfChar [.ref a0, .int x1, .int (ix_mx x2 0), .int (ix_mn x3 (Int32.ofNat v3))] h1).bind fun r => ix_kI r fun v5 h4 => some ([.int v5], h4) else some ([.int (-1)], h1) else some ([.int (-1)], h1) := by
  refine ix_K_px kq_JT_indexOf i_JT_indexOf_0 rfl rfl ?_
  refine ix_K_callZ (as := [.int x1]) (rest := []) kq_JT_indexOf i_JT_indexOf_1 rfl kq_JT_canEncode (by decide) rfl rfl (fun v2 h1 => ?_)
  refine ix_K_bz_ne (tgt := 9) kq_JT_indexOf i_JT_indexOf_4 rfl (by decide) ?_ ?_
  · refine ix_K_px kq_JT_indexOf i_JT_indexOf_9 rfl rfl ?_
    refine ix_K_ci kq_JT_indexOf i_JT_indexOf_10 rfl kci_0 ?_
    refine ix_K_max kq_JT_indexOf i_JT_indexOf_11 rfl (Nat.le_of_ble_eq_true rfl) ?_
    refine ix_K_si (L2 := [some (.ref a0), some (.int x1), some (.int (ix_mx x2 0)), some (.int x3)]) kq_JT_indexOf i_JT_indexOf_14 rfl (Or.inr ⟨_, rfl, rfl⟩) (Nat.le_of_ble_eq_true rfl) rfl ?_
    refine ix_K_px kq_JT_indexOf i_JT_indexOf_15 rfl rfl ?_
    refine ix_K_px kq_JT_indexOf i_JT_indexOf_16 rfl rfl ?_
    refine ix_K_an kq_JT_indexOf i_JT_indexOf_17 rfl (fun v3 => ?_)
    refine ix_K_min kq_JT_indexOf i_JT_indexOf_18 rfl (Nat.le_of_ble_eq_true rfl) ?_
    refine ix_K_si (L2 := [some (.ref a0), some (.int x1), some (.int (ix_mx x2 0)), some (.int (ix_mn x3 (Int32.ofNat v3)))]) kq_JT_indexOf i_JT_indexOf_21 rfl (Or.inr ⟨_, rfl, rfl⟩) (Nat.le_of_ble_eq_true rfl) rfl ?_
    refine ix_K_px kq_JT_indexOf i_JT_indexOf_22 rfl rfl ?_
    refine ix_K_px kq_JT_indexOf i_JT_indexOf_23 rfl rfl ?_
    refine ix_K_ic_lt (tgt := 29) kq_JT_indexOf i_JT_indexOf_24 rfl (by decide) ?_ ?_
    · refine ix_K_px kq_JT_indexOf i_JT_indexOf_29 rfl rfl ?_
      refine ix_K_px kq_JT_indexOf i_JT_indexOf_30 rfl rfl ?_
      refine ix_K_px kq_JT_indexOf i_JT_indexOf_31 rfl rfl ?_
      refine ix_K_px kq_JT_indexOf i_JT_indexOf_32 rfl rfl ?_
      refine ix_K_callI (as := [.ref a0, .int x1, .int (ix_mx x2 0), .int (ix_mn x3 (Int32.ofNat v3))]) (rest := []) kq_JT_indexOf i_JT_indexOf_33 rfl kq_JT_indexOfChar (by decide) rfl (Or.inl rfl) (fun v5 h4 => ?_)
      exact ix_D_ret kq_JT_indexOf i_JT_indexOf_36 (ix_rtI rfl _)
    · refine ix_K_ci kq_JT_indexOf i_JT_indexOf_27 rfl kci_m1 ?_
      exact ix_D_ret kq_JT_indexOf i_JT_indexOf_28 (ix_rtI rfl _)
  · refine ix_K_ci kq_JT_indexOf i_JT_indexOf_7 rfl kci_m1 ?_
    exact ix_D_ret kq_JT_indexOf i_JT_indexOf_8 (ix_rtI rfl _)
theorem x_JT_indexOf {a0 : Nat} {x1 : Int32} {x2 : Int32} {x3 : Int32} {h h1 : ixH} {v : Int32} (hd : ix_D mJT_indexOf 0 [some (.ref a0), some (.int x1), some (.int x2), some (.int x3)] [] h = some ([.int v], h1)) : ix_M mJT_indexOf [.ref a0, .int x1, .int x2, .int x3] h = some ([.int v], h1) := ix_M_of (ix_ent_s kq_JT_indexOf rfl rfl (Nat.le_of_ble_eq_true rfl) rfl) hd (ix_okrI (Or.inl rfl) v)
theorem i_JT_canEncode_0 : ix_nx mJT_canEncode 0 = some (0, .iload_n 0, 1, none, [], 0) := rfl
theorem i_JT_canEncode_1 : ix_nx mJT_canEncode 1 = some (0, .ifCond .lt 14, 4, none, [], 0) := rfl
theorem i_JT_canEncode_4 : ix_nx mJT_canEncode 4 = some (0, .iload_n 0, 5, none, [], 0) := rfl
theorem i_JT_canEncode_5 : ix_nx mJT_canEncode 5 = some (0, .sipush 255, 8, none, [], 0) := rfl
theorem i_JT_canEncode_8 : ix_nx mJT_canEncode 8 = some (0, .if_icmp .gt 7, 11, none, [], 0) := rfl
theorem i_JT_canEncode_11 : ix_nx mJT_canEncode 11 = some (0, .iconst 1, 12, none, [], 0) := rfl
theorem i_JT_canEncode_12 : ix_nx mJT_canEncode 12 = some (0, .goto 4, 15, none, [], 0) := rfl
theorem i_JT_canEncode_15 : ix_nx mJT_canEncode 15 = some (0, .iconst 0, 16, none, [], 0) := rfl
theorem i_JT_canEncode_16 : ix_nx mJT_canEncode 16 = some (4, .ireturn, 17, none, [], 0) := rfl
set_option maxRecDepth 20000 in
set_option maxHeartbeats 1000000 in
theorem e_JT_canEncode (x0 : Int32) (h : ixH) : ix_D mJT_canEncode 0 [some (.int x0)] [] h = if x0 < 0 then some ([.int (ix_bi false)], h) else if 255 < x0 then some ([.int (ix_bi false)], h) else some ([.int (ix_bi true)], h) := by
  refine ix_K_px kq_JT_canEncode i_JT_canEncode_0 rfl rfl ?_
  refine ix_K_if_lt (tgt := 15) kq_JT_canEncode i_JT_canEncode_1 rfl (by decide) ?_ ?_
  · refine ix_K_ci kq_JT_canEncode i_JT_canEncode_15 rfl kci_0 ?_
    exact ix_D_ret kq_JT_canEncode i_JT_canEncode_16 (ix_rtZ rfl false)
  · refine ix_K_px kq_JT_canEncode i_JT_canEncode_4 rfl rfl ?_
    refine ix_K_cs kq_JT_canEncode i_JT_canEncode_5 rfl kcs_255 ?_
    refine ix_K_ic_gt (tgt := 15) kq_JT_canEncode i_JT_canEncode_8 rfl (by decide) ?_ ?_
    · refine ix_K_ci kq_JT_canEncode i_JT_canEncode_15 rfl kci_0 ?_
      exact ix_D_ret kq_JT_canEncode i_JT_canEncode_16 (ix_rtZ rfl false)
    · refine ix_K_ci kq_JT_canEncode i_JT_canEncode_11 rfl kci_1 ?_
      refine ix_K_goto (tgt := 16) kq_JT_canEncode i_JT_canEncode_12 rfl (by decide) ?_
      exact ix_D_ret kq_JT_canEncode i_JT_canEncode_16 (ix_rtZ rfl true)
theorem x_JT_canEncode {x0 : Int32} {h h1 : ixH} {v : Bool} (hd : ix_D mJT_canEncode 0 [some (.int x0)] [] h = some ([.int (ix_bi v)], h1)) : ix_M mJT_canEncode [.int x0] h = some ([.int (ix_bi v)], h1) := ix_M_of (ix_ent_s kq_JT_canEncode rfl rfl (Nat.le_of_ble_eq_true rfl) rfl) hd (ix_okrZ rfl v)
theorem i_JT_indexOfChar_0 : ix_nx mJT_indexOfChar 0 = some (0, .iload_n 1, 1, none, [], 0) := rfl
theorem i_JT_indexOfChar_1 : ix_nx mJT_indexOfChar 1 = some (0, .i2b, 2, none, [], 0) := rfl
theorem i_JT_indexOfChar_2 : ix_nx mJT_indexOfChar 2 = some (0, .istore 4, 4, none, [], 0) := rfl
theorem i_JT_indexOfChar_4 : ix_nx mJT_indexOfChar 4 = some (0, .iload_n 2, 5, none, [], 0) := rfl
theorem i_JT_indexOfChar_5 : ix_nx mJT_indexOfChar 5 = some (0, .istore 5, 7, none, [], 0) := rfl
theorem i_JT_indexOfChar_7 : ix_nx mJT_indexOfChar 7 = some (0, .iload 5, 9, some [true, false, false, true, true, true], [], 0) := rfl
theorem i_JT_indexOfChar_9 : ix_nx mJT_indexOfChar 9 = some (0, .iload_n 3, 10, none, [], 0) := rfl
theorem i_JT_indexOfChar_10 : ix_nx mJT_indexOfChar 10 = some (0, .if_icmp .ge 21, 13, none, [], 0) := rfl
theorem i_JT_indexOfChar_13 : ix_nx mJT_indexOfChar 13 = some (0, .aload_n 0, 14, none, [], 0) := rfl
theorem i_JT_indexOfChar_14 : ix_nx mJT_indexOfChar 14 = some (0, .iload 5, 16, none, [], 0) := rfl
theorem i_JT_indexOfChar_16 : ix_nx mJT_indexOfChar 16 = some (1, .baload, 17, none, [3], 0) := rfl
theorem i_JT_indexOfChar_17 : ix_nx mJT_indexOfChar 17 = some (0, .iload 4, 19, none, [], 0) := rfl
theorem i_JT_indexOfChar_19 : ix_nx mJT_indexOfChar 19 = some (0, .if_icmp .ne 6, 22, none, [], 0) := rfl
theorem i_JT_indexOfChar_22 : ix_nx mJT_indexOfChar 22 = some (0, .iload 5, 24, none, [], 0) := rfl
theorem i_JT_indexOfChar_24 : ix_nx mJT_indexOfChar 24 = some (4, .ireturn, 25, none, [], 0) := rfl
theorem i_JT_indexOfChar_25 : ix_nx mJT_indexOfChar 25 = some (0, .iinc 5 1, 28, none, [], 0) := rfl
theorem i_JT_indexOfChar_28 : ix_nx mJT_indexOfChar 28 = some (0, .goto (-21), 31, none, [], 0) := rfl
theorem i_JT_indexOfChar_31 : ix_nx mJT_indexOfChar 31 = some (0, .iconst (-1), 32, none, [], 0) := rfl
theorem i_JT_indexOfChar_32 : ix_nx mJT_indexOfChar 32 = some (4, .ireturn, 33, none, [], 0) := rfl
noncomputable def l_JT_indexOfChar_7 (a0 : Nat) (x3 : Int32) (x4 : Int32) (x5 : Int32) (h : ixH) : Option (List Value × ixH) := ix_D mJT_indexOfChar 7 [some (.ref a0), none, none, some (.int x3), some (.int x4), some (.int x5)] [] h
set_option maxRecDepth 20000 in
set_option maxHeartbeats 1000000 in
theorem e_JT_indexOfChar_7 (a0 : Nat) (x3 : Int32) (x4 : Int32) (x5 : Int32) (h : ixH) : l_JT_indexOfChar_7 a0 x3 x4 x5 h = if x3 ≤ x5 then some ([.int (-1)], h) else (ix_ab h a0 x5).bind fun v1 => if ¬ v1 = x4 then l_JT_indexOfChar_7 a0 x3 x4 (x5 + 1) h else some ([.int x5], h) := by
  unfold l_JT_indexOfChar_7
  refine ix_K_px kq_JT_indexOfChar i_JT_indexOfChar_7 rfl rfl ?_
  refine ix_K_px kq_JT_indexOfChar i_JT_indexOfChar_9 rfl rfl ?_
  refine ix_K_ic_ge (tgt := 31) kq_JT_indexOfChar i_JT_indexOfChar_10 rfl (by decide) ?_ ?_
  · refine ix_K_ci kq_JT_indexOfChar i_JT_indexOfChar_31 rfl kci_m1 ?_
    exact ix_D_ret kq_JT_indexOfChar i_JT_indexOfChar_32 (ix_rtI rfl _)
  · refine ix_K_px kq_JT_indexOfChar i_JT_indexOfChar_13 rfl rfl ?_
    refine ix_K_px kq_JT_indexOfChar i_JT_indexOfChar_14 rfl rfl ?_
    refine ix_K_ab kq_JT_indexOfChar i_JT_indexOfChar_16 rfl (fun v1 => ?_)
    refine ix_K_px kq_JT_indexOfChar i_JT_indexOfChar_17 rfl rfl ?_
    refine ix_K_ic_ne (tgt := 25) kq_JT_indexOfChar i_JT_indexOfChar_19 rfl (by decide) ?_ ?_
    · refine ix_K_inc (L2 := [some (.ref a0), none, none, some (.int x3), some (.int x4), some (.int (x5 + 1))]) kq_JT_indexOfChar i_JT_indexOfChar_25 rfl rfl (Nat.le_of_ble_eq_true rfl) kci_1 rfl ?_
      refine ix_K_goto (tgt := 7) kq_JT_indexOfChar i_JT_indexOfChar_28 rfl (by decide) ?_
      exact ix_D_cut i_JT_indexOfChar_7 rfl
    · refine ix_K_px kq_JT_indexOfChar i_JT_indexOfChar_22 rfl rfl ?_
      exact ix_D_ret kq_JT_indexOfChar i_JT_indexOfChar_24 (ix_rtI rfl _)
set_option maxRecDepth 20000 in
set_option maxHeartbeats 1000000 in
theorem e_JT_indexOfChar (a0 : Nat) (x1 : Int32) (x2 : Int32) (x3 : Int32) (h : ixH) : ix_D mJT_indexOfChar 0 [some (.ref a0), some (.int x1), some (.int x2), some (.int x3), none, none] [] h = l_JT_indexOfChar_7 a0 x3 (ix_i2b x1) x2 h := by
  refine ix_K_px kq_JT_indexOfChar i_JT_indexOfChar_0 rfl rfl ?_
  refine ix_K_px kq_JT_indexOfChar i_JT_indexOfChar_1 rfl rfl ?_
  refine ix_K_si (L2 := [some (.ref a0), some (.int x1), some (.int x2), some (.int x3), some (.int (ix_i2b x1)), none]) kq_JT_indexOfChar i_JT_indexOfChar_2 rfl (Or.inl rfl) (Nat.le_of_ble_eq_true rfl) rfl ?_
  refine ix_K_px kq_JT_indexOfChar i_JT_indexOfChar_4 rfl rfl ?_
  refine ix_K_si (L2 := [some (.ref a0), some (.int x1), some (.int x2), some (.int x3), some (.int (ix_i2b x1)), some (.int x2)]) kq_JT_indexOfChar i_JT_indexOfChar_5 rfl (Or.inl rfl) (Nat.le_of_ble_eq_true rfl) rfl ?_
  exact ix_D_cut i_JT_indexOfChar_7 rfl
theorem x_JT_indexOfChar {a0 : Nat} {x1 : Int32} {x2 : Int32} {x3 : Int32} {h h1 : ixH} {v : Int32} (hd : ix_D mJT_indexOfChar 0 [some (.ref a0), some (.int x1), some (.int x2), some (.int x3), none, none] [] h = some ([.int v], h1)) : ix_M mJT_indexOfChar [.ref a0, .int x1, .int x2, .int x3] h = some ([.int v], h1) := ix_M_of (ix_ent_s kq_JT_indexOfChar rfl rfl (Nat.le_of_ble_eq_true rfl) rfl) hd (ix_okrI (Or.inl rfl) v)
theorem i_JI_bitCount_0 : ix_nx mJI_bitCount 0 = some (0, .iload_n 0, 1, none, [], 0) := rfl
theorem i_JI_bitCount_1 : ix_nx mJI_bitCount 1 = some (0, .iload_n 0, 2, none, [], 0) := rfl
theorem i_JI_bitCount_2 : ix_nx mJI_bitCount 2 = some (0, .iconst 1, 3, none, [], 0) := rfl
theorem i_JI_bitCount_3 : ix_nx mJI_bitCount 3 = some (0, .iushr, 4, none, [], 0) := rfl
theorem i_JI_bitCount_4 : ix_nx mJI_bitCount 4 = some (0, .ldc_w 265, 7, none, [0], 1431655765) := rfl
theorem i_JI_bitCount_7 : ix_nx mJI_bitCount 7 = some (0, .iand, 8, none, [], 0) := rfl
theorem i_JI_bitCount_8 : ix_nx mJI_bitCount 8 = some (0, .isub, 9, none, [], 0) := rfl
theorem i_JI_bitCount_9 : ix_nx mJI_bitCount 9 = some (0, .istore_n 0, 10, none, [], 0) := rfl
theorem i_JI_bitCount_10 : ix_nx mJI_bitCount 10 = some (0, .iload_n 0, 11, none, [], 0) := rfl
theorem i_JI_bitCount_11 : ix_nx mJI_bitCount 11 = some (0, .ldc_w 266, 14, none, [1], 858993459) := rfl
theorem i_JI_bitCount_14 : ix_nx mJI_bitCount 14 = some (0, .iand, 15, none, [], 0) := rfl
theorem i_JI_bitCount_15 : ix_nx mJI_bitCount 15 = some (0, .iload_n 0, 16, none, [], 0) := rfl
theorem i_JI_bitCount_16 : ix_nx mJI_bitCount 16 = some (0, .iconst 2, 17, none, [], 0) := rfl
theorem i_JI_bitCount_17 : ix_nx mJI_bitCount 17 = some (0, .iushr, 18, none, [], 0) := rfl
theorem i_JI_bitCount_18 : ix_nx mJI_bitCount 18 = some (0, .ldc_w 266, 21, none, [1], 858993459) := rfl
theorem i_JI_bitCount_21 : ix_nx mJI_bitCount 21 = some (0, .iand, 22, none, [], 0) := rfl
theorem i_JI_bitCount_22 : ix_nx mJI_bitCount 22 = some (0, .iadd, 23, none, [], 0) := rfl
theorem i_JI_bitCount_23 : ix_nx mJI_bitCount 23 = some (0, .istore_n 0, 24, none, [], 0) := rfl
theorem i_JI_bitCount_24 : ix_nx mJI_bitCount 24 = some (0, .iload_n 0, 25, none, [], 0) := rfl
theorem i_JI_bitCount_25 : ix_nx mJI_bitCount 25 = some (0, .iload_n 0, 26, none, [], 0) := rfl
theorem i_JI_bitCount_26 : ix_nx mJI_bitCount 26 = some (0, .iconst 4, 27, none, [], 0) := rfl
theorem i_JI_bitCount_27 : ix_nx mJI_bitCount 27 = some (0, .iushr, 28, none, [], 0) := rfl
theorem i_JI_bitCount_28 : ix_nx mJI_bitCount 28 = some (0, .iadd, 29, none, [], 0) := rfl
theorem i_JI_bitCount_29 : ix_nx mJI_bitCount 29 = some (0, .ldc_w 267, 32, none, [2], 252645135) := rfl
theorem i_JI_bitCount_32 : ix_nx mJI_bitCount 32 = some (0, .iand, 33, none, [], 0) := rfl
theorem i_JI_bitCount_33 : ix_nx mJI_bitCount 33 = some (0, .istore_n 0, 34, none, [], 0) := rfl
theorem i_JI_bitCount_34 : ix_nx mJI_bitCount 34 = some (0, .iload_n 0, 35, none, [], 0) := rfl
theorem i_JI_bitCount_35 : ix_nx mJI_bitCount 35 = some (0, .iload_n 0, 36, none, [], 0) := rfl
theorem i_JI_bitCount_36 : ix_nx mJI_bitCount 36 = some (0, .bipush 8, 38, none, [], 0) := rfl
theorem i_JI_bitCount_38 : ix_nx mJI_bitCount 38 = some (0, .iushr, 39, none, [], 0) := rfl
theorem i_JI_bitCount_39 : ix_nx mJI_bitCount 39 = some (0, .iadd, 40, none, [], 0) := rfl
theorem i_JI_bitCount_40 : ix_nx mJI_bitCount 40 = some (0, .istore_n 0, 41, none, [], 0) := rfl
theorem i_JI_bitCount_41 : ix_nx mJI_bitCount 41 = some (0, .iload_n 0, 42, none, [], 0) := rfl
theorem i_JI_bitCount_42 : ix_nx mJI_bitCount 42 = some (0, .iload_n 0, 43, none, [], 0) := rfl
theorem i_JI_bitCount_43 : ix_nx mJI_bitCount 43 = some (0, .bipush 16, 45, none, [], 0) := rfl
theorem i_JI_bitCount_45 : ix_nx mJI_bitCount 45 = some (0, .iushr, 46, none, [], 0) := rfl
theorem i_JI_bitCount_46 : ix_nx mJI_bitCount 46 = some (0, .iadd, 47, none, [], 0) := rfl
theorem i_JI_bitCount_47 : ix_nx mJI_bitCount 47 = some (0, .istore_n 0, 48, none, [], 0) := rfl
theorem i_JI_bitCount_48 : ix_nx mJI_bitCount 48 = some (0, .iload_n 0, 49, none, [], 0) := rfl
theorem i_JI_bitCount_49 : ix_nx mJI_bitCount 49 = some (0, .bipush 63, 51, none, [], 0) := rfl
theorem i_JI_bitCount_51 : ix_nx mJI_bitCount 51 = some (0, .iand, 52, none, [], 0) := rfl
theorem i_JI_bitCount_52 : ix_nx mJI_bitCount 52 = some (4, .ireturn, 53, none, [], 0) := rfl
set_option maxRecDepth 20000 in
set_option maxHeartbeats 1000000 in
theorem e_JI_bitCount (x0 : Int32) (h : ixH) : ix_D mJI_bitCount 0 [some (.int x0)] [] h = some ([.int ((((((((x0 - ((ix_iush x0 1) &&& 1431655765)) &&& 858993459) + ((ix_iush (x0 - ((ix_iush x0 1) &&& 1431655765)) 2) &&& 858993459)) + (ix_iush (((x0 - ((ix_iush x0 1) &&& 1431655765)) &&& 858993459) + ((ix_iush (x0 - ((ix_iush x0 1) &&& 1431655765)) 2) &&& 858993459)) 4)) &&& 252645135) + (ix_iush (((((x0 - ((ix_iush x0 1) &&& 1431655765)) &&& 858993459) + ((ix_iush (x0 - ((ix_iush x0 1) &&& 1431655765)) 2) &&& 858993459)) + (ix_iush (((x0 - ((ix_iush x0 1) &&& 1431655765)) &&& 858993459) + ((ix_iush (x0 - ((ix_iush x0 1) &&& 1431655765)) 2) &&& 858993459)) 4)) &&& 252645135) 8)) + (ix_iush ((((((x0 - ((ix_iush x0 1) &&& 1431655765)) &&& 858993459) + ((ix_iush (x0 - ((ix_iush x0 1) &&& 1431655765)) 2) &&& 858993459)) + (ix_iush (((x0 - ((ix_iush x0 1) &&& 1431655765)) &&& 858993459) + ((ix_iush (x0 - ((ix_iush x0 1) &&& 1431655765)) 2) &&& 858993459)) 4)) &&& 252645135) + (ix_iush (((((x0 - ((ix_iush x0 1) &&& 1431655765)) &&& 858993459) + ((ix_iush (x0 - ((ix_iush x0 1) &&& 1431655765)) 2) &&& 858993459)) + (ix_iush (((x0 - ((ix_iush x0 1) &&& 1431655765)) &&& 858993459) + ((ix_iush (x0 - ((ix_iush x0 1) &&& 1431655765)) 2) &&& 858993459)) 4)) &&& 252645135) 8)) 16)) &&& 63)], h) := by
  refine ix_K_px kq_JI_bitCount i_JI_bitCount_0 rfl rfl ?_
  refine ix_K_px kq_JI_bitCount i_JI_bitCount_1 rfl rfl ?_
  refine ix_K_ci kq_JI_bitCount i_JI_bitCount_2 rfl kci_1 ?_
  refine ix_K_px kq_JI_bitCount i_JI_bitCount_3 rfl rfl ?_
  refine ix_K_cw kq_JI_bitCount i_JI_bitCount_4 rfl kcw_1431655765 ?_
  refine ix_K_px kq_JI_bitCount i_JI_bitCount_7 rfl rfl ?_
  refine ix_K_px kq_JI_bitCount i_JI_bitCount_8 rfl rfl ?_
  refine ix_K_si (L2 := [some (.int (x0 - ((ix_iush x0 1) &&& 1431655765)))]) kq_JI_bitCount i_JI_bitCount_9 rfl (Or.inr ⟨_, rfl, rfl⟩) (Nat.le_of_ble_eq_true rfl) rfl ?_
  refine ix_K_px kq_JI_bitCount i_JI_bitCount_10 rfl rfl ?_
  refine ix_K_cw kq_JI_bitCount i_JI_bitCount_11 rfl kcw_858993459 ?_
  refine ix_K_px kq_JI_bitCount i_JI_bitCount_14 rfl rfl ?_
  refine ix_K_px kq_JI_bitCount i_JI_bitCount_15 rfl rfl ?_
  refine ix_K_ci kq_JI_bitCount i_JI_bitCount_16 rfl kci_2 ?_
  refine ix_K_px kq_JI_bitCount i_JI_bitCount_17 rfl rfl ?_
  refine ix_K_cw kq_JI_bitCount i_JI_bitCount_18 rfl kcw_858993459 ?_
  refine ix_K_px kq_JI_bitCount i_JI_bitCount_21 rfl rfl ?_
  refine ix_K_px kq_JI_bitCount i_JI_bitCount_22 rfl rfl ?_
  refine ix_K_si (L2 := [some (.int (((x0 - ((ix_iush x0 1) &&& 1431655765)) &&& 858993459) + ((ix_iush (x0 - ((ix_iush x0 1) &&& 1431655765)) 2) &&& 858993459)))]) kq_JI_bitCount i_JI_bitCount_23 rfl (Or.inr ⟨_, rfl, rfl⟩) (Nat.le_of_ble_eq_true rfl) rfl ?_
  refine ix_K_px kq_JI_bitCount i_JI_bitCount_24 rfl rfl ?_
  refine ix_K_px kq_JI_bitCount i_JI_bitCount_25 rfl rfl ?_
  refine ix_K_ci kq_JI_bitCount i_JI_bitCount_26 rfl kci_4 ?_
  refine ix_K_px kq_JI_bitCount i_JI_bitCount_27 rfl rfl ?_
  refine ix_K_px kq_JI_bitCount i_JI_bitCount_28 rfl rfl ?_
  refine ix_K_cw kq_JI_bitCount i_JI_bitCount_29 rfl kcw_252645135 ?_
  refine ix_K_px kq_JI_bitCount i_JI_bitCount_32 rfl rfl ?_
  refine ix_K_si (L2 := [some (.int (((((x0 - ((ix_iush x0 1) &&& 1431655765)) &&& 858993459) + ((ix_iush (x0 - ((ix_iush x0 1) &&& 1431655765)) 2) &&& 858993459)) + (ix_iush (((x0 - ((ix_iush x0 1) &&& 1431655765)) &&& 858993459) + ((ix_iush (x0 - ((ix_iush x0 1) &&& 1431655765)) 2) &&& 858993459)) 4)) &&& 252645135))]) kq_JI_bitCount i_JI_bitCount_33 rfl (Or.inr ⟨_, rfl, rfl⟩) (Nat.le_of_ble_eq_true rfl) rfl ?_
  refine ix_K_px kq_JI_bitCount i_JI_bitCount_34 rfl rfl ?_
  refine ix_K_px kq_JI_bitCount i_JI_bitCount_35 rfl rfl ?_
  refine ix_K_cb kq_JI_bitCount i_JI_bitCount_36 rfl kcb_8 ?_
  refine ix_K_px kq_JI_bitCount i_JI_bitCount_38 rfl rfl ?_
  refine ix_K_px kq_JI_bitCount i_JI_bitCount_39 rfl rfl ?_
  refine ix_K_si (L2 := [some (.int ((((((x0 - ((ix_iush x0 1) &&& 1431655765)) &&& 858993459) + ((ix_iush (x0 - ((ix_iush x0 1) &&& 1431655765)) 2) &&& 858993459)) + (ix_iush (((x0 - ((ix_iush x0 1) &&& 1431655765)) &&& 858993459) + ((ix_iush (x0 - ((ix_iush x0 1) &&& 1431655765)) 2) &&& 858993459)) 4)) &&& 252645135) + (ix_iush (((((x0 - ((ix_iush x0 1) &&& 1431655765)) &&& 858993459) + ((ix_iush (x0 - ((ix_iush x0 1) &&& 1431655765)) 2) &&& 858993459)) + (ix_iush (((x0 - ((ix_iush x0 1) &&& 1431655765)) &&& 858993459) + ((ix_iush (x0 - ((ix_iush x0 1) &&& 1431655765)) 2) &&& 858993459)) 4)) &&& 252645135) 8)))]) kq_JI_bitCount i_JI_bitCount_40 rfl (Or.inr ⟨_, rfl, rfl⟩) (Nat.le_of_ble_eq_true rfl) rfl ?_
  refine ix_K_px kq_JI_bitCount i_JI_bitCount_41 rfl rfl ?_
  refine ix_K_px kq_JI_bitCount i_JI_bitCount_42 rfl rfl ?_
  refine ix_K_cb kq_JI_bitCount i_JI_bitCount_43 rfl kcb_16 ?_
  refine ix_K_px kq_JI_bitCount i_JI_bitCount_45 rfl rfl ?_
  refine ix_K_px kq_JI_bitCount i_JI_bitCount_46 rfl rfl ?_
  refine ix_K_si (L2 := [some (.int (((((((x0 - ((ix_iush x0 1) &&& 1431655765)) &&& 858993459) + ((ix_iush (x0 - ((ix_iush x0 1) &&& 1431655765)) 2) &&& 858993459)) + (ix_iush (((x0 - ((ix_iush x0 1) &&& 1431655765)) &&& 858993459) + ((ix_iush (x0 - ((ix_iush x0 1) &&& 1431655765)) 2) &&& 858993459)) 4)) &&& 252645135) + (ix_iush (((((x0 - ((ix_iush x0 1) &&& 1431655765)) &&& 858993459) + ((ix_iush (x0 - ((ix_iush x0 1) &&& 1431655765)) 2) &&& 858993459)) + (ix_iush (((x0 - ((ix_iush x0 1) &&& 1431655765)) &&& 858993459) + ((ix_iush (x0 - ((ix_iush x0 1) &&& 1431655765)) 2) &&& 858993459)) 4)) &&& 252645135) 8)) + (ix_iush ((((((x0 - ((ix_iush x0 1) &&& 1431655765)) &&& 858993459) + ((ix_iush (x0 - ((ix_iush x0 1) &&& 1431655765)) 2) &&& 858993459)) + (ix_iush (((x0 - ((ix_iush x0 1) &&& 1431655765)) &&& 858993459) + ((ix_iush (x0 - ((ix_iush x0 1) &&& 1431655765)) 2) &&& 858993459)) 4)) &&& 252645135) + (ix_iush (((((x0 - ((ix_iush x0 1) &&& 1431655765)) &&& 858993459) + ((ix_iush (x0 - ((ix_iush x0 1) &&& 1431655765)) 2) &&& 858993459)) + (ix_iush (((x0 - ((ix_iush x0 1) &&& 1431655765)) &&& 858993459) + ((ix_iush (x0 - ((ix_iush x0 1) &&& 1431655765)) 2) &&& 858993459)) 4)) &&& 252645135) 8)) 16)))]) kq_JI_bitCount i_JI_bitCount_47 rfl (Or.inr ⟨_, rfl, rfl⟩) (Nat.le_of_ble_eq_true rfl) rfl ?_
  refine ix_K_px kq_JI_bitCount i_JI_bitCount_48 rfl rfl ?_
  refine ix_K_cb kq_JI_bitCount i_JI_bitCount_49 rfl kcb_63 ?_
  refine ix_K_px kq_JI_bitCount i_JI_bitCount_51 rfl rfl ?_
  exact ix_D_ret kq_JI_bitCount i_JI_bitCount_52 (ix_rtI rfl _)
theorem x_JI_bitCount {x0 : Int32} {h h1 : ixH} {v : Int32} (hd : ix_D mJI_bitCount 0 [some (.int x0)] [] h = some ([.int v], h1)) : ix_M mJI_bitCount [.int x0] h = some ([.int v], h1) := ix_M_of (ix_ent_s kq_JI_bitCount rfl rfl (Nat.le_of_ble_eq_true rfl) rfl) hd (ix_okrI (Or.inl rfl) v)
