/-! PRINTED by wip/whole/gen6.py -/
theorem i_Gr_init_0 : ix_nx mGr_init 0 = some (0, .aload_n 0, 1, none, [], 0) := rfl
theorem i_Gr_init_1 : ix_nx mGr_init 1 = some (3, .invokespecial 3, 4, none, [6, 0, 83], 0) := rfl
theorem i_Gr_init_4 : ix_nx mGr_init 4 = some (0, .aload_n 0, 5, none, [], 0) := rfl
theorem i_Gr_init_5 : ix_nx mGr_init 5 = some (0, .iconst 0, 6, none, [], 0) := rfl
theorem i_Gr_init_6 : ix_nx mGr_init 6 = some (2, .putfield 9, 9, none, [2, 0, 0, 0], 0) := rfl
theorem i_Gr_init_9 : ix_nx mGr_init 9 = some (0, .aload_n 0, 10, none, [], 0) := rfl
theorem i_Gr_init_10 : ix_nx mGr_init 10 = some (0, .iconst 0, 11, none, [], 0) := rfl
theorem i_Gr_init_11 : ix_nx mGr_init 11 = some (2, .putfield 15, 14, none, [2, 1, 0, 6], 0) := rfl
theorem i_Gr_init_14 : ix_nx mGr_init 14 = some (0, .aload_n 0, 15, none, [], 0) := rfl
theorem i_Gr_init_15 : ix_nx mGr_init 15 = some (0, .lconst 0, 16, none, [], 0) := rfl
theorem i_Gr_init_16 : ix_nx mGr_init 16 = some (2, .putfield 18, 19, none, [2, 2, 1, 9], 0) := rfl
theorem i_Gr_init_19 : ix_nx mGr_init 19 = some (0, .aload_n 0, 20, none, [], 0) := rfl
theorem i_Gr_init_20 : ix_nx mGr_init 20 = some (0, .lconst 0, 21, none, [], 0) := rfl
theorem i_Gr_init_21 : ix_nx mGr_init 21 = some (2, .putfield 22, 24, none, [2, 3, 1, 11], 0) := rfl
theorem i_Gr_init_24 : ix_nx mGr_init 24 = some (0, .aload_n 0, 25, none, [], 0) := rfl
theorem i_Gr_init_25 : ix_nx mGr_init 25 = some (0, .lconst 0, 26, none, [], 0) := rfl
theorem i_Gr_init_26 : ix_nx mGr_init 26 = some (2, .putfield 25, 29, none, [2, 4, 1, 15], 0) := rfl
theorem i_Gr_init_29 : ix_nx mGr_init 29 = some (0, .aload_n 0, 30, none, [], 0) := rfl
theorem i_Gr_init_30 : ix_nx mGr_init 30 = some (0, .lconst 0, 31, none, [], 0) := rfl
theorem i_Gr_init_31 : ix_nx mGr_init 31 = some (2, .putfield 28, 34, none, [2, 5, 1, 17], 0) := rfl
theorem i_Gr_init_34 : ix_nx mGr_init 34 = some (0, .aload_n 0, 35, none, [], 0) := rfl
theorem i_Gr_init_35 : ix_nx mGr_init 35 = some (0, .iconst 4, 36, none, [], 0) := rfl
theorem i_Gr_init_36 : ix_nx mGr_init 36 = some (2, .newarray .long, 38, none, [], 0) := rfl
theorem i_Gr_init_38 : ix_nx mGr_init 38 = some (2, .putfield 31, 41, none, [2, 6, 2, 20], 0) := rfl
theorem i_Gr_init_41 : ix_nx mGr_init 41 = some (0, .aload_n 0, 42, none, [], 0) := rfl
theorem i_Gr_init_42 : ix_nx mGr_init 42 = some (0, .iconst 4, 43, none, [], 0) := rfl
theorem i_Gr_init_43 : ix_nx mGr_init 43 = some (2, .newarray .long, 45, none, [], 0) := rfl
theorem i_Gr_init_45 : ix_nx mGr_init 45 = some (2, .putfield 35, 48, none, [2, 7, 2, 22], 0) := rfl
theorem i_Gr_init_48 : ix_nx mGr_init 48 = some (4, .return_, 49, none, [], 0) := rfl
set_option maxRecDepth 20000 in
set_option maxHeartbeats 1000000 in
theorem e_Gr_init (a0 : Nat) (h : ixH) : ix_D mGr_init 0 [some (.ref a0)] [] h = (ix_pf h a0 2 0 (.int 0)).bind fun h1 => (ix_pf h1 a0 2 1 (.int 0)).bind fun h2 => (ix_pf h2 a0 2 2 (.long 0)).bind fun h3 => (ix_pf h3 a0 2 3 (.long 0)).bind fun h4 => (ix_pf h4 a0 2 4 (.long 0)).bind fun h5 => (ix_pf h5 a0 2 5 (.long 0)).bind fun h6 => (ix_pf (ix_nw h6 (.inl (1, 4, .inr (.inl fun _ => 0))) 4) a0 2 6 (.ref h6.1)).bind fun h7 => (ix_pf (ix_nw h7 (.inl (1, 4, .inr (.inl fun _ => 0))) 4) a0 2 7 (.ref h7.1)).bind fun h8 => some ([], h8) := by
  refine ix_K_px kq_Gr_init i_Gr_init_0 rfl rfl ?_
  refine ix_K_obj kq_Gr_init i_Gr_init_1 rfl (Nat.le_of_ble_eq_true rfl) ?_
  refine ix_K_px kq_Gr_init i_Gr_init_4 rfl rfl ?_
  refine ix_K_ci kq_Gr_init i_Gr_init_5 rfl kci_0 ?_
  refine ix_K_pf kq_Gr_init i_Gr_init_6 rfl rfl (fun h1 => ?_)
  refine ix_K_px kq_Gr_init i_Gr_init_9 rfl rfl ?_
  refine ix_K_ci kq_Gr_init i_Gr_init_10 rfl kci_0 ?_
  refine ix_K_pf kq_Gr_init i_Gr_init_11 rfl rfl (fun h2 => ?_)
  refine ix_K_px kq_Gr_init i_Gr_init_14 rfl rfl ?_
  refine ix_K_cl kq_Gr_init i_Gr_init_15 rfl kcl_0 ?_
  refine ix_K_pf kq_Gr_init i_Gr_init_16 rfl rfl (fun h3 => ?_)
  refine ix_K_px kq_Gr_init i_Gr_init_19 rfl rfl ?_
  refine ix_K_cl kq_Gr_init i_Gr_init_20 rfl kcl_0 ?_
  refine ix_K_pf kq_Gr_init i_Gr_init_21 rfl rfl (fun h4 => ?_)
  refine ix_K_px kq_Gr_init i_Gr_init_24 rfl rfl ?_
  refine ix_K_cl kq_Gr_init i_Gr_init_25 rfl kcl_0 ?_
  refine ix_K_pf kq_Gr_init i_Gr_init_26 rfl rfl (fun h5 => ?_)
  refine ix_K_px kq_Gr_init i_Gr_init_29 rfl rfl ?_
  refine ix_K_cl kq_Gr_init i_Gr_init_30 rfl kcl_0 ?_
  refine ix_K_pf kq_Gr_init i_Gr_init_31 rfl rfl (fun h6 => ?_)
  refine ix_K_px kq_Gr_init i_Gr_init_34 rfl rfl ?_
  refine ix_K_ci kq_Gr_init i_Gr_init_35 rfl kci_4 ?_
  refine ix_K_naL kq_Gr_init i_Gr_init_36 rfl kna_4 knb_4 (by decide) ?_
  refine ix_K_pf kq_Gr_init i_Gr_init_38 rfl rfl (fun h7 => ?_)
  refine ix_K_px kq_Gr_init i_Gr_init_41 rfl rfl ?_
  refine ix_K_ci kq_Gr_init i_Gr_init_42 rfl kci_4 ?_
  refine ix_K_naL kq_Gr_init i_Gr_init_43 rfl kna_4 knb_4 (by decide) ?_
  refine ix_K_pf kq_Gr_init i_Gr_init_45 rfl rfl (fun h8 => ?_)
  exact ix_D_ret kq_Gr_init i_Gr_init_48 (ix_rtV rfl)
theorem x_Gr_init {a0 : Nat} {h h1 : ixH} (hd : ix_D mGr_init 0 [some (.ref a0)] [] h = some ([], h1)) : ix_M mGr_init [.ref a0] h = some ([], h1) := ix_M_of (ix_ent_c kq_Gr_init rfl rfl (Nat.le_of_ble_eq_true rfl) rfl) hd (ix_okrV rfl)
theorem i_Gr_shape_0 : ix_nx mGr_shape 0 = some (0, .aload_n 0, 1, none, [], 0) := rfl
theorem i_Gr_shape_1 : ix_nx mGr_shape 1 = some (0, .iload_n 1, 2, none, [], 0) := rfl
theorem i_Gr_shape_2 : ix_nx mGr_shape 2 = some (2, .putfield 9, 5, none, [2, 0, 0, 0], 0) := rfl
theorem i_Gr_shape_5 : ix_nx mGr_shape 5 = some (0, .aload_n 0, 6, none, [], 0) := rfl
theorem i_Gr_shape_6 : ix_nx mGr_shape 6 = some (0, .iload_n 2, 7, none, [], 0) := rfl
theorem i_Gr_shape_7 : ix_nx mGr_shape 7 = some (2, .putfield 15, 10, none, [2, 1, 0, 6], 0) := rfl
theorem i_Gr_shape_10 : ix_nx mGr_shape 10 = some (0, .lconst 0, 11, none, [], 0) := rfl
theorem i_Gr_shape_11 : ix_nx mGr_shape 11 = some (0, .lstore_n 3, 12, none, [], 0) := rfl
theorem i_Gr_shape_12 : ix_nx mGr_shape 12 = some (0, .aload_n 0, 13, none, [], 0) := rfl
theorem i_Gr_shape_13 : ix_nx mGr_shape 13 = some (0, .lconst 0, 14, none, [], 0) := rfl
theorem i_Gr_shape_14 : ix_nx mGr_shape 14 = some (2, .putfield 18, 17, none, [2, 2, 1, 9], 0) := rfl
theorem i_Gr_shape_17 : ix_nx mGr_shape 17 = some (0, .iconst 0, 18, none, [], 0) := rfl
theorem i_Gr_shape_18 : ix_nx mGr_shape 18 = some (0, .istore 5, 20, none, [], 0) := rfl
theorem i_Gr_shape_20 : ix_nx mGr_shape 20 = some (0, .iload 5, 22, some [true, false, false, true, false, true], [], 0) := rfl
theorem i_Gr_shape_22 : ix_nx mGr_shape 22 = some (0, .aload_n 0, 23, none, [], 0) := rfl
theorem i_Gr_shape_23 : ix_nx mGr_shape 23 = some (1, .getfield 15, 26, none, [2, 1, 0, 6], 0) := rfl
theorem i_Gr_shape_26 : ix_nx mGr_shape 26 = some (0, .if_icmp .ge 22, 29, none, [], 0) := rfl
theorem i_Gr_shape_29 : ix_nx mGr_shape 29 = some (0, .lload_n 3, 30, none, [], 0) := rfl
theorem i_Gr_shape_30 : ix_nx mGr_shape 30 = some (0, .iload 5, 32, none, [], 0) := rfl
theorem i_Gr_shape_32 : ix_nx mGr_shape 32 = some (0, .aload_n 0, 33, none, [], 0) := rfl
theorem i_Gr_shape_33 : ix_nx mGr_shape 33 = some (1, .getfield 9, 36, none, [2, 0, 0, 0], 0) := rfl
theorem i_Gr_shape_36 : ix_nx mGr_shape 36 = some (0, .imul, 37, none, [], 0) := rfl
theorem i_Gr_shape_37 : ix_nx mGr_shape 37 = some (3, .invokestatic 38, 40, none, [3, 1, 84], 0) := rfl
theorem i_Gr_shape_40 : ix_nx mGr_shape 40 = some (0, .lor, 41, none, [], 0) := rfl
theorem i_Gr_shape_41 : ix_nx mGr_shape 41 = some (0, .lstore_n 3, 42, none, [], 0) := rfl
theorem i_Gr_shape_42 : ix_nx mGr_shape 42 = some (0, .iinc 5 1, 45, none, [], 0) := rfl
theorem i_Gr_shape_45 : ix_nx mGr_shape 45 = some (0, .goto (-25), 48, none, [], 0) := rfl
theorem i_Gr_shape_48 : ix_nx mGr_shape 48 = some (0, .iconst 0, 49, none, [], 0) := rfl
theorem i_Gr_shape_49 : ix_nx mGr_shape 49 = some (0, .istore 5, 51, none, [], 0) := rfl
theorem i_Gr_shape_51 : ix_nx mGr_shape 51 = some (0, .iload 5, 53, some [true, false, false, true, false, true], [], 0) := rfl
theorem i_Gr_shape_53 : ix_nx mGr_shape 53 = some (0, .aload_n 0, 54, none, [], 0) := rfl
theorem i_Gr_shape_54 : ix_nx mGr_shape 54 = some (1, .getfield 9, 57, none, [2, 0, 0, 0], 0) := rfl
theorem i_Gr_shape_57 : ix_nx mGr_shape 57 = some (0, .if_icmp .ge 22, 60, none, [], 0) := rfl
theorem i_Gr_shape_60 : ix_nx mGr_shape 60 = some (0, .aload_n 0, 61, none, [], 0) := rfl
theorem i_Gr_shape_61 : ix_nx mGr_shape 61 = some (0, .dup, 62, none, [], 0) := rfl
theorem i_Gr_shape_62 : ix_nx mGr_shape 62 = some (1, .getfield 18, 65, none, [2, 2, 1, 9], 0) := rfl
theorem i_Gr_shape_65 : ix_nx mGr_shape 65 = some (0, .lload_n 3, 66, none, [], 0) := rfl
theorem i_Gr_shape_66 : ix_nx mGr_shape 66 = some (0, .iload 5, 68, none, [], 0) := rfl
theorem i_Gr_shape_68 : ix_nx mGr_shape 68 = some (0, .lshl, 69, none, [], 0) := rfl
theorem i_Gr_shape_69 : ix_nx mGr_shape 69 = some (0, .lor, 70, none, [], 0) := rfl
theorem i_Gr_shape_70 : ix_nx mGr_shape 70 = some (2, .putfield 18, 73, none, [2, 2, 1, 9], 0) := rfl
theorem i_Gr_shape_73 : ix_nx mGr_shape 73 = some (0, .iinc 5 1, 76, none, [], 0) := rfl
theorem i_Gr_shape_76 : ix_nx mGr_shape 76 = some (0, .goto (-25), 79, none, [], 0) := rfl
theorem i_Gr_shape_79 : ix_nx mGr_shape 79 = some (0, .aload_n 0, 80, none, [], 0) := rfl
theorem i_Gr_shape_80 : ix_nx mGr_shape 80 = some (0, .aload_n 0, 81, none, [], 0) := rfl
theorem i_Gr_shape_81 : ix_nx mGr_shape 81 = some (1, .getfield 18, 84, none, [2, 2, 1, 9], 0) := rfl
theorem i_Gr_shape_84 : ix_nx mGr_shape 84 = some (0, .lload_n 3, 85, none, [], 0) := rfl
theorem i_Gr_shape_85 : ix_nx mGr_shape 85 = some (0, .ldc2_w 42, 88, none, [0], -1) := rfl
theorem i_Gr_shape_88 : ix_nx mGr_shape 88 = some (0, .lxor, 89, none, [], 0) := rfl
theorem i_Gr_shape_89 : ix_nx mGr_shape 89 = some (0, .land, 90, none, [], 0) := rfl
theorem i_Gr_shape_90 : ix_nx mGr_shape 90 = some (2, .putfield 22, 93, none, [2, 3, 1, 11], 0) := rfl
theorem i_Gr_shape_93 : ix_nx mGr_shape 93 = some (0, .aload_n 0, 94, none, [], 0) := rfl
theorem i_Gr_shape_94 : ix_nx mGr_shape 94 = some (0, .aload_n 0, 95, none, [], 0) := rfl
theorem i_Gr_shape_95 : ix_nx mGr_shape 95 = some (1, .getfield 18, 98, none, [2, 2, 1, 9], 0) := rfl
theorem i_Gr_shape_98 : ix_nx mGr_shape 98 = some (0, .lload_n 3, 99, none, [], 0) := rfl
theorem i_Gr_shape_99 : ix_nx mGr_shape 99 = some (0, .aload_n 0, 100, none, [], 0) := rfl
theorem i_Gr_shape_100 : ix_nx mGr_shape 100 = some (1, .getfield 9, 103, none, [2, 0, 0, 0], 0) := rfl
theorem i_Gr_shape_103 : ix_nx mGr_shape 103 = some (0, .iconst 1, 104, none, [], 0) := rfl
theorem i_Gr_shape_104 : ix_nx mGr_shape 104 = some (0, .isub, 105, none, [], 0) := rfl
theorem i_Gr_shape_105 : ix_nx mGr_shape 105 = some (0, .lshl, 106, none, [], 0) := rfl
theorem i_Gr_shape_106 : ix_nx mGr_shape 106 = some (0, .ldc2_w 42, 109, none, [0], -1) := rfl
theorem i_Gr_shape_109 : ix_nx mGr_shape 109 = some (0, .lxor, 110, none, [], 0) := rfl
theorem i_Gr_shape_110 : ix_nx mGr_shape 110 = some (0, .land, 111, none, [], 0) := rfl
theorem i_Gr_shape_111 : ix_nx mGr_shape 111 = some (2, .putfield 25, 114, none, [2, 4, 1, 15], 0) := rfl
theorem i_Gr_shape_114 : ix_nx mGr_shape 114 = some (0, .aload_n 0, 115, none, [], 0) := rfl
theorem i_Gr_shape_115 : ix_nx mGr_shape 115 = some (0, .lconst 0, 116, none, [], 0) := rfl
theorem i_Gr_shape_116 : ix_nx mGr_shape 116 = some (2, .putfield 28, 119, none, [2, 5, 1, 17], 0) := rfl
theorem i_Gr_shape_119 : ix_nx mGr_shape 119 = some (0, .iconst 0, 120, none, [], 0) := rfl
theorem i_Gr_shape_120 : ix_nx mGr_shape 120 = some (0, .istore 5, 122, none, [], 0) := rfl
theorem i_Gr_shape_122 : ix_nx mGr_shape 122 = some (0, .iload 5, 124, some [true, false, false, false, false, true], [], 0) := rfl
theorem i_Gr_shape_124 : ix_nx mGr_shape 124 = some (0, .iconst 4, 125, none, [], 0) := rfl
theorem i_Gr_shape_125 : ix_nx mGr_shape 125 = some (0, .if_icmp .ge 17, 128, none, [], 0) := rfl
theorem i_Gr_shape_128 : ix_nx mGr_shape 128 = some (0, .aload_n 0, 129, none, [], 0) := rfl
theorem i_Gr_shape_129 : ix_nx mGr_shape 129 = some (1, .getfield 31, 132, none, [2, 6, 2, 20], 0) := rfl
theorem i_Gr_shape_132 : ix_nx mGr_shape 132 = some (0, .iload 5, 134, none, [], 0) := rfl
theorem i_Gr_shape_134 : ix_nx mGr_shape 134 = some (0, .lconst 0, 135, none, [], 0) := rfl
theorem i_Gr_shape_135 : ix_nx mGr_shape 135 = some (2, .lastore, 136, none, [], 0) := rfl
theorem i_Gr_shape_136 : ix_nx mGr_shape 136 = some (0, .iinc 5 1, 139, none, [], 0) := rfl
theorem i_Gr_shape_139 : ix_nx mGr_shape 139 = some (0, .goto (-17), 142, none, [], 0) := rfl
theorem i_Gr_shape_142 : ix_nx mGr_shape 142 = some (0, .iconst 0, 143, none, [], 0) := rfl
theorem i_Gr_shape_143 : ix_nx mGr_shape 143 = some (0, .istore 5, 145, none, [], 0) := rfl
set_option maxRecDepth 50000 in
theorem i_Gr_shape_145 : ix_nx mGr_shape 145 = some (0, .iload 5, 147, some [true, false, false, false, false, true], [], 0) := rfl
set_option maxRecDepth 50000 in
theorem i_Gr_shape_147 : ix_nx mGr_shape 147 = some (0, .iconst 4, 148, none, [], 0) := rfl
set_option maxRecDepth 50000 in
theorem i_Gr_shape_148 : ix_nx mGr_shape 148 = some (0, .if_icmp .ge 17, 151, none, [], 0) := rfl
set_option maxRecDepth 50000 in
theorem i_Gr_shape_151 : ix_nx mGr_shape 151 = some (0, .aload_n 0, 152, none, [], 0) := rfl
set_option maxRecDepth 50000 in
theorem i_Gr_shape_152 : ix_nx mGr_shape 152 = some (1, .getfield 35, 155, none, [2, 7, 2, 22], 0) := rfl
set_option maxRecDepth 50000 in
theorem i_Gr_shape_155 : ix_nx mGr_shape 155 = some (0, .iload 5, 157, none, [], 0) := rfl
set_option maxRecDepth 50000 in
theorem i_Gr_shape_157 : ix_nx mGr_shape 157 = some (0, .lconst 0, 158, none, [], 0) := rfl
set_option maxRecDepth 50000 in
theorem i_Gr_shape_158 : ix_nx mGr_shape 158 = some (2, .lastore, 159, none, [], 0) := rfl
set_option maxRecDepth 50000 in
theorem i_Gr_shape_159 : ix_nx mGr_shape 159 = some (0, .iinc 5 1, 162, none, [], 0) := rfl
set_option maxRecDepth 50000 in
theorem i_Gr_shape_162 : ix_nx mGr_shape 162 = some (0, .goto (-17), 165, none, [], 0) := rfl
set_option maxRecDepth 50000 in
theorem i_Gr_shape_165 : ix_nx mGr_shape 165 = some (4, .return_, 166, none, [], 0) := rfl
noncomputable def l_Gr_shape_20 (a0 : Nat) (x3 : Int64) (x5 : Int32) (h : ixH) : Option (List Value × ixH) := ix_D mGr_shape 20 [some (.ref a0), none, none, some (.long x3), none, some (.int x5)] [] h
noncomputable def l_Gr_shape_51 (a0 : Nat) (x3 : Int64) (x5 : Int32) (h : ixH) : Option (List Value × ixH) := ix_D mGr_shape 51 [some (.ref a0), none, none, some (.long x3), none, some (.int x5)] [] h
noncomputable def l_Gr_shape_122 (a0 : Nat) (x5 : Int32) (h : ixH) : Option (List Value × ixH) := ix_D mGr_shape 122 [some (.ref a0), none, none, none, none, some (.int x5)] [] h
noncomputable def l_Gr_shape_145 (a0 : Nat) (x5 : Int32) (h : ixH) : Option (List Value × ixH) := ix_D mGr_shape 145 [some (.ref a0), none, none, none, none, some (.int x5)] [] h
set_option maxRecDepth 20000 in
set_option maxHeartbeats 1000000 in
theorem e_Gr_shape_20 (a0 : Nat) (x3 : Int64) (x5 : Int32) (h : ixH) : l_Gr_shape_20 a0 x3 x5 h = (ix_gi h a0 2 1).bind fun v1 => if v1 ≤ x5 then l_Gr_shape_51 a0 x3 0 h else (ix_gi h a0 2 0).bind fun v2 => (ix_M mRP_bit [.int (x5 * v2)] h).bind fun r => ix_kL r fun v4 h3 => l_Gr_shape_20 a0 (x3 ||| v4) (x5 + 1) h3 := by
  unfold l_Gr_shape_20
  refine ix_K_px kq_Gr_shape i_Gr_shape_20 rfl rfl ?_
  refine ix_K_px kq_Gr_shape i_Gr_shape_22 rfl rfl ?_
  refine ix_K_gi kq_Gr_shape i_Gr_shape_23 rfl (fun v1 => ?_)
  refine ix_K_ic_ge (tgt := 48) kq_Gr_shape i_Gr_shape_26 rfl (by decide) ?_ ?_
  · refine ix_K_ci kq_Gr_shape i_Gr_shape_48 rfl kci_0 ?_
    refine ix_K_si (L2 := [some (.ref a0), none, none, some (.long x3), none, some (.int 0)]) kq_Gr_shape i_Gr_shape_49 rfl (Or.inl rfl) (Nat.le_of_ble_eq_true rfl) rfl ?_
    exact ix_D_cut i_Gr_shape_51 rfl
  · refine ix_K_px kq_Gr_shape i_Gr_shape_29 rfl rfl ?_
    refine ix_K_px kq_Gr_shape i_Gr_shape_30 rfl rfl ?_
    refine ix_K_px kq_Gr_shape i_Gr_shape_32 rfl rfl ?_
    refine ix_K_gi kq_Gr_shape i_Gr_shape_33 rfl (fun v2 => ?_)
    refine ix_K_px kq_Gr_shape i_Gr_shape_36 rfl rfl ?_
    refine ix_K_callL (as := [.int (x5 * v2)]) (rest := [.long x3]) kq_Gr_shape i_Gr_shape_37 rfl kq_RP_bit (by decide) rfl rfl (fun v4 h3 => ?_)
    refine ix_K_px kq_Gr_shape i_Gr_shape_40 rfl rfl ?_
    refine ix_K_sl (L2 := [some (.ref a0), none, none, some (.long (x3 ||| v4)), none, some (.int x5)]) kq_Gr_shape i_Gr_shape_41 rfl (Or.inr ⟨_, rfl, rfl⟩) (Nat.le_of_ble_eq_true rfl) rfl ?_
    refine ix_K_inc (L2 := [some (.ref a0), none, none, some (.long (x3 ||| v4)), none, some (.int (x5 + 1))]) kq_Gr_shape i_Gr_shape_42 rfl rfl (Nat.le_of_ble_eq_true rfl) kci_1 rfl ?_
    refine ix_K_goto (tgt := 20) kq_Gr_shape i_Gr_shape_45 rfl (by decide) ?_
    exact ix_D_cut i_Gr_shape_20 rfl
set_option maxRecDepth 20000 in
set_option maxHeartbeats 1000000 in
theorem e_Gr_shape_51 (a0 : Nat) (x3 : Int64) (x5 : Int32) (h : ixH) : l_Gr_shape_51 a0 x3 x5 h = (ix_gi h a0 2 0).bind fun v1 => if v1 ≤ x5 then (ix_gl h a0 2 2).bind fun v2 => (ix_pf h a0 2 3 (.long (v2 &&& (x3 ^^^ (-1))))).bind fun h3 => (ix_gl h3 a0 2 2).bind fun v4 => (ix_gi h3 a0 2 0).bind fun v5 => (ix_pf h3 a0 2 4 (.long (v4 &&& ((ix_shl x3 (v5 - 1)) ^^^ (-1))))).bind fun h6 => (ix_pf h6 a0 2 5 (.long 0)).bind fun h7 => l_Gr_shape_122 a0 0 h7 else (ix_gl h a0 2 2).bind fun v8 => (ix_pf h a0 2 2 (.long (v8 ||| (ix_shl x3 x5)))).bind fun h9 => l_Gr_shape_51 a0 x3 (x5 + 1) h9 := by
  unfold l_Gr_shape_51
  refine ix_K_px kq_Gr_shape i_Gr_shape_51 rfl rfl ?_
  refine ix_K_px kq_Gr_shape i_Gr_shape_53 rfl rfl ?_
  refine ix_K_gi kq_Gr_shape i_Gr_shape_54 rfl (fun v1 => ?_)
  refine ix_K_ic_ge (tgt := 79) kq_Gr_shape i_Gr_shape_57 rfl (by decide) ?_ ?_
  · refine ix_K_px kq_Gr_shape i_Gr_shape_79 rfl rfl ?_
    refine ix_K_px kq_Gr_shape i_Gr_shape_80 rfl rfl ?_
    refine ix_K_gl kq_Gr_shape i_Gr_shape_81 rfl (fun v2 => ?_)
    refine ix_K_px kq_Gr_shape i_Gr_shape_84 rfl rfl ?_
    refine ix_K_c2 kq_Gr_shape i_Gr_shape_85 rfl kc2_m1 ?_
    refine ix_K_px kq_Gr_shape i_Gr_shape_88 rfl rfl ?_
    refine ix_K_px kq_Gr_shape i_Gr_shape_89 rfl rfl ?_
    refine ix_K_pf kq_Gr_shape i_Gr_shape_90 rfl rfl (fun h3 => ?_)
    refine ix_K_px kq_Gr_shape i_Gr_shape_93 rfl rfl ?_
    refine ix_K_px kq_Gr_shape i_Gr_shape_94 rfl rfl ?_
    refine ix_K_gl kq_Gr_shape i_Gr_shape_95 rfl (fun v4 => ?_)
    refine ix_K_px kq_Gr_shape i_Gr_shape_98 rfl rfl ?_
    refine ix_K_px kq_Gr_shape i_Gr_shape_99 rfl rfl ?_
    refine ix_K_gi kq_Gr_shape i_Gr_shape_100 rfl (fun v5 => ?_)
    refine ix_K_ci kq_Gr_shape i_Gr_shape_103 rfl kci_1 ?_
    refine ix_K_px kq_Gr_shape i_Gr_shape_104 rfl rfl ?_
    refine ix_K_px kq_Gr_shape i_Gr_shape_105 rfl rfl ?_
    refine ix_K_c2 kq_Gr_shape i_Gr_shape_106 rfl kc2_m1 ?_
    refine ix_K_px kq_Gr_shape i_Gr_shape_109 rfl rfl ?_
    refine ix_K_px kq_Gr_shape i_Gr_shape_110 rfl rfl ?_
    refine ix_K_pf kq_Gr_shape i_Gr_shape_111 rfl rfl (fun h6 => ?_)
    refine ix_K_px kq_Gr_shape i_Gr_shape_114 rfl rfl ?_
    refine ix_K_cl kq_Gr_shape i_Gr_shape_115 rfl kcl_0 ?_
    refine ix_K_pf kq_Gr_shape i_Gr_shape_116 rfl rfl (fun h7 => ?_)
    refine ix_K_ci kq_Gr_shape i_Gr_shape_119 rfl kci_0 ?_
    refine ix_K_si (L2 := [some (.ref a0), none, none, some (.long x3), none, some (.int 0)]) kq_Gr_shape i_Gr_shape_120 rfl (Or.inl rfl) (Nat.le_of_ble_eq_true rfl) rfl ?_
    exact ix_D_cut i_Gr_shape_122 rfl
  · refine ix_K_px kq_Gr_shape i_Gr_shape_60 rfl rfl ?_
    refine ix_K_px kq_Gr_shape i_Gr_shape_61 rfl rfl ?_
    refine ix_K_gl kq_Gr_shape i_Gr_shape_62 rfl (fun v8 => ?_)
    refine ix_K_px kq_Gr_shape i_Gr_shape_65 rfl rfl ?_
    refine ix_K_px kq_Gr_shape i_Gr_shape_66 rfl rfl ?_
    refine ix_K_px kq_Gr_shape i_Gr_shape_68 rfl rfl ?_
    refine ix_K_px kq_Gr_shape i_Gr_shape_69 rfl rfl ?_
    refine ix_K_pf kq_Gr_shape i_Gr_shape_70 rfl rfl (fun h9 => ?_)
    refine ix_K_inc (L2 := [some (.ref a0), none, none, some (.long x3), none, some (.int (x5 + 1))]) kq_Gr_shape i_Gr_shape_73 rfl rfl (Nat.le_of_ble_eq_true rfl) kci_1 rfl ?_
    refine ix_K_goto (tgt := 51) kq_Gr_shape i_Gr_shape_76 rfl (by decide) ?_
    exact ix_D_cut i_Gr_shape_51 rfl
set_option maxRecDepth 20000 in
set_option maxHeartbeats 1000000 in
theorem e_Gr_shape_122 (a0 : Nat) (x5 : Int32) (h : ixH) : l_Gr_shape_122 a0 x5 h = if 4 ≤ x5 then l_Gr_shape_145 a0 0 h else (ix_gr h a0 2 6).bind fun v1 => (ix_sl h v1 x5 0).bind fun h2 => l_Gr_shape_122 a0 (x5 + 1) h2 := by
  unfold l_Gr_shape_122
  refine ix_K_px kq_Gr_shape i_Gr_shape_122 rfl rfl ?_
  refine ix_K_ci kq_Gr_shape i_Gr_shape_124 rfl kci_4 ?_
  refine ix_K_ic_ge (tgt := 142) kq_Gr_shape i_Gr_shape_125 rfl (by decide) ?_ ?_
  · refine ix_K_ci kq_Gr_shape i_Gr_shape_142 rfl kci_0 ?_
    refine ix_K_si (L2 := [some (.ref a0), none, none, none, none, some (.int 0)]) kq_Gr_shape i_Gr_shape_143 rfl (Or.inl rfl) (Nat.le_of_ble_eq_true rfl) rfl ?_
    exact ix_D_cut i_Gr_shape_145 rfl
  · refine ix_K_px kq_Gr_shape i_Gr_shape_128 rfl rfl ?_
    refine ix_K_gr kq_Gr_shape i_Gr_shape_129 rfl (fun v1 => ?_)
    refine ix_K_px kq_Gr_shape i_Gr_shape_132 rfl rfl ?_
    refine ix_K_cl kq_Gr_shape i_Gr_shape_134 rfl kcl_0 ?_
    refine ix_K_tl kq_Gr_shape i_Gr_shape_135 rfl (fun h2 => ?_)
    refine ix_K_inc (L2 := [some (.ref a0), none, none, none, none, some (.int (x5 + 1))]) kq_Gr_shape i_Gr_shape_136 rfl rfl (Nat.le_of_ble_eq_true rfl) kci_1 rfl ?_
    refine ix_K_goto (tgt := 122) kq_Gr_shape i_Gr_shape_139 rfl (by decide) ?_
    exact ix_D_cut i_Gr_shape_122 rfl
set_option maxRecDepth 20000 in
set_option maxHeartbeats 1000000 in
theorem e_Gr_shape_145 (a0 : Nat) (x5 : Int32) (h : ixH) : l_Gr_shape_145 a0 x5 h = if 4 ≤ x5 then some ([], h) else (ix_gr h a0 2 7).bind fun v1 => (ix_sl h v1 x5 0).bind fun h2 => l_Gr_shape_145 a0 (x5 + 1) h2 := by
  unfold l_Gr_shape_145
  refine ix_K_px kq_Gr_shape i_Gr_shape_145 rfl rfl ?_
  refine ix_K_ci kq_Gr_shape i_Gr_shape_147 rfl kci_4 ?_
  refine ix_K_ic_ge (tgt := 165) kq_Gr_shape i_Gr_shape_148 rfl (by decide) ?_ ?_
  · exact ix_D_ret kq_Gr_shape i_Gr_shape_165 (ix_rtV rfl)
  · refine ix_K_px kq_Gr_shape i_Gr_shape_151 rfl rfl ?_
    refine ix_K_gr kq_Gr_shape i_Gr_shape_152 rfl (fun v1 => ?_)
    refine ix_K_px kq_Gr_shape i_Gr_shape_155 rfl rfl ?_
    refine ix_K_cl kq_Gr_shape i_Gr_shape_157 rfl kcl_0 ?_
    refine ix_K_tl kq_Gr_shape i_Gr_shape_158 rfl (fun h2 => ?_)
    refine ix_K_inc (L2 := [some (.ref a0), none, none, none, none, some (.int (x5 + 1))]) kq_Gr_shape i_Gr_shape_159 rfl rfl (Nat.le_of_ble_eq_true rfl) kci_1 rfl ?_
    refine ix_K_goto (tgt := 145) kq_Gr_shape i_Gr_shape_162 rfl (by decide) ?_
    exact ix_D_cut i_Gr_shape_145 rfl
set_option maxRecDepth 20000 in
set_option maxHeartbeats 1000000 in
theorem e_Gr_shape (a0 : Nat) (x1 : Int32) (x2 : Int32) (h : ixH) : ix_D mGr_shape 0 [some (.ref a0), some (.int x1), some (.int x2), none, none, none] [] h = (ix_pf h a0 2 0 (.int x1)).bind fun h1 => (ix_pf h1 a0 2 1 (.int x2)).bind fun h2 => (ix_pf h2 a0 2 2 (.long 0)).bind fun h3 => l_Gr_shape_20 a0 0 0 h3 := by
  refine ix_K_px kq_Gr_shape i_Gr_shape_0 rfl rfl ?_
  refine ix_K_px kq_Gr_shape i_Gr_shape_1 rfl rfl ?_
  refine ix_K_pf kq_Gr_shape i_Gr_shape_2 rfl rfl (fun h1 => ?_)
  refine ix_K_px kq_Gr_shape i_Gr_shape_5 rfl rfl ?_
  refine ix_K_px kq_Gr_shape i_Gr_shape_6 rfl rfl ?_
  refine ix_K_pf kq_Gr_shape i_Gr_shape_7 rfl rfl (fun h2 => ?_)
  refine ix_K_cl kq_Gr_shape i_Gr_shape_10 rfl kcl_0 ?_
  refine ix_K_sl (L2 := [some (.ref a0), some (.int x1), some (.int x2), some (.long 0), none, none]) kq_Gr_shape i_Gr_shape_11 rfl (Or.inr ⟨_, rfl, rfl⟩) (Nat.le_of_ble_eq_true rfl) rfl ?_
  refine ix_K_px kq_Gr_shape i_Gr_shape_12 rfl rfl ?_
  refine ix_K_cl kq_Gr_shape i_Gr_shape_13 rfl kcl_0 ?_
  refine ix_K_pf kq_Gr_shape i_Gr_shape_14 rfl rfl (fun h3 => ?_)
  refine ix_K_ci kq_Gr_shape i_Gr_shape_17 rfl kci_0 ?_
  refine ix_K_si (L2 := [some (.ref a0), some (.int x1), some (.int x2), some (.long 0), none, some (.int 0)]) kq_Gr_shape i_Gr_shape_18 rfl (Or.inl rfl) (Nat.le_of_ble_eq_true rfl) rfl ?_
  exact ix_D_cut i_Gr_shape_20 rfl
theorem x_Gr_shape {a0 : Nat} {x1 : Int32} {x2 : Int32} {h h1 : ixH} (hr : ix_rc h a0 = some 2) (hd : ix_D mGr_shape 0 [some (.ref a0), some (.int x1), some (.int x2), none, none, none] [] h = some ([], h1)) : ix_M mGr_shape [.ref a0, .int x1, .int x2] h = some ([], h1) := ix_M_of (ix_ent_i kq_Gr_shape rfl hr rfl (Nat.le_of_ble_eq_true rfl) rfl) hd (ix_okrV rfl)
theorem i_Gr_size_0 : ix_nx mGr_size 0 = some (0, .aload_n 0, 1, none, [], 0) := rfl
theorem i_Gr_size_1 : ix_nx mGr_size 1 = some (1, .getfield 9, 4, none, [2, 0, 0, 0], 0) := rfl
theorem i_Gr_size_4 : ix_nx mGr_size 4 = some (0, .aload_n 0, 5, none, [], 0) := rfl
theorem i_Gr_size_5 : ix_nx mGr_size 5 = some (1, .getfield 15, 8, none, [2, 1, 0, 6], 0) := rfl
theorem i_Gr_size_8 : ix_nx mGr_size 8 = some (0, .imul, 9, none, [], 0) := rfl
theorem i_Gr_size_9 : ix_nx mGr_size 9 = some (4, .ireturn, 10, none, [], 0) := rfl
set_option maxRecDepth 20000 in
set_option maxHeartbeats 1000000 in
theorem e_Gr_size (a0 : Nat) (h : ixH) : ix_D mGr_size 0 [some (.ref a0)] [] h = (ix_gi h a0 2 0).bind fun v1 => (ix_gi h a0 2 1).bind fun v2 => some ([.int (v1 * v2)], h) := by
  refine ix_K_px kq_Gr_size i_Gr_size_0 rfl rfl ?_
  refine ix_K_gi kq_Gr_size i_Gr_size_1 rfl (fun v1 => ?_)
  refine ix_K_px kq_Gr_size i_Gr_size_4 rfl rfl ?_
  refine ix_K_gi kq_Gr_size i_Gr_size_5 rfl (fun v2 => ?_)
  refine ix_K_px kq_Gr_size i_Gr_size_8 rfl rfl ?_
  exact ix_D_ret kq_Gr_size i_Gr_size_9 (ix_rtI rfl _)
theorem x_Gr_size {a0 : Nat} {h h1 : ixH} {v : Int32} (hr : ix_rc h a0 = some 2) (hd : ix_D mGr_size 0 [some (.ref a0)] [] h = some ([.int v], h1)) : ix_M mGr_size [.ref a0] h = some ([.int v], h1) := ix_M_of (ix_ent_i kq_Gr_size rfl hr rfl (Nat.le_of_ble_eq_true rfl) rfl) hd (ix_okrI (Or.inl rfl) v)
theorem i_Gr_has_0 : ix_nx mGr_has 0 = some (0, .iload_n 1, 1, none, [], 0) := rfl
theorem i_Gr_has_1 : ix_nx mGr_has 1 = some (0, .ifCond .lt 20, 4, none, [], 0) := rfl
theorem i_Gr_has_4 : ix_nx mGr_has 4 = some (0, .iload_n 1, 5, none, [], 0) := rfl
theorem i_Gr_has_5 : ix_nx mGr_has 5 = some (0, .aload_n 0, 6, none, [], 0) := rfl
theorem i_Gr_has_6 : ix_nx mGr_has 6 = some (1, .getfield 9, 9, none, [2, 0, 0, 0], 0) := rfl
theorem i_Gr_has_9 : ix_nx mGr_has 9 = some (0, .aload_n 0, 10, none, [], 0) := rfl
theorem i_Gr_has_10 : ix_nx mGr_has 10 = some (1, .getfield 15, 13, none, [2, 1, 0, 6], 0) := rfl
theorem i_Gr_has_13 : ix_nx mGr_has 13 = some (0, .imul, 14, none, [], 0) := rfl
theorem i_Gr_has_14 : ix_nx mGr_has 14 = some (0, .if_icmp .ge 7, 17, none, [], 0) := rfl
theorem i_Gr_has_17 : ix_nx mGr_has 17 = some (0, .iconst 1, 18, none, [], 0) := rfl
theorem i_Gr_has_18 : ix_nx mGr_has 18 = some (0, .goto 4, 21, none, [], 0) := rfl
theorem i_Gr_has_21 : ix_nx mGr_has 21 = some (0, .iconst 0, 22, none, [], 0) := rfl
theorem i_Gr_has_22 : ix_nx mGr_has 22 = some (4, .ireturn, 23, none, [], 0) := rfl
set_option maxRecDepth 20000 in
set_option maxHeartbeats 1000000 in
theorem e_Gr_has (a0 : Nat) (x1 : Int32) (h : ixH) : ix_D mGr_has 0 [some (.ref a0), some (.int x1)] [] h = if x1 < 0 then some ([.int (ix_bi false)], h) else (ix_gi h a0 2 0).bind fun v1 => (ix_gi h a0 2 1).bind fun v2 => if (v1 * v2) ≤ x1 then some ([.int (ix_bi false)], h) else some ([.int (ix_bi true)], h) := by
  refine ix_K_px kq_Gr_has i_Gr_has_0 rfl rfl ?_
  refine ix_K_if_lt (tgt := 21) kq_Gr_has i_Gr_has_1 rfl (by decide) ?_ ?_
  · refine ix_K_ci kq_Gr_has i_Gr_has_21 rfl kci_0 ?_
    exact ix_D_ret kq_Gr_has i_Gr_has_22 (ix_rtZ rfl false)
  · refine ix_K_px kq_Gr_has i_Gr_has_4 rfl rfl ?_
    refine ix_K_px kq_Gr_has i_Gr_has_5 rfl rfl ?_
    refine ix_K_gi kq_Gr_has i_Gr_has_6 rfl (fun v1 => ?_)
    refine ix_K_px kq_Gr_has i_Gr_has_9 rfl rfl ?_
    refine ix_K_gi kq_Gr_has i_Gr_has_10 rfl (fun v2 => ?_)
    refine ix_K_px kq_Gr_has i_Gr_has_13 rfl rfl ?_
    refine ix_K_ic_ge (tgt := 21) kq_Gr_has i_Gr_has_14 rfl (by decide) ?_ ?_
    · refine ix_K_ci kq_Gr_has i_Gr_has_21 rfl kci_0 ?_
      exact ix_D_ret kq_Gr_has i_Gr_has_22 (ix_rtZ rfl false)
    · refine ix_K_ci kq_Gr_has i_Gr_has_17 rfl kci_1 ?_
      refine ix_K_goto (tgt := 22) kq_Gr_has i_Gr_has_18 rfl (by decide) ?_
      exact ix_D_ret kq_Gr_has i_Gr_has_22 (ix_rtZ rfl true)
theorem x_Gr_has {a0 : Nat} {x1 : Int32} {h h1 : ixH} {v : Bool} (hr : ix_rc h a0 = some 2) (hd : ix_D mGr_has 0 [some (.ref a0), some (.int x1)] [] h = some ([.int (ix_bi v)], h1)) : ix_M mGr_has [.ref a0, .int x1] h = some ([.int (ix_bi v)], h1) := ix_M_of (ix_ent_i kq_Gr_has rfl hr rfl (Nat.le_of_ble_eq_true rfl) rfl) hd (ix_okrZ rfl v)
theorem i_Gr_roleOf_0 : ix_nx mGr_roleOf 0 = some (0, .iconst 1, 1, none, [], 0) := rfl
theorem i_Gr_roleOf_1 : ix_nx mGr_roleOf 1 = some (0, .istore_n 2, 2, none, [], 0) := rfl
theorem i_Gr_roleOf_2 : ix_nx mGr_roleOf 2 = some (0, .iload_n 2, 3, some [true, true, true], [], 0) := rfl
theorem i_Gr_roleOf_3 : ix_nx mGr_roleOf 3 = some (0, .iconst 4, 4, none, [], 0) := rfl
theorem i_Gr_roleOf_4 : ix_nx mGr_roleOf 4 = some (0, .if_icmp .ge 24, 7, none, [], 0) := rfl
theorem i_Gr_roleOf_7 : ix_nx mGr_roleOf 7 = some (0, .aload_n 0, 8, none, [], 0) := rfl
theorem i_Gr_roleOf_8 : ix_nx mGr_roleOf 8 = some (1, .getfield 31, 11, none, [2, 6, 2, 20], 0) := rfl
theorem i_Gr_roleOf_11 : ix_nx mGr_roleOf 11 = some (0, .iload_n 2, 12, none, [], 0) := rfl
theorem i_Gr_roleOf_12 : ix_nx mGr_roleOf 12 = some (1, .laload, 13, none, [], 0) := rfl
theorem i_Gr_roleOf_13 : ix_nx mGr_roleOf 13 = some (0, .iload_n 1, 14, none, [], 0) := rfl
theorem i_Gr_roleOf_14 : ix_nx mGr_roleOf 14 = some (3, .invokestatic 52, 17, none, [3, 8, 85], 0) := rfl
theorem i_Gr_roleOf_17 : ix_nx mGr_roleOf 17 = some (0, .ifCond .eq 5, 20, none, [], 0) := rfl
theorem i_Gr_roleOf_20 : ix_nx mGr_roleOf 20 = some (0, .iload_n 2, 21, none, [], 0) := rfl
theorem i_Gr_roleOf_21 : ix_nx mGr_roleOf 21 = some (4, .ireturn, 22, none, [], 0) := rfl
theorem i_Gr_roleOf_22 : ix_nx mGr_roleOf 22 = some (0, .iinc 2 1, 25, none, [], 0) := rfl
theorem i_Gr_roleOf_25 : ix_nx mGr_roleOf 25 = some (0, .goto (-23), 28, none, [], 0) := rfl
theorem i_Gr_roleOf_28 : ix_nx mGr_roleOf 28 = some (0, .iconst 0, 29, none, [], 0) := rfl
theorem i_Gr_roleOf_29 : ix_nx mGr_roleOf 29 = some (4, .ireturn, 30, none, [], 0) := rfl
noncomputable def l_Gr_roleOf_2 (a0 : Nat) (x1 : Int32) (x2 : Int32) (h : ixH) : Option (List Value × ixH) := ix_D mGr_roleOf 2 [some (.ref a0), some (.int x1), some (.int x2)] [] h
set_option maxRecDepth 20000 in
set_option maxHeartbeats 1000000 in
theorem e_Gr_roleOf_2 (a0 : Nat) (x1 : Int32) (x2 : Int32) (h : ixH) : l_Gr_roleOf_2 a0 x1 x2 h = if 4 ≤ x2 then some ([.int 0], h) else (ix_gr h a0 2 6).bind fun v1 => (ix_al h v1 x2).bind fun v2 => (ix_M mRP_holds [.long v2, .int x1] h).bind fun r => ix_kZ r fun v4 h3 => if v4 = true then some ([.int x2], h3) else l_Gr_roleOf_2 a0 x1 (x2 + 1) h3 := by
  unfold l_Gr_roleOf_2
  refine ix_K_px kq_Gr_roleOf i_Gr_roleOf_2 rfl rfl ?_
  refine ix_K_ci kq_Gr_roleOf i_Gr_roleOf_3 rfl kci_4 ?_
  refine ix_K_ic_ge (tgt := 28) kq_Gr_roleOf i_Gr_roleOf_4 rfl (by decide) ?_ ?_
  · refine ix_K_ci kq_Gr_roleOf i_Gr_roleOf_28 rfl kci_0 ?_
    exact ix_D_ret kq_Gr_roleOf i_Gr_roleOf_29 (ix_rtI rfl _)
  · refine ix_K_px kq_Gr_roleOf i_Gr_roleOf_7 rfl rfl ?_
    refine ix_K_gr kq_Gr_roleOf i_Gr_roleOf_8 rfl (fun v1 => ?_)
    refine ix_K_px kq_Gr_roleOf i_Gr_roleOf_11 rfl rfl ?_
    refine ix_K_al kq_Gr_roleOf i_Gr_roleOf_12 rfl (fun v2 => ?_)
    refine ix_K_px kq_Gr_roleOf i_Gr_roleOf_13 rfl rfl ?_
    refine ix_K_callZ (as := [.long v2, .int x1]) (rest := []) kq_Gr_roleOf i_Gr_roleOf_14 rfl kq_RP_holds (by decide) rfl rfl (fun v4 h3 => ?_)
    refine ix_K_bz_eq (tgt := 22) kq_Gr_roleOf i_Gr_roleOf_17 rfl (by decide) ?_ ?_
    · refine ix_K_px kq_Gr_roleOf i_Gr_roleOf_20 rfl rfl ?_
      exact ix_D_ret kq_Gr_roleOf i_Gr_roleOf_21 (ix_rtI rfl _)
    · refine ix_K_inc (L2 := [some (.ref a0), some (.int x1), some (.int (x2 + 1))]) kq_Gr_roleOf i_Gr_roleOf_22 rfl rfl (Nat.le_of_ble_eq_true rfl) kci_1 rfl ?_
      refine ix_K_goto (tgt := 2) kq_Gr_roleOf i_Gr_roleOf_25 rfl (by decide) ?_
      exact ix_D_cut i_Gr_roleOf_2 rfl
set_option maxRecDepth 20000 in
set_option maxHeartbeats 1000000 in
theorem e_Gr_roleOf (a0 : Nat) (x1 : Int32) (h : ixH) : ix_D mGr_roleOf 0 [some (.ref a0), some (.int x1), none] [] h = l_Gr_roleOf_2 a0 x1 1 h := by
  refine ix_K_ci kq_Gr_roleOf i_Gr_roleOf_0 rfl kci_1 ?_
  refine ix_K_si (L2 := [some (.ref a0), some (.int x1), some (.int 1)]) kq_Gr_roleOf i_Gr_roleOf_1 rfl (Or.inr ⟨_, rfl, rfl⟩) (Nat.le_of_ble_eq_true rfl) rfl ?_
  exact ix_D_cut i_Gr_roleOf_2 rfl
theorem x_Gr_roleOf {a0 : Nat} {x1 : Int32} {h h1 : ixH} {v : Int32} (hr : ix_rc h a0 = some 2) (hd : ix_D mGr_roleOf 0 [some (.ref a0), some (.int x1), none] [] h = some ([.int v], h1)) : ix_M mGr_roleOf [.ref a0, .int x1] h = some ([.int v], h1) := ix_M_of (ix_ent_i kq_Gr_roleOf rfl hr rfl (Nat.le_of_ble_eq_true rfl) rfl) hd (ix_okrI (Or.inl rfl) v)
theorem i_Gr_give_0 : ix_nx mGr_give 0 = some (0, .iconst 1, 1, none, [], 0) := rfl
theorem i_Gr_give_1 : ix_nx mGr_give 1 = some (0, .istore_n 3, 2, none, [], 0) := rfl
theorem i_Gr_give_2 : ix_nx mGr_give 2 = some (0, .iload_n 3, 3, some [true, true, true, true], [], 0) := rfl
theorem i_Gr_give_3 : ix_nx mGr_give 3 = some (0, .iconst 4, 4, none, [], 0) := rfl
theorem i_Gr_give_4 : ix_nx mGr_give 4 = some (0, .if_icmp .ge 44, 7, none, [], 0) := rfl
theorem i_Gr_give_7 : ix_nx mGr_give 7 = some (0, .aload_n 0, 8, none, [], 0) := rfl
theorem i_Gr_give_8 : ix_nx mGr_give 8 = some (1, .getfield 31, 11, none, [2, 6, 2, 20], 0) := rfl
theorem i_Gr_give_11 : ix_nx mGr_give 11 = some (0, .iload_n 3, 12, none, [], 0) := rfl
theorem i_Gr_give_12 : ix_nx mGr_give 12 = some (0, .dup2, 13, none, [], 0) := rfl
theorem i_Gr_give_13 : ix_nx mGr_give 13 = some (1, .laload, 14, none, [], 0) := rfl
theorem i_Gr_give_14 : ix_nx mGr_give 14 = some (0, .iload_n 1, 15, none, [], 0) := rfl
theorem i_Gr_give_15 : ix_nx mGr_give 15 = some (3, .invokestatic 38, 18, none, [3, 1, 84], 0) := rfl
theorem i_Gr_give_18 : ix_nx mGr_give 18 = some (0, .ldc2_w 42, 21, none, [0], -1) := rfl
theorem i_Gr_give_21 : ix_nx mGr_give 21 = some (0, .lxor, 22, none, [], 0) := rfl
theorem i_Gr_give_22 : ix_nx mGr_give 22 = some (0, .land, 23, none, [], 0) := rfl
theorem i_Gr_give_23 : ix_nx mGr_give 23 = some (2, .lastore, 24, none, [], 0) := rfl
theorem i_Gr_give_24 : ix_nx mGr_give 24 = some (0, .iload_n 3, 25, none, [], 0) := rfl
theorem i_Gr_give_25 : ix_nx mGr_give 25 = some (0, .iload_n 2, 26, none, [], 0) := rfl
theorem i_Gr_give_26 : ix_nx mGr_give 26 = some (0, .if_icmp .ne 16, 29, none, [], 0) := rfl
theorem i_Gr_give_29 : ix_nx mGr_give 29 = some (0, .aload_n 0, 30, none, [], 0) := rfl
theorem i_Gr_give_30 : ix_nx mGr_give 30 = some (1, .getfield 31, 33, none, [2, 6, 2, 20], 0) := rfl
theorem i_Gr_give_33 : ix_nx mGr_give 33 = some (0, .iload_n 3, 34, none, [], 0) := rfl
theorem i_Gr_give_34 : ix_nx mGr_give 34 = some (0, .dup2, 35, none, [], 0) := rfl
theorem i_Gr_give_35 : ix_nx mGr_give 35 = some (1, .laload, 36, none, [], 0) := rfl
theorem i_Gr_give_36 : ix_nx mGr_give 36 = some (0, .iload_n 1, 37, none, [], 0) := rfl
theorem i_Gr_give_37 : ix_nx mGr_give 37 = some (3, .invokestatic 38, 40, none, [3, 1, 84], 0) := rfl
theorem i_Gr_give_40 : ix_nx mGr_give 40 = some (0, .lor, 41, none, [], 0) := rfl
theorem i_Gr_give_41 : ix_nx mGr_give 41 = some (2, .lastore, 42, none, [], 0) := rfl
theorem i_Gr_give_42 : ix_nx mGr_give 42 = some (0, .iinc 3 1, 45, none, [], 0) := rfl
theorem i_Gr_give_45 : ix_nx mGr_give 45 = some (0, .goto (-43), 48, none, [], 0) := rfl
theorem i_Gr_give_48 : ix_nx mGr_give 48 = some (4, .return_, 49, none, [], 0) := rfl
noncomputable def l_Gr_give_2 (a0 : Nat) (x1 : Int32) (x2 : Int32) (x3 : Int32) (h : ixH) : Option (List Value × ixH) := ix_D mGr_give 2 [some (.ref a0), some (.int x1), some (.int x2), some (.int x3)] [] h
set_option maxRecDepth 20000 in
set_option maxHeartbeats 1000000 in
theorem e_Gr_give_2 (a0 : Nat) (x1 : Int32) (x2 : Int32) (x3 : Int32) (h : ixH) : l_Gr_give_2 a0 x1 x2 x3 h = if 4 ≤ x3 then some ([], h) else (ix_gr h a0 2 6).bind fun v1 => (ix_al h v1 x3).bind fun v2 => (ix_M mRP_bit [.int x1] h).bind fun r => ix_kL r fun v4 h3 => (ix_sl h3 v1 x3 (v2 &&& (v4 ^^^ (-1)))).bind fun h5 => if ¬ x3 = x2 then l_Gr_give_2 a0 x1 x2 (x3 + 1) h5 else (ix_gr h5 a0 2 6).bind fun v6 => (ix_al h5 v6 x3).bind fun v7 => (ix_M mRP_bit [.int x1] h5).bind fun r => ix_kL r fun v9 h8 => (ix_sl h8 v6 x3 (v7 ||| v9)).bind fun h10 => l_Gr_give_2 a0 x1 x2 (x3 + 1) h10 := by
  unfold l_Gr_give_2
  refine ix_K_px kq_Gr_give i_Gr_give_2 rfl rfl ?_
  refine ix_K_ci kq_Gr_give i_Gr_give_3 rfl kci_4 ?_
  refine ix_K_ic_ge (tgt := 48) kq_Gr_give i_Gr_give_4 rfl (by decide) ?_ ?_
  · exact ix_D_ret kq_Gr_give i_Gr_give_48 (ix_rtV rfl)
  · refine ix_K_px kq_Gr_give i_Gr_give_7 rfl rfl ?_
    refine ix_K_gr kq_Gr_give i_Gr_give_8 rfl (fun v1 => ?_)
    refine ix_K_px kq_Gr_give i_Gr_give_11 rfl rfl ?_
    refine ix_K_px kq_Gr_give i_Gr_give_12 rfl rfl ?_
    refine ix_K_al kq_Gr_give i_Gr_give_13 rfl (fun v2 => ?_)
    refine ix_K_px kq_Gr_give i_Gr_give_14 rfl rfl ?_
    refine ix_K_callL (as := [.int x1]) (rest := [.long v2, .int x3, .ref v1]) kq_Gr_give i_Gr_give_15 rfl kq_RP_bit (by decide) rfl rfl (fun v4 h3 => ?_)
    refine ix_K_c2 kq_Gr_give i_Gr_give_18 rfl kc2_m1 ?_
    refine ix_K_px kq_Gr_give i_Gr_give_21 rfl rfl ?_
    refine ix_K_px kq_Gr_give i_Gr_give_22 rfl rfl ?_
    refine ix_K_tl kq_Gr_give i_Gr_give_23 rfl (fun h5 => ?_)
    refine ix_K_px kq_Gr_give i_Gr_give_24 rfl rfl ?_
    refine ix_K_px kq_Gr_give i_Gr_give_25 rfl rfl ?_
    refine ix_K_ic_ne (tgt := 42) kq_Gr_give i_Gr_give_26 rfl (by decide) ?_ ?_
    · refine ix_K_inc (L2 := [some (.ref a0), some (.int x1), some (.int x2), some (.int (x3 + 1))]) kq_Gr_give i_Gr_give_42 rfl rfl (Nat.le_of_ble_eq_true rfl) kci_1 rfl ?_
      refine ix_K_goto (tgt := 2) kq_Gr_give i_Gr_give_45 rfl (by decide) ?_
      exact ix_D_cut i_Gr_give_2 rfl
    · refine ix_K_px kq_Gr_give i_Gr_give_29 rfl rfl ?_
      refine ix_K_gr kq_Gr_give i_Gr_give_30 rfl (fun v6 => ?_)
      refine ix_K_px kq_Gr_give i_Gr_give_33 rfl rfl ?_
      refine ix_K_px kq_Gr_give i_Gr_give_34 rfl rfl ?_
      refine ix_K_al kq_Gr_give i_Gr_give_35 rfl (fun v7 => ?_)
      refine ix_K_px kq_Gr_give i_Gr_give_36 rfl rfl ?_
      refine ix_K_callL (as := [.int x1]) (rest := [.long v7, .int x3, .ref v6]) kq_Gr_give i_Gr_give_37 rfl kq_RP_bit (by decide) rfl rfl (fun v9 h8 => ?_)
      refine ix_K_px kq_Gr_give i_Gr_give_40 rfl rfl ?_
      refine ix_K_tl kq_Gr_give i_Gr_give_41 rfl (fun h10 => ?_)
      refine ix_K_inc (L2 := [some (.ref a0), some (.int x1), some (.int x2), some (.int (x3 + 1))]) kq_Gr_give i_Gr_give_42 rfl rfl (Nat.le_of_ble_eq_true rfl) kci_1 rfl ?_
      refine ix_K_goto (tgt := 2) kq_Gr_give i_Gr_give_45 rfl (by decide) ?_
      exact ix_D_cut i_Gr_give_2 rfl
set_option maxRecDepth 20000 in
set_option maxHeartbeats 1000000 in
theorem e_Gr_give (a0 : Nat) (x1 : Int32) (x2 : Int32) (h : ixH) : ix_D mGr_give 0 [some (.ref a0), some (.int x1), some (.int x2), none] [] h = l_Gr_give_2 a0 x1 x2 1 h := by
  refine ix_K_ci kq_Gr_give i_Gr_give_0 rfl kci_1 ?_
  refine ix_K_si (L2 := [some (.ref a0), some (.int x1), some (.int x2), some (.int 1)]) kq_Gr_give i_Gr_give_1 rfl (Or.inr ⟨_, rfl, rfl⟩) (Nat.le_of_ble_eq_true rfl) rfl ?_
  exact ix_D_cut i_Gr_give_2 rfl
theorem x_Gr_give {a0 : Nat} {x1 : Int32} {x2 : Int32} {h h1 : ixH} (hr : ix_rc h a0 = some 2) (hd : ix_D mGr_give 0 [some (.ref a0), some (.int x1), some (.int x2), none] [] h = some ([], h1)) : ix_M mGr_give [.ref a0, .int x1, .int x2] h = some ([], h1) := ix_M_of (ix_ent_i kq_Gr_give rfl hr rfl (Nat.le_of_ble_eq_true rfl) rfl) hd (ix_okrV rfl)
theorem i_Gr_leversOf_0 : ix_nx mGr_leversOf 0 = some (0, .iconst 0, 1, none, [], 0) := rfl
theorem i_Gr_leversOf_1 : ix_nx mGr_leversOf 1 = some (0, .istore_n 2, 2, none, [], 0) := rfl
theorem i_Gr_leversOf_2 : ix_nx mGr_leversOf 2 = some (0, .iconst 0, 3, none, [], 0) := rfl
theorem i_Gr_leversOf_3 : ix_nx mGr_leversOf 3 = some (0, .istore_n 3, 4, none, [], 0) := rfl
theorem i_Gr_leversOf_4 : ix_nx mGr_leversOf 4 = some (0, .iload_n 3, 5, some [true, true, true, true], [], 0) := rfl
theorem i_Gr_leversOf_5 : ix_nx mGr_leversOf 5 = some (0, .iconst 4, 6, none, [], 0) := rfl
theorem i_Gr_leversOf_6 : ix_nx mGr_leversOf 6 = some (0, .if_icmp .ge 28, 9, none, [], 0) := rfl
theorem i_Gr_leversOf_9 : ix_nx mGr_leversOf 9 = some (0, .aload_n 0, 10, none, [], 0) := rfl
theorem i_Gr_leversOf_10 : ix_nx mGr_leversOf 10 = some (1, .getfield 35, 13, none, [2, 7, 2, 22], 0) := rfl
theorem i_Gr_leversOf_13 : ix_nx mGr_leversOf 13 = some (0, .iload_n 3, 14, none, [], 0) := rfl
theorem i_Gr_leversOf_14 : ix_nx mGr_leversOf 14 = some (1, .laload, 15, none, [], 0) := rfl
theorem i_Gr_leversOf_15 : ix_nx mGr_leversOf 15 = some (0, .iload_n 1, 16, none, [], 0) := rfl
theorem i_Gr_leversOf_16 : ix_nx mGr_leversOf 16 = some (3, .invokestatic 52, 19, none, [3, 8, 85], 0) := rfl
theorem i_Gr_leversOf_19 : ix_nx mGr_leversOf 19 = some (0, .ifCond .eq 9, 22, none, [], 0) := rfl
theorem i_Gr_leversOf_22 : ix_nx mGr_leversOf 22 = some (0, .iload_n 2, 23, none, [], 0) := rfl
theorem i_Gr_leversOf_23 : ix_nx mGr_leversOf 23 = some (0, .iconst 1, 24, none, [], 0) := rfl
theorem i_Gr_leversOf_24 : ix_nx mGr_leversOf 24 = some (0, .iload_n 3, 25, none, [], 0) := rfl
theorem i_Gr_leversOf_25 : ix_nx mGr_leversOf 25 = some (0, .ishl, 26, none, [], 0) := rfl
theorem i_Gr_leversOf_26 : ix_nx mGr_leversOf 26 = some (0, .ior, 27, none, [], 0) := rfl
theorem i_Gr_leversOf_27 : ix_nx mGr_leversOf 27 = some (0, .istore_n 2, 28, none, [], 0) := rfl
theorem i_Gr_leversOf_28 : ix_nx mGr_leversOf 28 = some (0, .iinc 3 1, 31, none, [], 0) := rfl
theorem i_Gr_leversOf_31 : ix_nx mGr_leversOf 31 = some (0, .goto (-27), 34, none, [], 0) := rfl
theorem i_Gr_leversOf_34 : ix_nx mGr_leversOf 34 = some (0, .iload_n 2, 35, none, [], 0) := rfl
theorem i_Gr_leversOf_35 : ix_nx mGr_leversOf 35 = some (4, .ireturn, 36, none, [], 0) := rfl
noncomputable def l_Gr_leversOf_4 (a0 : Nat) (x1 : Int32) (x2 : Int32) (x3 : Int32) (h : ixH) : Option (List Value × ixH) := ix_D mGr_leversOf 4 [some (.ref a0), some (.int x1), some (.int x2), some (.int x3)] [] h
set_option maxRecDepth 20000 in
set_option maxHeartbeats 1000000 in
theorem e_Gr_leversOf_4 (a0 : Nat) (x1 : Int32) (x2 : Int32) (x3 : Int32) (h : ixH) : l_Gr_leversOf_4 a0 x1 x2 x3 h = if 4 ≤ x3 then some ([.int x2], h) else (ix_gr h a0 2 7).bind fun v1 => (ix_al h v1 x3).bind fun v2 => (ix_M mRP_holds [.long v2, .int x1] h).bind fun r => ix_kZ r fun v4 h3 => if v4 = true then l_Gr_leversOf_4 a0 x1 (x2 ||| (ix_ishl 1 x3)) (x3 + 1) h3 else l_Gr_leversOf_4 a0 x1 x2 (x3 + 1) h3 := by
  unfold l_Gr_leversOf_4
  refine ix_K_px kq_Gr_leversOf i_Gr_leversOf_4 rfl rfl ?_
  refine ix_K_ci kq_Gr_leversOf i_Gr_leversOf_5 rfl kci_4 ?_
  refine ix_K_ic_ge (tgt := 34) kq_Gr_leversOf i_Gr_leversOf_6 rfl (by decide) ?_ ?_
  · refine ix_K_px kq_Gr_leversOf i_Gr_leversOf_34 rfl rfl ?_
    exact ix_D_ret kq_Gr_leversOf i_Gr_leversOf_35 (ix_rtI rfl _)
  · refine ix_K_px kq_Gr_leversOf i_Gr_leversOf_9 rfl rfl ?_
    refine ix_K_gr kq_Gr_leversOf i_Gr_leversOf_10 rfl (fun v1 => ?_)
    refine ix_K_px kq_Gr_leversOf i_Gr_leversOf_13 rfl rfl ?_
    refine ix_K_al kq_Gr_leversOf i_Gr_leversOf_14 rfl (fun v2 => ?_)
    refine ix_K_px kq_Gr_leversOf i_Gr_leversOf_15 rfl rfl ?_
    refine ix_K_callZ (as := [.long v2, .int x1]) (rest := []) kq_Gr_leversOf i_Gr_leversOf_16 rfl kq_RP_holds (by decide) rfl rfl (fun v4 h3 => ?_)
    refine ix_K_bz_eq (tgt := 28) kq_Gr_leversOf i_Gr_leversOf_19 rfl (by decide) ?_ ?_
    · refine ix_K_px kq_Gr_leversOf i_Gr_leversOf_22 rfl rfl ?_
      refine ix_K_ci kq_Gr_leversOf i_Gr_leversOf_23 rfl kci_1 ?_
      refine ix_K_px kq_Gr_leversOf i_Gr_leversOf_24 rfl rfl ?_
      refine ix_K_px kq_Gr_leversOf i_Gr_leversOf_25 rfl rfl ?_
      refine ix_K_px kq_Gr_leversOf i_Gr_leversOf_26 rfl rfl ?_
      refine ix_K_si (L2 := [some (.ref a0), some (.int x1), some (.int (x2 ||| (ix_ishl 1 x3))), some (.int x3)]) kq_Gr_leversOf i_Gr_leversOf_27 rfl (Or.inr ⟨_, rfl, rfl⟩) (Nat.le_of_ble_eq_true rfl) rfl ?_
      refine ix_K_inc (L2 := [some (.ref a0), some (.int x1), some (.int (x2 ||| (ix_ishl 1 x3))), some (.int (x3 + 1))]) kq_Gr_leversOf i_Gr_leversOf_28 rfl rfl (Nat.le_of_ble_eq_true rfl) kci_1 rfl ?_
      refine ix_K_goto (tgt := 4) kq_Gr_leversOf i_Gr_leversOf_31 rfl (by decide) ?_
      exact ix_D_cut i_Gr_leversOf_4 rfl
    · refine ix_K_inc (L2 := [some (.ref a0), some (.int x1), some (.int x2), some (.int (x3 + 1))]) kq_Gr_leversOf i_Gr_leversOf_28 rfl rfl (Nat.le_of_ble_eq_true rfl) kci_1 rfl ?_
      refine ix_K_goto (tgt := 4) kq_Gr_leversOf i_Gr_leversOf_31 rfl (by decide) ?_
      exact ix_D_cut i_Gr_leversOf_4 rfl
set_option maxRecDepth 20000 in
set_option maxHeartbeats 1000000 in
theorem e_Gr_leversOf (a0 : Nat) (x1 : Int32) (h : ixH) : ix_D mGr_leversOf 0 [some (.ref a0), some (.int x1), none, none] [] h = l_Gr_leversOf_4 a0 x1 0 0 h := by
  refine ix_K_ci kq_Gr_leversOf i_Gr_leversOf_0 rfl kci_0 ?_
  refine ix_K_si (L2 := [some (.ref a0), some (.int x1), some (.int 0), none]) kq_Gr_leversOf i_Gr_leversOf_1 rfl (Or.inr ⟨_, rfl, rfl⟩) (Nat.le_of_ble_eq_true rfl) rfl ?_
  refine ix_K_ci kq_Gr_leversOf i_Gr_leversOf_2 rfl kci_0 ?_
  refine ix_K_si (L2 := [some (.ref a0), some (.int x1), some (.int 0), some (.int 0)]) kq_Gr_leversOf i_Gr_leversOf_3 rfl (Or.inr ⟨_, rfl, rfl⟩) (Nat.le_of_ble_eq_true rfl) rfl ?_
  exact ix_D_cut i_Gr_leversOf_4 rfl
theorem x_Gr_leversOf {a0 : Nat} {x1 : Int32} {h h1 : ixH} {v : Int32} (hr : ix_rc h a0 = some 2) (hd : ix_D mGr_leversOf 0 [some (.ref a0), some (.int x1), none, none] [] h = some ([.int v], h1)) : ix_M mGr_leversOf [.ref a0, .int x1] h = some ([.int v], h1) := ix_M_of (ix_ent_i kq_Gr_leversOf rfl hr rfl (Nat.le_of_ble_eq_true rfl) rfl) hd (ix_okrI (Or.inl rfl) v)
theorem i_Gr_around_0 : ix_nx mGr_around 0 = some (0, .aload_n 0, 1, none, [], 0) := rfl
theorem i_Gr_around_1 : ix_nx mGr_around 1 = some (0, .lload_n 1, 2, none, [], 0) := rfl
theorem i_Gr_around_2 : ix_nx mGr_around 2 = some (3, .invokevirtual 56, 5, none, [0, 68, 86], 0) := rfl
theorem i_Gr_around_5 : ix_nx mGr_around 5 = some (0, .aload_n 0, 6, none, [], 0) := rfl
theorem i_Gr_around_6 : ix_nx mGr_around 6 = some (0, .lload_n 1, 7, none, [], 0) := rfl
theorem i_Gr_around_7 : ix_nx mGr_around 7 = some (3, .invokevirtual 60, 10, none, [0, 69, 87], 0) := rfl
theorem i_Gr_around_10 : ix_nx mGr_around 10 = some (0, .lor, 11, none, [], 0) := rfl
theorem i_Gr_around_11 : ix_nx mGr_around 11 = some (4, .lreturn, 12, none, [], 0) := rfl
set_option maxRecDepth 20000 in
set_option maxHeartbeats 1000000 in
theorem e_Gr_around (a0 : Nat) (x1 : Int64) (h : ixH) : ix_D mGr_around 0 [some (.ref a0), some (.long x1), none] [] h = (ix_M mGr_fall [.ref a0, .long x1] h).bind fun r => ix_kL r fun v2 h1 => (ix_M mGr_rise [.ref a0, .long x1] h1).bind fun r => ix_kL r fun v4 h3 => some ([.long (v2 ||| v4)], h3) := by
  refine ix_K_px kq_Gr_around i_Gr_around_0 rfl rfl ?_
  refine ix_K_px kq_Gr_around i_Gr_around_1 rfl rfl ?_
  refine ix_K_callL (as := [.ref a0, .long x1]) (rest := []) kq_Gr_around i_Gr_around_2 rfl kq_Gr_fall (by decide) rfl rfl (fun v2 h1 => ?_)
  refine ix_K_px kq_Gr_around i_Gr_around_5 rfl rfl ?_
  refine ix_K_px kq_Gr_around i_Gr_around_6 rfl rfl ?_
  refine ix_K_callL (as := [.ref a0, .long x1]) (rest := [.long v2]) kq_Gr_around i_Gr_around_7 rfl kq_Gr_rise (by decide) rfl rfl (fun v4 h3 => ?_)
  refine ix_K_px kq_Gr_around i_Gr_around_10 rfl rfl ?_
  exact ix_D_ret kq_Gr_around i_Gr_around_11 (ix_rtL rfl _)
theorem x_Gr_around {a0 : Nat} {x1 : Int64} {h h1 : ixH} {v : Int64} (hr : ix_rc h a0 = some 2) (hd : ix_D mGr_around 0 [some (.ref a0), some (.long x1), none] [] h = some ([.long v], h1)) : ix_M mGr_around [.ref a0, .long x1] h = some ([.long v], h1) := ix_M_of (ix_ent_i kq_Gr_around rfl hr rfl (Nat.le_of_ble_eq_true rfl) rfl) hd (ix_okrL rfl v)
theorem i_Gr_fall_0 : ix_nx mGr_fall 0 = some (0, .lload_n 1, 1, none, [], 0) := rfl
theorem i_Gr_fall_1 : ix_nx mGr_fall 1 = some (0, .aload_n 0, 2, none, [], 0) := rfl
theorem i_Gr_fall_2 : ix_nx mGr_fall 2 = some (1, .getfield 25, 5, none, [2, 4, 1, 15], 0) := rfl
theorem i_Gr_fall_5 : ix_nx mGr_fall 5 = some (0, .land, 6, none, [], 0) := rfl
theorem i_Gr_fall_6 : ix_nx mGr_fall 6 = some (0, .iconst 1, 7, none, [], 0) := rfl
theorem i_Gr_fall_7 : ix_nx mGr_fall 7 = some (0, .lshl, 8, none, [], 0) := rfl
theorem i_Gr_fall_8 : ix_nx mGr_fall 8 = some (0, .lload_n 1, 9, none, [], 0) := rfl
theorem i_Gr_fall_9 : ix_nx mGr_fall 9 = some (0, .aload_n 0, 10, none, [], 0) := rfl
theorem i_Gr_fall_10 : ix_nx mGr_fall 10 = some (1, .getfield 9, 13, none, [2, 0, 0, 0], 0) := rfl
theorem i_Gr_fall_13 : ix_nx mGr_fall 13 = some (0, .lshl, 14, none, [], 0) := rfl
theorem i_Gr_fall_14 : ix_nx mGr_fall 14 = some (0, .aload_n 0, 15, none, [], 0) := rfl
theorem i_Gr_fall_15 : ix_nx mGr_fall 15 = some (1, .getfield 18, 18, none, [2, 2, 1, 9], 0) := rfl
theorem i_Gr_fall_18 : ix_nx mGr_fall 18 = some (0, .land, 19, none, [], 0) := rfl
theorem i_Gr_fall_19 : ix_nx mGr_fall 19 = some (0, .lor, 20, none, [], 0) := rfl
theorem i_Gr_fall_20 : ix_nx mGr_fall 20 = some (4, .lreturn, 21, none, [], 0) := rfl
set_option maxRecDepth 20000 in
set_option maxHeartbeats 1000000 in
theorem e_Gr_fall (a0 : Nat) (x1 : Int64) (h : ixH) : ix_D mGr_fall 0 [some (.ref a0), some (.long x1), none] [] h = (ix_gl h a0 2 4).bind fun v1 => (ix_gi h a0 2 0).bind fun v2 => (ix_gl h a0 2 2).bind fun v3 => some ([.long ((ix_shl (x1 &&& v1) 1) ||| ((ix_shl x1 v2) &&& v3))], h) := by
  refine ix_K_px kq_Gr_fall i_Gr_fall_0 rfl rfl ?_
  refine ix_K_px kq_Gr_fall i_Gr_fall_1 rfl rfl ?_
  refine ix_K_gl kq_Gr_fall i_Gr_fall_2 rfl (fun v1 => ?_)
  refine ix_K_px kq_Gr_fall i_Gr_fall_5 rfl rfl ?_
  refine ix_K_ci kq_Gr_fall i_Gr_fall_6 rfl kci_1 ?_
  refine ix_K_px kq_Gr_fall i_Gr_fall_7 rfl rfl ?_
  refine ix_K_px kq_Gr_fall i_Gr_fall_8 rfl rfl ?_
  refine ix_K_px kq_Gr_fall i_Gr_fall_9 rfl rfl ?_
  refine ix_K_gi kq_Gr_fall i_Gr_fall_10 rfl (fun v2 => ?_)
  refine ix_K_px kq_Gr_fall i_Gr_fall_13 rfl rfl ?_
  refine ix_K_px kq_Gr_fall i_Gr_fall_14 rfl rfl ?_
  refine ix_K_gl kq_Gr_fall i_Gr_fall_15 rfl (fun v3 => ?_)
  refine ix_K_px kq_Gr_fall i_Gr_fall_18 rfl rfl ?_
  refine ix_K_px kq_Gr_fall i_Gr_fall_19 rfl rfl ?_
  exact ix_D_ret kq_Gr_fall i_Gr_fall_20 (ix_rtL rfl _)
theorem x_Gr_fall {a0 : Nat} {x1 : Int64} {h h1 : ixH} {v : Int64} (hr : ix_rc h a0 = some 2) (hd : ix_D mGr_fall 0 [some (.ref a0), some (.long x1), none] [] h = some ([.long v], h1)) : ix_M mGr_fall [.ref a0, .long x1] h = some ([.long v], h1) := ix_M_of (ix_ent_i kq_Gr_fall rfl hr rfl (Nat.le_of_ble_eq_true rfl) rfl) hd (ix_okrL rfl v)
theorem i_Gr_rise_0 : ix_nx mGr_rise 0 = some (0, .lload_n 1, 1, none, [], 0) := rfl
theorem i_Gr_rise_1 : ix_nx mGr_rise 1 = some (0, .aload_n 0, 2, none, [], 0) := rfl
theorem i_Gr_rise_2 : ix_nx mGr_rise 2 = some (1, .getfield 22, 5, none, [2, 3, 1, 11], 0) := rfl
theorem i_Gr_rise_5 : ix_nx mGr_rise 5 = some (0, .land, 6, none, [], 0) := rfl
theorem i_Gr_rise_6 : ix_nx mGr_rise 6 = some (0, .iconst 1, 7, none, [], 0) := rfl
theorem i_Gr_rise_7 : ix_nx mGr_rise 7 = some (0, .lushr, 8, none, [], 0) := rfl
theorem i_Gr_rise_8 : ix_nx mGr_rise 8 = some (0, .lload_n 1, 9, none, [], 0) := rfl
theorem i_Gr_rise_9 : ix_nx mGr_rise 9 = some (0, .aload_n 0, 10, none, [], 0) := rfl
theorem i_Gr_rise_10 : ix_nx mGr_rise 10 = some (1, .getfield 9, 13, none, [2, 0, 0, 0], 0) := rfl
theorem i_Gr_rise_13 : ix_nx mGr_rise 13 = some (0, .lushr, 14, none, [], 0) := rfl
theorem i_Gr_rise_14 : ix_nx mGr_rise 14 = some (0, .lor, 15, none, [], 0) := rfl
theorem i_Gr_rise_15 : ix_nx mGr_rise 15 = some (4, .lreturn, 16, none, [], 0) := rfl
set_option maxRecDepth 20000 in
set_option maxHeartbeats 1000000 in
theorem e_Gr_rise (a0 : Nat) (x1 : Int64) (h : ixH) : ix_D mGr_rise 0 [some (.ref a0), some (.long x1), none] [] h = (ix_gl h a0 2 3).bind fun v1 => (ix_gi h a0 2 0).bind fun v2 => some ([.long ((ix_ush (x1 &&& v1) 1) ||| (ix_ush x1 v2))], h) := by
  refine ix_K_px kq_Gr_rise i_Gr_rise_0 rfl rfl ?_
  refine ix_K_px kq_Gr_rise i_Gr_rise_1 rfl rfl ?_
  refine ix_K_gl kq_Gr_rise i_Gr_rise_2 rfl (fun v1 => ?_)
  refine ix_K_px kq_Gr_rise i_Gr_rise_5 rfl rfl ?_
  refine ix_K_ci kq_Gr_rise i_Gr_rise_6 rfl kci_1 ?_
  refine ix_K_px kq_Gr_rise i_Gr_rise_7 rfl rfl ?_
  refine ix_K_px kq_Gr_rise i_Gr_rise_8 rfl rfl ?_
  refine ix_K_px kq_Gr_rise i_Gr_rise_9 rfl rfl ?_
  refine ix_K_gi kq_Gr_rise i_Gr_rise_10 rfl (fun v2 => ?_)
  refine ix_K_px kq_Gr_rise i_Gr_rise_13 rfl rfl ?_
  refine ix_K_px kq_Gr_rise i_Gr_rise_14 rfl rfl ?_
  exact ix_D_ret kq_Gr_rise i_Gr_rise_15 (ix_rtL rfl _)
theorem x_Gr_rise {a0 : Nat} {x1 : Int64} {h h1 : ixH} {v : Int64} (hr : ix_rc h a0 = some 2) (hd : ix_D mGr_rise 0 [some (.ref a0), some (.long x1), none] [] h = some ([.long v], h1)) : ix_M mGr_rise [.ref a0, .long x1] h = some ([.long v], h1) := ix_M_of (ix_ent_i kq_Gr_rise rfl hr rfl (Nat.le_of_ble_eq_true rfl) rfl) hd (ix_okrL rfl v)
theorem i_Gr_open_0 : ix_nx mGr_open 0 = some (0, .aload_n 0, 1, none, [], 0) := rfl
theorem i_Gr_open_1 : ix_nx mGr_open 1 = some (1, .getfield 18, 4, none, [2, 2, 1, 9], 0) := rfl
theorem i_Gr_open_4 : ix_nx mGr_open 4 = some (0, .aload_n 0, 5, none, [], 0) := rfl
theorem i_Gr_open_5 : ix_nx mGr_open 5 = some (1, .getfield 28, 8, none, [2, 5, 1, 17], 0) := rfl
theorem i_Gr_open_8 : ix_nx mGr_open 8 = some (0, .ldc2_w 42, 11, none, [0], -1) := rfl
theorem i_Gr_open_11 : ix_nx mGr_open 11 = some (0, .lxor, 12, none, [], 0) := rfl
theorem i_Gr_open_12 : ix_nx mGr_open 12 = some (0, .land, 13, none, [], 0) := rfl
theorem i_Gr_open_13 : ix_nx mGr_open 13 = some (4, .lreturn, 14, none, [], 0) := rfl
set_option maxRecDepth 20000 in
set_option maxHeartbeats 1000000 in
theorem e_Gr_open (a0 : Nat) (h : ixH) : ix_D mGr_open 0 [some (.ref a0)] [] h = (ix_gl h a0 2 2).bind fun v1 => (ix_gl h a0 2 5).bind fun v2 => some ([.long (v1 &&& (v2 ^^^ (-1)))], h) := by
  refine ix_K_px kq_Gr_open i_Gr_open_0 rfl rfl ?_
  refine ix_K_gl kq_Gr_open i_Gr_open_1 rfl (fun v1 => ?_)
  refine ix_K_px kq_Gr_open i_Gr_open_4 rfl rfl ?_
  refine ix_K_gl kq_Gr_open i_Gr_open_5 rfl (fun v2 => ?_)
  refine ix_K_c2 kq_Gr_open i_Gr_open_8 rfl kc2_m1 ?_
  refine ix_K_px kq_Gr_open i_Gr_open_11 rfl rfl ?_
  refine ix_K_px kq_Gr_open i_Gr_open_12 rfl rfl ?_
  exact ix_D_ret kq_Gr_open i_Gr_open_13 (ix_rtL rfl _)
theorem x_Gr_open {a0 : Nat} {h h1 : ixH} {v : Int64} (hr : ix_rc h a0 = some 2) (hd : ix_D mGr_open 0 [some (.ref a0)] [] h = some ([.long v], h1)) : ix_M mGr_open [.ref a0] h = some ([.long v], h1) := ix_M_of (ix_ent_i kq_Gr_open rfl hr rfl (Nat.le_of_ble_eq_true rfl) rfl) hd (ix_okrL rfl v)
theorem i_Gr_behind_0 : ix_nx mGr_behind 0 = some (0, .aload_n 0, 1, none, [], 0) := rfl
theorem i_Gr_behind_1 : ix_nx mGr_behind 1 = some (0, .iload_n 1, 2, none, [], 0) := rfl
theorem i_Gr_behind_2 : ix_nx mGr_behind 2 = some (0, .iconst 0, 3, none, [], 0) := rfl
theorem i_Gr_behind_3 : ix_nx mGr_behind 3 = some (3, .invokevirtual 63, 6, none, [0, 72, 88], 0) := rfl
theorem i_Gr_behind_6 : ix_nx mGr_behind 6 = some (4, .lreturn, 7, none, [], 0) := rfl
set_option maxRecDepth 20000 in
set_option maxHeartbeats 1000000 in
theorem e_Gr_behind (a0 : Nat) (x1 : Int32) (h : ixH) : ix_D mGr_behind 0 [some (.ref a0), some (.int x1)] [] h = (ix_M mGr_spread [.ref a0, .int x1, .int 0] h).bind fun r => ix_kL r fun v2 h1 => some ([.long v2], h1) := by
  refine ix_K_px kq_Gr_behind i_Gr_behind_0 rfl rfl ?_
  refine ix_K_px kq_Gr_behind i_Gr_behind_1 rfl rfl ?_
  refine ix_K_ci kq_Gr_behind i_Gr_behind_2 rfl kci_0 ?_
  refine ix_K_callL (as := [.ref a0, .int x1, .int 0]) (rest := []) kq_Gr_behind i_Gr_behind_3 rfl kq_Gr_spread (by decide) rfl rfl (fun v2 h1 => ?_)
  exact ix_D_ret kq_Gr_behind i_Gr_behind_6 (ix_rtL rfl _)
theorem x_Gr_behind {a0 : Nat} {x1 : Int32} {h h1 : ixH} {v : Int64} (hr : ix_rc h a0 = some 2) (hd : ix_D mGr_behind 0 [some (.ref a0), some (.int x1)] [] h = some ([.long v], h1)) : ix_M mGr_behind [.ref a0, .int x1] h = some ([.long v], h1) := ix_M_of (ix_ent_i kq_Gr_behind rfl hr rfl (Nat.le_of_ble_eq_true rfl) rfl) hd (ix_okrL rfl v)
theorem i_Gr_spread_0 : ix_nx mGr_spread 0 = some (0, .aload_n 0, 1, none, [], 0) := rfl
theorem i_Gr_spread_1 : ix_nx mGr_spread 1 = some (3, .invokevirtual 48, 4, none, [0, 70, 89], 0) := rfl
theorem i_Gr_spread_4 : ix_nx mGr_spread 4 = some (0, .lstore_n 3, 5, none, [], 0) := rfl
theorem i_Gr_spread_5 : ix_nx mGr_spread 5 = some (0, .iload_n 1, 6, none, [], 0) := rfl
theorem i_Gr_spread_6 : ix_nx mGr_spread 6 = some (3, .invokestatic 38, 9, none, [3, 1, 84], 0) := rfl
theorem i_Gr_spread_9 : ix_nx mGr_spread 9 = some (0, .lload_n 3, 10, none, [], 0) := rfl
theorem i_Gr_spread_10 : ix_nx mGr_spread 10 = some (0, .land, 11, none, [], 0) := rfl
theorem i_Gr_spread_11 : ix_nx mGr_spread 11 = some (0, .lstore 5, 13, none, [], 0) := rfl
theorem i_Gr_spread_13 : ix_nx mGr_spread 13 = some (0, .iconst 0, 14, none, [], 0) := rfl
theorem i_Gr_spread_14 : ix_nx mGr_spread 14 = some (0, .istore 7, 16, none, [], 0) := rfl
theorem i_Gr_spread_16 : ix_nx mGr_spread 16 = some (0, .iload 7, 18, some [true, false, true, true, false, true, false, true], [], 0) := rfl
theorem i_Gr_spread_18 : ix_nx mGr_spread 18 = some (0, .bipush 16, 20, none, [], 0) := rfl
theorem i_Gr_spread_20 : ix_nx mGr_spread 20 = some (0, .if_icmp .ge 35, 23, none, [], 0) := rfl
theorem i_Gr_spread_23 : ix_nx mGr_spread 23 = some (0, .lload 5, 25, none, [], 0) := rfl
theorem i_Gr_spread_25 : ix_nx mGr_spread 25 = some (0, .iload_n 2, 26, none, [], 0) := rfl
theorem i_Gr_spread_26 : ix_nx mGr_spread 26 = some (0, .ifCond .eq 12, 29, none, [], 0) := rfl
theorem i_Gr_spread_29 : ix_nx mGr_spread 29 = some (0, .aload_n 0, 30, none, [], 0) := rfl
theorem i_Gr_spread_30 : ix_nx mGr_spread 30 = some (0, .lload 5, 32, none, [], 0) := rfl
theorem i_Gr_spread_32 : ix_nx mGr_spread 32 = some (3, .invokevirtual 60, 35, none, [0, 69, 87], 0) := rfl
theorem i_Gr_spread_35 : ix_nx mGr_spread 35 = some (0, .goto 9, 38, none, [], 0) := rfl
theorem i_Gr_spread_38 : ix_nx mGr_spread 38 = some (0, .aload_n 0, 39, none, [], 0) := rfl
theorem i_Gr_spread_39 : ix_nx mGr_spread 39 = some (0, .lload 5, 41, none, [], 0) := rfl
theorem i_Gr_spread_41 : ix_nx mGr_spread 41 = some (3, .invokevirtual 56, 44, none, [0, 68, 86], 0) := rfl
theorem i_Gr_spread_44 : ix_nx mGr_spread 44 = some (0, .lload_n 3, 45, none, [], 0) := rfl
theorem i_Gr_spread_45 : ix_nx mGr_spread 45 = some (0, .land, 46, none, [], 0) := rfl
theorem i_Gr_spread_46 : ix_nx mGr_spread 46 = some (0, .lor, 47, none, [], 0) := rfl
theorem i_Gr_spread_47 : ix_nx mGr_spread 47 = some (0, .lstore 5, 49, none, [], 0) := rfl
theorem i_Gr_spread_49 : ix_nx mGr_spread 49 = some (0, .iinc 7 1, 52, none, [], 0) := rfl
theorem i_Gr_spread_52 : ix_nx mGr_spread 52 = some (0, .goto (-36), 55, none, [], 0) := rfl
theorem i_Gr_spread_55 : ix_nx mGr_spread 55 = some (0, .lload 5, 57, none, [], 0) := rfl
theorem i_Gr_spread_57 : ix_nx mGr_spread 57 = some (4, .lreturn, 58, none, [], 0) := rfl
noncomputable def l_Gr_spread_16 (a0 : Nat) (b2 : Bool) (x3 : Int64) (x5 : Int64) (x7 : Int32) (h : ixH) : Option (List Value × ixH) := ix_D mGr_spread 16 [some (.ref a0), none, some (.int (ix_bi b2)), some (.long x3), none, some (.long x5), none, some (.int x7)] [] h
set_option maxRecDepth 20000 in
set_option maxHeartbeats 1000000 in
theorem e_Gr_spread_16 (a0 : Nat) (b2 : Bool) (x3 : Int64) (x5 : Int64) (x7 : Int32) (h : ixH) : l_Gr_spread_16 a0 b2 x3 x5 x7 h = if 16 ≤ x7 then some ([.long x5], h) else if b2 = true then (ix_M mGr_rise [.ref a0, .long x5] h).bind fun r => ix_kL r fun v2 h1 => l_Gr_spread_16 a0 b2 x3 (x5 ||| (v2 &&& x3)) (x7 + 1) h1 else (ix_M mGr_fall [.ref a0, .long x5] h).bind fun r => ix_kL r fun v4 h3 => l_Gr_spread_16 a0 b2 x3 (x5 ||| (v4 &&& x3)) (x7 + 1) h3 := by
  unfold l_Gr_spread_16
  refine ix_K_px kq_Gr_spread i_Gr_spread_16 rfl rfl ?_
  refine ix_K_cb kq_Gr_spread i_Gr_spread_18 rfl kcb_16 ?_
  refine ix_K_ic_ge (tgt := 55) kq_Gr_spread i_Gr_spread_20 rfl (by decide) ?_ ?_
  · refine ix_K_px kq_Gr_spread i_Gr_spread_55 rfl rfl ?_
    exact ix_D_ret kq_Gr_spread i_Gr_spread_57 (ix_rtL rfl _)
  · refine ix_K_px kq_Gr_spread i_Gr_spread_23 rfl rfl ?_
    refine ix_K_px kq_Gr_spread i_Gr_spread_25 rfl rfl ?_
    refine ix_K_bz_eq (tgt := 38) kq_Gr_spread i_Gr_spread_26 rfl (by decide) ?_ ?_
    · refine ix_K_px kq_Gr_spread i_Gr_spread_29 rfl rfl ?_
      refine ix_K_px kq_Gr_spread i_Gr_spread_30 rfl rfl ?_
      refine ix_K_callL (as := [.ref a0, .long x5]) (rest := [.long x5]) kq_Gr_spread i_Gr_spread_32 rfl kq_Gr_rise (by decide) rfl rfl (fun v2 h1 => ?_)
      refine ix_K_goto (tgt := 44) kq_Gr_spread i_Gr_spread_35 rfl (by decide) ?_
      refine ix_K_px kq_Gr_spread i_Gr_spread_44 rfl rfl ?_
      refine ix_K_px kq_Gr_spread i_Gr_spread_45 rfl rfl ?_
      refine ix_K_px kq_Gr_spread i_Gr_spread_46 rfl rfl ?_
      refine ix_K_sl (L2 := [some (.ref a0), none, some (.int (ix_bi b2)), some (.long x3), none, some (.long (x5 ||| (v2 &&& x3))), none, some (.int x7)]) kq_Gr_spread i_Gr_spread_47 rfl (Or.inl rfl) (Nat.le_of_ble_eq_true rfl) rfl ?_
      refine ix_K_inc (L2 := [some (.ref a0), none, some (.int (ix_bi b2)), some (.long x3), none, some (.long (x5 ||| (v2 &&& x3))), none, some (.int (x7 + 1))]) kq_Gr_spread i_Gr_spread_49 rfl rfl (Nat.le_of_ble_eq_true rfl) kci_1 rfl ?_
      refine ix_K_goto (tgt := 16) kq_Gr_spread i_Gr_spread_52 rfl (by decide) ?_
      exact ix_D_cut i_Gr_spread_16 rfl
    · refine ix_K_px kq_Gr_spread i_Gr_spread_38 rfl rfl ?_
      refine ix_K_px kq_Gr_spread i_Gr_spread_39 rfl rfl ?_
      refine ix_K_callL (as := [.ref a0, .long x5]) (rest := [.long x5]) kq_Gr_spread i_Gr_spread_41 rfl kq_Gr_fall (by decide) rfl rfl (fun v4 h3 => ?_)
      refine ix_K_px kq_Gr_spread i_Gr_spread_44 rfl rfl ?_
      refine ix_K_px kq_Gr_spread i_Gr_spread_45 rfl rfl ?_
      refine ix_K_px kq_Gr_spread i_Gr_spread_46 rfl rfl ?_
      refine ix_K_sl (L2 := [some (.ref a0), none, some (.int (ix_bi b2)), some (.long x3), none, some (.long (x5 ||| (v4 &&& x3))), none, some (.int x7)]) kq_Gr_spread i_Gr_spread_47 rfl (Or.inl rfl) (Nat.le_of_ble_eq_true rfl) rfl ?_
      refine ix_K_inc (L2 := [some (.ref a0), none, some (.int (ix_bi b2)), some (.long x3), none, some (.long (x5 ||| (v4 &&& x3))), none, some (.int (x7 + 1))]) kq_Gr_spread i_Gr_spread_49 rfl rfl (Nat.le_of_ble_eq_true rfl) kci_1 rfl ?_
      refine ix_K_goto (tgt := 16) kq_Gr_spread i_Gr_spread_52 rfl (by decide) ?_
      exact ix_D_cut i_Gr_spread_16 rfl
set_option maxRecDepth 20000 in
set_option maxHeartbeats 1000000 in
theorem e_Gr_spread (a0 : Nat) (x1 : Int32) (b2 : Bool) (h : ixH) : ix_D mGr_spread 0 [some (.ref a0), some (.int x1), some (.int (ix_bi b2)), none, none, none, none, none] [] h = (ix_M mGr_open [.ref a0] h).bind fun r => ix_kL r fun v2 h1 => (ix_M mRP_bit [.int x1] h1).bind fun r => ix_kL r fun v4 h3 => l_Gr_spread_16 a0 b2 v2 (v4 &&& v2) 0 h3 := by
  refine ix_K_px kq_Gr_spread i_Gr_spread_0 rfl rfl ?_
  refine ix_K_callL (as := [.ref a0]) (rest := []) kq_Gr_spread i_Gr_spread_1 rfl kq_Gr_open (by decide) rfl rfl (fun v2 h1 => ?_)
  refine ix_K_sl (L2 := [some (.ref a0), some (.int x1), some (.int (ix_bi b2)), some (.long v2), none, none, none, none]) kq_Gr_spread i_Gr_spread_4 rfl (Or.inr ⟨_, rfl, rfl⟩) (Nat.le_of_ble_eq_true rfl) rfl ?_
  refine ix_K_px kq_Gr_spread i_Gr_spread_5 rfl rfl ?_
  refine ix_K_callL (as := [.int x1]) (rest := []) kq_Gr_spread i_Gr_spread_6 rfl kq_RP_bit (by decide) rfl rfl (fun v4 h3 => ?_)
  refine ix_K_px kq_Gr_spread i_Gr_spread_9 rfl rfl ?_
  refine ix_K_px kq_Gr_spread i_Gr_spread_10 rfl rfl ?_
  refine ix_K_sl (L2 := [some (.ref a0), some (.int x1), some (.int (ix_bi b2)), some (.long v2), none, some (.long (v4 &&& v2)), none, none]) kq_Gr_spread i_Gr_spread_11 rfl (Or.inl rfl) (Nat.le_of_ble_eq_true rfl) rfl ?_
  refine ix_K_ci kq_Gr_spread i_Gr_spread_13 rfl kci_0 ?_
  refine ix_K_si (L2 := [some (.ref a0), some (.int x1), some (.int (ix_bi b2)), some (.long v2), none, some (.long (v4 &&& v2)), none, some (.int 0)]) kq_Gr_spread i_Gr_spread_14 rfl (Or.inl rfl) (Nat.le_of_ble_eq_true rfl) rfl ?_
  exact ix_D_cut i_Gr_spread_16 rfl
theorem x_Gr_spread {a0 : Nat} {x1 : Int32} {b2 : Bool} {h h1 : ixH} {v : Int64} (hr : ix_rc h a0 = some 2) (hd : ix_D mGr_spread 0 [some (.ref a0), some (.int x1), some (.int (ix_bi b2)), none, none, none, none, none] [] h = some ([.long v], h1)) : ix_M mGr_spread [.ref a0, .int x1, .int (ix_bi b2)] h = some ([.long v], h1) := ix_M_of (ix_ent_i kq_Gr_spread rfl hr rfl (Nat.le_of_ble_eq_true rfl) rfl) hd (ix_okrL rfl v)
theorem i_Gr_openWith_0 : ix_nx mGr_openWith 0 = some (0, .iload_n 1, 1, none, [], 0) := rfl
theorem i_Gr_openWith_1 : ix_nx mGr_openWith 1 = some (0, .ifCond .lt 22, 4, none, [], 0) := rfl
theorem i_Gr_openWith_4 : ix_nx mGr_openWith 4 = some (0, .iload_n 1, 5, none, [], 0) := rfl
theorem i_Gr_openWith_5 : ix_nx mGr_openWith 5 = some (0, .iconst 4, 6, none, [], 0) := rfl
theorem i_Gr_openWith_6 : ix_nx mGr_openWith 6 = some (0, .if_icmp .ge 17, 9, none, [], 0) := rfl
theorem i_Gr_openWith_9 : ix_nx mGr_openWith 9 = some (0, .aload_n 0, 10, none, [], 0) := rfl
theorem i_Gr_openWith_10 : ix_nx mGr_openWith 10 = some (1, .getfield 31, 13, none, [2, 6, 2, 20], 0) := rfl
theorem i_Gr_openWith_13 : ix_nx mGr_openWith 13 = some (0, .iload_n 1, 14, none, [], 0) := rfl
theorem i_Gr_openWith_14 : ix_nx mGr_openWith 14 = some (1, .laload, 15, none, [], 0) := rfl
theorem i_Gr_openWith_15 : ix_nx mGr_openWith 15 = some (0, .aload_n 0, 16, none, [], 0) := rfl
theorem i_Gr_openWith_16 : ix_nx mGr_openWith 16 = some (3, .invokevirtual 48, 19, none, [0, 70, 89], 0) := rfl
theorem i_Gr_openWith_19 : ix_nx mGr_openWith 19 = some (0, .land, 20, none, [], 0) := rfl
theorem i_Gr_openWith_20 : ix_nx mGr_openWith 20 = some (0, .goto 4, 23, none, [], 0) := rfl
theorem i_Gr_openWith_23 : ix_nx mGr_openWith 23 = some (0, .lconst 0, 24, none, [], 0) := rfl
theorem i_Gr_openWith_24 : ix_nx mGr_openWith 24 = some (4, .lreturn, 25, none, [], 0) := rfl
set_option maxRecDepth 20000 in
set_option maxHeartbeats 1000000 in
theorem e_Gr_openWith (a0 : Nat) (x1 : Int32) (h : ixH) : ix_D mGr_openWith 0 [some (.ref a0), some (.int x1)] [] h = if x1 < 0 then some ([.long 0], h) else if 4 ≤ x1 then some ([.long 0], h) else (ix_gr h a0 2 6).bind fun v1 => (ix_al h v1 x1).bind fun v2 => (ix_M mGr_open [.ref a0] h).bind fun r => ix_kL r fun v4 h3 => some ([.long (v2 &&& v4)], h3) := by
  refine ix_K_px kq_Gr_openWith i_Gr_openWith_0 rfl rfl ?_
  refine ix_K_if_lt (tgt := 23) kq_Gr_openWith i_Gr_openWith_1 rfl (by decide) ?_ ?_
  · refine ix_K_cl kq_Gr_openWith i_Gr_openWith_23 rfl kcl_0 ?_
    exact ix_D_ret kq_Gr_openWith i_Gr_openWith_24 (ix_rtL rfl _)
  · refine ix_K_px kq_Gr_openWith i_Gr_openWith_4 rfl rfl ?_
    refine ix_K_ci kq_Gr_openWith i_Gr_openWith_5 rfl kci_4 ?_
    refine ix_K_ic_ge (tgt := 23) kq_Gr_openWith i_Gr_openWith_6 rfl (by decide) ?_ ?_
    · refine ix_K_cl kq_Gr_openWith i_Gr_openWith_23 rfl kcl_0 ?_
      exact ix_D_ret kq_Gr_openWith i_Gr_openWith_24 (ix_rtL rfl _)
    · refine ix_K_px kq_Gr_openWith i_Gr_openWith_9 rfl rfl ?_
      refine ix_K_gr kq_Gr_openWith i_Gr_openWith_10 rfl (fun v1 => ?_)
      refine ix_K_px kq_Gr_openWith i_Gr_openWith_13 rfl rfl ?_
      refine ix_K_al kq_Gr_openWith i_Gr_openWith_14 rfl (fun v2 => ?_)
      refine ix_K_px kq_Gr_openWith i_Gr_openWith_15 rfl rfl ?_
      refine ix_K_callL (as := [.ref a0]) (rest := [.long v2]) kq_Gr_openWith i_Gr_openWith_16 rfl kq_Gr_open (by decide) rfl rfl (fun v4 h3 => ?_)
      refine ix_K_px kq_Gr_openWith i_Gr_openWith_19 rfl rfl ?_
      refine ix_K_goto (tgt := 24) kq_Gr_openWith i_Gr_openWith_20 rfl (by decide) ?_
      exact ix_D_ret kq_Gr_openWith i_Gr_openWith_24 (ix_rtL rfl _)
theorem x_Gr_openWith {a0 : Nat} {x1 : Int32} {h h1 : ixH} {v : Int64} (hr : ix_rc h a0 = some 2) (hd : ix_D mGr_openWith 0 [some (.ref a0), some (.int x1)] [] h = some ([.long v], h1)) : ix_M mGr_openWith [.ref a0, .int x1] h = some ([.long v], h1) := ix_M_of (ix_ent_i kq_Gr_openWith rfl hr rfl (Nat.le_of_ble_eq_true rfl) rfl) hd (ix_okrL rfl v)
theorem i_Gr_ahead_0 : ix_nx mGr_ahead 0 = some (0, .aload_n 0, 1, none, [], 0) := rfl
theorem i_Gr_ahead_1 : ix_nx mGr_ahead 1 = some (0, .iload_n 1, 2, none, [], 0) := rfl
theorem i_Gr_ahead_2 : ix_nx mGr_ahead 2 = some (0, .iconst 1, 3, none, [], 0) := rfl
theorem i_Gr_ahead_3 : ix_nx mGr_ahead 3 = some (3, .invokevirtual 63, 6, none, [0, 72, 88], 0) := rfl
theorem i_Gr_ahead_6 : ix_nx mGr_ahead 6 = some (4, .lreturn, 7, none, [], 0) := rfl
set_option maxRecDepth 20000 in
set_option maxHeartbeats 1000000 in
theorem e_Gr_ahead (a0 : Nat) (x1 : Int32) (h : ixH) : ix_D mGr_ahead 0 [some (.ref a0), some (.int x1)] [] h = (ix_M mGr_spread [.ref a0, .int x1, .int 1] h).bind fun r => ix_kL r fun v2 h1 => some ([.long v2], h1) := by
  refine ix_K_px kq_Gr_ahead i_Gr_ahead_0 rfl rfl ?_
  refine ix_K_px kq_Gr_ahead i_Gr_ahead_1 rfl rfl ?_
  refine ix_K_ci kq_Gr_ahead i_Gr_ahead_2 rfl kci_1 ?_
  refine ix_K_callL (as := [.ref a0, .int x1, .int 1]) (rest := []) kq_Gr_ahead i_Gr_ahead_3 rfl kq_Gr_spread (by decide) rfl rfl (fun v2 h1 => ?_)
  exact ix_D_ret kq_Gr_ahead i_Gr_ahead_6 (ix_rtL rfl _)
theorem x_Gr_ahead {a0 : Nat} {x1 : Int32} {h h1 : ixH} {v : Int64} (hr : ix_rc h a0 = some 2) (hd : ix_D mGr_ahead 0 [some (.ref a0), some (.int x1)] [] h = some ([.long v], h1)) : ix_M mGr_ahead [.ref a0, .int x1] h = some ([.long v], h1) := ix_M_of (ix_ent_i kq_Gr_ahead rfl hr rfl (Nat.le_of_ble_eq_true rfl) rfl) hd (ix_okrL rfl v)
theorem i_Gr_diagonalOf_0 : ix_nx mGr_diagonalOf 0 = some (0, .aload_n 0, 1, none, [], 0) := rfl
theorem i_Gr_diagonalOf_1 : ix_nx mGr_diagonalOf 1 = some (0, .iload_n 1, 2, none, [], 0) := rfl
theorem i_Gr_diagonalOf_2 : ix_nx mGr_diagonalOf 2 = some (3, .invokevirtual 44, 5, none, [0, 76, 90], 0) := rfl
theorem i_Gr_diagonalOf_5 : ix_nx mGr_diagonalOf 5 = some (0, .istore_n 2, 6, none, [], 0) := rfl
theorem i_Gr_diagonalOf_6 : ix_nx mGr_diagonalOf 6 = some (0, .iload_n 1, 7, none, [], 0) := rfl
theorem i_Gr_diagonalOf_7 : ix_nx mGr_diagonalOf 7 = some (0, .iload_n 2, 8, none, [], 0) := rfl
theorem i_Gr_diagonalOf_8 : ix_nx mGr_diagonalOf 8 = some (0, .aload_n 0, 9, none, [], 0) := rfl
theorem i_Gr_diagonalOf_9 : ix_nx mGr_diagonalOf 9 = some (1, .getfield 9, 12, none, [2, 0, 0, 0], 0) := rfl
theorem i_Gr_diagonalOf_12 : ix_nx mGr_diagonalOf 12 = some (0, .imul, 13, none, [], 0) := rfl
theorem i_Gr_diagonalOf_13 : ix_nx mGr_diagonalOf 13 = some (0, .isub, 14, none, [], 0) := rfl
theorem i_Gr_diagonalOf_14 : ix_nx mGr_diagonalOf 14 = some (0, .iload_n 2, 15, none, [], 0) := rfl
theorem i_Gr_diagonalOf_15 : ix_nx mGr_diagonalOf 15 = some (0, .iadd, 16, none, [], 0) := rfl
theorem i_Gr_diagonalOf_16 : ix_nx mGr_diagonalOf 16 = some (4, .ireturn, 17, none, [], 0) := rfl
set_option maxRecDepth 20000 in
set_option maxHeartbeats 1000000 in
theorem e_Gr_diagonalOf (a0 : Nat) (x1 : Int32) (h : ixH) : ix_D mGr_diagonalOf 0 [some (.ref a0), some (.int x1), none] [] h = (ix_M mGr_rowOf [.ref a0, .int x1] h).bind fun r => ix_kI r fun v2 h1 => (ix_gi h1 a0 2 0).bind fun v3 => some ([.int ((x1 - (v2 * v3)) + v2)], h1) := by
  refine ix_K_px kq_Gr_diagonalOf i_Gr_diagonalOf_0 rfl rfl ?_
  refine ix_K_px kq_Gr_diagonalOf i_Gr_diagonalOf_1 rfl rfl ?_
  refine ix_K_callI (as := [.ref a0, .int x1]) (rest := []) kq_Gr_diagonalOf i_Gr_diagonalOf_2 rfl kq_Gr_rowOf (by decide) rfl (Or.inl rfl) (fun v2 h1 => ?_)
  refine ix_K_si (L2 := [some (.ref a0), some (.int x1), some (.int v2)]) kq_Gr_diagonalOf i_Gr_diagonalOf_5 rfl (Or.inr ⟨_, rfl, rfl⟩) (Nat.le_of_ble_eq_true rfl) rfl ?_
  refine ix_K_px kq_Gr_diagonalOf i_Gr_diagonalOf_6 rfl rfl ?_
  refine ix_K_px kq_Gr_diagonalOf i_Gr_diagonalOf_7 rfl rfl ?_
  refine ix_K_px kq_Gr_diagonalOf i_Gr_diagonalOf_8 rfl rfl ?_
  refine ix_K_gi kq_Gr_diagonalOf i_Gr_diagonalOf_9 rfl (fun v3 => ?_)
  refine ix_K_px kq_Gr_diagonalOf i_Gr_diagonalOf_12 rfl rfl ?_
  refine ix_K_px kq_Gr_diagonalOf i_Gr_diagonalOf_13 rfl rfl ?_
  refine ix_K_px kq_Gr_diagonalOf i_Gr_diagonalOf_14 rfl rfl ?_
  refine ix_K_px kq_Gr_diagonalOf i_Gr_diagonalOf_15 rfl rfl ?_
  exact ix_D_ret kq_Gr_diagonalOf i_Gr_diagonalOf_16 (ix_rtI rfl _)
theorem x_Gr_diagonalOf {a0 : Nat} {x1 : Int32} {h h1 : ixH} {v : Int32} (hr : ix_rc h a0 = some 2) (hd : ix_D mGr_diagonalOf 0 [some (.ref a0), some (.int x1), none] [] h = some ([.int v], h1)) : ix_M mGr_diagonalOf [.ref a0, .int x1] h = some ([.int v], h1) := ix_M_of (ix_ent_i kq_Gr_diagonalOf rfl hr rfl (Nat.le_of_ble_eq_true rfl) rfl) hd (ix_okrI (Or.inl rfl) v)
theorem i_Gr_rowOf_0 : ix_nx mGr_rowOf 0 = some (0, .aload_n 0, 1, none, [], 0) := rfl
theorem i_Gr_rowOf_1 : ix_nx mGr_rowOf 1 = some (1, .getfield 9, 4, none, [2, 0, 0, 0], 0) := rfl
theorem i_Gr_rowOf_4 : ix_nx mGr_rowOf 4 = some (0, .ifCond .le 12, 7, none, [], 0) := rfl
theorem i_Gr_rowOf_7 : ix_nx mGr_rowOf 7 = some (0, .iload_n 1, 8, none, [], 0) := rfl
theorem i_Gr_rowOf_8 : ix_nx mGr_rowOf 8 = some (0, .aload_n 0, 9, none, [], 0) := rfl
theorem i_Gr_rowOf_9 : ix_nx mGr_rowOf 9 = some (1, .getfield 9, 12, none, [2, 0, 0, 0], 0) := rfl
theorem i_Gr_rowOf_12 : ix_nx mGr_rowOf 12 = some (0, .idiv, 13, none, [], 0) := rfl
theorem i_Gr_rowOf_13 : ix_nx mGr_rowOf 13 = some (0, .goto 4, 16, none, [], 0) := rfl
theorem i_Gr_rowOf_16 : ix_nx mGr_rowOf 16 = some (0, .iconst 0, 17, none, [], 0) := rfl
theorem i_Gr_rowOf_17 : ix_nx mGr_rowOf 17 = some (4, .ireturn, 18, none, [], 0) := rfl
set_option maxRecDepth 20000 in
set_option maxHeartbeats 1000000 in
theorem e_Gr_rowOf (a0 : Nat) (x1 : Int32) (h : ixH) : ix_D mGr_rowOf 0 [some (.ref a0), some (.int x1)] [] h = (ix_gi h a0 2 0).bind fun v1 => if v1 ≤ 0 then some ([.int 0], h) else (ix_gi h a0 2 0).bind fun v2 => if v2 = 0 then none else some ([.int (x1 / v2)], h) := by
  refine ix_K_px kq_Gr_rowOf i_Gr_rowOf_0 rfl rfl ?_
  refine ix_K_gi kq_Gr_rowOf i_Gr_rowOf_1 rfl (fun v1 => ?_)
  refine ix_K_if_le (tgt := 16) kq_Gr_rowOf i_Gr_rowOf_4 rfl (by decide) ?_ ?_
  · refine ix_K_ci kq_Gr_rowOf i_Gr_rowOf_16 rfl kci_0 ?_
    exact ix_D_ret kq_Gr_rowOf i_Gr_rowOf_17 (ix_rtI rfl _)
  · refine ix_K_px kq_Gr_rowOf i_Gr_rowOf_7 rfl rfl ?_
    refine ix_K_px kq_Gr_rowOf i_Gr_rowOf_8 rfl rfl ?_
    refine ix_K_gi kq_Gr_rowOf i_Gr_rowOf_9 rfl (fun v2 => ?_)
    refine ix_K_div kq_Gr_rowOf i_Gr_rowOf_12 rfl ?_
    refine ix_K_goto (tgt := 17) kq_Gr_rowOf i_Gr_rowOf_13 rfl (by decide) ?_
    exact ix_D_ret kq_Gr_rowOf i_Gr_rowOf_17 (ix_rtI rfl _)
theorem x_Gr_rowOf {a0 : Nat} {x1 : Int32} {h h1 : ixH} {v : Int32} (hr : ix_rc h a0 = some 2) (hd : ix_D mGr_rowOf 0 [some (.ref a0), some (.int x1)] [] h = some ([.int v], h1)) : ix_M mGr_rowOf [.ref a0, .int x1] h = some ([.int v], h1) := ix_M_of (ix_ent_i kq_Gr_rowOf rfl hr rfl (Nat.le_of_ble_eq_true rfl) rfl) hd (ix_okrI (Or.inl rfl) v)
theorem i_Gr_wallsTurned_0 : ix_nx mGr_wallsTurned 0 = some (0, .aload_n 0, 1, none, [], 0) := rfl
theorem i_Gr_wallsTurned_1 : ix_nx mGr_wallsTurned 1 = some (1, .getfield 28, 4, none, [2, 5, 1, 17], 0) := rfl
theorem i_Gr_wallsTurned_4 : ix_nx mGr_wallsTurned 4 = some (0, .lstore_n 2, 5, none, [], 0) := rfl
theorem i_Gr_wallsTurned_5 : ix_nx mGr_wallsTurned 5 = some (0, .iconst 0, 6, none, [], 0) := rfl
theorem i_Gr_wallsTurned_6 : ix_nx mGr_wallsTurned 6 = some (0, .istore 4, 8, none, [], 0) := rfl
theorem i_Gr_wallsTurned_8 : ix_nx mGr_wallsTurned 8 = some (0, .iload 4, 10, some [true, true, true, false, true], [], 0) := rfl
theorem i_Gr_wallsTurned_10 : ix_nx mGr_wallsTurned 10 = some (0, .iconst 4, 11, none, [], 0) := rfl
theorem i_Gr_wallsTurned_11 : ix_nx mGr_wallsTurned 11 = some (0, .if_icmp .ge 29, 14, none, [], 0) := rfl
theorem i_Gr_wallsTurned_14 : ix_nx mGr_wallsTurned 14 = some (0, .iload_n 1, 15, none, [], 0) := rfl
theorem i_Gr_wallsTurned_15 : ix_nx mGr_wallsTurned 15 = some (0, .iload 4, 17, none, [], 0) := rfl
theorem i_Gr_wallsTurned_17 : ix_nx mGr_wallsTurned 17 = some (0, .ishr, 18, none, [], 0) := rfl
theorem i_Gr_wallsTurned_18 : ix_nx mGr_wallsTurned 18 = some (0, .iconst 1, 19, none, [], 0) := rfl
theorem i_Gr_wallsTurned_19 : ix_nx mGr_wallsTurned 19 = some (0, .iand, 20, none, [], 0) := rfl
theorem i_Gr_wallsTurned_20 : ix_nx mGr_wallsTurned 20 = some (0, .iconst 1, 21, none, [], 0) := rfl
theorem i_Gr_wallsTurned_21 : ix_nx mGr_wallsTurned 21 = some (0, .if_icmp .ne 13, 24, none, [], 0) := rfl
theorem i_Gr_wallsTurned_24 : ix_nx mGr_wallsTurned 24 = some (0, .lload_n 2, 25, none, [], 0) := rfl
theorem i_Gr_wallsTurned_25 : ix_nx mGr_wallsTurned 25 = some (0, .aload_n 0, 26, none, [], 0) := rfl
theorem i_Gr_wallsTurned_26 : ix_nx mGr_wallsTurned 26 = some (1, .getfield 35, 29, none, [2, 7, 2, 22], 0) := rfl
theorem i_Gr_wallsTurned_29 : ix_nx mGr_wallsTurned 29 = some (0, .iload 4, 31, none, [], 0) := rfl
theorem i_Gr_wallsTurned_31 : ix_nx mGr_wallsTurned 31 = some (1, .laload, 32, none, [], 0) := rfl
theorem i_Gr_wallsTurned_32 : ix_nx mGr_wallsTurned 32 = some (0, .lxor, 33, none, [], 0) := rfl
theorem i_Gr_wallsTurned_33 : ix_nx mGr_wallsTurned 33 = some (0, .lstore_n 2, 34, none, [], 0) := rfl
theorem i_Gr_wallsTurned_34 : ix_nx mGr_wallsTurned 34 = some (0, .iinc 4 1, 37, none, [], 0) := rfl
theorem i_Gr_wallsTurned_37 : ix_nx mGr_wallsTurned 37 = some (0, .goto (-29), 40, none, [], 0) := rfl
theorem i_Gr_wallsTurned_40 : ix_nx mGr_wallsTurned 40 = some (0, .lload_n 2, 41, none, [], 0) := rfl
theorem i_Gr_wallsTurned_41 : ix_nx mGr_wallsTurned 41 = some (4, .lreturn, 42, none, [], 0) := rfl
noncomputable def l_Gr_wallsTurned_8 (a0 : Nat) (x1 : Int32) (x2 : Int64) (x4 : Int32) (h : ixH) : Option (List Value × ixH) := ix_D mGr_wallsTurned 8 [some (.ref a0), some (.int x1), some (.long x2), none, some (.int x4)] [] h
set_option maxRecDepth 20000 in
set_option maxHeartbeats 1000000 in
theorem e_Gr_wallsTurned_8 (a0 : Nat) (x1 : Int32) (x2 : Int64) (x4 : Int32) (h : ixH) : l_Gr_wallsTurned_8 a0 x1 x2 x4 h = if 4 ≤ x4 then some ([.long x2], h) else if ¬ ((ix_ishr x1 x4) &&& 1) = 1 then l_Gr_wallsTurned_8 a0 x1 x2 (x4 + 1) h else (ix_gr h a0 2 7).bind fun v1 => (ix_al h v1 x4).bind fun v2 => l_Gr_wallsTurned_8 a0 x1 (x2 ^^^ v2) (x4 + 1) h := by
  unfold l_Gr_wallsTurned_8
  refine ix_K_px kq_Gr_wallsTurned i_Gr_wallsTurned_8 rfl rfl ?_
  refine ix_K_ci kq_Gr_wallsTurned i_Gr_wallsTurned_10 rfl kci_4 ?_
  refine ix_K_ic_ge (tgt := 40) kq_Gr_wallsTurned i_Gr_wallsTurned_11 rfl (by decide) ?_ ?_
  · refine ix_K_px kq_Gr_wallsTurned i_Gr_wallsTurned_40 rfl rfl ?_
    exact ix_D_ret kq_Gr_wallsTurned i_Gr_wallsTurned_41 (ix_rtL rfl _)
  · refine ix_K_px kq_Gr_wallsTurned i_Gr_wallsTurned_14 rfl rfl ?_
    refine ix_K_px kq_Gr_wallsTurned i_Gr_wallsTurned_15 rfl rfl ?_
    refine ix_K_px kq_Gr_wallsTurned i_Gr_wallsTurned_17 rfl rfl ?_
    refine ix_K_ci kq_Gr_wallsTurned i_Gr_wallsTurned_18 rfl kci_1 ?_
    refine ix_K_px kq_Gr_wallsTurned i_Gr_wallsTurned_19 rfl rfl ?_
    refine ix_K_ci kq_Gr_wallsTurned i_Gr_wallsTurned_20 rfl kci_1 ?_
    refine ix_K_ic_ne (tgt := 34) kq_Gr_wallsTurned i_Gr_wallsTurned_21 rfl (by decide) ?_ ?_
    · refine ix_K_inc (L2 := [some (.ref a0), some (.int x1), some (.long x2), none, some (.int (x4 + 1))]) kq_Gr_wallsTurned i_Gr_wallsTurned_34 rfl rfl (Nat.le_of_ble_eq_true rfl) kci_1 rfl ?_
      refine ix_K_goto (tgt := 8) kq_Gr_wallsTurned i_Gr_wallsTurned_37 rfl (by decide) ?_
      exact ix_D_cut i_Gr_wallsTurned_8 rfl
    · refine ix_K_px kq_Gr_wallsTurned i_Gr_wallsTurned_24 rfl rfl ?_
      refine ix_K_px kq_Gr_wallsTurned i_Gr_wallsTurned_25 rfl rfl ?_
      refine ix_K_gr kq_Gr_wallsTurned i_Gr_wallsTurned_26 rfl (fun v1 => ?_)
      refine ix_K_px kq_Gr_wallsTurned i_Gr_wallsTurned_29 rfl rfl ?_
      refine ix_K_al kq_Gr_wallsTurned i_Gr_wallsTurned_31 rfl (fun v2 => ?_)
      refine ix_K_px kq_Gr_wallsTurned i_Gr_wallsTurned_32 rfl rfl ?_
      refine ix_K_sl (L2 := [some (.ref a0), some (.int x1), some (.long (x2 ^^^ v2)), none, some (.int x4)]) kq_Gr_wallsTurned i_Gr_wallsTurned_33 rfl (Or.inr ⟨_, rfl, rfl⟩) (Nat.le_of_ble_eq_true rfl) rfl ?_
      refine ix_K_inc (L2 := [some (.ref a0), some (.int x1), some (.long (x2 ^^^ v2)), none, some (.int (x4 + 1))]) kq_Gr_wallsTurned i_Gr_wallsTurned_34 rfl rfl (Nat.le_of_ble_eq_true rfl) kci_1 rfl ?_
      refine ix_K_goto (tgt := 8) kq_Gr_wallsTurned i_Gr_wallsTurned_37 rfl (by decide) ?_
      exact ix_D_cut i_Gr_wallsTurned_8 rfl
set_option maxRecDepth 20000 in
set_option maxHeartbeats 1000000 in
theorem e_Gr_wallsTurned (a0 : Nat) (x1 : Int32) (h : ixH) : ix_D mGr_wallsTurned 0 [some (.ref a0), some (.int x1), none, none, none] [] h = (ix_gl h a0 2 5).bind fun v1 => l_Gr_wallsTurned_8 a0 x1 v1 0 h := by
  refine ix_K_px kq_Gr_wallsTurned i_Gr_wallsTurned_0 rfl rfl ?_
  refine ix_K_gl kq_Gr_wallsTurned i_Gr_wallsTurned_1 rfl (fun v1 => ?_)
  refine ix_K_sl (L2 := [some (.ref a0), some (.int x1), some (.long v1), none, none]) kq_Gr_wallsTurned i_Gr_wallsTurned_4 rfl (Or.inr ⟨_, rfl, rfl⟩) (Nat.le_of_ble_eq_true rfl) rfl ?_
  refine ix_K_ci kq_Gr_wallsTurned i_Gr_wallsTurned_5 rfl kci_0 ?_
  refine ix_K_si (L2 := [some (.ref a0), some (.int x1), some (.long v1), none, some (.int 0)]) kq_Gr_wallsTurned i_Gr_wallsTurned_6 rfl (Or.inl rfl) (Nat.le_of_ble_eq_true rfl) rfl ?_
  exact ix_D_cut i_Gr_wallsTurned_8 rfl
theorem x_Gr_wallsTurned {a0 : Nat} {x1 : Int32} {h h1 : ixH} {v : Int64} (hr : ix_rc h a0 = some 2) (hd : ix_D mGr_wallsTurned 0 [some (.ref a0), some (.int x1), none, none, none] [] h = some ([.long v], h1)) : ix_M mGr_wallsTurned [.ref a0, .int x1] h = some ([.long v], h1) := ix_M_of (ix_ent_i kq_Gr_wallsTurned rfl hr rfl (Nat.le_of_ble_eq_true rfl) rfl) hd (ix_okrL rfl v)
theorem i_Gr_copyFrom_0 : ix_nx mGr_copyFrom 0 = some (0, .aload_n 0, 1, none, [], 0) := rfl
theorem i_Gr_copyFrom_1 : ix_nx mGr_copyFrom 1 = some (0, .aload_n 1, 2, none, [], 0) := rfl
theorem i_Gr_copyFrom_2 : ix_nx mGr_copyFrom 2 = some (1, .getfield 9, 5, none, [2, 0, 0, 0], 0) := rfl
theorem i_Gr_copyFrom_5 : ix_nx mGr_copyFrom 5 = some (2, .putfield 9, 8, none, [2, 0, 0, 0], 0) := rfl
theorem i_Gr_copyFrom_8 : ix_nx mGr_copyFrom 8 = some (0, .aload_n 0, 9, none, [], 0) := rfl
theorem i_Gr_copyFrom_9 : ix_nx mGr_copyFrom 9 = some (0, .aload_n 1, 10, none, [], 0) := rfl
theorem i_Gr_copyFrom_10 : ix_nx mGr_copyFrom 10 = some (1, .getfield 15, 13, none, [2, 1, 0, 6], 0) := rfl
theorem i_Gr_copyFrom_13 : ix_nx mGr_copyFrom 13 = some (2, .putfield 15, 16, none, [2, 1, 0, 6], 0) := rfl
theorem i_Gr_copyFrom_16 : ix_nx mGr_copyFrom 16 = some (0, .aload_n 0, 17, none, [], 0) := rfl
theorem i_Gr_copyFrom_17 : ix_nx mGr_copyFrom 17 = some (0, .aload_n 1, 18, none, [], 0) := rfl
theorem i_Gr_copyFrom_18 : ix_nx mGr_copyFrom 18 = some (1, .getfield 18, 21, none, [2, 2, 1, 9], 0) := rfl
theorem i_Gr_copyFrom_21 : ix_nx mGr_copyFrom 21 = some (2, .putfield 18, 24, none, [2, 2, 1, 9], 0) := rfl
theorem i_Gr_copyFrom_24 : ix_nx mGr_copyFrom 24 = some (0, .aload_n 0, 25, none, [], 0) := rfl
theorem i_Gr_copyFrom_25 : ix_nx mGr_copyFrom 25 = some (0, .aload_n 1, 26, none, [], 0) := rfl
theorem i_Gr_copyFrom_26 : ix_nx mGr_copyFrom 26 = some (1, .getfield 22, 29, none, [2, 3, 1, 11], 0) := rfl
theorem i_Gr_copyFrom_29 : ix_nx mGr_copyFrom 29 = some (2, .putfield 22, 32, none, [2, 3, 1, 11], 0) := rfl
theorem i_Gr_copyFrom_32 : ix_nx mGr_copyFrom 32 = some (0, .aload_n 0, 33, none, [], 0) := rfl
theorem i_Gr_copyFrom_33 : ix_nx mGr_copyFrom 33 = some (0, .aload_n 1, 34, none, [], 0) := rfl
theorem i_Gr_copyFrom_34 : ix_nx mGr_copyFrom 34 = some (1, .getfield 25, 37, none, [2, 4, 1, 15], 0) := rfl
theorem i_Gr_copyFrom_37 : ix_nx mGr_copyFrom 37 = some (2, .putfield 25, 40, none, [2, 4, 1, 15], 0) := rfl
theorem i_Gr_copyFrom_40 : ix_nx mGr_copyFrom 40 = some (0, .aload_n 0, 41, none, [], 0) := rfl
theorem i_Gr_copyFrom_41 : ix_nx mGr_copyFrom 41 = some (0, .aload_n 1, 42, none, [], 0) := rfl
theorem i_Gr_copyFrom_42 : ix_nx mGr_copyFrom 42 = some (1, .getfield 28, 45, none, [2, 5, 1, 17], 0) := rfl
theorem i_Gr_copyFrom_45 : ix_nx mGr_copyFrom 45 = some (2, .putfield 28, 48, none, [2, 5, 1, 17], 0) := rfl
theorem i_Gr_copyFrom_48 : ix_nx mGr_copyFrom 48 = some (0, .aload_n 1, 49, none, [], 0) := rfl
theorem i_Gr_copyFrom_49 : ix_nx mGr_copyFrom 49 = some (1, .getfield 31, 52, none, [2, 6, 2, 20], 0) := rfl
theorem i_Gr_copyFrom_52 : ix_nx mGr_copyFrom 52 = some (0, .iconst 0, 53, none, [], 0) := rfl
theorem i_Gr_copyFrom_53 : ix_nx mGr_copyFrom 53 = some (0, .aload_n 0, 54, none, [], 0) := rfl
theorem i_Gr_copyFrom_54 : ix_nx mGr_copyFrom 54 = some (1, .getfield 31, 57, none, [2, 6, 2, 20], 0) := rfl
theorem i_Gr_copyFrom_57 : ix_nx mGr_copyFrom 57 = some (0, .iconst 0, 58, none, [], 0) := rfl
theorem i_Gr_copyFrom_58 : ix_nx mGr_copyFrom 58 = some (0, .iconst 4, 59, none, [], 0) := rfl
theorem i_Gr_copyFrom_59 : ix_nx mGr_copyFrom 59 = some (5, .invokestatic 67, 62, none, [7, 91], 0) := rfl
theorem i_Gr_copyFrom_62 : ix_nx mGr_copyFrom 62 = some (0, .aload_n 1, 63, none, [], 0) := rfl
theorem i_Gr_copyFrom_63 : ix_nx mGr_copyFrom 63 = some (1, .getfield 35, 66, none, [2, 7, 2, 22], 0) := rfl
theorem i_Gr_copyFrom_66 : ix_nx mGr_copyFrom 66 = some (0, .iconst 0, 67, none, [], 0) := rfl
theorem i_Gr_copyFrom_67 : ix_nx mGr_copyFrom 67 = some (0, .aload_n 0, 68, none, [], 0) := rfl
theorem i_Gr_copyFrom_68 : ix_nx mGr_copyFrom 68 = some (1, .getfield 35, 71, none, [2, 7, 2, 22], 0) := rfl
theorem i_Gr_copyFrom_71 : ix_nx mGr_copyFrom 71 = some (0, .iconst 0, 72, none, [], 0) := rfl
theorem i_Gr_copyFrom_72 : ix_nx mGr_copyFrom 72 = some (0, .iconst 4, 73, none, [], 0) := rfl
theorem i_Gr_copyFrom_73 : ix_nx mGr_copyFrom 73 = some (5, .invokestatic 67, 76, none, [7, 91], 0) := rfl
theorem i_Gr_copyFrom_76 : ix_nx mGr_copyFrom 76 = some (4, .return_, 77, none, [], 0) := rfl
set_option maxRecDepth 20000 in
set_option maxHeartbeats 1000000 in
theorem e_Gr_copyFrom (a0 : Nat) (a1 : Nat) (h : ixH) : ix_D mGr_copyFrom 0 [some (.ref a0), some (.ref a1)] [] h = (ix_gi h a1 2 0).bind fun v1 => (ix_pf h a0 2 0 (.int v1)).bind fun h2 => (ix_gi h2 a1 2 1).bind fun v3 => (ix_pf h2 a0 2 1 (.int v3)).bind fun h4 => (ix_gl h4 a1 2 2).bind fun v5 => (ix_pf h4 a0 2 2 (.long v5)).bind fun h6 => (ix_gl h6 a1 2 3).bind fun v7 => (ix_pf h6 a0 2 3 (.long v7)).bind fun h8 => (ix_gl h8 a1 2 4).bind fun v9 => (ix_pf h8 a0 2 4 (.long v9)).bind fun h10 => (ix_gl h10 a1 2 5).bind fun v11 => (ix_pf h10 a0 2 5 (.long v11)).bind fun h12 => (ix_gr h12 a1 2 6).bind fun v13 => (ix_gr h12 a0 2 6).bind fun v14 => (ix_cp h12 v13 0 v14 0 4).bind fun h15 => (ix_gr h15 a1 2 7).bind fun v16 => (ix_gr h15 a0 2 7).bind fun v17 => (ix_cp h15 v16 0 v17 0 4).bind fun h18 => some ([], h18) := by
  refine ix_K_px kq_Gr_copyFrom i_Gr_copyFrom_0 rfl rfl ?_
  refine ix_K_px kq_Gr_copyFrom i_Gr_copyFrom_1 rfl rfl ?_
  refine ix_K_gi kq_Gr_copyFrom i_Gr_copyFrom_2 rfl (fun v1 => ?_)
  refine ix_K_pf kq_Gr_copyFrom i_Gr_copyFrom_5 rfl rfl (fun h2 => ?_)
  refine ix_K_px kq_Gr_copyFrom i_Gr_copyFrom_8 rfl rfl ?_
  refine ix_K_px kq_Gr_copyFrom i_Gr_copyFrom_9 rfl rfl ?_
  refine ix_K_gi kq_Gr_copyFrom i_Gr_copyFrom_10 rfl (fun v3 => ?_)
  refine ix_K_pf kq_Gr_copyFrom i_Gr_copyFrom_13 rfl rfl (fun h4 => ?_)
  refine ix_K_px kq_Gr_copyFrom i_Gr_copyFrom_16 rfl rfl ?_
  refine ix_K_px kq_Gr_copyFrom i_Gr_copyFrom_17 rfl rfl ?_
  refine ix_K_gl kq_Gr_copyFrom i_Gr_copyFrom_18 rfl (fun v5 => ?_)
  refine ix_K_pf kq_Gr_copyFrom i_Gr_copyFrom_21 rfl rfl (fun h6 => ?_)
  refine ix_K_px kq_Gr_copyFrom i_Gr_copyFrom_24 rfl rfl ?_
  refine ix_K_px kq_Gr_copyFrom i_Gr_copyFrom_25 rfl rfl ?_
  refine ix_K_gl kq_Gr_copyFrom i_Gr_copyFrom_26 rfl (fun v7 => ?_)
  refine ix_K_pf kq_Gr_copyFrom i_Gr_copyFrom_29 rfl rfl (fun h8 => ?_)
  refine ix_K_px kq_Gr_copyFrom i_Gr_copyFrom_32 rfl rfl ?_
  refine ix_K_px kq_Gr_copyFrom i_Gr_copyFrom_33 rfl rfl ?_
  refine ix_K_gl kq_Gr_copyFrom i_Gr_copyFrom_34 rfl (fun v9 => ?_)
  refine ix_K_pf kq_Gr_copyFrom i_Gr_copyFrom_37 rfl rfl (fun h10 => ?_)
  refine ix_K_px kq_Gr_copyFrom i_Gr_copyFrom_40 rfl rfl ?_
  refine ix_K_px kq_Gr_copyFrom i_Gr_copyFrom_41 rfl rfl ?_
  refine ix_K_gl kq_Gr_copyFrom i_Gr_copyFrom_42 rfl (fun v11 => ?_)
  refine ix_K_pf kq_Gr_copyFrom i_Gr_copyFrom_45 rfl rfl (fun h12 => ?_)
  refine ix_K_px kq_Gr_copyFrom i_Gr_copyFrom_48 rfl rfl ?_
  refine ix_K_gr kq_Gr_copyFrom i_Gr_copyFrom_49 rfl (fun v13 => ?_)
  refine ix_K_ci kq_Gr_copyFrom i_Gr_copyFrom_52 rfl kci_0 ?_
  refine ix_K_px kq_Gr_copyFrom i_Gr_copyFrom_53 rfl rfl ?_
  refine ix_K_gr kq_Gr_copyFrom i_Gr_copyFrom_54 rfl (fun v14 => ?_)
  refine ix_K_ci kq_Gr_copyFrom i_Gr_copyFrom_57 rfl kci_0 ?_
  refine ix_K_ci kq_Gr_copyFrom i_Gr_copyFrom_58 rfl kci_4 ?_
  refine ix_K_cp kq_Gr_copyFrom i_Gr_copyFrom_59 rfl (Nat.le_of_ble_eq_true rfl) (fun h15 => ?_)
  refine ix_K_px kq_Gr_copyFrom i_Gr_copyFrom_62 rfl rfl ?_
  refine ix_K_gr kq_Gr_copyFrom i_Gr_copyFrom_63 rfl (fun v16 => ?_)
  refine ix_K_ci kq_Gr_copyFrom i_Gr_copyFrom_66 rfl kci_0 ?_
  refine ix_K_px kq_Gr_copyFrom i_Gr_copyFrom_67 rfl rfl ?_
  refine ix_K_gr kq_Gr_copyFrom i_Gr_copyFrom_68 rfl (fun v17 => ?_)
  refine ix_K_ci kq_Gr_copyFrom i_Gr_copyFrom_71 rfl kci_0 ?_
  refine ix_K_ci kq_Gr_copyFrom i_Gr_copyFrom_72 rfl kci_4 ?_
  refine ix_K_cp kq_Gr_copyFrom i_Gr_copyFrom_73 rfl (Nat.le_of_ble_eq_true rfl) (fun h18 => ?_)
  exact ix_D_ret kq_Gr_copyFrom i_Gr_copyFrom_76 (ix_rtV rfl)
theorem x_Gr_copyFrom {a0 : Nat} {a1 : Nat} {h h1 : ixH} (hr : ix_rc h a0 = some 2) (hd : ix_D mGr_copyFrom 0 [some (.ref a0), some (.ref a1)] [] h = some ([], h1)) : ix_M mGr_copyFrom [.ref a0, .ref a1] h = some ([], h1) := ix_M_of (ix_ent_i kq_Gr_copyFrom rfl hr rfl (Nat.le_of_ble_eq_true rfl) rfl) hd (ix_okrV rfl)
theorem i_Rt_init_0 : ix_nx mRt_init 0 = some (0, .aload_n 0, 1, none, [], 0) := rfl
theorem i_Rt_init_1 : ix_nx mRt_init 1 = some (3, .invokespecial 3, 4, none, [6, 0, 92], 0) := rfl
theorem i_Rt_init_4 : ix_nx mRt_init 4 = some (0, .aload_n 0, 5, none, [], 0) := rfl
theorem i_Rt_init_5 : ix_nx mRt_init 5 = some (0, .bipush 64, 7, none, [], 0) := rfl
theorem i_Rt_init_7 : ix_nx mRt_init 7 = some (2, .newarray .int, 9, none, [], 0) := rfl
theorem i_Rt_init_9 : ix_nx mRt_init 9 = some (2, .putfield 9, 12, none, [3, 0, 2, 24], 0) := rfl
theorem i_Rt_init_12 : ix_nx mRt_init 12 = some (0, .aload_n 0, 13, none, [], 0) := rfl
theorem i_Rt_init_13 : ix_nx mRt_init 13 = some (0, .iconst 0, 14, none, [], 0) := rfl
theorem i_Rt_init_14 : ix_nx mRt_init 14 = some (2, .putfield 15, 17, none, [3, 1, 0, 25], 0) := rfl
theorem i_Rt_init_17 : ix_nx mRt_init 17 = some (0, .aload_n 0, 18, none, [], 0) := rfl
theorem i_Rt_init_18 : ix_nx mRt_init 18 = some (0, .lconst 0, 19, none, [], 0) := rfl
theorem i_Rt_init_19 : ix_nx mRt_init 19 = some (2, .putfield 19, 22, none, [3, 2, 1, 28], 0) := rfl
theorem i_Rt_init_22 : ix_nx mRt_init 22 = some (4, .return_, 23, none, [], 0) := rfl
set_option maxRecDepth 20000 in
set_option maxHeartbeats 1000000 in
theorem e_Rt_init (a0 : Nat) (h : ixH) : ix_D mRt_init 0 [some (.ref a0)] [] h = (ix_pf (ix_nw h (.inl (0, 64, .inl fun _ => 0)) 64) a0 3 0 (.ref h.1)).bind fun h1 => (ix_pf h1 a0 3 1 (.int 0)).bind fun h2 => (ix_pf h2 a0 3 2 (.long 0)).bind fun h3 => some ([], h3) := by
  refine ix_K_px kq_Rt_init i_Rt_init_0 rfl rfl ?_
  refine ix_K_obj kq_Rt_init i_Rt_init_1 rfl (Nat.le_of_ble_eq_true rfl) ?_
  refine ix_K_px kq_Rt_init i_Rt_init_4 rfl rfl ?_
  refine ix_K_cb kq_Rt_init i_Rt_init_5 rfl kcb_64 ?_
  refine ix_K_naI kq_Rt_init i_Rt_init_7 rfl kna_64 knb_64 (by decide) ?_
  refine ix_K_pf kq_Rt_init i_Rt_init_9 rfl rfl (fun h1 => ?_)
  refine ix_K_px kq_Rt_init i_Rt_init_12 rfl rfl ?_
  refine ix_K_ci kq_Rt_init i_Rt_init_13 rfl kci_0 ?_
  refine ix_K_pf kq_Rt_init i_Rt_init_14 rfl rfl (fun h2 => ?_)
  refine ix_K_px kq_Rt_init i_Rt_init_17 rfl rfl ?_
  refine ix_K_cl kq_Rt_init i_Rt_init_18 rfl kcl_0 ?_
  refine ix_K_pf kq_Rt_init i_Rt_init_19 rfl rfl (fun h3 => ?_)
  exact ix_D_ret kq_Rt_init i_Rt_init_22 (ix_rtV rfl)
theorem x_Rt_init {a0 : Nat} {h h1 : ixH} (hd : ix_D mRt_init 0 [some (.ref a0)] [] h = some ([], h1)) : ix_M mRt_init [.ref a0] h = some ([], h1) := ix_M_of (ix_ent_c kq_Rt_init rfl rfl (Nat.le_of_ble_eq_true rfl) rfl) hd (ix_okrV rfl)
theorem i_Rt_keep_0 : ix_nx mRt_keep 0 = some (0, .aload_n 0, 1, none, [], 0) := rfl
theorem i_Rt_keep_1 : ix_nx mRt_keep 1 = some (0, .aload_n 0, 2, none, [], 0) := rfl
theorem i_Rt_keep_2 : ix_nx mRt_keep 2 = some (0, .iload_n 1, 3, none, [], 0) := rfl
theorem i_Rt_keep_3 : ix_nx mRt_keep 3 = some (3, .invokevirtual 35, 6, none, [0, 81, 93], 0) := rfl
theorem i_Rt_keep_6 : ix_nx mRt_keep 6 = some (2, .putfield 19, 9, none, [3, 2, 1, 28], 0) := rfl
theorem i_Rt_keep_9 : ix_nx mRt_keep 9 = some (0, .aload_n 0, 10, none, [], 0) := rfl
theorem i_Rt_keep_10 : ix_nx mRt_keep 10 = some (0, .iload_n 1, 11, none, [], 0) := rfl
theorem i_Rt_keep_11 : ix_nx mRt_keep 11 = some (2, .putfield 15, 14, none, [3, 1, 0, 25], 0) := rfl
theorem i_Rt_keep_14 : ix_nx mRt_keep 14 = some (4, .return_, 15, none, [], 0) := rfl
set_option maxRecDepth 20000 in
set_option maxHeartbeats 1000000 in
theorem e_Rt_keep (a0 : Nat) (x1 : Int32) (h : ixH) : ix_D mRt_keep 0 [some (.ref a0), some (.int x1)] [] h = (ix_M mRt_firstCells [.ref a0, .int x1] h).bind fun r => ix_kL r fun v2 h1 => (ix_pf h1 a0 3 2 (.long v2)).bind fun h3 => (ix_pf h3 a0 3 1 (.int x1)).bind fun h4 => some ([], h4) := by
  refine ix_K_px kq_Rt_keep i_Rt_keep_0 rfl rfl ?_
  refine ix_K_px kq_Rt_keep i_Rt_keep_1 rfl rfl ?_
  refine ix_K_px kq_Rt_keep i_Rt_keep_2 rfl rfl ?_
  refine ix_K_callL (as := [.ref a0, .int x1]) (rest := [.ref a0]) kq_Rt_keep i_Rt_keep_3 rfl kq_Rt_firstCells (by decide) rfl rfl (fun v2 h1 => ?_)
  refine ix_K_pf kq_Rt_keep i_Rt_keep_6 rfl rfl (fun h3 => ?_)
  refine ix_K_px kq_Rt_keep i_Rt_keep_9 rfl rfl ?_
  refine ix_K_px kq_Rt_keep i_Rt_keep_10 rfl rfl ?_
  refine ix_K_pf kq_Rt_keep i_Rt_keep_11 rfl rfl (fun h4 => ?_)
  exact ix_D_ret kq_Rt_keep i_Rt_keep_14 (ix_rtV rfl)
theorem x_Rt_keep {a0 : Nat} {x1 : Int32} {h h1 : ixH} (hr : ix_rc h a0 = some 3) (hd : ix_D mRt_keep 0 [some (.ref a0), some (.int x1)] [] h = some ([], h1)) : ix_M mRt_keep [.ref a0, .int x1] h = some ([], h1) := ix_M_of (ix_ent_i kq_Rt_keep rfl hr rfl (Nat.le_of_ble_eq_true rfl) rfl) hd (ix_okrV rfl)
theorem i_Rt_firstCells_0 : ix_nx mRt_firstCells 0 = some (0, .lconst 0, 1, none, [], 0) := rfl
theorem i_Rt_firstCells_1 : ix_nx mRt_firstCells 1 = some (0, .lstore_n 2, 2, none, [], 0) := rfl
theorem i_Rt_firstCells_2 : ix_nx mRt_firstCells 2 = some (0, .iconst 0, 3, none, [], 0) := rfl
theorem i_Rt_firstCells_3 : ix_nx mRt_firstCells 3 = some (0, .istore 4, 5, none, [], 0) := rfl
theorem i_Rt_firstCells_5 : ix_nx mRt_firstCells 5 = some (0, .iload 4, 7, some [true, true, true, false, true], [], 0) := rfl
theorem i_Rt_firstCells_7 : ix_nx mRt_firstCells 7 = some (0, .iload_n 1, 8, none, [], 0) := rfl
theorem i_Rt_firstCells_8 : ix_nx mRt_firstCells 8 = some (0, .if_icmp .ge 21, 11, none, [], 0) := rfl
theorem i_Rt_firstCells_11 : ix_nx mRt_firstCells 11 = some (0, .lload_n 2, 12, none, [], 0) := rfl
theorem i_Rt_firstCells_12 : ix_nx mRt_firstCells 12 = some (0, .aload_n 0, 13, none, [], 0) := rfl
theorem i_Rt_firstCells_13 : ix_nx mRt_firstCells 13 = some (0, .iload 4, 15, none, [], 0) := rfl
theorem i_Rt_firstCells_15 : ix_nx mRt_firstCells 15 = some (3, .invokevirtual 23, 18, none, [0, 82, 94], 0) := rfl
theorem i_Rt_firstCells_18 : ix_nx mRt_firstCells 18 = some (3, .invokestatic 27, 21, none, [3, 1, 95], 0) := rfl
theorem i_Rt_firstCells_21 : ix_nx mRt_firstCells 21 = some (0, .lor, 22, none, [], 0) := rfl
theorem i_Rt_firstCells_22 : ix_nx mRt_firstCells 22 = some (0, .lstore_n 2, 23, none, [], 0) := rfl
theorem i_Rt_firstCells_23 : ix_nx mRt_firstCells 23 = some (0, .iinc 4 1, 26, none, [], 0) := rfl
theorem i_Rt_firstCells_26 : ix_nx mRt_firstCells 26 = some (0, .goto (-21), 29, none, [], 0) := rfl
theorem i_Rt_firstCells_29 : ix_nx mRt_firstCells 29 = some (0, .lload_n 2, 30, none, [], 0) := rfl
theorem i_Rt_firstCells_30 : ix_nx mRt_firstCells 30 = some (4, .lreturn, 31, none, [], 0) := rfl
noncomputable def l_Rt_firstCells_5 (a0 : Nat) (x1 : Int32) (x2 : Int64) (x4 : Int32) (h : ixH) : Option (List Value × ixH) := ix_D mRt_firstCells 5 [some (.ref a0), some (.int x1), some (.long x2), none, some (.int x4)] [] h
set_option maxRecDepth 20000 in
set_option maxHeartbeats 1000000 in
theorem e_Rt_firstCells_5 (a0 : Nat) (x1 : Int32) (x2 : Int64) (x4 : Int32) (h : ixH) : l_Rt_firstCells_5 a0 x1 x2 x4 h = if x1 ≤ x4 then some ([.long x2], h) else (ix_M mRt_at [.ref a0, .int x4] h).bind fun r => ix_kI r fun v2 h1 => (ix_M mRP_bit [.int v2] h1).bind fun r => ix_kL r fun v4 h3 => l_Rt_firstCells_5 a0 x1 (x2 ||| v4) (x4 + 1) h3 := by
  unfold l_Rt_firstCells_5
  refine ix_K_px kq_Rt_firstCells i_Rt_firstCells_5 rfl rfl ?_
  refine ix_K_px kq_Rt_firstCells i_Rt_firstCells_7 rfl rfl ?_
  refine ix_K_ic_ge (tgt := 29) kq_Rt_firstCells i_Rt_firstCells_8 rfl (by decide) ?_ ?_
  · refine ix_K_px kq_Rt_firstCells i_Rt_firstCells_29 rfl rfl ?_
    exact ix_D_ret kq_Rt_firstCells i_Rt_firstCells_30 (ix_rtL rfl _)
  · refine ix_K_px kq_Rt_firstCells i_Rt_firstCells_11 rfl rfl ?_
    refine ix_K_px kq_Rt_firstCells i_Rt_firstCells_12 rfl rfl ?_
    refine ix_K_px kq_Rt_firstCells i_Rt_firstCells_13 rfl rfl ?_
    refine ix_K_callI (as := [.ref a0, .int x4]) (rest := [.long x2]) kq_Rt_firstCells i_Rt_firstCells_15 rfl kq_Rt_at (by decide) rfl (Or.inl rfl) (fun v2 h1 => ?_)
    refine ix_K_callL (as := [.int v2]) (rest := [.long x2]) kq_Rt_firstCells i_Rt_firstCells_18 rfl kq_RP_bit (by decide) rfl rfl (fun v4 h3 => ?_)
    refine ix_K_px kq_Rt_firstCells i_Rt_firstCells_21 rfl rfl ?_
    refine ix_K_sl (L2 := [some (.ref a0), some (.int x1), some (.long (x2 ||| v4)), none, some (.int x4)]) kq_Rt_firstCells i_Rt_firstCells_22 rfl (Or.inr ⟨_, rfl, rfl⟩) (Nat.le_of_ble_eq_true rfl) rfl ?_
    refine ix_K_inc (L2 := [some (.ref a0), some (.int x1), some (.long (x2 ||| v4)), none, some (.int (x4 + 1))]) kq_Rt_firstCells i_Rt_firstCells_23 rfl rfl (Nat.le_of_ble_eq_true rfl) kci_1 rfl ?_
    refine ix_K_goto (tgt := 5) kq_Rt_firstCells i_Rt_firstCells_26 rfl (by decide) ?_
    exact ix_D_cut i_Rt_firstCells_5 rfl
set_option maxRecDepth 20000 in
set_option maxHeartbeats 1000000 in
theorem e_Rt_firstCells (a0 : Nat) (x1 : Int32) (h : ixH) : ix_D mRt_firstCells 0 [some (.ref a0), some (.int x1), none, none, none] [] h = l_Rt_firstCells_5 a0 x1 0 0 h := by
  refine ix_K_cl kq_Rt_firstCells i_Rt_firstCells_0 rfl kcl_0 ?_
  refine ix_K_sl (L2 := [some (.ref a0), some (.int x1), some (.long 0), none, none]) kq_Rt_firstCells i_Rt_firstCells_1 rfl (Or.inr ⟨_, rfl, rfl⟩) (Nat.le_of_ble_eq_true rfl) rfl ?_
  refine ix_K_ci kq_Rt_firstCells i_Rt_firstCells_2 rfl kci_0 ?_
  refine ix_K_si (L2 := [some (.ref a0), some (.int x1), some (.long 0), none, some (.int 0)]) kq_Rt_firstCells i_Rt_firstCells_3 rfl (Or.inl rfl) (Nat.le_of_ble_eq_true rfl) rfl ?_
  exact ix_D_cut i_Rt_firstCells_5 rfl
theorem x_Rt_firstCells {a0 : Nat} {x1 : Int32} {h h1 : ixH} {v : Int64} (hr : ix_rc h a0 = some 3) (hd : ix_D mRt_firstCells 0 [some (.ref a0), some (.int x1), none, none, none] [] h = some ([.long v], h1)) : ix_M mRt_firstCells [.ref a0, .int x1] h = some ([.long v], h1) := ix_M_of (ix_ent_i kq_Rt_firstCells rfl hr rfl (Nat.le_of_ble_eq_true rfl) rfl) hd (ix_okrL rfl v)
theorem i_Rt_at_0 : ix_nx mRt_at 0 = some (0, .iload_n 1, 1, none, [], 0) := rfl
theorem i_Rt_at_1 : ix_nx mRt_at 1 = some (0, .ifCond .lt 26, 4, none, [], 0) := rfl
theorem i_Rt_at_4 : ix_nx mRt_at 4 = some (0, .iload_n 1, 5, none, [], 0) := rfl
theorem i_Rt_at_5 : ix_nx mRt_at 5 = some (0, .aload_n 0, 6, none, [], 0) := rfl
theorem i_Rt_at_6 : ix_nx mRt_at 6 = some (1, .getfield 15, 9, none, [3, 1, 0, 25], 0) := rfl
theorem i_Rt_at_9 : ix_nx mRt_at 9 = some (0, .if_icmp .ge 18, 12, none, [], 0) := rfl
theorem i_Rt_at_12 : ix_nx mRt_at 12 = some (0, .iload_n 1, 13, none, [], 0) := rfl
theorem i_Rt_at_13 : ix_nx mRt_at 13 = some (0, .bipush 64, 15, none, [], 0) := rfl
theorem i_Rt_at_15 : ix_nx mRt_at 15 = some (0, .if_icmp .ge 12, 18, none, [], 0) := rfl
theorem i_Rt_at_18 : ix_nx mRt_at 18 = some (0, .aload_n 0, 19, none, [], 0) := rfl
theorem i_Rt_at_19 : ix_nx mRt_at 19 = some (1, .getfield 9, 22, none, [3, 0, 2, 24], 0) := rfl
theorem i_Rt_at_22 : ix_nx mRt_at 22 = some (0, .iload_n 1, 23, none, [], 0) := rfl
theorem i_Rt_at_23 : ix_nx mRt_at 23 = some (1, .iaload, 24, none, [], 0) := rfl
theorem i_Rt_at_24 : ix_nx mRt_at 24 = some (0, .goto 5, 27, none, [], 0) := rfl
theorem i_Rt_at_27 : ix_nx mRt_at 27 = some (0, .bipush (-6), 29, none, [], 0) := rfl
theorem i_Rt_at_29 : ix_nx mRt_at 29 = some (4, .ireturn, 30, none, [], 0) := rfl
set_option maxRecDepth 20000 in
set_option maxHeartbeats 1000000 in
theorem e_Rt_at (a0 : Nat) (x1 : Int32) (h : ixH) : ix_D mRt_at 0 [some (.ref a0), some (.int x1)] [] h = if x1 < 0 then some ([.int (-6)], h) else (ix_gi h a0 3 1).bind fun v1 => if v1 ≤ x1 then some ([.int (-6)], h) else if 64 ≤ x1 then some ([.int (-6)], h) else (ix_gr h a0 3 0).bind fun v2 => (ix_ai h v2 x1).bind fun v3 => some ([.int v3], h) := by
  refine ix_K_px kq_Rt_at i_Rt_at_0 rfl rfl ?_
  refine ix_K_if_lt (tgt := 27) kq_Rt_at i_Rt_at_1 rfl (by decide) ?_ ?_
  · refine ix_K_cb kq_Rt_at i_Rt_at_27 rfl kcb_m6 ?_
    exact ix_D_ret kq_Rt_at i_Rt_at_29 (ix_rtI rfl _)
  · refine ix_K_px kq_Rt_at i_Rt_at_4 rfl rfl ?_
    refine ix_K_px kq_Rt_at i_Rt_at_5 rfl rfl ?_
    refine ix_K_gi kq_Rt_at i_Rt_at_6 rfl (fun v1 => ?_)
    refine ix_K_ic_ge (tgt := 27) kq_Rt_at i_Rt_at_9 rfl (by decide) ?_ ?_
    · refine ix_K_cb kq_Rt_at i_Rt_at_27 rfl kcb_m6 ?_
      exact ix_D_ret kq_Rt_at i_Rt_at_29 (ix_rtI rfl _)
    · refine ix_K_px kq_Rt_at i_Rt_at_12 rfl rfl ?_
      refine ix_K_cb kq_Rt_at i_Rt_at_13 rfl kcb_64 ?_
      refine ix_K_ic_ge (tgt := 27) kq_Rt_at i_Rt_at_15 rfl (by decide) ?_ ?_
      · refine ix_K_cb kq_Rt_at i_Rt_at_27 rfl kcb_m6 ?_
        exact ix_D_ret kq_Rt_at i_Rt_at_29 (ix_rtI rfl _)
      · refine ix_K_px kq_Rt_at i_Rt_at_18 rfl rfl ?_
        refine ix_K_gr kq_Rt_at i_Rt_at_19 rfl (fun v2 => ?_)
        refine ix_K_px kq_Rt_at i_Rt_at_22 rfl rfl ?_
        refine ix_K_ai kq_Rt_at i_Rt_at_23 rfl (fun v3 => ?_)
        refine ix_K_goto (tgt := 29) kq_Rt_at i_Rt_at_24 rfl (by decide) ?_
        exact ix_D_ret kq_Rt_at i_Rt_at_29 (ix_rtI rfl _)
theorem x_Rt_at {a0 : Nat} {x1 : Int32} {h h1 : ixH} {v : Int32} (hr : ix_rc h a0 = some 3) (hd : ix_D mRt_at 0 [some (.ref a0), some (.int x1)] [] h = some ([.int v], h1)) : ix_M mRt_at [.ref a0, .int x1] h = some ([.int v], h1) := ix_M_of (ix_ent_i kq_Rt_at rfl hr rfl (Nat.le_of_ble_eq_true rfl) rfl) hd (ix_okrI (Or.inl rfl) v)
theorem i_Rt_last_0 : ix_nx mRt_last 0 = some (0, .aload_n 0, 1, none, [], 0) := rfl
theorem i_Rt_last_1 : ix_nx mRt_last 1 = some (0, .aload_n 0, 2, none, [], 0) := rfl
theorem i_Rt_last_2 : ix_nx mRt_last 2 = some (1, .getfield 15, 5, none, [3, 1, 0, 25], 0) := rfl
theorem i_Rt_last_5 : ix_nx mRt_last 5 = some (0, .iconst 1, 6, none, [], 0) := rfl
theorem i_Rt_last_6 : ix_nx mRt_last 6 = some (0, .isub, 7, none, [], 0) := rfl
theorem i_Rt_last_7 : ix_nx mRt_last 7 = some (3, .invokevirtual 23, 10, none, [0, 82, 94], 0) := rfl
theorem i_Rt_last_10 : ix_nx mRt_last 10 = some (4, .ireturn, 11, none, [], 0) := rfl
set_option maxRecDepth 20000 in
set_option maxHeartbeats 1000000 in
theorem e_Rt_last (a0 : Nat) (h : ixH) : ix_D mRt_last 0 [some (.ref a0)] [] h = (ix_gi h a0 3 1).bind fun v1 => (ix_M mRt_at [.ref a0, .int (v1 - 1)] h).bind fun r => ix_kI r fun v3 h2 => some ([.int v3], h2) := by
  refine ix_K_px kq_Rt_last i_Rt_last_0 rfl rfl ?_
  refine ix_K_px kq_Rt_last i_Rt_last_1 rfl rfl ?_
  refine ix_K_gi kq_Rt_last i_Rt_last_2 rfl (fun v1 => ?_)
  refine ix_K_ci kq_Rt_last i_Rt_last_5 rfl kci_1 ?_
  refine ix_K_px kq_Rt_last i_Rt_last_6 rfl rfl ?_
  refine ix_K_callI (as := [.ref a0, .int (v1 - 1)]) (rest := []) kq_Rt_last i_Rt_last_7 rfl kq_Rt_at (by decide) rfl (Or.inl rfl) (fun v3 h2 => ?_)
  exact ix_D_ret kq_Rt_last i_Rt_last_10 (ix_rtI rfl _)
theorem x_Rt_last {a0 : Nat} {h h1 : ixH} {v : Int32} (hr : ix_rc h a0 = some 3) (hd : ix_D mRt_last 0 [some (.ref a0)] [] h = some ([.int v], h1)) : ix_M mRt_last [.ref a0] h = some ([.int v], h1) := ix_M_of (ix_ent_i kq_Rt_last rfl hr rfl (Nat.le_of_ble_eq_true rfl) rfl) hd (ix_okrI (Or.inl rfl) v)
theorem i_Rt_append_0 : ix_nx mRt_append 0 = some (0, .aload_n 0, 1, none, [], 0) := rfl
theorem i_Rt_append_1 : ix_nx mRt_append 1 = some (1, .getfield 15, 4, none, [3, 1, 0, 25], 0) := rfl
theorem i_Rt_append_4 : ix_nx mRt_append 4 = some (0, .ifCond .lt 45, 7, none, [], 0) := rfl
theorem i_Rt_append_7 : ix_nx mRt_append 7 = some (0, .aload_n 0, 8, none, [], 0) := rfl
theorem i_Rt_append_8 : ix_nx mRt_append 8 = some (1, .getfield 15, 11, none, [3, 1, 0, 25], 0) := rfl
theorem i_Rt_append_11 : ix_nx mRt_append 11 = some (0, .bipush 64, 13, none, [], 0) := rfl
theorem i_Rt_append_13 : ix_nx mRt_append 13 = some (0, .if_icmp .ge 36, 16, none, [], 0) := rfl
theorem i_Rt_append_16 : ix_nx mRt_append 16 = some (0, .aload_n 0, 17, none, [], 0) := rfl
theorem i_Rt_append_17 : ix_nx mRt_append 17 = some (1, .getfield 9, 20, none, [3, 0, 2, 24], 0) := rfl
theorem i_Rt_append_20 : ix_nx mRt_append 20 = some (0, .aload_n 0, 21, none, [], 0) := rfl
theorem i_Rt_append_21 : ix_nx mRt_append 21 = some (1, .getfield 15, 24, none, [3, 1, 0, 25], 0) := rfl
theorem i_Rt_append_24 : ix_nx mRt_append 24 = some (0, .iload_n 1, 25, none, [], 0) := rfl
theorem i_Rt_append_25 : ix_nx mRt_append 25 = some (2, .iastore, 26, none, [], 0) := rfl
theorem i_Rt_append_26 : ix_nx mRt_append 26 = some (0, .aload_n 0, 27, none, [], 0) := rfl
theorem i_Rt_append_27 : ix_nx mRt_append 27 = some (0, .dup, 28, none, [], 0) := rfl
theorem i_Rt_append_28 : ix_nx mRt_append 28 = some (1, .getfield 15, 31, none, [3, 1, 0, 25], 0) := rfl
theorem i_Rt_append_31 : ix_nx mRt_append 31 = some (0, .iconst 1, 32, none, [], 0) := rfl
theorem i_Rt_append_32 : ix_nx mRt_append 32 = some (0, .iadd, 33, none, [], 0) := rfl
theorem i_Rt_append_33 : ix_nx mRt_append 33 = some (2, .putfield 15, 36, none, [3, 1, 0, 25], 0) := rfl
theorem i_Rt_append_36 : ix_nx mRt_append 36 = some (0, .aload_n 0, 37, none, [], 0) := rfl
theorem i_Rt_append_37 : ix_nx mRt_append 37 = some (0, .dup, 38, none, [], 0) := rfl
theorem i_Rt_append_38 : ix_nx mRt_append 38 = some (1, .getfield 19, 41, none, [3, 2, 1, 28], 0) := rfl
theorem i_Rt_append_41 : ix_nx mRt_append 41 = some (0, .iload_n 1, 42, none, [], 0) := rfl
theorem i_Rt_append_42 : ix_nx mRt_append 42 = some (3, .invokestatic 27, 45, none, [3, 1, 95], 0) := rfl
theorem i_Rt_append_45 : ix_nx mRt_append 45 = some (0, .lor, 46, none, [], 0) := rfl
theorem i_Rt_append_46 : ix_nx mRt_append 46 = some (2, .putfield 19, 49, none, [3, 2, 1, 28], 0) := rfl
theorem i_Rt_append_49 : ix_nx mRt_append 49 = some (4, .return_, 50, none, [], 0) := rfl
set_option maxRecDepth 20000 in
set_option maxHeartbeats 1000000 in
theorem e_Rt_append (a0 : Nat) (x1 : Int32) (h : ixH) : ix_D mRt_append 0 [some (.ref a0), some (.int x1)] [] h = (ix_gi h a0 3 1).bind fun v1 => if v1 < 0 then some ([], h) else (ix_gi h a0 3 1).bind fun v2 => if 64 ≤ v2 then some ([], h) else (ix_gr h a0 3 0).bind fun v3 => (ix_gi h a0 3 1).bind fun v4 => (ix_si h v3 v4 x1).bind fun h5 => (ix_gi h5 a0 3 1).bind fun v6 => (ix_pf h5 a0 3 1 (.int (v6 + 1))).bind fun h7 => (ix_gl h7 a0 3 2).bind fun v8 => (ix_M mRP_bit [.int x1] h7).bind fun r => ix_kL r fun v10 h9 => (ix_pf h9 a0 3 2 (.long (v8 ||| v10))).bind fun h11 => some ([], h11) := by
  refine ix_K_px kq_Rt_append i_Rt_append_0 rfl rfl ?_
  refine ix_K_gi kq_Rt_append i_Rt_append_1 rfl (fun v1 => ?_)
  refine ix_K_if_lt (tgt := 49) kq_Rt_append i_Rt_append_4 rfl (by decide) ?_ ?_
  · exact ix_D_ret kq_Rt_append i_Rt_append_49 (ix_rtV rfl)
  · refine ix_K_px kq_Rt_append i_Rt_append_7 rfl rfl ?_
    refine ix_K_gi kq_Rt_append i_Rt_append_8 rfl (fun v2 => ?_)
    refine ix_K_cb kq_Rt_append i_Rt_append_11 rfl kcb_64 ?_
    refine ix_K_ic_ge (tgt := 49) kq_Rt_append i_Rt_append_13 rfl (by decide) ?_ ?_
    · exact ix_D_ret kq_Rt_append i_Rt_append_49 (ix_rtV rfl)
    · refine ix_K_px kq_Rt_append i_Rt_append_16 rfl rfl ?_
      refine ix_K_gr kq_Rt_append i_Rt_append_17 rfl (fun v3 => ?_)
      refine ix_K_px kq_Rt_append i_Rt_append_20 rfl rfl ?_
      refine ix_K_gi kq_Rt_append i_Rt_append_21 rfl (fun v4 => ?_)
      refine ix_K_px kq_Rt_append i_Rt_append_24 rfl rfl ?_
      refine ix_K_ti kq_Rt_append i_Rt_append_25 rfl (fun h5 => ?_)
      refine ix_K_px kq_Rt_append i_Rt_append_26 rfl rfl ?_
      refine ix_K_px kq_Rt_append i_Rt_append_27 rfl rfl ?_
      refine ix_K_gi kq_Rt_append i_Rt_append_28 rfl (fun v6 => ?_)
      refine ix_K_ci kq_Rt_append i_Rt_append_31 rfl kci_1 ?_
      refine ix_K_px kq_Rt_append i_Rt_append_32 rfl rfl ?_
      refine ix_K_pf kq_Rt_append i_Rt_append_33 rfl rfl (fun h7 => ?_)
      refine ix_K_px kq_Rt_append i_Rt_append_36 rfl rfl ?_
      refine ix_K_px kq_Rt_append i_Rt_append_37 rfl rfl ?_
      refine ix_K_gl kq_Rt_append i_Rt_append_38 rfl (fun v8 => ?_)
      refine ix_K_px kq_Rt_append i_Rt_append_41 rfl rfl ?_
      refine ix_K_callL (as := [.int x1]) (rest := [.long v8, .ref a0]) kq_Rt_append i_Rt_append_42 rfl kq_RP_bit (by decide) rfl rfl (fun v10 h9 => ?_)
      refine ix_K_px kq_Rt_append i_Rt_append_45 rfl rfl ?_
      refine ix_K_pf kq_Rt_append i_Rt_append_46 rfl rfl (fun h11 => ?_)
      exact ix_D_ret kq_Rt_append i_Rt_append_49 (ix_rtV rfl)
theorem x_Rt_append {a0 : Nat} {x1 : Int32} {h h1 : ixH} (hr : ix_rc h a0 = some 3) (hd : ix_D mRt_append 0 [some (.ref a0), some (.int x1)] [] h = some ([], h1)) : ix_M mRt_append [.ref a0, .int x1] h = some ([], h1) := ix_M_of (ix_ent_i kq_Rt_append rfl hr rfl (Nat.le_of_ble_eq_true rfl) rfl) hd (ix_okrV rfl)
theorem i_Rt_onlyRises_0 : ix_nx mRt_onlyRises 0 = some (0, .iconst 1, 1, none, [], 0) := rfl
theorem i_Rt_onlyRises_1 : ix_nx mRt_onlyRises 1 = some (0, .istore_n 1, 2, none, [], 0) := rfl
theorem i_Rt_onlyRises_2 : ix_nx mRt_onlyRises 2 = some (0, .iload_n 1, 3, some [true, true], [], 0) := rfl
theorem i_Rt_onlyRises_3 : ix_nx mRt_onlyRises 3 = some (0, .aload_n 0, 4, none, [], 0) := rfl
theorem i_Rt_onlyRises_4 : ix_nx mRt_onlyRises 4 = some (1, .getfield 15, 7, none, [3, 1, 0, 25], 0) := rfl
theorem i_Rt_onlyRises_7 : ix_nx mRt_onlyRises 7 = some (0, .if_icmp .ge 26, 10, none, [], 0) := rfl
theorem i_Rt_onlyRises_10 : ix_nx mRt_onlyRises 10 = some (0, .aload_n 0, 11, none, [], 0) := rfl
theorem i_Rt_onlyRises_11 : ix_nx mRt_onlyRises 11 = some (0, .iload_n 1, 12, none, [], 0) := rfl
theorem i_Rt_onlyRises_12 : ix_nx mRt_onlyRises 12 = some (3, .invokevirtual 23, 15, none, [0, 82, 94], 0) := rfl
theorem i_Rt_onlyRises_15 : ix_nx mRt_onlyRises 15 = some (0, .aload_n 0, 16, none, [], 0) := rfl
theorem i_Rt_onlyRises_16 : ix_nx mRt_onlyRises 16 = some (0, .iload_n 1, 17, none, [], 0) := rfl
theorem i_Rt_onlyRises_17 : ix_nx mRt_onlyRises 17 = some (0, .iconst 1, 18, none, [], 0) := rfl
theorem i_Rt_onlyRises_18 : ix_nx mRt_onlyRises 18 = some (0, .isub, 19, none, [], 0) := rfl
theorem i_Rt_onlyRises_19 : ix_nx mRt_onlyRises 19 = some (3, .invokevirtual 23, 22, none, [0, 82, 94], 0) := rfl
theorem i_Rt_onlyRises_22 : ix_nx mRt_onlyRises 22 = some (0, .if_icmp .ge 5, 25, none, [], 0) := rfl
theorem i_Rt_onlyRises_25 : ix_nx mRt_onlyRises 25 = some (0, .iconst 0, 26, none, [], 0) := rfl
theorem i_Rt_onlyRises_26 : ix_nx mRt_onlyRises 26 = some (4, .ireturn, 27, none, [], 0) := rfl
theorem i_Rt_onlyRises_27 : ix_nx mRt_onlyRises 27 = some (0, .iinc 1 1, 30, none, [], 0) := rfl
theorem i_Rt_onlyRises_30 : ix_nx mRt_onlyRises 30 = some (0, .goto (-28), 33, none, [], 0) := rfl
theorem i_Rt_onlyRises_33 : ix_nx mRt_onlyRises 33 = some (0, .iconst 1, 34, none, [], 0) := rfl
theorem i_Rt_onlyRises_34 : ix_nx mRt_onlyRises 34 = some (4, .ireturn, 35, none, [], 0) := rfl
noncomputable def l_Rt_onlyRises_2 (a0 : Nat) (x1 : Int32) (h : ixH) : Option (List Value × ixH) := ix_D mRt_onlyRises 2 [some (.ref a0), some (.int x1)] [] h
set_option maxRecDepth 20000 in
set_option maxHeartbeats 1000000 in
theorem e_Rt_onlyRises_2 (a0 : Nat) (x1 : Int32) (h : ixH) : l_Rt_onlyRises_2 a0 x1 h = (ix_gi h a0 3 1).bind fun v1 => if v1 ≤ x1 then some ([.int (ix_bi true)], h) else (ix_M mRt_at [.ref a0, .int x1] h).bind fun r => ix_kI r fun v3 h2 => (ix_M mRt_at [.ref a0, .int (x1 - 1)] h2).bind fun r => ix_kI r fun v5 h4 => if v5 ≤ v3 then l_Rt_onlyRises_2 a0 (x1 + 1) h4 else some ([.int (ix_bi false)], h4) := by
  unfold l_Rt_onlyRises_2
  refine ix_K_px kq_Rt_onlyRises i_Rt_onlyRises_2 rfl rfl ?_
  refine ix_K_px kq_Rt_onlyRises i_Rt_onlyRises_3 rfl rfl ?_
  refine ix_K_gi kq_Rt_onlyRises i_Rt_onlyRises_4 rfl (fun v1 => ?_)
  refine ix_K_ic_ge (tgt := 33) kq_Rt_onlyRises i_Rt_onlyRises_7 rfl (by decide) ?_ ?_
  · refine ix_K_ci kq_Rt_onlyRises i_Rt_onlyRises_33 rfl kci_1 ?_
    exact ix_D_ret kq_Rt_onlyRises i_Rt_onlyRises_34 (ix_rtZ rfl true)
  · refine ix_K_px kq_Rt_onlyRises i_Rt_onlyRises_10 rfl rfl ?_
    refine ix_K_px kq_Rt_onlyRises i_Rt_onlyRises_11 rfl rfl ?_
    refine ix_K_callI (as := [.ref a0, .int x1]) (rest := []) kq_Rt_onlyRises i_Rt_onlyRises_12 rfl kq_Rt_at (by decide) rfl (Or.inl rfl) (fun v3 h2 => ?_)
    refine ix_K_px kq_Rt_onlyRises i_Rt_onlyRises_15 rfl rfl ?_
    refine ix_K_px kq_Rt_onlyRises i_Rt_onlyRises_16 rfl rfl ?_
    refine ix_K_ci kq_Rt_onlyRises i_Rt_onlyRises_17 rfl kci_1 ?_
    refine ix_K_px kq_Rt_onlyRises i_Rt_onlyRises_18 rfl rfl ?_
    refine ix_K_callI (as := [.ref a0, .int (x1 - 1)]) (rest := [.int v3]) kq_Rt_onlyRises i_Rt_onlyRises_19 rfl kq_Rt_at (by decide) rfl (Or.inl rfl) (fun v5 h4 => ?_)
    refine ix_K_ic_ge (tgt := 27) kq_Rt_onlyRises i_Rt_onlyRises_22 rfl (by decide) ?_ ?_
    · refine ix_K_inc (L2 := [some (.ref a0), some (.int (x1 + 1))]) kq_Rt_onlyRises i_Rt_onlyRises_27 rfl rfl (Nat.le_of_ble_eq_true rfl) kci_1 rfl ?_
      refine ix_K_goto (tgt := 2) kq_Rt_onlyRises i_Rt_onlyRises_30 rfl (by decide) ?_
      exact ix_D_cut i_Rt_onlyRises_2 rfl
    · refine ix_K_ci kq_Rt_onlyRises i_Rt_onlyRises_25 rfl kci_0 ?_
      exact ix_D_ret kq_Rt_onlyRises i_Rt_onlyRises_26 (ix_rtZ rfl false)
set_option maxRecDepth 20000 in
set_option maxHeartbeats 1000000 in
theorem e_Rt_onlyRises (a0 : Nat) (h : ixH) : ix_D mRt_onlyRises 0 [some (.ref a0), none] [] h = l_Rt_onlyRises_2 a0 1 h := by
  refine ix_K_ci kq_Rt_onlyRises i_Rt_onlyRises_0 rfl kci_1 ?_
  refine ix_K_si (L2 := [some (.ref a0), some (.int 1)]) kq_Rt_onlyRises i_Rt_onlyRises_1 rfl (Or.inr ⟨_, rfl, rfl⟩) (Nat.le_of_ble_eq_true rfl) rfl ?_
  exact ix_D_cut i_Rt_onlyRises_2 rfl
theorem x_Rt_onlyRises {a0 : Nat} {h h1 : ixH} {v : Bool} (hr : ix_rc h a0 = some 3) (hd : ix_D mRt_onlyRises 0 [some (.ref a0), none] [] h = some ([.int (ix_bi v)], h1)) : ix_M mRt_onlyRises [.ref a0] h = some ([.int (ix_bi v)], h1) := ix_M_of (ix_ent_i kq_Rt_onlyRises rfl hr rfl (Nat.le_of_ble_eq_true rfl) rfl) hd (ix_okrZ rfl v)
theorem i_Rt_indexOf_0 : ix_nx mRt_indexOf 0 = some (0, .iconst 0, 1, none, [], 0) := rfl
theorem i_Rt_indexOf_1 : ix_nx mRt_indexOf 1 = some (0, .istore_n 2, 2, none, [], 0) := rfl
theorem i_Rt_indexOf_2 : ix_nx mRt_indexOf 2 = some (0, .iload_n 2, 3, some [true, true, true], [], 0) := rfl
theorem i_Rt_indexOf_3 : ix_nx mRt_indexOf 3 = some (0, .aload_n 0, 4, none, [], 0) := rfl
theorem i_Rt_indexOf_4 : ix_nx mRt_indexOf 4 = some (1, .getfield 15, 7, none, [3, 1, 0, 25], 0) := rfl
theorem i_Rt_indexOf_7 : ix_nx mRt_indexOf 7 = some (0, .if_icmp .ge 20, 10, none, [], 0) := rfl
theorem i_Rt_indexOf_10 : ix_nx mRt_indexOf 10 = some (0, .aload_n 0, 11, none, [], 0) := rfl
theorem i_Rt_indexOf_11 : ix_nx mRt_indexOf 11 = some (0, .iload_n 2, 12, none, [], 0) := rfl
theorem i_Rt_indexOf_12 : ix_nx mRt_indexOf 12 = some (3, .invokevirtual 23, 15, none, [0, 82, 94], 0) := rfl
theorem i_Rt_indexOf_15 : ix_nx mRt_indexOf 15 = some (0, .iload_n 1, 16, none, [], 0) := rfl
theorem i_Rt_indexOf_16 : ix_nx mRt_indexOf 16 = some (0, .if_icmp .ne 5, 19, none, [], 0) := rfl
theorem i_Rt_indexOf_19 : ix_nx mRt_indexOf 19 = some (0, .iload_n 2, 20, none, [], 0) := rfl
theorem i_Rt_indexOf_20 : ix_nx mRt_indexOf 20 = some (4, .ireturn, 21, none, [], 0) := rfl
theorem i_Rt_indexOf_21 : ix_nx mRt_indexOf 21 = some (0, .iinc 2 1, 24, none, [], 0) := rfl
theorem i_Rt_indexOf_24 : ix_nx mRt_indexOf 24 = some (0, .goto (-22), 27, none, [], 0) := rfl
theorem i_Rt_indexOf_27 : ix_nx mRt_indexOf 27 = some (0, .iconst (-1), 28, none, [], 0) := rfl
theorem i_Rt_indexOf_28 : ix_nx mRt_indexOf 28 = some (4, .ireturn, 29, none, [], 0) := rfl
noncomputable def l_Rt_indexOf_2 (a0 : Nat) (x1 : Int32) (x2 : Int32) (h : ixH) : Option (List Value × ixH) := ix_D mRt_indexOf 2 [some (.ref a0), some (.int x1), some (.int x2)] [] h
set_option maxRecDepth 20000 in
set_option maxHeartbeats 1000000 in
theorem e_Rt_indexOf_2 (a0 : Nat) (x1 : Int32) (x2 : Int32) (h : ixH) : l_Rt_indexOf_2 a0 x1 x2 h = (ix_gi h a0 3 1).bind fun v1 => if v1 ≤ x2 then some ([.int (-1)], h) else (ix_M mRt_at [.ref a0, .int x2] h).bind fun r => ix_kI r fun v3 h2 => if ¬ v3 = x1 then l_Rt_indexOf_2 a0 x1 (x2 + 1) h2 else some ([.int x2], h2) := by
  unfold l_Rt_indexOf_2
  refine ix_K_px kq_Rt_indexOf i_Rt_indexOf_2 rfl rfl ?_
  refine ix_K_px kq_Rt_indexOf i_Rt_indexOf_3 rfl rfl ?_
  refine ix_K_gi kq_Rt_indexOf i_Rt_indexOf_4 rfl (fun v1 => ?_)
  refine ix_K_ic_ge (tgt := 27) kq_Rt_indexOf i_Rt_indexOf_7 rfl (by decide) ?_ ?_
  · refine ix_K_ci kq_Rt_indexOf i_Rt_indexOf_27 rfl kci_m1 ?_
    exact ix_D_ret kq_Rt_indexOf i_Rt_indexOf_28 (ix_rtI rfl _)
  · refine ix_K_px kq_Rt_indexOf i_Rt_indexOf_10 rfl rfl ?_
    refine ix_K_px kq_Rt_indexOf i_Rt_indexOf_11 rfl rfl ?_
    refine ix_K_callI (as := [.ref a0, .int x2]) (rest := []) kq_Rt_indexOf i_Rt_indexOf_12 rfl kq_Rt_at (by decide) rfl (Or.inl rfl) (fun v3 h2 => ?_)
    refine ix_K_px kq_Rt_indexOf i_Rt_indexOf_15 rfl rfl ?_
    refine ix_K_ic_ne (tgt := 21) kq_Rt_indexOf i_Rt_indexOf_16 rfl (by decide) ?_ ?_
    · refine ix_K_inc (L2 := [some (.ref a0), some (.int x1), some (.int (x2 + 1))]) kq_Rt_indexOf i_Rt_indexOf_21 rfl rfl (Nat.le_of_ble_eq_true rfl) kci_1 rfl ?_
      refine ix_K_goto (tgt := 2) kq_Rt_indexOf i_Rt_indexOf_24 rfl (by decide) ?_
      exact ix_D_cut i_Rt_indexOf_2 rfl
    · refine ix_K_px kq_Rt_indexOf i_Rt_indexOf_19 rfl rfl ?_
      exact ix_D_ret kq_Rt_indexOf i_Rt_indexOf_20 (ix_rtI rfl _)
set_option maxRecDepth 20000 in
set_option maxHeartbeats 1000000 in
theorem e_Rt_indexOf (a0 : Nat) (x1 : Int32) (h : ixH) : ix_D mRt_indexOf 0 [some (.ref a0), some (.int x1), none] [] h = l_Rt_indexOf_2 a0 x1 0 h := by
  refine ix_K_ci kq_Rt_indexOf i_Rt_indexOf_0 rfl kci_0 ?_
  refine ix_K_si (L2 := [some (.ref a0), some (.int x1), some (.int 0)]) kq_Rt_indexOf i_Rt_indexOf_1 rfl (Or.inr ⟨_, rfl, rfl⟩) (Nat.le_of_ble_eq_true rfl) rfl ?_
  exact ix_D_cut i_Rt_indexOf_2 rfl
theorem x_Rt_indexOf {a0 : Nat} {x1 : Int32} {h h1 : ixH} {v : Int32} (hr : ix_rc h a0 = some 3) (hd : ix_D mRt_indexOf 0 [some (.ref a0), some (.int x1), none] [] h = some ([.int v], h1)) : ix_M mRt_indexOf [.ref a0, .int x1] h = some ([.int v], h1) := ix_M_of (ix_ent_i kq_Rt_indexOf rfl hr rfl (Nat.le_of_ble_eq_true rfl) rfl) hd (ix_okrI (Or.inl rfl) v)
theorem i_Rt_copyFrom_0 : ix_nx mRt_copyFrom 0 = some (0, .aload_n 1, 1, none, [], 0) := rfl
theorem i_Rt_copyFrom_1 : ix_nx mRt_copyFrom 1 = some (1, .getfield 9, 4, none, [3, 0, 2, 24], 0) := rfl
theorem i_Rt_copyFrom_4 : ix_nx mRt_copyFrom 4 = some (0, .iconst 0, 5, none, [], 0) := rfl
theorem i_Rt_copyFrom_5 : ix_nx mRt_copyFrom 5 = some (0, .aload_n 0, 6, none, [], 0) := rfl
theorem i_Rt_copyFrom_6 : ix_nx mRt_copyFrom 6 = some (1, .getfield 9, 9, none, [3, 0, 2, 24], 0) := rfl
theorem i_Rt_copyFrom_9 : ix_nx mRt_copyFrom 9 = some (0, .iconst 0, 10, none, [], 0) := rfl
theorem i_Rt_copyFrom_10 : ix_nx mRt_copyFrom 10 = some (0, .bipush 64, 12, none, [], 0) := rfl
theorem i_Rt_copyFrom_12 : ix_nx mRt_copyFrom 12 = some (5, .invokestatic 38, 15, none, [7, 96], 0) := rfl
theorem i_Rt_copyFrom_15 : ix_nx mRt_copyFrom 15 = some (0, .aload_n 0, 16, none, [], 0) := rfl
theorem i_Rt_copyFrom_16 : ix_nx mRt_copyFrom 16 = some (0, .aload_n 1, 17, none, [], 0) := rfl
theorem i_Rt_copyFrom_17 : ix_nx mRt_copyFrom 17 = some (1, .getfield 15, 20, none, [3, 1, 0, 25], 0) := rfl
theorem i_Rt_copyFrom_20 : ix_nx mRt_copyFrom 20 = some (2, .putfield 15, 23, none, [3, 1, 0, 25], 0) := rfl
theorem i_Rt_copyFrom_23 : ix_nx mRt_copyFrom 23 = some (0, .aload_n 0, 24, none, [], 0) := rfl
theorem i_Rt_copyFrom_24 : ix_nx mRt_copyFrom 24 = some (0, .aload_n 1, 25, none, [], 0) := rfl
theorem i_Rt_copyFrom_25 : ix_nx mRt_copyFrom 25 = some (1, .getfield 19, 28, none, [3, 2, 1, 28], 0) := rfl
theorem i_Rt_copyFrom_28 : ix_nx mRt_copyFrom 28 = some (2, .putfield 19, 31, none, [3, 2, 1, 28], 0) := rfl
theorem i_Rt_copyFrom_31 : ix_nx mRt_copyFrom 31 = some (4, .return_, 32, none, [], 0) := rfl
set_option maxRecDepth 20000 in
set_option maxHeartbeats 1000000 in
theorem e_Rt_copyFrom (a0 : Nat) (a1 : Nat) (h : ixH) : ix_D mRt_copyFrom 0 [some (.ref a0), some (.ref a1)] [] h = (ix_gr h a1 3 0).bind fun v1 => (ix_gr h a0 3 0).bind fun v2 => (ix_cp h v1 0 v2 0 64).bind fun h3 => (ix_gi h3 a1 3 1).bind fun v4 => (ix_pf h3 a0 3 1 (.int v4)).bind fun h5 => (ix_gl h5 a1 3 2).bind fun v6 => (ix_pf h5 a0 3 2 (.long v6)).bind fun h7 => some ([], h7) := by
  refine ix_K_px kq_Rt_copyFrom i_Rt_copyFrom_0 rfl rfl ?_
  refine ix_K_gr kq_Rt_copyFrom i_Rt_copyFrom_1 rfl (fun v1 => ?_)
  refine ix_K_ci kq_Rt_copyFrom i_Rt_copyFrom_4 rfl kci_0 ?_
  refine ix_K_px kq_Rt_copyFrom i_Rt_copyFrom_5 rfl rfl ?_
  refine ix_K_gr kq_Rt_copyFrom i_Rt_copyFrom_6 rfl (fun v2 => ?_)
  refine ix_K_ci kq_Rt_copyFrom i_Rt_copyFrom_9 rfl kci_0 ?_
  refine ix_K_cb kq_Rt_copyFrom i_Rt_copyFrom_10 rfl kcb_64 ?_
  refine ix_K_cp kq_Rt_copyFrom i_Rt_copyFrom_12 rfl (Nat.le_of_ble_eq_true rfl) (fun h3 => ?_)
  refine ix_K_px kq_Rt_copyFrom i_Rt_copyFrom_15 rfl rfl ?_
  refine ix_K_px kq_Rt_copyFrom i_Rt_copyFrom_16 rfl rfl ?_
  refine ix_K_gi kq_Rt_copyFrom i_Rt_copyFrom_17 rfl (fun v4 => ?_)
  refine ix_K_pf kq_Rt_copyFrom i_Rt_copyFrom_20 rfl rfl (fun h5 => ?_)
  refine ix_K_px kq_Rt_copyFrom i_Rt_copyFrom_23 rfl rfl ?_
  refine ix_K_px kq_Rt_copyFrom i_Rt_copyFrom_24 rfl rfl ?_
  refine ix_K_gl kq_Rt_copyFrom i_Rt_copyFrom_25 rfl (fun v6 => ?_)
  refine ix_K_pf kq_Rt_copyFrom i_Rt_copyFrom_28 rfl rfl (fun h7 => ?_)
  exact ix_D_ret kq_Rt_copyFrom i_Rt_copyFrom_31 (ix_rtV rfl)
theorem x_Rt_copyFrom {a0 : Nat} {a1 : Nat} {h h1 : ixH} (hr : ix_rc h a0 = some 3) (hd : ix_D mRt_copyFrom 0 [some (.ref a0), some (.ref a1)] [] h = some ([], h1)) : ix_M mRt_copyFrom [.ref a0, .ref a1] h = some ([], h1) := ix_M_of (ix_ent_i kq_Rt_copyFrom rfl hr rfl (Nat.le_of_ble_eq_true rfl) rfl) hd (ix_okrV rfl)
theorem i_Rt_appendFrom_0 : ix_nx mRt_appendFrom 0 = some (0, .iload_n 2, 1, none, [], 0) := rfl
theorem i_Rt_appendFrom_1 : ix_nx mRt_appendFrom 1 = some (0, .istore_n 3, 2, none, [], 0) := rfl
theorem i_Rt_appendFrom_2 : ix_nx mRt_appendFrom 2 = some (0, .iload_n 3, 3, some [true, true, false, true], [], 0) := rfl
theorem i_Rt_appendFrom_3 : ix_nx mRt_appendFrom 3 = some (0, .aload_n 1, 4, none, [], 0) := rfl
theorem i_Rt_appendFrom_4 : ix_nx mRt_appendFrom 4 = some (1, .getfield 15, 7, none, [3, 1, 0, 25], 0) := rfl
theorem i_Rt_appendFrom_7 : ix_nx mRt_appendFrom 7 = some (0, .if_icmp .ge 18, 10, none, [], 0) := rfl
theorem i_Rt_appendFrom_10 : ix_nx mRt_appendFrom 10 = some (0, .aload_n 0, 11, none, [], 0) := rfl
theorem i_Rt_appendFrom_11 : ix_nx mRt_appendFrom 11 = some (0, .aload_n 1, 12, none, [], 0) := rfl
theorem i_Rt_appendFrom_12 : ix_nx mRt_appendFrom 12 = some (0, .iload_n 3, 13, none, [], 0) := rfl
theorem i_Rt_appendFrom_13 : ix_nx mRt_appendFrom 13 = some (3, .invokevirtual 23, 16, none, [0, 82, 94], 0) := rfl
theorem i_Rt_appendFrom_16 : ix_nx mRt_appendFrom 16 = some (3, .invokevirtual 31, 19, none, [0, 84, 97], 0) := rfl
theorem i_Rt_appendFrom_19 : ix_nx mRt_appendFrom 19 = some (0, .iinc 3 1, 22, none, [], 0) := rfl
theorem i_Rt_appendFrom_22 : ix_nx mRt_appendFrom 22 = some (0, .goto (-20), 25, none, [], 0) := rfl
theorem i_Rt_appendFrom_25 : ix_nx mRt_appendFrom 25 = some (4, .return_, 26, none, [], 0) := rfl
noncomputable def l_Rt_appendFrom_2 (a0 : Nat) (a1 : Nat) (x3 : Int32) (h : ixH) : Option (List Value × ixH) := ix_D mRt_appendFrom 2 [some (.ref a0), some (.ref a1), none, some (.int x3)] [] h
set_option maxRecDepth 20000 in
set_option maxHeartbeats 1000000 in
theorem e_Rt_appendFrom_2 (a0 : Nat) (a1 : Nat) (x3 : Int32) (h : ixH) : l_Rt_appendFrom_2 a0 a1 x3 h = (ix_gi h a1 3 1).bind fun v1 => if v1 ≤ x3 then some ([], h) else (ix_M mRt_at [.ref a1, .int x3] h).bind fun r => ix_kI r fun v3 h2 => (ix_M mRt_append [.ref a0, .int v3] h2).bind fun r => ix_kV r fun h4 => l_Rt_appendFrom_2 a0 a1 (x3 + 1) h4 := by
  unfold l_Rt_appendFrom_2
  refine ix_K_px kq_Rt_appendFrom i_Rt_appendFrom_2 rfl rfl ?_
  refine ix_K_px kq_Rt_appendFrom i_Rt_appendFrom_3 rfl rfl ?_
  refine ix_K_gi kq_Rt_appendFrom i_Rt_appendFrom_4 rfl (fun v1 => ?_)
  refine ix_K_ic_ge (tgt := 25) kq_Rt_appendFrom i_Rt_appendFrom_7 rfl (by decide) ?_ ?_
  · exact ix_D_ret kq_Rt_appendFrom i_Rt_appendFrom_25 (ix_rtV rfl)
  · refine ix_K_px kq_Rt_appendFrom i_Rt_appendFrom_10 rfl rfl ?_
    refine ix_K_px kq_Rt_appendFrom i_Rt_appendFrom_11 rfl rfl ?_
    refine ix_K_px kq_Rt_appendFrom i_Rt_appendFrom_12 rfl rfl ?_
    refine ix_K_callI (as := [.ref a1, .int x3]) (rest := [.ref a0]) kq_Rt_appendFrom i_Rt_appendFrom_13 rfl kq_Rt_at (by decide) rfl (Or.inl rfl) (fun v3 h2 => ?_)
    refine ix_K_callV (as := [.ref a0, .int v3]) (rest := []) kq_Rt_appendFrom i_Rt_appendFrom_16 rfl kq_Rt_append (by decide) rfl rfl (fun h4 => ?_)
    refine ix_K_inc (L2 := [some (.ref a0), some (.ref a1), none, some (.int (x3 + 1))]) kq_Rt_appendFrom i_Rt_appendFrom_19 rfl rfl (Nat.le_of_ble_eq_true rfl) kci_1 rfl ?_
    refine ix_K_goto (tgt := 2) kq_Rt_appendFrom i_Rt_appendFrom_22 rfl (by decide) ?_
    exact ix_D_cut i_Rt_appendFrom_2 rfl
set_option maxRecDepth 20000 in
set_option maxHeartbeats 1000000 in
theorem e_Rt_appendFrom (a0 : Nat) (a1 : Nat) (x2 : Int32) (h : ixH) : ix_D mRt_appendFrom 0 [some (.ref a0), some (.ref a1), some (.int x2), none] [] h = l_Rt_appendFrom_2 a0 a1 x2 h := by
  refine ix_K_px kq_Rt_appendFrom i_Rt_appendFrom_0 rfl rfl ?_
  refine ix_K_si (L2 := [some (.ref a0), some (.ref a1), some (.int x2), some (.int x2)]) kq_Rt_appendFrom i_Rt_appendFrom_1 rfl (Or.inr ⟨_, rfl, rfl⟩) (Nat.le_of_ble_eq_true rfl) rfl ?_
  exact ix_D_cut i_Rt_appendFrom_2 rfl
theorem x_Rt_appendFrom {a0 : Nat} {a1 : Nat} {x2 : Int32} {h h1 : ixH} (hr : ix_rc h a0 = some 3) (hd : ix_D mRt_appendFrom 0 [some (.ref a0), some (.ref a1), some (.int x2), none] [] h = some ([], h1)) : ix_M mRt_appendFrom [.ref a0, .ref a1, .int x2] h = some ([], h1) := ix_M_of (ix_ent_i kq_Rt_appendFrom rfl hr rfl (Nat.le_of_ble_eq_true rfl) rfl) hd (ix_okrV rfl)
