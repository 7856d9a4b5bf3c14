/-! PRINTED by wip/whole/gen6.py -/
theorem i_Sm_init_0 : ix_nx mSm_init 0 = some (0, .aload_n 0, 1, none, [], 0) := rfl
theorem i_Sm_init_1 : ix_nx mSm_init 1 = some (3, .invokespecial 3, 4, none, [6, 0, 121], 0) := rfl
theorem i_Sm_init_4 : ix_nx mSm_init 4 = some (0, .aload_n 0, 5, none, [], 0) := rfl
theorem i_Sm_init_5 : ix_nx mSm_init 5 = some (0, .bipush 64, 7, none, [], 0) := rfl
theorem i_Sm_init_7 : ix_nx mSm_init 7 = some (2, .newarray .long, 9, none, [], 0) := rfl
theorem i_Sm_init_9 : ix_nx mSm_init 9 = some (2, .putfield 9, 12, none, [7, 0, 2, 53], 0) := rfl
theorem i_Sm_init_12 : ix_nx mSm_init 12 = some (0, .aload_n 0, 13, none, [], 0) := rfl
theorem i_Sm_init_13 : ix_nx mSm_init 13 = some (0, .lconst 0, 14, none, [], 0) := rfl
theorem i_Sm_init_14 : ix_nx mSm_init 14 = some (2, .putfield 15, 17, none, [7, 1, 1, 54], 0) := rfl
theorem i_Sm_init_17 : ix_nx mSm_init 17 = some (0, .aload_n 0, 18, none, [], 0) := rfl
theorem i_Sm_init_18 : ix_nx mSm_init 18 = some (0, .lconst 0, 19, none, [], 0) := rfl
theorem i_Sm_init_19 : ix_nx mSm_init 19 = some (2, .putfield 19, 22, none, [7, 2, 1, 55], 0) := rfl
theorem i_Sm_init_22 : ix_nx mSm_init 22 = some (0, .aload_n 0, 23, none, [], 0) := rfl
theorem i_Sm_init_23 : ix_nx mSm_init 23 = some (0, .lconst 0, 24, none, [], 0) := rfl
theorem i_Sm_init_24 : ix_nx mSm_init 24 = some (2, .putfield 22, 27, none, [7, 3, 1, 56], 0) := rfl
theorem i_Sm_init_27 : ix_nx mSm_init 27 = some (0, .aload_n 0, 28, none, [], 0) := rfl
theorem i_Sm_init_28 : ix_nx mSm_init 28 = some (0, .lconst 0, 29, none, [], 0) := rfl
theorem i_Sm_init_29 : ix_nx mSm_init 29 = some (2, .putfield 25, 32, none, [7, 4, 1, 57], 0) := rfl
theorem i_Sm_init_32 : ix_nx mSm_init 32 = some (0, .aload_n 0, 33, none, [], 0) := rfl
theorem i_Sm_init_33 : ix_nx mSm_init 33 = some (0, .lconst 0, 34, none, [], 0) := rfl
theorem i_Sm_init_34 : ix_nx mSm_init 34 = some (2, .putfield 28, 37, none, [7, 5, 1, 58], 0) := rfl
theorem i_Sm_init_37 : ix_nx mSm_init 37 = some (0, .aload_n 0, 38, none, [], 0) := rfl
theorem i_Sm_init_38 : ix_nx mSm_init 38 = some (0, .lconst 0, 39, none, [], 0) := rfl
theorem i_Sm_init_39 : ix_nx mSm_init 39 = some (2, .putfield 31, 42, none, [7, 6, 1, 59], 0) := rfl
theorem i_Sm_init_42 : ix_nx mSm_init 42 = some (0, .aload_n 0, 43, none, [], 0) := rfl
theorem i_Sm_init_43 : ix_nx mSm_init 43 = some (0, .lconst 0, 44, none, [], 0) := rfl
theorem i_Sm_init_44 : ix_nx mSm_init 44 = some (2, .putfield 34, 47, none, [7, 7, 1, 60], 0) := rfl
theorem i_Sm_init_47 : ix_nx mSm_init 47 = some (0, .aload_n 0, 48, none, [], 0) := rfl
theorem i_Sm_init_48 : ix_nx mSm_init 48 = some (0, .lconst 0, 49, none, [], 0) := rfl
theorem i_Sm_init_49 : ix_nx mSm_init 49 = some (2, .putfield 37, 52, none, [7, 8, 1, 61], 0) := rfl
theorem i_Sm_init_52 : ix_nx mSm_init 52 = some (0, .aload_n 0, 53, none, [], 0) := rfl
theorem i_Sm_init_53 : ix_nx mSm_init 53 = some (0, .lconst 0, 54, none, [], 0) := rfl
theorem i_Sm_init_54 : ix_nx mSm_init 54 = some (2, .putfield 40, 57, none, [7, 9, 1, 62], 0) := rfl
theorem i_Sm_init_57 : ix_nx mSm_init 57 = some (0, .aload_n 0, 58, none, [], 0) := rfl
theorem i_Sm_init_58 : ix_nx mSm_init 58 = some (0, .lconst 0, 59, none, [], 0) := rfl
theorem i_Sm_init_59 : ix_nx mSm_init 59 = some (2, .putfield 43, 62, none, [7, 10, 1, 63], 0) := rfl
theorem i_Sm_init_62 : ix_nx mSm_init 62 = some (4, .return_, 63, none, [], 0) := rfl
set_option maxRecDepth 20000 in
set_option maxHeartbeats 1000000 in
theorem e_Sm_init (a0 : Nat) (h : ixH) : ix_D mSm_init 0 [some (.ref a0)] [] h = (ix_pf (ix_nw h (.inl (1, 64, .inr (.inl fun _ => 0))) 64) a0 7 0 (.ref h.1)).bind fun h1 => (ix_pf h1 a0 7 1 (.long 0)).bind fun h2 => (ix_pf h2 a0 7 2 (.long 0)).bind fun h3 => (ix_pf h3 a0 7 3 (.long 0)).bind fun h4 => (ix_pf h4 a0 7 4 (.long 0)).bind fun h5 => (ix_pf h5 a0 7 5 (.long 0)).bind fun h6 => (ix_pf h6 a0 7 6 (.long 0)).bind fun h7 => (ix_pf h7 a0 7 7 (.long 0)).bind fun h8 => (ix_pf h8 a0 7 8 (.long 0)).bind fun h9 => (ix_pf h9 a0 7 9 (.long 0)).bind fun h10 => (ix_pf h10 a0 7 10 (.long 0)).bind fun h11 => some ([], h11) := by
  refine ix_K_px kq_Sm_init i_Sm_init_0 rfl rfl ?_
  refine ix_K_obj kq_Sm_init i_Sm_init_1 rfl (Nat.le_of_ble_eq_true rfl) ?_
  refine ix_K_px kq_Sm_init i_Sm_init_4 rfl rfl ?_
  refine ix_K_cb kq_Sm_init i_Sm_init_5 rfl kcb_64 ?_
  refine ix_K_naL kq_Sm_init i_Sm_init_7 rfl kna_64 knb_64 (by decide) ?_
  refine ix_K_pf kq_Sm_init i_Sm_init_9 rfl rfl (fun h1 => ?_)
  refine ix_K_px kq_Sm_init i_Sm_init_12 rfl rfl ?_
  refine ix_K_cl kq_Sm_init i_Sm_init_13 rfl kcl_0 ?_
  refine ix_K_pf kq_Sm_init i_Sm_init_14 rfl rfl (fun h2 => ?_)
  refine ix_K_px kq_Sm_init i_Sm_init_17 rfl rfl ?_
  refine ix_K_cl kq_Sm_init i_Sm_init_18 rfl kcl_0 ?_
  refine ix_K_pf kq_Sm_init i_Sm_init_19 rfl rfl (fun h3 => ?_)
  refine ix_K_px kq_Sm_init i_Sm_init_22 rfl rfl ?_
  refine ix_K_cl kq_Sm_init i_Sm_init_23 rfl kcl_0 ?_
  refine ix_K_pf kq_Sm_init i_Sm_init_24 rfl rfl (fun h4 => ?_)
  refine ix_K_px kq_Sm_init i_Sm_init_27 rfl rfl ?_
  refine ix_K_cl kq_Sm_init i_Sm_init_28 rfl kcl_0 ?_
  refine ix_K_pf kq_Sm_init i_Sm_init_29 rfl rfl (fun h5 => ?_)
  refine ix_K_px kq_Sm_init i_Sm_init_32 rfl rfl ?_
  refine ix_K_cl kq_Sm_init i_Sm_init_33 rfl kcl_0 ?_
  refine ix_K_pf kq_Sm_init i_Sm_init_34 rfl rfl (fun h6 => ?_)
  refine ix_K_px kq_Sm_init i_Sm_init_37 rfl rfl ?_
  refine ix_K_cl kq_Sm_init i_Sm_init_38 rfl kcl_0 ?_
  refine ix_K_pf kq_Sm_init i_Sm_init_39 rfl rfl (fun h7 => ?_)
  refine ix_K_px kq_Sm_init i_Sm_init_42 rfl rfl ?_
  refine ix_K_cl kq_Sm_init i_Sm_init_43 rfl kcl_0 ?_
  refine ix_K_pf kq_Sm_init i_Sm_init_44 rfl rfl (fun h8 => ?_)
  refine ix_K_px kq_Sm_init i_Sm_init_47 rfl rfl ?_
  refine ix_K_cl kq_Sm_init i_Sm_init_48 rfl kcl_0 ?_
  refine ix_K_pf kq_Sm_init i_Sm_init_49 rfl rfl (fun h9 => ?_)
  refine ix_K_px kq_Sm_init i_Sm_init_52 rfl rfl ?_
  refine ix_K_cl kq_Sm_init i_Sm_init_53 rfl kcl_0 ?_
  refine ix_K_pf kq_Sm_init i_Sm_init_54 rfl rfl (fun h10 => ?_)
  refine ix_K_px kq_Sm_init i_Sm_init_57 rfl rfl ?_
  refine ix_K_cl kq_Sm_init i_Sm_init_58 rfl kcl_0 ?_
  refine ix_K_pf kq_Sm_init i_Sm_init_59 rfl rfl (fun h11 => ?_)
  exact ix_D_ret kq_Sm_init i_Sm_init_62 (ix_rtV rfl)
theorem x_Sm_init {a0 : Nat} {h h1 : ixH} (hd : ix_D mSm_init 0 [some (.ref a0)] [] h = some ([], h1)) : ix_M mSm_init [.ref a0] h = some ([], h1) := ix_M_of (ix_ent_c kq_Sm_init rfl rfl (Nat.le_of_ble_eq_true rfl) rfl) hd (ix_okrV rfl)
theorem i_Sm_widen_0 : ix_nx mSm_widen 0 = some (0, .aload_n 0, 1, none, [], 0) := rfl
theorem i_Sm_widen_1 : ix_nx mSm_widen 1 = some (0, .aload_n 1, 2, none, [], 0) := rfl
theorem i_Sm_widen_2 : ix_nx mSm_widen 2 = some (1, .getfield 46, 5, none, [2, 2, 1, 10], 0) := rfl
theorem i_Sm_widen_5 : ix_nx mSm_widen 5 = some (0, .lload_n 2, 6, none, [], 0) := rfl
theorem i_Sm_widen_6 : ix_nx mSm_widen 6 = some (0, .ldc2_w 51, 9, none, [5], -1) := rfl
theorem i_Sm_widen_9 : ix_nx mSm_widen 9 = some (0, .lxor, 10, none, [], 0) := rfl
theorem i_Sm_widen_10 : ix_nx mSm_widen 10 = some (0, .land, 11, none, [], 0) := rfl
theorem i_Sm_widen_11 : ix_nx mSm_widen 11 = some (2, .putfield 15, 14, none, [7, 1, 1, 54], 0) := rfl
theorem i_Sm_widen_14 : ix_nx mSm_widen 14 = some (0, .aload_n 0, 15, none, [], 0) := rfl
theorem i_Sm_widen_15 : ix_nx mSm_widen 15 = some (0, .aload_n 1, 16, none, [], 0) := rfl
theorem i_Sm_widen_16 : ix_nx mSm_widen 16 = some (1, .getfield 53, 19, none, [2, 6, 2, 21], 0) := rfl
theorem i_Sm_widen_19 : ix_nx mSm_widen 19 = some (0, .iload 4, 21, none, [], 0) := rfl
theorem i_Sm_widen_21 : ix_nx mSm_widen 21 = some (0, .ifCond .eq 7, 24, none, [], 0) := rfl
theorem i_Sm_widen_24 : ix_nx mSm_widen 24 = some (0, .iconst 2, 25, none, [], 0) := rfl
theorem i_Sm_widen_25 : ix_nx mSm_widen 25 = some (0, .goto 4, 28, none, [], 0) := rfl
theorem i_Sm_widen_28 : ix_nx mSm_widen 28 = some (0, .iconst 1, 29, none, [], 0) := rfl
theorem i_Sm_widen_29 : ix_nx mSm_widen 29 = some (1, .laload, 30, none, [], 0) := rfl
theorem i_Sm_widen_30 : ix_nx mSm_widen 30 = some (0, .aload_n 0, 31, none, [], 0) := rfl
theorem i_Sm_widen_31 : ix_nx mSm_widen 31 = some (1, .getfield 15, 34, none, [7, 1, 1, 54], 0) := rfl
theorem i_Sm_widen_34 : ix_nx mSm_widen 34 = some (0, .land, 35, none, [], 0) := rfl
theorem i_Sm_widen_35 : ix_nx mSm_widen 35 = some (2, .putfield 19, 38, none, [7, 2, 1, 55], 0) := rfl
theorem i_Sm_widen_38 : ix_nx mSm_widen 38 = some (0, .aload_n 0, 39, none, [], 0) := rfl
theorem i_Sm_widen_39 : ix_nx mSm_widen 39 = some (0, .aload_n 1, 40, none, [], 0) := rfl
theorem i_Sm_widen_40 : ix_nx mSm_widen 40 = some (1, .getfield 53, 43, none, [2, 6, 2, 21], 0) := rfl
theorem i_Sm_widen_43 : ix_nx mSm_widen 43 = some (0, .iload 4, 45, none, [], 0) := rfl
theorem i_Sm_widen_45 : ix_nx mSm_widen 45 = some (0, .ifCond .eq 7, 48, none, [], 0) := rfl
theorem i_Sm_widen_48 : ix_nx mSm_widen 48 = some (0, .iconst 1, 49, none, [], 0) := rfl
theorem i_Sm_widen_49 : ix_nx mSm_widen 49 = some (0, .goto 4, 52, none, [], 0) := rfl
theorem i_Sm_widen_52 : ix_nx mSm_widen 52 = some (0, .iconst 2, 53, none, [], 0) := rfl
theorem i_Sm_widen_53 : ix_nx mSm_widen 53 = some (1, .laload, 54, some [true, true, false, false, false, false, false], [], 0) := rfl
theorem i_Sm_widen_54 : ix_nx mSm_widen 54 = some (0, .aload_n 0, 55, none, [], 0) := rfl
theorem i_Sm_widen_55 : ix_nx mSm_widen 55 = some (1, .getfield 15, 58, none, [7, 1, 1, 54], 0) := rfl
theorem i_Sm_widen_58 : ix_nx mSm_widen 58 = some (0, .land, 59, none, [], 0) := rfl
theorem i_Sm_widen_59 : ix_nx mSm_widen 59 = some (2, .putfield 22, 62, none, [7, 3, 1, 56], 0) := rfl
theorem i_Sm_widen_62 : ix_nx mSm_widen 62 = some (0, .aload_n 0, 63, none, [], 0) := rfl
theorem i_Sm_widen_63 : ix_nx mSm_widen 63 = some (0, .lconst 0, 64, none, [], 0) := rfl
theorem i_Sm_widen_64 : ix_nx mSm_widen 64 = some (2, .putfield 25, 67, none, [7, 4, 1, 57], 0) := rfl
theorem i_Sm_widen_67 : ix_nx mSm_widen 67 = some (0, .aload_n 0, 68, none, [], 0) := rfl
theorem i_Sm_widen_68 : ix_nx mSm_widen 68 = some (0, .ldc2_w 51, 71, none, [5], -1) := rfl
theorem i_Sm_widen_71 : ix_nx mSm_widen 71 = some (3, .invokevirtual 56, 74, none, [0, 109, 122], 0) := rfl
theorem i_Sm_widen_74 : ix_nx mSm_widen 74 = some (0, .iconst 0, 75, none, [], 0) := rfl
theorem i_Sm_widen_75 : ix_nx mSm_widen 75 = some (0, .istore 5, 77, none, [], 0) := rfl
theorem i_Sm_widen_77 : ix_nx mSm_widen 77 = some (0, .aload_n 0, 78, none, [], 0) := rfl
theorem i_Sm_widen_78 : ix_nx mSm_widen 78 = some (0, .aload_n 1, 79, none, [], 0) := rfl
theorem i_Sm_widen_79 : ix_nx mSm_widen 79 = some (3, .invokevirtual 60, 82, none, [0, 110, 123], 0) := rfl
theorem i_Sm_widen_82 : ix_nx mSm_widen 82 = some (0, .istore 6, 84, none, [], 0) := rfl
theorem i_Sm_widen_84 : ix_nx mSm_widen 84 = some (0, .iload 6, 86, some [true, true, false, false, false, true, true], [], 0) := rfl
theorem i_Sm_widen_86 : ix_nx mSm_widen 86 = some (0, .ifCond .lt 30, 89, none, [], 0) := rfl
theorem i_Sm_widen_89 : ix_nx mSm_widen 89 = some (0, .iload 5, 91, none, [], 0) := rfl
theorem i_Sm_widen_91 : ix_nx mSm_widen 91 = some (0, .bipush 64, 93, none, [], 0) := rfl
theorem i_Sm_widen_93 : ix_nx mSm_widen 93 = some (0, .if_icmp .ge 23, 96, none, [], 0) := rfl
theorem i_Sm_widen_96 : ix_nx mSm_widen 96 = some (0, .aload_n 0, 97, none, [], 0) := rfl
theorem i_Sm_widen_97 : ix_nx mSm_widen 97 = some (0, .aload_n 1, 98, none, [], 0) := rfl
theorem i_Sm_widen_98 : ix_nx mSm_widen 98 = some (0, .iload 6, 100, none, [], 0) := rfl
theorem i_Sm_widen_100 : ix_nx mSm_widen 100 = some (3, .invokevirtual 64, 103, none, [0, 112, 124], 0) := rfl
theorem i_Sm_widen_103 : ix_nx mSm_widen 103 = some (0, .iinc 5 1, 106, none, [], 0) := rfl
theorem i_Sm_widen_106 : ix_nx mSm_widen 106 = some (0, .aload_n 0, 107, none, [], 0) := rfl
theorem i_Sm_widen_107 : ix_nx mSm_widen 107 = some (0, .aload_n 1, 108, none, [], 0) := rfl
theorem i_Sm_widen_108 : ix_nx mSm_widen 108 = some (3, .invokevirtual 60, 111, none, [0, 110, 123], 0) := rfl
theorem i_Sm_widen_111 : ix_nx mSm_widen 111 = some (0, .istore 6, 113, none, [], 0) := rfl
theorem i_Sm_widen_113 : ix_nx mSm_widen 113 = some (0, .goto (-29), 116, none, [], 0) := rfl
theorem i_Sm_widen_116 : ix_nx mSm_widen 116 = some (0, .iload 5, 118, none, [], 0) := rfl
theorem i_Sm_widen_118 : ix_nx mSm_widen 118 = some (4, .ireturn, 119, none, [], 0) := rfl
noncomputable def l_Sm_widen_53 (a0 : Nat) (a1 : Nat) (sa0 : Nat) (sa1 : Nat) (s2 : Int32) (h : ixH) : Option (List Value × ixH) := ix_D mSm_widen 53 [some (.ref a0), some (.ref a1), none, none, none, none, none] [.int s2, .ref sa1, .ref sa0] h
noncomputable def l_Sm_widen_84 (a0 : Nat) (a1 : Nat) (x5 : Int32) (x6 : Int32) (h : ixH) : Option (List Value × ixH) := ix_D mSm_widen 84 [some (.ref a0), some (.ref a1), none, none, none, some (.int x5), some (.int x6)] [] h
set_option maxRecDepth 20000 in
set_option maxHeartbeats 1000000 in
theorem e_Sm_widen_53 (a0 : Nat) (a1 : Nat) (sa0 : Nat) (sa1 : Nat) (s2 : Int32) (h : ixH) : l_Sm_widen_53 a0 a1 sa0 sa1 s2 h = (ix_al h sa1 s2).bind fun v1 => (ix_gl h a0 7 1).bind fun v2 => (ix_pf h sa0 7 3 (.long (v1 &&& v2))).bind fun h3 => (ix_pf h3 a0 7 4 (.long 0)).bind fun h4 => (ix_M mSm_cut [.ref a0, .long (-1)] h4).bind fun r => ix_kV r fun h5 => (ix_M mSm_search [.ref a0, .ref a1] h5).bind fun r => ix_kI r fun v7 h6 => l_Sm_widen_84 a0 a1 0 v7 h6 := by
  unfold l_Sm_widen_53
  refine ix_K_al kq_Sm_widen i_Sm_widen_53 rfl (fun v1 => ?_)
  refine ix_K_px kq_Sm_widen i_Sm_widen_54 rfl rfl ?_
  refine ix_K_gl kq_Sm_widen i_Sm_widen_55 rfl (fun v2 => ?_)
  refine ix_K_px kq_Sm_widen i_Sm_widen_58 rfl rfl ?_
  refine ix_K_pf kq_Sm_widen i_Sm_widen_59 rfl rfl (fun h3 => ?_)
  refine ix_K_px kq_Sm_widen i_Sm_widen_62 rfl rfl ?_
  refine ix_K_cl kq_Sm_widen i_Sm_widen_63 rfl kcl_0 ?_
  refine ix_K_pf kq_Sm_widen i_Sm_widen_64 rfl rfl (fun h4 => ?_)
  refine ix_K_px kq_Sm_widen i_Sm_widen_67 rfl rfl ?_
  refine ix_K_c2 kq_Sm_widen i_Sm_widen_68 rfl kc2_m1 ?_
  refine ix_K_callV (as := [.ref a0, .long (-1)]) (rest := []) kq_Sm_widen i_Sm_widen_71 rfl kq_Sm_cut (by decide) rfl rfl (fun h5 => ?_)
  refine ix_K_ci kq_Sm_widen i_Sm_widen_74 rfl kci_0 ?_
  refine ix_K_si (L2 := [some (.ref a0), some (.ref a1), none, none, none, some (.int 0), none]) kq_Sm_widen i_Sm_widen_75 rfl (Or.inl rfl) (Nat.le_of_ble_eq_true rfl) rfl ?_
  refine ix_K_px kq_Sm_widen i_Sm_widen_77 rfl rfl ?_
  refine ix_K_px kq_Sm_widen i_Sm_widen_78 rfl rfl ?_
  refine ix_K_callI (as := [.ref a0, .ref a1]) (rest := []) kq_Sm_widen i_Sm_widen_79 rfl kq_Sm_search (by decide) rfl (Or.inl rfl) (fun v7 h6 => ?_)
  refine ix_K_si (L2 := [some (.ref a0), some (.ref a1), none, none, none, some (.int 0), some (.int v7)]) kq_Sm_widen i_Sm_widen_82 rfl (Or.inl rfl) (Nat.le_of_ble_eq_true rfl) rfl ?_
  exact ix_D_cut i_Sm_widen_84 rfl
set_option maxRecDepth 20000 in
set_option maxHeartbeats 1000000 in
theorem e_Sm_widen_84 (a0 : Nat) (a1 : Nat) (x5 : Int32) (x6 : Int32) (h : ixH) : l_Sm_widen_84 a0 a1 x5 x6 h = if x6 < 0 then some ([.int x5], h) else if 64 ≤ x5 then some ([.int x5], h) else (ix_M mSm_addRoute [.ref a0, .ref a1, .int x6] h).bind fun r => ix_kV r fun h1 => (ix_M mSm_search [.ref a0, .ref a1] h1).bind fun r => ix_kI r fun v3 h2 => l_Sm_widen_84 a0 a1 (x5 + 1) v3 h2 := by
  unfold l_Sm_widen_84
  refine ix_K_px kq_Sm_widen i_Sm_widen_84 rfl rfl ?_
  refine ix_K_if_lt (tgt := 116) kq_Sm_widen i_Sm_widen_86 rfl (by decide) ?_ ?_
  · refine ix_K_px kq_Sm_widen i_Sm_widen_116 rfl rfl ?_
    exact ix_D_ret kq_Sm_widen i_Sm_widen_118 (ix_rtI rfl _)
  · refine ix_K_px kq_Sm_widen i_Sm_widen_89 rfl rfl ?_
    refine ix_K_cb kq_Sm_widen i_Sm_widen_91 rfl kcb_64 ?_
    refine ix_K_ic_ge (tgt := 116) kq_Sm_widen i_Sm_widen_93 rfl (by decide) ?_ ?_
    · refine ix_K_px kq_Sm_widen i_Sm_widen_116 rfl rfl ?_
      exact ix_D_ret kq_Sm_widen i_Sm_widen_118 (ix_rtI rfl _)
    · refine ix_K_px kq_Sm_widen i_Sm_widen_96 rfl rfl ?_
      refine ix_K_px kq_Sm_widen i_Sm_widen_97 rfl rfl ?_
      refine ix_K_px kq_Sm_widen i_Sm_widen_98 rfl rfl ?_
      refine ix_K_callV (as := [.ref a0, .ref a1, .int x6]) (rest := []) kq_Sm_widen i_Sm_widen_100 rfl kq_Sm_addRoute (by decide) rfl rfl (fun h1 => ?_)
      refine ix_K_inc (L2 := [some (.ref a0), some (.ref a1), none, none, none, some (.int (x5 + 1)), some (.int x6)]) kq_Sm_widen i_Sm_widen_103 rfl rfl (Nat.le_of_ble_eq_true rfl) kci_1 rfl ?_
      refine ix_K_px kq_Sm_widen i_Sm_widen_106 rfl rfl ?_
      refine ix_K_px kq_Sm_widen i_Sm_widen_107 rfl rfl ?_
      refine ix_K_callI (as := [.ref a0, .ref a1]) (rest := []) kq_Sm_widen i_Sm_widen_108 rfl kq_Sm_search (by decide) rfl (Or.inl rfl) (fun v3 h2 => ?_)
      refine ix_K_si (L2 := [some (.ref a0), some (.ref a1), none, none, none, some (.int (x5 + 1)), some (.int v3)]) kq_Sm_widen i_Sm_widen_111 rfl (Or.inl rfl) (Nat.le_of_ble_eq_true rfl) rfl ?_
      refine ix_K_goto (tgt := 84) kq_Sm_widen i_Sm_widen_113 rfl (by decide) ?_
      exact ix_D_cut i_Sm_widen_84 rfl
set_option maxRecDepth 20000 in
set_option maxHeartbeats 1000000 in
theorem e_Sm_widen (a0 : Nat) (a1 : Nat) (x2 : Int64) (b4 : Bool) (h : ixH) : ix_D mSm_widen 0 [some (.ref a0), some (.ref a1), some (.long x2), none, some (.int (ix_bi b4)), none, none] [] h = (ix_gl h a1 2 2).bind fun v1 => (ix_pf h a0 7 1 (.long (v1 &&& (x2 ^^^ (-1))))).bind fun h2 => (ix_gr h2 a1 2 6).bind fun v3 => if b4 = true then (ix_al h2 v3 2).bind fun v4 => (ix_gl h2 a0 7 1).bind fun v5 => (ix_pf h2 a0 7 2 (.long (v4 &&& v5))).bind fun h6 => (ix_gr h6 a1 2 6).bind fun v7 => if b4 = true then l_Sm_widen_53 a0 a1 a0 v7 1 h6 else l_Sm_widen_53 a0 a1 a0 v7 2 h6 else (ix_al h2 v3 1).bind fun v8 => (ix_gl h2 a0 7 1).bind fun v9 => (ix_pf h2 a0 7 2 (.long (v8 &&& v9))).bind fun h10 => (ix_gr h10 a1 2 6).bind fun v11 => if b4 = true then l_Sm_widen_53 a0 a1 a0 v11 1 h10 else l_Sm_widen_53 a0 a1 a0 v11 2 h10 := by
  refine ix_K_px kq_Sm_widen i_Sm_widen_0 rfl rfl ?_
  refine ix_K_px kq_Sm_widen i_Sm_widen_1 rfl rfl ?_
  refine ix_K_gl kq_Sm_widen i_Sm_widen_2 rfl (fun v1 => ?_)
  refine ix_K_px kq_Sm_widen i_Sm_widen_5 rfl rfl ?_
  refine ix_K_c2 kq_Sm_widen i_Sm_widen_6 rfl kc2_m1 ?_
  refine ix_K_px kq_Sm_widen i_Sm_widen_9 rfl rfl ?_
  refine ix_K_px kq_Sm_widen i_Sm_widen_10 rfl rfl ?_
  refine ix_K_pf kq_Sm_widen i_Sm_widen_11 rfl rfl (fun h2 => ?_)
  refine ix_K_px kq_Sm_widen i_Sm_widen_14 rfl rfl ?_
  refine ix_K_px kq_Sm_widen i_Sm_widen_15 rfl rfl ?_
  refine ix_K_gr kq_Sm_widen i_Sm_widen_16 rfl (fun v3 => ?_)
  refine ix_K_px kq_Sm_widen i_Sm_widen_19 rfl rfl ?_
  refine ix_K_bz_eq (tgt := 28) kq_Sm_widen i_Sm_widen_21 rfl (by decide) ?_ ?_
  · refine ix_K_ci kq_Sm_widen i_Sm_widen_24 rfl kci_2 ?_
    refine ix_K_goto (tgt := 29) kq_Sm_widen i_Sm_widen_25 rfl (by decide) ?_
    refine ix_K_al kq_Sm_widen i_Sm_widen_29 rfl (fun v4 => ?_)
    refine ix_K_px kq_Sm_widen i_Sm_widen_30 rfl rfl ?_
    refine ix_K_gl kq_Sm_widen i_Sm_widen_31 rfl (fun v5 => ?_)
    refine ix_K_px kq_Sm_widen i_Sm_widen_34 rfl rfl ?_
    refine ix_K_pf kq_Sm_widen i_Sm_widen_35 rfl rfl (fun h6 => ?_)
    refine ix_K_px kq_Sm_widen i_Sm_widen_38 rfl rfl ?_
    refine ix_K_px kq_Sm_widen i_Sm_widen_39 rfl rfl ?_
    refine ix_K_gr kq_Sm_widen i_Sm_widen_40 rfl (fun v7 => ?_)
    refine ix_K_px kq_Sm_widen i_Sm_widen_43 rfl rfl ?_
    refine ix_K_bz_eq (tgt := 52) kq_Sm_widen i_Sm_widen_45 rfl (by decide) ?_ ?_
    · refine ix_K_ci kq_Sm_widen i_Sm_widen_48 rfl kci_1 ?_
      refine ix_K_goto (tgt := 53) kq_Sm_widen i_Sm_widen_49 rfl (by decide) ?_
      exact ix_D_cut i_Sm_widen_53 rfl
    · refine ix_K_ci kq_Sm_widen i_Sm_widen_52 rfl kci_2 ?_
      exact ix_D_cut i_Sm_widen_53 rfl
  · refine ix_K_ci kq_Sm_widen i_Sm_widen_28 rfl kci_1 ?_
    refine ix_K_al kq_Sm_widen i_Sm_widen_29 rfl (fun v8 => ?_)
    refine ix_K_px kq_Sm_widen i_Sm_widen_30 rfl rfl ?_
    refine ix_K_gl kq_Sm_widen i_Sm_widen_31 rfl (fun v9 => ?_)
    refine ix_K_px kq_Sm_widen i_Sm_widen_34 rfl rfl ?_
    refine ix_K_pf kq_Sm_widen i_Sm_widen_35 rfl rfl (fun h10 => ?_)
    refine ix_K_px kq_Sm_widen i_Sm_widen_38 rfl rfl ?_
    refine ix_K_px kq_Sm_widen i_Sm_widen_39 rfl rfl ?_
    refine ix_K_gr kq_Sm_widen i_Sm_widen_40 rfl (fun v11 => ?_)
    refine ix_K_px kq_Sm_widen i_Sm_widen_43 rfl rfl ?_
    refine ix_K_bz_eq (tgt := 52) kq_Sm_widen i_Sm_widen_45 rfl (by decide) ?_ ?_
    · refine ix_K_ci kq_Sm_widen i_Sm_widen_48 rfl kci_1 ?_
      refine ix_K_goto (tgt := 53) kq_Sm_widen i_Sm_widen_49 rfl (by decide) ?_
      exact ix_D_cut i_Sm_widen_53 rfl
    · refine ix_K_ci kq_Sm_widen i_Sm_widen_52 rfl kci_2 ?_
      exact ix_D_cut i_Sm_widen_53 rfl
theorem x_Sm_widen {a0 : Nat} {a1 : Nat} {x2 : Int64} {b4 : Bool} {h h1 : ixH} {v : Int32} (hr : ix_rc h a0 = some 7) (hd : ix_D mSm_widen 0 [some (.ref a0), some (.ref a1), some (.long x2), none, some (.int (ix_bi b4)), none, none] [] h = some ([.int v], h1)) : ix_M mSm_widen [.ref a0, .ref a1, .long x2, .int (ix_bi b4)] h = some ([.int v], h1) := ix_M_of (ix_ent_i kq_Sm_widen rfl hr rfl (Nat.le_of_ble_eq_true rfl) rfl) hd (ix_okrI (Or.inl rfl) v)
theorem i_Sm_cut_0 : ix_nx mSm_cut 0 = some (0, .aload_n 0, 1, none, [], 0) := rfl
theorem i_Sm_cut_1 : ix_nx mSm_cut 1 = some (0, .dup, 2, none, [], 0) := rfl
theorem i_Sm_cut_2 : ix_nx mSm_cut 2 = some (1, .getfield 28, 5, none, [7, 5, 1, 58], 0) := rfl
theorem i_Sm_cut_5 : ix_nx mSm_cut 5 = some (0, .lload_n 1, 6, none, [], 0) := rfl
theorem i_Sm_cut_6 : ix_nx mSm_cut 6 = some (0, .ldc2_w 51, 9, none, [5], -1) := rfl
theorem i_Sm_cut_9 : ix_nx mSm_cut 9 = some (0, .lxor, 10, none, [], 0) := rfl
theorem i_Sm_cut_10 : ix_nx mSm_cut 10 = some (0, .land, 11, none, [], 0) := rfl
theorem i_Sm_cut_11 : ix_nx mSm_cut 11 = some (2, .putfield 28, 14, none, [7, 5, 1, 58], 0) := rfl
theorem i_Sm_cut_14 : ix_nx mSm_cut 14 = some (0, .aload_n 0, 15, none, [], 0) := rfl
theorem i_Sm_cut_15 : ix_nx mSm_cut 15 = some (0, .dup, 16, none, [], 0) := rfl
theorem i_Sm_cut_16 : ix_nx mSm_cut 16 = some (1, .getfield 31, 19, none, [7, 6, 1, 59], 0) := rfl
theorem i_Sm_cut_19 : ix_nx mSm_cut 19 = some (0, .lload_n 1, 20, none, [], 0) := rfl
theorem i_Sm_cut_20 : ix_nx mSm_cut 20 = some (0, .ldc2_w 51, 23, none, [5], -1) := rfl
theorem i_Sm_cut_23 : ix_nx mSm_cut 23 = some (0, .lxor, 24, none, [], 0) := rfl
theorem i_Sm_cut_24 : ix_nx mSm_cut 24 = some (0, .land, 25, none, [], 0) := rfl
theorem i_Sm_cut_25 : ix_nx mSm_cut 25 = some (2, .putfield 31, 28, none, [7, 6, 1, 59], 0) := rfl
theorem i_Sm_cut_28 : ix_nx mSm_cut 28 = some (0, .aload_n 0, 29, none, [], 0) := rfl
theorem i_Sm_cut_29 : ix_nx mSm_cut 29 = some (0, .dup, 30, none, [], 0) := rfl
theorem i_Sm_cut_30 : ix_nx mSm_cut 30 = some (1, .getfield 34, 33, none, [7, 7, 1, 60], 0) := rfl
theorem i_Sm_cut_33 : ix_nx mSm_cut 33 = some (0, .lload_n 1, 34, none, [], 0) := rfl
theorem i_Sm_cut_34 : ix_nx mSm_cut 34 = some (0, .ldc2_w 51, 37, none, [5], -1) := rfl
theorem i_Sm_cut_37 : ix_nx mSm_cut 37 = some (0, .lxor, 38, none, [], 0) := rfl
theorem i_Sm_cut_38 : ix_nx mSm_cut 38 = some (0, .land, 39, none, [], 0) := rfl
theorem i_Sm_cut_39 : ix_nx mSm_cut 39 = some (2, .putfield 34, 42, none, [7, 7, 1, 60], 0) := rfl
theorem i_Sm_cut_42 : ix_nx mSm_cut 42 = some (0, .aload_n 0, 43, none, [], 0) := rfl
theorem i_Sm_cut_43 : ix_nx mSm_cut 43 = some (0, .dup, 44, none, [], 0) := rfl
theorem i_Sm_cut_44 : ix_nx mSm_cut 44 = some (1, .getfield 37, 47, none, [7, 8, 1, 61], 0) := rfl
theorem i_Sm_cut_47 : ix_nx mSm_cut 47 = some (0, .lload_n 1, 48, none, [], 0) := rfl
theorem i_Sm_cut_48 : ix_nx mSm_cut 48 = some (0, .ldc2_w 51, 51, none, [5], -1) := rfl
theorem i_Sm_cut_51 : ix_nx mSm_cut 51 = some (0, .lxor, 52, none, [], 0) := rfl
theorem i_Sm_cut_52 : ix_nx mSm_cut 52 = some (0, .land, 53, none, [], 0) := rfl
theorem i_Sm_cut_53 : ix_nx mSm_cut 53 = some (2, .putfield 37, 56, none, [7, 8, 1, 61], 0) := rfl
theorem i_Sm_cut_56 : ix_nx mSm_cut 56 = some (4, .return_, 57, none, [], 0) := rfl
set_option maxRecDepth 20000 in
set_option maxHeartbeats 1000000 in
theorem e_Sm_cut (a0 : Nat) (x1 : Int64) (h : ixH) : ix_D mSm_cut 0 [some (.ref a0), some (.long x1), none] [] h = (ix_gl h a0 7 5).bind fun v1 => (ix_pf h a0 7 5 (.long (v1 &&& (x1 ^^^ (-1))))).bind fun h2 => (ix_gl h2 a0 7 6).bind fun v3 => (ix_pf h2 a0 7 6 (.long (v3 &&& (x1 ^^^ (-1))))).bind fun h4 => (ix_gl h4 a0 7 7).bind fun v5 => (ix_pf h4 a0 7 7 (.long (v5 &&& (x1 ^^^ (-1))))).bind fun h6 => (ix_gl h6 a0 7 8).bind fun v7 => (ix_pf h6 a0 7 8 (.long (v7 &&& (x1 ^^^ (-1))))).bind fun h8 => some ([], h8) := by
  refine ix_K_px kq_Sm_cut i_Sm_cut_0 rfl rfl ?_
  refine ix_K_px kq_Sm_cut i_Sm_cut_1 rfl rfl ?_
  refine ix_K_gl kq_Sm_cut i_Sm_cut_2 rfl (fun v1 => ?_)
  refine ix_K_px kq_Sm_cut i_Sm_cut_5 rfl rfl ?_
  refine ix_K_c2 kq_Sm_cut i_Sm_cut_6 rfl kc2_m1 ?_
  refine ix_K_px kq_Sm_cut i_Sm_cut_9 rfl rfl ?_
  refine ix_K_px kq_Sm_cut i_Sm_cut_10 rfl rfl ?_
  refine ix_K_pf kq_Sm_cut i_Sm_cut_11 rfl rfl (fun h2 => ?_)
  refine ix_K_px kq_Sm_cut i_Sm_cut_14 rfl rfl ?_
  refine ix_K_px kq_Sm_cut i_Sm_cut_15 rfl rfl ?_
  refine ix_K_gl kq_Sm_cut i_Sm_cut_16 rfl (fun v3 => ?_)
  refine ix_K_px kq_Sm_cut i_Sm_cut_19 rfl rfl ?_
  refine ix_K_c2 kq_Sm_cut i_Sm_cut_20 rfl kc2_m1 ?_
  refine ix_K_px kq_Sm_cut i_Sm_cut_23 rfl rfl ?_
  refine ix_K_px kq_Sm_cut i_Sm_cut_24 rfl rfl ?_
  refine ix_K_pf kq_Sm_cut i_Sm_cut_25 rfl rfl (fun h4 => ?_)
  refine ix_K_px kq_Sm_cut i_Sm_cut_28 rfl rfl ?_
  refine ix_K_px kq_Sm_cut i_Sm_cut_29 rfl rfl ?_
  refine ix_K_gl kq_Sm_cut i_Sm_cut_30 rfl (fun v5 => ?_)
  refine ix_K_px kq_Sm_cut i_Sm_cut_33 rfl rfl ?_
  refine ix_K_c2 kq_Sm_cut i_Sm_cut_34 rfl kc2_m1 ?_
  refine ix_K_px kq_Sm_cut i_Sm_cut_37 rfl rfl ?_
  refine ix_K_px kq_Sm_cut i_Sm_cut_38 rfl rfl ?_
  refine ix_K_pf kq_Sm_cut i_Sm_cut_39 rfl rfl (fun h6 => ?_)
  refine ix_K_px kq_Sm_cut i_Sm_cut_42 rfl rfl ?_
  refine ix_K_px kq_Sm_cut i_Sm_cut_43 rfl rfl ?_
  refine ix_K_gl kq_Sm_cut i_Sm_cut_44 rfl (fun v7 => ?_)
  refine ix_K_px kq_Sm_cut i_Sm_cut_47 rfl rfl ?_
  refine ix_K_c2 kq_Sm_cut i_Sm_cut_48 rfl kc2_m1 ?_
  refine ix_K_px kq_Sm_cut i_Sm_cut_51 rfl rfl ?_
  refine ix_K_px kq_Sm_cut i_Sm_cut_52 rfl rfl ?_
  refine ix_K_pf kq_Sm_cut i_Sm_cut_53 rfl rfl (fun h8 => ?_)
  exact ix_D_ret kq_Sm_cut i_Sm_cut_56 (ix_rtV rfl)
theorem x_Sm_cut {a0 : Nat} {x1 : Int64} {h h1 : ixH} (hr : ix_rc h a0 = some 7) (hd : ix_D mSm_cut 0 [some (.ref a0), some (.long x1), none] [] h = some ([], h1)) : ix_M mSm_cut [.ref a0, .long x1] h = some ([], h1) := ix_M_of (ix_ent_i kq_Sm_cut rfl hr rfl (Nat.le_of_ble_eq_true rfl) rfl) hd (ix_okrV rfl)
theorem i_Sm_search_0 : ix_nx mSm_search 0 = some (0, .aload_n 0, 1, none, [], 0) := rfl
theorem i_Sm_search_1 : ix_nx mSm_search 1 = some (1, .getfield 19, 4, none, [7, 2, 1, 55], 0) := rfl
theorem i_Sm_search_4 : ix_nx mSm_search 4 = some (0, .lstore_n 2, 5, none, [], 0) := rfl
theorem i_Sm_search_5 : ix_nx mSm_search 5 = some (0, .aload_n 0, 6, none, [], 0) := rfl
theorem i_Sm_search_6 : ix_nx mSm_search 6 = some (0, .aload_n 0, 7, none, [], 0) := rfl
theorem i_Sm_search_7 : ix_nx mSm_search 7 = some (1, .getfield 19, 10, none, [7, 2, 1, 55], 0) := rfl
theorem i_Sm_search_10 : ix_nx mSm_search 10 = some (2, .putfield 40, 13, none, [7, 9, 1, 62], 0) := rfl
theorem i_Sm_search_13 : ix_nx mSm_search 13 = some (0, .aload_n 0, 14, none, [], 0) := rfl
theorem i_Sm_search_14 : ix_nx mSm_search 14 = some (0, .lconst 0, 15, none, [], 0) := rfl
theorem i_Sm_search_15 : ix_nx mSm_search 15 = some (2, .putfield 43, 18, none, [7, 10, 1, 63], 0) := rfl
theorem i_Sm_search_18 : ix_nx mSm_search 18 = some (0, .iconst 0, 19, none, [], 0) := rfl
theorem i_Sm_search_19 : ix_nx mSm_search 19 = some (0, .istore 4, 21, none, [], 0) := rfl
theorem i_Sm_search_21 : ix_nx mSm_search 21 = some (0, .iload 4, 23, some [true, true, true, false, true, false, false], [], 0) := rfl
theorem i_Sm_search_23 : ix_nx mSm_search 23 = some (0, .bipush 64, 25, none, [], 0) := rfl
theorem i_Sm_search_25 : ix_nx mSm_search 25 = some (0, .if_icmp .ge 122, 28, none, [], 0) := rfl
theorem i_Sm_search_28 : ix_nx mSm_search 28 = some (0, .lload_n 2, 29, none, [], 0) := rfl
theorem i_Sm_search_29 : ix_nx mSm_search 29 = some (0, .lconst 0, 30, none, [], 0) := rfl
theorem i_Sm_search_30 : ix_nx mSm_search 30 = some (0, .lcmp, 31, none, [], 0) := rfl
theorem i_Sm_search_31 : ix_nx mSm_search 31 = some (0, .ifCond .eq 116, 34, none, [], 0) := rfl
theorem i_Sm_search_34 : ix_nx mSm_search 34 = some (0, .lload_n 2, 35, none, [], 0) := rfl
theorem i_Sm_search_35 : ix_nx mSm_search 35 = some (0, .aload_n 0, 36, none, [], 0) := rfl
theorem i_Sm_search_36 : ix_nx mSm_search 36 = some (1, .getfield 25, 39, none, [7, 4, 1, 57], 0) := rfl
theorem i_Sm_search_39 : ix_nx mSm_search 39 = some (0, .ldc2_w 51, 42, none, [5], -1) := rfl
theorem i_Sm_search_42 : ix_nx mSm_search 42 = some (0, .lxor, 43, none, [], 0) := rfl
theorem i_Sm_search_43 : ix_nx mSm_search 43 = some (0, .land, 44, none, [], 0) := rfl
theorem i_Sm_search_44 : ix_nx mSm_search 44 = some (0, .aload_n 0, 45, none, [], 0) := rfl
theorem i_Sm_search_45 : ix_nx mSm_search 45 = some (0, .aload_n 1, 46, none, [], 0) := rfl
theorem i_Sm_search_46 : ix_nx mSm_search 46 = some (0, .lload_n 2, 47, none, [], 0) := rfl
theorem i_Sm_search_47 : ix_nx mSm_search 47 = some (0, .aload_n 0, 48, none, [], 0) := rfl
theorem i_Sm_search_48 : ix_nx mSm_search 48 = some (1, .getfield 25, 51, none, [7, 4, 1, 57], 0) := rfl
theorem i_Sm_search_51 : ix_nx mSm_search 51 = some (0, .land, 52, none, [], 0) := rfl
theorem i_Sm_search_52 : ix_nx mSm_search 52 = some (3, .invokevirtual 68, 55, none, [0, 111, 125], 0) := rfl
theorem i_Sm_search_55 : ix_nx mSm_search 55 = some (0, .lor, 56, none, [], 0) := rfl
theorem i_Sm_search_56 : ix_nx mSm_search 56 = some (0, .aload_n 0, 57, none, [], 0) := rfl
theorem i_Sm_search_57 : ix_nx mSm_search 57 = some (1, .getfield 43, 60, none, [7, 10, 1, 63], 0) := rfl
theorem i_Sm_search_60 : ix_nx mSm_search 60 = some (0, .ldc2_w 51, 63, none, [5], -1) := rfl
theorem i_Sm_search_63 : ix_nx mSm_search 63 = some (0, .lxor, 64, none, [], 0) := rfl
theorem i_Sm_search_64 : ix_nx mSm_search 64 = some (0, .land, 65, none, [], 0) := rfl
theorem i_Sm_search_65 : ix_nx mSm_search 65 = some (0, .lstore 5, 67, none, [], 0) := rfl
theorem i_Sm_search_67 : ix_nx mSm_search 67 = some (0, .aload_n 0, 68, none, [], 0) := rfl
theorem i_Sm_search_68 : ix_nx mSm_search 68 = some (0, .dup, 69, none, [], 0) := rfl
theorem i_Sm_search_69 : ix_nx mSm_search 69 = some (1, .getfield 43, 72, none, [7, 10, 1, 63], 0) := rfl
theorem i_Sm_search_72 : ix_nx mSm_search 72 = some (0, .lload 5, 74, none, [], 0) := rfl
theorem i_Sm_search_74 : ix_nx mSm_search 74 = some (0, .lor, 75, none, [], 0) := rfl
theorem i_Sm_search_75 : ix_nx mSm_search 75 = some (2, .putfield 43, 78, none, [7, 10, 1, 63], 0) := rfl
theorem i_Sm_search_78 : ix_nx mSm_search 78 = some (0, .aload_n 0, 79, none, [], 0) := rfl
theorem i_Sm_search_79 : ix_nx mSm_search 79 = some (1, .getfield 9, 82, none, [7, 0, 2, 53], 0) := rfl
theorem i_Sm_search_82 : ix_nx mSm_search 82 = some (0, .iload 4, 84, none, [], 0) := rfl
theorem i_Sm_search_84 : ix_nx mSm_search 84 = some (0, .lload 5, 86, none, [], 0) := rfl
theorem i_Sm_search_86 : ix_nx mSm_search 86 = some (2, .lastore, 87, none, [], 0) := rfl
theorem i_Sm_search_87 : ix_nx mSm_search 87 = some (0, .lload 5, 89, none, [], 0) := rfl
theorem i_Sm_search_89 : ix_nx mSm_search 89 = some (0, .aload_n 0, 90, none, [], 0) := rfl
theorem i_Sm_search_90 : ix_nx mSm_search 90 = some (1, .getfield 22, 93, none, [7, 3, 1, 56], 0) := rfl
theorem i_Sm_search_93 : ix_nx mSm_search 93 = some (0, .land, 94, none, [], 0) := rfl
theorem i_Sm_search_94 : ix_nx mSm_search 94 = some (0, .lconst 0, 95, none, [], 0) := rfl
theorem i_Sm_search_95 : ix_nx mSm_search 95 = some (0, .lcmp, 96, none, [], 0) := rfl
theorem i_Sm_search_96 : ix_nx mSm_search 96 = some (0, .ifCond .eq 6, 99, none, [], 0) := rfl
theorem i_Sm_search_99 : ix_nx mSm_search 99 = some (0, .iload 4, 101, none, [], 0) := rfl
theorem i_Sm_search_101 : ix_nx mSm_search 101 = some (4, .ireturn, 102, none, [], 0) := rfl
theorem i_Sm_search_102 : ix_nx mSm_search 102 = some (0, .aload_n 1, 103, none, [], 0) := rfl
theorem i_Sm_search_103 : ix_nx mSm_search 103 = some (0, .lload 5, 105, none, [], 0) := rfl
theorem i_Sm_search_105 : ix_nx mSm_search 105 = some (3, .invokevirtual 72, 108, none, [0, 67, 126], 0) := rfl
theorem i_Sm_search_108 : ix_nx mSm_search 108 = some (0, .aload_n 0, 109, none, [], 0) := rfl
theorem i_Sm_search_109 : ix_nx mSm_search 109 = some (1, .getfield 15, 112, none, [7, 1, 1, 54], 0) := rfl
theorem i_Sm_search_112 : ix_nx mSm_search 112 = some (0, .land, 113, none, [], 0) := rfl
theorem i_Sm_search_113 : ix_nx mSm_search 113 = some (0, .lload 5, 115, none, [], 0) := rfl
theorem i_Sm_search_115 : ix_nx mSm_search 115 = some (0, .aload_n 0, 116, none, [], 0) := rfl
theorem i_Sm_search_116 : ix_nx mSm_search 116 = some (1, .getfield 25, 119, none, [7, 4, 1, 57], 0) := rfl
theorem i_Sm_search_119 : ix_nx mSm_search 119 = some (0, .land, 120, none, [], 0) := rfl
theorem i_Sm_search_120 : ix_nx mSm_search 120 = some (0, .lor, 121, none, [], 0) := rfl
theorem i_Sm_search_121 : ix_nx mSm_search 121 = some (0, .aload_n 0, 122, none, [], 0) := rfl
theorem i_Sm_search_122 : ix_nx mSm_search 122 = some (1, .getfield 40, 125, none, [7, 9, 1, 62], 0) := rfl
theorem i_Sm_search_125 : ix_nx mSm_search 125 = some (0, .ldc2_w 51, 128, none, [5], -1) := rfl
theorem i_Sm_search_128 : ix_nx mSm_search 128 = some (0, .lxor, 129, none, [], 0) := rfl
theorem i_Sm_search_129 : ix_nx mSm_search 129 = some (0, .land, 130, none, [], 0) := rfl
theorem i_Sm_search_130 : ix_nx mSm_search 130 = some (0, .lstore_n 2, 131, none, [], 0) := rfl
theorem i_Sm_search_131 : ix_nx mSm_search 131 = some (0, .aload_n 0, 132, none, [], 0) := rfl
theorem i_Sm_search_132 : ix_nx mSm_search 132 = some (0, .dup, 133, none, [], 0) := rfl
theorem i_Sm_search_133 : ix_nx mSm_search 133 = some (1, .getfield 40, 136, none, [7, 9, 1, 62], 0) := rfl
theorem i_Sm_search_136 : ix_nx mSm_search 136 = some (0, .lload_n 2, 137, none, [], 0) := rfl
theorem i_Sm_search_137 : ix_nx mSm_search 137 = some (0, .lor, 138, none, [], 0) := rfl
set_option maxRecDepth 50000 in
theorem i_Sm_search_138 : ix_nx mSm_search 138 = some (2, .putfield 40, 141, none, [7, 9, 1, 62], 0) := rfl
set_option maxRecDepth 50000 in
theorem i_Sm_search_141 : ix_nx mSm_search 141 = some (0, .iinc 4 1, 144, none, [], 0) := rfl
set_option maxRecDepth 50000 in
theorem i_Sm_search_144 : ix_nx mSm_search 144 = some (0, .goto (-123), 147, none, [], 0) := rfl
set_option maxRecDepth 50000 in
theorem i_Sm_search_147 : ix_nx mSm_search 147 = some (0, .iconst (-1), 148, none, [], 0) := rfl
set_option maxRecDepth 50000 in
theorem i_Sm_search_148 : ix_nx mSm_search 148 = some (4, .ireturn, 149, none, [], 0) := rfl
noncomputable def l_Sm_search_21 (a0 : Nat) (a1 : Nat) (x2 : Int64) (x4 : Int32) (h : ixH) : Option (List Value × ixH) := ix_D mSm_search 21 [some (.ref a0), some (.ref a1), some (.long x2), none, some (.int x4), none, none] [] h
set_option maxRecDepth 20000 in
set_option maxHeartbeats 1000000 in
theorem e_Sm_search_21 (a0 : Nat) (a1 : Nat) (x2 : Int64) (x4 : Int32) (h : ixH) : l_Sm_search_21 a0 a1 x2 x4 h = if 64 ≤ x4 then some ([.int (-1)], h) else if x2 = 0 then some ([.int (-1)], h) else (ix_gl h a0 7 4).bind fun v1 => (ix_gl h a0 7 4).bind fun v2 => (ix_M mSm_before [.ref a0, .ref a1, .long (x2 &&& v2)] h).bind fun r => ix_kL r fun v4 h3 => (ix_gl h3 a0 7 10).bind fun v5 => (ix_gl h3 a0 7 10).bind fun v6 => (ix_pf h3 a0 7 10 (.long (v6 ||| (((x2 &&& (v1 ^^^ (-1))) ||| v4) &&& (v5 ^^^ (-1)))))).bind fun h7 => (ix_gr h7 a0 7 0).bind fun v8 => (ix_sl h7 v8 x4 (((x2 &&& (v1 ^^^ (-1))) ||| v4) &&& (v5 ^^^ (-1)))).bind fun h9 => (ix_gl h9 a0 7 3).bind fun v10 => if ((((x2 &&& (v1 ^^^ (-1))) ||| v4) &&& (v5 ^^^ (-1))) &&& v10) = 0 then (ix_M mGr_around [.ref a1, .long (((x2 &&& (v1 ^^^ (-1))) ||| v4) &&& (v5 ^^^ (-1)))] h9).bind fun r => ix_kL r fun v12 h11 => (ix_gl h11 a0 7 1).bind fun v13 => (ix_gl h11 a0 7 4).bind fun v14 => (ix_gl h11 a0 7 9).bind fun v15 => (ix_gl h11 a0 7 9).bind fun v16 => (ix_pf h11 a0 7 9 (.long (v16 ||| (((v12 &&& v13) ||| ((((x2 &&& (v1 ^^^ (-1))) ||| v4) &&& (v5 ^^^ (-1))) &&& v14)) &&& (v15 ^^^ (-1)))))).bind fun h17 => l_Sm_search_21 a0 a1 (((v12 &&& v13) ||| ((((x2 &&& (v1 ^^^ (-1))) ||| v4) &&& (v5 ^^^ (-1))) &&& v14)) &&& (v15 ^^^ (-1))) (x4 + 1) h17 else some ([.int x4], h9) := by
  unfold l_Sm_search_21
  refine ix_K_px kq_Sm_search i_Sm_search_21 rfl rfl ?_
  refine ix_K_cb kq_Sm_search i_Sm_search_23 rfl kcb_64 ?_
  refine ix_K_ic_ge (tgt := 147) kq_Sm_search i_Sm_search_25 rfl (by decide) ?_ ?_
  · refine ix_K_ci kq_Sm_search i_Sm_search_147 rfl kci_m1 ?_
    exact ix_D_ret kq_Sm_search i_Sm_search_148 (ix_rtI rfl _)
  · refine ix_K_px kq_Sm_search i_Sm_search_28 rfl rfl ?_
    refine ix_K_cl kq_Sm_search i_Sm_search_29 rfl kcl_0 ?_
    refine ix_K_px kq_Sm_search i_Sm_search_30 rfl rfl ?_
    refine ix_K_lc_eq (tgt := 147) kq_Sm_search i_Sm_search_31 rfl (by decide) ?_ ?_
    · refine ix_K_ci kq_Sm_search i_Sm_search_147 rfl kci_m1 ?_
      exact ix_D_ret kq_Sm_search i_Sm_search_148 (ix_rtI rfl _)
    · refine ix_K_px kq_Sm_search i_Sm_search_34 rfl rfl ?_
      refine ix_K_px kq_Sm_search i_Sm_search_35 rfl rfl ?_
      refine ix_K_gl kq_Sm_search i_Sm_search_36 rfl (fun v1 => ?_)
      refine ix_K_c2 kq_Sm_search i_Sm_search_39 rfl kc2_m1 ?_
      refine ix_K_px kq_Sm_search i_Sm_search_42 rfl rfl ?_
      refine ix_K_px kq_Sm_search i_Sm_search_43 rfl rfl ?_
      refine ix_K_px kq_Sm_search i_Sm_search_44 rfl rfl ?_
      refine ix_K_px kq_Sm_search i_Sm_search_45 rfl rfl ?_
      refine ix_K_px kq_Sm_search i_Sm_search_46 rfl rfl ?_
      refine ix_K_px kq_Sm_search i_Sm_search_47 rfl rfl ?_
      refine ix_K_gl kq_Sm_search i_Sm_search_48 rfl (fun v2 => ?_)
      refine ix_K_px kq_Sm_search i_Sm_search_51 rfl rfl ?_
      refine ix_K_callL (as := [.ref a0, .ref a1, .long (x2 &&& v2)]) (rest := [.long (x2 &&& (v1 ^^^ (-1)))]) kq_Sm_search i_Sm_search_52 rfl kq_Sm_before (by decide) rfl rfl (fun v4 h3 => ?_)
      refine ix_K_px kq_Sm_search i_Sm_search_55 rfl rfl ?_
      refine ix_K_px kq_Sm_search i_Sm_search_56 rfl rfl ?_
      refine ix_K_gl kq_Sm_search i_Sm_search_57 rfl (fun v5 => ?_)
      refine ix_K_c2 kq_Sm_search i_Sm_search_60 rfl kc2_m1 ?_
      refine ix_K_px kq_Sm_search i_Sm_search_63 rfl rfl ?_
      refine ix_K_px kq_Sm_search i_Sm_search_64 rfl rfl ?_
      refine ix_K_sl (L2 := [some (.ref a0), some (.ref a1), some (.long x2), none, some (.int x4), some (.long (((x2 &&& (v1 ^^^ (-1))) ||| v4) &&& (v5 ^^^ (-1)))), none]) kq_Sm_search i_Sm_search_65 rfl (Or.inl rfl) (Nat.le_of_ble_eq_true rfl) rfl ?_
      refine ix_K_px kq_Sm_search i_Sm_search_67 rfl rfl ?_
      refine ix_K_px kq_Sm_search i_Sm_search_68 rfl rfl ?_
      refine ix_K_gl kq_Sm_search i_Sm_search_69 rfl (fun v6 => ?_)
      refine ix_K_px kq_Sm_search i_Sm_search_72 rfl rfl ?_
      refine ix_K_px kq_Sm_search i_Sm_search_74 rfl rfl ?_
      refine ix_K_pf kq_Sm_search i_Sm_search_75 rfl rfl (fun h7 => ?_)
      refine ix_K_px kq_Sm_search i_Sm_search_78 rfl rfl ?_
      refine ix_K_gr kq_Sm_search i_Sm_search_79 rfl (fun v8 => ?_)
      refine ix_K_px kq_Sm_search i_Sm_search_82 rfl rfl ?_
      refine ix_K_px kq_Sm_search i_Sm_search_84 rfl rfl ?_
      refine ix_K_tl kq_Sm_search i_Sm_search_86 rfl (fun h9 => ?_)
      refine ix_K_px kq_Sm_search i_Sm_search_87 rfl rfl ?_
      refine ix_K_px kq_Sm_search i_Sm_search_89 rfl rfl ?_
      refine ix_K_gl kq_Sm_search i_Sm_search_90 rfl (fun v10 => ?_)
      refine ix_K_px kq_Sm_search i_Sm_search_93 rfl rfl ?_
      refine ix_K_cl kq_Sm_search i_Sm_search_94 rfl kcl_0 ?_
      refine ix_K_px kq_Sm_search i_Sm_search_95 rfl rfl ?_
      refine ix_K_lc_eq (tgt := 102) kq_Sm_search i_Sm_search_96 rfl (by decide) ?_ ?_
      · refine ix_K_px kq_Sm_search i_Sm_search_102 rfl rfl ?_
        refine ix_K_px kq_Sm_search i_Sm_search_103 rfl rfl ?_
        refine ix_K_callL (as := [.ref a1, .long (((x2 &&& (v1 ^^^ (-1))) ||| v4) &&& (v5 ^^^ (-1)))]) (rest := []) kq_Sm_search i_Sm_search_105 rfl kq_Gr_around (by decide) rfl rfl (fun v12 h11 => ?_)
        refine ix_K_px kq_Sm_search i_Sm_search_108 rfl rfl ?_
        refine ix_K_gl kq_Sm_search i_Sm_search_109 rfl (fun v13 => ?_)
        refine ix_K_px kq_Sm_search i_Sm_search_112 rfl rfl ?_
        refine ix_K_px kq_Sm_search i_Sm_search_113 rfl rfl ?_
        refine ix_K_px kq_Sm_search i_Sm_search_115 rfl rfl ?_
        refine ix_K_gl kq_Sm_search i_Sm_search_116 rfl (fun v14 => ?_)
        refine ix_K_px kq_Sm_search i_Sm_search_119 rfl rfl ?_
        refine ix_K_px kq_Sm_search i_Sm_search_120 rfl rfl ?_
        refine ix_K_px kq_Sm_search i_Sm_search_121 rfl rfl ?_
        refine ix_K_gl kq_Sm_search i_Sm_search_122 rfl (fun v15 => ?_)
        refine ix_K_c2 kq_Sm_search i_Sm_search_125 rfl kc2_m1 ?_
        refine ix_K_px kq_Sm_search i_Sm_search_128 rfl rfl ?_
        refine ix_K_px kq_Sm_search i_Sm_search_129 rfl rfl ?_
        refine ix_K_sl (L2 := [some (.ref a0), some (.ref a1), some (.long (((v12 &&& v13) ||| ((((x2 &&& (v1 ^^^ (-1))) ||| v4) &&& (v5 ^^^ (-1))) &&& v14)) &&& (v15 ^^^ (-1)))), none, some (.int x4), some (.long (((x2 &&& (v1 ^^^ (-1))) ||| v4) &&& (v5 ^^^ (-1)))), none]) kq_Sm_search i_Sm_search_130 rfl (Or.inr ⟨_, rfl, rfl⟩) (Nat.le_of_ble_eq_true rfl) rfl ?_
        refine ix_K_px kq_Sm_search i_Sm_search_131 rfl rfl ?_
        refine ix_K_px kq_Sm_search i_Sm_search_132 rfl rfl ?_
        refine ix_K_gl kq_Sm_search i_Sm_search_133 rfl (fun v16 => ?_)
        refine ix_K_px kq_Sm_search i_Sm_search_136 rfl rfl ?_
        refine ix_K_px kq_Sm_search i_Sm_search_137 rfl rfl ?_
        refine ix_K_pf kq_Sm_search i_Sm_search_138 rfl rfl (fun h17 => ?_)
        refine ix_K_inc (L2 := [some (.ref a0), some (.ref a1), some (.long (((v12 &&& v13) ||| ((((x2 &&& (v1 ^^^ (-1))) ||| v4) &&& (v5 ^^^ (-1))) &&& v14)) &&& (v15 ^^^ (-1)))), none, some (.int (x4 + 1)), some (.long (((x2 &&& (v1 ^^^ (-1))) ||| v4) &&& (v5 ^^^ (-1)))), none]) kq_Sm_search i_Sm_search_141 rfl rfl (Nat.le_of_ble_eq_true rfl) kci_1 rfl ?_
        refine ix_K_goto (tgt := 21) kq_Sm_search i_Sm_search_144 rfl (by decide) ?_
        exact ix_D_cut i_Sm_search_21 rfl
      · refine ix_K_px kq_Sm_search i_Sm_search_99 rfl rfl ?_
        exact ix_D_ret kq_Sm_search i_Sm_search_101 (ix_rtI rfl _)
set_option maxRecDepth 20000 in
set_option maxHeartbeats 1000000 in
theorem e_Sm_search (a0 : Nat) (a1 : Nat) (h : ixH) : ix_D mSm_search 0 [some (.ref a0), some (.ref a1), none, none, none, none, none] [] h = (ix_gl h a0 7 2).bind fun v1 => (ix_gl h a0 7 2).bind fun v2 => (ix_pf h a0 7 9 (.long v2)).bind fun h3 => (ix_pf h3 a0 7 10 (.long 0)).bind fun h4 => l_Sm_search_21 a0 a1 v1 0 h4 := by
  refine ix_K_px kq_Sm_search i_Sm_search_0 rfl rfl ?_
  refine ix_K_gl kq_Sm_search i_Sm_search_1 rfl (fun v1 => ?_)
  refine ix_K_sl (L2 := [some (.ref a0), some (.ref a1), some (.long v1), none, none, none, none]) kq_Sm_search i_Sm_search_4 rfl (Or.inr ⟨_, rfl, rfl⟩) (Nat.le_of_ble_eq_true rfl) rfl ?_
  refine ix_K_px kq_Sm_search i_Sm_search_5 rfl rfl ?_
  refine ix_K_px kq_Sm_search i_Sm_search_6 rfl rfl ?_
  refine ix_K_gl kq_Sm_search i_Sm_search_7 rfl (fun v2 => ?_)
  refine ix_K_pf kq_Sm_search i_Sm_search_10 rfl rfl (fun h3 => ?_)
  refine ix_K_px kq_Sm_search i_Sm_search_13 rfl rfl ?_
  refine ix_K_cl kq_Sm_search i_Sm_search_14 rfl kcl_0 ?_
  refine ix_K_pf kq_Sm_search i_Sm_search_15 rfl rfl (fun h4 => ?_)
  refine ix_K_ci kq_Sm_search i_Sm_search_18 rfl kci_0 ?_
  refine ix_K_si (L2 := [some (.ref a0), some (.ref a1), some (.long v1), none, some (.int 0), none, none]) kq_Sm_search i_Sm_search_19 rfl (Or.inl rfl) (Nat.le_of_ble_eq_true rfl) rfl ?_
  exact ix_D_cut i_Sm_search_21 rfl
theorem x_Sm_search {a0 : Nat} {a1 : Nat} {h h1 : ixH} {v : Int32} (hr : ix_rc h a0 = some 7) (hd : ix_D mSm_search 0 [some (.ref a0), some (.ref a1), none, none, none, none, none] [] h = some ([.int v], h1)) : ix_M mSm_search [.ref a0, .ref a1] h = some ([.int v], h1) := ix_M_of (ix_ent_i kq_Sm_search rfl hr rfl (Nat.le_of_ble_eq_true rfl) rfl) hd (ix_okrI (Or.inl rfl) v)
theorem i_Sm_before_0 : ix_nx mSm_before 0 = some (0, .lload_n 2, 1, none, [], 0) := rfl
theorem i_Sm_before_1 : ix_nx mSm_before 1 = some (0, .aload_n 1, 2, none, [], 0) := rfl
theorem i_Sm_before_2 : ix_nx mSm_before 2 = some (1, .getfield 76, 5, none, [2, 3, 1, 14], 0) := rfl
theorem i_Sm_before_5 : ix_nx mSm_before 5 = some (0, .land, 6, none, [], 0) := rfl
theorem i_Sm_before_6 : ix_nx mSm_before 6 = some (0, .iconst 1, 7, none, [], 0) := rfl
theorem i_Sm_before_7 : ix_nx mSm_before 7 = some (0, .lushr, 8, none, [], 0) := rfl
theorem i_Sm_before_8 : ix_nx mSm_before 8 = some (0, .aload_n 0, 9, none, [], 0) := rfl
theorem i_Sm_before_9 : ix_nx mSm_before 9 = some (1, .getfield 28, 12, none, [7, 5, 1, 58], 0) := rfl
theorem i_Sm_before_12 : ix_nx mSm_before 12 = some (0, .land, 13, none, [], 0) := rfl
theorem i_Sm_before_13 : ix_nx mSm_before 13 = some (0, .lload_n 2, 14, none, [], 0) := rfl
theorem i_Sm_before_14 : ix_nx mSm_before 14 = some (0, .aload_n 1, 15, none, [], 0) := rfl
theorem i_Sm_before_15 : ix_nx mSm_before 15 = some (1, .getfield 79, 18, none, [2, 4, 1, 16], 0) := rfl
theorem i_Sm_before_18 : ix_nx mSm_before 18 = some (0, .land, 19, none, [], 0) := rfl
theorem i_Sm_before_19 : ix_nx mSm_before 19 = some (0, .iconst 1, 20, none, [], 0) := rfl
theorem i_Sm_before_20 : ix_nx mSm_before 20 = some (0, .lshl, 21, none, [], 0) := rfl
theorem i_Sm_before_21 : ix_nx mSm_before 21 = some (0, .aload_n 0, 22, none, [], 0) := rfl
theorem i_Sm_before_22 : ix_nx mSm_before 22 = some (1, .getfield 31, 25, none, [7, 6, 1, 59], 0) := rfl
theorem i_Sm_before_25 : ix_nx mSm_before 25 = some (0, .land, 26, none, [], 0) := rfl
theorem i_Sm_before_26 : ix_nx mSm_before 26 = some (0, .lor, 27, none, [], 0) := rfl
theorem i_Sm_before_27 : ix_nx mSm_before 27 = some (0, .lload_n 2, 28, none, [], 0) := rfl
theorem i_Sm_before_28 : ix_nx mSm_before 28 = some (0, .aload_n 1, 29, none, [], 0) := rfl
theorem i_Sm_before_29 : ix_nx mSm_before 29 = some (1, .getfield 82, 32, none, [2, 0, 0, 4], 0) := rfl
theorem i_Sm_before_32 : ix_nx mSm_before 32 = some (0, .lushr, 33, none, [], 0) := rfl
theorem i_Sm_before_33 : ix_nx mSm_before 33 = some (0, .aload_n 0, 34, none, [], 0) := rfl
theorem i_Sm_before_34 : ix_nx mSm_before 34 = some (1, .getfield 34, 37, none, [7, 7, 1, 60], 0) := rfl
theorem i_Sm_before_37 : ix_nx mSm_before 37 = some (0, .land, 38, none, [], 0) := rfl
theorem i_Sm_before_38 : ix_nx mSm_before 38 = some (0, .lor, 39, none, [], 0) := rfl
theorem i_Sm_before_39 : ix_nx mSm_before 39 = some (0, .lload_n 2, 40, none, [], 0) := rfl
theorem i_Sm_before_40 : ix_nx mSm_before 40 = some (0, .aload_n 1, 41, none, [], 0) := rfl
theorem i_Sm_before_41 : ix_nx mSm_before 41 = some (1, .getfield 82, 44, none, [2, 0, 0, 4], 0) := rfl
theorem i_Sm_before_44 : ix_nx mSm_before 44 = some (0, .lshl, 45, none, [], 0) := rfl
theorem i_Sm_before_45 : ix_nx mSm_before 45 = some (0, .aload_n 0, 46, none, [], 0) := rfl
theorem i_Sm_before_46 : ix_nx mSm_before 46 = some (1, .getfield 37, 49, none, [7, 8, 1, 61], 0) := rfl
theorem i_Sm_before_49 : ix_nx mSm_before 49 = some (0, .land, 50, none, [], 0) := rfl
theorem i_Sm_before_50 : ix_nx mSm_before 50 = some (0, .lor, 51, none, [], 0) := rfl
theorem i_Sm_before_51 : ix_nx mSm_before 51 = some (4, .lreturn, 52, none, [], 0) := rfl
set_option maxRecDepth 20000 in
set_option maxHeartbeats 1000000 in
theorem e_Sm_before (a0 : Nat) (a1 : Nat) (x2 : Int64) (h : ixH) : ix_D mSm_before 0 [some (.ref a0), some (.ref a1), some (.long x2), none] [] h = (ix_gl h a1 2 3).bind fun v1 => (ix_gl h a0 7 5).bind fun v2 => (ix_gl h a1 2 4).bind fun v3 => (ix_gl h a0 7 6).bind fun v4 => (ix_gi h a1 2 0).bind fun v5 => (ix_gl h a0 7 7).bind fun v6 => (ix_gi h a1 2 0).bind fun v7 => (ix_gl h a0 7 8).bind fun v8 => some ([.long (((((ix_ush (x2 &&& v1) 1) &&& v2) ||| ((ix_shl (x2 &&& v3) 1) &&& v4)) ||| ((ix_ush x2 v5) &&& v6)) ||| ((ix_shl x2 v7) &&& v8))], h) := by
  refine ix_K_px kq_Sm_before i_Sm_before_0 rfl rfl ?_
  refine ix_K_px kq_Sm_before i_Sm_before_1 rfl rfl ?_
  refine ix_K_gl kq_Sm_before i_Sm_before_2 rfl (fun v1 => ?_)
  refine ix_K_px kq_Sm_before i_Sm_before_5 rfl rfl ?_
  refine ix_K_ci kq_Sm_before i_Sm_before_6 rfl kci_1 ?_
  refine ix_K_px kq_Sm_before i_Sm_before_7 rfl rfl ?_
  refine ix_K_px kq_Sm_before i_Sm_before_8 rfl rfl ?_
  refine ix_K_gl kq_Sm_before i_Sm_before_9 rfl (fun v2 => ?_)
  refine ix_K_px kq_Sm_before i_Sm_before_12 rfl rfl ?_
  refine ix_K_px kq_Sm_before i_Sm_before_13 rfl rfl ?_
  refine ix_K_px kq_Sm_before i_Sm_before_14 rfl rfl ?_
  refine ix_K_gl kq_Sm_before i_Sm_before_15 rfl (fun v3 => ?_)
  refine ix_K_px kq_Sm_before i_Sm_before_18 rfl rfl ?_
  refine ix_K_ci kq_Sm_before i_Sm_before_19 rfl kci_1 ?_
  refine ix_K_px kq_Sm_before i_Sm_before_20 rfl rfl ?_
  refine ix_K_px kq_Sm_before i_Sm_before_21 rfl rfl ?_
  refine ix_K_gl kq_Sm_before i_Sm_before_22 rfl (fun v4 => ?_)
  refine ix_K_px kq_Sm_before i_Sm_before_25 rfl rfl ?_
  refine ix_K_px kq_Sm_before i_Sm_before_26 rfl rfl ?_
  refine ix_K_px kq_Sm_before i_Sm_before_27 rfl rfl ?_
  refine ix_K_px kq_Sm_before i_Sm_before_28 rfl rfl ?_
  refine ix_K_gi kq_Sm_before i_Sm_before_29 rfl (fun v5 => ?_)
  refine ix_K_px kq_Sm_before i_Sm_before_32 rfl rfl ?_
  refine ix_K_px kq_Sm_before i_Sm_before_33 rfl rfl ?_
  refine ix_K_gl kq_Sm_before i_Sm_before_34 rfl (fun v6 => ?_)
  refine ix_K_px kq_Sm_before i_Sm_before_37 rfl rfl ?_
  refine ix_K_px kq_Sm_before i_Sm_before_38 rfl rfl ?_
  refine ix_K_px kq_Sm_before i_Sm_before_39 rfl rfl ?_
  refine ix_K_px kq_Sm_before i_Sm_before_40 rfl rfl ?_
  refine ix_K_gi kq_Sm_before i_Sm_before_41 rfl (fun v7 => ?_)
  refine ix_K_px kq_Sm_before i_Sm_before_44 rfl rfl ?_
  refine ix_K_px kq_Sm_before i_Sm_before_45 rfl rfl ?_
  refine ix_K_gl kq_Sm_before i_Sm_before_46 rfl (fun v8 => ?_)
  refine ix_K_px kq_Sm_before i_Sm_before_49 rfl rfl ?_
  refine ix_K_px kq_Sm_before i_Sm_before_50 rfl rfl ?_
  exact ix_D_ret kq_Sm_before i_Sm_before_51 (ix_rtL rfl _)
theorem x_Sm_before {a0 : Nat} {a1 : Nat} {x2 : Int64} {h h1 : ixH} {v : Int64} (hr : ix_rc h a0 = some 7) (hd : ix_D mSm_before 0 [some (.ref a0), some (.ref a1), some (.long x2), none] [] h = some ([.long v], h1)) : ix_M mSm_before [.ref a0, .ref a1, .long x2] h = some ([.long v], h1) := ix_M_of (ix_ent_i kq_Sm_before rfl hr rfl (Nat.le_of_ble_eq_true rfl) rfl) hd (ix_okrL rfl v)
theorem i_Sm_addRoute_0 : ix_nx mSm_addRoute 0 = some (0, .iload_n 2, 1, none, [], 0) := rfl
theorem i_Sm_addRoute_1 : ix_nx mSm_addRoute 1 = some (0, .ifCond .lt 9, 4, none, [], 0) := rfl
theorem i_Sm_addRoute_4 : ix_nx mSm_addRoute 4 = some (0, .iload_n 2, 5, none, [], 0) := rfl
theorem i_Sm_addRoute_5 : ix_nx mSm_addRoute 5 = some (0, .bipush 64, 7, none, [], 0) := rfl
theorem i_Sm_addRoute_7 : ix_nx mSm_addRoute 7 = some (0, .if_icmp .lt 4, 10, none, [], 0) := rfl
theorem i_Sm_addRoute_10 : ix_nx mSm_addRoute 10 = some (4, .return_, 11, none, [], 0) := rfl
theorem i_Sm_addRoute_11 : ix_nx mSm_addRoute 11 = some (0, .aload_n 0, 12, none, [], 0) := rfl
theorem i_Sm_addRoute_12 : ix_nx mSm_addRoute 12 = some (1, .getfield 25, 15, none, [7, 4, 1, 57], 0) := rfl
theorem i_Sm_addRoute_15 : ix_nx mSm_addRoute 15 = some (0, .lstore_n 3, 16, none, [], 0) := rfl
theorem i_Sm_addRoute_16 : ix_nx mSm_addRoute 16 = some (0, .aload_n 0, 17, none, [], 0) := rfl
theorem i_Sm_addRoute_17 : ix_nx mSm_addRoute 17 = some (1, .getfield 9, 20, none, [7, 0, 2, 53], 0) := rfl
theorem i_Sm_addRoute_20 : ix_nx mSm_addRoute 20 = some (0, .iload_n 2, 21, none, [], 0) := rfl
theorem i_Sm_addRoute_21 : ix_nx mSm_addRoute 21 = some (1, .laload, 22, none, [], 0) := rfl
theorem i_Sm_addRoute_22 : ix_nx mSm_addRoute 22 = some (0, .aload_n 0, 23, none, [], 0) := rfl
theorem i_Sm_addRoute_23 : ix_nx mSm_addRoute 23 = some (1, .getfield 22, 26, none, [7, 3, 1, 56], 0) := rfl
theorem i_Sm_addRoute_26 : ix_nx mSm_addRoute 26 = some (0, .land, 27, none, [], 0) := rfl
theorem i_Sm_addRoute_27 : ix_nx mSm_addRoute 27 = some (3, .invokestatic 86, 30, none, [1, 113, 127], 0) := rfl
theorem i_Sm_addRoute_30 : ix_nx mSm_addRoute 30 = some (0, .lstore 5, 32, none, [], 0) := rfl
theorem i_Sm_addRoute_32 : ix_nx mSm_addRoute 32 = some (0, .lconst 0, 33, none, [], 0) := rfl
theorem i_Sm_addRoute_33 : ix_nx mSm_addRoute 33 = some (0, .lstore 7, 35, none, [], 0) := rfl
theorem i_Sm_addRoute_35 : ix_nx mSm_addRoute 35 = some (0, .iload_n 2, 36, none, [], 0) := rfl
theorem i_Sm_addRoute_36 : ix_nx mSm_addRoute 36 = some (0, .istore 9, 38, none, [], 0) := rfl
theorem i_Sm_addRoute_38 : ix_nx mSm_addRoute 38 = some (0, .iload 9, 40, some [true, true, false, true, false, true, false, true, false, true, false, false, false, false], [], 0) := rfl
theorem i_Sm_addRoute_40 : ix_nx mSm_addRoute 40 = some (0, .ifCond .lt 135, 43, none, [], 0) := rfl
theorem i_Sm_addRoute_43 : ix_nx mSm_addRoute 43 = some (0, .lload 5, 45, none, [], 0) := rfl
theorem i_Sm_addRoute_45 : ix_nx mSm_addRoute 45 = some (0, .lstore 10, 47, none, [], 0) := rfl
theorem i_Sm_addRoute_47 : ix_nx mSm_addRoute 47 = some (0, .lload 5, 49, none, [], 0) := rfl
theorem i_Sm_addRoute_49 : ix_nx mSm_addRoute 49 = some (0, .lload_n 3, 50, none, [], 0) := rfl
theorem i_Sm_addRoute_50 : ix_nx mSm_addRoute 50 = some (0, .land, 51, none, [], 0) := rfl
theorem i_Sm_addRoute_51 : ix_nx mSm_addRoute 51 = some (0, .lconst 0, 52, none, [], 0) := rfl
theorem i_Sm_addRoute_52 : ix_nx mSm_addRoute 52 = some (0, .lcmp, 53, none, [], 0) := rfl
theorem i_Sm_addRoute_53 : ix_nx mSm_addRoute 53 = some (0, .ifCond .ne 17, 56, none, [], 0) := rfl
theorem i_Sm_addRoute_56 : ix_nx mSm_addRoute 56 = some (0, .aload_n 0, 57, none, [], 0) := rfl
theorem i_Sm_addRoute_57 : ix_nx mSm_addRoute 57 = some (0, .dup, 58, none, [], 0) := rfl
theorem i_Sm_addRoute_58 : ix_nx mSm_addRoute 58 = some (1, .getfield 25, 61, none, [7, 4, 1, 57], 0) := rfl
theorem i_Sm_addRoute_61 : ix_nx mSm_addRoute 61 = some (0, .lload 5, 63, none, [], 0) := rfl
theorem i_Sm_addRoute_63 : ix_nx mSm_addRoute 63 = some (0, .lor, 64, none, [], 0) := rfl
theorem i_Sm_addRoute_64 : ix_nx mSm_addRoute 64 = some (2, .putfield 25, 67, none, [7, 4, 1, 57], 0) := rfl
theorem i_Sm_addRoute_67 : ix_nx mSm_addRoute 67 = some (0, .goto 18, 70, none, [], 0) := rfl
theorem i_Sm_addRoute_70 : ix_nx mSm_addRoute 70 = some (0, .aload_n 0, 71, none, [], 0) := rfl
theorem i_Sm_addRoute_71 : ix_nx mSm_addRoute 71 = some (0, .aload_n 1, 72, none, [], 0) := rfl
theorem i_Sm_addRoute_72 : ix_nx mSm_addRoute 72 = some (0, .lload 5, 74, none, [], 0) := rfl
theorem i_Sm_addRoute_74 : ix_nx mSm_addRoute 74 = some (3, .invokevirtual 89, 77, none, [0, 114, 128], 0) := rfl
theorem i_Sm_addRoute_77 : ix_nx mSm_addRoute 77 = some (0, .lstore 10, 79, none, [], 0) := rfl
theorem i_Sm_addRoute_79 : ix_nx mSm_addRoute 79 = some (0, .aload_n 0, 80, none, [], 0) := rfl
theorem i_Sm_addRoute_80 : ix_nx mSm_addRoute 80 = some (0, .lload 5, 82, none, [], 0) := rfl
theorem i_Sm_addRoute_82 : ix_nx mSm_addRoute 82 = some (3, .invokevirtual 56, 85, none, [0, 109, 122], 0) := rfl
theorem i_Sm_addRoute_85 : ix_nx mSm_addRoute 85 = some (0, .aload_n 0, 86, some [true, true, false, true, false, true, false, true, false, true, true, false, false, false], [], 0) := rfl
theorem i_Sm_addRoute_86 : ix_nx mSm_addRoute 86 = some (0, .aload_n 1, 87, none, [], 0) := rfl
theorem i_Sm_addRoute_87 : ix_nx mSm_addRoute 87 = some (0, .lload 5, 89, none, [], 0) := rfl
theorem i_Sm_addRoute_89 : ix_nx mSm_addRoute 89 = some (0, .lload 7, 91, none, [], 0) := rfl
theorem i_Sm_addRoute_91 : ix_nx mSm_addRoute 91 = some (3, .invokevirtual 92, 94, none, [0, 115, 129], 0) := rfl
theorem i_Sm_addRoute_94 : ix_nx mSm_addRoute 94 = some (0, .iload 9, 96, none, [], 0) := rfl
theorem i_Sm_addRoute_96 : ix_nx mSm_addRoute 96 = some (0, .ifCond .le 15, 99, none, [], 0) := rfl
theorem i_Sm_addRoute_99 : ix_nx mSm_addRoute 99 = some (0, .aload_n 0, 100, none, [], 0) := rfl
theorem i_Sm_addRoute_100 : ix_nx mSm_addRoute 100 = some (1, .getfield 9, 103, none, [7, 0, 2, 53], 0) := rfl
theorem i_Sm_addRoute_103 : ix_nx mSm_addRoute 103 = some (0, .iload 9, 105, none, [], 0) := rfl
theorem i_Sm_addRoute_105 : ix_nx mSm_addRoute 105 = some (0, .iconst 1, 106, none, [], 0) := rfl
theorem i_Sm_addRoute_106 : ix_nx mSm_addRoute 106 = some (0, .isub, 107, none, [], 0) := rfl
theorem i_Sm_addRoute_107 : ix_nx mSm_addRoute 107 = some (1, .laload, 108, none, [], 0) := rfl
theorem i_Sm_addRoute_108 : ix_nx mSm_addRoute 108 = some (0, .goto 4, 111, none, [], 0) := rfl
theorem i_Sm_addRoute_111 : ix_nx mSm_addRoute 111 = some (0, .lconst 0, 112, none, [], 0) := rfl
theorem i_Sm_addRoute_112 : ix_nx mSm_addRoute 112 = some (0, .lstore 12, 114, some [true, true, false, true, false, false, false, false, false, true, true, false, false, false], [], 0) := rfl
theorem i_Sm_addRoute_114 : ix_nx mSm_addRoute 114 = some (0, .lload 10, 116, none, [], 0) := rfl
theorem i_Sm_addRoute_116 : ix_nx mSm_addRoute 116 = some (0, .lload_n 3, 117, none, [], 0) := rfl
theorem i_Sm_addRoute_117 : ix_nx mSm_addRoute 117 = some (0, .land, 118, none, [], 0) := rfl
theorem i_Sm_addRoute_118 : ix_nx mSm_addRoute 118 = some (0, .lload 12, 120, none, [], 0) := rfl
theorem i_Sm_addRoute_120 : ix_nx mSm_addRoute 120 = some (0, .land, 121, none, [], 0) := rfl
theorem i_Sm_addRoute_121 : ix_nx mSm_addRoute 121 = some (0, .lconst 0, 122, none, [], 0) := rfl
theorem i_Sm_addRoute_122 : ix_nx mSm_addRoute 122 = some (0, .lcmp, 123, none, [], 0) := rfl
theorem i_Sm_addRoute_123 : ix_nx mSm_addRoute 123 = some (0, .ifCond .eq 28, 126, none, [], 0) := rfl
theorem i_Sm_addRoute_126 : ix_nx mSm_addRoute 126 = some (0, .aload_n 0, 127, none, [], 0) := rfl
theorem i_Sm_addRoute_127 : ix_nx mSm_addRoute 127 = some (0, .dup, 128, none, [], 0) := rfl
theorem i_Sm_addRoute_128 : ix_nx mSm_addRoute 128 = some (1, .getfield 25, 131, none, [7, 4, 1, 57], 0) := rfl
theorem i_Sm_addRoute_131 : ix_nx mSm_addRoute 131 = some (0, .lload 10, 133, none, [], 0) := rfl
theorem i_Sm_addRoute_133 : ix_nx mSm_addRoute 133 = some (0, .ldc2_w 51, 136, none, [5], -1) := rfl
theorem i_Sm_addRoute_136 : ix_nx mSm_addRoute 136 = some (0, .lxor, 137, none, [], 0) := rfl
theorem i_Sm_addRoute_137 : ix_nx mSm_addRoute 137 = some (0, .land, 138, none, [], 0) := rfl
theorem i_Sm_addRoute_138 : ix_nx mSm_addRoute 138 = some (2, .putfield 25, 141, none, [7, 4, 1, 57], 0) := rfl
theorem i_Sm_addRoute_141 : ix_nx mSm_addRoute 141 = some (0, .lload 10, 143, none, [], 0) := rfl
theorem i_Sm_addRoute_143 : ix_nx mSm_addRoute 143 = some (0, .lstore 5, 145, none, [], 0) := rfl
set_option maxRecDepth 50000 in
theorem i_Sm_addRoute_145 : ix_nx mSm_addRoute 145 = some (0, .lconst 0, 146, none, [], 0) := rfl
set_option maxRecDepth 50000 in
theorem i_Sm_addRoute_146 : ix_nx mSm_addRoute 146 = some (0, .lstore 7, 148, none, [], 0) := rfl
set_option maxRecDepth 50000 in
theorem i_Sm_addRoute_148 : ix_nx mSm_addRoute 148 = some (0, .goto 21, 151, none, [], 0) := rfl
set_option maxRecDepth 50000 in
theorem i_Sm_addRoute_151 : ix_nx mSm_addRoute 151 = some (0, .aload_n 1, 152, none, [], 0) := rfl
set_option maxRecDepth 50000 in
theorem i_Sm_addRoute_152 : ix_nx mSm_addRoute 152 = some (0, .lload 10, 154, none, [], 0) := rfl
set_option maxRecDepth 50000 in
theorem i_Sm_addRoute_154 : ix_nx mSm_addRoute 154 = some (3, .invokevirtual 72, 157, none, [0, 67, 126], 0) := rfl
set_option maxRecDepth 50000 in
theorem i_Sm_addRoute_157 : ix_nx mSm_addRoute 157 = some (0, .lload 12, 159, none, [], 0) := rfl
set_option maxRecDepth 50000 in
theorem i_Sm_addRoute_159 : ix_nx mSm_addRoute 159 = some (0, .land, 160, none, [], 0) := rfl
set_option maxRecDepth 50000 in
theorem i_Sm_addRoute_160 : ix_nx mSm_addRoute 160 = some (3, .invokestatic 86, 163, none, [1, 113, 127], 0) := rfl
set_option maxRecDepth 50000 in
theorem i_Sm_addRoute_163 : ix_nx mSm_addRoute 163 = some (0, .lstore 5, 165, none, [], 0) := rfl
set_option maxRecDepth 50000 in
theorem i_Sm_addRoute_165 : ix_nx mSm_addRoute 165 = some (0, .lload 10, 167, none, [], 0) := rfl
set_option maxRecDepth 50000 in
theorem i_Sm_addRoute_167 : ix_nx mSm_addRoute 167 = some (0, .lstore 7, 169, none, [], 0) := rfl
set_option maxRecDepth 50000 in
theorem i_Sm_addRoute_169 : ix_nx mSm_addRoute 169 = some (0, .iinc 9 (-1), 172, none, [], 0) := rfl
set_option maxRecDepth 50000 in
theorem i_Sm_addRoute_172 : ix_nx mSm_addRoute 172 = some (0, .goto (-134), 175, none, [], 0) := rfl
set_option maxRecDepth 50000 in
theorem i_Sm_addRoute_175 : ix_nx mSm_addRoute 175 = some (4, .return_, 176, none, [], 0) := rfl
noncomputable def l_Sm_addRoute_38 (a0 : Nat) (a1 : Nat) (x3 : Int64) (x5 : Int64) (x7 : Int64) (x9 : Int32) (h : ixH) : Option (List Value × ixH) := ix_D mSm_addRoute 38 [some (.ref a0), some (.ref a1), none, some (.long x3), none, some (.long x5), none, some (.long x7), none, some (.int x9), none, none, none, none] [] h
noncomputable def l_Sm_addRoute_85 (a0 : Nat) (a1 : Nat) (x3 : Int64) (x5 : Int64) (x7 : Int64) (x9 : Int32) (x10 : Int64) (h : ixH) : Option (List Value × ixH) := ix_D mSm_addRoute 85 [some (.ref a0), some (.ref a1), none, some (.long x3), none, some (.long x5), none, some (.long x7), none, some (.int x9), some (.long x10), none, none, none] [] h
noncomputable def l_Sm_addRoute_112 (a0 : Nat) (a1 : Nat) (x3 : Int64) (x9 : Int32) (x10 : Int64) (s0 : Int64) (h : ixH) : Option (List Value × ixH) := ix_D mSm_addRoute 112 [some (.ref a0), some (.ref a1), none, some (.long x3), none, none, none, none, none, some (.int x9), some (.long x10), none, none, none] [.long s0] h
set_option maxRecDepth 20000 in
set_option maxHeartbeats 1000000 in
theorem e_Sm_addRoute_38 (a0 : Nat) (a1 : Nat) (x3 : Int64) (x5 : Int64) (x7 : Int64) (x9 : Int32) (h : ixH) : l_Sm_addRoute_38 a0 a1 x3 x5 x7 x9 h = if x9 < 0 then some ([], h) else if (x5 &&& x3) = 0 then (ix_gl h a0 7 4).bind fun v1 => (ix_pf h a0 7 4 (.long (v1 ||| x5))).bind fun h2 => l_Sm_addRoute_85 a0 a1 x3 x5 x7 x9 x5 h2 else (ix_M mSm_after [.ref a0, .ref a1, .long x5] h).bind fun r => ix_kL r fun v4 h3 => (ix_M mSm_cut [.ref a0, .long x5] h3).bind fun r => ix_kV r fun h5 => l_Sm_addRoute_85 a0 a1 x3 x5 x7 x9 v4 h5 := by
  unfold l_Sm_addRoute_38
  refine ix_K_px kq_Sm_addRoute i_Sm_addRoute_38 rfl rfl ?_
  refine ix_K_if_lt (tgt := 175) kq_Sm_addRoute i_Sm_addRoute_40 rfl (by decide) ?_ ?_
  · exact ix_D_ret kq_Sm_addRoute i_Sm_addRoute_175 (ix_rtV rfl)
  · refine ix_K_px kq_Sm_addRoute i_Sm_addRoute_43 rfl rfl ?_
    refine ix_K_sl (L2 := [some (.ref a0), some (.ref a1), none, some (.long x3), none, some (.long x5), none, some (.long x7), none, some (.int x9), some (.long x5), none, none, none]) kq_Sm_addRoute i_Sm_addRoute_45 rfl (Or.inl rfl) (Nat.le_of_ble_eq_true rfl) rfl ?_
    refine ix_K_px kq_Sm_addRoute i_Sm_addRoute_47 rfl rfl ?_
    refine ix_K_px kq_Sm_addRoute i_Sm_addRoute_49 rfl rfl ?_
    refine ix_K_px kq_Sm_addRoute i_Sm_addRoute_50 rfl rfl ?_
    refine ix_K_cl kq_Sm_addRoute i_Sm_addRoute_51 rfl kcl_0 ?_
    refine ix_K_px kq_Sm_addRoute i_Sm_addRoute_52 rfl rfl ?_
    refine ix_K_lc_ne (tgt := 70) kq_Sm_addRoute i_Sm_addRoute_53 rfl (by decide) ?_ ?_
    · refine ix_K_px kq_Sm_addRoute i_Sm_addRoute_56 rfl rfl ?_
      refine ix_K_px kq_Sm_addRoute i_Sm_addRoute_57 rfl rfl ?_
      refine ix_K_gl kq_Sm_addRoute i_Sm_addRoute_58 rfl (fun v1 => ?_)
      refine ix_K_px kq_Sm_addRoute i_Sm_addRoute_61 rfl rfl ?_
      refine ix_K_px kq_Sm_addRoute i_Sm_addRoute_63 rfl rfl ?_
      refine ix_K_pf kq_Sm_addRoute i_Sm_addRoute_64 rfl rfl (fun h2 => ?_)
      refine ix_K_goto (tgt := 85) kq_Sm_addRoute i_Sm_addRoute_67 rfl (by decide) ?_
      exact ix_D_cut i_Sm_addRoute_85 rfl
    · refine ix_K_px kq_Sm_addRoute i_Sm_addRoute_70 rfl rfl ?_
      refine ix_K_px kq_Sm_addRoute i_Sm_addRoute_71 rfl rfl ?_
      refine ix_K_px kq_Sm_addRoute i_Sm_addRoute_72 rfl rfl ?_
      refine ix_K_callL (as := [.ref a0, .ref a1, .long x5]) (rest := []) kq_Sm_addRoute i_Sm_addRoute_74 rfl kq_Sm_after (by decide) rfl rfl (fun v4 h3 => ?_)
      refine ix_K_sl (L2 := [some (.ref a0), some (.ref a1), none, some (.long x3), none, some (.long x5), none, some (.long x7), none, some (.int x9), some (.long v4), none, none, none]) kq_Sm_addRoute i_Sm_addRoute_77 rfl (Or.inl rfl) (Nat.le_of_ble_eq_true rfl) rfl ?_
      refine ix_K_px kq_Sm_addRoute i_Sm_addRoute_79 rfl rfl ?_
      refine ix_K_px kq_Sm_addRoute i_Sm_addRoute_80 rfl rfl ?_
      refine ix_K_callV (as := [.ref a0, .long x5]) (rest := []) kq_Sm_addRoute i_Sm_addRoute_82 rfl kq_Sm_cut (by decide) rfl rfl (fun h5 => ?_)
      exact ix_D_cut i_Sm_addRoute_85 rfl
set_option maxRecDepth 20000 in
set_option maxHeartbeats 1000000 in
theorem e_Sm_addRoute_85 (a0 : Nat) (a1 : Nat) (x3 : Int64) (x5 : Int64) (x7 : Int64) (x9 : Int32) (x10 : Int64) (h : ixH) : l_Sm_addRoute_85 a0 a1 x3 x5 x7 x9 x10 h = (ix_M mSm_lead [.ref a0, .ref a1, .long x5, .long x7] h).bind fun r => ix_kV r fun h1 => if x9 ≤ 0 then l_Sm_addRoute_112 a0 a1 x3 x9 x10 0 h1 else (ix_gr h1 a0 7 0).bind fun v2 => (ix_al h1 v2 (x9 - 1)).bind fun v3 => l_Sm_addRoute_112 a0 a1 x3 x9 x10 v3 h1 := by
  unfold l_Sm_addRoute_85
  refine ix_K_px kq_Sm_addRoute i_Sm_addRoute_85 rfl rfl ?_
  refine ix_K_px kq_Sm_addRoute i_Sm_addRoute_86 rfl rfl ?_
  refine ix_K_px kq_Sm_addRoute i_Sm_addRoute_87 rfl rfl ?_
  refine ix_K_px kq_Sm_addRoute i_Sm_addRoute_89 rfl rfl ?_
  refine ix_K_callV (as := [.ref a0, .ref a1, .long x5, .long x7]) (rest := []) kq_Sm_addRoute i_Sm_addRoute_91 rfl kq_Sm_lead (by decide) rfl rfl (fun h1 => ?_)
  refine ix_K_px kq_Sm_addRoute i_Sm_addRoute_94 rfl rfl ?_
  refine ix_K_if_le (tgt := 111) kq_Sm_addRoute i_Sm_addRoute_96 rfl (by decide) ?_ ?_
  · refine ix_K_cl kq_Sm_addRoute i_Sm_addRoute_111 rfl kcl_0 ?_
    exact ix_D_cut i_Sm_addRoute_112 rfl
  · refine ix_K_px kq_Sm_addRoute i_Sm_addRoute_99 rfl rfl ?_
    refine ix_K_gr kq_Sm_addRoute i_Sm_addRoute_100 rfl (fun v2 => ?_)
    refine ix_K_px kq_Sm_addRoute i_Sm_addRoute_103 rfl rfl ?_
    refine ix_K_ci kq_Sm_addRoute i_Sm_addRoute_105 rfl kci_1 ?_
    refine ix_K_px kq_Sm_addRoute i_Sm_addRoute_106 rfl rfl ?_
    refine ix_K_al kq_Sm_addRoute i_Sm_addRoute_107 rfl (fun v3 => ?_)
    refine ix_K_goto (tgt := 112) kq_Sm_addRoute i_Sm_addRoute_108 rfl (by decide) ?_
    exact ix_D_cut i_Sm_addRoute_112 rfl
set_option maxRecDepth 20000 in
set_option maxHeartbeats 1000000 in
theorem e_Sm_addRoute_112 (a0 : Nat) (a1 : Nat) (x3 : Int64) (x9 : Int32) (x10 : Int64) (s0 : Int64) (h : ixH) : l_Sm_addRoute_112 a0 a1 x3 x9 x10 s0 h = if ((x10 &&& x3) &&& s0) = 0 then (ix_M mGr_around [.ref a1, .long x10] h).bind fun r => ix_kL r fun v2 h1 => (ix_M mSm_one [.long (v2 &&& s0)] h1).bind fun r => ix_kL r fun v4 h3 => l_Sm_addRoute_38 a0 a1 x3 v4 x10 (x9 + (-1)) h3 else (ix_gl h a0 7 4).bind fun v5 => (ix_pf h a0 7 4 (.long (v5 &&& (x10 ^^^ (-1))))).bind fun h6 => l_Sm_addRoute_38 a0 a1 x3 x10 0 (x9 + (-1)) h6 := by
  unfold l_Sm_addRoute_112
  refine ix_K_sl (L2 := [some (.ref a0), some (.ref a1), none, some (.long x3), none, none, none, none, none, some (.int x9), some (.long x10), none, some (.long s0), none]) kq_Sm_addRoute i_Sm_addRoute_112 rfl (Or.inl rfl) (Nat.le_of_ble_eq_true rfl) rfl ?_
  refine ix_K_px kq_Sm_addRoute i_Sm_addRoute_114 rfl rfl ?_
  refine ix_K_px kq_Sm_addRoute i_Sm_addRoute_116 rfl rfl ?_
  refine ix_K_px kq_Sm_addRoute i_Sm_addRoute_117 rfl rfl ?_
  refine ix_K_px kq_Sm_addRoute i_Sm_addRoute_118 rfl rfl ?_
  refine ix_K_px kq_Sm_addRoute i_Sm_addRoute_120 rfl rfl ?_
  refine ix_K_cl kq_Sm_addRoute i_Sm_addRoute_121 rfl kcl_0 ?_
  refine ix_K_px kq_Sm_addRoute i_Sm_addRoute_122 rfl rfl ?_
  refine ix_K_lc_eq (tgt := 151) kq_Sm_addRoute i_Sm_addRoute_123 rfl (by decide) ?_ ?_
  · refine ix_K_px kq_Sm_addRoute i_Sm_addRoute_151 rfl rfl ?_
    refine ix_K_px kq_Sm_addRoute i_Sm_addRoute_152 rfl rfl ?_
    refine ix_K_callL (as := [.ref a1, .long x10]) (rest := []) kq_Sm_addRoute i_Sm_addRoute_154 rfl kq_Gr_around (by decide) rfl rfl (fun v2 h1 => ?_)
    refine ix_K_px kq_Sm_addRoute i_Sm_addRoute_157 rfl rfl ?_
    refine ix_K_px kq_Sm_addRoute i_Sm_addRoute_159 rfl rfl ?_
    refine ix_K_callL (as := [.long (v2 &&& s0)]) (rest := []) kq_Sm_addRoute i_Sm_addRoute_160 rfl kq_Sm_one (by decide) rfl rfl (fun v4 h3 => ?_)
    refine ix_K_sl (L2 := [some (.ref a0), some (.ref a1), none, some (.long x3), none, some (.long v4), none, none, none, some (.int x9), some (.long x10), none, some (.long s0), none]) kq_Sm_addRoute i_Sm_addRoute_163 rfl (Or.inl rfl) (Nat.le_of_ble_eq_true rfl) rfl ?_
    refine ix_K_px kq_Sm_addRoute i_Sm_addRoute_165 rfl rfl ?_
    refine ix_K_sl (L2 := [some (.ref a0), some (.ref a1), none, some (.long x3), none, some (.long v4), none, some (.long x10), none, some (.int x9), some (.long x10), none, some (.long s0), none]) kq_Sm_addRoute i_Sm_addRoute_167 rfl (Or.inl rfl) (Nat.le_of_ble_eq_true rfl) rfl ?_
    refine ix_K_inc (L2 := [some (.ref a0), some (.ref a1), none, some (.long x3), none, some (.long v4), none, some (.long x10), none, some (.int (x9 + (-1))), some (.long x10), none, some (.long s0), none]) kq_Sm_addRoute i_Sm_addRoute_169 rfl rfl (Nat.le_of_ble_eq_true rfl) kci_m1 rfl ?_
    refine ix_K_goto (tgt := 38) kq_Sm_addRoute i_Sm_addRoute_172 rfl (by decide) ?_
    exact ix_D_cut i_Sm_addRoute_38 rfl
  · refine ix_K_px kq_Sm_addRoute i_Sm_addRoute_126 rfl rfl ?_
    refine ix_K_px kq_Sm_addRoute i_Sm_addRoute_127 rfl rfl ?_
    refine ix_K_gl kq_Sm_addRoute i_Sm_addRoute_128 rfl (fun v5 => ?_)
    refine ix_K_px kq_Sm_addRoute i_Sm_addRoute_131 rfl rfl ?_
    refine ix_K_c2 kq_Sm_addRoute i_Sm_addRoute_133 rfl kc2_m1 ?_
    refine ix_K_px kq_Sm_addRoute i_Sm_addRoute_136 rfl rfl ?_
    refine ix_K_px kq_Sm_addRoute i_Sm_addRoute_137 rfl rfl ?_
    refine ix_K_pf kq_Sm_addRoute i_Sm_addRoute_138 rfl rfl (fun h6 => ?_)
    refine ix_K_px kq_Sm_addRoute i_Sm_addRoute_141 rfl rfl ?_
    refine ix_K_sl (L2 := [some (.ref a0), some (.ref a1), none, some (.long x3), none, some (.long x10), none, none, none, some (.int x9), some (.long x10), none, some (.long s0), none]) kq_Sm_addRoute i_Sm_addRoute_143 rfl (Or.inl rfl) (Nat.le_of_ble_eq_true rfl) rfl ?_
    refine ix_K_cl kq_Sm_addRoute i_Sm_addRoute_145 rfl kcl_0 ?_
    refine ix_K_sl (L2 := [some (.ref a0), some (.ref a1), none, some (.long x3), none, some (.long x10), none, some (.long 0), none, some (.int x9), some (.long x10), none, some (.long s0), none]) kq_Sm_addRoute i_Sm_addRoute_146 rfl (Or.inl rfl) (Nat.le_of_ble_eq_true rfl) rfl ?_
    refine ix_K_goto (tgt := 169) kq_Sm_addRoute i_Sm_addRoute_148 rfl (by decide) ?_
    refine ix_K_inc (L2 := [some (.ref a0), some (.ref a1), none, some (.long x3), none, some (.long x10), none, some (.long 0), none, some (.int (x9 + (-1))), some (.long x10), none, some (.long s0), none]) kq_Sm_addRoute i_Sm_addRoute_169 rfl rfl (Nat.le_of_ble_eq_true rfl) kci_m1 rfl ?_
    refine ix_K_goto (tgt := 38) kq_Sm_addRoute i_Sm_addRoute_172 rfl (by decide) ?_
    exact ix_D_cut i_Sm_addRoute_38 rfl
set_option maxRecDepth 20000 in
set_option maxHeartbeats 1000000 in
theorem e_Sm_addRoute (a0 : Nat) (a1 : Nat) (x2 : Int32) (h : ixH) : ix_D mSm_addRoute 0 [some (.ref a0), some (.ref a1), some (.int x2), none, none, none, none, none, none, none, none, none, none, none] [] h = if x2 < 0 then some ([], h) else if x2 < 64 then (ix_gl h a0 7 4).bind fun v1 => (ix_gr h a0 7 0).bind fun v2 => (ix_al h v2 x2).bind fun v3 => (ix_gl h a0 7 3).bind fun v4 => (ix_M mSm_one [.long (v3 &&& v4)] h).bind fun r => ix_kL r fun v6 h5 => l_Sm_addRoute_38 a0 a1 v1 v6 0 x2 h5 else some ([], h) := by
  refine ix_K_px kq_Sm_addRoute i_Sm_addRoute_0 rfl rfl ?_
  refine ix_K_if_lt (tgt := 10) kq_Sm_addRoute i_Sm_addRoute_1 rfl (by decide) ?_ ?_
  · exact ix_D_ret kq_Sm_addRoute i_Sm_addRoute_10 (ix_rtV rfl)
  · refine ix_K_px kq_Sm_addRoute i_Sm_addRoute_4 rfl rfl ?_
    refine ix_K_cb kq_Sm_addRoute i_Sm_addRoute_5 rfl kcb_64 ?_
    refine ix_K_ic_lt (tgt := 11) kq_Sm_addRoute i_Sm_addRoute_7 rfl (by decide) ?_ ?_
    · refine ix_K_px kq_Sm_addRoute i_Sm_addRoute_11 rfl rfl ?_
      refine ix_K_gl kq_Sm_addRoute i_Sm_addRoute_12 rfl (fun v1 => ?_)
      refine ix_K_sl (L2 := [some (.ref a0), some (.ref a1), some (.int x2), some (.long v1), none, none, none, none, none, none, none, none, none, none]) kq_Sm_addRoute i_Sm_addRoute_15 rfl (Or.inr ⟨_, rfl, rfl⟩) (Nat.le_of_ble_eq_true rfl) rfl ?_
      refine ix_K_px kq_Sm_addRoute i_Sm_addRoute_16 rfl rfl ?_
      refine ix_K_gr kq_Sm_addRoute i_Sm_addRoute_17 rfl (fun v2 => ?_)
      refine ix_K_px kq_Sm_addRoute i_Sm_addRoute_20 rfl rfl ?_
      refine ix_K_al kq_Sm_addRoute i_Sm_addRoute_21 rfl (fun v3 => ?_)
      refine ix_K_px kq_Sm_addRoute i_Sm_addRoute_22 rfl rfl ?_
      refine ix_K_gl kq_Sm_addRoute i_Sm_addRoute_23 rfl (fun v4 => ?_)
      refine ix_K_px kq_Sm_addRoute i_Sm_addRoute_26 rfl rfl ?_
      refine ix_K_callL (as := [.long (v3 &&& v4)]) (rest := []) kq_Sm_addRoute i_Sm_addRoute_27 rfl kq_Sm_one (by decide) rfl rfl (fun v6 h5 => ?_)
      refine ix_K_sl (L2 := [some (.ref a0), some (.ref a1), some (.int x2), some (.long v1), none, some (.long v6), none, none, none, none, none, none, none, none]) kq_Sm_addRoute i_Sm_addRoute_30 rfl (Or.inl rfl) (Nat.le_of_ble_eq_true rfl) rfl ?_
      refine ix_K_cl kq_Sm_addRoute i_Sm_addRoute_32 rfl kcl_0 ?_
      refine ix_K_sl (L2 := [some (.ref a0), some (.ref a1), some (.int x2), some (.long v1), none, some (.long v6), none, some (.long 0), none, none, none, none, none, none]) kq_Sm_addRoute i_Sm_addRoute_33 rfl (Or.inl rfl) (Nat.le_of_ble_eq_true rfl) rfl ?_
      refine ix_K_px kq_Sm_addRoute i_Sm_addRoute_35 rfl rfl ?_
      refine ix_K_si (L2 := [some (.ref a0), some (.ref a1), some (.int x2), some (.long v1), none, some (.long v6), none, some (.long 0), none, some (.int x2), none, none, none, none]) kq_Sm_addRoute i_Sm_addRoute_36 rfl (Or.inl rfl) (Nat.le_of_ble_eq_true rfl) rfl ?_
      exact ix_D_cut i_Sm_addRoute_38 rfl
    · exact ix_D_ret kq_Sm_addRoute i_Sm_addRoute_10 (ix_rtV rfl)
theorem x_Sm_addRoute {a0 : Nat} {a1 : Nat} {x2 : Int32} {h h1 : ixH} (hr : ix_rc h a0 = some 7) (hd : ix_D mSm_addRoute 0 [some (.ref a0), some (.ref a1), some (.int x2), none, none, none, none, none, none, none, none, none, none, none] [] h = some ([], h1)) : ix_M mSm_addRoute [.ref a0, .ref a1, .int x2] h = some ([], h1) := ix_M_of (ix_ent_i kq_Sm_addRoute rfl hr rfl (Nat.le_of_ble_eq_true rfl) rfl) hd (ix_okrV rfl)
theorem i_Sm_one_0 : ix_nx mSm_one 0 = some (0, .lload_n 0, 1, none, [], 0) := rfl
theorem i_Sm_one_1 : ix_nx mSm_one 1 = some (0, .lload_n 0, 2, none, [], 0) := rfl
theorem i_Sm_one_2 : ix_nx mSm_one 2 = some (0, .lneg, 3, none, [], 0) := rfl
theorem i_Sm_one_3 : ix_nx mSm_one 3 = some (0, .land, 4, none, [], 0) := rfl
theorem i_Sm_one_4 : ix_nx mSm_one 4 = some (4, .lreturn, 5, none, [], 0) := rfl
set_option maxRecDepth 20000 in
set_option maxHeartbeats 1000000 in
theorem e_Sm_one (x0 : Int64) (h : ixH) : ix_D mSm_one 0 [some (.long x0), none] [] h = some ([.long (x0 &&& (-x0))], h) := by
  refine ix_K_px kq_Sm_one i_Sm_one_0 rfl rfl ?_
  refine ix_K_px kq_Sm_one i_Sm_one_1 rfl rfl ?_
  refine ix_K_px kq_Sm_one i_Sm_one_2 rfl rfl ?_
  refine ix_K_px kq_Sm_one i_Sm_one_3 rfl rfl ?_
  exact ix_D_ret kq_Sm_one i_Sm_one_4 (ix_rtL rfl _)
theorem x_Sm_one {x0 : Int64} {h h1 : ixH} {v : Int64} (hd : ix_D mSm_one 0 [some (.long x0), none] [] h = some ([.long v], h1)) : ix_M mSm_one [.long x0] h = some ([.long v], h1) := ix_M_of (ix_ent_s kq_Sm_one rfl rfl (Nat.le_of_ble_eq_true rfl) rfl) hd (ix_okrL rfl v)
theorem i_Sm_after_0 : ix_nx mSm_after 0 = some (0, .lload_n 2, 1, none, [], 0) := rfl
theorem i_Sm_after_1 : ix_nx mSm_after 1 = some (0, .aload_n 0, 2, none, [], 0) := rfl
theorem i_Sm_after_2 : ix_nx mSm_after 2 = some (1, .getfield 28, 5, none, [7, 5, 1, 58], 0) := rfl
theorem i_Sm_after_5 : ix_nx mSm_after 5 = some (0, .land, 6, none, [], 0) := rfl
theorem i_Sm_after_6 : ix_nx mSm_after 6 = some (0, .iconst 1, 7, none, [], 0) := rfl
theorem i_Sm_after_7 : ix_nx mSm_after 7 = some (0, .lshl, 8, none, [], 0) := rfl
theorem i_Sm_after_8 : ix_nx mSm_after 8 = some (0, .lload_n 2, 9, none, [], 0) := rfl
theorem i_Sm_after_9 : ix_nx mSm_after 9 = some (0, .aload_n 0, 10, none, [], 0) := rfl
theorem i_Sm_after_10 : ix_nx mSm_after 10 = some (1, .getfield 31, 13, none, [7, 6, 1, 59], 0) := rfl
theorem i_Sm_after_13 : ix_nx mSm_after 13 = some (0, .land, 14, none, [], 0) := rfl
theorem i_Sm_after_14 : ix_nx mSm_after 14 = some (0, .iconst 1, 15, none, [], 0) := rfl
theorem i_Sm_after_15 : ix_nx mSm_after 15 = some (0, .lushr, 16, none, [], 0) := rfl
theorem i_Sm_after_16 : ix_nx mSm_after 16 = some (0, .lor, 17, none, [], 0) := rfl
theorem i_Sm_after_17 : ix_nx mSm_after 17 = some (0, .lload_n 2, 18, none, [], 0) := rfl
theorem i_Sm_after_18 : ix_nx mSm_after 18 = some (0, .aload_n 0, 19, none, [], 0) := rfl
theorem i_Sm_after_19 : ix_nx mSm_after 19 = some (1, .getfield 34, 22, none, [7, 7, 1, 60], 0) := rfl
theorem i_Sm_after_22 : ix_nx mSm_after 22 = some (0, .land, 23, none, [], 0) := rfl
theorem i_Sm_after_23 : ix_nx mSm_after 23 = some (0, .aload_n 1, 24, none, [], 0) := rfl
theorem i_Sm_after_24 : ix_nx mSm_after 24 = some (1, .getfield 82, 27, none, [2, 0, 0, 4], 0) := rfl
theorem i_Sm_after_27 : ix_nx mSm_after 27 = some (0, .lshl, 28, none, [], 0) := rfl
theorem i_Sm_after_28 : ix_nx mSm_after 28 = some (0, .lor, 29, none, [], 0) := rfl
theorem i_Sm_after_29 : ix_nx mSm_after 29 = some (0, .lload_n 2, 30, none, [], 0) := rfl
theorem i_Sm_after_30 : ix_nx mSm_after 30 = some (0, .aload_n 0, 31, none, [], 0) := rfl
theorem i_Sm_after_31 : ix_nx mSm_after 31 = some (1, .getfield 37, 34, none, [7, 8, 1, 61], 0) := rfl
theorem i_Sm_after_34 : ix_nx mSm_after 34 = some (0, .land, 35, none, [], 0) := rfl
theorem i_Sm_after_35 : ix_nx mSm_after 35 = some (0, .aload_n 1, 36, none, [], 0) := rfl
theorem i_Sm_after_36 : ix_nx mSm_after 36 = some (1, .getfield 82, 39, none, [2, 0, 0, 4], 0) := rfl
theorem i_Sm_after_39 : ix_nx mSm_after 39 = some (0, .lushr, 40, none, [], 0) := rfl
theorem i_Sm_after_40 : ix_nx mSm_after 40 = some (0, .lor, 41, none, [], 0) := rfl
theorem i_Sm_after_41 : ix_nx mSm_after 41 = some (4, .lreturn, 42, none, [], 0) := rfl
set_option maxRecDepth 20000 in
set_option maxHeartbeats 1000000 in
theorem e_Sm_after (a0 : Nat) (a1 : Nat) (x2 : Int64) (h : ixH) : ix_D mSm_after 0 [some (.ref a0), some (.ref a1), some (.long x2), none] [] h = (ix_gl h a0 7 5).bind fun v1 => (ix_gl h a0 7 6).bind fun v2 => (ix_gl h a0 7 7).bind fun v3 => (ix_gi h a1 2 0).bind fun v4 => (ix_gl h a0 7 8).bind fun v5 => (ix_gi h a1 2 0).bind fun v6 => some ([.long ((((ix_shl (x2 &&& v1) 1) ||| (ix_ush (x2 &&& v2) 1)) ||| (ix_shl (x2 &&& v3) v4)) ||| (ix_ush (x2 &&& v5) v6))], h) := by
  refine ix_K_px kq_Sm_after i_Sm_after_0 rfl rfl ?_
  refine ix_K_px kq_Sm_after i_Sm_after_1 rfl rfl ?_
  refine ix_K_gl kq_Sm_after i_Sm_after_2 rfl (fun v1 => ?_)
  refine ix_K_px kq_Sm_after i_Sm_after_5 rfl rfl ?_
  refine ix_K_ci kq_Sm_after i_Sm_after_6 rfl kci_1 ?_
  refine ix_K_px kq_Sm_after i_Sm_after_7 rfl rfl ?_
  refine ix_K_px kq_Sm_after i_Sm_after_8 rfl rfl ?_
  refine ix_K_px kq_Sm_after i_Sm_after_9 rfl rfl ?_
  refine ix_K_gl kq_Sm_after i_Sm_after_10 rfl (fun v2 => ?_)
  refine ix_K_px kq_Sm_after i_Sm_after_13 rfl rfl ?_
  refine ix_K_ci kq_Sm_after i_Sm_after_14 rfl kci_1 ?_
  refine ix_K_px kq_Sm_after i_Sm_after_15 rfl rfl ?_
  refine ix_K_px kq_Sm_after i_Sm_after_16 rfl rfl ?_
  refine ix_K_px kq_Sm_after i_Sm_after_17 rfl rfl ?_
  refine ix_K_px kq_Sm_after i_Sm_after_18 rfl rfl ?_
  refine ix_K_gl kq_Sm_after i_Sm_after_19 rfl (fun v3 => ?_)
  refine ix_K_px kq_Sm_after i_Sm_after_22 rfl rfl ?_
  refine ix_K_px kq_Sm_after i_Sm_after_23 rfl rfl ?_
  refine ix_K_gi kq_Sm_after i_Sm_after_24 rfl (fun v4 => ?_)
  refine ix_K_px kq_Sm_after i_Sm_after_27 rfl rfl ?_
  refine ix_K_px kq_Sm_after i_Sm_after_28 rfl rfl ?_
  refine ix_K_px kq_Sm_after i_Sm_after_29 rfl rfl ?_
  refine ix_K_px kq_Sm_after i_Sm_after_30 rfl rfl ?_
  refine ix_K_gl kq_Sm_after i_Sm_after_31 rfl (fun v5 => ?_)
  refine ix_K_px kq_Sm_after i_Sm_after_34 rfl rfl ?_
  refine ix_K_px kq_Sm_after i_Sm_after_35 rfl rfl ?_
  refine ix_K_gi kq_Sm_after i_Sm_after_36 rfl (fun v6 => ?_)
  refine ix_K_px kq_Sm_after i_Sm_after_39 rfl rfl ?_
  refine ix_K_px kq_Sm_after i_Sm_after_40 rfl rfl ?_
  exact ix_D_ret kq_Sm_after i_Sm_after_41 (ix_rtL rfl _)
theorem x_Sm_after {a0 : Nat} {a1 : Nat} {x2 : Int64} {h h1 : ixH} {v : Int64} (hr : ix_rc h a0 = some 7) (hd : ix_D mSm_after 0 [some (.ref a0), some (.ref a1), some (.long x2), none] [] h = some ([.long v], h1)) : ix_M mSm_after [.ref a0, .ref a1, .long x2] h = some ([.long v], h1) := ix_M_of (ix_ent_i kq_Sm_after rfl hr rfl (Nat.le_of_ble_eq_true rfl) rfl) hd (ix_okrL rfl v)
theorem i_Sm_lead_0 : ix_nx mSm_lead 0 = some (0, .aload_n 0, 1, none, [], 0) := rfl
theorem i_Sm_lead_1 : ix_nx mSm_lead 1 = some (0, .dup, 2, none, [], 0) := rfl
theorem i_Sm_lead_2 : ix_nx mSm_lead 2 = some (1, .getfield 28, 5, none, [7, 5, 1, 58], 0) := rfl
theorem i_Sm_lead_5 : ix_nx mSm_lead 5 = some (0, .lload 4, 7, none, [], 0) := rfl
theorem i_Sm_lead_7 : ix_nx mSm_lead 7 = some (0, .aload_n 1, 8, none, [], 0) := rfl
theorem i_Sm_lead_8 : ix_nx mSm_lead 8 = some (1, .getfield 76, 11, none, [2, 3, 1, 14], 0) := rfl
theorem i_Sm_lead_11 : ix_nx mSm_lead 11 = some (0, .land, 12, none, [], 0) := rfl
theorem i_Sm_lead_12 : ix_nx mSm_lead 12 = some (0, .iconst 1, 13, none, [], 0) := rfl
theorem i_Sm_lead_13 : ix_nx mSm_lead 13 = some (0, .lushr, 14, none, [], 0) := rfl
theorem i_Sm_lead_14 : ix_nx mSm_lead 14 = some (0, .lload_n 2, 15, none, [], 0) := rfl
theorem i_Sm_lead_15 : ix_nx mSm_lead 15 = some (0, .land, 16, none, [], 0) := rfl
theorem i_Sm_lead_16 : ix_nx mSm_lead 16 = some (0, .lor, 17, none, [], 0) := rfl
theorem i_Sm_lead_17 : ix_nx mSm_lead 17 = some (2, .putfield 28, 20, none, [7, 5, 1, 58], 0) := rfl
theorem i_Sm_lead_20 : ix_nx mSm_lead 20 = some (0, .aload_n 0, 21, none, [], 0) := rfl
theorem i_Sm_lead_21 : ix_nx mSm_lead 21 = some (0, .dup, 22, none, [], 0) := rfl
theorem i_Sm_lead_22 : ix_nx mSm_lead 22 = some (1, .getfield 31, 25, none, [7, 6, 1, 59], 0) := rfl
theorem i_Sm_lead_25 : ix_nx mSm_lead 25 = some (0, .lload 4, 27, none, [], 0) := rfl
theorem i_Sm_lead_27 : ix_nx mSm_lead 27 = some (0, .aload_n 1, 28, none, [], 0) := rfl
theorem i_Sm_lead_28 : ix_nx mSm_lead 28 = some (1, .getfield 79, 31, none, [2, 4, 1, 16], 0) := rfl
theorem i_Sm_lead_31 : ix_nx mSm_lead 31 = some (0, .land, 32, none, [], 0) := rfl
theorem i_Sm_lead_32 : ix_nx mSm_lead 32 = some (0, .iconst 1, 33, none, [], 0) := rfl
theorem i_Sm_lead_33 : ix_nx mSm_lead 33 = some (0, .lshl, 34, none, [], 0) := rfl
theorem i_Sm_lead_34 : ix_nx mSm_lead 34 = some (0, .lload_n 2, 35, none, [], 0) := rfl
theorem i_Sm_lead_35 : ix_nx mSm_lead 35 = some (0, .land, 36, none, [], 0) := rfl
theorem i_Sm_lead_36 : ix_nx mSm_lead 36 = some (0, .lor, 37, none, [], 0) := rfl
theorem i_Sm_lead_37 : ix_nx mSm_lead 37 = some (2, .putfield 31, 40, none, [7, 6, 1, 59], 0) := rfl
theorem i_Sm_lead_40 : ix_nx mSm_lead 40 = some (0, .aload_n 0, 41, none, [], 0) := rfl
theorem i_Sm_lead_41 : ix_nx mSm_lead 41 = some (0, .dup, 42, none, [], 0) := rfl
theorem i_Sm_lead_42 : ix_nx mSm_lead 42 = some (1, .getfield 34, 45, none, [7, 7, 1, 60], 0) := rfl
theorem i_Sm_lead_45 : ix_nx mSm_lead 45 = some (0, .lload 4, 47, none, [], 0) := rfl
theorem i_Sm_lead_47 : ix_nx mSm_lead 47 = some (0, .aload_n 1, 48, none, [], 0) := rfl
theorem i_Sm_lead_48 : ix_nx mSm_lead 48 = some (1, .getfield 82, 51, none, [2, 0, 0, 4], 0) := rfl
theorem i_Sm_lead_51 : ix_nx mSm_lead 51 = some (0, .lushr, 52, none, [], 0) := rfl
theorem i_Sm_lead_52 : ix_nx mSm_lead 52 = some (0, .lload_n 2, 53, none, [], 0) := rfl
theorem i_Sm_lead_53 : ix_nx mSm_lead 53 = some (0, .land, 54, none, [], 0) := rfl
theorem i_Sm_lead_54 : ix_nx mSm_lead 54 = some (0, .lor, 55, none, [], 0) := rfl
theorem i_Sm_lead_55 : ix_nx mSm_lead 55 = some (2, .putfield 34, 58, none, [7, 7, 1, 60], 0) := rfl
theorem i_Sm_lead_58 : ix_nx mSm_lead 58 = some (0, .aload_n 0, 59, none, [], 0) := rfl
theorem i_Sm_lead_59 : ix_nx mSm_lead 59 = some (0, .dup, 60, none, [], 0) := rfl
theorem i_Sm_lead_60 : ix_nx mSm_lead 60 = some (1, .getfield 37, 63, none, [7, 8, 1, 61], 0) := rfl
theorem i_Sm_lead_63 : ix_nx mSm_lead 63 = some (0, .lload 4, 65, none, [], 0) := rfl
theorem i_Sm_lead_65 : ix_nx mSm_lead 65 = some (0, .aload_n 1, 66, none, [], 0) := rfl
theorem i_Sm_lead_66 : ix_nx mSm_lead 66 = some (1, .getfield 82, 69, none, [2, 0, 0, 4], 0) := rfl
theorem i_Sm_lead_69 : ix_nx mSm_lead 69 = some (0, .lshl, 70, none, [], 0) := rfl
theorem i_Sm_lead_70 : ix_nx mSm_lead 70 = some (0, .lload_n 2, 71, none, [], 0) := rfl
theorem i_Sm_lead_71 : ix_nx mSm_lead 71 = some (0, .land, 72, none, [], 0) := rfl
theorem i_Sm_lead_72 : ix_nx mSm_lead 72 = some (0, .lor, 73, none, [], 0) := rfl
theorem i_Sm_lead_73 : ix_nx mSm_lead 73 = some (2, .putfield 37, 76, none, [7, 8, 1, 61], 0) := rfl
theorem i_Sm_lead_76 : ix_nx mSm_lead 76 = some (4, .return_, 77, none, [], 0) := rfl
set_option maxRecDepth 20000 in
set_option maxHeartbeats 1000000 in
theorem e_Sm_lead (a0 : Nat) (a1 : Nat) (x2 : Int64) (x4 : Int64) (h : ixH) : ix_D mSm_lead 0 [some (.ref a0), some (.ref a1), some (.long x2), none, some (.long x4), none] [] h = (ix_gl h a0 7 5).bind fun v1 => (ix_gl h a1 2 3).bind fun v2 => (ix_pf h a0 7 5 (.long (v1 ||| ((ix_ush (x4 &&& v2) 1) &&& x2)))).bind fun h3 => (ix_gl h3 a0 7 6).bind fun v4 => (ix_gl h3 a1 2 4).bind fun v5 => (ix_pf h3 a0 7 6 (.long (v4 ||| ((ix_shl (x4 &&& v5) 1) &&& x2)))).bind fun h6 => (ix_gl h6 a0 7 7).bind fun v7 => (ix_gi h6 a1 2 0).bind fun v8 => (ix_pf h6 a0 7 7 (.long (v7 ||| ((ix_ush x4 v8) &&& x2)))).bind fun h9 => (ix_gl h9 a0 7 8).bind fun v10 => (ix_gi h9 a1 2 0).bind fun v11 => (ix_pf h9 a0 7 8 (.long (v10 ||| ((ix_shl x4 v11) &&& x2)))).bind fun h12 => some ([], h12) := by
  refine ix_K_px kq_Sm_lead i_Sm_lead_0 rfl rfl ?_
  refine ix_K_px kq_Sm_lead i_Sm_lead_1 rfl rfl ?_
  refine ix_K_gl kq_Sm_lead i_Sm_lead_2 rfl (fun v1 => ?_)
  refine ix_K_px kq_Sm_lead i_Sm_lead_5 rfl rfl ?_
  refine ix_K_px kq_Sm_lead i_Sm_lead_7 rfl rfl ?_
  refine ix_K_gl kq_Sm_lead i_Sm_lead_8 rfl (fun v2 => ?_)
  refine ix_K_px kq_Sm_lead i_Sm_lead_11 rfl rfl ?_
  refine ix_K_ci kq_Sm_lead i_Sm_lead_12 rfl kci_1 ?_
  refine ix_K_px kq_Sm_lead i_Sm_lead_13 rfl rfl ?_
  refine ix_K_px kq_Sm_lead i_Sm_lead_14 rfl rfl ?_
  refine ix_K_px kq_Sm_lead i_Sm_lead_15 rfl rfl ?_
  refine ix_K_px kq_Sm_lead i_Sm_lead_16 rfl rfl ?_
  refine ix_K_pf kq_Sm_lead i_Sm_lead_17 rfl rfl (fun h3 => ?_)
  refine ix_K_px kq_Sm_lead i_Sm_lead_20 rfl rfl ?_
  refine ix_K_px kq_Sm_lead i_Sm_lead_21 rfl rfl ?_
  refine ix_K_gl kq_Sm_lead i_Sm_lead_22 rfl (fun v4 => ?_)
  refine ix_K_px kq_Sm_lead i_Sm_lead_25 rfl rfl ?_
  refine ix_K_px kq_Sm_lead i_Sm_lead_27 rfl rfl ?_
  refine ix_K_gl kq_Sm_lead i_Sm_lead_28 rfl (fun v5 => ?_)
  refine ix_K_px kq_Sm_lead i_Sm_lead_31 rfl rfl ?_
  refine ix_K_ci kq_Sm_lead i_Sm_lead_32 rfl kci_1 ?_
  refine ix_K_px kq_Sm_lead i_Sm_lead_33 rfl rfl ?_
  refine ix_K_px kq_Sm_lead i_Sm_lead_34 rfl rfl ?_
  refine ix_K_px kq_Sm_lead i_Sm_lead_35 rfl rfl ?_
  refine ix_K_px kq_Sm_lead i_Sm_lead_36 rfl rfl ?_
  refine ix_K_pf kq_Sm_lead i_Sm_lead_37 rfl rfl (fun h6 => ?_)
  refine ix_K_px kq_Sm_lead i_Sm_lead_40 rfl rfl ?_
  refine ix_K_px kq_Sm_lead i_Sm_lead_41 rfl rfl ?_
  refine ix_K_gl kq_Sm_lead i_Sm_lead_42 rfl (fun v7 => ?_)
  refine ix_K_px kq_Sm_lead i_Sm_lead_45 rfl rfl ?_
  refine ix_K_px kq_Sm_lead i_Sm_lead_47 rfl rfl ?_
  refine ix_K_gi kq_Sm_lead i_Sm_lead_48 rfl (fun v8 => ?_)
  refine ix_K_px kq_Sm_lead i_Sm_lead_51 rfl rfl ?_
  refine ix_K_px kq_Sm_lead i_Sm_lead_52 rfl rfl ?_
  refine ix_K_px kq_Sm_lead i_Sm_lead_53 rfl rfl ?_
  refine ix_K_px kq_Sm_lead i_Sm_lead_54 rfl rfl ?_
  refine ix_K_pf kq_Sm_lead i_Sm_lead_55 rfl rfl (fun h9 => ?_)
  refine ix_K_px kq_Sm_lead i_Sm_lead_58 rfl rfl ?_
  refine ix_K_px kq_Sm_lead i_Sm_lead_59 rfl rfl ?_
  refine ix_K_gl kq_Sm_lead i_Sm_lead_60 rfl (fun v10 => ?_)
  refine ix_K_px kq_Sm_lead i_Sm_lead_63 rfl rfl ?_
  refine ix_K_px kq_Sm_lead i_Sm_lead_65 rfl rfl ?_
  refine ix_K_gi kq_Sm_lead i_Sm_lead_66 rfl (fun v11 => ?_)
  refine ix_K_px kq_Sm_lead i_Sm_lead_69 rfl rfl ?_
  refine ix_K_px kq_Sm_lead i_Sm_lead_70 rfl rfl ?_
  refine ix_K_px kq_Sm_lead i_Sm_lead_71 rfl rfl ?_
  refine ix_K_px kq_Sm_lead i_Sm_lead_72 rfl rfl ?_
  refine ix_K_pf kq_Sm_lead i_Sm_lead_73 rfl rfl (fun h12 => ?_)
  exact ix_D_ret kq_Sm_lead i_Sm_lead_76 (ix_rtV rfl)
theorem x_Sm_lead {a0 : Nat} {a1 : Nat} {x2 : Int64} {x4 : Int64} {h h1 : ixH} (hr : ix_rc h a0 = some 7) (hd : ix_D mSm_lead 0 [some (.ref a0), some (.ref a1), some (.long x2), none, some (.long x4), none] [] h = some ([], h1)) : ix_M mSm_lead [.ref a0, .ref a1, .long x2, .long x4] h = some ([], h1) := ix_M_of (ix_ent_i kq_Sm_lead rfl hr rfl (Nat.le_of_ble_eq_true rfl) rfl) hd (ix_okrV rfl)
theorem i_Sm_narrowest_0 : ix_nx mSm_narrowest 0 = some (0, .aload_n 0, 1, none, [], 0) := rfl
theorem i_Sm_narrowest_1 : ix_nx mSm_narrowest 1 = some (1, .getfield 40, 4, none, [7, 9, 1, 62], 0) := rfl
theorem i_Sm_narrowest_4 : ix_nx mSm_narrowest 4 = some (0, .aload_n 0, 5, none, [], 0) := rfl
theorem i_Sm_narrowest_5 : ix_nx mSm_narrowest 5 = some (1, .getfield 43, 8, none, [7, 10, 1, 63], 0) := rfl
theorem i_Sm_narrowest_8 : ix_nx mSm_narrowest 8 = some (0, .ldc2_w 51, 11, none, [5], -1) := rfl
theorem i_Sm_narrowest_11 : ix_nx mSm_narrowest 11 = some (0, .lxor, 12, none, [], 0) := rfl
theorem i_Sm_narrowest_12 : ix_nx mSm_narrowest 12 = some (0, .land, 13, none, [], 0) := rfl
theorem i_Sm_narrowest_13 : ix_nx mSm_narrowest 13 = some (4, .lreturn, 14, none, [], 0) := rfl
set_option maxRecDepth 20000 in
set_option maxHeartbeats 1000000 in
theorem e_Sm_narrowest (a0 : Nat) (h : ixH) : ix_D mSm_narrowest 0 [some (.ref a0)] [] h = (ix_gl h a0 7 9).bind fun v1 => (ix_gl h a0 7 10).bind fun v2 => some ([.long (v1 &&& (v2 ^^^ (-1)))], h) := by
  refine ix_K_px kq_Sm_narrowest i_Sm_narrowest_0 rfl rfl ?_
  refine ix_K_gl kq_Sm_narrowest i_Sm_narrowest_1 rfl (fun v1 => ?_)
  refine ix_K_px kq_Sm_narrowest i_Sm_narrowest_4 rfl rfl ?_
  refine ix_K_gl kq_Sm_narrowest i_Sm_narrowest_5 rfl (fun v2 => ?_)
  refine ix_K_c2 kq_Sm_narrowest i_Sm_narrowest_8 rfl kc2_m1 ?_
  refine ix_K_px kq_Sm_narrowest i_Sm_narrowest_11 rfl rfl ?_
  refine ix_K_px kq_Sm_narrowest i_Sm_narrowest_12 rfl rfl ?_
  exact ix_D_ret kq_Sm_narrowest i_Sm_narrowest_13 (ix_rtL rfl _)
theorem x_Sm_narrowest {a0 : Nat} {h h1 : ixH} {v : Int64} (hr : ix_rc h a0 = some 7) (hd : ix_D mSm_narrowest 0 [some (.ref a0)] [] h = some ([.long v], h1)) : ix_M mSm_narrowest [.ref a0] h = some ([.long v], h1) := ix_M_of (ix_ent_i kq_Sm_narrowest rfl hr rfl (Nat.le_of_ble_eq_true rfl) rfl) hd (ix_okrL rfl v)
theorem i_Ch_init_0 : ix_nx mCh_init 0 = some (0, .aload_n 0, 1, none, [], 0) := rfl
theorem i_Ch_init_1 : ix_nx mCh_init 1 = some (3, .invokespecial 3, 4, none, [6, 0, 130], 0) := rfl
theorem i_Ch_init_4 : ix_nx mCh_init 4 = some (0, .aload_n 0, 5, none, [], 0) := rfl
theorem i_Ch_init_5 : ix_nx mCh_init 5 = some (0, .bipush 64, 7, none, [], 0) := rfl
theorem i_Ch_init_7 : ix_nx mCh_init 7 = some (2, .newarray .long, 9, none, [], 0) := rfl
theorem i_Ch_init_9 : ix_nx mCh_init 9 = some (2, .putfield 9, 12, none, [8, 0, 2, 64], 0) := rfl
theorem i_Ch_init_12 : ix_nx mCh_init 12 = some (0, .aload_n 0, 13, none, [], 0) := rfl
theorem i_Ch_init_13 : ix_nx mCh_init 13 = some (0, .bipush 64, 15, none, [], 0) := rfl
theorem i_Ch_init_15 : ix_nx mCh_init 15 = some (2, .newarray .int, 17, none, [], 0) := rfl
theorem i_Ch_init_17 : ix_nx mCh_init 17 = some (2, .putfield 15, 20, none, [8, 1, 2, 65], 0) := rfl
theorem i_Ch_init_20 : ix_nx mCh_init 20 = some (0, .aload_n 0, 21, none, [], 0) := rfl
theorem i_Ch_init_21 : ix_nx mCh_init 21 = some (0, .bipush 64, 23, none, [], 0) := rfl
theorem i_Ch_init_23 : ix_nx mCh_init 23 = some (2, .newarray .int, 25, none, [], 0) := rfl
theorem i_Ch_init_25 : ix_nx mCh_init 25 = some (2, .putfield 19, 28, none, [8, 2, 2, 66], 0) := rfl
theorem i_Ch_init_28 : ix_nx mCh_init 28 = some (0, .aload_n 0, 29, none, [], 0) := rfl
theorem i_Ch_init_29 : ix_nx mCh_init 29 = some (0, .bipush 64, 31, none, [], 0) := rfl
theorem i_Ch_init_31 : ix_nx mCh_init 31 = some (2, .newarray .int, 33, none, [], 0) := rfl
theorem i_Ch_init_33 : ix_nx mCh_init 33 = some (2, .putfield 22, 36, none, [8, 3, 2, 67], 0) := rfl
theorem i_Ch_init_36 : ix_nx mCh_init 36 = some (0, .aload_n 0, 37, none, [], 0) := rfl
theorem i_Ch_init_37 : ix_nx mCh_init 37 = some (0, .bipush 64, 39, none, [], 0) := rfl
theorem i_Ch_init_39 : ix_nx mCh_init 39 = some (2, .newarray .int, 41, none, [], 0) := rfl
theorem i_Ch_init_41 : ix_nx mCh_init 41 = some (2, .putfield 25, 44, none, [8, 4, 2, 68], 0) := rfl
theorem i_Ch_init_44 : ix_nx mCh_init 44 = some (0, .aload_n 0, 45, none, [], 0) := rfl
theorem i_Ch_init_45 : ix_nx mCh_init 45 = some (0, .lconst 0, 46, none, [], 0) := rfl
theorem i_Ch_init_46 : ix_nx mCh_init 46 = some (2, .putfield 28, 49, none, [8, 5, 1, 69], 0) := rfl
theorem i_Ch_init_49 : ix_nx mCh_init 49 = some (0, .aload_n 0, 50, none, [], 0) := rfl
theorem i_Ch_init_50 : ix_nx mCh_init 50 = some (0, .lconst 0, 51, none, [], 0) := rfl
theorem i_Ch_init_51 : ix_nx mCh_init 51 = some (2, .putfield 32, 54, none, [8, 6, 1, 70], 0) := rfl
theorem i_Ch_init_54 : ix_nx mCh_init 54 = some (4, .return_, 55, none, [], 0) := rfl
set_option maxRecDepth 20000 in
set_option maxHeartbeats 1000000 in
theorem e_Ch_init (a0 : Nat) (h : ixH) : ix_D mCh_init 0 [some (.ref a0)] [] h = (ix_pf (ix_nw h (.inl (1, 64, .inr (.inl fun _ => 0))) 64) a0 8 0 (.ref h.1)).bind fun h1 => (ix_pf (ix_nw h1 (.inl (0, 64, .inl fun _ => 0)) 64) a0 8 1 (.ref h1.1)).bind fun h2 => (ix_pf (ix_nw h2 (.inl (0, 64, .inl fun _ => 0)) 64) a0 8 2 (.ref h2.1)).bind fun h3 => (ix_pf (ix_nw h3 (.inl (0, 64, .inl fun _ => 0)) 64) a0 8 3 (.ref h3.1)).bind fun h4 => (ix_pf (ix_nw h4 (.inl (0, 64, .inl fun _ => 0)) 64) a0 8 4 (.ref h4.1)).bind fun h5 => (ix_pf h5 a0 8 5 (.long 0)).bind fun h6 => (ix_pf h6 a0 8 6 (.long 0)).bind fun h7 => some ([], h7) := by
  refine ix_K_px kq_Ch_init i_Ch_init_0 rfl rfl ?_
  refine ix_K_obj kq_Ch_init i_Ch_init_1 rfl (Nat.le_of_ble_eq_true rfl) ?_
  refine ix_K_px kq_Ch_init i_Ch_init_4 rfl rfl ?_
  refine ix_K_cb kq_Ch_init i_Ch_init_5 rfl kcb_64 ?_
  refine ix_K_naL kq_Ch_init i_Ch_init_7 rfl kna_64 knb_64 (by decide) ?_
  refine ix_K_pf kq_Ch_init i_Ch_init_9 rfl rfl (fun h1 => ?_)
  refine ix_K_px kq_Ch_init i_Ch_init_12 rfl rfl ?_
  refine ix_K_cb kq_Ch_init i_Ch_init_13 rfl kcb_64 ?_
  refine ix_K_naI kq_Ch_init i_Ch_init_15 rfl kna_64 knb_64 (by decide) ?_
  refine ix_K_pf kq_Ch_init i_Ch_init_17 rfl rfl (fun h2 => ?_)
  refine ix_K_px kq_Ch_init i_Ch_init_20 rfl rfl ?_
  refine ix_K_cb kq_Ch_init i_Ch_init_21 rfl kcb_64 ?_
  refine ix_K_naI kq_Ch_init i_Ch_init_23 rfl kna_64 knb_64 (by decide) ?_
  refine ix_K_pf kq_Ch_init i_Ch_init_25 rfl rfl (fun h3 => ?_)
  refine ix_K_px kq_Ch_init i_Ch_init_28 rfl rfl ?_
  refine ix_K_cb kq_Ch_init i_Ch_init_29 rfl kcb_64 ?_
  refine ix_K_naI kq_Ch_init i_Ch_init_31 rfl kna_64 knb_64 (by decide) ?_
  refine ix_K_pf kq_Ch_init i_Ch_init_33 rfl rfl (fun h4 => ?_)
  refine ix_K_px kq_Ch_init i_Ch_init_36 rfl rfl ?_
  refine ix_K_cb kq_Ch_init i_Ch_init_37 rfl kcb_64 ?_
  refine ix_K_naI kq_Ch_init i_Ch_init_39 rfl kna_64 knb_64 (by decide) ?_
  refine ix_K_pf kq_Ch_init i_Ch_init_41 rfl rfl (fun h5 => ?_)
  refine ix_K_px kq_Ch_init i_Ch_init_44 rfl rfl ?_
  refine ix_K_cl kq_Ch_init i_Ch_init_45 rfl kcl_0 ?_
  refine ix_K_pf kq_Ch_init i_Ch_init_46 rfl rfl (fun h6 => ?_)
  refine ix_K_px kq_Ch_init i_Ch_init_49 rfl rfl ?_
  refine ix_K_cl kq_Ch_init i_Ch_init_50 rfl kcl_0 ?_
  refine ix_K_pf kq_Ch_init i_Ch_init_51 rfl rfl (fun h7 => ?_)
  exact ix_D_ret kq_Ch_init i_Ch_init_54 (ix_rtV rfl)
theorem x_Ch_init {a0 : Nat} {h h1 : ixH} (hd : ix_D mCh_init 0 [some (.ref a0)] [] h = some ([], h1)) : ix_M mCh_init [.ref a0] h = some ([], h1) := ix_M_of (ix_ent_c kq_Ch_init rfl rfl (Nat.le_of_ble_eq_true rfl) rfl) hd (ix_okrV rfl)
theorem i_Ch_join_0 : ix_nx mCh_join 0 = some (0, .aload_n 0, 1, none, [], 0) := rfl
theorem i_Ch_join_1 : ix_nx mCh_join 1 = some (0, .aload_n 1, 2, none, [], 0) := rfl
theorem i_Ch_join_2 : ix_nx mCh_join 2 = some (3, .invokevirtual 35, 5, none, [0, 119, 131], 0) := rfl
theorem i_Ch_join_5 : ix_nx mCh_join 5 = some (0, .aload_n 0, 6, none, [], 0) := rfl
theorem i_Ch_join_6 : ix_nx mCh_join 6 = some (0, .lload_n 2, 7, none, [], 0) := rfl
theorem i_Ch_join_7 : ix_nx mCh_join 7 = some (2, .putfield 28, 10, none, [8, 5, 1, 69], 0) := rfl
theorem i_Ch_join_10 : ix_nx mCh_join 10 = some (0, .aload_n 0, 11, none, [], 0) := rfl
theorem i_Ch_join_11 : ix_nx mCh_join 11 = some (0, .lload_n 2, 12, none, [], 0) := rfl
theorem i_Ch_join_12 : ix_nx mCh_join 12 = some (2, .putfield 32, 15, none, [8, 6, 1, 70], 0) := rfl
theorem i_Ch_join_15 : ix_nx mCh_join 15 = some (0, .iconst 0, 16, none, [], 0) := rfl
theorem i_Ch_join_16 : ix_nx mCh_join 16 = some (0, .istore 4, 18, none, [], 0) := rfl
theorem i_Ch_join_18 : ix_nx mCh_join 18 = some (0, .iconst 0, 19, none, [], 0) := rfl
theorem i_Ch_join_19 : ix_nx mCh_join 19 = some (0, .istore 5, 21, none, [], 0) := rfl
theorem i_Ch_join_21 : ix_nx mCh_join 21 = some (0, .iload 5, 23, some [true, false, false, false, true, true], [], 0) := rfl
theorem i_Ch_join_23 : ix_nx mCh_join 23 = some (0, .bipush 64, 25, none, [], 0) := rfl
theorem i_Ch_join_25 : ix_nx mCh_join 25 = some (0, .if_icmp .ge 27, 28, none, [], 0) := rfl
theorem i_Ch_join_28 : ix_nx mCh_join 28 = some (0, .aload_n 0, 29, none, [], 0) := rfl
theorem i_Ch_join_29 : ix_nx mCh_join 29 = some (1, .getfield 15, 32, none, [8, 1, 2, 65], 0) := rfl
theorem i_Ch_join_32 : ix_nx mCh_join 32 = some (0, .iload 5, 34, none, [], 0) := rfl
theorem i_Ch_join_34 : ix_nx mCh_join 34 = some (0, .bipush (-6), 36, none, [], 0) := rfl
theorem i_Ch_join_36 : ix_nx mCh_join 36 = some (2, .iastore, 37, none, [], 0) := rfl
theorem i_Ch_join_37 : ix_nx mCh_join 37 = some (0, .aload_n 0, 38, none, [], 0) := rfl
theorem i_Ch_join_38 : ix_nx mCh_join 38 = some (1, .getfield 19, 41, none, [8, 2, 2, 66], 0) := rfl
theorem i_Ch_join_41 : ix_nx mCh_join 41 = some (0, .iload 5, 43, none, [], 0) := rfl
theorem i_Ch_join_43 : ix_nx mCh_join 43 = some (0, .bipush (-6), 45, none, [], 0) := rfl
theorem i_Ch_join_45 : ix_nx mCh_join 45 = some (2, .iastore, 46, none, [], 0) := rfl
theorem i_Ch_join_46 : ix_nx mCh_join 46 = some (0, .iinc 5 1, 49, none, [], 0) := rfl
theorem i_Ch_join_49 : ix_nx mCh_join 49 = some (0, .goto (-28), 52, none, [], 0) := rfl
theorem i_Ch_join_52 : ix_nx mCh_join 52 = some (0, .iconst 0, 53, none, [], 0) := rfl
theorem i_Ch_join_53 : ix_nx mCh_join 53 = some (0, .istore 5, 55, none, [], 0) := rfl
theorem i_Ch_join_55 : ix_nx mCh_join 55 = some (0, .iload 5, 57, some [true, false, false, false, true, true], [], 0) := rfl
theorem i_Ch_join_57 : ix_nx mCh_join 57 = some (0, .bipush 64, 59, none, [], 0) := rfl
theorem i_Ch_join_59 : ix_nx mCh_join 59 = some (0, .if_icmp .ge 33, 62, none, [], 0) := rfl
theorem i_Ch_join_62 : ix_nx mCh_join 62 = some (0, .aload_n 0, 63, none, [], 0) := rfl
theorem i_Ch_join_63 : ix_nx mCh_join 63 = some (1, .getfield 28, 66, none, [8, 5, 1, 69], 0) := rfl
theorem i_Ch_join_66 : ix_nx mCh_join 66 = some (0, .iload 5, 68, none, [], 0) := rfl
theorem i_Ch_join_68 : ix_nx mCh_join 68 = some (3, .invokestatic 39, 71, none, [3, 8, 132], 0) := rfl
theorem i_Ch_join_71 : ix_nx mCh_join 71 = some (0, .ifCond .eq 15, 74, none, [], 0) := rfl
theorem i_Ch_join_74 : ix_nx mCh_join 74 = some (0, .aload_n 0, 75, none, [], 0) := rfl
theorem i_Ch_join_75 : ix_nx mCh_join 75 = some (0, .iload 5, 77, none, [], 0) := rfl
theorem i_Ch_join_77 : ix_nx mCh_join 77 = some (3, .invokevirtual 43, 80, none, [0, 121, 133], 0) := rfl
theorem i_Ch_join_80 : ix_nx mCh_join 80 = some (0, .ifCond .eq 6, 83, none, [], 0) := rfl
theorem i_Ch_join_83 : ix_nx mCh_join 83 = some (0, .iinc 4 1, 86, none, [], 0) := rfl
theorem i_Ch_join_86 : ix_nx mCh_join 86 = some (0, .iinc 5 1, 89, none, [], 0) := rfl
theorem i_Ch_join_89 : ix_nx mCh_join 89 = some (0, .goto (-34), 92, none, [], 0) := rfl
theorem i_Ch_join_92 : ix_nx mCh_join 92 = some (0, .aload_n 0, 93, none, [], 0) := rfl
theorem i_Ch_join_93 : ix_nx mCh_join 93 = some (1, .getfield 28, 96, none, [8, 5, 1, 69], 0) := rfl
theorem i_Ch_join_96 : ix_nx mCh_join 96 = some (3, .invokestatic 47, 99, none, [3, 6, 134], 0) := rfl
theorem i_Ch_join_99 : ix_nx mCh_join 99 = some (0, .iload 4, 101, none, [], 0) := rfl
theorem i_Ch_join_101 : ix_nx mCh_join 101 = some (0, .isub, 102, none, [], 0) := rfl
theorem i_Ch_join_102 : ix_nx mCh_join 102 = some (4, .ireturn, 103, none, [], 0) := rfl
noncomputable def l_Ch_join_21 (a0 : Nat) (b4 : Bool) (x5 : Int32) (h : ixH) : Option (List Value × ixH) := ix_D mCh_join 21 [some (.ref a0), none, none, none, some (.int (ix_bi b4)), some (.int x5)] [] h
noncomputable def l_Ch_join_55 (a0 : Nat) (x4 : Int32) (x5 : Int32) (h : ixH) : Option (List Value × ixH) := ix_D mCh_join 55 [some (.ref a0), none, none, none, some (.int x4), some (.int x5)] [] h
set_option maxRecDepth 20000 in
set_option maxHeartbeats 1000000 in
theorem e_Ch_join_21 (a0 : Nat) (b4 : Bool) (x5 : Int32) (h : ixH) : l_Ch_join_21 a0 b4 x5 h = if 64 ≤ x5 then l_Ch_join_55 a0 (ix_bi b4) 0 h else (ix_gr h a0 8 1).bind fun v1 => (ix_si h v1 x5 (-6)).bind fun h2 => (ix_gr h2 a0 8 2).bind fun v3 => (ix_si h2 v3 x5 (-6)).bind fun h4 => l_Ch_join_21 a0 b4 (x5 + 1) h4 := by
  unfold l_Ch_join_21
  refine ix_K_px kq_Ch_join i_Ch_join_21 rfl rfl ?_
  refine ix_K_cb kq_Ch_join i_Ch_join_23 rfl kcb_64 ?_
  refine ix_K_ic_ge (tgt := 52) kq_Ch_join i_Ch_join_25 rfl (by decide) ?_ ?_
  · refine ix_K_ci kq_Ch_join i_Ch_join_52 rfl kci_0 ?_
    refine ix_K_si (L2 := [some (.ref a0), none, none, none, some (.int (ix_bi b4)), some (.int 0)]) kq_Ch_join i_Ch_join_53 rfl (Or.inl rfl) (Nat.le_of_ble_eq_true rfl) rfl ?_
    exact ix_D_cut i_Ch_join_55 rfl
  · refine ix_K_px kq_Ch_join i_Ch_join_28 rfl rfl ?_
    refine ix_K_gr kq_Ch_join i_Ch_join_29 rfl (fun v1 => ?_)
    refine ix_K_px kq_Ch_join i_Ch_join_32 rfl rfl ?_
    refine ix_K_cb kq_Ch_join i_Ch_join_34 rfl kcb_m6 ?_
    refine ix_K_ti kq_Ch_join i_Ch_join_36 rfl (fun h2 => ?_)
    refine ix_K_px kq_Ch_join i_Ch_join_37 rfl rfl ?_
    refine ix_K_gr kq_Ch_join i_Ch_join_38 rfl (fun v3 => ?_)
    refine ix_K_px kq_Ch_join i_Ch_join_41 rfl rfl ?_
    refine ix_K_cb kq_Ch_join i_Ch_join_43 rfl kcb_m6 ?_
    refine ix_K_ti kq_Ch_join i_Ch_join_45 rfl (fun h4 => ?_)
    refine ix_K_inc (L2 := [some (.ref a0), none, none, none, some (.int (ix_bi b4)), some (.int (x5 + 1))]) kq_Ch_join i_Ch_join_46 rfl rfl (Nat.le_of_ble_eq_true rfl) kci_1 rfl ?_
    refine ix_K_goto (tgt := 21) kq_Ch_join i_Ch_join_49 rfl (by decide) ?_
    exact ix_D_cut i_Ch_join_21 rfl
set_option maxRecDepth 20000 in
set_option maxHeartbeats 1000000 in
theorem e_Ch_join_55 (a0 : Nat) (x4 : Int32) (x5 : Int32) (h : ixH) : l_Ch_join_55 a0 x4 x5 h = if 64 ≤ x5 then (ix_gl h a0 8 5).bind fun v1 => (ix_M mRP_size [.long v1] h).bind fun r => ix_kI r fun v3 h2 => some ([.int (v3 - x4)], h2) else (ix_gl h a0 8 5).bind fun v4 => (ix_M mRP_holds [.long v4, .int x5] h).bind fun r => ix_kZ r fun v6 h5 => if v6 = true then (ix_M mCh_findLeader [.ref a0, .int x5] h5).bind fun r => ix_kZ r fun v8 h7 => if v8 = true then l_Ch_join_55 a0 (x4 + 1) (x5 + 1) h7 else l_Ch_join_55 a0 x4 (x5 + 1) h7 else l_Ch_join_55 a0 x4 (x5 + 1) h5 := by
  unfold l_Ch_join_55
  refine ix_K_px kq_Ch_join i_Ch_join_55 rfl rfl ?_
  refine ix_K_cb kq_Ch_join i_Ch_join_57 rfl kcb_64 ?_
  refine ix_K_ic_ge (tgt := 92) kq_Ch_join i_Ch_join_59 rfl (by decide) ?_ ?_
  · refine ix_K_px kq_Ch_join i_Ch_join_92 rfl rfl ?_
    refine ix_K_gl kq_Ch_join i_Ch_join_93 rfl (fun v1 => ?_)
    refine ix_K_callI (as := [.long v1]) (rest := []) kq_Ch_join i_Ch_join_96 rfl kq_RP_size (by decide) rfl (Or.inl rfl) (fun v3 h2 => ?_)
    refine ix_K_px kq_Ch_join i_Ch_join_99 rfl rfl ?_
    refine ix_K_px kq_Ch_join i_Ch_join_101 rfl rfl ?_
    exact ix_D_ret kq_Ch_join i_Ch_join_102 (ix_rtI rfl _)
  · refine ix_K_px kq_Ch_join i_Ch_join_62 rfl rfl ?_
    refine ix_K_gl kq_Ch_join i_Ch_join_63 rfl (fun v4 => ?_)
    refine ix_K_px kq_Ch_join i_Ch_join_66 rfl rfl ?_
    refine ix_K_callZ (as := [.long v4, .int x5]) (rest := []) kq_Ch_join i_Ch_join_68 rfl kq_RP_holds (by decide) rfl rfl (fun v6 h5 => ?_)
    refine ix_K_bz_eq (tgt := 86) kq_Ch_join i_Ch_join_71 rfl (by decide) ?_ ?_
    · refine ix_K_px kq_Ch_join i_Ch_join_74 rfl rfl ?_
      refine ix_K_px kq_Ch_join i_Ch_join_75 rfl rfl ?_
      refine ix_K_callZ (as := [.ref a0, .int x5]) (rest := []) kq_Ch_join i_Ch_join_77 rfl kq_Ch_findLeader (by decide) rfl rfl (fun v8 h7 => ?_)
      refine ix_K_bz_eq (tgt := 86) kq_Ch_join i_Ch_join_80 rfl (by decide) ?_ ?_
      · refine ix_K_inc (L2 := [some (.ref a0), none, none, none, some (.int (x4 + 1)), some (.int x5)]) kq_Ch_join i_Ch_join_83 rfl rfl (Nat.le_of_ble_eq_true rfl) kci_1 rfl ?_
        refine ix_K_inc (L2 := [some (.ref a0), none, none, none, some (.int (x4 + 1)), some (.int (x5 + 1))]) kq_Ch_join i_Ch_join_86 rfl rfl (Nat.le_of_ble_eq_true rfl) kci_1 rfl ?_
        refine ix_K_goto (tgt := 55) kq_Ch_join i_Ch_join_89 rfl (by decide) ?_
        exact ix_D_cut i_Ch_join_55 rfl
      · refine ix_K_inc (L2 := [some (.ref a0), none, none, none, some (.int x4), some (.int (x5 + 1))]) kq_Ch_join i_Ch_join_86 rfl rfl (Nat.le_of_ble_eq_true rfl) kci_1 rfl ?_
        refine ix_K_goto (tgt := 55) kq_Ch_join i_Ch_join_89 rfl (by decide) ?_
        exact ix_D_cut i_Ch_join_55 rfl
    · refine ix_K_inc (L2 := [some (.ref a0), none, none, none, some (.int x4), some (.int (x5 + 1))]) kq_Ch_join i_Ch_join_86 rfl rfl (Nat.le_of_ble_eq_true rfl) kci_1 rfl ?_
      refine ix_K_goto (tgt := 55) kq_Ch_join i_Ch_join_89 rfl (by decide) ?_
      exact ix_D_cut i_Ch_join_55 rfl
set_option maxRecDepth 20000 in
set_option maxHeartbeats 1000000 in
theorem e_Ch_join (a0 : Nat) (a1 : Nat) (x2 : Int64) (h : ixH) : ix_D mCh_join 0 [some (.ref a0), some (.ref a1), some (.long x2), none, none, none] [] h = (ix_M mCh_findAhead [.ref a0, .ref a1] h).bind fun r => ix_kV r fun h1 => (ix_pf h1 a0 8 5 (.long x2)).bind fun h2 => (ix_pf h2 a0 8 6 (.long x2)).bind fun h3 => l_Ch_join_21 a0 false 0 h3 := by
  refine ix_K_px kq_Ch_join i_Ch_join_0 rfl rfl ?_
  refine ix_K_px kq_Ch_join i_Ch_join_1 rfl rfl ?_
  refine ix_K_callV (as := [.ref a0, .ref a1]) (rest := []) kq_Ch_join i_Ch_join_2 rfl kq_Ch_findAhead (by decide) rfl rfl (fun h1 => ?_)
  refine ix_K_px kq_Ch_join i_Ch_join_5 rfl rfl ?_
  refine ix_K_px kq_Ch_join i_Ch_join_6 rfl rfl ?_
  refine ix_K_pf kq_Ch_join i_Ch_join_7 rfl rfl (fun h2 => ?_)
  refine ix_K_px kq_Ch_join i_Ch_join_10 rfl rfl ?_
  refine ix_K_px kq_Ch_join i_Ch_join_11 rfl rfl ?_
  refine ix_K_pf kq_Ch_join i_Ch_join_12 rfl rfl (fun h3 => ?_)
  refine ix_K_ci kq_Ch_join i_Ch_join_15 rfl kci_0 ?_
  refine ix_K_si (L2 := [some (.ref a0), some (.ref a1), some (.long x2), none, some (.int 0), none]) kq_Ch_join i_Ch_join_16 rfl (Or.inl rfl) (Nat.le_of_ble_eq_true rfl) rfl ?_
  refine ix_K_ci kq_Ch_join i_Ch_join_18 rfl kci_0 ?_
  refine ix_K_si (L2 := [some (.ref a0), some (.ref a1), some (.long x2), none, some (.int 0), some (.int 0)]) kq_Ch_join i_Ch_join_19 rfl (Or.inl rfl) (Nat.le_of_ble_eq_true rfl) rfl ?_
  exact ix_D_cut i_Ch_join_21 rfl
theorem x_Ch_join {a0 : Nat} {a1 : Nat} {x2 : Int64} {h h1 : ixH} {v : Int32} (hr : ix_rc h a0 = some 8) (hd : ix_D mCh_join 0 [some (.ref a0), some (.ref a1), some (.long x2), none, none, none] [] h = some ([.int v], h1)) : ix_M mCh_join [.ref a0, .ref a1, .long x2] h = some ([.int v], h1) := ix_M_of (ix_ent_i kq_Ch_join rfl hr rfl (Nat.le_of_ble_eq_true rfl) rfl) hd (ix_okrI (Or.inl rfl) v)
theorem i_Ch_findAhead_0 : ix_nx mCh_findAhead 0 = some (0, .aload_n 1, 1, none, [], 0) := rfl
theorem i_Ch_findAhead_1 : ix_nx mCh_findAhead 1 = some (3, .invokevirtual 51, 4, none, [0, 62, 135], 0) := rfl
theorem i_Ch_findAhead_4 : ix_nx mCh_findAhead 4 = some (0, .bipush 64, 6, none, [], 0) := rfl
theorem i_Ch_findAhead_6 : ix_nx mCh_findAhead 6 = some (5, .invokestatic 56, 9, none, [9, 136], 0) := rfl
theorem i_Ch_findAhead_9 : ix_nx mCh_findAhead 9 = some (0, .istore_n 2, 10, none, [], 0) := rfl
theorem i_Ch_findAhead_10 : ix_nx mCh_findAhead 10 = some (0, .aload_n 1, 11, none, [], 0) := rfl
theorem i_Ch_findAhead_11 : ix_nx mCh_findAhead 11 = some (3, .invokevirtual 62, 14, none, [0, 70, 137], 0) := rfl
theorem i_Ch_findAhead_14 : ix_nx mCh_findAhead 14 = some (0, .lstore_n 3, 15, none, [], 0) := rfl
theorem i_Ch_findAhead_15 : ix_nx mCh_findAhead 15 = some (0, .iconst 0, 16, none, [], 0) := rfl
theorem i_Ch_findAhead_16 : ix_nx mCh_findAhead 16 = some (0, .istore 5, 18, none, [], 0) := rfl
theorem i_Ch_findAhead_18 : ix_nx mCh_findAhead 18 = some (0, .iload 5, 20, some [true, true, true, true, false, true, false, false], [], 0) := rfl
theorem i_Ch_findAhead_20 : ix_nx mCh_findAhead 20 = some (0, .iload_n 2, 21, none, [], 0) := rfl
theorem i_Ch_findAhead_21 : ix_nx mCh_findAhead 21 = some (0, .if_icmp .ge 79, 24, none, [], 0) := rfl
theorem i_Ch_findAhead_24 : ix_nx mCh_findAhead 24 = some (0, .iload 5, 26, none, [], 0) := rfl
theorem i_Ch_findAhead_26 : ix_nx mCh_findAhead 26 = some (3, .invokestatic 66, 29, none, [3, 1, 138], 0) := rfl
theorem i_Ch_findAhead_29 : ix_nx mCh_findAhead 29 = some (0, .lstore 6, 31, none, [], 0) := rfl
theorem i_Ch_findAhead_31 : ix_nx mCh_findAhead 31 = some (0, .aload_n 1, 32, none, [], 0) := rfl
theorem i_Ch_findAhead_32 : ix_nx mCh_findAhead 32 = some (1, .getfield 70, 35, none, [2, 3, 1, 13], 0) := rfl
theorem i_Ch_findAhead_35 : ix_nx mCh_findAhead 35 = some (0, .iload 5, 37, none, [], 0) := rfl
theorem i_Ch_findAhead_37 : ix_nx mCh_findAhead 37 = some (3, .invokestatic 39, 40, none, [3, 8, 132], 0) := rfl
theorem i_Ch_findAhead_40 : ix_nx mCh_findAhead 40 = some (0, .ifCond .eq 16, 43, none, [], 0) := rfl
theorem i_Ch_findAhead_43 : ix_nx mCh_findAhead 43 = some (0, .lload 6, 45, none, [], 0) := rfl
theorem i_Ch_findAhead_45 : ix_nx mCh_findAhead 45 = some (0, .aload_n 0, 46, none, [], 0) := rfl
theorem i_Ch_findAhead_46 : ix_nx mCh_findAhead 46 = some (0, .iload 5, 48, none, [], 0) := rfl
theorem i_Ch_findAhead_48 : ix_nx mCh_findAhead 48 = some (0, .iconst 1, 49, none, [], 0) := rfl
theorem i_Ch_findAhead_49 : ix_nx mCh_findAhead 49 = some (0, .isub, 50, none, [], 0) := rfl
theorem i_Ch_findAhead_50 : ix_nx mCh_findAhead 50 = some (3, .invokevirtual 73, 53, none, [0, 120, 139], 0) := rfl
theorem i_Ch_findAhead_53 : ix_nx mCh_findAhead 53 = some (0, .lor, 54, none, [], 0) := rfl
theorem i_Ch_findAhead_54 : ix_nx mCh_findAhead 54 = some (0, .lstore 6, 56, none, [], 0) := rfl
theorem i_Ch_findAhead_56 : ix_nx mCh_findAhead 56 = some (0, .lload 6, 58, some [true, true, true, true, false, true, true, false], [], 0) := rfl
theorem i_Ch_findAhead_58 : ix_nx mCh_findAhead 58 = some (0, .aload_n 0, 59, none, [], 0) := rfl
theorem i_Ch_findAhead_59 : ix_nx mCh_findAhead 59 = some (0, .iload 5, 61, none, [], 0) := rfl
theorem i_Ch_findAhead_61 : ix_nx mCh_findAhead 61 = some (0, .aload_n 1, 62, none, [], 0) := rfl
theorem i_Ch_findAhead_62 : ix_nx mCh_findAhead 62 = some (1, .getfield 76, 65, none, [2, 0, 0, 3], 0) := rfl
theorem i_Ch_findAhead_65 : ix_nx mCh_findAhead 65 = some (0, .isub, 66, none, [], 0) := rfl
theorem i_Ch_findAhead_66 : ix_nx mCh_findAhead 66 = some (3, .invokevirtual 73, 69, none, [0, 120, 139], 0) := rfl
theorem i_Ch_findAhead_69 : ix_nx mCh_findAhead 69 = some (0, .lor, 70, none, [], 0) := rfl
theorem i_Ch_findAhead_70 : ix_nx mCh_findAhead 70 = some (0, .lstore 6, 72, none, [], 0) := rfl
theorem i_Ch_findAhead_72 : ix_nx mCh_findAhead 72 = some (0, .aload_n 0, 73, none, [], 0) := rfl
theorem i_Ch_findAhead_73 : ix_nx mCh_findAhead 73 = some (1, .getfield 9, 76, none, [8, 0, 2, 64], 0) := rfl
theorem i_Ch_findAhead_76 : ix_nx mCh_findAhead 76 = some (0, .iload 5, 78, none, [], 0) := rfl
theorem i_Ch_findAhead_78 : ix_nx mCh_findAhead 78 = some (0, .lload_n 3, 79, none, [], 0) := rfl
theorem i_Ch_findAhead_79 : ix_nx mCh_findAhead 79 = some (0, .iload 5, 81, none, [], 0) := rfl
theorem i_Ch_findAhead_81 : ix_nx mCh_findAhead 81 = some (3, .invokestatic 39, 84, none, [3, 8, 132], 0) := rfl
theorem i_Ch_findAhead_84 : ix_nx mCh_findAhead 84 = some (0, .ifCond .eq 8, 87, none, [], 0) := rfl
theorem i_Ch_findAhead_87 : ix_nx mCh_findAhead 87 = some (0, .lload 6, 89, none, [], 0) := rfl
theorem i_Ch_findAhead_89 : ix_nx mCh_findAhead 89 = some (0, .goto 4, 92, none, [], 0) := rfl
theorem i_Ch_findAhead_92 : ix_nx mCh_findAhead 92 = some (0, .lconst 0, 93, none, [], 0) := rfl
theorem i_Ch_findAhead_93 : ix_nx mCh_findAhead 93 = some (2, .lastore, 94, none, [], 0) := rfl
theorem i_Ch_findAhead_94 : ix_nx mCh_findAhead 94 = some (0, .iinc 5 1, 97, none, [], 0) := rfl
theorem i_Ch_findAhead_97 : ix_nx mCh_findAhead 97 = some (0, .goto (-79), 100, none, [], 0) := rfl
theorem i_Ch_findAhead_100 : ix_nx mCh_findAhead 100 = some (4, .return_, 101, none, [], 0) := rfl
noncomputable def l_Ch_findAhead_18 (a0 : Nat) (a1 : Nat) (x2 : Int32) (x3 : Int64) (x5 : Int32) (h : ixH) : Option (List Value × ixH) := ix_D mCh_findAhead 18 [some (.ref a0), some (.ref a1), some (.int x2), some (.long x3), none, some (.int x5), none, none] [] h
noncomputable def l_Ch_findAhead_56 (a0 : Nat) (a1 : Nat) (x2 : Int32) (x3 : Int64) (x5 : Int32) (x6 : Int64) (h : ixH) : Option (List Value × ixH) := ix_D mCh_findAhead 56 [some (.ref a0), some (.ref a1), some (.int x2), some (.long x3), none, some (.int x5), some (.long x6), none] [] h
set_option maxRecDepth 20000 in
set_option maxHeartbeats 1000000 in
theorem e_Ch_findAhead_18 (a0 : Nat) (a1 : Nat) (x2 : Int32) (x3 : Int64) (x5 : Int32) (h : ixH) : l_Ch_findAhead_18 a0 a1 x2 x3 x5 h = if x2 ≤ x5 then some ([], h) else (ix_M mRP_bit [.int x5] h).bind fun r => ix_kL r fun v2 h1 => (ix_gl h1 a1 2 3).bind fun v3 => (ix_M mRP_holds [.long v3, .int x5] h1).bind fun r => ix_kZ r fun v5 h4 => if v5 = true then (ix_M mCh_aheadOf [.ref a0, .int (x5 - 1)] h4).bind fun r => ix_kL r fun v7 h6 => l_Ch_findAhead_56 a0 a1 x2 x3 x5 (v2 ||| v7) h6 else l_Ch_findAhead_56 a0 a1 x2 x3 x5 v2 h4 := by
  unfold l_Ch_findAhead_18
  refine ix_K_px kq_Ch_findAhead i_Ch_findAhead_18 rfl rfl ?_
  refine ix_K_px kq_Ch_findAhead i_Ch_findAhead_20 rfl rfl ?_
  refine ix_K_ic_ge (tgt := 100) kq_Ch_findAhead i_Ch_findAhead_21 rfl (by decide) ?_ ?_
  · exact ix_D_ret kq_Ch_findAhead i_Ch_findAhead_100 (ix_rtV rfl)
  · refine ix_K_px kq_Ch_findAhead i_Ch_findAhead_24 rfl rfl ?_
    refine ix_K_callL (as := [.int x5]) (rest := []) kq_Ch_findAhead i_Ch_findAhead_26 rfl kq_RP_bit (by decide) rfl rfl (fun v2 h1 => ?_)
    refine ix_K_sl (L2 := [some (.ref a0), some (.ref a1), some (.int x2), some (.long x3), none, some (.int x5), some (.long v2), none]) kq_Ch_findAhead i_Ch_findAhead_29 rfl (Or.inl rfl) (Nat.le_of_ble_eq_true rfl) rfl ?_
    refine ix_K_px kq_Ch_findAhead i_Ch_findAhead_31 rfl rfl ?_
    refine ix_K_gl kq_Ch_findAhead i_Ch_findAhead_32 rfl (fun v3 => ?_)
    refine ix_K_px kq_Ch_findAhead i_Ch_findAhead_35 rfl rfl ?_
    refine ix_K_callZ (as := [.long v3, .int x5]) (rest := []) kq_Ch_findAhead i_Ch_findAhead_37 rfl kq_RP_holds (by decide) rfl rfl (fun v5 h4 => ?_)
    refine ix_K_bz_eq (tgt := 56) kq_Ch_findAhead i_Ch_findAhead_40 rfl (by decide) ?_ ?_
    · refine ix_K_px kq_Ch_findAhead i_Ch_findAhead_43 rfl rfl ?_
      refine ix_K_px kq_Ch_findAhead i_Ch_findAhead_45 rfl rfl ?_
      refine ix_K_px kq_Ch_findAhead i_Ch_findAhead_46 rfl rfl ?_
      refine ix_K_ci kq_Ch_findAhead i_Ch_findAhead_48 rfl kci_1 ?_
      refine ix_K_px kq_Ch_findAhead i_Ch_findAhead_49 rfl rfl ?_
      refine ix_K_callL (as := [.ref a0, .int (x5 - 1)]) (rest := [.long v2]) kq_Ch_findAhead i_Ch_findAhead_50 rfl kq_Ch_aheadOf (by decide) rfl rfl (fun v7 h6 => ?_)
      refine ix_K_px kq_Ch_findAhead i_Ch_findAhead_53 rfl rfl ?_
      refine ix_K_sl (L2 := [some (.ref a0), some (.ref a1), some (.int x2), some (.long x3), none, some (.int x5), some (.long (v2 ||| v7)), none]) kq_Ch_findAhead i_Ch_findAhead_54 rfl (Or.inl rfl) (Nat.le_of_ble_eq_true rfl) rfl ?_
      exact ix_D_cut i_Ch_findAhead_56 rfl
    · exact ix_D_cut i_Ch_findAhead_56 rfl
set_option maxRecDepth 20000 in
set_option maxHeartbeats 1000000 in
theorem e_Ch_findAhead_56 (a0 : Nat) (a1 : Nat) (x2 : Int32) (x3 : Int64) (x5 : Int32) (x6 : Int64) (h : ixH) : l_Ch_findAhead_56 a0 a1 x2 x3 x5 x6 h = (ix_gi h a1 2 0).bind fun v1 => (ix_M mCh_aheadOf [.ref a0, .int (x5 - v1)] h).bind fun r => ix_kL r fun v3 h2 => (ix_gr h2 a0 8 0).bind fun v4 => (ix_M mRP_holds [.long x3, .int x5] h2).bind fun r => ix_kZ r fun v6 h5 => if v6 = true then (ix_sl h5 v4 x5 (x6 ||| v3)).bind fun h7 => l_Ch_findAhead_18 a0 a1 x2 x3 (x5 + 1) h7 else (ix_sl h5 v4 x5 0).bind fun h8 => l_Ch_findAhead_18 a0 a1 x2 x3 (x5 + 1) h8 := by
  unfold l_Ch_findAhead_56
  refine ix_K_px kq_Ch_findAhead i_Ch_findAhead_56 rfl rfl ?_
  refine ix_K_px kq_Ch_findAhead i_Ch_findAhead_58 rfl rfl ?_
  refine ix_K_px kq_Ch_findAhead i_Ch_findAhead_59 rfl rfl ?_
  refine ix_K_px kq_Ch_findAhead i_Ch_findAhead_61 rfl rfl ?_
  refine ix_K_gi kq_Ch_findAhead i_Ch_findAhead_62 rfl (fun v1 => ?_)
  refine ix_K_px kq_Ch_findAhead i_Ch_findAhead_65 rfl rfl ?_
  refine ix_K_callL (as := [.ref a0, .int (x5 - v1)]) (rest := [.long x6]) kq_Ch_findAhead i_Ch_findAhead_66 rfl kq_Ch_aheadOf (by decide) rfl rfl (fun v3 h2 => ?_)
  refine ix_K_px kq_Ch_findAhead i_Ch_findAhead_69 rfl rfl ?_
  refine ix_K_sl (L2 := [some (.ref a0), some (.ref a1), some (.int x2), some (.long x3), none, some (.int x5), some (.long (x6 ||| v3)), none]) kq_Ch_findAhead i_Ch_findAhead_70 rfl (Or.inl rfl) (Nat.le_of_ble_eq_true rfl) rfl ?_
  refine ix_K_px kq_Ch_findAhead i_Ch_findAhead_72 rfl rfl ?_
  refine ix_K_gr kq_Ch_findAhead i_Ch_findAhead_73 rfl (fun v4 => ?_)
  refine ix_K_px kq_Ch_findAhead i_Ch_findAhead_76 rfl rfl ?_
  refine ix_K_px kq_Ch_findAhead i_Ch_findAhead_78 rfl rfl ?_
  refine ix_K_px kq_Ch_findAhead i_Ch_findAhead_79 rfl rfl ?_
  refine ix_K_callZ (as := [.long x3, .int x5]) (rest := [.int x5, .ref v4]) kq_Ch_findAhead i_Ch_findAhead_81 rfl kq_RP_holds (by decide) rfl rfl (fun v6 h5 => ?_)
  refine ix_K_bz_eq (tgt := 92) kq_Ch_findAhead i_Ch_findAhead_84 rfl (by decide) ?_ ?_
  · refine ix_K_px kq_Ch_findAhead i_Ch_findAhead_87 rfl rfl ?_
    refine ix_K_goto (tgt := 93) kq_Ch_findAhead i_Ch_findAhead_89 rfl (by decide) ?_
    refine ix_K_tl kq_Ch_findAhead i_Ch_findAhead_93 rfl (fun h7 => ?_)
    refine ix_K_inc (L2 := [some (.ref a0), some (.ref a1), some (.int x2), some (.long x3), none, some (.int (x5 + 1)), some (.long (x6 ||| v3)), none]) kq_Ch_findAhead i_Ch_findAhead_94 rfl rfl (Nat.le_of_ble_eq_true rfl) kci_1 rfl ?_
    refine ix_K_goto (tgt := 18) kq_Ch_findAhead i_Ch_findAhead_97 rfl (by decide) ?_
    exact ix_D_cut i_Ch_findAhead_18 rfl
  · refine ix_K_cl kq_Ch_findAhead i_Ch_findAhead_92 rfl kcl_0 ?_
    refine ix_K_tl kq_Ch_findAhead i_Ch_findAhead_93 rfl (fun h8 => ?_)
    refine ix_K_inc (L2 := [some (.ref a0), some (.ref a1), some (.int x2), some (.long x3), none, some (.int (x5 + 1)), some (.long (x6 ||| v3)), none]) kq_Ch_findAhead i_Ch_findAhead_94 rfl rfl (Nat.le_of_ble_eq_true rfl) kci_1 rfl ?_
    refine ix_K_goto (tgt := 18) kq_Ch_findAhead i_Ch_findAhead_97 rfl (by decide) ?_
    exact ix_D_cut i_Ch_findAhead_18 rfl
set_option maxRecDepth 20000 in
set_option maxHeartbeats 1000000 in
theorem e_Ch_findAhead (a0 : Nat) (a1 : Nat) (h : ixH) : ix_D mCh_findAhead 0 [some (.ref a0), some (.ref a1), none, none, none, none, none, none] [] h = (ix_M mGr_size [.ref a1] h).bind fun r => ix_kI r fun v2 h1 => (ix_M mGr_open [.ref a1] h1).bind fun r => ix_kL r fun v4 h3 => l_Ch_findAhead_18 a0 a1 (ix_mn v2 64) v4 0 h3 := by
  refine ix_K_px kq_Ch_findAhead i_Ch_findAhead_0 rfl rfl ?_
  refine ix_K_callI (as := [.ref a1]) (rest := []) kq_Ch_findAhead i_Ch_findAhead_1 rfl kq_Gr_size (by decide) rfl (Or.inl rfl) (fun v2 h1 => ?_)
  refine ix_K_cb kq_Ch_findAhead i_Ch_findAhead_4 rfl kcb_64 ?_
  refine ix_K_min kq_Ch_findAhead i_Ch_findAhead_6 rfl (Nat.le_of_ble_eq_true rfl) ?_
  refine ix_K_si (L2 := [some (.ref a0), some (.ref a1), some (.int (ix_mn v2 64)), none, none, none, none, none]) kq_Ch_findAhead i_Ch_findAhead_9 rfl (Or.inr ⟨_, rfl, rfl⟩) (Nat.le_of_ble_eq_true rfl) rfl ?_
  refine ix_K_px kq_Ch_findAhead i_Ch_findAhead_10 rfl rfl ?_
  refine ix_K_callL (as := [.ref a1]) (rest := []) kq_Ch_findAhead i_Ch_findAhead_11 rfl kq_Gr_open (by decide) rfl rfl (fun v4 h3 => ?_)
  refine ix_K_sl (L2 := [some (.ref a0), some (.ref a1), some (.int (ix_mn v2 64)), some (.long v4), none, none, none, none]) kq_Ch_findAhead i_Ch_findAhead_14 rfl (Or.inr ⟨_, rfl, rfl⟩) (Nat.le_of_ble_eq_true rfl) rfl ?_
  refine ix_K_ci kq_Ch_findAhead i_Ch_findAhead_15 rfl kci_0 ?_
  refine ix_K_si (L2 := [some (.ref a0), some (.ref a1), some (.int (ix_mn v2 64)), some (.long v4), none, some (.int 0), none, none]) kq_Ch_findAhead i_Ch_findAhead_16 rfl (Or.inl rfl) (Nat.le_of_ble_eq_true rfl) rfl ?_
  exact ix_D_cut i_Ch_findAhead_18 rfl
theorem x_Ch_findAhead {a0 : Nat} {a1 : Nat} {h h1 : ixH} (hr : ix_rc h a0 = some 8) (hd : ix_D mCh_findAhead 0 [some (.ref a0), some (.ref a1), none, none, none, none, none, none] [] h = some ([], h1)) : ix_M mCh_findAhead [.ref a0, .ref a1] h = some ([], h1) := ix_M_of (ix_ent_i kq_Ch_findAhead rfl hr rfl (Nat.le_of_ble_eq_true rfl) rfl) hd (ix_okrV rfl)
theorem i_Ch_aheadOf_0 : ix_nx mCh_aheadOf 0 = some (0, .iload_n 1, 1, none, [], 0) := rfl
theorem i_Ch_aheadOf_1 : ix_nx mCh_aheadOf 1 = some (0, .ifCond .lt 18, 4, none, [], 0) := rfl
theorem i_Ch_aheadOf_4 : ix_nx mCh_aheadOf 4 = some (0, .iload_n 1, 5, none, [], 0) := rfl
theorem i_Ch_aheadOf_5 : ix_nx mCh_aheadOf 5 = some (0, .bipush 64, 7, none, [], 0) := rfl
theorem i_Ch_aheadOf_7 : ix_nx mCh_aheadOf 7 = some (0, .if_icmp .ge 12, 10, none, [], 0) := rfl
theorem i_Ch_aheadOf_10 : ix_nx mCh_aheadOf 10 = some (0, .aload_n 0, 11, none, [], 0) := rfl
theorem i_Ch_aheadOf_11 : ix_nx mCh_aheadOf 11 = some (1, .getfield 9, 14, none, [8, 0, 2, 64], 0) := rfl
theorem i_Ch_aheadOf_14 : ix_nx mCh_aheadOf 14 = some (0, .iload_n 1, 15, none, [], 0) := rfl
theorem i_Ch_aheadOf_15 : ix_nx mCh_aheadOf 15 = some (1, .laload, 16, none, [], 0) := rfl
theorem i_Ch_aheadOf_16 : ix_nx mCh_aheadOf 16 = some (0, .goto 4, 19, none, [], 0) := rfl
theorem i_Ch_aheadOf_19 : ix_nx mCh_aheadOf 19 = some (0, .lconst 0, 20, none, [], 0) := rfl
theorem i_Ch_aheadOf_20 : ix_nx mCh_aheadOf 20 = some (4, .lreturn, 21, none, [], 0) := rfl
set_option maxRecDepth 20000 in
set_option maxHeartbeats 1000000 in
theorem e_Ch_aheadOf (a0 : Nat) (x1 : Int32) (h : ixH) : ix_D mCh_aheadOf 0 [some (.ref a0), some (.int x1)] [] h = if x1 < 0 then some ([.long 0], h) else if 64 ≤ x1 then some ([.long 0], h) else (ix_gr h a0 8 0).bind fun v1 => (ix_al h v1 x1).bind fun v2 => some ([.long v2], h) := by
  refine ix_K_px kq_Ch_aheadOf i_Ch_aheadOf_0 rfl rfl ?_
  refine ix_K_if_lt (tgt := 19) kq_Ch_aheadOf i_Ch_aheadOf_1 rfl (by decide) ?_ ?_
  · refine ix_K_cl kq_Ch_aheadOf i_Ch_aheadOf_19 rfl kcl_0 ?_
    exact ix_D_ret kq_Ch_aheadOf i_Ch_aheadOf_20 (ix_rtL rfl _)
  · refine ix_K_px kq_Ch_aheadOf i_Ch_aheadOf_4 rfl rfl ?_
    refine ix_K_cb kq_Ch_aheadOf i_Ch_aheadOf_5 rfl kcb_64 ?_
    refine ix_K_ic_ge (tgt := 19) kq_Ch_aheadOf i_Ch_aheadOf_7 rfl (by decide) ?_ ?_
    · refine ix_K_cl kq_Ch_aheadOf i_Ch_aheadOf_19 rfl kcl_0 ?_
      exact ix_D_ret kq_Ch_aheadOf i_Ch_aheadOf_20 (ix_rtL rfl _)
    · refine ix_K_px kq_Ch_aheadOf i_Ch_aheadOf_10 rfl rfl ?_
      refine ix_K_gr kq_Ch_aheadOf i_Ch_aheadOf_11 rfl (fun v1 => ?_)
      refine ix_K_px kq_Ch_aheadOf i_Ch_aheadOf_14 rfl rfl ?_
      refine ix_K_al kq_Ch_aheadOf i_Ch_aheadOf_15 rfl (fun v2 => ?_)
      refine ix_K_goto (tgt := 20) kq_Ch_aheadOf i_Ch_aheadOf_16 rfl (by decide) ?_
      exact ix_D_ret kq_Ch_aheadOf i_Ch_aheadOf_20 (ix_rtL rfl _)
theorem x_Ch_aheadOf {a0 : Nat} {x1 : Int32} {h h1 : ixH} {v : Int64} (hr : ix_rc h a0 = some 8) (hd : ix_D mCh_aheadOf 0 [some (.ref a0), some (.int x1)] [] h = some ([.long v], h1)) : ix_M mCh_aheadOf [.ref a0, .int x1] h = some ([.long v], h1) := ix_M_of (ix_ent_i kq_Ch_aheadOf rfl hr rfl (Nat.le_of_ble_eq_true rfl) rfl) hd (ix_okrL rfl v)
theorem i_Ch_findLeader_0 : ix_nx mCh_findLeader 0 = some (0, .lconst 0, 1, none, [], 0) := rfl
theorem i_Ch_findLeader_1 : ix_nx mCh_findLeader 1 = some (0, .lstore_n 2, 2, none, [], 0) := rfl
theorem i_Ch_findLeader_2 : ix_nx mCh_findLeader 2 = some (0, .iconst 1, 3, none, [], 0) := rfl
theorem i_Ch_findLeader_3 : ix_nx mCh_findLeader 3 = some (0, .istore 4, 5, none, [], 0) := rfl
theorem i_Ch_findLeader_5 : ix_nx mCh_findLeader 5 = some (0, .aload_n 0, 6, none, [], 0) := rfl
theorem i_Ch_findLeader_6 : ix_nx mCh_findLeader 6 = some (1, .getfield 22, 9, none, [8, 3, 2, 67], 0) := rfl
theorem i_Ch_findLeader_9 : ix_nx mCh_findLeader 9 = some (0, .iconst 0, 10, none, [], 0) := rfl
theorem i_Ch_findLeader_10 : ix_nx mCh_findLeader 10 = some (0, .iload_n 1, 11, none, [], 0) := rfl
theorem i_Ch_findLeader_11 : ix_nx mCh_findLeader 11 = some (2, .iastore, 12, none, [], 0) := rfl
theorem i_Ch_findLeader_12 : ix_nx mCh_findLeader 12 = some (0, .iconst 0, 13, none, [], 0) := rfl
theorem i_Ch_findLeader_13 : ix_nx mCh_findLeader 13 = some (0, .istore 5, 15, none, [], 0) := rfl
theorem i_Ch_findLeader_15 : ix_nx mCh_findLeader 15 = some (0, .iload 5, 17, some [true, false, true, false, true, true, false, false, false], [], 0) := rfl
theorem i_Ch_findLeader_17 : ix_nx mCh_findLeader 17 = some (0, .iload 4, 19, none, [], 0) := rfl
theorem i_Ch_findLeader_19 : ix_nx mCh_findLeader 19 = some (0, .if_icmp .ge 101, 22, none, [], 0) := rfl
theorem i_Ch_findLeader_22 : ix_nx mCh_findLeader 22 = some (0, .iload 5, 24, none, [], 0) := rfl
theorem i_Ch_findLeader_24 : ix_nx mCh_findLeader 24 = some (0, .bipush 64, 26, none, [], 0) := rfl
theorem i_Ch_findLeader_26 : ix_nx mCh_findLeader 26 = some (0, .if_icmp .ge 94, 29, none, [], 0) := rfl
theorem i_Ch_findLeader_29 : ix_nx mCh_findLeader 29 = some (0, .aload_n 0, 30, none, [], 0) := rfl
theorem i_Ch_findLeader_30 : ix_nx mCh_findLeader 30 = some (1, .getfield 22, 33, none, [8, 3, 2, 67], 0) := rfl
theorem i_Ch_findLeader_33 : ix_nx mCh_findLeader 33 = some (0, .iload 5, 35, none, [], 0) := rfl
theorem i_Ch_findLeader_35 : ix_nx mCh_findLeader 35 = some (1, .iaload, 36, none, [], 0) := rfl
theorem i_Ch_findLeader_36 : ix_nx mCh_findLeader 36 = some (0, .istore 6, 38, none, [], 0) := rfl
theorem i_Ch_findLeader_38 : ix_nx mCh_findLeader 38 = some (0, .aload_n 0, 39, none, [], 0) := rfl
theorem i_Ch_findLeader_39 : ix_nx mCh_findLeader 39 = some (0, .iload 6, 41, none, [], 0) := rfl
theorem i_Ch_findLeader_41 : ix_nx mCh_findLeader 41 = some (3, .invokevirtual 73, 44, none, [0, 120, 139], 0) := rfl
theorem i_Ch_findLeader_44 : ix_nx mCh_findLeader 44 = some (0, .iload 6, 46, none, [], 0) := rfl
theorem i_Ch_findLeader_46 : ix_nx mCh_findLeader 46 = some (3, .invokestatic 66, 49, none, [3, 1, 138], 0) := rfl
theorem i_Ch_findLeader_49 : ix_nx mCh_findLeader 49 = some (0, .ldc2_w 80, 52, none, [6], -1) := rfl
theorem i_Ch_findLeader_52 : ix_nx mCh_findLeader 52 = some (0, .lxor, 53, none, [], 0) := rfl
theorem i_Ch_findLeader_53 : ix_nx mCh_findLeader 53 = some (0, .land, 54, none, [], 0) := rfl
theorem i_Ch_findLeader_54 : ix_nx mCh_findLeader 54 = some (0, .aload_n 0, 55, none, [], 0) := rfl
theorem i_Ch_findLeader_55 : ix_nx mCh_findLeader 55 = some (1, .getfield 28, 58, none, [8, 5, 1, 69], 0) := rfl
theorem i_Ch_findLeader_58 : ix_nx mCh_findLeader 58 = some (0, .land, 59, none, [], 0) := rfl
theorem i_Ch_findLeader_59 : ix_nx mCh_findLeader 59 = some (0, .lload_n 2, 60, none, [], 0) := rfl
theorem i_Ch_findLeader_60 : ix_nx mCh_findLeader 60 = some (0, .ldc2_w 80, 63, none, [6], -1) := rfl
theorem i_Ch_findLeader_63 : ix_nx mCh_findLeader 63 = some (0, .lxor, 64, none, [], 0) := rfl
theorem i_Ch_findLeader_64 : ix_nx mCh_findLeader 64 = some (0, .land, 65, none, [], 0) := rfl
theorem i_Ch_findLeader_65 : ix_nx mCh_findLeader 65 = some (0, .lstore 7, 67, none, [], 0) := rfl
theorem i_Ch_findLeader_67 : ix_nx mCh_findLeader 67 = some (0, .lload 7, 69, none, [], 0) := rfl
theorem i_Ch_findLeader_69 : ix_nx mCh_findLeader 69 = some (0, .aload_n 0, 70, none, [], 0) := rfl
theorem i_Ch_findLeader_70 : ix_nx mCh_findLeader 70 = some (1, .getfield 32, 73, none, [8, 6, 1, 70], 0) := rfl
theorem i_Ch_findLeader_73 : ix_nx mCh_findLeader 73 = some (0, .land, 74, none, [], 0) := rfl
theorem i_Ch_findLeader_74 : ix_nx mCh_findLeader 74 = some (0, .lconst 0, 75, none, [], 0) := rfl
theorem i_Ch_findLeader_75 : ix_nx mCh_findLeader 75 = some (0, .lcmp, 76, none, [], 0) := rfl
theorem i_Ch_findLeader_76 : ix_nx mCh_findLeader 76 = some (0, .ifCond .eq 21, 79, none, [], 0) := rfl
theorem i_Ch_findLeader_79 : ix_nx mCh_findLeader 79 = some (0, .aload_n 0, 80, none, [], 0) := rfl
theorem i_Ch_findLeader_80 : ix_nx mCh_findLeader 80 = some (0, .lload 7, 82, none, [], 0) := rfl
theorem i_Ch_findLeader_82 : ix_nx mCh_findLeader 82 = some (0, .aload_n 0, 83, none, [], 0) := rfl
theorem i_Ch_findLeader_83 : ix_nx mCh_findLeader 83 = some (1, .getfield 32, 86, none, [8, 6, 1, 70], 0) := rfl
theorem i_Ch_findLeader_86 : ix_nx mCh_findLeader 86 = some (0, .land, 87, none, [], 0) := rfl
theorem i_Ch_findLeader_87 : ix_nx mCh_findLeader 87 = some (3, .invokestatic 82, 90, none, [3, 16, 140], 0) := rfl
theorem i_Ch_findLeader_90 : ix_nx mCh_findLeader 90 = some (0, .iload 6, 92, none, [], 0) := rfl
theorem i_Ch_findLeader_92 : ix_nx mCh_findLeader 92 = some (3, .invokevirtual 85, 95, none, [0, 122, 141], 0) := rfl
theorem i_Ch_findLeader_95 : ix_nx mCh_findLeader 95 = some (0, .iconst 1, 96, none, [], 0) := rfl
theorem i_Ch_findLeader_96 : ix_nx mCh_findLeader 96 = some (4, .ireturn, 97, none, [], 0) := rfl
theorem i_Ch_findLeader_97 : ix_nx mCh_findLeader 97 = some (0, .lload_n 2, 98, none, [], 0) := rfl
theorem i_Ch_findLeader_98 : ix_nx mCh_findLeader 98 = some (0, .lload 7, 100, none, [], 0) := rfl
theorem i_Ch_findLeader_100 : ix_nx mCh_findLeader 100 = some (0, .lor, 101, none, [], 0) := rfl
theorem i_Ch_findLeader_101 : ix_nx mCh_findLeader 101 = some (0, .lstore_n 2, 102, none, [], 0) := rfl
theorem i_Ch_findLeader_102 : ix_nx mCh_findLeader 102 = some (0, .aload_n 0, 103, none, [], 0) := rfl
theorem i_Ch_findLeader_103 : ix_nx mCh_findLeader 103 = some (0, .lload 7, 105, none, [], 0) := rfl
theorem i_Ch_findLeader_105 : ix_nx mCh_findLeader 105 = some (0, .iload 6, 107, none, [], 0) := rfl
theorem i_Ch_findLeader_107 : ix_nx mCh_findLeader 107 = some (0, .iload 4, 109, none, [], 0) := rfl
theorem i_Ch_findLeader_109 : ix_nx mCh_findLeader 109 = some (3, .invokevirtual 89, 112, none, [0, 125, 142], 0) := rfl
theorem i_Ch_findLeader_112 : ix_nx mCh_findLeader 112 = some (0, .istore 4, 114, none, [], 0) := rfl
theorem i_Ch_findLeader_114 : ix_nx mCh_findLeader 114 = some (0, .iinc 5 1, 117, none, [], 0) := rfl
theorem i_Ch_findLeader_117 : ix_nx mCh_findLeader 117 = some (0, .goto (-102), 120, none, [], 0) := rfl
theorem i_Ch_findLeader_120 : ix_nx mCh_findLeader 120 = some (0, .iconst 0, 121, none, [], 0) := rfl
theorem i_Ch_findLeader_121 : ix_nx mCh_findLeader 121 = some (4, .ireturn, 122, none, [], 0) := rfl
noncomputable def l_Ch_findLeader_15 (a0 : Nat) (x2 : Int64) (x4 : Int32) (x5 : Int32) (h : ixH) : Option (List Value × ixH) := ix_D mCh_findLeader 15 [some (.ref a0), none, some (.long x2), none, some (.int x4), some (.int x5), none, none, none] [] h
set_option maxRecDepth 20000 in
set_option maxHeartbeats 1000000 in
theorem e_Ch_findLeader_15 (a0 : Nat) (x2 : Int64) (x4 : Int32) (x5 : Int32) (h : ixH) : l_Ch_findLeader_15 a0 x2 x4 x5 h = if x4 ≤ x5 then some ([.int (ix_bi false)], h) else if 64 ≤ x5 then some ([.int (ix_bi false)], h) else (ix_gr h a0 8 3).bind fun v1 => (ix_ai h v1 x5).bind fun v2 => (ix_M mCh_aheadOf [.ref a0, .int v2] h).bind fun r => ix_kL r fun v4 h3 => (ix_M mRP_bit [.int v2] h3).bind fun r => ix_kL r fun v6 h5 => (ix_gl h5 a0 8 5).bind fun v7 => (ix_gl h5 a0 8 6).bind fun v8 => if ((((v4 &&& (v6 ^^^ (-1))) &&& v7) &&& (x2 ^^^ (-1))) &&& v8) = 0 then (ix_M mCh_enqueueFollowers [.ref a0, .long (((v4 &&& (v6 ^^^ (-1))) &&& v7) &&& (x2 ^^^ (-1))), .int v2, .int x4] h5).bind fun r => ix_kI r fun v10 h9 => l_Ch_findLeader_15 a0 (x2 ||| (((v4 &&& (v6 ^^^ (-1))) &&& v7) &&& (x2 ^^^ (-1)))) v10 (x5 + 1) h9 else (ix_gl h5 a0 8 6).bind fun v11 => (ix_M mRP_lowest [.long ((((v4 &&& (v6 ^^^ (-1))) &&& v7) &&& (x2 ^^^ (-1))) &&& v11)] h5).bind fun r => ix_kI r fun v13 h12 => (ix_M mCh_relink [.ref a0, .int v13, .int v2] h12).bind fun r => ix_kV r fun h14 => some ([.int (ix_bi true)], h14) := by
  unfold l_Ch_findLeader_15
  refine ix_K_px kq_Ch_findLeader i_Ch_findLeader_15 rfl rfl ?_
  refine ix_K_px kq_Ch_findLeader i_Ch_findLeader_17 rfl rfl ?_
  refine ix_K_ic_ge (tgt := 120) kq_Ch_findLeader i_Ch_findLeader_19 rfl (by decide) ?_ ?_
  · refine ix_K_ci kq_Ch_findLeader i_Ch_findLeader_120 rfl kci_0 ?_
    exact ix_D_ret kq_Ch_findLeader i_Ch_findLeader_121 (ix_rtZ rfl false)
  · refine ix_K_px kq_Ch_findLeader i_Ch_findLeader_22 rfl rfl ?_
    refine ix_K_cb kq_Ch_findLeader i_Ch_findLeader_24 rfl kcb_64 ?_
    refine ix_K_ic_ge (tgt := 120) kq_Ch_findLeader i_Ch_findLeader_26 rfl (by decide) ?_ ?_
    · refine ix_K_ci kq_Ch_findLeader i_Ch_findLeader_120 rfl kci_0 ?_
      exact ix_D_ret kq_Ch_findLeader i_Ch_findLeader_121 (ix_rtZ rfl false)
    · refine ix_K_px kq_Ch_findLeader i_Ch_findLeader_29 rfl rfl ?_
      refine ix_K_gr kq_Ch_findLeader i_Ch_findLeader_30 rfl (fun v1 => ?_)
      refine ix_K_px kq_Ch_findLeader i_Ch_findLeader_33 rfl rfl ?_
      refine ix_K_ai kq_Ch_findLeader i_Ch_findLeader_35 rfl (fun v2 => ?_)
      refine ix_K_si (L2 := [some (.ref a0), none, some (.long x2), none, some (.int x4), some (.int x5), some (.int v2), none, none]) kq_Ch_findLeader i_Ch_findLeader_36 rfl (Or.inl rfl) (Nat.le_of_ble_eq_true rfl) rfl ?_
      refine ix_K_px kq_Ch_findLeader i_Ch_findLeader_38 rfl rfl ?_
      refine ix_K_px kq_Ch_findLeader i_Ch_findLeader_39 rfl rfl ?_
      refine ix_K_callL (as := [.ref a0, .int v2]) (rest := []) kq_Ch_findLeader i_Ch_findLeader_41 rfl kq_Ch_aheadOf (by decide) rfl rfl (fun v4 h3 => ?_)
      refine ix_K_px kq_Ch_findLeader i_Ch_findLeader_44 rfl rfl ?_
      refine ix_K_callL (as := [.int v2]) (rest := [.long v4]) kq_Ch_findLeader i_Ch_findLeader_46 rfl kq_RP_bit (by decide) rfl rfl (fun v6 h5 => ?_)
      refine ix_K_c2 kq_Ch_findLeader i_Ch_findLeader_49 rfl kc2_m1 ?_
      refine ix_K_px kq_Ch_findLeader i_Ch_findLeader_52 rfl rfl ?_
      refine ix_K_px kq_Ch_findLeader i_Ch_findLeader_53 rfl rfl ?_
      refine ix_K_px kq_Ch_findLeader i_Ch_findLeader_54 rfl rfl ?_
      refine ix_K_gl kq_Ch_findLeader i_Ch_findLeader_55 rfl (fun v7 => ?_)
      refine ix_K_px kq_Ch_findLeader i_Ch_findLeader_58 rfl rfl ?_
      refine ix_K_px kq_Ch_findLeader i_Ch_findLeader_59 rfl rfl ?_
      refine ix_K_c2 kq_Ch_findLeader i_Ch_findLeader_60 rfl kc2_m1 ?_
      refine ix_K_px kq_Ch_findLeader i_Ch_findLeader_63 rfl rfl ?_
      refine ix_K_px kq_Ch_findLeader i_Ch_findLeader_64 rfl rfl ?_
      refine ix_K_sl (L2 := [some (.ref a0), none, some (.long x2), none, some (.int x4), some (.int x5), some (.int v2), some (.long (((v4 &&& (v6 ^^^ (-1))) &&& v7) &&& (x2 ^^^ (-1)))), none]) kq_Ch_findLeader i_Ch_findLeader_65 rfl (Or.inl rfl) (Nat.le_of_ble_eq_true rfl) rfl ?_
      refine ix_K_px kq_Ch_findLeader i_Ch_findLeader_67 rfl rfl ?_
      refine ix_K_px kq_Ch_findLeader i_Ch_findLeader_69 rfl rfl ?_
      refine ix_K_gl kq_Ch_findLeader i_Ch_findLeader_70 rfl (fun v8 => ?_)
      refine ix_K_px kq_Ch_findLeader i_Ch_findLeader_73 rfl rfl ?_
      refine ix_K_cl kq_Ch_findLeader i_Ch_findLeader_74 rfl kcl_0 ?_
      refine ix_K_px kq_Ch_findLeader i_Ch_findLeader_75 rfl rfl ?_
      refine ix_K_lc_eq (tgt := 97) kq_Ch_findLeader i_Ch_findLeader_76 rfl (by decide) ?_ ?_
      · refine ix_K_px kq_Ch_findLeader i_Ch_findLeader_97 rfl rfl ?_
        refine ix_K_px kq_Ch_findLeader i_Ch_findLeader_98 rfl rfl ?_
        refine ix_K_px kq_Ch_findLeader i_Ch_findLeader_100 rfl rfl ?_
        refine ix_K_sl (L2 := [some (.ref a0), none, some (.long (x2 ||| (((v4 &&& (v6 ^^^ (-1))) &&& v7) &&& (x2 ^^^ (-1))))), none, some (.int x4), some (.int x5), some (.int v2), some (.long (((v4 &&& (v6 ^^^ (-1))) &&& v7) &&& (x2 ^^^ (-1)))), none]) kq_Ch_findLeader i_Ch_findLeader_101 rfl (Or.inr ⟨_, rfl, rfl⟩) (Nat.le_of_ble_eq_true rfl) rfl ?_
        refine ix_K_px kq_Ch_findLeader i_Ch_findLeader_102 rfl rfl ?_
        refine ix_K_px kq_Ch_findLeader i_Ch_findLeader_103 rfl rfl ?_
        refine ix_K_px kq_Ch_findLeader i_Ch_findLeader_105 rfl rfl ?_
        refine ix_K_px kq_Ch_findLeader i_Ch_findLeader_107 rfl rfl ?_
        refine ix_K_callI (as := [.ref a0, .long (((v4 &&& (v6 ^^^ (-1))) &&& v7) &&& (x2 ^^^ (-1))), .int v2, .int x4]) (rest := []) kq_Ch_findLeader i_Ch_findLeader_109 rfl kq_Ch_enqueueFollowers (by decide) rfl (Or.inl rfl) (fun v10 h9 => ?_)
        refine ix_K_si (L2 := [some (.ref a0), none, some (.long (x2 ||| (((v4 &&& (v6 ^^^ (-1))) &&& v7) &&& (x2 ^^^ (-1))))), none, some (.int v10), some (.int x5), some (.int v2), some (.long (((v4 &&& (v6 ^^^ (-1))) &&& v7) &&& (x2 ^^^ (-1)))), none]) kq_Ch_findLeader i_Ch_findLeader_112 rfl (Or.inl rfl) (Nat.le_of_ble_eq_true rfl) rfl ?_
        refine ix_K_inc (L2 := [some (.ref a0), none, some (.long (x2 ||| (((v4 &&& (v6 ^^^ (-1))) &&& v7) &&& (x2 ^^^ (-1))))), none, some (.int v10), some (.int (x5 + 1)), some (.int v2), some (.long (((v4 &&& (v6 ^^^ (-1))) &&& v7) &&& (x2 ^^^ (-1)))), none]) kq_Ch_findLeader i_Ch_findLeader_114 rfl rfl (Nat.le_of_ble_eq_true rfl) kci_1 rfl ?_
        refine ix_K_goto (tgt := 15) kq_Ch_findLeader i_Ch_findLeader_117 rfl (by decide) ?_
        exact ix_D_cut i_Ch_findLeader_15 rfl
      · refine ix_K_px kq_Ch_findLeader i_Ch_findLeader_79 rfl rfl ?_
        refine ix_K_px kq_Ch_findLeader i_Ch_findLeader_80 rfl rfl ?_
        refine ix_K_px kq_Ch_findLeader i_Ch_findLeader_82 rfl rfl ?_
        refine ix_K_gl kq_Ch_findLeader i_Ch_findLeader_83 rfl (fun v11 => ?_)
        refine ix_K_px kq_Ch_findLeader i_Ch_findLeader_86 rfl rfl ?_
        refine ix_K_callI (as := [.long ((((v4 &&& (v6 ^^^ (-1))) &&& v7) &&& (x2 ^^^ (-1))) &&& v11)]) (rest := [.ref a0]) kq_Ch_findLeader i_Ch_findLeader_87 rfl kq_RP_lowest (by decide) rfl (Or.inl rfl) (fun v13 h12 => ?_)
        refine ix_K_px kq_Ch_findLeader i_Ch_findLeader_90 rfl rfl ?_
        refine ix_K_callV (as := [.ref a0, .int v13, .int v2]) (rest := []) kq_Ch_findLeader i_Ch_findLeader_92 rfl kq_Ch_relink (by decide) rfl rfl (fun h14 => ?_)
        refine ix_K_ci kq_Ch_findLeader i_Ch_findLeader_95 rfl kci_1 ?_
        exact ix_D_ret kq_Ch_findLeader i_Ch_findLeader_96 (ix_rtZ rfl true)
set_option maxRecDepth 20000 in
set_option maxHeartbeats 1000000 in
theorem e_Ch_findLeader (a0 : Nat) (x1 : Int32) (h : ixH) : ix_D mCh_findLeader 0 [some (.ref a0), some (.int x1), none, none, none, none, none, none, none] [] h = (ix_gr h a0 8 3).bind fun v1 => (ix_si h v1 0 x1).bind fun h2 => l_Ch_findLeader_15 a0 0 1 0 h2 := by
  refine ix_K_cl kq_Ch_findLeader i_Ch_findLeader_0 rfl kcl_0 ?_
  refine ix_K_sl (L2 := [some (.ref a0), some (.int x1), some (.long 0), none, none, none, none, none, none]) kq_Ch_findLeader i_Ch_findLeader_1 rfl (Or.inr ⟨_, rfl, rfl⟩) (Nat.le_of_ble_eq_true rfl) rfl ?_
  refine ix_K_ci kq_Ch_findLeader i_Ch_findLeader_2 rfl kci_1 ?_
  refine ix_K_si (L2 := [some (.ref a0), some (.int x1), some (.long 0), none, some (.int 1), none, none, none, none]) kq_Ch_findLeader i_Ch_findLeader_3 rfl (Or.inl rfl) (Nat.le_of_ble_eq_true rfl) rfl ?_
  refine ix_K_px kq_Ch_findLeader i_Ch_findLeader_5 rfl rfl ?_
  refine ix_K_gr kq_Ch_findLeader i_Ch_findLeader_6 rfl (fun v1 => ?_)
  refine ix_K_ci kq_Ch_findLeader i_Ch_findLeader_9 rfl kci_0 ?_
  refine ix_K_px kq_Ch_findLeader i_Ch_findLeader_10 rfl rfl ?_
  refine ix_K_ti kq_Ch_findLeader i_Ch_findLeader_11 rfl (fun h2 => ?_)
  refine ix_K_ci kq_Ch_findLeader i_Ch_findLeader_12 rfl kci_0 ?_
  refine ix_K_si (L2 := [some (.ref a0), some (.int x1), some (.long 0), none, some (.int 1), some (.int 0), none, none, none]) kq_Ch_findLeader i_Ch_findLeader_13 rfl (Or.inl rfl) (Nat.le_of_ble_eq_true rfl) rfl ?_
  exact ix_D_cut i_Ch_findLeader_15 rfl
theorem x_Ch_findLeader {a0 : Nat} {x1 : Int32} {h h1 : ixH} {v : Bool} (hr : ix_rc h a0 = some 8) (hd : ix_D mCh_findLeader 0 [some (.ref a0), some (.int x1), none, none, none, none, none, none, none] [] h = some ([.int (ix_bi v)], h1)) : ix_M mCh_findLeader [.ref a0, .int x1] h = some ([.int (ix_bi v)], h1) := ix_M_of (ix_ent_i kq_Ch_findLeader rfl hr rfl (Nat.le_of_ble_eq_true rfl) rfl) hd (ix_okrZ rfl v)
theorem i_Ch_relink_0 : ix_nx mCh_relink 0 = some (0, .aload_n 0, 1, none, [], 0) := rfl
theorem i_Ch_relink_1 : ix_nx mCh_relink 1 = some (0, .dup, 2, none, [], 0) := rfl
theorem i_Ch_relink_2 : ix_nx mCh_relink 2 = some (1, .getfield 32, 5, none, [8, 6, 1, 70], 0) := rfl
theorem i_Ch_relink_5 : ix_nx mCh_relink 5 = some (0, .iload_n 1, 6, none, [], 0) := rfl
theorem i_Ch_relink_6 : ix_nx mCh_relink 6 = some (3, .invokestatic 66, 9, none, [3, 1, 138], 0) := rfl
theorem i_Ch_relink_9 : ix_nx mCh_relink 9 = some (0, .ldc2_w 80, 12, none, [6], -1) := rfl
theorem i_Ch_relink_12 : ix_nx mCh_relink 12 = some (0, .lxor, 13, none, [], 0) := rfl
theorem i_Ch_relink_13 : ix_nx mCh_relink 13 = some (0, .land, 14, none, [], 0) := rfl
theorem i_Ch_relink_14 : ix_nx mCh_relink 14 = some (2, .putfield 32, 17, none, [8, 6, 1, 70], 0) := rfl
theorem i_Ch_relink_17 : ix_nx mCh_relink 17 = some (0, .iload_n 1, 18, none, [], 0) := rfl
theorem i_Ch_relink_18 : ix_nx mCh_relink 18 = some (0, .istore_n 3, 19, none, [], 0) := rfl
theorem i_Ch_relink_19 : ix_nx mCh_relink 19 = some (0, .iload_n 2, 20, none, [], 0) := rfl
theorem i_Ch_relink_20 : ix_nx mCh_relink 20 = some (0, .istore 4, 22, none, [], 0) := rfl
theorem i_Ch_relink_22 : ix_nx mCh_relink 22 = some (0, .iconst 0, 23, none, [], 0) := rfl
theorem i_Ch_relink_23 : ix_nx mCh_relink 23 = some (0, .istore 5, 25, none, [], 0) := rfl
theorem i_Ch_relink_25 : ix_nx mCh_relink 25 = some (0, .iload 5, 27, some [true, false, false, true, true, true, false], [], 0) := rfl
theorem i_Ch_relink_27 : ix_nx mCh_relink 27 = some (0, .bipush 64, 29, none, [], 0) := rfl
theorem i_Ch_relink_29 : ix_nx mCh_relink 29 = some (0, .if_icmp .ge 49, 32, none, [], 0) := rfl
theorem i_Ch_relink_32 : ix_nx mCh_relink 32 = some (0, .aload_n 0, 33, none, [], 0) := rfl
theorem i_Ch_relink_33 : ix_nx mCh_relink 33 = some (1, .getfield 15, 36, none, [8, 1, 2, 65], 0) := rfl
theorem i_Ch_relink_36 : ix_nx mCh_relink 36 = some (0, .iload 4, 38, none, [], 0) := rfl
theorem i_Ch_relink_38 : ix_nx mCh_relink 38 = some (3, .invokestatic 93, 41, none, [1, 123, 143], 0) := rfl
theorem i_Ch_relink_41 : ix_nx mCh_relink 41 = some (0, .istore 6, 43, none, [], 0) := rfl
theorem i_Ch_relink_43 : ix_nx mCh_relink 43 = some (0, .aload_n 0, 44, none, [], 0) := rfl
theorem i_Ch_relink_44 : ix_nx mCh_relink 44 = some (0, .iload_n 3, 45, none, [], 0) := rfl
theorem i_Ch_relink_45 : ix_nx mCh_relink 45 = some (0, .iload 4, 47, none, [], 0) := rfl
theorem i_Ch_relink_47 : ix_nx mCh_relink 47 = some (3, .invokevirtual 97, 50, none, [0, 124, 144], 0) := rfl
theorem i_Ch_relink_50 : ix_nx mCh_relink 50 = some (0, .iload 6, 52, none, [], 0) := rfl
theorem i_Ch_relink_52 : ix_nx mCh_relink 52 = some (0, .bipush (-6), 54, none, [], 0) := rfl
theorem i_Ch_relink_54 : ix_nx mCh_relink 54 = some (0, .if_icmp .ne 4, 57, none, [], 0) := rfl
theorem i_Ch_relink_57 : ix_nx mCh_relink 57 = some (4, .return_, 58, none, [], 0) := rfl
theorem i_Ch_relink_58 : ix_nx mCh_relink 58 = some (0, .iload 6, 60, none, [], 0) := rfl
theorem i_Ch_relink_60 : ix_nx mCh_relink 60 = some (0, .istore_n 3, 61, none, [], 0) := rfl
theorem i_Ch_relink_61 : ix_nx mCh_relink 61 = some (0, .aload_n 0, 62, none, [], 0) := rfl
theorem i_Ch_relink_62 : ix_nx mCh_relink 62 = some (1, .getfield 25, 65, none, [8, 4, 2, 68], 0) := rfl
theorem i_Ch_relink_65 : ix_nx mCh_relink 65 = some (0, .iload 6, 67, none, [], 0) := rfl
theorem i_Ch_relink_67 : ix_nx mCh_relink 67 = some (3, .invokestatic 93, 70, none, [1, 123, 143], 0) := rfl
theorem i_Ch_relink_70 : ix_nx mCh_relink 70 = some (0, .istore 4, 72, none, [], 0) := rfl
theorem i_Ch_relink_72 : ix_nx mCh_relink 72 = some (0, .iinc 5 1, 75, none, [], 0) := rfl
theorem i_Ch_relink_75 : ix_nx mCh_relink 75 = some (0, .goto (-50), 78, none, [], 0) := rfl
theorem i_Ch_relink_78 : ix_nx mCh_relink 78 = some (4, .return_, 79, none, [], 0) := rfl
noncomputable def l_Ch_relink_25 (a0 : Nat) (x3 : Int32) (x4 : Int32) (x5 : Int32) (h : ixH) : Option (List Value × ixH) := ix_D mCh_relink 25 [some (.ref a0), none, none, some (.int x3), some (.int x4), some (.int x5), none] [] h
set_option maxRecDepth 20000 in
set_option maxHeartbeats 1000000 in
theorem e_Ch_relink_25 (a0 : Nat) (x3 : Int32) (x4 : Int32) (x5 : Int32) (h : ixH) : l_Ch_relink_25 a0 x3 x4 x5 h = if 64 ≤ x5 then some ([], h) else (ix_gr h a0 8 1).bind fun v1 => (ix_M mCh_linkIn [.ref v1, .int x4] h).bind fun r => ix_kI r fun v3 h2 => (ix_M mCh_link [.ref a0, .int x3, .int x4] h2).bind fun r => ix_kV r fun h4 => if ¬ v3 = (-6) then (ix_gr h4 a0 8 4).bind fun v5 => (ix_M mCh_linkIn [.ref v5, .int v3] h4).bind fun r => ix_kI r fun v7 h6 => l_Ch_relink_25 a0 v3 v7 (x5 + 1) h6 else some ([], h4) := by
  unfold l_Ch_relink_25
  refine ix_K_px kq_Ch_relink i_Ch_relink_25 rfl rfl ?_
  refine ix_K_cb kq_Ch_relink i_Ch_relink_27 rfl kcb_64 ?_
  refine ix_K_ic_ge (tgt := 78) kq_Ch_relink i_Ch_relink_29 rfl (by decide) ?_ ?_
  · exact ix_D_ret kq_Ch_relink i_Ch_relink_78 (ix_rtV rfl)
  · refine ix_K_px kq_Ch_relink i_Ch_relink_32 rfl rfl ?_
    refine ix_K_gr kq_Ch_relink i_Ch_relink_33 rfl (fun v1 => ?_)
    refine ix_K_px kq_Ch_relink i_Ch_relink_36 rfl rfl ?_
    refine ix_K_callI (as := [.ref v1, .int x4]) (rest := []) kq_Ch_relink i_Ch_relink_38 rfl kq_Ch_linkIn (by decide) rfl (Or.inl rfl) (fun v3 h2 => ?_)
    refine ix_K_si (L2 := [some (.ref a0), none, none, some (.int x3), some (.int x4), some (.int x5), some (.int v3)]) kq_Ch_relink i_Ch_relink_41 rfl (Or.inl rfl) (Nat.le_of_ble_eq_true rfl) rfl ?_
    refine ix_K_px kq_Ch_relink i_Ch_relink_43 rfl rfl ?_
    refine ix_K_px kq_Ch_relink i_Ch_relink_44 rfl rfl ?_
    refine ix_K_px kq_Ch_relink i_Ch_relink_45 rfl rfl ?_
    refine ix_K_callV (as := [.ref a0, .int x3, .int x4]) (rest := []) kq_Ch_relink i_Ch_relink_47 rfl kq_Ch_link (by decide) rfl rfl (fun h4 => ?_)
    refine ix_K_px kq_Ch_relink i_Ch_relink_50 rfl rfl ?_
    refine ix_K_cb kq_Ch_relink i_Ch_relink_52 rfl kcb_m6 ?_
    refine ix_K_ic_ne (tgt := 58) kq_Ch_relink i_Ch_relink_54 rfl (by decide) ?_ ?_
    · refine ix_K_px kq_Ch_relink i_Ch_relink_58 rfl rfl ?_
      refine ix_K_si (L2 := [some (.ref a0), none, none, some (.int v3), some (.int x4), some (.int x5), some (.int v3)]) kq_Ch_relink i_Ch_relink_60 rfl (Or.inr ⟨_, rfl, rfl⟩) (Nat.le_of_ble_eq_true rfl) rfl ?_
      refine ix_K_px kq_Ch_relink i_Ch_relink_61 rfl rfl ?_
      refine ix_K_gr kq_Ch_relink i_Ch_relink_62 rfl (fun v5 => ?_)
      refine ix_K_px kq_Ch_relink i_Ch_relink_65 rfl rfl ?_
      refine ix_K_callI (as := [.ref v5, .int v3]) (rest := []) kq_Ch_relink i_Ch_relink_67 rfl kq_Ch_linkIn (by decide) rfl (Or.inl rfl) (fun v7 h6 => ?_)
      refine ix_K_si (L2 := [some (.ref a0), none, none, some (.int v3), some (.int v7), some (.int x5), some (.int v3)]) kq_Ch_relink i_Ch_relink_70 rfl (Or.inl rfl) (Nat.le_of_ble_eq_true rfl) rfl ?_
      refine ix_K_inc (L2 := [some (.ref a0), none, none, some (.int v3), some (.int v7), some (.int (x5 + 1)), some (.int v3)]) kq_Ch_relink i_Ch_relink_72 rfl rfl (Nat.le_of_ble_eq_true rfl) kci_1 rfl ?_
      refine ix_K_goto (tgt := 25) kq_Ch_relink i_Ch_relink_75 rfl (by decide) ?_
      exact ix_D_cut i_Ch_relink_25 rfl
    · exact ix_D_ret kq_Ch_relink i_Ch_relink_57 (ix_rtV rfl)
set_option maxRecDepth 20000 in
set_option maxHeartbeats 1000000 in
theorem e_Ch_relink (a0 : Nat) (x1 : Int32) (x2 : Int32) (h : ixH) : ix_D mCh_relink 0 [some (.ref a0), some (.int x1), some (.int x2), none, none, none, none] [] h = (ix_gl h a0 8 6).bind fun v1 => (ix_M mRP_bit [.int x1] h).bind fun r => ix_kL r fun v3 h2 => (ix_pf h2 a0 8 6 (.long (v1 &&& (v3 ^^^ (-1))))).bind fun h4 => l_Ch_relink_25 a0 x1 x2 0 h4 := by
  refine ix_K_px kq_Ch_relink i_Ch_relink_0 rfl rfl ?_
  refine ix_K_px kq_Ch_relink i_Ch_relink_1 rfl rfl ?_
  refine ix_K_gl kq_Ch_relink i_Ch_relink_2 rfl (fun v1 => ?_)
  refine ix_K_px kq_Ch_relink i_Ch_relink_5 rfl rfl ?_
  refine ix_K_callL (as := [.int x1]) (rest := [.long v1, .ref a0]) kq_Ch_relink i_Ch_relink_6 rfl kq_RP_bit (by decide) rfl rfl (fun v3 h2 => ?_)
  refine ix_K_c2 kq_Ch_relink i_Ch_relink_9 rfl kc2_m1 ?_
  refine ix_K_px kq_Ch_relink i_Ch_relink_12 rfl rfl ?_
  refine ix_K_px kq_Ch_relink i_Ch_relink_13 rfl rfl ?_
  refine ix_K_pf kq_Ch_relink i_Ch_relink_14 rfl rfl (fun h4 => ?_)
  refine ix_K_px kq_Ch_relink i_Ch_relink_17 rfl rfl ?_
  refine ix_K_si (L2 := [some (.ref a0), some (.int x1), some (.int x2), some (.int x1), none, none, none]) kq_Ch_relink i_Ch_relink_18 rfl (Or.inr ⟨_, rfl, rfl⟩) (Nat.le_of_ble_eq_true rfl) rfl ?_
  refine ix_K_px kq_Ch_relink i_Ch_relink_19 rfl rfl ?_
  refine ix_K_si (L2 := [some (.ref a0), some (.int x1), some (.int x2), some (.int x1), some (.int x2), none, none]) kq_Ch_relink i_Ch_relink_20 rfl (Or.inl rfl) (Nat.le_of_ble_eq_true rfl) rfl ?_
  refine ix_K_ci kq_Ch_relink i_Ch_relink_22 rfl kci_0 ?_
  refine ix_K_si (L2 := [some (.ref a0), some (.int x1), some (.int x2), some (.int x1), some (.int x2), some (.int 0), none]) kq_Ch_relink i_Ch_relink_23 rfl (Or.inl rfl) (Nat.le_of_ble_eq_true rfl) rfl ?_
  exact ix_D_cut i_Ch_relink_25 rfl
theorem x_Ch_relink {a0 : Nat} {x1 : Int32} {x2 : Int32} {h h1 : ixH} (hr : ix_rc h a0 = some 8) (hd : ix_D mCh_relink 0 [some (.ref a0), some (.int x1), some (.int x2), none, none, none, none] [] h = some ([], h1)) : ix_M mCh_relink [.ref a0, .int x1, .int x2] h = some ([], h1) := ix_M_of (ix_ent_i kq_Ch_relink rfl hr rfl (Nat.le_of_ble_eq_true rfl) rfl) hd (ix_okrV rfl)
theorem i_Ch_linkIn_0 : ix_nx mCh_linkIn 0 = some (0, .iload_n 1, 1, none, [], 0) := rfl
theorem i_Ch_linkIn_1 : ix_nx mCh_linkIn 1 = some (0, .ifCond .lt 15, 4, none, [], 0) := rfl
theorem i_Ch_linkIn_4 : ix_nx mCh_linkIn 4 = some (0, .iload_n 1, 5, none, [], 0) := rfl
theorem i_Ch_linkIn_5 : ix_nx mCh_linkIn 5 = some (0, .aload_n 0, 6, none, [], 0) := rfl
theorem i_Ch_linkIn_6 : ix_nx mCh_linkIn 6 = some (1, .arraylength, 7, none, [], 0) := rfl
theorem i_Ch_linkIn_7 : ix_nx mCh_linkIn 7 = some (0, .if_icmp .ge 9, 10, none, [], 0) := rfl
theorem i_Ch_linkIn_10 : ix_nx mCh_linkIn 10 = some (0, .aload_n 0, 11, none, [], 0) := rfl
theorem i_Ch_linkIn_11 : ix_nx mCh_linkIn 11 = some (0, .iload_n 1, 12, none, [], 0) := rfl
theorem i_Ch_linkIn_12 : ix_nx mCh_linkIn 12 = some (1, .iaload, 13, none, [], 0) := rfl
theorem i_Ch_linkIn_13 : ix_nx mCh_linkIn 13 = some (0, .goto 5, 16, none, [], 0) := rfl
theorem i_Ch_linkIn_16 : ix_nx mCh_linkIn 16 = some (0, .bipush (-6), 18, none, [], 0) := rfl
theorem i_Ch_linkIn_18 : ix_nx mCh_linkIn 18 = some (4, .ireturn, 19, none, [], 0) := rfl
set_option maxRecDepth 20000 in
set_option maxHeartbeats 1000000 in
theorem e_Ch_linkIn (a0 : Nat) (x1 : Int32) (h : ixH) : ix_D mCh_linkIn 0 [some (.ref a0), some (.int x1)] [] h = if x1 < 0 then some ([.int (-6)], h) else (ix_an h a0).bind fun v1 => if (Int32.ofNat v1) ≤ x1 then some ([.int (-6)], h) else (ix_ai h a0 x1).bind fun v2 => some ([.int v2], h) := by
  refine ix_K_px kq_Ch_linkIn i_Ch_linkIn_0 rfl rfl ?_
  refine ix_K_if_lt (tgt := 16) kq_Ch_linkIn i_Ch_linkIn_1 rfl (by decide) ?_ ?_
  · refine ix_K_cb kq_Ch_linkIn i_Ch_linkIn_16 rfl kcb_m6 ?_
    exact ix_D_ret kq_Ch_linkIn i_Ch_linkIn_18 (ix_rtI rfl _)
  · refine ix_K_px kq_Ch_linkIn i_Ch_linkIn_4 rfl rfl ?_
    refine ix_K_px kq_Ch_linkIn i_Ch_linkIn_5 rfl rfl ?_
    refine ix_K_an kq_Ch_linkIn i_Ch_linkIn_6 rfl (fun v1 => ?_)
    refine ix_K_ic_ge (tgt := 16) kq_Ch_linkIn i_Ch_linkIn_7 rfl (by decide) ?_ ?_
    · refine ix_K_cb kq_Ch_linkIn i_Ch_linkIn_16 rfl kcb_m6 ?_
      exact ix_D_ret kq_Ch_linkIn i_Ch_linkIn_18 (ix_rtI rfl _)
    · refine ix_K_px kq_Ch_linkIn i_Ch_linkIn_10 rfl rfl ?_
      refine ix_K_px kq_Ch_linkIn i_Ch_linkIn_11 rfl rfl ?_
      refine ix_K_ai kq_Ch_linkIn i_Ch_linkIn_12 rfl (fun v2 => ?_)
      refine ix_K_goto (tgt := 18) kq_Ch_linkIn i_Ch_linkIn_13 rfl (by decide) ?_
      exact ix_D_ret kq_Ch_linkIn i_Ch_linkIn_18 (ix_rtI rfl _)
theorem x_Ch_linkIn {a0 : Nat} {x1 : Int32} {h h1 : ixH} {v : Int32} (hd : ix_D mCh_linkIn 0 [some (.ref a0), some (.int x1)] [] h = some ([.int v], h1)) : ix_M mCh_linkIn [.ref a0, .int x1] h = some ([.int v], h1) := ix_M_of (ix_ent_s kq_Ch_linkIn rfl rfl (Nat.le_of_ble_eq_true rfl) rfl) hd (ix_okrI (Or.inl rfl) v)
theorem i_Ch_link_0 : ix_nx mCh_link 0 = some (0, .iload_n 1, 1, none, [], 0) := rfl
theorem i_Ch_link_1 : ix_nx mCh_link 1 = some (0, .ifCond .lt 23, 4, none, [], 0) := rfl
theorem i_Ch_link_4 : ix_nx mCh_link 4 = some (0, .iload_n 1, 5, none, [], 0) := rfl
theorem i_Ch_link_5 : ix_nx mCh_link 5 = some (0, .bipush 64, 7, none, [], 0) := rfl
theorem i_Ch_link_7 : ix_nx mCh_link 7 = some (0, .if_icmp .ge 17, 10, none, [], 0) := rfl
theorem i_Ch_link_10 : ix_nx mCh_link 10 = some (0, .iload_n 2, 11, none, [], 0) := rfl
theorem i_Ch_link_11 : ix_nx mCh_link 11 = some (0, .ifCond .lt 13, 14, none, [], 0) := rfl
theorem i_Ch_link_14 : ix_nx mCh_link 14 = some (0, .iload_n 2, 15, none, [], 0) := rfl
theorem i_Ch_link_15 : ix_nx mCh_link 15 = some (0, .bipush 64, 17, none, [], 0) := rfl
theorem i_Ch_link_17 : ix_nx mCh_link 17 = some (0, .if_icmp .ge 7, 20, none, [], 0) := rfl
theorem i_Ch_link_20 : ix_nx mCh_link 20 = some (0, .iconst 1, 21, none, [], 0) := rfl
theorem i_Ch_link_21 : ix_nx mCh_link 21 = some (0, .goto 4, 24, none, [], 0) := rfl
theorem i_Ch_link_24 : ix_nx mCh_link 24 = some (0, .iconst 0, 25, none, [], 0) := rfl
theorem i_Ch_link_25 : ix_nx mCh_link 25 = some (0, .istore_n 3, 26, none, [], 0) := rfl
theorem i_Ch_link_26 : ix_nx mCh_link 26 = some (0, .iload_n 3, 27, none, [], 0) := rfl
theorem i_Ch_link_27 : ix_nx mCh_link 27 = some (0, .ifCond .eq 17, 30, none, [], 0) := rfl
theorem i_Ch_link_30 : ix_nx mCh_link 30 = some (0, .aload_n 0, 31, none, [], 0) := rfl
theorem i_Ch_link_31 : ix_nx mCh_link 31 = some (1, .getfield 19, 34, none, [8, 2, 2, 66], 0) := rfl
theorem i_Ch_link_34 : ix_nx mCh_link 34 = some (0, .iload_n 1, 35, none, [], 0) := rfl
theorem i_Ch_link_35 : ix_nx mCh_link 35 = some (0, .iload_n 2, 36, none, [], 0) := rfl
theorem i_Ch_link_36 : ix_nx mCh_link 36 = some (2, .iastore, 37, none, [], 0) := rfl
theorem i_Ch_link_37 : ix_nx mCh_link 37 = some (0, .aload_n 0, 38, none, [], 0) := rfl
theorem i_Ch_link_38 : ix_nx mCh_link 38 = some (1, .getfield 15, 41, none, [8, 1, 2, 65], 0) := rfl
theorem i_Ch_link_41 : ix_nx mCh_link 41 = some (0, .iload_n 2, 42, none, [], 0) := rfl
theorem i_Ch_link_42 : ix_nx mCh_link 42 = some (0, .iload_n 1, 43, none, [], 0) := rfl
theorem i_Ch_link_43 : ix_nx mCh_link 43 = some (2, .iastore, 44, none, [], 0) := rfl
theorem i_Ch_link_44 : ix_nx mCh_link 44 = some (4, .return_, 45, none, [], 0) := rfl
set_option maxRecDepth 20000 in
set_option maxHeartbeats 1000000 in
theorem e_Ch_link (a0 : Nat) (x1 : Int32) (x2 : Int32) (h : ixH) : ix_D mCh_link 0 [some (.ref a0), some (.int x1), some (.int x2), none] [] h = if x1 < 0 then if (0 : Int32) = 0 then some ([], h) else (ix_gr h a0 8 2).bind fun v1 => (ix_si h v1 x1 x2).bind fun h2 => (ix_gr h2 a0 8 1).bind fun v3 => (ix_si h2 v3 x2 x1).bind fun h4 => some ([], h4) else if 64 ≤ x1 then if (0 : Int32) = 0 then some ([], h) else (ix_gr h a0 8 2).bind fun v5 => (ix_si h v5 x1 x2).bind fun h6 => (ix_gr h6 a0 8 1).bind fun v7 => (ix_si h6 v7 x2 x1).bind fun h8 => some ([], h8) else if x2 < 0 then if (0 : Int32) = 0 then some ([], h) else (ix_gr h a0 8 2).bind fun v9 => (ix_si h v9 x1 x2).bind fun h10 => (ix_gr h10 a0 8 1).bind fun v11 => (ix_si h10 v11 x2 x1).bind fun h12 => some ([], h12) else if 64 ≤ x2 then if (0 : Int32) = 0 then some ([], h) else (ix_gr h a0 8 2).bind fun v13 => (ix_si h v13 x1 x2).bind fun h14 => (ix_gr h14 a0 8 1).bind fun v15 => (ix_si h14 v15 x2 x1).bind fun h16 => some ([], h16) else if (1 : Int32) = 0 then some ([], h) else (ix_gr h a0 8 2).bind fun v17 => (ix_si h v17 x1 x2).bind fun h18 => (ix_gr h18 a0 8 1).bind fun v19 => (ix_si h18 v19 x2 x1).bind fun h20 => some ([], h20) := by
  refine ix_K_px kq_Ch_link i_Ch_link_0 rfl rfl ?_
  refine ix_K_if_lt (tgt := 24) kq_Ch_link i_Ch_link_1 rfl (by decide) ?_ ?_
  · refine ix_K_ci kq_Ch_link i_Ch_link_24 rfl kci_0 ?_
    refine ix_K_si (L2 := [some (.ref a0), some (.int x1), some (.int x2), some (.int 0)]) kq_Ch_link i_Ch_link_25 rfl (Or.inr ⟨_, rfl, rfl⟩) (Nat.le_of_ble_eq_true rfl) rfl ?_
    refine ix_K_px kq_Ch_link i_Ch_link_26 rfl rfl ?_
    refine ix_K_if_eq (tgt := 44) kq_Ch_link i_Ch_link_27 rfl (by decide) ?_ ?_
    · exact ix_D_ret kq_Ch_link i_Ch_link_44 (ix_rtV rfl)
    · refine ix_K_px kq_Ch_link i_Ch_link_30 rfl rfl ?_
      refine ix_K_gr kq_Ch_link i_Ch_link_31 rfl (fun v1 => ?_)
      refine ix_K_px kq_Ch_link i_Ch_link_34 rfl rfl ?_
      refine ix_K_px kq_Ch_link i_Ch_link_35 rfl rfl ?_
      refine ix_K_ti kq_Ch_link i_Ch_link_36 rfl (fun h2 => ?_)
      refine ix_K_px kq_Ch_link i_Ch_link_37 rfl rfl ?_
      refine ix_K_gr kq_Ch_link i_Ch_link_38 rfl (fun v3 => ?_)
      refine ix_K_px kq_Ch_link i_Ch_link_41 rfl rfl ?_
      refine ix_K_px kq_Ch_link i_Ch_link_42 rfl rfl ?_
      refine ix_K_ti kq_Ch_link i_Ch_link_43 rfl (fun h4 => ?_)
      exact ix_D_ret kq_Ch_link i_Ch_link_44 (ix_rtV rfl)
  · refine ix_K_px kq_Ch_link i_Ch_link_4 rfl rfl ?_
    refine ix_K_cb kq_Ch_link i_Ch_link_5 rfl kcb_64 ?_
    refine ix_K_ic_ge (tgt := 24) kq_Ch_link i_Ch_link_7 rfl (by decide) ?_ ?_
    · refine ix_K_ci kq_Ch_link i_Ch_link_24 rfl kci_0 ?_
      refine ix_K_si (L2 := [some (.ref a0), some (.int x1), some (.int x2), some (.int 0)]) kq_Ch_link i_Ch_link_25 rfl (Or.inr ⟨_, rfl, rfl⟩) (Nat.le_of_ble_eq_true rfl) rfl ?_
      refine ix_K_px kq_Ch_link i_Ch_link_26 rfl rfl ?_
      refine ix_K_if_eq (tgt := 44) kq_Ch_link i_Ch_link_27 rfl (by decide) ?_ ?_
      · exact ix_D_ret kq_Ch_link i_Ch_link_44 (ix_rtV rfl)
      · refine ix_K_px kq_Ch_link i_Ch_link_30 rfl rfl ?_
        refine ix_K_gr kq_Ch_link i_Ch_link_31 rfl (fun v5 => ?_)
        refine ix_K_px kq_Ch_link i_Ch_link_34 rfl rfl ?_
        refine ix_K_px kq_Ch_link i_Ch_link_35 rfl rfl ?_
        refine ix_K_ti kq_Ch_link i_Ch_link_36 rfl (fun h6 => ?_)
        refine ix_K_px kq_Ch_link i_Ch_link_37 rfl rfl ?_
        refine ix_K_gr kq_Ch_link i_Ch_link_38 rfl (fun v7 => ?_)
        refine ix_K_px kq_Ch_link i_Ch_link_41 rfl rfl ?_
        refine ix_K_px kq_Ch_link i_Ch_link_42 rfl rfl ?_
        refine ix_K_ti kq_Ch_link i_Ch_link_43 rfl (fun h8 => ?_)
        exact ix_D_ret kq_Ch_link i_Ch_link_44 (ix_rtV rfl)
    · refine ix_K_px kq_Ch_link i_Ch_link_10 rfl rfl ?_
      refine ix_K_if_lt (tgt := 24) kq_Ch_link i_Ch_link_11 rfl (by decide) ?_ ?_
      · refine ix_K_ci kq_Ch_link i_Ch_link_24 rfl kci_0 ?_
        refine ix_K_si (L2 := [some (.ref a0), some (.int x1), some (.int x2), some (.int 0)]) kq_Ch_link i_Ch_link_25 rfl (Or.inr ⟨_, rfl, rfl⟩) (Nat.le_of_ble_eq_true rfl) rfl ?_
        refine ix_K_px kq_Ch_link i_Ch_link_26 rfl rfl ?_
        refine ix_K_if_eq (tgt := 44) kq_Ch_link i_Ch_link_27 rfl (by decide) ?_ ?_
        · exact ix_D_ret kq_Ch_link i_Ch_link_44 (ix_rtV rfl)
        · refine ix_K_px kq_Ch_link i_Ch_link_30 rfl rfl ?_
          refine ix_K_gr kq_Ch_link i_Ch_link_31 rfl (fun v9 => ?_)
          refine ix_K_px kq_Ch_link i_Ch_link_34 rfl rfl ?_
          refine ix_K_px kq_Ch_link i_Ch_link_35 rfl rfl ?_
          refine ix_K_ti kq_Ch_link i_Ch_link_36 rfl (fun h10 => ?_)
          refine ix_K_px kq_Ch_link i_Ch_link_37 rfl rfl ?_
          refine ix_K_gr kq_Ch_link i_Ch_link_38 rfl (fun v11 => ?_)
          refine ix_K_px kq_Ch_link i_Ch_link_41 rfl rfl ?_
          refine ix_K_px kq_Ch_link i_Ch_link_42 rfl rfl ?_
          refine ix_K_ti kq_Ch_link i_Ch_link_43 rfl (fun h12 => ?_)
          exact ix_D_ret kq_Ch_link i_Ch_link_44 (ix_rtV rfl)
      · refine ix_K_px kq_Ch_link i_Ch_link_14 rfl rfl ?_
        refine ix_K_cb kq_Ch_link i_Ch_link_15 rfl kcb_64 ?_
        refine ix_K_ic_ge (tgt := 24) kq_Ch_link i_Ch_link_17 rfl (by decide) ?_ ?_
        · refine ix_K_ci kq_Ch_link i_Ch_link_24 rfl kci_0 ?_
          refine ix_K_si (L2 := [some (.ref a0), some (.int x1), some (.int x2), some (.int 0)]) kq_Ch_link i_Ch_link_25 rfl (Or.inr ⟨_, rfl, rfl⟩) (Nat.le_of_ble_eq_true rfl) rfl ?_
          refine ix_K_px kq_Ch_link i_Ch_link_26 rfl rfl ?_
          refine ix_K_if_eq (tgt := 44) kq_Ch_link i_Ch_link_27 rfl (by decide) ?_ ?_
          · exact ix_D_ret kq_Ch_link i_Ch_link_44 (ix_rtV rfl)
          · refine ix_K_px kq_Ch_link i_Ch_link_30 rfl rfl ?_
            refine ix_K_gr kq_Ch_link i_Ch_link_31 rfl (fun v13 => ?_)
            refine ix_K_px kq_Ch_link i_Ch_link_34 rfl rfl ?_
            refine ix_K_px kq_Ch_link i_Ch_link_35 rfl rfl ?_
            refine ix_K_ti kq_Ch_link i_Ch_link_36 rfl (fun h14 => ?_)
            refine ix_K_px kq_Ch_link i_Ch_link_37 rfl rfl ?_
            refine ix_K_gr kq_Ch_link i_Ch_link_38 rfl (fun v15 => ?_)
            refine ix_K_px kq_Ch_link i_Ch_link_41 rfl rfl ?_
            refine ix_K_px kq_Ch_link i_Ch_link_42 rfl rfl ?_
            refine ix_K_ti kq_Ch_link i_Ch_link_43 rfl (fun h16 => ?_)
            exact ix_D_ret kq_Ch_link i_Ch_link_44 (ix_rtV rfl)
        · refine ix_K_ci kq_Ch_link i_Ch_link_20 rfl kci_1 ?_
          refine ix_K_goto (tgt := 25) kq_Ch_link i_Ch_link_21 rfl (by decide) ?_
          refine ix_K_si (L2 := [some (.ref a0), some (.int x1), some (.int x2), some (.int 1)]) kq_Ch_link i_Ch_link_25 rfl (Or.inr ⟨_, rfl, rfl⟩) (Nat.le_of_ble_eq_true rfl) rfl ?_
          refine ix_K_px kq_Ch_link i_Ch_link_26 rfl rfl ?_
          refine ix_K_if_eq (tgt := 44) kq_Ch_link i_Ch_link_27 rfl (by decide) ?_ ?_
          · exact ix_D_ret kq_Ch_link i_Ch_link_44 (ix_rtV rfl)
          · refine ix_K_px kq_Ch_link i_Ch_link_30 rfl rfl ?_
            refine ix_K_gr kq_Ch_link i_Ch_link_31 rfl (fun v17 => ?_)
            refine ix_K_px kq_Ch_link i_Ch_link_34 rfl rfl ?_
            refine ix_K_px kq_Ch_link i_Ch_link_35 rfl rfl ?_
            refine ix_K_ti kq_Ch_link i_Ch_link_36 rfl (fun h18 => ?_)
            refine ix_K_px kq_Ch_link i_Ch_link_37 rfl rfl ?_
            refine ix_K_gr kq_Ch_link i_Ch_link_38 rfl (fun v19 => ?_)
            refine ix_K_px kq_Ch_link i_Ch_link_41 rfl rfl ?_
            refine ix_K_px kq_Ch_link i_Ch_link_42 rfl rfl ?_
            refine ix_K_ti kq_Ch_link i_Ch_link_43 rfl (fun h20 => ?_)
            exact ix_D_ret kq_Ch_link i_Ch_link_44 (ix_rtV rfl)
theorem x_Ch_link {a0 : Nat} {x1 : Int32} {x2 : Int32} {h h1 : ixH} (hr : ix_rc h a0 = some 8) (hd : ix_D mCh_link 0 [some (.ref a0), some (.int x1), some (.int x2), none] [] h = some ([], h1)) : ix_M mCh_link [.ref a0, .int x1, .int x2] h = some ([], h1) := ix_M_of (ix_ent_i kq_Ch_link rfl hr rfl (Nat.le_of_ble_eq_true rfl) rfl) hd (ix_okrV rfl)
theorem i_Ch_enqueueFollowers_0 : ix_nx mCh_enqueueFollowers 0 = some (0, .iload 4, 2, none, [], 0) := rfl
theorem i_Ch_enqueueFollowers_2 : ix_nx mCh_enqueueFollowers 2 = some (0, .istore 5, 4, none, [], 0) := rfl
theorem i_Ch_enqueueFollowers_4 : ix_nx mCh_enqueueFollowers 4 = some (0, .lload_n 1, 5, none, [], 0) := rfl
theorem i_Ch_enqueueFollowers_5 : ix_nx mCh_enqueueFollowers 5 = some (0, .lstore 6, 7, none, [], 0) := rfl
theorem i_Ch_enqueueFollowers_7 : ix_nx mCh_enqueueFollowers 7 = some (0, .iconst 0, 8, none, [], 0) := rfl
theorem i_Ch_enqueueFollowers_8 : ix_nx mCh_enqueueFollowers 8 = some (0, .istore 8, 10, none, [], 0) := rfl
theorem i_Ch_enqueueFollowers_10 : ix_nx mCh_enqueueFollowers 10 = some (0, .iload 8, 12, some [true, false, false, true, false, true, true, false, true, false], [], 0) := rfl
theorem i_Ch_enqueueFollowers_12 : ix_nx mCh_enqueueFollowers 12 = some (0, .bipush 64, 14, none, [], 0) := rfl
theorem i_Ch_enqueueFollowers_14 : ix_nx mCh_enqueueFollowers 14 = some (0, .if_icmp .ge 83, 17, none, [], 0) := rfl
theorem i_Ch_enqueueFollowers_17 : ix_nx mCh_enqueueFollowers 17 = some (0, .lload 6, 19, none, [], 0) := rfl
theorem i_Ch_enqueueFollowers_19 : ix_nx mCh_enqueueFollowers 19 = some (0, .lconst 0, 20, none, [], 0) := rfl
theorem i_Ch_enqueueFollowers_20 : ix_nx mCh_enqueueFollowers 20 = some (0, .lcmp, 21, none, [], 0) := rfl
theorem i_Ch_enqueueFollowers_21 : ix_nx mCh_enqueueFollowers 21 = some (0, .ifCond .eq 76, 24, none, [], 0) := rfl
theorem i_Ch_enqueueFollowers_24 : ix_nx mCh_enqueueFollowers 24 = some (0, .lload 6, 26, none, [], 0) := rfl
theorem i_Ch_enqueueFollowers_26 : ix_nx mCh_enqueueFollowers 26 = some (3, .invokestatic 82, 29, none, [3, 16, 140], 0) := rfl
theorem i_Ch_enqueueFollowers_29 : ix_nx mCh_enqueueFollowers 29 = some (0, .istore 9, 31, none, [], 0) := rfl
theorem i_Ch_enqueueFollowers_31 : ix_nx mCh_enqueueFollowers 31 = some (0, .lload 6, 33, none, [], 0) := rfl
theorem i_Ch_enqueueFollowers_33 : ix_nx mCh_enqueueFollowers 33 = some (0, .lload 6, 35, none, [], 0) := rfl
theorem i_Ch_enqueueFollowers_35 : ix_nx mCh_enqueueFollowers 35 = some (0, .lconst 1, 36, none, [], 0) := rfl
theorem i_Ch_enqueueFollowers_36 : ix_nx mCh_enqueueFollowers 36 = some (0, .lsub, 37, none, [], 0) := rfl
theorem i_Ch_enqueueFollowers_37 : ix_nx mCh_enqueueFollowers 37 = some (0, .land, 38, none, [], 0) := rfl
theorem i_Ch_enqueueFollowers_38 : ix_nx mCh_enqueueFollowers 38 = some (0, .lstore 6, 40, none, [], 0) := rfl
theorem i_Ch_enqueueFollowers_40 : ix_nx mCh_enqueueFollowers 40 = some (0, .iload 9, 42, none, [], 0) := rfl
theorem i_Ch_enqueueFollowers_42 : ix_nx mCh_enqueueFollowers 42 = some (0, .bipush 64, 44, none, [], 0) := rfl
theorem i_Ch_enqueueFollowers_44 : ix_nx mCh_enqueueFollowers 44 = some (0, .if_icmp .ge 47, 47, none, [], 0) := rfl
theorem i_Ch_enqueueFollowers_47 : ix_nx mCh_enqueueFollowers 47 = some (0, .aload_n 0, 48, none, [], 0) := rfl
theorem i_Ch_enqueueFollowers_48 : ix_nx mCh_enqueueFollowers 48 = some (1, .getfield 19, 51, none, [8, 2, 2, 66], 0) := rfl
theorem i_Ch_enqueueFollowers_51 : ix_nx mCh_enqueueFollowers 51 = some (0, .iload 9, 53, none, [], 0) := rfl
theorem i_Ch_enqueueFollowers_53 : ix_nx mCh_enqueueFollowers 53 = some (1, .iaload, 54, none, [], 0) := rfl
theorem i_Ch_enqueueFollowers_54 : ix_nx mCh_enqueueFollowers 54 = some (0, .bipush (-6), 56, none, [], 0) := rfl
theorem i_Ch_enqueueFollowers_56 : ix_nx mCh_enqueueFollowers 56 = some (0, .if_icmp .eq 35, 59, none, [], 0) := rfl
theorem i_Ch_enqueueFollowers_59 : ix_nx mCh_enqueueFollowers 59 = some (0, .iload 5, 61, none, [], 0) := rfl
theorem i_Ch_enqueueFollowers_61 : ix_nx mCh_enqueueFollowers 61 = some (0, .bipush 64, 63, none, [], 0) := rfl
theorem i_Ch_enqueueFollowers_63 : ix_nx mCh_enqueueFollowers 63 = some (0, .if_icmp .ge 28, 66, none, [], 0) := rfl
theorem i_Ch_enqueueFollowers_66 : ix_nx mCh_enqueueFollowers 66 = some (0, .aload_n 0, 67, none, [], 0) := rfl
theorem i_Ch_enqueueFollowers_67 : ix_nx mCh_enqueueFollowers 67 = some (1, .getfield 25, 70, none, [8, 4, 2, 68], 0) := rfl
theorem i_Ch_enqueueFollowers_70 : ix_nx mCh_enqueueFollowers 70 = some (0, .iload 9, 72, none, [], 0) := rfl
theorem i_Ch_enqueueFollowers_72 : ix_nx mCh_enqueueFollowers 72 = some (0, .iload_n 3, 73, none, [], 0) := rfl
theorem i_Ch_enqueueFollowers_73 : ix_nx mCh_enqueueFollowers 73 = some (2, .iastore, 74, none, [], 0) := rfl
theorem i_Ch_enqueueFollowers_74 : ix_nx mCh_enqueueFollowers 74 = some (0, .aload_n 0, 75, none, [], 0) := rfl
theorem i_Ch_enqueueFollowers_75 : ix_nx mCh_enqueueFollowers 75 = some (1, .getfield 22, 78, none, [8, 3, 2, 67], 0) := rfl
theorem i_Ch_enqueueFollowers_78 : ix_nx mCh_enqueueFollowers 78 = some (0, .iload 5, 80, none, [], 0) := rfl
theorem i_Ch_enqueueFollowers_80 : ix_nx mCh_enqueueFollowers 80 = some (0, .aload_n 0, 81, none, [], 0) := rfl
theorem i_Ch_enqueueFollowers_81 : ix_nx mCh_enqueueFollowers 81 = some (1, .getfield 19, 84, none, [8, 2, 2, 66], 0) := rfl
theorem i_Ch_enqueueFollowers_84 : ix_nx mCh_enqueueFollowers 84 = some (0, .iload 9, 86, none, [], 0) := rfl
theorem i_Ch_enqueueFollowers_86 : ix_nx mCh_enqueueFollowers 86 = some (1, .iaload, 87, none, [], 0) := rfl
theorem i_Ch_enqueueFollowers_87 : ix_nx mCh_enqueueFollowers 87 = some (2, .iastore, 88, none, [], 0) := rfl
theorem i_Ch_enqueueFollowers_88 : ix_nx mCh_enqueueFollowers 88 = some (0, .iinc 5 1, 91, none, [], 0) := rfl
theorem i_Ch_enqueueFollowers_91 : ix_nx mCh_enqueueFollowers 91 = some (0, .iinc 8 1, 94, none, [], 0) := rfl
theorem i_Ch_enqueueFollowers_94 : ix_nx mCh_enqueueFollowers 94 = some (0, .goto (-84), 97, none, [], 0) := rfl
theorem i_Ch_enqueueFollowers_97 : ix_nx mCh_enqueueFollowers 97 = some (0, .iload 5, 99, none, [], 0) := rfl
theorem i_Ch_enqueueFollowers_99 : ix_nx mCh_enqueueFollowers 99 = some (4, .ireturn, 100, none, [], 0) := rfl
noncomputable def l_Ch_enqueueFollowers_10 (a0 : Nat) (x3 : Int32) (x5 : Int32) (x6 : Int64) (x8 : Int32) (h : ixH) : Option (List Value × ixH) := ix_D mCh_enqueueFollowers 10 [some (.ref a0), none, none, some (.int x3), none, some (.int x5), some (.long x6), none, some (.int x8), none] [] h
set_option maxRecDepth 20000 in
set_option maxHeartbeats 1000000 in
theorem e_Ch_enqueueFollowers_10 (a0 : Nat) (x3 : Int32) (x5 : Int32) (x6 : Int64) (x8 : Int32) (h : ixH) : l_Ch_enqueueFollowers_10 a0 x3 x5 x6 x8 h = if 64 ≤ x8 then some ([.int x5], h) else if x6 = 0 then some ([.int x5], h) else (ix_M mRP_lowest [.long x6] h).bind fun r => ix_kI r fun v2 h1 => if 64 ≤ v2 then l_Ch_enqueueFollowers_10 a0 x3 x5 (x6 &&& (x6 - 1)) (x8 + 1) h1 else (ix_gr h1 a0 8 2).bind fun v3 => (ix_ai h1 v3 v2).bind fun v4 => if v4 = (-6) then l_Ch_enqueueFollowers_10 a0 x3 x5 (x6 &&& (x6 - 1)) (x8 + 1) h1 else if 64 ≤ x5 then l_Ch_enqueueFollowers_10 a0 x3 x5 (x6 &&& (x6 - 1)) (x8 + 1) h1 else (ix_gr h1 a0 8 4).bind fun v5 => (ix_si h1 v5 v2 x3).bind fun h6 => (ix_gr h6 a0 8 3).bind fun v7 => (ix_gr h6 a0 8 2).bind fun v8 => (ix_ai h6 v8 v2).bind fun v9 => (ix_si h6 v7 x5 v9).bind fun h10 => l_Ch_enqueueFollowers_10 a0 x3 (x5 + 1) (x6 &&& (x6 - 1)) (x8 + 1) h10 := by
  unfold l_Ch_enqueueFollowers_10
  refine ix_K_px kq_Ch_enqueueFollowers i_Ch_enqueueFollowers_10 rfl rfl ?_
  refine ix_K_cb kq_Ch_enqueueFollowers i_Ch_enqueueFollowers_12 rfl kcb_64 ?_
  refine ix_K_ic_ge (tgt := 97) kq_Ch_enqueueFollowers i_Ch_enqueueFollowers_14 rfl (by decide) ?_ ?_
  · refine ix_K_px kq_Ch_enqueueFollowers i_Ch_enqueueFollowers_97 rfl rfl ?_
    exact ix_D_ret kq_Ch_enqueueFollowers i_Ch_enqueueFollowers_99 (ix_rtI rfl _)
  · refine ix_K_px kq_Ch_enqueueFollowers i_Ch_enqueueFollowers_17 rfl rfl ?_
    refine ix_K_cl kq_Ch_enqueueFollowers i_Ch_enqueueFollowers_19 rfl kcl_0 ?_
    refine ix_K_px kq_Ch_enqueueFollowers i_Ch_enqueueFollowers_20 rfl rfl ?_
    refine ix_K_lc_eq (tgt := 97) kq_Ch_enqueueFollowers i_Ch_enqueueFollowers_21 rfl (by decide) ?_ ?_
    · refine ix_K_px kq_Ch_enqueueFollowers i_Ch_enqueueFollowers_97 rfl rfl ?_
      exact ix_D_ret kq_Ch_enqueueFollowers i_Ch_enqueueFollowers_99 (ix_rtI rfl _)
    · refine ix_K_px kq_Ch_enqueueFollowers i_Ch_enqueueFollowers_24 rfl rfl ?_
      refine ix_K_callI (as := [.long x6]) (rest := []) kq_Ch_enqueueFollowers i_Ch_enqueueFollowers_26 rfl kq_RP_lowest (by decide) rfl (Or.inl rfl) (fun v2 h1 => ?_)
      refine ix_K_si (L2 := [some (.ref a0), none, none, some (.int x3), none, some (.int x5), some (.long x6), none, some (.int x8), some (.int v2)]) kq_Ch_enqueueFollowers i_Ch_enqueueFollowers_29 rfl (Or.inl rfl) (Nat.le_of_ble_eq_true rfl) rfl ?_
      refine ix_K_px kq_Ch_enqueueFollowers i_Ch_enqueueFollowers_31 rfl rfl ?_
      refine ix_K_px kq_Ch_enqueueFollowers i_Ch_enqueueFollowers_33 rfl rfl ?_
      refine ix_K_cl kq_Ch_enqueueFollowers i_Ch_enqueueFollowers_35 rfl kcl_1 ?_
      refine ix_K_px kq_Ch_enqueueFollowers i_Ch_enqueueFollowers_36 rfl rfl ?_
      refine ix_K_px kq_Ch_enqueueFollowers i_Ch_enqueueFollowers_37 rfl rfl ?_
      refine ix_K_sl (L2 := [some (.ref a0), none, none, some (.int x3), none, some (.int x5), some (.long (x6 &&& (x6 - 1))), none, some (.int x8), some (.int v2)]) kq_Ch_enqueueFollowers i_Ch_enqueueFollowers_38 rfl (Or.inl rfl) (Nat.le_of_ble_eq_true rfl) rfl ?_
      refine ix_K_px kq_Ch_enqueueFollowers i_Ch_enqueueFollowers_40 rfl rfl ?_
      refine ix_K_cb kq_Ch_enqueueFollowers i_Ch_enqueueFollowers_42 rfl kcb_64 ?_
      refine ix_K_ic_ge (tgt := 91) kq_Ch_enqueueFollowers i_Ch_enqueueFollowers_44 rfl (by decide) ?_ ?_
      · refine ix_K_inc (L2 := [some (.ref a0), none, none, some (.int x3), none, some (.int x5), some (.long (x6 &&& (x6 - 1))), none, some (.int (x8 + 1)), some (.int v2)]) kq_Ch_enqueueFollowers i_Ch_enqueueFollowers_91 rfl rfl (Nat.le_of_ble_eq_true rfl) kci_1 rfl ?_
        refine ix_K_goto (tgt := 10) kq_Ch_enqueueFollowers i_Ch_enqueueFollowers_94 rfl (by decide) ?_
        exact ix_D_cut i_Ch_enqueueFollowers_10 rfl
      · refine ix_K_px kq_Ch_enqueueFollowers i_Ch_enqueueFollowers_47 rfl rfl ?_
        refine ix_K_gr kq_Ch_enqueueFollowers i_Ch_enqueueFollowers_48 rfl (fun v3 => ?_)
        refine ix_K_px kq_Ch_enqueueFollowers i_Ch_enqueueFollowers_51 rfl rfl ?_
        refine ix_K_ai kq_Ch_enqueueFollowers i_Ch_enqueueFollowers_53 rfl (fun v4 => ?_)
        refine ix_K_cb kq_Ch_enqueueFollowers i_Ch_enqueueFollowers_54 rfl kcb_m6 ?_
        refine ix_K_ic_eq (tgt := 91) kq_Ch_enqueueFollowers i_Ch_enqueueFollowers_56 rfl (by decide) ?_ ?_
        · refine ix_K_inc (L2 := [some (.ref a0), none, none, some (.int x3), none, some (.int x5), some (.long (x6 &&& (x6 - 1))), none, some (.int (x8 + 1)), some (.int v2)]) kq_Ch_enqueueFollowers i_Ch_enqueueFollowers_91 rfl rfl (Nat.le_of_ble_eq_true rfl) kci_1 rfl ?_
          refine ix_K_goto (tgt := 10) kq_Ch_enqueueFollowers i_Ch_enqueueFollowers_94 rfl (by decide) ?_
          exact ix_D_cut i_Ch_enqueueFollowers_10 rfl
        · refine ix_K_px kq_Ch_enqueueFollowers i_Ch_enqueueFollowers_59 rfl rfl ?_
          refine ix_K_cb kq_Ch_enqueueFollowers i_Ch_enqueueFollowers_61 rfl kcb_64 ?_
          refine ix_K_ic_ge (tgt := 91) kq_Ch_enqueueFollowers i_Ch_enqueueFollowers_63 rfl (by decide) ?_ ?_
          · refine ix_K_inc (L2 := [some (.ref a0), none, none, some (.int x3), none, some (.int x5), some (.long (x6 &&& (x6 - 1))), none, some (.int (x8 + 1)), some (.int v2)]) kq_Ch_enqueueFollowers i_Ch_enqueueFollowers_91 rfl rfl (Nat.le_of_ble_eq_true rfl) kci_1 rfl ?_
            refine ix_K_goto (tgt := 10) kq_Ch_enqueueFollowers i_Ch_enqueueFollowers_94 rfl (by decide) ?_
            exact ix_D_cut i_Ch_enqueueFollowers_10 rfl
          · refine ix_K_px kq_Ch_enqueueFollowers i_Ch_enqueueFollowers_66 rfl rfl ?_
            refine ix_K_gr kq_Ch_enqueueFollowers i_Ch_enqueueFollowers_67 rfl (fun v5 => ?_)
            refine ix_K_px kq_Ch_enqueueFollowers i_Ch_enqueueFollowers_70 rfl rfl ?_
            refine ix_K_px kq_Ch_enqueueFollowers i_Ch_enqueueFollowers_72 rfl rfl ?_
            refine ix_K_ti kq_Ch_enqueueFollowers i_Ch_enqueueFollowers_73 rfl (fun h6 => ?_)
            refine ix_K_px kq_Ch_enqueueFollowers i_Ch_enqueueFollowers_74 rfl rfl ?_
            refine ix_K_gr kq_Ch_enqueueFollowers i_Ch_enqueueFollowers_75 rfl (fun v7 => ?_)
            refine ix_K_px kq_Ch_enqueueFollowers i_Ch_enqueueFollowers_78 rfl rfl ?_
            refine ix_K_px kq_Ch_enqueueFollowers i_Ch_enqueueFollowers_80 rfl rfl ?_
            refine ix_K_gr kq_Ch_enqueueFollowers i_Ch_enqueueFollowers_81 rfl (fun v8 => ?_)
            refine ix_K_px kq_Ch_enqueueFollowers i_Ch_enqueueFollowers_84 rfl rfl ?_
            refine ix_K_ai kq_Ch_enqueueFollowers i_Ch_enqueueFollowers_86 rfl (fun v9 => ?_)
            refine ix_K_ti kq_Ch_enqueueFollowers i_Ch_enqueueFollowers_87 rfl (fun h10 => ?_)
            refine ix_K_inc (L2 := [some (.ref a0), none, none, some (.int x3), none, some (.int (x5 + 1)), some (.long (x6 &&& (x6 - 1))), none, some (.int x8), some (.int v2)]) kq_Ch_enqueueFollowers i_Ch_enqueueFollowers_88 rfl rfl (Nat.le_of_ble_eq_true rfl) kci_1 rfl ?_
            refine ix_K_inc (L2 := [some (.ref a0), none, none, some (.int x3), none, some (.int (x5 + 1)), some (.long (x6 &&& (x6 - 1))), none, some (.int (x8 + 1)), some (.int v2)]) kq_Ch_enqueueFollowers i_Ch_enqueueFollowers_91 rfl rfl (Nat.le_of_ble_eq_true rfl) kci_1 rfl ?_
            refine ix_K_goto (tgt := 10) kq_Ch_enqueueFollowers i_Ch_enqueueFollowers_94 rfl (by decide) ?_
            exact ix_D_cut i_Ch_enqueueFollowers_10 rfl
set_option maxRecDepth 20000 in
set_option maxHeartbeats 1000000 in
theorem e_Ch_enqueueFollowers (a0 : Nat) (x1 : Int64) (x3 : Int32) (x4 : Int32) (h : ixH) : ix_D mCh_enqueueFollowers 0 [some (.ref a0), some (.long x1), none, some (.int x3), some (.int x4), none, none, none, none, none] [] h = l_Ch_enqueueFollowers_10 a0 x3 x4 x1 0 h := by
  refine ix_K_px kq_Ch_enqueueFollowers i_Ch_enqueueFollowers_0 rfl rfl ?_
  refine ix_K_si (L2 := [some (.ref a0), some (.long x1), none, some (.int x3), some (.int x4), some (.int x4), none, none, none, none]) kq_Ch_enqueueFollowers i_Ch_enqueueFollowers_2 rfl (Or.inl rfl) (Nat.le_of_ble_eq_true rfl) rfl ?_
  refine ix_K_px kq_Ch_enqueueFollowers i_Ch_enqueueFollowers_4 rfl rfl ?_
  refine ix_K_sl (L2 := [some (.ref a0), some (.long x1), none, some (.int x3), some (.int x4), some (.int x4), some (.long x1), none, none, none]) kq_Ch_enqueueFollowers i_Ch_enqueueFollowers_5 rfl (Or.inl rfl) (Nat.le_of_ble_eq_true rfl) rfl ?_
  refine ix_K_ci kq_Ch_enqueueFollowers i_Ch_enqueueFollowers_7 rfl kci_0 ?_
  refine ix_K_si (L2 := [some (.ref a0), some (.long x1), none, some (.int x3), some (.int x4), some (.int x4), some (.long x1), none, some (.int 0), none]) kq_Ch_enqueueFollowers i_Ch_enqueueFollowers_8 rfl (Or.inl rfl) (Nat.le_of_ble_eq_true rfl) rfl ?_
  exact ix_D_cut i_Ch_enqueueFollowers_10 rfl
theorem x_Ch_enqueueFollowers {a0 : Nat} {x1 : Int64} {x3 : Int32} {x4 : Int32} {h h1 : ixH} {v : Int32} (hr : ix_rc h a0 = some 8) (hd : ix_D mCh_enqueueFollowers 0 [some (.ref a0), some (.long x1), none, some (.int x3), some (.int x4), none, none, none, none, none] [] h = some ([.int v], h1)) : ix_M mCh_enqueueFollowers [.ref a0, .long x1, .int x3, .int x4] h = some ([.int v], h1) := ix_M_of (ix_ent_i kq_Ch_enqueueFollowers rfl hr rfl (Nat.le_of_ble_eq_true rfl) rfl) hd (ix_okrI (Or.inl rfl) v)
theorem i_Ch_lowestGroup_0 : ix_nx mCh_lowestGroup 0 = some (0, .lconst 0, 1, none, [], 0) := rfl
theorem i_Ch_lowestGroup_1 : ix_nx mCh_lowestGroup 1 = some (0, .lstore_n 1, 2, none, [], 0) := rfl
theorem i_Ch_lowestGroup_2 : ix_nx mCh_lowestGroup 2 = some (0, .lconst 0, 3, none, [], 0) := rfl
theorem i_Ch_lowestGroup_3 : ix_nx mCh_lowestGroup 3 = some (0, .lstore_n 3, 4, none, [], 0) := rfl
theorem i_Ch_lowestGroup_4 : ix_nx mCh_lowestGroup 4 = some (0, .iconst 0, 5, none, [], 0) := rfl
theorem i_Ch_lowestGroup_5 : ix_nx mCh_lowestGroup 5 = some (0, .istore 5, 7, none, [], 0) := rfl
theorem i_Ch_lowestGroup_7 : ix_nx mCh_lowestGroup 7 = some (0, .iconst 0, 8, none, [], 0) := rfl
theorem i_Ch_lowestGroup_8 : ix_nx mCh_lowestGroup 8 = some (0, .istore 6, 10, none, [], 0) := rfl
theorem i_Ch_lowestGroup_10 : ix_nx mCh_lowestGroup 10 = some (0, .iload 6, 12, some [true, true, false, true, false, true, true, false, false, false, false, false], [], 0) := rfl
theorem i_Ch_lowestGroup_12 : ix_nx mCh_lowestGroup 12 = some (0, .bipush 64, 14, none, [], 0) := rfl
theorem i_Ch_lowestGroup_14 : ix_nx mCh_lowestGroup 14 = some (0, .if_icmp .ge 60, 17, none, [], 0) := rfl
theorem i_Ch_lowestGroup_17 : ix_nx mCh_lowestGroup 17 = some (0, .aload_n 0, 18, none, [], 0) := rfl
theorem i_Ch_lowestGroup_18 : ix_nx mCh_lowestGroup 18 = some (1, .getfield 28, 21, none, [8, 5, 1, 69], 0) := rfl
theorem i_Ch_lowestGroup_21 : ix_nx mCh_lowestGroup 21 = some (0, .iload 6, 23, none, [], 0) := rfl
theorem i_Ch_lowestGroup_23 : ix_nx mCh_lowestGroup 23 = some (3, .invokestatic 39, 26, none, [3, 8, 132], 0) := rfl
theorem i_Ch_lowestGroup_26 : ix_nx mCh_lowestGroup 26 = some (0, .ifCond .eq 42, 29, none, [], 0) := rfl
theorem i_Ch_lowestGroup_29 : ix_nx mCh_lowestGroup 29 = some (0, .aload_n 0, 30, none, [], 0) := rfl
theorem i_Ch_lowestGroup_30 : ix_nx mCh_lowestGroup 30 = some (1, .getfield 15, 33, none, [8, 1, 2, 65], 0) := rfl
theorem i_Ch_lowestGroup_33 : ix_nx mCh_lowestGroup 33 = some (0, .iload 6, 35, none, [], 0) := rfl
theorem i_Ch_lowestGroup_35 : ix_nx mCh_lowestGroup 35 = some (1, .iaload, 36, none, [], 0) := rfl
theorem i_Ch_lowestGroup_36 : ix_nx mCh_lowestGroup 36 = some (0, .bipush (-6), 38, none, [], 0) := rfl
theorem i_Ch_lowestGroup_38 : ix_nx mCh_lowestGroup 38 = some (0, .if_icmp .ne 30, 41, none, [], 0) := rfl
theorem i_Ch_lowestGroup_41 : ix_nx mCh_lowestGroup 41 = some (0, .iload 5, 43, none, [], 0) := rfl
theorem i_Ch_lowestGroup_43 : ix_nx mCh_lowestGroup 43 = some (0, .bipush 64, 45, none, [], 0) := rfl
theorem i_Ch_lowestGroup_45 : ix_nx mCh_lowestGroup 45 = some (0, .if_icmp .ge 23, 48, none, [], 0) := rfl
theorem i_Ch_lowestGroup_48 : ix_nx mCh_lowestGroup 48 = some (0, .lload_n 1, 49, none, [], 0) := rfl
theorem i_Ch_lowestGroup_49 : ix_nx mCh_lowestGroup 49 = some (0, .iload 6, 51, none, [], 0) := rfl
theorem i_Ch_lowestGroup_51 : ix_nx mCh_lowestGroup 51 = some (3, .invokestatic 66, 54, none, [3, 1, 138], 0) := rfl
theorem i_Ch_lowestGroup_54 : ix_nx mCh_lowestGroup 54 = some (0, .lor, 55, none, [], 0) := rfl
theorem i_Ch_lowestGroup_55 : ix_nx mCh_lowestGroup 55 = some (0, .lstore_n 1, 56, none, [], 0) := rfl
theorem i_Ch_lowestGroup_56 : ix_nx mCh_lowestGroup 56 = some (0, .aload_n 0, 57, none, [], 0) := rfl
theorem i_Ch_lowestGroup_57 : ix_nx mCh_lowestGroup 57 = some (1, .getfield 22, 60, none, [8, 3, 2, 67], 0) := rfl
theorem i_Ch_lowestGroup_60 : ix_nx mCh_lowestGroup 60 = some (0, .iload 5, 62, none, [], 0) := rfl
theorem i_Ch_lowestGroup_62 : ix_nx mCh_lowestGroup 62 = some (0, .iload 6, 64, none, [], 0) := rfl
theorem i_Ch_lowestGroup_64 : ix_nx mCh_lowestGroup 64 = some (2, .iastore, 65, none, [], 0) := rfl
theorem i_Ch_lowestGroup_65 : ix_nx mCh_lowestGroup 65 = some (0, .iinc 5 1, 68, none, [], 0) := rfl
theorem i_Ch_lowestGroup_68 : ix_nx mCh_lowestGroup 68 = some (0, .iinc 6 1, 71, none, [], 0) := rfl
theorem i_Ch_lowestGroup_71 : ix_nx mCh_lowestGroup 71 = some (0, .goto (-61), 74, none, [], 0) := rfl
theorem i_Ch_lowestGroup_74 : ix_nx mCh_lowestGroup 74 = some (0, .iconst 0, 75, none, [], 0) := rfl
theorem i_Ch_lowestGroup_75 : ix_nx mCh_lowestGroup 75 = some (0, .istore 6, 77, none, [], 0) := rfl
theorem i_Ch_lowestGroup_77 : ix_nx mCh_lowestGroup 77 = some (0, .iload 6, 79, some [true, true, false, true, false, true, true, false, false, false, false, false], [], 0) := rfl
theorem i_Ch_lowestGroup_79 : ix_nx mCh_lowestGroup 79 = some (0, .iload 5, 81, none, [], 0) := rfl
theorem i_Ch_lowestGroup_81 : ix_nx mCh_lowestGroup 81 = some (0, .if_icmp .ge 105, 84, none, [], 0) := rfl
theorem i_Ch_lowestGroup_84 : ix_nx mCh_lowestGroup 84 = some (0, .iload 6, 86, none, [], 0) := rfl
theorem i_Ch_lowestGroup_86 : ix_nx mCh_lowestGroup 86 = some (0, .bipush 64, 88, none, [], 0) := rfl
theorem i_Ch_lowestGroup_88 : ix_nx mCh_lowestGroup 88 = some (0, .if_icmp .ge 98, 91, none, [], 0) := rfl
theorem i_Ch_lowestGroup_91 : ix_nx mCh_lowestGroup 91 = some (0, .aload_n 0, 92, none, [], 0) := rfl
theorem i_Ch_lowestGroup_92 : ix_nx mCh_lowestGroup 92 = some (1, .getfield 22, 95, none, [8, 3, 2, 67], 0) := rfl
theorem i_Ch_lowestGroup_95 : ix_nx mCh_lowestGroup 95 = some (0, .iload 6, 97, none, [], 0) := rfl
theorem i_Ch_lowestGroup_97 : ix_nx mCh_lowestGroup 97 = some (1, .iaload, 98, none, [], 0) := rfl
theorem i_Ch_lowestGroup_98 : ix_nx mCh_lowestGroup 98 = some (0, .istore 7, 100, none, [], 0) := rfl
theorem i_Ch_lowestGroup_100 : ix_nx mCh_lowestGroup 100 = some (0, .aload_n 0, 101, none, [], 0) := rfl
theorem i_Ch_lowestGroup_101 : ix_nx mCh_lowestGroup 101 = some (0, .iload 7, 103, none, [], 0) := rfl
theorem i_Ch_lowestGroup_103 : ix_nx mCh_lowestGroup 103 = some (3, .invokevirtual 73, 106, none, [0, 120, 139], 0) := rfl
theorem i_Ch_lowestGroup_106 : ix_nx mCh_lowestGroup 106 = some (0, .iload 7, 108, none, [], 0) := rfl
theorem i_Ch_lowestGroup_108 : ix_nx mCh_lowestGroup 108 = some (3, .invokestatic 66, 111, none, [3, 1, 138], 0) := rfl
theorem i_Ch_lowestGroup_111 : ix_nx mCh_lowestGroup 111 = some (0, .ldc2_w 80, 114, none, [6], -1) := rfl
theorem i_Ch_lowestGroup_114 : ix_nx mCh_lowestGroup 114 = some (0, .lxor, 115, none, [], 0) := rfl
theorem i_Ch_lowestGroup_115 : ix_nx mCh_lowestGroup 115 = some (0, .land, 116, none, [], 0) := rfl
theorem i_Ch_lowestGroup_116 : ix_nx mCh_lowestGroup 116 = some (0, .aload_n 0, 117, none, [], 0) := rfl
theorem i_Ch_lowestGroup_117 : ix_nx mCh_lowestGroup 117 = some (1, .getfield 28, 120, none, [8, 5, 1, 69], 0) := rfl
theorem i_Ch_lowestGroup_120 : ix_nx mCh_lowestGroup 120 = some (0, .land, 121, none, [], 0) := rfl
theorem i_Ch_lowestGroup_121 : ix_nx mCh_lowestGroup 121 = some (0, .lload_n 3, 122, none, [], 0) := rfl
theorem i_Ch_lowestGroup_122 : ix_nx mCh_lowestGroup 122 = some (0, .ldc2_w 80, 125, none, [6], -1) := rfl
theorem i_Ch_lowestGroup_125 : ix_nx mCh_lowestGroup 125 = some (0, .lxor, 126, none, [], 0) := rfl
theorem i_Ch_lowestGroup_126 : ix_nx mCh_lowestGroup 126 = some (0, .land, 127, none, [], 0) := rfl
theorem i_Ch_lowestGroup_127 : ix_nx mCh_lowestGroup 127 = some (0, .lstore 8, 129, none, [], 0) := rfl
theorem i_Ch_lowestGroup_129 : ix_nx mCh_lowestGroup 129 = some (0, .lload_n 3, 130, none, [], 0) := rfl
theorem i_Ch_lowestGroup_130 : ix_nx mCh_lowestGroup 130 = some (0, .lload 8, 132, none, [], 0) := rfl
theorem i_Ch_lowestGroup_132 : ix_nx mCh_lowestGroup 132 = some (0, .lor, 133, none, [], 0) := rfl
theorem i_Ch_lowestGroup_133 : ix_nx mCh_lowestGroup 133 = some (0, .lstore_n 3, 134, none, [], 0) := rfl
theorem i_Ch_lowestGroup_134 : ix_nx mCh_lowestGroup 134 = some (0, .aload_n 0, 135, none, [], 0) := rfl
theorem i_Ch_lowestGroup_135 : ix_nx mCh_lowestGroup 135 = some (0, .lload 8, 137, none, [], 0) := rfl
theorem i_Ch_lowestGroup_137 : ix_nx mCh_lowestGroup 137 = some (0, .iload 7, 139, none, [], 0) := rfl
theorem i_Ch_lowestGroup_139 : ix_nx mCh_lowestGroup 139 = some (0, .iload 5, 141, none, [], 0) := rfl
theorem i_Ch_lowestGroup_141 : ix_nx mCh_lowestGroup 141 = some (3, .invokevirtual 89, 144, none, [0, 125, 142], 0) := rfl
theorem i_Ch_lowestGroup_144 : ix_nx mCh_lowestGroup 144 = some (0, .istore 10, 146, none, [], 0) := rfl
theorem i_Ch_lowestGroup_146 : ix_nx mCh_lowestGroup 146 = some (0, .iload 5, 148, none, [], 0) := rfl
theorem i_Ch_lowestGroup_148 : ix_nx mCh_lowestGroup 148 = some (0, .istore 11, 150, none, [], 0) := rfl
theorem i_Ch_lowestGroup_150 : ix_nx mCh_lowestGroup 150 = some (0, .iload 11, 152, some [true, true, false, true, false, false, true, false, false, false, true, true], [], 0) := rfl
theorem i_Ch_lowestGroup_152 : ix_nx mCh_lowestGroup 152 = some (0, .iload 10, 154, none, [], 0) := rfl
set_option maxRecDepth 50000 in
theorem i_Ch_lowestGroup_154 : ix_nx mCh_lowestGroup 154 = some (0, .if_icmp .ge 22, 157, none, [], 0) := rfl
set_option maxRecDepth 50000 in
theorem i_Ch_lowestGroup_157 : ix_nx mCh_lowestGroup 157 = some (0, .lload_n 1, 158, none, [], 0) := rfl
set_option maxRecDepth 50000 in
theorem i_Ch_lowestGroup_158 : ix_nx mCh_lowestGroup 158 = some (0, .aload_n 0, 159, none, [], 0) := rfl
set_option maxRecDepth 50000 in
theorem i_Ch_lowestGroup_159 : ix_nx mCh_lowestGroup 159 = some (1, .getfield 22, 162, none, [8, 3, 2, 67], 0) := rfl
set_option maxRecDepth 50000 in
theorem i_Ch_lowestGroup_162 : ix_nx mCh_lowestGroup 162 = some (0, .iload 11, 164, none, [], 0) := rfl
set_option maxRecDepth 50000 in
theorem i_Ch_lowestGroup_164 : ix_nx mCh_lowestGroup 164 = some (1, .iaload, 165, none, [], 0) := rfl
set_option maxRecDepth 50000 in
theorem i_Ch_lowestGroup_165 : ix_nx mCh_lowestGroup 165 = some (3, .invokestatic 66, 168, none, [3, 1, 138], 0) := rfl
set_option maxRecDepth 50000 in
theorem i_Ch_lowestGroup_168 : ix_nx mCh_lowestGroup 168 = some (0, .lor, 169, none, [], 0) := rfl
set_option maxRecDepth 50000 in
theorem i_Ch_lowestGroup_169 : ix_nx mCh_lowestGroup 169 = some (0, .lstore_n 1, 170, none, [], 0) := rfl
set_option maxRecDepth 50000 in
theorem i_Ch_lowestGroup_170 : ix_nx mCh_lowestGroup 170 = some (0, .iinc 11 1, 173, none, [], 0) := rfl
set_option maxRecDepth 50000 in
theorem i_Ch_lowestGroup_173 : ix_nx mCh_lowestGroup 173 = some (0, .goto (-23), 176, none, [], 0) := rfl
set_option maxRecDepth 50000 in
theorem i_Ch_lowestGroup_176 : ix_nx mCh_lowestGroup 176 = some (0, .iload 10, 178, none, [], 0) := rfl
set_option maxRecDepth 50000 in
theorem i_Ch_lowestGroup_178 : ix_nx mCh_lowestGroup 178 = some (0, .istore 5, 180, none, [], 0) := rfl
set_option maxRecDepth 50000 in
theorem i_Ch_lowestGroup_180 : ix_nx mCh_lowestGroup 180 = some (0, .iinc 6 1, 183, none, [], 0) := rfl
set_option maxRecDepth 50000 in
theorem i_Ch_lowestGroup_183 : ix_nx mCh_lowestGroup 183 = some (0, .goto (-106), 186, none, [], 0) := rfl
set_option maxRecDepth 50000 in
theorem i_Ch_lowestGroup_186 : ix_nx mCh_lowestGroup 186 = some (0, .lload_n 1, 187, none, [], 0) := rfl
set_option maxRecDepth 50000 in
theorem i_Ch_lowestGroup_187 : ix_nx mCh_lowestGroup 187 = some (0, .lload_n 3, 188, none, [], 0) := rfl
set_option maxRecDepth 50000 in
theorem i_Ch_lowestGroup_188 : ix_nx mCh_lowestGroup 188 = some (0, .ldc2_w 80, 191, none, [6], -1) := rfl
set_option maxRecDepth 50000 in
theorem i_Ch_lowestGroup_191 : ix_nx mCh_lowestGroup 191 = some (0, .lxor, 192, none, [], 0) := rfl
set_option maxRecDepth 50000 in
theorem i_Ch_lowestGroup_192 : ix_nx mCh_lowestGroup 192 = some (0, .land, 193, none, [], 0) := rfl
set_option maxRecDepth 50000 in
theorem i_Ch_lowestGroup_193 : ix_nx mCh_lowestGroup 193 = some (4, .lreturn, 194, none, [], 0) := rfl
noncomputable def l_Ch_lowestGroup_10 (a0 : Nat) (x1 : Int64) (x3 : Int64) (x5 : Int32) (x6 : Int32) (h : ixH) : Option (List Value × ixH) := ix_D mCh_lowestGroup 10 [some (.ref a0), some (.long x1), none, some (.long x3), none, some (.int x5), some (.int x6), none, none, none, none, none] [] h
noncomputable def l_Ch_lowestGroup_77 (a0 : Nat) (x1 : Int64) (x3 : Int64) (x5 : Int32) (x6 : Int32) (h : ixH) : Option (List Value × ixH) := ix_D mCh_lowestGroup 77 [some (.ref a0), some (.long x1), none, some (.long x3), none, some (.int x5), some (.int x6), none, none, none, none, none] [] h
noncomputable def l_Ch_lowestGroup_150 (a0 : Nat) (x1 : Int64) (x3 : Int64) (x6 : Int32) (x10 : Int32) (x11 : Int32) (h : ixH) : Option (List Value × ixH) := ix_D mCh_lowestGroup 150 [some (.ref a0), some (.long x1), none, some (.long x3), none, none, some (.int x6), none, none, none, some (.int x10), some (.int x11)] [] h
set_option maxRecDepth 20000 in
set_option maxHeartbeats 1000000 in
theorem e_Ch_lowestGroup_10 (a0 : Nat) (x1 : Int64) (x3 : Int64) (x5 : Int32) (x6 : Int32) (h : ixH) : l_Ch_lowestGroup_10 a0 x1 x3 x5 x6 h = if 64 ≤ x6 then l_Ch_lowestGroup_77 a0 x1 x3 x5 0 h else (ix_gl h a0 8 5).bind fun v1 => (ix_M mRP_holds [.long v1, .int x6] h).bind fun r => ix_kZ r fun v3 h2 => if v3 = true then (ix_gr h2 a0 8 1).bind fun v4 => (ix_ai h2 v4 x6).bind fun v5 => if ¬ v5 = (-6) then l_Ch_lowestGroup_10 a0 x1 x3 x5 (x6 + 1) h2 else if 64 ≤ x5 then l_Ch_lowestGroup_10 a0 x1 x3 x5 (x6 + 1) h2 else (ix_M mRP_bit [.int x6] h2).bind fun r => ix_kL r fun v7 h6 => (ix_gr h6 a0 8 3).bind fun v8 => (ix_si h6 v8 x5 x6).bind fun h9 => l_Ch_lowestGroup_10 a0 (x1 ||| v7) x3 (x5 + 1) (x6 + 1) h9 else l_Ch_lowestGroup_10 a0 x1 x3 x5 (x6 + 1) h2 := by
  unfold l_Ch_lowestGroup_10
  refine ix_K_px kq_Ch_lowestGroup i_Ch_lowestGroup_10 rfl rfl ?_
  refine ix_K_cb kq_Ch_lowestGroup i_Ch_lowestGroup_12 rfl kcb_64 ?_
  refine ix_K_ic_ge (tgt := 74) kq_Ch_lowestGroup i_Ch_lowestGroup_14 rfl (by decide) ?_ ?_
  · refine ix_K_ci kq_Ch_lowestGroup i_Ch_lowestGroup_74 rfl kci_0 ?_
    refine ix_K_si (L2 := [some (.ref a0), some (.long x1), none, some (.long x3), none, some (.int x5), some (.int 0), none, none, none, none, none]) kq_Ch_lowestGroup i_Ch_lowestGroup_75 rfl (Or.inl rfl) (Nat.le_of_ble_eq_true rfl) rfl ?_
    exact ix_D_cut i_Ch_lowestGroup_77 rfl
  · refine ix_K_px kq_Ch_lowestGroup i_Ch_lowestGroup_17 rfl rfl ?_
    refine ix_K_gl kq_Ch_lowestGroup i_Ch_lowestGroup_18 rfl (fun v1 => ?_)
    refine ix_K_px kq_Ch_lowestGroup i_Ch_lowestGroup_21 rfl rfl ?_
    refine ix_K_callZ (as := [.long v1, .int x6]) (rest := []) kq_Ch_lowestGroup i_Ch_lowestGroup_23 rfl kq_RP_holds (by decide) rfl rfl (fun v3 h2 => ?_)
    refine ix_K_bz_eq (tgt := 68) kq_Ch_lowestGroup i_Ch_lowestGroup_26 rfl (by decide) ?_ ?_
    · refine ix_K_px kq_Ch_lowestGroup i_Ch_lowestGroup_29 rfl rfl ?_
      refine ix_K_gr kq_Ch_lowestGroup i_Ch_lowestGroup_30 rfl (fun v4 => ?_)
      refine ix_K_px kq_Ch_lowestGroup i_Ch_lowestGroup_33 rfl rfl ?_
      refine ix_K_ai kq_Ch_lowestGroup i_Ch_lowestGroup_35 rfl (fun v5 => ?_)
      refine ix_K_cb kq_Ch_lowestGroup i_Ch_lowestGroup_36 rfl kcb_m6 ?_
      refine ix_K_ic_ne (tgt := 68) kq_Ch_lowestGroup i_Ch_lowestGroup_38 rfl (by decide) ?_ ?_
      · refine ix_K_inc (L2 := [some (.ref a0), some (.long x1), none, some (.long x3), none, some (.int x5), some (.int (x6 + 1)), none, none, none, none, none]) kq_Ch_lowestGroup i_Ch_lowestGroup_68 rfl rfl (Nat.le_of_ble_eq_true rfl) kci_1 rfl ?_
        refine ix_K_goto (tgt := 10) kq_Ch_lowestGroup i_Ch_lowestGroup_71 rfl (by decide) ?_
        exact ix_D_cut i_Ch_lowestGroup_10 rfl
      · refine ix_K_px kq_Ch_lowestGroup i_Ch_lowestGroup_41 rfl rfl ?_
        refine ix_K_cb kq_Ch_lowestGroup i_Ch_lowestGroup_43 rfl kcb_64 ?_
        refine ix_K_ic_ge (tgt := 68) kq_Ch_lowestGroup i_Ch_lowestGroup_45 rfl (by decide) ?_ ?_
        · refine ix_K_inc (L2 := [some (.ref a0), some (.long x1), none, some (.long x3), none, some (.int x5), some (.int (x6 + 1)), none, none, none, none, none]) kq_Ch_lowestGroup i_Ch_lowestGroup_68 rfl rfl (Nat.le_of_ble_eq_true rfl) kci_1 rfl ?_
          refine ix_K_goto (tgt := 10) kq_Ch_lowestGroup i_Ch_lowestGroup_71 rfl (by decide) ?_
          exact ix_D_cut i_Ch_lowestGroup_10 rfl
        · refine ix_K_px kq_Ch_lowestGroup i_Ch_lowestGroup_48 rfl rfl ?_
          refine ix_K_px kq_Ch_lowestGroup i_Ch_lowestGroup_49 rfl rfl ?_
          refine ix_K_callL (as := [.int x6]) (rest := [.long x1]) kq_Ch_lowestGroup i_Ch_lowestGroup_51 rfl kq_RP_bit (by decide) rfl rfl (fun v7 h6 => ?_)
          refine ix_K_px kq_Ch_lowestGroup i_Ch_lowestGroup_54 rfl rfl ?_
          refine ix_K_sl (L2 := [some (.ref a0), some (.long (x1 ||| v7)), none, some (.long x3), none, some (.int x5), some (.int x6), none, none, none, none, none]) kq_Ch_lowestGroup i_Ch_lowestGroup_55 rfl (Or.inr ⟨_, rfl, rfl⟩) (Nat.le_of_ble_eq_true rfl) rfl ?_
          refine ix_K_px kq_Ch_lowestGroup i_Ch_lowestGroup_56 rfl rfl ?_
          refine ix_K_gr kq_Ch_lowestGroup i_Ch_lowestGroup_57 rfl (fun v8 => ?_)
          refine ix_K_px kq_Ch_lowestGroup i_Ch_lowestGroup_60 rfl rfl ?_
          refine ix_K_px kq_Ch_lowestGroup i_Ch_lowestGroup_62 rfl rfl ?_
          refine ix_K_ti kq_Ch_lowestGroup i_Ch_lowestGroup_64 rfl (fun h9 => ?_)
          refine ix_K_inc (L2 := [some (.ref a0), some (.long (x1 ||| v7)), none, some (.long x3), none, some (.int (x5 + 1)), some (.int x6), none, none, none, none, none]) kq_Ch_lowestGroup i_Ch_lowestGroup_65 rfl rfl (Nat.le_of_ble_eq_true rfl) kci_1 rfl ?_
          refine ix_K_inc (L2 := [some (.ref a0), some (.long (x1 ||| v7)), none, some (.long x3), none, some (.int (x5 + 1)), some (.int (x6 + 1)), none, none, none, none, none]) kq_Ch_lowestGroup i_Ch_lowestGroup_68 rfl rfl (Nat.le_of_ble_eq_true rfl) kci_1 rfl ?_
          refine ix_K_goto (tgt := 10) kq_Ch_lowestGroup i_Ch_lowestGroup_71 rfl (by decide) ?_
          exact ix_D_cut i_Ch_lowestGroup_10 rfl
    · refine ix_K_inc (L2 := [some (.ref a0), some (.long x1), none, some (.long x3), none, some (.int x5), some (.int (x6 + 1)), none, none, none, none, none]) kq_Ch_lowestGroup i_Ch_lowestGroup_68 rfl rfl (Nat.le_of_ble_eq_true rfl) kci_1 rfl ?_
      refine ix_K_goto (tgt := 10) kq_Ch_lowestGroup i_Ch_lowestGroup_71 rfl (by decide) ?_
      exact ix_D_cut i_Ch_lowestGroup_10 rfl
set_option maxRecDepth 20000 in
set_option maxHeartbeats 1000000 in
theorem e_Ch_lowestGroup_77 (a0 : Nat) (x1 : Int64) (x3 : Int64) (x5 : Int32) (x6 : Int32) (h : ixH) : l_Ch_lowestGroup_77 a0 x1 x3 x5 x6 h = if x5 ≤ x6 then some ([.long (x1 &&& (x3 ^^^ (-1)))], h) else if 64 ≤ x6 then some ([.long (x1 &&& (x3 ^^^ (-1)))], h) else (ix_gr h a0 8 3).bind fun v1 => (ix_ai h v1 x6).bind fun v2 => (ix_M mCh_aheadOf [.ref a0, .int v2] h).bind fun r => ix_kL r fun v4 h3 => (ix_M mRP_bit [.int v2] h3).bind fun r => ix_kL r fun v6 h5 => (ix_gl h5 a0 8 5).bind fun v7 => (ix_M mCh_enqueueFollowers [.ref a0, .long (((v4 &&& (v6 ^^^ (-1))) &&& v7) &&& (x3 ^^^ (-1))), .int v2, .int x5] h5).bind fun r => ix_kI r fun v9 h8 => l_Ch_lowestGroup_150 a0 x1 (x3 ||| (((v4 &&& (v6 ^^^ (-1))) &&& v7) &&& (x3 ^^^ (-1)))) x6 v9 x5 h8 := by
  unfold l_Ch_lowestGroup_77
  refine ix_K_px kq_Ch_lowestGroup i_Ch_lowestGroup_77 rfl rfl ?_
  refine ix_K_px kq_Ch_lowestGroup i_Ch_lowestGroup_79 rfl rfl ?_
  refine ix_K_ic_ge (tgt := 186) kq_Ch_lowestGroup i_Ch_lowestGroup_81 rfl (by decide) ?_ ?_
  · refine ix_K_px kq_Ch_lowestGroup i_Ch_lowestGroup_186 rfl rfl ?_
    refine ix_K_px kq_Ch_lowestGroup i_Ch_lowestGroup_187 rfl rfl ?_
    refine ix_K_c2 kq_Ch_lowestGroup i_Ch_lowestGroup_188 rfl kc2_m1 ?_
    refine ix_K_px kq_Ch_lowestGroup i_Ch_lowestGroup_191 rfl rfl ?_
    refine ix_K_px kq_Ch_lowestGroup i_Ch_lowestGroup_192 rfl rfl ?_
    exact ix_D_ret kq_Ch_lowestGroup i_Ch_lowestGroup_193 (ix_rtL rfl _)
  · refine ix_K_px kq_Ch_lowestGroup i_Ch_lowestGroup_84 rfl rfl ?_
    refine ix_K_cb kq_Ch_lowestGroup i_Ch_lowestGroup_86 rfl kcb_64 ?_
    refine ix_K_ic_ge (tgt := 186) kq_Ch_lowestGroup i_Ch_lowestGroup_88 rfl (by decide) ?_ ?_
    · refine ix_K_px kq_Ch_lowestGroup i_Ch_lowestGroup_186 rfl rfl ?_
      refine ix_K_px kq_Ch_lowestGroup i_Ch_lowestGroup_187 rfl rfl ?_
      refine ix_K_c2 kq_Ch_lowestGroup i_Ch_lowestGroup_188 rfl kc2_m1 ?_
      refine ix_K_px kq_Ch_lowestGroup i_Ch_lowestGroup_191 rfl rfl ?_
      refine ix_K_px kq_Ch_lowestGroup i_Ch_lowestGroup_192 rfl rfl ?_
      exact ix_D_ret kq_Ch_lowestGroup i_Ch_lowestGroup_193 (ix_rtL rfl _)
    · refine ix_K_px kq_Ch_lowestGroup i_Ch_lowestGroup_91 rfl rfl ?_
      refine ix_K_gr kq_Ch_lowestGroup i_Ch_lowestGroup_92 rfl (fun v1 => ?_)
      refine ix_K_px kq_Ch_lowestGroup i_Ch_lowestGroup_95 rfl rfl ?_
      refine ix_K_ai kq_Ch_lowestGroup i_Ch_lowestGroup_97 rfl (fun v2 => ?_)
      refine ix_K_si (L2 := [some (.ref a0), some (.long x1), none, some (.long x3), none, some (.int x5), some (.int x6), some (.int v2), none, none, none, none]) kq_Ch_lowestGroup i_Ch_lowestGroup_98 rfl (Or.inl rfl) (Nat.le_of_ble_eq_true rfl) rfl ?_
      refine ix_K_px kq_Ch_lowestGroup i_Ch_lowestGroup_100 rfl rfl ?_
      refine ix_K_px kq_Ch_lowestGroup i_Ch_lowestGroup_101 rfl rfl ?_
      refine ix_K_callL (as := [.ref a0, .int v2]) (rest := []) kq_Ch_lowestGroup i_Ch_lowestGroup_103 rfl kq_Ch_aheadOf (by decide) rfl rfl (fun v4 h3 => ?_)
      refine ix_K_px kq_Ch_lowestGroup i_Ch_lowestGroup_106 rfl rfl ?_
      refine ix_K_callL (as := [.int v2]) (rest := [.long v4]) kq_Ch_lowestGroup i_Ch_lowestGroup_108 rfl kq_RP_bit (by decide) rfl rfl (fun v6 h5 => ?_)
      refine ix_K_c2 kq_Ch_lowestGroup i_Ch_lowestGroup_111 rfl kc2_m1 ?_
      refine ix_K_px kq_Ch_lowestGroup i_Ch_lowestGroup_114 rfl rfl ?_
      refine ix_K_px kq_Ch_lowestGroup i_Ch_lowestGroup_115 rfl rfl ?_
      refine ix_K_px kq_Ch_lowestGroup i_Ch_lowestGroup_116 rfl rfl ?_
      refine ix_K_gl kq_Ch_lowestGroup i_Ch_lowestGroup_117 rfl (fun v7 => ?_)
      refine ix_K_px kq_Ch_lowestGroup i_Ch_lowestGroup_120 rfl rfl ?_
      refine ix_K_px kq_Ch_lowestGroup i_Ch_lowestGroup_121 rfl rfl ?_
      refine ix_K_c2 kq_Ch_lowestGroup i_Ch_lowestGroup_122 rfl kc2_m1 ?_
      refine ix_K_px kq_Ch_lowestGroup i_Ch_lowestGroup_125 rfl rfl ?_
      refine ix_K_px kq_Ch_lowestGroup i_Ch_lowestGroup_126 rfl rfl ?_
      refine ix_K_sl (L2 := [some (.ref a0), some (.long x1), none, some (.long x3), none, some (.int x5), some (.int x6), some (.int v2), some (.long (((v4 &&& (v6 ^^^ (-1))) &&& v7) &&& (x3 ^^^ (-1)))), none, none, none]) kq_Ch_lowestGroup i_Ch_lowestGroup_127 rfl (Or.inl rfl) (Nat.le_of_ble_eq_true rfl) rfl ?_
      refine ix_K_px kq_Ch_lowestGroup i_Ch_lowestGroup_129 rfl rfl ?_
      refine ix_K_px kq_Ch_lowestGroup i_Ch_lowestGroup_130 rfl rfl ?_
      refine ix_K_px kq_Ch_lowestGroup i_Ch_lowestGroup_132 rfl rfl ?_
      refine ix_K_sl (L2 := [some (.ref a0), some (.long x1), none, some (.long (x3 ||| (((v4 &&& (v6 ^^^ (-1))) &&& v7) &&& (x3 ^^^ (-1))))), none, some (.int x5), some (.int x6), some (.int v2), some (.long (((v4 &&& (v6 ^^^ (-1))) &&& v7) &&& (x3 ^^^ (-1)))), none, none, none]) kq_Ch_lowestGroup i_Ch_lowestGroup_133 rfl (Or.inr ⟨_, rfl, rfl⟩) (Nat.le_of_ble_eq_true rfl) rfl ?_
      refine ix_K_px kq_Ch_lowestGroup i_Ch_lowestGroup_134 rfl rfl ?_
      refine ix_K_px kq_Ch_lowestGroup i_Ch_lowestGroup_135 rfl rfl ?_
      refine ix_K_px kq_Ch_lowestGroup i_Ch_lowestGroup_137 rfl rfl ?_
      refine ix_K_px kq_Ch_lowestGroup i_Ch_lowestGroup_139 rfl rfl ?_
      refine ix_K_callI (as := [.ref a0, .long (((v4 &&& (v6 ^^^ (-1))) &&& v7) &&& (x3 ^^^ (-1))), .int v2, .int x5]) (rest := []) kq_Ch_lowestGroup i_Ch_lowestGroup_141 rfl kq_Ch_enqueueFollowers (by decide) rfl (Or.inl rfl) (fun v9 h8 => ?_)
      refine ix_K_si (L2 := [some (.ref a0), some (.long x1), none, some (.long (x3 ||| (((v4 &&& (v6 ^^^ (-1))) &&& v7) &&& (x3 ^^^ (-1))))), none, some (.int x5), some (.int x6), some (.int v2), some (.long (((v4 &&& (v6 ^^^ (-1))) &&& v7) &&& (x3 ^^^ (-1)))), none, some (.int v9), none]) kq_Ch_lowestGroup i_Ch_lowestGroup_144 rfl (Or.inl rfl) (Nat.le_of_ble_eq_true rfl) rfl ?_
      refine ix_K_px kq_Ch_lowestGroup i_Ch_lowestGroup_146 rfl rfl ?_
      refine ix_K_si (L2 := [some (.ref a0), some (.long x1), none, some (.long (x3 ||| (((v4 &&& (v6 ^^^ (-1))) &&& v7) &&& (x3 ^^^ (-1))))), none, some (.int x5), some (.int x6), some (.int v2), some (.long (((v4 &&& (v6 ^^^ (-1))) &&& v7) &&& (x3 ^^^ (-1)))), none, some (.int v9), some (.int x5)]) kq_Ch_lowestGroup i_Ch_lowestGroup_148 rfl (Or.inl rfl) (Nat.le_of_ble_eq_true rfl) rfl ?_
      exact ix_D_cut i_Ch_lowestGroup_150 rfl
set_option maxRecDepth 20000 in
set_option maxHeartbeats 1000000 in
theorem e_Ch_lowestGroup_150 (a0 : Nat) (x1 : Int64) (x3 : Int64) (x6 : Int32) (x10 : Int32) (x11 : Int32) (h : ixH) : l_Ch_lowestGroup_150 a0 x1 x3 x6 x10 x11 h = if x10 ≤ x11 then l_Ch_lowestGroup_77 a0 x1 x3 x10 (x6 + 1) h else (ix_gr h a0 8 3).bind fun v1 => (ix_ai h v1 x11).bind fun v2 => (ix_M mRP_bit [.int v2] h).bind fun r => ix_kL r fun v4 h3 => l_Ch_lowestGroup_150 a0 (x1 ||| v4) x3 x6 x10 (x11 + 1) h3 := by
  unfold l_Ch_lowestGroup_150
  refine ix_K_px kq_Ch_lowestGroup i_Ch_lowestGroup_150 rfl rfl ?_
  refine ix_K_px kq_Ch_lowestGroup i_Ch_lowestGroup_152 rfl rfl ?_
  refine ix_K_ic_ge (tgt := 176) kq_Ch_lowestGroup i_Ch_lowestGroup_154 rfl (by decide) ?_ ?_
  · refine ix_K_px kq_Ch_lowestGroup i_Ch_lowestGroup_176 rfl rfl ?_
    refine ix_K_si (L2 := [some (.ref a0), some (.long x1), none, some (.long x3), none, some (.int x10), some (.int x6), none, none, none, some (.int x10), some (.int x11)]) kq_Ch_lowestGroup i_Ch_lowestGroup_178 rfl (Or.inl rfl) (Nat.le_of_ble_eq_true rfl) rfl ?_
    refine ix_K_inc (L2 := [some (.ref a0), some (.long x1), none, some (.long x3), none, some (.int x10), some (.int (x6 + 1)), none, none, none, some (.int x10), some (.int x11)]) kq_Ch_lowestGroup i_Ch_lowestGroup_180 rfl rfl (Nat.le_of_ble_eq_true rfl) kci_1 rfl ?_
    refine ix_K_goto (tgt := 77) kq_Ch_lowestGroup i_Ch_lowestGroup_183 rfl (by decide) ?_
    exact ix_D_cut i_Ch_lowestGroup_77 rfl
  · refine ix_K_px kq_Ch_lowestGroup i_Ch_lowestGroup_157 rfl rfl ?_
    refine ix_K_px kq_Ch_lowestGroup i_Ch_lowestGroup_158 rfl rfl ?_
    refine ix_K_gr kq_Ch_lowestGroup i_Ch_lowestGroup_159 rfl (fun v1 => ?_)
    refine ix_K_px kq_Ch_lowestGroup i_Ch_lowestGroup_162 rfl rfl ?_
    refine ix_K_ai kq_Ch_lowestGroup i_Ch_lowestGroup_164 rfl (fun v2 => ?_)
    refine ix_K_callL (as := [.int v2]) (rest := [.long x1]) kq_Ch_lowestGroup i_Ch_lowestGroup_165 rfl kq_RP_bit (by decide) rfl rfl (fun v4 h3 => ?_)
    refine ix_K_px kq_Ch_lowestGroup i_Ch_lowestGroup_168 rfl rfl ?_
    refine ix_K_sl (L2 := [some (.ref a0), some (.long (x1 ||| v4)), none, some (.long x3), none, none, some (.int x6), none, none, none, some (.int x10), some (.int x11)]) kq_Ch_lowestGroup i_Ch_lowestGroup_169 rfl (Or.inr ⟨_, rfl, rfl⟩) (Nat.le_of_ble_eq_true rfl) rfl ?_
    refine ix_K_inc (L2 := [some (.ref a0), some (.long (x1 ||| v4)), none, some (.long x3), none, none, some (.int x6), none, none, none, some (.int x10), some (.int (x11 + 1))]) kq_Ch_lowestGroup i_Ch_lowestGroup_170 rfl rfl (Nat.le_of_ble_eq_true rfl) kci_1 rfl ?_
    refine ix_K_goto (tgt := 150) kq_Ch_lowestGroup i_Ch_lowestGroup_173 rfl (by decide) ?_
    exact ix_D_cut i_Ch_lowestGroup_150 rfl
set_option maxRecDepth 20000 in
set_option maxHeartbeats 1000000 in
theorem e_Ch_lowestGroup (a0 : Nat) (h : ixH) : ix_D mCh_lowestGroup 0 [some (.ref a0), none, none, none, none, none, none, none, none, none, none, none] [] h = l_Ch_lowestGroup_10 a0 0 0 0 0 h := by
  refine ix_K_cl kq_Ch_lowestGroup i_Ch_lowestGroup_0 rfl kcl_0 ?_
  refine ix_K_sl (L2 := [some (.ref a0), some (.long 0), none, none, none, none, none, none, none, none, none, none]) kq_Ch_lowestGroup i_Ch_lowestGroup_1 rfl (Or.inr ⟨_, rfl, rfl⟩) (Nat.le_of_ble_eq_true rfl) rfl ?_
  refine ix_K_cl kq_Ch_lowestGroup i_Ch_lowestGroup_2 rfl kcl_0 ?_
  refine ix_K_sl (L2 := [some (.ref a0), some (.long 0), none, some (.long 0), none, none, none, none, none, none, none, none]) kq_Ch_lowestGroup i_Ch_lowestGroup_3 rfl (Or.inr ⟨_, rfl, rfl⟩) (Nat.le_of_ble_eq_true rfl) rfl ?_
  refine ix_K_ci kq_Ch_lowestGroup i_Ch_lowestGroup_4 rfl kci_0 ?_
  refine ix_K_si (L2 := [some (.ref a0), some (.long 0), none, some (.long 0), none, some (.int 0), none, none, none, none, none, none]) kq_Ch_lowestGroup i_Ch_lowestGroup_5 rfl (Or.inl rfl) (Nat.le_of_ble_eq_true rfl) rfl ?_
  refine ix_K_ci kq_Ch_lowestGroup i_Ch_lowestGroup_7 rfl kci_0 ?_
  refine ix_K_si (L2 := [some (.ref a0), some (.long 0), none, some (.long 0), none, some (.int 0), some (.int 0), none, none, none, none, none]) kq_Ch_lowestGroup i_Ch_lowestGroup_8 rfl (Or.inl rfl) (Nat.le_of_ble_eq_true rfl) rfl ?_
  exact ix_D_cut i_Ch_lowestGroup_10 rfl
theorem x_Ch_lowestGroup {a0 : Nat} {h h1 : ixH} {v : Int64} (hr : ix_rc h a0 = some 8) (hd : ix_D mCh_lowestGroup 0 [some (.ref a0), none, none, none, none, none, none, none, none, none, none, none] [] h = some ([.long v], h1)) : ix_M mCh_lowestGroup [.ref a0] h = some ([.long v], h1) := ix_M_of (ix_ent_i kq_Ch_lowestGroup rfl hr rfl (Nat.le_of_ble_eq_true rfl) rfl) hd (ix_okrL rfl v)
